/-! words of the tables, by their places -/
def isNest (w : Cond) : Bool := match w with
  | .methodLinkNest _ _ _ _ => true
  | .fieldLinkNest _ _ _ _ _ _ => true
  | _ => false
def tblA : List Cond := lw_tbl.filter (fun w => goodWord w || isNest w)
def tblG : List Cond := lw_tbl.filter goodWord
theorem tA {w : Cond} (h : w ∈ lw_tbl) (h2 : (goodWord w || isNest w) = true) : w ∈ tblA := List.mem_filter.mpr ⟨h, h2⟩
theorem mMathI : Cond.initialized "java/lang/Math" ∈ tblA := tA (List.mem_of_getElem? (i := 65) (by decide +kernel)) rfl
theorem mMaxS : Cond.static Lib.Math.max.name ∈ tblA := tA (List.mem_of_getElem? (i := 401) (by decide +kernel)) rfl
theorem mMaxC : Cond.code Lib.Math.max.name Lib.Math.max.code 2 (some .int) ∈ tblA := tA (List.mem_of_getElem? (i := 402) (by decide +kernel)) rfl
theorem mMinS : Cond.static Lib.Math.min.name ∈ tblA := tA (List.mem_of_getElem? (i := 194) (by decide +kernel)) rfl
theorem mMinC : Cond.code Lib.Math.min.name Lib.Math.min.code 2 (some .int) ∈ tblA := tA (List.mem_of_getElem? (i := 195) (by decide +kernel)) rfl
theorem mMaxLS : Cond.static Lib.MathLoose.max_long.x ∈ tblA := tA (List.mem_of_getElem? (i := 593) (by decide +kernel)) rfl
theorem mMaxLC : Cond.code Lib.MathLoose.max_long.x Lib.MathLoose.max_long.code 4 (some .long) ∈ tblA := tA (List.mem_of_getElem? (i := 594) (by decide +kernel)) rfl
theorem mMinLS : Cond.static Lib.MathLoose.min_long.x ∈ tblA := tA (List.mem_of_getElem? (i := 596) (by decide +kernel)) rfl
theorem mMinLC : Cond.code Lib.MathLoose.min_long.x Lib.MathLoose.min_long.code 4 (some .long) ∈ tblA := tA (List.mem_of_getElem? (i := 597) (by decide +kernel)) rfl
theorem mAcN : Cond.native arraycopyName ∈ tblA := tA (List.mem_of_getElem? (i := 198) (by decide +kernel)) rfl
theorem mAcS : Cond.static arraycopyName ∈ tblA := tA (List.mem_of_getElem? (i := 197) (by decide +kernel)) rfl
theorem mSysI : Cond.initialized "java/lang/System" ∈ tblA := tA (List.mem_of_getElem? (i := 66) (by decide +kernel)) rfl
theorem mf_X0_15 : Cond.fieldLink RX0 15 RX0 (TX0 4).2.1 (TX0 4).2.2.1 ∈ tblA := tA (List.mem_of_getElem? (i := 132) (by decide +kernel)) rfl
theorem mf_X0_18 : Cond.fieldLink RX0 18 RX0 (TX0 5).2.1 (TX0 5).2.2.1 ∈ tblA := tA (List.mem_of_getElem? (i := 133) (by decide +kernel)) rfl
theorem mf_X0_21 : Cond.fieldLink RX0 21 RX0 (TX0 6).2.1 (TX0 6).2.2.1 ∈ tblA := tA (List.mem_of_getElem? (i := 134) (by decide +kernel)) rfl
theorem mf_X0_24 : Cond.fieldLink RX0 24 RX0 (TX0 7).2.1 (TX0 7).2.2.1 ∈ tblA := tA (List.mem_of_getElem? (i := 135) (by decide +kernel)) rfl
theorem mf_X0_27 : Cond.fieldLink RX0 27 RX0 (TX0 8).2.1 (TX0 8).2.2.1 ∈ tblA := tA (List.mem_of_getElem? (i := 136) (by decide +kernel)) rfl
theorem mf_X0_30 : Cond.fieldLink RX0 30 RX0 (TX0 10).2.1 (TX0 10).2.2.1 ∈ tblA := tA (List.mem_of_getElem? (i := 138) (by decide +kernel)) rfl
theorem mf_X0_33 : Cond.fieldLink RX0 33 RX0 (TX0 11).2.1 (TX0 11).2.2.1 ∈ tblA := tA (List.mem_of_getElem? (i := 140) (by decide +kernel)) rfl
theorem mf_X0_36 : Cond.fieldLink RX0 36 RX0 (TX0 0).2.1 (TX0 0).2.2.1 ∈ tblA := tA (List.mem_of_getElem? (i := 127) (by decide +kernel)) rfl
theorem mf_X0_40 : Cond.fieldLink RX0 40 RX0 (TX0 1).2.1 (TX0 1).2.2.1 ∈ tblA := tA (List.mem_of_getElem? (i := 129) (by decide +kernel)) rfl
theorem mf_X0_44 : Cond.fieldLink RX0 44 RX0 (TX0 2).2.1 (TX0 2).2.2.1 ∈ tblA := tA (List.mem_of_getElem? (i := 130) (by decide +kernel)) rfl
theorem mf_X0_53 : Cond.fieldLink RX0 53 RX0 (TX0 9).2.1 (TX0 9).2.2.1 ∈ tblA := tA (List.mem_of_getElem? (i := 137) (by decide +kernel)) rfl
theorem mf_X0_62 : Cond.fieldLink RX0 62 RX0 (TX0 14).2.1 (TX0 14).2.2.1 ∈ tblA := tA (List.mem_of_getElem? (i := 146) (by decide +kernel)) rfl
theorem mf_X0_65 : Cond.fieldLink RX0 65 RX0 (TX0 15).2.1 (TX0 15).2.2.1 ∈ tblA := tA (List.mem_of_getElem? (i := 147) (by decide +kernel)) rfl
theorem mf_X0_68 : Cond.fieldLink RX0 68 RX0 (TX0 16).2.1 (TX0 16).2.2.1 ∈ tblA := tA (List.mem_of_getElem? (i := 148) (by decide +kernel)) rfl
theorem mf_X0_71 : Cond.fieldLink RX0 71 RX0 (TX0 17).2.1 (TX0 17).2.2.1 ∈ tblA := tA (List.mem_of_getElem? (i := 149) (by decide +kernel)) rfl
theorem mf_X0_9 : Cond.fieldLink RX0 9 RX0 (TX0 3).2.1 (TX0 3).2.2.1 ∈ tblA := tA (List.mem_of_getElem? (i := 131) (by decide +kernel)) rfl
theorem mf_X0_90 : Cond.fieldLink RX0 90 RX0 (TX0 12).2.1 (TX0 12).2.2.1 ∈ tblA := tA (List.mem_of_getElem? (i := 142) (by decide +kernel)) rfl
theorem mf_X0_97 : Cond.fieldLink RX0 97 RX0 (TX0 13).2.1 (TX0 13).2.2.1 ∈ tblA := tA (List.mem_of_getElem? (i := 145) (by decide +kernel)) rfl
theorem mf_X1_13 : Cond.fieldLink RX1 13 RX1 (TX1 0).2.1 (TX1 0).2.2.1 ∈ tblA := tA (List.mem_of_getElem? (i := 289) (by decide +kernel)) rfl
theorem mf_X1_18 : Cond.fieldLink RX1 18 RX1 (TX1 1).2.1 (TX1 1).2.2.1 ∈ tblA := tA (List.mem_of_getElem? (i := 290) (by decide +kernel)) rfl
theorem mf_X1_26 : Cond.fieldLink RX1 26 RX1 (TX1 2).2.1 (TX1 2).2.2.1 ∈ tblA := tA (List.mem_of_getElem? (i := 291) (by decide +kernel)) rfl
theorem mf_X2_27 : Cond.fieldLink RX2 27 RX2 (TX2 1).2.1 (TX2 1).2.2.1 ∈ tblA := tA (List.mem_of_getElem? (i := 95) (by decide +kernel)) rfl
theorem mf_X2_9 : Cond.fieldLink RX2 9 RX2 (TX2 0).2.1 (TX2 0).2.2.1 ∈ tblA := tA (List.mem_of_getElem? (i := 91) (by decide +kernel)) rfl
theorem mf_X3_15 : Cond.fieldLink RX3 15 RX3 (TX3 1).2.1 (TX3 1).2.2.1 ∈ tblA := tA (List.mem_of_getElem? (i := 110) (by decide +kernel)) rfl
theorem mf_X3_22 : Cond.fieldLink RX3 22 RX3 (TX3 2).2.1 (TX3 2).2.2.1 ∈ tblA := tA (List.mem_of_getElem? (i := 111) (by decide +kernel)) rfl
theorem mf_X3_9 : Cond.fieldLink RX3 9 RX3 (TX3 0).2.1 (TX3 0).2.2.1 ∈ tblA := tA (List.mem_of_getElem? (i := 109) (by decide +kernel)) rfl
theorem mf_X4_114 : Cond.fieldLink RX4 114 RX4 (TX4 9).2.1 (TX4 9).2.2.1 ∈ tblA := tA (List.mem_of_getElem? (i := 236) (by decide +kernel)) rfl
theorem mf_X4_12 : Cond.fieldLink RX4 12 RX4 (TX4 0).2.1 (TX4 0).2.2.1 ∈ tblA := tA (List.mem_of_getElem? (i := 219) (by decide +kernel)) rfl
theorem mf_X4_141 : Cond.fieldLink RX4 141 RX4 (TX4 10).2.1 (TX4 10).2.2.1 ∈ tblA := tA (List.mem_of_getElem? (i := 237) (by decide +kernel)) rfl
theorem mf_X4_144 : Cond.fieldLink RX4 144 RX3 (TX3 2).2.1 (TX3 2).2.2.1 ∈ tblA := tA (List.mem_of_getElem? (i := 112) (by decide +kernel)) rfl
theorem mf_X4_145 : Cond.fieldLink RX4 145 RX0 (TX0 0).2.1 (TX0 0).2.2.1 ∈ tblA := tA (List.mem_of_getElem? (i := 128) (by decide +kernel)) rfl
theorem mf_X4_161 : Cond.fieldLink RX4 161 RX2 (TX2 0).2.1 (TX2 0).2.2.1 ∈ tblA := tA (List.mem_of_getElem? (i := 92) (by decide +kernel)) rfl
theorem mf_X4_191 : Cond.fieldLink RX4 191 RX0 (TX0 12).2.1 (TX0 12).2.2.1 ∈ tblA := tA (List.mem_of_getElem? (i := 143) (by decide +kernel)) rfl
theorem mf_X4_204 : Cond.fieldLink RX4 204 RX0 (TX0 17).2.1 (TX0 17).2.2.1 ∈ tblA := tA (List.mem_of_getElem? (i := 150) (by decide +kernel)) rfl
theorem mf_X4_21 : Cond.fieldLink RX4 21 RX4 (TX4 1).2.1 (TX4 1).2.2.1 ∈ tblA := tA (List.mem_of_getElem? (i := 221) (by decide +kernel)) rfl
theorem mf_X4_27 : Cond.fieldLink RX4 27 RX4 (TX4 2).2.1 (TX4 2).2.2.1 ∈ tblA := tA (List.mem_of_getElem? (i := 223) (by decide +kernel)) rfl
theorem mf_X4_31 : Cond.fieldLink RX4 31 RX4 (TX4 4).2.1 (TX4 4).2.2.1 ∈ tblA := tA (List.mem_of_getElem? (i := 226) (by decide +kernel)) rfl
theorem mf_X4_35 : Cond.fieldLink RX4 35 RX4 (TX4 5).2.1 (TX4 5).2.2.1 ∈ tblA := tA (List.mem_of_getElem? (i := 228) (by decide +kernel)) rfl
theorem mf_X4_38 : Cond.fieldLink RX4 38 RX4 (TX4 6).2.1 (TX4 6).2.2.1 ∈ tblA := tA (List.mem_of_getElem? (i := 230) (by decide +kernel)) rfl
theorem mf_X4_41 : Cond.fieldLink RX4 41 RX4 (TX4 7).2.1 (TX4 7).2.2.1 ∈ tblA := tA (List.mem_of_getElem? (i := 232) (by decide +kernel)) rfl
theorem mf_X4_44 : Cond.fieldLink RX4 44 RX4 (TX4 8).2.1 (TX4 8).2.2.1 ∈ tblA := tA (List.mem_of_getElem? (i := 234) (by decide +kernel)) rfl
theorem mf_X4_48 : Cond.fieldLink RX4 48 RX4 (TX4 16).2.1 (TX4 16).2.2.1 ∈ tblA := tA (List.mem_of_getElem? (i := 244) (by decide +kernel)) rfl
theorem mf_X4_65 : Cond.fieldLink RX4 65 RX2 (TX2 1).2.1 (TX2 1).2.2.1 ∈ tblA := tA (List.mem_of_getElem? (i := 94) (by decide +kernel)) rfl
theorem mf_X4_72 : Cond.fieldLink RX4 72 RX4 (TX4 3).2.1 (TX4 3).2.2.1 ∈ tblA := tA (List.mem_of_getElem? (i := 225) (by decide +kernel)) rfl
theorem mf_X4_86 : Cond.fieldLink RX4 86 RX4 (TX4 11).2.1 (TX4 11).2.2.1 ∈ tblA := tA (List.mem_of_getElem? (i := 238) (by decide +kernel)) rfl
theorem mf_X4_90 : Cond.fieldLink RX4 90 RX4 (TX4 12).2.1 (TX4 12).2.2.1 ∈ tblA := tA (List.mem_of_getElem? (i := 239) (by decide +kernel)) rfl
theorem mf_X4_93 : Cond.fieldLink RX4 93 RX4 (TX4 13).2.1 (TX4 13).2.2.1 ∈ tblA := tA (List.mem_of_getElem? (i := 240) (by decide +kernel)) rfl
theorem mf_X4_96 : Cond.fieldLink RX4 96 RX4 (TX4 14).2.1 (TX4 14).2.2.1 ∈ tblA := tA (List.mem_of_getElem? (i := 241) (by decide +kernel)) rfl
theorem mf_X4_99 : Cond.fieldLink RX4 99 RX4 (TX4 15).2.1 (TX4 15).2.2.1 ∈ tblA := tA (List.mem_of_getElem? (i := 243) (by decide +kernel)) rfl
theorem mf_X5_19 : Cond.fieldLink RX5 19 RX5 (TX5 1).2.1 (TX5 1).2.2.1 ∈ tblA := tA (List.mem_of_getElem? (i := 307) (by decide +kernel)) rfl
theorem mf_X5_23 : Cond.fieldLink RX5 23 RX5 (TX5 2).2.1 (TX5 2).2.2.1 ∈ tblA := tA (List.mem_of_getElem? (i := 309) (by decide +kernel)) rfl
theorem mf_X5_37 : Cond.fieldLink RX5 37 RX5 (TX5 3).2.1 (TX5 3).2.2.1 ∈ tblA := tA (List.mem_of_getElem? (i := 310) (by decide +kernel)) rfl
theorem mf_X5_54 : Cond.fieldLink RX5 54 RX5 (TX5 4).2.1 (TX5 4).2.2.1 ∈ tblA := tA (List.mem_of_getElem? (i := 312) (by decide +kernel)) rfl
theorem mf_X5_57 : Cond.fieldLink RX5 57 RX5 (TX5 5).2.1 (TX5 5).2.2.1 ∈ tblA := tA (List.mem_of_getElem? (i := 313) (by decide +kernel)) rfl
theorem mf_X5_60 : Cond.fieldLink RX5 60 RX5 (TX5 6).2.1 (TX5 6).2.2.1 ∈ tblA := tA (List.mem_of_getElem? (i := 315) (by decide +kernel)) rfl
theorem mf_X5_9 : Cond.fieldLink RX5 9 RX5 (TX5 0).2.1 (TX5 0).2.2.1 ∈ tblA := tA (List.mem_of_getElem? (i := 306) (by decide +kernel)) rfl
theorem mf_X6_10 : Cond.fieldLink RX6 10 RX6 (TX6 0).2.1 (TX6 0).2.2.1 ∈ tblA := tA (List.mem_of_getElem? (i := 333) (by decide +kernel)) rfl
theorem mf_X6_115 : Cond.fieldLink RX6 115 RX5 (TX5 3).2.1 (TX5 3).2.2.1 ∈ tblA := tA (List.mem_of_getElem? (i := 311) (by decide +kernel)) rfl
theorem mf_X6_118 : Cond.fieldLink RX6 118 RX5 (TX5 5).2.1 (TX5 5).2.2.1 ∈ tblA := tA (List.mem_of_getElem? (i := 314) (by decide +kernel)) rfl
theorem mf_X6_121 : Cond.fieldLink RX6 121 RX5 (TX5 6).2.1 (TX5 6).2.2.1 ∈ tblA := tA (List.mem_of_getElem? (i := 316) (by decide +kernel)) rfl
theorem mf_X6_134 : Cond.fieldLink RX6 134 RX4 (TX4 8).2.1 (TX4 8).2.2.1 ∈ tblA := tA (List.mem_of_getElem? (i := 235) (by decide +kernel)) rfl
theorem mf_X6_144 : Cond.fieldLink RX6 144 RX4 (TX4 0).2.1 (TX4 0).2.2.1 ∈ tblA := tA (List.mem_of_getElem? (i := 220) (by decide +kernel)) rfl
theorem mf_X6_148 : Cond.fieldLink RX6 148 RX2 (TX2 0).2.1 (TX2 0).2.2.1 ∈ tblA := tA (List.mem_of_getElem? (i := 93) (by decide +kernel)) rfl
theorem mf_X6_16 : Cond.fieldLink RX6 16 RX6 (TX6 1).2.1 (TX6 1).2.2.1 ∈ tblA := tA (List.mem_of_getElem? (i := 334) (by decide +kernel)) rfl
theorem mf_X6_161 : Cond.fieldLink RX6 161 RX4 (TX4 1).2.1 (TX4 1).2.2.1 ∈ tblA := tA (List.mem_of_getElem? (i := 222) (by decide +kernel)) rfl
theorem mf_X6_179 : Cond.fieldLink RX6 179 RX0 (TX0 10).2.1 (TX0 10).2.2.1 ∈ tblA := tA (List.mem_of_getElem? (i := 139) (by decide +kernel)) rfl
theorem mf_X6_182 : Cond.fieldLink RX6 182 RX0 (TX0 11).2.1 (TX0 11).2.2.1 ∈ tblA := tA (List.mem_of_getElem? (i := 141) (by decide +kernel)) rfl
theorem mf_X6_185 : Cond.fieldLink RX6 185 RX4 (TX4 5).2.1 (TX4 5).2.2.1 ∈ tblA := tA (List.mem_of_getElem? (i := 229) (by decide +kernel)) rfl
theorem mf_X6_188 : Cond.fieldLink RX6 188 RX4 (TX4 6).2.1 (TX4 6).2.2.1 ∈ tblA := tA (List.mem_of_getElem? (i := 231) (by decide +kernel)) rfl
theorem mf_X6_191 : Cond.fieldLink RX6 191 RX4 (TX4 7).2.1 (TX4 7).2.2.1 ∈ tblA := tA (List.mem_of_getElem? (i := 233) (by decide +kernel)) rfl
theorem mf_X6_194 : Cond.fieldLink RX6 194 RX2 (TX2 1).2.1 (TX2 1).2.2.1 ∈ tblA := tA (List.mem_of_getElem? (i := 96) (by decide +kernel)) rfl
theorem mf_X6_200 : Cond.fieldLink RX6 200 RX4 (TX4 4).2.1 (TX4 4).2.2.1 ∈ tblA := tA (List.mem_of_getElem? (i := 227) (by decide +kernel)) rfl
theorem mf_X6_203 : Cond.fieldLink RX6 203 RX1 (TX1 2).2.1 (TX1 2).2.2.1 ∈ tblA := tA (List.mem_of_getElem? (i := 292) (by decide +kernel)) rfl
theorem mf_X6_219 : Cond.fieldLink RX6 219 RX4 (TX4 14).2.1 (TX4 14).2.2.1 ∈ tblA := tA (List.mem_of_getElem? (i := 242) (by decide +kernel)) rfl
theorem mf_X6_22 : Cond.fieldLink RX6 22 RX6 (TX6 2).2.1 (TX6 2).2.2.1 ∈ tblA := tA (List.mem_of_getElem? (i := 335) (by decide +kernel)) rfl
theorem mf_X6_222 : Cond.fieldLink RX6 222 RX0 (TX0 12).2.1 (TX0 12).2.2.1 ∈ tblA := tA (List.mem_of_getElem? (i := 144) (by decide +kernel)) rfl
theorem mf_X6_26 : Cond.fieldLink RX6 26 RX6 (TX6 3).2.1 (TX6 3).2.2.1 ∈ tblA := tA (List.mem_of_getElem? (i := 336) (by decide +kernel)) rfl
theorem mf_X6_30 : Cond.fieldLink RX6 30 RX6 (TX6 4).2.1 (TX6 4).2.2.1 ∈ tblA := tA (List.mem_of_getElem? (i := 337) (by decide +kernel)) rfl
theorem mf_X6_37 : Cond.fieldLink RX6 37 RX6 (TX6 5).2.1 (TX6 5).2.2.1 ∈ tblA := tA (List.mem_of_getElem? (i := 338) (by decide +kernel)) rfl
theorem mf_X6_65 : Cond.fieldLink RX6 65 RX4 (TX4 2).2.1 (TX4 2).2.2.1 ∈ tblA := tA (List.mem_of_getElem? (i := 224) (by decide +kernel)) rfl
theorem mf_X6_98 : Cond.fieldLink RX6 98 RX5 (TX5 1).2.1 (TX5 1).2.2.1 ∈ tblA := tA (List.mem_of_getElem? (i := 308) (by decide +kernel)) rfl
theorem mf_X7_13 : Cond.fieldLink RX7 13 RX7 (TX7 2).2.1 (TX7 2).2.2.1 ∈ tblA := tA (List.mem_of_getElem? (i := 815) (by decide +kernel)) rfl
theorem mf_X7_140 : Cond.fieldLink RX7 140 RX7 (TX7 4).2.1 (TX7 4).2.2.1 ∈ tblA := tA (List.mem_of_getElem? (i := 817) (by decide +kernel)) rfl
theorem mf_X7_143 : Cond.fieldLink RX7 143 RX7 (TX7 6).2.1 (TX7 6).2.2.1 ∈ tblA := tA (List.mem_of_getElem? (i := 819) (by decide +kernel)) rfl
theorem mf_X7_149 : Cond.fieldLink RX7 149 RX7 (TX7 7).2.1 (TX7 7).2.2.1 ∈ tblA := tA (List.mem_of_getElem? (i := 820) (by decide +kernel)) rfl
theorem mf_X7_17 : Cond.fieldLink RX7 17 RX7 (TX7 3).2.1 (TX7 3).2.2.1 ∈ tblA := tA (List.mem_of_getElem? (i := 816) (by decide +kernel)) rfl
theorem mf_X7_20 : Cond.fieldLink RX7 20 RX7 (TX7 5).2.1 (TX7 5).2.2.1 ∈ tblA := tA (List.mem_of_getElem? (i := 818) (by decide +kernel)) rfl
theorem mf_X7_29 : Cond.fieldLink RX7 29 RX7 (TX7 1).2.1 (TX7 1).2.2.1 ∈ tblA := tA (List.mem_of_getElem? (i := 814) (by decide +kernel)) rfl
theorem mf_X7_7 : Cond.fieldLink RX7 7 RX7 (TX7 0).2.1 (TX7 0).2.2.1 ∈ tblA := tA (List.mem_of_getElem? (i := 813) (by decide +kernel)) rfl
theorem mk_X0_82 : Cond.constant RX0 82 (50000) ∈ tblA := tA (List.mem_of_getElem? (i := 467) (by decide +kernel)) rfl
theorem mk_X0_87 : Cond.constant RX0 87 (200000) ∈ tblA := tA (List.mem_of_getElem? (i := 480) (by decide +kernel)) rfl
theorem mk_X0_88 : Cond.constantLong RX0 88 (1000) ∈ tblA := tA (List.mem_of_getElem? (i := 533) (by decide +kernel)) rfl
theorem mk_X4_121 : Cond.constant RX4 121 (50000) ∈ tblA := tA (List.mem_of_getElem? (i := 429) (by decide +kernel)) rfl
theorem mk_X4_126 : Cond.constant RX4 126 (200000) ∈ tblA := tA (List.mem_of_getElem? (i := 446) (by decide +kernel)) rfl
theorem mk_X4_225 : Cond.constantLong RX4 225 (100000) ∈ tblA := tA (List.mem_of_getElem? (i := 602) (by decide +kernel)) rfl
theorem mk_X4_227 : Cond.constantLong RX4 227 (1000) ∈ tblA := tA (List.mem_of_getElem? (i := 590) (by decide +kernel)) rfl
theorem mk_X4_229 : Cond.constantLong RX4 229 (2) ∈ tblA := tA (List.mem_of_getElem? (i := 591) (by decide +kernel)) rfl
theorem mk_X6_239 : Cond.constantLong RX6 239 (1000) ∈ tblA := tA (List.mem_of_getElem? (i := 537) (by decide +kernel)) rfl
theorem mk_X7_115 : Cond.constantLong RX7 115 (2) ∈ tblA := tA (List.mem_of_getElem? (i := 964) (by decide +kernel)) rfl
theorem mk_X7_120 : Cond.constantLong RX7 120 (100) ∈ tblA := tA (List.mem_of_getElem? (i := 969) (by decide +kernel)) rfl
theorem mk_X7_122 : Cond.constantLong RX7 122 (100000) ∈ tblA := tA (List.mem_of_getElem? (i := 970) (by decide +kernel)) rfl
theorem mk_X7_56 : Cond.constant RX7 56 (50000) ∈ tblA := tA (List.mem_of_getElem? (i := 864) (by decide +kernel)) rfl
theorem mk_X7_57 : Cond.constant RX7 57 (200000) ∈ tblA := tA (List.mem_of_getElem? (i := 869) (by decide +kernel)) rfl
theorem mk_X7_89 : Cond.constantLong RX7 89 (1000) ∈ tblA := tA (List.mem_of_getElem? (i := 936) (by decide +kernel)) rfl
theorem ml_L_100 : Cond.methodLink RL 100 yX7_gain ∈ tblA := tA (List.mem_of_getElem? (i := 1051) (by decide +kernel)) rfl
theorem ml_L_101 : Cond.methodLink RL 101 yX6_limit ∈ tblA := tA (List.mem_of_getElem? (i := 718) (by decide +kernel)) rfl
theorem ml_L_104 : Cond.methodLink RL 104 yX7_limit ∈ tblA := tA (List.mem_of_getElem? (i := 1055) (by decide +kernel)) rfl
theorem ml_L_105 : Cond.methodLink RL 105 yX6_channel ∈ tblA := tA (List.mem_of_getElem? (i := 723) (by decide +kernel)) rfl
theorem ml_L_108 : Cond.methodLink RL 108 yX7_channel ∈ tblA := tA (List.mem_of_getElem? (i := 1059) (by decide +kernel)) rfl
theorem ml_L_109 : Cond.methodLink RL 109 yX6_level ∈ tblA := tA (List.mem_of_getElem? (i := 731) (by decide +kernel)) rfl
theorem ml_L_112 : Cond.methodLink RL 112 yX7_level ∈ tblA := tA (List.mem_of_getElem? (i := 1063) (by decide +kernel)) rfl
theorem ml_L_113 : Cond.methodLink RL 113 yX6_averaged ∈ tblA := tA (List.mem_of_getElem? (i := 735) (by decide +kernel)) rfl
theorem ml_L_116 : Cond.methodLink RL 116 yX7_averaged ∈ tblA := tA (List.mem_of_getElem? (i := 1067) (by decide +kernel)) rfl
theorem ml_L_117 : Cond.methodLink RL 117 yX6_controlGain ∈ tblA := tA (List.mem_of_getElem? (i := 739) (by decide +kernel)) rfl
theorem ml_L_120 : Cond.methodLink RL 120 yX7_controlGain ∈ tblA := tA (List.mem_of_getElem? (i := 1071) (by decide +kernel)) rfl
theorem ml_L_121 : Cond.methodLink RL 121 yX6_driveAt ∈ tblA := tA (List.mem_of_getElem? (i := 743) (by decide +kernel)) rfl
theorem ml_L_124 : Cond.methodLink RL 124 yX7_driveAt ∈ tblA := tA (List.mem_of_getElem? (i := 1075) (by decide +kernel)) rfl
theorem ml_L_125 : Cond.methodLink RL 125 yX6_notchedBy ∈ tblA := tA (List.mem_of_getElem? (i := 747) (by decide +kernel)) rfl
theorem ml_L_128 : Cond.methodLink RL 128 yX7_notchedBy ∈ tblA := tA (List.mem_of_getElem? (i := 1079) (by decide +kernel)) rfl
theorem ml_L_129 : Cond.methodLink RL 129 yX6_resonance ∈ tblA := tA (List.mem_of_getElem? (i := 751) (by decide +kernel)) rfl
theorem ml_L_13 : Cond.methodLink RL 13 yX6_setLines ∈ tblA := tA (List.mem_of_getElem? (i := 352) (by decide +kernel)) rfl
theorem ml_L_132 : Cond.methodLink RL 132 yX7_resonance ∈ tblA := tA (List.mem_of_getElem? (i := 1083) (by decide +kernel)) rfl
theorem ml_L_133 : Cond.methodLink RL 133 yX6_total ∈ tblA := tA (List.mem_of_getElem? (i := 771) (by decide +kernel)) rfl
theorem ml_L_136 : Cond.methodLink RL 136 yX7_total ∈ tblA := tA (List.mem_of_getElem? (i := 1095) (by decide +kernel)) rfl
theorem ml_L_137 : Cond.methodLink RL 137 yX6_loopsLeft ∈ tblA := tA (List.mem_of_getElem? (i := 779) (by decide +kernel)) rfl
theorem ml_L_140 : Cond.methodLink RL 140 yX7_loopsLeft ∈ tblA := tA (List.mem_of_getElem? (i := 1099) (by decide +kernel)) rfl
theorem ml_L_141 : Cond.methodLink RL 141 yX6_wouldAbort ∈ tblA := tA (List.mem_of_getElem? (i := 785) (by decide +kernel)) rfl
theorem ml_L_144 : Cond.methodLink RL 144 yX7_wouldAbort ∈ tblA := tA (List.mem_of_getElem? (i := 1111) (by decide +kernel)) rfl
theorem ml_L_145 : Cond.methodLink RL 145 yX6_highest ∈ tblA := tA (List.mem_of_getElem? (i := 790) (by decide +kernel)) rfl
theorem ml_L_148 : Cond.methodLink RL 148 yX7_highest ∈ tblA := tA (List.mem_of_getElem? (i := 1115) (by decide +kernel)) rfl
theorem ml_L_17 : Cond.methodLink RL 17 yX7_setLines ∈ tblA := tA (List.mem_of_getElem? (i := 838) (by decide +kernel)) rfl
theorem ml_L_18 : Cond.methodLink RL 18 yX6_setPoint ∈ tblA := tA (List.mem_of_getElem? (i := 417) (by decide +kernel)) rfl
theorem ml_L_22 : Cond.methodLink RL 22 yX7_setPoint ∈ tblA := tA (List.mem_of_getElem? (i := 860) (by decide +kernel)) rfl
theorem ml_L_23 : Cond.methodLink RL 23 yX6_addChannel ∈ tblA := tA (List.mem_of_getElem? (i := 438) (by decide +kernel)) rfl
theorem ml_L_27 : Cond.methodLink RL 27 yX7_addChannel ∈ tblA := tA (List.mem_of_getElem? (i := 865) (by decide +kernel)) rfl
theorem ml_L_28 : Cond.methodLink RL 28 yX6_setMode ∈ tblA := tA (List.mem_of_getElem? (i := 453) (by decide +kernel)) rfl
theorem ml_L_32 : Cond.methodLink RL 32 yX7_setMode ∈ tblA := tA (List.mem_of_getElem? (i := 870) (by decide +kernel)) rfl
theorem ml_L_33 : Cond.methodLink RL 33 yX6_addNotch ∈ tblA := tA (List.mem_of_getElem? (i := 472) (by decide +kernel)) rfl
theorem ml_L_37 : Cond.methodLink RL 37 yX7_addNotch ∈ tblA := tA (List.mem_of_getElem? (i := 886) (by decide +kernel)) rfl
theorem ml_L_38 : Cond.methodLink RL 38 yX6_set ∈ tblA := tA (List.mem_of_getElem? (i := 481) (by decide +kernel)) rfl
theorem ml_L_41 : Cond.methodLink RL 41 yX7_set ∈ tblA := tA (List.mem_of_getElem? (i := 890) (by decide +kernel)) rfl
theorem ml_L_42 : Cond.methodLink RL 42 yX6_start ∈ tblA := tA (List.mem_of_getElem? (i := 493) (by decide +kernel)) rfl
theorem ml_L_46 : Cond.methodLink RL 46 yX7_start ∈ tblA := tA (List.mem_of_getElem? (i := 908) (by decide +kernel)) rfl
theorem ml_L_47 : Cond.methodLink RL 47 yX6_step ∈ tblA := tA (List.mem_of_getElem? (i := 505) (by decide +kernel)) rfl
theorem ml_L_50 : Cond.methodLink RL 50 yX7_step ∈ tblA := tA (List.mem_of_getElem? (i := 920) (by decide +kernel)) rfl
theorem ml_L_51 : Cond.methodLink RL 51 yX6_hold ∈ tblA := tA (List.mem_of_getElem? (i := 603) (by decide +kernel)) rfl
theorem ml_L_55 : Cond.methodLink RL 55 yX7_hold ∈ tblA := tA (List.mem_of_getElem? (i := 971) (by decide +kernel)) rfl
theorem ml_L_56 : Cond.methodLink RL 56 yX6_abort ∈ tblA := tA (List.mem_of_getElem? (i := 611) (by decide +kernel)) rfl
theorem ml_L_60 : Cond.methodLink RL 60 yX7_abort ∈ tblA := tA (List.mem_of_getElem? (i := 979) (by decide +kernel)) rfl
theorem ml_L_61 : Cond.methodLink RL 61 yX6_append ∈ tblA := tA (List.mem_of_getElem? (i := 619) (by decide +kernel)) rfl
theorem ml_L_64 : Cond.methodLink RL 64 yX7_append ∈ tblA := tA (List.mem_of_getElem? (i := 991) (by decide +kernel)) rfl
theorem ml_L_65 : Cond.methodLink RL 65 yX6_clearText ∈ tblA := tA (List.mem_of_getElem? (i := 628) (by decide +kernel)) rfl
theorem ml_L_68 : Cond.methodLink RL 68 yX7_clearText ∈ tblA := tA (List.mem_of_getElem? (i := 995) (by decide +kernel)) rfl
theorem ml_L_69 : Cond.methodLink RL 69 yX6_faultPosition ∈ tblA := tA (List.mem_of_getElem? (i := 632) (by decide +kernel)) rfl
theorem ml_L_72 : Cond.methodLink RL 72 yX7_faultPosition ∈ tblA := tA (List.mem_of_getElem? (i := 999) (by decide +kernel)) rfl
theorem ml_L_73 : Cond.methodLink RL 73 yX6_run ∈ tblA := tA (List.mem_of_getElem? (i := 668) (by decide +kernel)) rfl
theorem ml_L_76 : Cond.methodLink RL 76 yX7_run ∈ tblA := tA (List.mem_of_getElem? (i := 1022) (by decide +kernel)) rfl
theorem ml_L_77 : Cond.methodLink RL 77 yX6_undo ∈ tblA := tA (List.mem_of_getElem? (i := 678) (by decide +kernel)) rfl
theorem ml_L_80 : Cond.methodLink RL 80 yX7_undo ∈ tblA := tA (List.mem_of_getElem? (i := 1031) (by decide +kernel)) rfl
theorem ml_L_81 : Cond.methodLink RL 81 yX6_save ∈ tblA := tA (List.mem_of_getElem? (i := 686) (by decide +kernel)) rfl
theorem ml_L_84 : Cond.methodLink RL 84 yX7_save ∈ tblA := tA (List.mem_of_getElem? (i := 1035) (by decide +kernel)) rfl
theorem ml_L_85 : Cond.methodLink RL 85 yX6_restore ∈ tblA := tA (List.mem_of_getElem? (i := 694) (by decide +kernel)) rfl
theorem ml_L_88 : Cond.methodLink RL 88 yX7_restore ∈ tblA := tA (List.mem_of_getElem? (i := 1039) (by decide +kernel)) rfl
theorem ml_L_89 : Cond.methodLink RL 89 yX6_frequency ∈ tblA := tA (List.mem_of_getElem? (i := 698) (by decide +kernel)) rfl
theorem ml_L_92 : Cond.methodLink RL 92 yX7_frequency ∈ tblA := tA (List.mem_of_getElem? (i := 1043) (by decide +kernel)) rfl
theorem ml_L_93 : Cond.methodLink RL 93 yX6_target ∈ tblA := tA (List.mem_of_getElem? (i := 707) (by decide +kernel)) rfl
theorem ml_L_96 : Cond.methodLink RL 96 yX7_target ∈ tblA := tA (List.mem_of_getElem? (i := 1047) (by decide +kernel)) rfl
theorem ml_L_97 : Cond.methodLink RL 97 yX6_gain ∈ tblA := tA (List.mem_of_getElem? (i := 713) (by decide +kernel)) rfl
theorem ml_X0_104 : Cond.methodLink RX0 104 yX0_limitAt ∈ tblA := tA (List.mem_of_getElem? (i := 557) (by decide +kernel)) rfl
theorem ml_X0_107 : Cond.methodLink RX0 107 Lib.Math.max.name ∈ tblA := tA (List.mem_of_getElem? (i := 561) (by decide +kernel)) rfl
theorem ml_X0_112 : Cond.methodLink RX0 112 yX0_isResonance ∈ tblA := tA (List.mem_of_getElem? (i := 759) (by decide +kernel)) rfl
theorem ml_X0_116 : Cond.methodLink RX0 116 yX0_resonancesAhead ∈ tblA := tA (List.mem_of_getElem? (i := 767) (by decide +kernel)) rfl
theorem ml_X0_119 : Cond.methodLink RX0 119 yX0_gainOfLine ∈ tblA := tA (List.mem_of_getElem? (i := 763) (by decide +kernel)) rfl
theorem ml_X0_47 : Cond.methodLink RX0 47 yJ7_fill_53178 ∈ tblA := tA (List.mem_of_getElem? (i := 207) (by decide +kernel)) rfl
theorem ml_X0_56 : Cond.methodLink RX0 56 yX0_forgetRun ∈ tblA := tA (List.mem_of_getElem? (i := 451) (by decide +kernel)) rfl
theorem ml_X0_59 : Cond.methodLink RX0 59 yX0_forgetGains ∈ tblA := tA (List.mem_of_getElem? (i := 452) (by decide +kernel)) rfl
theorem ml_X0_83 : Cond.methodLink RX0 83 yX0_gainAt ∈ tblA := tA (List.mem_of_getElem? (i := 468) (by decide +kernel)) rfl
theorem ml_X1_22 : Cond.methodLink RX1 22 yX4_copyFrom ∈ tblA := tA (List.mem_of_getElem? (i := 360) (by decide +kernel)) rfl
theorem ml_X1_29 : Cond.methodLink RX1 29 Lib.Math.min.name ∈ tblA := tA (List.mem_of_getElem? (i := 416) (by decide +kernel)) rfl
theorem ml_X2_15 : Cond.methodLink RX2 15 yX2_above ∈ tblA := tA (List.mem_of_getElem? (i := 397) (by decide +kernel)) rfl
theorem ml_X2_19 : Cond.methodLink RX2 19 Lib.Math.max.name ∈ tblA := tA (List.mem_of_getElem? (i := 400) (by decide +kernel)) rfl
theorem ml_X2_24 : Cond.methodLink RX2 24 Lib.Math.min.name ∈ tblA := tA (List.mem_of_getElem? (i := 407) (by decide +kernel)) rfl
theorem ml_X3_18 : Cond.methodLink RX3 18 yX3_placeOf ∈ tblA := tA (List.mem_of_getElem? (i := 434) (by decide +kernel)) rfl
theorem ml_X3_26 : Cond.methodLink RX3 26 yX3_between ∈ tblA := tA (List.mem_of_getElem? (i := 582) (by decide +kernel)) rfl
theorem ml_X4_102 : Cond.methodLink RX4 102 yX0_forgetGains ∈ tblA := tA (List.mem_of_getElem? (i := 215) (by decide +kernel)) rfl
theorem ml_X4_103 : Cond.methodLink RX4 103 yX4_rests ∈ tblA := tA (List.mem_of_getElem? (i := 386) (by decide +kernel)) rfl
theorem ml_X4_106 : Cond.methodLink RX4 106 yX2_countOf ∈ tblA := tA (List.mem_of_getElem? (i := 394) (by decide +kernel)) rfl
theorem ml_X4_110 : Cond.methodLink RX4 110 yX2_lay ∈ tblA := tA (List.mem_of_getElem? (i := 403) (by decide +kernel)) rfl
theorem ml_X4_122 : Cond.methodLink RX4 122 yX3_put ∈ tblA := tA (List.mem_of_getElem? (i := 430) (by decide +kernel)) rfl
theorem ml_X4_127 : Cond.methodLink RX4 127 yX0_become ∈ tblA := tA (List.mem_of_getElem? (i := 447) (by decide +kernel)) rfl
theorem ml_X4_137 : Cond.methodLink RX4 137 yX4_reasonToRefuse ∈ tblA := tA (List.mem_of_getElem? (i := 501) (by decide +kernel)) rfl
theorem ml_X4_148 : Cond.methodLink RX4 148 yX4_beginAbort ∈ tblA := tA (List.mem_of_getElem? (i := 562) (by decide +kernel)) rfl
theorem ml_X4_152 : Cond.methodLink RX4 152 yX4_doLoop ∈ tblA := tA (List.mem_of_getElem? (i := 513) (by decide +kernel)) rfl
theorem ml_X4_155 : Cond.methodLink RX4 155 yX4_rampDown ∈ tblA := tA (List.mem_of_getElem? (i := 517) (by decide +kernel)) rfl
theorem ml_X4_158 : Cond.methodLink RX4 158 yX4_hasLine ∈ tblA := tA (List.mem_of_getElem? (i := 521) (by decide +kernel)) rfl
theorem ml_X4_164 : Cond.methodLink RX4 164 yX4_measureLevels ∈ tblA := tA (List.mem_of_getElem? (i := 525) (by decide +kernel)) rfl
theorem ml_X4_168 : Cond.methodLink RX4 168 yX4_countLoop ∈ tblA := tA (List.mem_of_getElem? (i := 549) (by decide +kernel)) rfl
theorem ml_X4_171 : Cond.methodLink RX4 171 yX4_nextLine ∈ tblA := tA (List.mem_of_getElem? (i := 566) (by decide +kernel)) rfl
theorem ml_X4_174 : Cond.methodLink RX4 174 yX4_goTo ∈ tblA := tA (List.mem_of_getElem? (i := 574) (by decide +kernel)) rfl
theorem ml_X4_178 : Cond.methodLink RX4 178 yX0_measure ∈ tblA := tA (List.mem_of_getElem? (i := 529) (by decide +kernel)) rfl
theorem ml_X4_182 : Cond.methodLink RX4 182 yX4_controlLevel ∈ tblA := tA (List.mem_of_getElem? (i := 541) (by decide +kernel)) rfl
theorem ml_X4_194 : Cond.methodLink RX4 194 Lib.Math.max.name ∈ tblA := tA (List.mem_of_getElem? (i := 545) (by decide +kernel)) rfl
theorem ml_X4_199 : Cond.methodLink RX4 199 Lib.Math.min.name ∈ tblA := tA (List.mem_of_getElem? (i := 546) (by decide +kernel)) rfl
theorem ml_X4_202 : Cond.methodLink RX4 202 yX0_countLoop ∈ tblA := tA (List.mem_of_getElem? (i := 553) (by decide +kernel)) rfl
theorem ml_X4_207 : Cond.methodLink RX4 207 yX4_lineAhead ∈ tblA := tA (List.mem_of_getElem? (i := 570) (by decide +kernel)) rfl
theorem ml_X4_210 : Cond.methodLink RX4 210 yX3_targetAt ∈ tblA := tA (List.mem_of_getElem? (i := 578) (by decide +kernel)) rfl
theorem ml_X4_213 : Cond.methodLink RX4 213 yX4_wantedDrive ∈ tblA := tA (List.mem_of_getElem? (i := 586) (by decide +kernel)) rfl
theorem ml_X4_217 : Cond.methodLink RX4 217 Lib.MathLoose.max_long.x ∈ tblA := tA (List.mem_of_getElem? (i := 592) (by decide +kernel)) rfl
theorem ml_X4_220 : Cond.methodLink RX4 220 Lib.MathLoose.min_long.x ∈ tblA := tA (List.mem_of_getElem? (i := 595) (by decide +kernel)) rfl
theorem ml_X4_222 : Cond.methodLink RX4 222 yX0_notchedDrive ∈ tblA := tA (List.mem_of_getElem? (i := 598) (by decide +kernel)) rfl
theorem ml_X4_231 : Cond.methodLink RX4 231 yX2_copyFrom ∈ tblA := tA (List.mem_of_getElem? (i := 364) (by decide +kernel)) rfl
theorem ml_X4_235 : Cond.methodLink RX4 235 yX3_copyFrom ∈ tblA := tA (List.mem_of_getElem? (i := 369) (by decide +kernel)) rfl
theorem ml_X4_238 : Cond.methodLink RX4 238 yX0_copyFrom ∈ tblA := tA (List.mem_of_getElem? (i := 374) (by decide +kernel)) rfl
theorem ml_X4_59 : Cond.methodLink RX4 59 yX4_forgetRun ∈ tblA := tA (List.mem_of_getElem? (i := 199) (by decide +kernel)) rfl
theorem ml_X4_62 : Cond.methodLink RX4 62 yX4_forgetGains ∈ tblA := tA (List.mem_of_getElem? (i := 211) (by decide +kernel)) rfl
theorem ml_X4_75 : Cond.methodLink RX4 75 yX4_measures ∈ tblA := tA (List.mem_of_getElem? (i := 390) (by decide +kernel)) rfl
theorem ml_X4_79 : Cond.methodLink RX4 79 yX0_forgetRun ∈ tblA := tA (List.mem_of_getElem? (i := 203) (by decide +kernel)) rfl
theorem ml_X4_80 : Cond.methodLink RX4 80 yJ7_fill_53178 ∈ tblA := tA (List.mem_of_getElem? (i := 210) (by decide +kernel)) rfl
theorem ml_X5_26 : Cond.methodLink RX5 26 yX5_rewind ∈ tblA := tA (List.mem_of_getElem? (i := 640) (by decide +kernel)) rfl
theorem ml_X5_29 : Cond.methodLink RX5 29 yX5_readAct ∈ tblA := tA (List.mem_of_getElem? (i := 644) (by decide +kernel)) rfl
theorem ml_X5_33 : Cond.methodLink RX5 33 yX5_here ∈ tblA := tA (List.mem_of_getElem? (i := 648) (by decide +kernel)) rfl
theorem ml_X5_40 : Cond.methodLink RX5 40 yX5_readFirst ∈ tblA := tA (List.mem_of_getElem? (i := 652) (by decide +kernel)) rfl
theorem ml_X5_44 : Cond.methodLink RX5 44 yX5_readSign ∈ tblA := tA (List.mem_of_getElem? (i := 660) (by decide +kernel)) rfl
theorem ml_X5_48 : Cond.methodLink RX5 48 yX5_readSecond ∈ tblA := tA (List.mem_of_getElem? (i := 664) (by decide +kernel)) rfl
theorem ml_X5_51 : Cond.methodLink RX5 51 yX5_readNumber ∈ tblA := tA (List.mem_of_getElem? (i := 656) (by decide +kernel)) rfl
theorem ml_X6_102 : Cond.methodLink RX6 102 yX5_findFault ∈ tblA := tA (List.mem_of_getElem? (i := 636) (by decide +kernel)) rfl
theorem ml_X6_105 : Cond.methodLink RX6 105 yX5_rewind ∈ tblA := tA (List.mem_of_getElem? (i := 672) (by decide +kernel)) rfl
theorem ml_X6_108 : Cond.methodLink RX6 108 yX5_readAct ∈ tblA := tA (List.mem_of_getElem? (i := 673) (by decide +kernel)) rfl
theorem ml_X6_112 : Cond.methodLink RX6 112 yX6_carryOutAct ∈ tblA := tA (List.mem_of_getElem? (i := 674) (by decide +kernel)) rfl
theorem ml_X6_124 : Cond.methodLink RX6 124 yX1_takeBack ∈ tblA := tA (List.mem_of_getElem? (i := 682) (by decide +kernel)) rfl
theorem ml_X6_128 : Cond.methodLink RX6 128 yX6_isSlot ∈ tblA := tA (List.mem_of_getElem? (i := 690) (by decide +kernel)) rfl
theorem ml_X6_131 : Cond.methodLink RX6 131 yX4_copyFrom ∈ tblA := tA (List.mem_of_getElem? (i := 693) (by decide +kernel)) rfl
theorem ml_X6_137 : Cond.methodLink RX6 137 yX6_isWithin ∈ tblA := tA (List.mem_of_getElem? (i := 428) (by decide +kernel)) rfl
theorem ml_X6_141 : Cond.methodLink RX6 141 yX1_keepNoted ∈ tblA := tA (List.mem_of_getElem? (i := 412) (by decide +kernel)) rfl
theorem ml_X6_154 : Cond.methodLink RX6 154 yX6_lookAtLine ∈ tblA := tA (List.mem_of_getElem? (i := 702) (by decide +kernel)) rfl
theorem ml_X6_158 : Cond.methodLink RX6 158 yX6_isFrequency ∈ tblA := tA (List.mem_of_getElem? (i := 711) (by decide +kernel)) rfl
theorem ml_X6_165 : Cond.methodLink RX6 165 yX3_targetAt ∈ tblA := tA (List.mem_of_getElem? (i := 712) (by decide +kernel)) rfl
theorem ml_X6_170 : Cond.methodLink RX6 170 yX0_gainAt ∈ tblA := tA (List.mem_of_getElem? (i := 717) (by decide +kernel)) rfl
theorem ml_X6_173 : Cond.methodLink RX6 173 yX0_limitAt ∈ tblA := tA (List.mem_of_getElem? (i := 722) (by decide +kernel)) rfl
theorem ml_X6_176 : Cond.methodLink RX6 176 yX0_propertyOf ∈ tblA := tA (List.mem_of_getElem? (i := 727) (by decide +kernel)) rfl
theorem ml_X6_197 : Cond.methodLink RX6 197 yX0_resonanceAt ∈ tblA := tA (List.mem_of_getElem? (i := 755) (by decide +kernel)) rfl
theorem ml_X6_204 : Cond.methodLink RX6 204 yX4_totalOf ∈ tblA := tA (List.mem_of_getElem? (i := 775) (by decide +kernel)) rfl
theorem ml_X6_207 : Cond.methodLink RX6 207 yX4_hasLine ∈ tblA := tA (List.mem_of_getElem? (i := 706) (by decide +kernel)) rfl
theorem ml_X6_210 : Cond.methodLink RX6 210 yX4_rests ∈ tblA := tA (List.mem_of_getElem? (i := 783) (by decide +kernel)) rfl
theorem ml_X6_213 : Cond.methodLink RX6 213 yX4_doLoop ∈ tblA := tA (List.mem_of_getElem? (i := 784) (by decide +kernel)) rfl
theorem ml_X6_216 : Cond.methodLink RX6 216 yX4_measures ∈ tblA := tA (List.mem_of_getElem? (i := 789) (by decide +kernel)) rfl
theorem ml_X6_225 : Cond.methodLink RX6 225 Lib.Math.max.name ∈ tblA := tA (List.mem_of_getElem? (i := 794) (by decide +kernel)) rfl
theorem ml_X6_230 : Cond.methodLink RX6 230 Lib.Math.min.name ∈ tblA := tA (List.mem_of_getElem? (i := 193) (by decide +kernel)) rfl
theorem ml_X6_233 : Cond.methodLink RX6 233 arraycopyName ∈ tblA := tA (List.mem_of_getElem? (i := 196) (by decide +kernel)) rfl
theorem ml_X6_41 : Cond.methodLink RX6 41 yX1_note ∈ tblA := tA (List.mem_of_getElem? (i := 356) (by decide +kernel)) rfl
theorem ml_X6_45 : Cond.methodLink RX6 45 yX4_layLines ∈ tblA := tA (List.mem_of_getElem? (i := 379) (by decide +kernel)) rfl
theorem ml_X6_49 : Cond.methodLink RX6 49 yX6_recorded ∈ tblA := tA (List.mem_of_getElem? (i := 408) (by decide +kernel)) rfl
theorem ml_X6_53 : Cond.methodLink RX6 53 yX4_putPoint ∈ tblA := tA (List.mem_of_getElem? (i := 421) (by decide +kernel)) rfl
theorem ml_X6_57 : Cond.methodLink RX6 57 yX4_joinChannel ∈ tblA := tA (List.mem_of_getElem? (i := 442) (by decide +kernel)) rfl
theorem ml_X6_61 : Cond.methodLink RX6 61 yX4_hasChannel ∈ tblA := tA (List.mem_of_getElem? (i := 457) (by decide +kernel)) rfl
theorem ml_X6_69 : Cond.methodLink RX6 69 yX0_putMode ∈ tblA := tA (List.mem_of_getElem? (i := 461) (by decide +kernel)) rfl
theorem ml_X6_75 : Cond.methodLink RX6 75 yX0_putNotch ∈ tblA := tA (List.mem_of_getElem? (i := 476) (by decide +kernel)) rfl
theorem ml_X6_78 : Cond.methodLink RX6 78 yX4_changeSetting ∈ tblA := tA (List.mem_of_getElem? (i := 485) (by decide +kernel)) rfl
theorem ml_X6_81 : Cond.methodLink RX6 81 yX4_begin ∈ tblA := tA (List.mem_of_getElem? (i := 497) (by decide +kernel)) rfl
theorem ml_X6_84 : Cond.methodLink RX6 84 yX4_doLoops ∈ tblA := tA (List.mem_of_getElem? (i := 509) (by decide +kernel)) rfl
theorem ml_X6_87 : Cond.methodLink RX6 87 yX4_holdOrGoOn ∈ tblA := tA (List.mem_of_getElem? (i := 607) (by decide +kernel)) rfl
theorem ml_X6_91 : Cond.methodLink RX6 91 yX4_abortByHand ∈ tblA := tA (List.mem_of_getElem? (i := 615) (by decide +kernel)) rfl
theorem ml_X6_95 : Cond.methodLink RX6 95 yX5_add ∈ tblA := tA (List.mem_of_getElem? (i := 623) (by decide +kernel)) rfl
theorem ml_X7_100 : Cond.methodLink RX7 100 yX7_greater ∈ tblA := tA (List.mem_of_getElem? (i := 953) (by decide +kernel)) rfl
theorem ml_X7_103 : Cond.methodLink RX7 103 yX7_measures ∈ tblA := tA (List.mem_of_getElem? (i := 932) (by decide +kernel)) rfl
theorem ml_X7_106 : Cond.methodLink RX7 106 yX7_watches ∈ tblA := tA (List.mem_of_getElem? (i := 945) (by decide +kernel)) rfl
theorem ml_X7_109 : Cond.methodLink RX7 109 yX7_isLine ∈ tblA := tA (List.mem_of_getElem? (i := 956) (by decide +kernel)) rfl
theorem ml_X7_112 : Cond.methodLink RX7 112 yX7_goesTo ∈ tblA := tA (List.mem_of_getElem? (i := 960) (by decide +kernel)) rfl
theorem ml_X7_117 : Cond.methodLink RX7 117 yX7_targetOf ∈ tblA := tA (List.mem_of_getElem? (i := 965) (by decide +kernel)) rfl
theorem ml_X7_124 : Cond.methodLink RX7 124 yX7_loop ∈ tblA := tA (List.mem_of_getElem? (i := 928) (by decide +kernel)) rfl
theorem ml_X7_127 : Cond.methodLink RX7 127 yX7_loops ∈ tblA := tA (List.mem_of_getElem? (i := 924) (by decide +kernel)) rfl
theorem ml_X7_130 : Cond.methodLink RX7 130 yX7_canHold ∈ tblA := tA (List.mem_of_getElem? (i := 975) (by decide +kernel)) rfl
theorem ml_X7_134 : Cond.methodLink RX7 134 yX7_canAbort ∈ tblA := tA (List.mem_of_getElem? (i := 983) (by decide +kernel)) rfl
theorem ml_X7_137 : Cond.methodLink RX7 137 yX7_aborts ∈ tblA := tA (List.mem_of_getElem? (i := 987) (by decide +kernel)) rfl
theorem ml_X7_146 : Cond.methodLink RX7 146 yX7_peek ∈ tblA := tA (List.mem_of_getElem? (i := 1003) (by decide +kernel)) rfl
theorem ml_X7_152 : Cond.methodLink RX7 152 yX7_takesNumber ∈ tblA := tA (List.mem_of_getElem? (i := 1014) (by decide +kernel)) rfl
theorem ml_X7_156 : Cond.methodLink RX7 156 yX7_takes ∈ tblA := tA (List.mem_of_getElem? (i := 1018) (by decide +kernel)) rfl
theorem ml_X7_159 : Cond.methodLink RX7 159 yX7_isLetter ∈ tblA := tA (List.mem_of_getElem? (i := 1007) (by decide +kernel)) rfl
theorem ml_X7_162 : Cond.methodLink RX7 162 yX7_takesAct ∈ tblA := tA (List.mem_of_getElem? (i := 1010) (by decide +kernel)) rfl
theorem ml_X7_165 : Cond.methodLink RX7 165 yX7_faultPosition ∈ tblA := tA (List.mem_of_getElem? (i := 1026) (by decide +kernel)) rfl
theorem ml_X7_168 : Cond.methodLink RX7 168 yX7_does ∈ tblA := tA (List.mem_of_getElem? (i := 1027) (by decide +kernel)) rfl
theorem ml_X7_171 : Cond.methodLink RX7 171 yX7_gainAt ∈ tblA := tA (List.mem_of_getElem? (i := 1087) (by decide +kernel)) rfl
theorem ml_X7_174 : Cond.methodLink RX7 174 yX7_isResonance ∈ tblA := tA (List.mem_of_getElem? (i := 1091) (by decide +kernel)) rfl
theorem ml_X7_177 : Cond.methodLink RX7 177 yX7_putAside ∈ tblA := tA (List.mem_of_getElem? (i := 1103) (by decide +kernel)) rfl
theorem ml_X7_180 : Cond.methodLink RX7 180 yX7_comesBack ∈ tblA := tA (List.mem_of_getElem? (i := 1107) (by decide +kernel)) rfl
theorem ml_X7_23 : Cond.methodLink RX7 23 yX7_forgets ∈ tblA := tA (List.mem_of_getElem? (i := 801) (by decide +kernel)) rfl
theorem ml_X7_26 : Cond.methodLink RX7 26 yX7_forgetsGains ∈ tblA := tA (List.mem_of_getElem? (i := 809) (by decide +kernel)) rfl
theorem ml_X7_33 : Cond.methodLink RX7 33 yX7_copies ∈ tblA := tA (List.mem_of_getElem? (i := 856) (by decide +kernel)) rfl
theorem ml_X7_37 : Cond.methodLink RX7 37 yX7_setChannel ∈ tblA := tA (List.mem_of_getElem? (i := 805) (by decide +kernel)) rfl
theorem ml_X7_41 : Cond.methodLink RX7 41 yX7_in ∈ tblA := tA (List.mem_of_getElem? (i := 842) (by decide +kernel)) rfl
theorem ml_X7_45 : Cond.methodLink RX7 45 yX7_rests ∈ tblA := tA (List.mem_of_getElem? (i := 845) (by decide +kernel)) rfl
theorem ml_X7_49 : Cond.methodLink RX7 49 yX7_next ∈ tblA := tA (List.mem_of_getElem? (i := 849) (by decide +kernel)) rfl
theorem ml_X7_53 : Cond.methodLink RX7 53 yX7_records ∈ tblA := tA (List.mem_of_getElem? (i := 852) (by decide +kernel)) rfl
theorem ml_X7_58 : Cond.methodLink RX7 58 yX7_isChannel ∈ tblA := tA (List.mem_of_getElem? (i := 874) (by decide +kernel)) rfl
theorem ml_X7_62 : Cond.methodLink RX7 62 yX7_gainOf ∈ tblA := tA (List.mem_of_getElem? (i := 878) (by decide +kernel)) rfl
theorem ml_X7_65 : Cond.methodLink RX7 65 yX7_ofChannel ∈ tblA := tA (List.mem_of_getElem? (i := 882) (by decide +kernel)) rfl
theorem ml_X7_68 : Cond.methodLink RX7 68 yX7_least ∈ tblA := tA (List.mem_of_getElem? (i := 898) (by decide +kernel)) rfl
theorem ml_X7_72 : Cond.methodLink RX7 72 yX7_most ∈ tblA := tA (List.mem_of_getElem? (i := 901) (by decide +kernel)) rfl
theorem ml_X7_75 : Cond.methodLink RX7 75 yX7_whyNotSet ∈ tblA := tA (List.mem_of_getElem? (i := 894) (by decide +kernel)) rfl
theorem ml_X7_78 : Cond.methodLink RX7 78 yX7_setting ∈ tblA := tA (List.mem_of_getElem? (i := 904) (by decide +kernel)) rfl
theorem ml_X7_81 : Cond.methodLink RX7 81 yX7_refusal ∈ tblA := tA (List.mem_of_getElem? (i := 912) (by decide +kernel)) rfl
theorem ml_X7_85 : Cond.methodLink RX7 85 yX7_starts ∈ tblA := tA (List.mem_of_getElem? (i := 916) (by decide +kernel)) rfl
theorem ml_X7_91 : Cond.methodLink RX7 91 yX7_averagedBy ∈ tblA := tA (List.mem_of_getElem? (i := 937) (by decide +kernel)) rfl
theorem ml_X7_94 : Cond.methodLink RX7 94 yX7_controlLevel ∈ tblA := tA (List.mem_of_getElem? (i := 941) (by decide +kernel)) rfl
theorem ml_X7_97 : Cond.methodLink RX7 97 yX7_limitOf ∈ tblA := tA (List.mem_of_getElem? (i := 949) (by decide +kernel)) rfl
theorem mn_X0_100 : Cond.methodLinkNest RX0 100 yX6_averagedGain "ShakerSweep" ∈ tblA := tA (List.mem_of_getElem? (i := 538) (by decide +kernel)) rfl
theorem mn_X0_122 : Cond.methodLinkNest RX0 122 yX6_copyRow "ShakerSweep" ∈ tblA := tA (List.mem_of_getElem? (i := 378) (by decide +kernel)) rfl
theorem mn_X0_74 : Cond.methodLinkNest RX0 74 yX6_isWithin "ShakerSweep" ∈ tblA := tA (List.mem_of_getElem? (i := 465) (by decide +kernel)) rfl
theorem mn_X0_78 : Cond.methodLinkNest RX0 78 yX6_isFrequency "ShakerSweep" ∈ tblA := tA (List.mem_of_getElem? (i := 466) (by decide +kernel)) rfl
theorem mn_X0_93 : Cond.methodLinkNest RX0 93 yX6_measuredGain "ShakerSweep" ∈ tblA := tA (List.mem_of_getElem? (i := 534) (by decide +kernel)) rfl
theorem mn_X2_31 : Cond.methodLinkNest RX2 31 yX6_copyRow "ShakerSweep" ∈ tblA := tA (List.mem_of_getElem? (i := 368) (by decide +kernel)) rfl
theorem mn_X3_30 : Cond.methodLinkNest RX3 30 yX6_copyRow "ShakerSweep" ∈ tblA := tA (List.mem_of_getElem? (i := 373) (by decide +kernel)) rfl
theorem mn_X4_117 : Cond.methodLinkNest RX4 117 yX6_isFrequency "ShakerSweep" ∈ tblA := tA (List.mem_of_getElem? (i := 425) (by decide +kernel)) rfl
theorem mn_X4_131 : Cond.fieldLinkNest RX4 131 "ShakerSweep" "SETTING_LEAST" "[I" "ShakerSweep" ∈ tblA := tA (List.mem_of_getElem? (i := 489) (by decide +kernel)) rfl
theorem mn_X4_134 : Cond.fieldLinkNest RX4 134 "ShakerSweep" "SETTING_GREATEST" "[I" "ShakerSweep" ∈ tblA := tA (List.mem_of_getElem? (i := 491) (by decide +kernel)) rfl
theorem mn_X4_185 : Cond.methodLinkNest RX4 185 yX6_measuredGain "ShakerSweep" ∈ tblA := tA (List.mem_of_getElem? (i := 547) (by decide +kernel)) rfl
theorem mn_X4_188 : Cond.methodLinkNest RX4 188 yX6_averagedGain "ShakerSweep" ∈ tblA := tA (List.mem_of_getElem? (i := 548) (by decide +kernel)) rfl
theorem mn_X4_55 : Cond.methodLinkNest RX4 55 yX6_copyRow "ShakerSweep" ∈ tblA := tA (List.mem_of_getElem? (i := 190) (by decide +kernel)) rfl
theorem mn_X4_68 : Cond.methodLinkNest RX4 68 yX6_isWithin "ShakerSweep" ∈ tblA := tA (List.mem_of_getElem? (i := 383) (by decide +kernel)) rfl
theorem mn_X5_15 : Cond.methodLinkNest RX5 15 yX6_isWithin "ShakerSweep" ∈ tblA := tA (List.mem_of_getElem? (i := 627) (by decide +kernel)) rfl
