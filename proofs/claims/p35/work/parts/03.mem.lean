/-! words of the tables, by their places -/
def isNest (w : Cond) : Bool := match w with
  | .methodLinkNest _ _ _ _ => true
  | .fieldLinkNest _ _ _ _ _ _ => true
  | _ => false
def tblA : List Cond := lw_tbl.filter (fun w => goodWord w || isNest w)
def tblG : List Cond := lw_tbl.filter goodWord
theorem tA {w : Cond} (h : w ∈ lw_tbl) (h2 : (goodWord w || isNest w) = true) : w ∈ tblA := List.mem_filter.mpr ⟨h, h2⟩
theorem mMathI : Cond.initialized "java/lang/Math" ∈ tblA := tA (List.mem_of_getElem? (i := 30) (by decide +kernel)) rfl
theorem mMaxS : Cond.static Lib.Math.max.name ∈ tblA := tA (List.mem_of_getElem? (i := 365) (by decide +kernel)) rfl
theorem mMaxC : Cond.code Lib.Math.max.name Lib.Math.max.code 2 (some .int) ∈ tblA := tA (List.mem_of_getElem? (i := 366) (by decide +kernel)) rfl
theorem mMinS : Cond.static Lib.Math.min.name ∈ tblA := tA (List.mem_of_getElem? (i := 158) (by decide +kernel)) rfl
theorem mMinC : Cond.code Lib.Math.min.name Lib.Math.min.code 2 (some .int) ∈ tblA := tA (List.mem_of_getElem? (i := 159) (by decide +kernel)) rfl
theorem mMaxLS : Cond.static Lib.MathLoose.max_long.x ∈ tblA := tA (List.mem_of_getElem? (i := 548) (by decide +kernel)) rfl
theorem mMaxLC : Cond.code Lib.MathLoose.max_long.x Lib.MathLoose.max_long.code 4 (some .long) ∈ tblA := tA (List.mem_of_getElem? (i := 549) (by decide +kernel)) rfl
theorem mMinLS : Cond.static Lib.MathLoose.min_long.x ∈ tblA := tA (List.mem_of_getElem? (i := 551) (by decide +kernel)) rfl
theorem mMinLC : Cond.code Lib.MathLoose.min_long.x Lib.MathLoose.min_long.code 4 (some .long) ∈ tblA := tA (List.mem_of_getElem? (i := 552) (by decide +kernel)) rfl
theorem mAcN : Cond.native arraycopyName ∈ tblA := tA (List.mem_of_getElem? (i := 162) (by decide +kernel)) rfl
theorem mAcS : Cond.static arraycopyName ∈ tblA := tA (List.mem_of_getElem? (i := 161) (by decide +kernel)) rfl
theorem mSysI : Cond.initialized "java/lang/System" ∈ tblA := tA (List.mem_of_getElem? (i := 31) (by decide +kernel)) rfl
theorem mf_X0_15 : Cond.fieldLink RX0 15 RX0 (TX0 4).2.1 (TX0 4).2.2.1 ∈ tblA := tA (List.mem_of_getElem? (i := 96) (by decide +kernel)) rfl
theorem mf_X0_18 : Cond.fieldLink RX0 18 RX0 (TX0 5).2.1 (TX0 5).2.2.1 ∈ tblA := tA (List.mem_of_getElem? (i := 97) (by decide +kernel)) rfl
theorem mf_X0_21 : Cond.fieldLink RX0 21 RX0 (TX0 6).2.1 (TX0 6).2.2.1 ∈ tblA := tA (List.mem_of_getElem? (i := 98) (by decide +kernel)) rfl
theorem mf_X0_24 : Cond.fieldLink RX0 24 RX0 (TX0 7).2.1 (TX0 7).2.2.1 ∈ tblA := tA (List.mem_of_getElem? (i := 99) (by decide +kernel)) rfl
theorem mf_X0_27 : Cond.fieldLink RX0 27 RX0 (TX0 8).2.1 (TX0 8).2.2.1 ∈ tblA := tA (List.mem_of_getElem? (i := 100) (by decide +kernel)) rfl
theorem mf_X0_30 : Cond.fieldLink RX0 30 RX0 (TX0 10).2.1 (TX0 10).2.2.1 ∈ tblA := tA (List.mem_of_getElem? (i := 102) (by decide +kernel)) rfl
theorem mf_X0_33 : Cond.fieldLink RX0 33 RX0 (TX0 11).2.1 (TX0 11).2.2.1 ∈ tblA := tA (List.mem_of_getElem? (i := 104) (by decide +kernel)) rfl
theorem mf_X0_36 : Cond.fieldLink RX0 36 RX0 (TX0 0).2.1 (TX0 0).2.2.1 ∈ tblA := tA (List.mem_of_getElem? (i := 91) (by decide +kernel)) rfl
theorem mf_X0_40 : Cond.fieldLink RX0 40 RX0 (TX0 1).2.1 (TX0 1).2.2.1 ∈ tblA := tA (List.mem_of_getElem? (i := 93) (by decide +kernel)) rfl
theorem mf_X0_44 : Cond.fieldLink RX0 44 RX0 (TX0 2).2.1 (TX0 2).2.2.1 ∈ tblA := tA (List.mem_of_getElem? (i := 94) (by decide +kernel)) rfl
theorem mf_X0_53 : Cond.fieldLink RX0 53 RX0 (TX0 9).2.1 (TX0 9).2.2.1 ∈ tblA := tA (List.mem_of_getElem? (i := 101) (by decide +kernel)) rfl
theorem mf_X0_62 : Cond.fieldLink RX0 62 RX0 (TX0 14).2.1 (TX0 14).2.2.1 ∈ tblA := tA (List.mem_of_getElem? (i := 110) (by decide +kernel)) rfl
theorem mf_X0_65 : Cond.fieldLink RX0 65 RX0 (TX0 15).2.1 (TX0 15).2.2.1 ∈ tblA := tA (List.mem_of_getElem? (i := 111) (by decide +kernel)) rfl
theorem mf_X0_68 : Cond.fieldLink RX0 68 RX0 (TX0 16).2.1 (TX0 16).2.2.1 ∈ tblA := tA (List.mem_of_getElem? (i := 112) (by decide +kernel)) rfl
theorem mf_X0_71 : Cond.fieldLink RX0 71 RX0 (TX0 17).2.1 (TX0 17).2.2.1 ∈ tblA := tA (List.mem_of_getElem? (i := 113) (by decide +kernel)) rfl
theorem mf_X0_9 : Cond.fieldLink RX0 9 RX0 (TX0 3).2.1 (TX0 3).2.2.1 ∈ tblA := tA (List.mem_of_getElem? (i := 95) (by decide +kernel)) rfl
theorem mf_X0_90 : Cond.fieldLink RX0 90 RX0 (TX0 12).2.1 (TX0 12).2.2.1 ∈ tblA := tA (List.mem_of_getElem? (i := 106) (by decide +kernel)) rfl
theorem mf_X0_97 : Cond.fieldLink RX0 97 RX0 (TX0 13).2.1 (TX0 13).2.2.1 ∈ tblA := tA (List.mem_of_getElem? (i := 109) (by decide +kernel)) rfl
theorem mf_X1_13 : Cond.fieldLink RX1 13 RX1 (TX1 0).2.1 (TX1 0).2.2.1 ∈ tblA := tA (List.mem_of_getElem? (i := 253) (by decide +kernel)) rfl
theorem mf_X1_18 : Cond.fieldLink RX1 18 RX1 (TX1 1).2.1 (TX1 1).2.2.1 ∈ tblA := tA (List.mem_of_getElem? (i := 254) (by decide +kernel)) rfl
theorem mf_X1_26 : Cond.fieldLink RX1 26 RX1 (TX1 2).2.1 (TX1 2).2.2.1 ∈ tblA := tA (List.mem_of_getElem? (i := 255) (by decide +kernel)) rfl
theorem mf_X2_27 : Cond.fieldLink RX2 27 RX2 (TX2 1).2.1 (TX2 1).2.2.1 ∈ tblA := tA (List.mem_of_getElem? (i := 59) (by decide +kernel)) rfl
theorem mf_X2_9 : Cond.fieldLink RX2 9 RX2 (TX2 0).2.1 (TX2 0).2.2.1 ∈ tblA := tA (List.mem_of_getElem? (i := 55) (by decide +kernel)) rfl
theorem mf_X3_15 : Cond.fieldLink RX3 15 RX3 (TX3 1).2.1 (TX3 1).2.2.1 ∈ tblA := tA (List.mem_of_getElem? (i := 74) (by decide +kernel)) rfl
theorem mf_X3_22 : Cond.fieldLink RX3 22 RX3 (TX3 2).2.1 (TX3 2).2.2.1 ∈ tblA := tA (List.mem_of_getElem? (i := 75) (by decide +kernel)) rfl
theorem mf_X3_9 : Cond.fieldLink RX3 9 RX3 (TX3 0).2.1 (TX3 0).2.2.1 ∈ tblA := tA (List.mem_of_getElem? (i := 73) (by decide +kernel)) rfl
theorem mf_X4_114 : Cond.fieldLink RX4 114 RX4 (TX4 9).2.1 (TX4 9).2.2.1 ∈ tblA := tA (List.mem_of_getElem? (i := 200) (by decide +kernel)) rfl
theorem mf_X4_12 : Cond.fieldLink RX4 12 RX4 (TX4 0).2.1 (TX4 0).2.2.1 ∈ tblA := tA (List.mem_of_getElem? (i := 183) (by decide +kernel)) rfl
theorem mf_X4_141 : Cond.fieldLink RX4 141 RX4 (TX4 10).2.1 (TX4 10).2.2.1 ∈ tblA := tA (List.mem_of_getElem? (i := 201) (by decide +kernel)) rfl
theorem mf_X4_144 : Cond.fieldLink RX4 144 RX3 (TX3 2).2.1 (TX3 2).2.2.1 ∈ tblA := tA (List.mem_of_getElem? (i := 76) (by decide +kernel)) rfl
theorem mf_X4_145 : Cond.fieldLink RX4 145 RX0 (TX0 0).2.1 (TX0 0).2.2.1 ∈ tblA := tA (List.mem_of_getElem? (i := 92) (by decide +kernel)) rfl
theorem mf_X4_161 : Cond.fieldLink RX4 161 RX2 (TX2 0).2.1 (TX2 0).2.2.1 ∈ tblA := tA (List.mem_of_getElem? (i := 56) (by decide +kernel)) rfl
theorem mf_X4_191 : Cond.fieldLink RX4 191 RX0 (TX0 12).2.1 (TX0 12).2.2.1 ∈ tblA := tA (List.mem_of_getElem? (i := 107) (by decide +kernel)) rfl
theorem mf_X4_204 : Cond.fieldLink RX4 204 RX0 (TX0 17).2.1 (TX0 17).2.2.1 ∈ tblA := tA (List.mem_of_getElem? (i := 114) (by decide +kernel)) rfl
theorem mf_X4_21 : Cond.fieldLink RX4 21 RX4 (TX4 1).2.1 (TX4 1).2.2.1 ∈ tblA := tA (List.mem_of_getElem? (i := 185) (by decide +kernel)) rfl
theorem mf_X4_27 : Cond.fieldLink RX4 27 RX4 (TX4 2).2.1 (TX4 2).2.2.1 ∈ tblA := tA (List.mem_of_getElem? (i := 187) (by decide +kernel)) rfl
theorem mf_X4_31 : Cond.fieldLink RX4 31 RX4 (TX4 4).2.1 (TX4 4).2.2.1 ∈ tblA := tA (List.mem_of_getElem? (i := 190) (by decide +kernel)) rfl
theorem mf_X4_35 : Cond.fieldLink RX4 35 RX4 (TX4 5).2.1 (TX4 5).2.2.1 ∈ tblA := tA (List.mem_of_getElem? (i := 192) (by decide +kernel)) rfl
theorem mf_X4_38 : Cond.fieldLink RX4 38 RX4 (TX4 6).2.1 (TX4 6).2.2.1 ∈ tblA := tA (List.mem_of_getElem? (i := 194) (by decide +kernel)) rfl
theorem mf_X4_41 : Cond.fieldLink RX4 41 RX4 (TX4 7).2.1 (TX4 7).2.2.1 ∈ tblA := tA (List.mem_of_getElem? (i := 196) (by decide +kernel)) rfl
theorem mf_X4_44 : Cond.fieldLink RX4 44 RX4 (TX4 8).2.1 (TX4 8).2.2.1 ∈ tblA := tA (List.mem_of_getElem? (i := 198) (by decide +kernel)) rfl
theorem mf_X4_48 : Cond.fieldLink RX4 48 RX4 (TX4 16).2.1 (TX4 16).2.2.1 ∈ tblA := tA (List.mem_of_getElem? (i := 208) (by decide +kernel)) rfl
theorem mf_X4_65 : Cond.fieldLink RX4 65 RX2 (TX2 1).2.1 (TX2 1).2.2.1 ∈ tblA := tA (List.mem_of_getElem? (i := 58) (by decide +kernel)) rfl
theorem mf_X4_72 : Cond.fieldLink RX4 72 RX4 (TX4 3).2.1 (TX4 3).2.2.1 ∈ tblA := tA (List.mem_of_getElem? (i := 189) (by decide +kernel)) rfl
theorem mf_X4_86 : Cond.fieldLink RX4 86 RX4 (TX4 11).2.1 (TX4 11).2.2.1 ∈ tblA := tA (List.mem_of_getElem? (i := 202) (by decide +kernel)) rfl
theorem mf_X4_90 : Cond.fieldLink RX4 90 RX4 (TX4 12).2.1 (TX4 12).2.2.1 ∈ tblA := tA (List.mem_of_getElem? (i := 203) (by decide +kernel)) rfl
theorem mf_X4_93 : Cond.fieldLink RX4 93 RX4 (TX4 13).2.1 (TX4 13).2.2.1 ∈ tblA := tA (List.mem_of_getElem? (i := 204) (by decide +kernel)) rfl
theorem mf_X4_96 : Cond.fieldLink RX4 96 RX4 (TX4 14).2.1 (TX4 14).2.2.1 ∈ tblA := tA (List.mem_of_getElem? (i := 205) (by decide +kernel)) rfl
theorem mf_X4_99 : Cond.fieldLink RX4 99 RX4 (TX4 15).2.1 (TX4 15).2.2.1 ∈ tblA := tA (List.mem_of_getElem? (i := 207) (by decide +kernel)) rfl
theorem mf_X5_19 : Cond.fieldLink RX5 19 RX5 (TX5 1).2.1 (TX5 1).2.2.1 ∈ tblA := tA (List.mem_of_getElem? (i := 271) (by decide +kernel)) rfl
theorem mf_X5_23 : Cond.fieldLink RX5 23 RX5 (TX5 2).2.1 (TX5 2).2.2.1 ∈ tblA := tA (List.mem_of_getElem? (i := 273) (by decide +kernel)) rfl
theorem mf_X5_37 : Cond.fieldLink RX5 37 RX5 (TX5 3).2.1 (TX5 3).2.2.1 ∈ tblA := tA (List.mem_of_getElem? (i := 274) (by decide +kernel)) rfl
theorem mf_X5_54 : Cond.fieldLink RX5 54 RX5 (TX5 4).2.1 (TX5 4).2.2.1 ∈ tblA := tA (List.mem_of_getElem? (i := 276) (by decide +kernel)) rfl
theorem mf_X5_57 : Cond.fieldLink RX5 57 RX5 (TX5 5).2.1 (TX5 5).2.2.1 ∈ tblA := tA (List.mem_of_getElem? (i := 277) (by decide +kernel)) rfl
theorem mf_X5_60 : Cond.fieldLink RX5 60 RX5 (TX5 6).2.1 (TX5 6).2.2.1 ∈ tblA := tA (List.mem_of_getElem? (i := 279) (by decide +kernel)) rfl
theorem mf_X5_9 : Cond.fieldLink RX5 9 RX5 (TX5 0).2.1 (TX5 0).2.2.1 ∈ tblA := tA (List.mem_of_getElem? (i := 270) (by decide +kernel)) rfl
theorem mf_X6_10 : Cond.fieldLink RX6 10 RX6 (TX6 0).2.1 (TX6 0).2.2.1 ∈ tblA := tA (List.mem_of_getElem? (i := 297) (by decide +kernel)) rfl
theorem mf_X6_115 : Cond.fieldLink RX6 115 RX5 (TX5 3).2.1 (TX5 3).2.2.1 ∈ tblA := tA (List.mem_of_getElem? (i := 275) (by decide +kernel)) rfl
theorem mf_X6_118 : Cond.fieldLink RX6 118 RX5 (TX5 5).2.1 (TX5 5).2.2.1 ∈ tblA := tA (List.mem_of_getElem? (i := 278) (by decide +kernel)) rfl
theorem mf_X6_121 : Cond.fieldLink RX6 121 RX5 (TX5 6).2.1 (TX5 6).2.2.1 ∈ tblA := tA (List.mem_of_getElem? (i := 280) (by decide +kernel)) rfl
theorem mf_X6_134 : Cond.fieldLink RX6 134 RX4 (TX4 8).2.1 (TX4 8).2.2.1 ∈ tblA := tA (List.mem_of_getElem? (i := 199) (by decide +kernel)) rfl
theorem mf_X6_144 : Cond.fieldLink RX6 144 RX4 (TX4 0).2.1 (TX4 0).2.2.1 ∈ tblA := tA (List.mem_of_getElem? (i := 184) (by decide +kernel)) rfl
theorem mf_X6_148 : Cond.fieldLink RX6 148 RX2 (TX2 0).2.1 (TX2 0).2.2.1 ∈ tblA := tA (List.mem_of_getElem? (i := 57) (by decide +kernel)) rfl
theorem mf_X6_16 : Cond.fieldLink RX6 16 RX6 (TX6 1).2.1 (TX6 1).2.2.1 ∈ tblA := tA (List.mem_of_getElem? (i := 298) (by decide +kernel)) rfl
theorem mf_X6_161 : Cond.fieldLink RX6 161 RX4 (TX4 1).2.1 (TX4 1).2.2.1 ∈ tblA := tA (List.mem_of_getElem? (i := 186) (by decide +kernel)) rfl
theorem mf_X6_179 : Cond.fieldLink RX6 179 RX0 (TX0 10).2.1 (TX0 10).2.2.1 ∈ tblA := tA (List.mem_of_getElem? (i := 103) (by decide +kernel)) rfl
theorem mf_X6_182 : Cond.fieldLink RX6 182 RX0 (TX0 11).2.1 (TX0 11).2.2.1 ∈ tblA := tA (List.mem_of_getElem? (i := 105) (by decide +kernel)) rfl
theorem mf_X6_185 : Cond.fieldLink RX6 185 RX4 (TX4 5).2.1 (TX4 5).2.2.1 ∈ tblA := tA (List.mem_of_getElem? (i := 193) (by decide +kernel)) rfl
theorem mf_X6_188 : Cond.fieldLink RX6 188 RX4 (TX4 6).2.1 (TX4 6).2.2.1 ∈ tblA := tA (List.mem_of_getElem? (i := 195) (by decide +kernel)) rfl
theorem mf_X6_191 : Cond.fieldLink RX6 191 RX4 (TX4 7).2.1 (TX4 7).2.2.1 ∈ tblA := tA (List.mem_of_getElem? (i := 197) (by decide +kernel)) rfl
theorem mf_X6_194 : Cond.fieldLink RX6 194 RX2 (TX2 1).2.1 (TX2 1).2.2.1 ∈ tblA := tA (List.mem_of_getElem? (i := 60) (by decide +kernel)) rfl
theorem mf_X6_200 : Cond.fieldLink RX6 200 RX4 (TX4 4).2.1 (TX4 4).2.2.1 ∈ tblA := tA (List.mem_of_getElem? (i := 191) (by decide +kernel)) rfl
theorem mf_X6_203 : Cond.fieldLink RX6 203 RX1 (TX1 2).2.1 (TX1 2).2.2.1 ∈ tblA := tA (List.mem_of_getElem? (i := 256) (by decide +kernel)) rfl
theorem mf_X6_219 : Cond.fieldLink RX6 219 RX4 (TX4 14).2.1 (TX4 14).2.2.1 ∈ tblA := tA (List.mem_of_getElem? (i := 206) (by decide +kernel)) rfl
theorem mf_X6_22 : Cond.fieldLink RX6 22 RX6 (TX6 2).2.1 (TX6 2).2.2.1 ∈ tblA := tA (List.mem_of_getElem? (i := 299) (by decide +kernel)) rfl
theorem mf_X6_222 : Cond.fieldLink RX6 222 RX0 (TX0 12).2.1 (TX0 12).2.2.1 ∈ tblA := tA (List.mem_of_getElem? (i := 108) (by decide +kernel)) rfl
theorem mf_X6_26 : Cond.fieldLink RX6 26 RX6 (TX6 3).2.1 (TX6 3).2.2.1 ∈ tblA := tA (List.mem_of_getElem? (i := 300) (by decide +kernel)) rfl
theorem mf_X6_30 : Cond.fieldLink RX6 30 RX6 (TX6 4).2.1 (TX6 4).2.2.1 ∈ tblA := tA (List.mem_of_getElem? (i := 301) (by decide +kernel)) rfl
theorem mf_X6_37 : Cond.fieldLink RX6 37 RX6 (TX6 5).2.1 (TX6 5).2.2.1 ∈ tblA := tA (List.mem_of_getElem? (i := 302) (by decide +kernel)) rfl
theorem mf_X6_65 : Cond.fieldLink RX6 65 RX4 (TX4 2).2.1 (TX4 2).2.2.1 ∈ tblA := tA (List.mem_of_getElem? (i := 188) (by decide +kernel)) rfl
theorem mf_X6_98 : Cond.fieldLink RX6 98 RX5 (TX5 1).2.1 (TX5 1).2.2.1 ∈ tblA := tA (List.mem_of_getElem? (i := 272) (by decide +kernel)) rfl
theorem mk_L_14 : Cond.constant RL 14 (100000) ∈ tblA := tA (List.mem_of_getElem? (i := 688) (by decide +kernel)) rfl
theorem mk_L_50 : Cond.constantLong RL 50 (7) ∈ tblA := tA (List.mem_of_getElem? (i := 730) (by decide +kernel)) rfl
theorem mk_L_52 : Cond.constantLong RL 52 (31) ∈ tblA := tA (List.mem_of_getElem? (i := 731) (by decide +kernel)) rfl
theorem mk_L_7 : Cond.constant RL 7 (2147483647) ∈ tblA := tA (List.mem_of_getElem? (i := 681) (by decide +kernel)) rfl
theorem mk_X0_82 : Cond.constant RX0 82 (50000) ∈ tblA := tA (List.mem_of_getElem? (i := 431) (by decide +kernel)) rfl
theorem mk_X0_87 : Cond.constant RX0 87 (200000) ∈ tblA := tA (List.mem_of_getElem? (i := 760) (by decide +kernel)) rfl
theorem mk_X0_88 : Cond.constantLong RX0 88 (1000) ∈ tblA := tA (List.mem_of_getElem? (i := 488) (by decide +kernel)) rfl
theorem mk_X4_121 : Cond.constant RX4 121 (50000) ∈ tblA := tA (List.mem_of_getElem? (i := 393) (by decide +kernel)) rfl
theorem mk_X4_126 : Cond.constant RX4 126 (200000) ∈ tblA := tA (List.mem_of_getElem? (i := 410) (by decide +kernel)) rfl
theorem mk_X4_225 : Cond.constantLong RX4 225 (100000) ∈ tblA := tA (List.mem_of_getElem? (i := 557) (by decide +kernel)) rfl
theorem mk_X4_227 : Cond.constantLong RX4 227 (1000) ∈ tblA := tA (List.mem_of_getElem? (i := 545) (by decide +kernel)) rfl
theorem mk_X4_229 : Cond.constantLong RX4 229 (2) ∈ tblA := tA (List.mem_of_getElem? (i := 546) (by decide +kernel)) rfl
theorem mk_X6_239 : Cond.constantLong RX6 239 (1000) ∈ tblA := tA (List.mem_of_getElem? (i := 492) (by decide +kernel)) rfl
theorem ml_L_103 : Cond.methodLink RL 103 yL_foretells ∈ tblA := tA (List.mem_of_getElem? (i := 761) (by decide +kernel)) rfl
theorem ml_L_107 : Cond.methodLink RL 107 yX6_clearText ∈ tblA := tA (List.mem_of_getElem? (i := 768) (by decide +kernel)) rfl
theorem ml_L_110 : Cond.methodLink RL 110 yX6_append ∈ tblA := tA (List.mem_of_getElem? (i := 772) (by decide +kernel)) rfl
theorem ml_L_113 : Cond.methodLink RL 113 yX6_faultPosition ∈ tblA := tA (List.mem_of_getElem? (i := 780) (by decide +kernel)) rfl
theorem ml_L_116 : Cond.methodLink RL 116 yX6_run ∈ tblA := tA (List.mem_of_getElem? (i := 558) (by decide +kernel)) rfl
theorem ml_L_119 : Cond.methodLink RL 119 yX6_setPoint ∈ tblA := tA (List.mem_of_getElem? (i := 381) (by decide +kernel)) rfl
theorem ml_L_123 : Cond.methodLink RL 123 yX6_target ∈ tblA := tA (List.mem_of_getElem? (i := 629) (by decide +kernel)) rfl
theorem ml_L_126 : Cond.methodLink RL 126 yX6_undo ∈ tblA := tA (List.mem_of_getElem? (i := 609) (by decide +kernel)) rfl
theorem ml_L_129 : Cond.methodLink RL 129 yL_cell ∈ tblA := tA (List.mem_of_getElem? (i := 675) (by decide +kernel)) rfl
theorem ml_L_133 : Cond.methodLink RL 133 yX6_setLines ∈ tblA := tA (List.mem_of_getElem? (i := 316) (by decide +kernel)) rfl
theorem ml_L_137 : Cond.methodLink RL 137 yX6_addChannel ∈ tblA := tA (List.mem_of_getElem? (i := 402) (by decide +kernel)) rfl
theorem ml_L_141 : Cond.methodLink RL 141 yL_acts ∈ tblA := tA (List.mem_of_getElem? (i := 741) (by decide +kernel)) rfl
theorem ml_L_145 : Cond.methodLink RL 145 yL_rules ∈ tblA := tA (List.mem_of_getElem? (i := 685) (by decide +kernel)) rfl
theorem ml_L_15 : Cond.methodLink RL 15 yL_rests ∈ tblA := tA (List.mem_of_getElem? (i := 682) (by decide +kernel)) rfl
theorem ml_L_21 : Cond.methodLink RL 21 yX6_loopsLeft ∈ tblA := tA (List.mem_of_getElem? (i := 663) (by decide +kernel)) rfl
theorem ml_L_25 : Cond.methodLink RL 25 yX6_frequency ∈ tblA := tA (List.mem_of_getElem? (i := 689) (by decide +kernel)) rfl
theorem ml_L_28 : Cond.methodLink RL 28 yX6_controlGain ∈ tblA := tA (List.mem_of_getElem? (i := 698) (by decide +kernel)) rfl
theorem ml_L_31 : Cond.methodLink RL 31 yX6_driveAt ∈ tblA := tA (List.mem_of_getElem? (i := 702) (by decide +kernel)) rfl
theorem ml_L_34 : Cond.methodLink RL 34 yX6_notchedBy ∈ tblA := tA (List.mem_of_getElem? (i := 706) (by decide +kernel)) rfl
theorem ml_L_37 : Cond.methodLink RL 37 yX6_limit ∈ tblA := tA (List.mem_of_getElem? (i := 710) (by decide +kernel)) rfl
theorem ml_L_41 : Cond.methodLink RL 41 yX6_channel ∈ tblA := tA (List.mem_of_getElem? (i := 715) (by decide +kernel)) rfl
theorem ml_L_44 : Cond.methodLink RL 44 yX6_resonance ∈ tblA := tA (List.mem_of_getElem? (i := 635) (by decide +kernel)) rfl
theorem ml_L_47 : Cond.methodLink RL 47 yX6_averaged ∈ tblA := tA (List.mem_of_getElem? (i := 723) (by decide +kernel)) rfl
theorem ml_L_54 : Cond.methodLink RL 54 yX6_level ∈ tblA := tA (List.mem_of_getElem? (i := 732) (by decide +kernel)) rfl
theorem ml_L_57 : Cond.methodLink RL 57 yX6_gain ∈ tblA := tA (List.mem_of_getElem? (i := 736) (by decide +kernel)) rfl
theorem ml_L_60 : Cond.methodLink RL 60 yL_low ∈ tblA := tA (List.mem_of_getElem? (i := 678) (by decide +kernel)) rfl
theorem ml_L_63 : Cond.methodLink RL 63 yX6_wouldAbort ∈ tblA := tA (List.mem_of_getElem? (i := 764) (by decide +kernel)) rfl
theorem ml_L_66 : Cond.methodLink RL 66 yX6_highest ∈ tblA := tA (List.mem_of_getElem? (i := 669) (by decide +kernel)) rfl
theorem ml_L_69 : Cond.methodLink RL 69 yL_told ∈ tblA := tA (List.mem_of_getElem? (i := 727) (by decide +kernel)) rfl
theorem ml_L_73 : Cond.methodLink RL 73 yX6_save ∈ tblA := tA (List.mem_of_getElem? (i := 617) (by decide +kernel)) rfl
theorem ml_L_76 : Cond.methodLink RL 76 yX6_step ∈ tblA := tA (List.mem_of_getElem? (i := 460) (by decide +kernel)) rfl
theorem ml_L_79 : Cond.methodLink RL 79 yX6_restore ∈ tblA := tA (List.mem_of_getElem? (i := 625) (by decide +kernel)) rfl
theorem ml_L_8 : Cond.methodLink RL 8 yX6_total ∈ tblA := tA (List.mem_of_getElem? (i := 655) (by decide +kernel)) rfl
theorem ml_L_82 : Cond.methodLink RL 82 yX6_start ∈ tblA := tA (List.mem_of_getElem? (i := 448) (by decide +kernel)) rfl
theorem ml_L_85 : Cond.methodLink RL 85 yX6_hold ∈ tblA := tA (List.mem_of_getElem? (i := 744) (by decide +kernel)) rfl
theorem ml_L_89 : Cond.methodLink RL 89 yX6_abort ∈ tblA := tA (List.mem_of_getElem? (i := 748) (by decide +kernel)) rfl
theorem ml_L_92 : Cond.methodLink RL 92 yX6_set ∈ tblA := tA (List.mem_of_getElem? (i := 436) (by decide +kernel)) rfl
theorem ml_L_95 : Cond.methodLink RL 95 yX6_setMode ∈ tblA := tA (List.mem_of_getElem? (i := 417) (by decide +kernel)) rfl
theorem ml_L_99 : Cond.methodLink RL 99 yX6_addNotch ∈ tblA := tA (List.mem_of_getElem? (i := 752) (by decide +kernel)) rfl
theorem ml_X0_104 : Cond.methodLink RX0 104 yX0_limitAt ∈ tblA := tA (List.mem_of_getElem? (i := 512) (by decide +kernel)) rfl
theorem ml_X0_107 : Cond.methodLink RX0 107 Lib.Math.max.name ∈ tblA := tA (List.mem_of_getElem? (i := 516) (by decide +kernel)) rfl
theorem ml_X0_112 : Cond.methodLink RX0 112 yX0_isResonance ∈ tblA := tA (List.mem_of_getElem? (i := 643) (by decide +kernel)) rfl
theorem ml_X0_116 : Cond.methodLink RX0 116 yX0_resonancesAhead ∈ tblA := tA (List.mem_of_getElem? (i := 651) (by decide +kernel)) rfl
theorem ml_X0_119 : Cond.methodLink RX0 119 yX0_gainOfLine ∈ tblA := tA (List.mem_of_getElem? (i := 647) (by decide +kernel)) rfl
theorem ml_X0_47 : Cond.methodLink RX0 47 yJ7_fill_53178 ∈ tblA := tA (List.mem_of_getElem? (i := 171) (by decide +kernel)) rfl
theorem ml_X0_56 : Cond.methodLink RX0 56 yX0_forgetRun ∈ tblA := tA (List.mem_of_getElem? (i := 415) (by decide +kernel)) rfl
theorem ml_X0_59 : Cond.methodLink RX0 59 yX0_forgetGains ∈ tblA := tA (List.mem_of_getElem? (i := 416) (by decide +kernel)) rfl
theorem ml_X0_83 : Cond.methodLink RX0 83 yX0_gainAt ∈ tblA := tA (List.mem_of_getElem? (i := 432) (by decide +kernel)) rfl
theorem ml_X1_22 : Cond.methodLink RX1 22 yX4_copyFrom ∈ tblA := tA (List.mem_of_getElem? (i := 324) (by decide +kernel)) rfl
theorem ml_X1_29 : Cond.methodLink RX1 29 Lib.Math.min.name ∈ tblA := tA (List.mem_of_getElem? (i := 380) (by decide +kernel)) rfl
theorem ml_X2_15 : Cond.methodLink RX2 15 yX2_above ∈ tblA := tA (List.mem_of_getElem? (i := 361) (by decide +kernel)) rfl
theorem ml_X2_19 : Cond.methodLink RX2 19 Lib.Math.max.name ∈ tblA := tA (List.mem_of_getElem? (i := 364) (by decide +kernel)) rfl
theorem ml_X2_24 : Cond.methodLink RX2 24 Lib.Math.min.name ∈ tblA := tA (List.mem_of_getElem? (i := 371) (by decide +kernel)) rfl
theorem ml_X3_18 : Cond.methodLink RX3 18 yX3_placeOf ∈ tblA := tA (List.mem_of_getElem? (i := 398) (by decide +kernel)) rfl
theorem ml_X3_26 : Cond.methodLink RX3 26 yX3_between ∈ tblA := tA (List.mem_of_getElem? (i := 537) (by decide +kernel)) rfl
theorem ml_X4_102 : Cond.methodLink RX4 102 yX0_forgetGains ∈ tblA := tA (List.mem_of_getElem? (i := 179) (by decide +kernel)) rfl
theorem ml_X4_103 : Cond.methodLink RX4 103 yX4_rests ∈ tblA := tA (List.mem_of_getElem? (i := 350) (by decide +kernel)) rfl
theorem ml_X4_106 : Cond.methodLink RX4 106 yX2_countOf ∈ tblA := tA (List.mem_of_getElem? (i := 358) (by decide +kernel)) rfl
theorem ml_X4_110 : Cond.methodLink RX4 110 yX2_lay ∈ tblA := tA (List.mem_of_getElem? (i := 367) (by decide +kernel)) rfl
theorem ml_X4_122 : Cond.methodLink RX4 122 yX3_put ∈ tblA := tA (List.mem_of_getElem? (i := 394) (by decide +kernel)) rfl
theorem ml_X4_127 : Cond.methodLink RX4 127 yX0_become ∈ tblA := tA (List.mem_of_getElem? (i := 411) (by decide +kernel)) rfl
theorem ml_X4_137 : Cond.methodLink RX4 137 yX4_reasonToRefuse ∈ tblA := tA (List.mem_of_getElem? (i := 456) (by decide +kernel)) rfl
theorem ml_X4_148 : Cond.methodLink RX4 148 yX4_beginAbort ∈ tblA := tA (List.mem_of_getElem? (i := 517) (by decide +kernel)) rfl
theorem ml_X4_152 : Cond.methodLink RX4 152 yX4_doLoop ∈ tblA := tA (List.mem_of_getElem? (i := 468) (by decide +kernel)) rfl
theorem ml_X4_155 : Cond.methodLink RX4 155 yX4_rampDown ∈ tblA := tA (List.mem_of_getElem? (i := 472) (by decide +kernel)) rfl
theorem ml_X4_158 : Cond.methodLink RX4 158 yX4_hasLine ∈ tblA := tA (List.mem_of_getElem? (i := 476) (by decide +kernel)) rfl
theorem ml_X4_164 : Cond.methodLink RX4 164 yX4_measureLevels ∈ tblA := tA (List.mem_of_getElem? (i := 480) (by decide +kernel)) rfl
theorem ml_X4_168 : Cond.methodLink RX4 168 yX4_countLoop ∈ tblA := tA (List.mem_of_getElem? (i := 504) (by decide +kernel)) rfl
theorem ml_X4_171 : Cond.methodLink RX4 171 yX4_nextLine ∈ tblA := tA (List.mem_of_getElem? (i := 521) (by decide +kernel)) rfl
theorem ml_X4_174 : Cond.methodLink RX4 174 yX4_goTo ∈ tblA := tA (List.mem_of_getElem? (i := 529) (by decide +kernel)) rfl
theorem ml_X4_178 : Cond.methodLink RX4 178 yX0_measure ∈ tblA := tA (List.mem_of_getElem? (i := 484) (by decide +kernel)) rfl
theorem ml_X4_182 : Cond.methodLink RX4 182 yX4_controlLevel ∈ tblA := tA (List.mem_of_getElem? (i := 496) (by decide +kernel)) rfl
theorem ml_X4_194 : Cond.methodLink RX4 194 Lib.Math.max.name ∈ tblA := tA (List.mem_of_getElem? (i := 500) (by decide +kernel)) rfl
theorem ml_X4_199 : Cond.methodLink RX4 199 Lib.Math.min.name ∈ tblA := tA (List.mem_of_getElem? (i := 501) (by decide +kernel)) rfl
theorem ml_X4_202 : Cond.methodLink RX4 202 yX0_countLoop ∈ tblA := tA (List.mem_of_getElem? (i := 508) (by decide +kernel)) rfl
theorem ml_X4_207 : Cond.methodLink RX4 207 yX4_lineAhead ∈ tblA := tA (List.mem_of_getElem? (i := 525) (by decide +kernel)) rfl
theorem ml_X4_210 : Cond.methodLink RX4 210 yX3_targetAt ∈ tblA := tA (List.mem_of_getElem? (i := 533) (by decide +kernel)) rfl
theorem ml_X4_213 : Cond.methodLink RX4 213 yX4_wantedDrive ∈ tblA := tA (List.mem_of_getElem? (i := 541) (by decide +kernel)) rfl
theorem ml_X4_217 : Cond.methodLink RX4 217 Lib.MathLoose.max_long.x ∈ tblA := tA (List.mem_of_getElem? (i := 547) (by decide +kernel)) rfl
theorem ml_X4_220 : Cond.methodLink RX4 220 Lib.MathLoose.min_long.x ∈ tblA := tA (List.mem_of_getElem? (i := 550) (by decide +kernel)) rfl
theorem ml_X4_222 : Cond.methodLink RX4 222 yX0_notchedDrive ∈ tblA := tA (List.mem_of_getElem? (i := 553) (by decide +kernel)) rfl
theorem ml_X4_231 : Cond.methodLink RX4 231 yX2_copyFrom ∈ tblA := tA (List.mem_of_getElem? (i := 328) (by decide +kernel)) rfl
theorem ml_X4_235 : Cond.methodLink RX4 235 yX3_copyFrom ∈ tblA := tA (List.mem_of_getElem? (i := 333) (by decide +kernel)) rfl
theorem ml_X4_238 : Cond.methodLink RX4 238 yX0_copyFrom ∈ tblA := tA (List.mem_of_getElem? (i := 338) (by decide +kernel)) rfl
theorem ml_X4_59 : Cond.methodLink RX4 59 yX4_forgetRun ∈ tblA := tA (List.mem_of_getElem? (i := 163) (by decide +kernel)) rfl
theorem ml_X4_62 : Cond.methodLink RX4 62 yX4_forgetGains ∈ tblA := tA (List.mem_of_getElem? (i := 175) (by decide +kernel)) rfl
theorem ml_X4_75 : Cond.methodLink RX4 75 yX4_measures ∈ tblA := tA (List.mem_of_getElem? (i := 354) (by decide +kernel)) rfl
theorem ml_X4_79 : Cond.methodLink RX4 79 yX0_forgetRun ∈ tblA := tA (List.mem_of_getElem? (i := 167) (by decide +kernel)) rfl
theorem ml_X4_80 : Cond.methodLink RX4 80 yJ7_fill_53178 ∈ tblA := tA (List.mem_of_getElem? (i := 174) (by decide +kernel)) rfl
theorem ml_X5_26 : Cond.methodLink RX5 26 yX5_rewind ∈ tblA := tA (List.mem_of_getElem? (i := 566) (by decide +kernel)) rfl
theorem ml_X5_29 : Cond.methodLink RX5 29 yX5_readAct ∈ tblA := tA (List.mem_of_getElem? (i := 570) (by decide +kernel)) rfl
theorem ml_X5_33 : Cond.methodLink RX5 33 yX5_here ∈ tblA := tA (List.mem_of_getElem? (i := 574) (by decide +kernel)) rfl
theorem ml_X5_40 : Cond.methodLink RX5 40 yX5_readFirst ∈ tblA := tA (List.mem_of_getElem? (i := 579) (by decide +kernel)) rfl
theorem ml_X5_44 : Cond.methodLink RX5 44 yX5_readSign ∈ tblA := tA (List.mem_of_getElem? (i := 587) (by decide +kernel)) rfl
theorem ml_X5_48 : Cond.methodLink RX5 48 yX5_readSecond ∈ tblA := tA (List.mem_of_getElem? (i := 591) (by decide +kernel)) rfl
theorem ml_X5_51 : Cond.methodLink RX5 51 yX5_readNumber ∈ tblA := tA (List.mem_of_getElem? (i := 583) (by decide +kernel)) rfl
theorem ml_X6_102 : Cond.methodLink RX6 102 yX5_findFault ∈ tblA := tA (List.mem_of_getElem? (i := 562) (by decide +kernel)) rfl
theorem ml_X6_105 : Cond.methodLink RX6 105 yX5_rewind ∈ tblA := tA (List.mem_of_getElem? (i := 595) (by decide +kernel)) rfl
theorem ml_X6_108 : Cond.methodLink RX6 108 yX5_readAct ∈ tblA := tA (List.mem_of_getElem? (i := 596) (by decide +kernel)) rfl
theorem ml_X6_112 : Cond.methodLink RX6 112 yX6_carryOutAct ∈ tblA := tA (List.mem_of_getElem? (i := 597) (by decide +kernel)) rfl
theorem ml_X6_124 : Cond.methodLink RX6 124 yX1_takeBack ∈ tblA := tA (List.mem_of_getElem? (i := 613) (by decide +kernel)) rfl
theorem ml_X6_128 : Cond.methodLink RX6 128 yX6_isSlot ∈ tblA := tA (List.mem_of_getElem? (i := 621) (by decide +kernel)) rfl
theorem ml_X6_131 : Cond.methodLink RX6 131 yX4_copyFrom ∈ tblA := tA (List.mem_of_getElem? (i := 624) (by decide +kernel)) rfl
theorem ml_X6_137 : Cond.methodLink RX6 137 yX6_isWithin ∈ tblA := tA (List.mem_of_getElem? (i := 392) (by decide +kernel)) rfl
theorem ml_X6_141 : Cond.methodLink RX6 141 yX1_keepNoted ∈ tblA := tA (List.mem_of_getElem? (i := 376) (by decide +kernel)) rfl
theorem ml_X6_154 : Cond.methodLink RX6 154 yX6_lookAtLine ∈ tblA := tA (List.mem_of_getElem? (i := 693) (by decide +kernel)) rfl
theorem ml_X6_158 : Cond.methodLink RX6 158 yX6_isFrequency ∈ tblA := tA (List.mem_of_getElem? (i := 633) (by decide +kernel)) rfl
theorem ml_X6_165 : Cond.methodLink RX6 165 yX3_targetAt ∈ tblA := tA (List.mem_of_getElem? (i := 634) (by decide +kernel)) rfl
theorem ml_X6_170 : Cond.methodLink RX6 170 yX0_gainAt ∈ tblA := tA (List.mem_of_getElem? (i := 740) (by decide +kernel)) rfl
theorem ml_X6_173 : Cond.methodLink RX6 173 yX0_limitAt ∈ tblA := tA (List.mem_of_getElem? (i := 714) (by decide +kernel)) rfl
theorem ml_X6_176 : Cond.methodLink RX6 176 yX0_propertyOf ∈ tblA := tA (List.mem_of_getElem? (i := 719) (by decide +kernel)) rfl
theorem ml_X6_197 : Cond.methodLink RX6 197 yX0_resonanceAt ∈ tblA := tA (List.mem_of_getElem? (i := 639) (by decide +kernel)) rfl
theorem ml_X6_204 : Cond.methodLink RX6 204 yX4_totalOf ∈ tblA := tA (List.mem_of_getElem? (i := 659) (by decide +kernel)) rfl
theorem ml_X6_207 : Cond.methodLink RX6 207 yX4_hasLine ∈ tblA := tA (List.mem_of_getElem? (i := 697) (by decide +kernel)) rfl
theorem ml_X6_210 : Cond.methodLink RX6 210 yX4_rests ∈ tblA := tA (List.mem_of_getElem? (i := 667) (by decide +kernel)) rfl
theorem ml_X6_213 : Cond.methodLink RX6 213 yX4_doLoop ∈ tblA := tA (List.mem_of_getElem? (i := 668) (by decide +kernel)) rfl
theorem ml_X6_216 : Cond.methodLink RX6 216 yX4_measures ∈ tblA := tA (List.mem_of_getElem? (i := 673) (by decide +kernel)) rfl
theorem ml_X6_225 : Cond.methodLink RX6 225 Lib.Math.max.name ∈ tblA := tA (List.mem_of_getElem? (i := 674) (by decide +kernel)) rfl
theorem ml_X6_230 : Cond.methodLink RX6 230 Lib.Math.min.name ∈ tblA := tA (List.mem_of_getElem? (i := 157) (by decide +kernel)) rfl
theorem ml_X6_233 : Cond.methodLink RX6 233 arraycopyName ∈ tblA := tA (List.mem_of_getElem? (i := 160) (by decide +kernel)) rfl
theorem ml_X6_41 : Cond.methodLink RX6 41 yX1_note ∈ tblA := tA (List.mem_of_getElem? (i := 320) (by decide +kernel)) rfl
theorem ml_X6_45 : Cond.methodLink RX6 45 yX4_layLines ∈ tblA := tA (List.mem_of_getElem? (i := 343) (by decide +kernel)) rfl
theorem ml_X6_49 : Cond.methodLink RX6 49 yX6_recorded ∈ tblA := tA (List.mem_of_getElem? (i := 372) (by decide +kernel)) rfl
theorem ml_X6_53 : Cond.methodLink RX6 53 yX4_putPoint ∈ tblA := tA (List.mem_of_getElem? (i := 385) (by decide +kernel)) rfl
theorem ml_X6_57 : Cond.methodLink RX6 57 yX4_joinChannel ∈ tblA := tA (List.mem_of_getElem? (i := 406) (by decide +kernel)) rfl
theorem ml_X6_61 : Cond.methodLink RX6 61 yX4_hasChannel ∈ tblA := tA (List.mem_of_getElem? (i := 421) (by decide +kernel)) rfl
theorem ml_X6_69 : Cond.methodLink RX6 69 yX0_putMode ∈ tblA := tA (List.mem_of_getElem? (i := 425) (by decide +kernel)) rfl
theorem ml_X6_75 : Cond.methodLink RX6 75 yX0_putNotch ∈ tblA := tA (List.mem_of_getElem? (i := 756) (by decide +kernel)) rfl
theorem ml_X6_78 : Cond.methodLink RX6 78 yX4_changeSetting ∈ tblA := tA (List.mem_of_getElem? (i := 440) (by decide +kernel)) rfl
theorem ml_X6_81 : Cond.methodLink RX6 81 yX4_begin ∈ tblA := tA (List.mem_of_getElem? (i := 452) (by decide +kernel)) rfl
theorem ml_X6_84 : Cond.methodLink RX6 84 yX4_doLoops ∈ tblA := tA (List.mem_of_getElem? (i := 464) (by decide +kernel)) rfl
theorem ml_X6_87 : Cond.methodLink RX6 87 yX4_holdOrGoOn ∈ tblA := tA (List.mem_of_getElem? (i := 601) (by decide +kernel)) rfl
theorem ml_X6_91 : Cond.methodLink RX6 91 yX4_abortByHand ∈ tblA := tA (List.mem_of_getElem? (i := 605) (by decide +kernel)) rfl
theorem ml_X6_95 : Cond.methodLink RX6 95 yX5_add ∈ tblA := tA (List.mem_of_getElem? (i := 776) (by decide +kernel)) rfl
theorem mn_X0_100 : Cond.methodLinkNest RX0 100 yX6_averagedGain "ShakerSweep" ∈ tblA := tA (List.mem_of_getElem? (i := 493) (by decide +kernel)) rfl
theorem mn_X0_122 : Cond.methodLinkNest RX0 122 yX6_copyRow "ShakerSweep" ∈ tblA := tA (List.mem_of_getElem? (i := 342) (by decide +kernel)) rfl
theorem mn_X0_74 : Cond.methodLinkNest RX0 74 yX6_isWithin "ShakerSweep" ∈ tblA := tA (List.mem_of_getElem? (i := 429) (by decide +kernel)) rfl
theorem mn_X0_78 : Cond.methodLinkNest RX0 78 yX6_isFrequency "ShakerSweep" ∈ tblA := tA (List.mem_of_getElem? (i := 430) (by decide +kernel)) rfl
theorem mn_X0_93 : Cond.methodLinkNest RX0 93 yX6_measuredGain "ShakerSweep" ∈ tblA := tA (List.mem_of_getElem? (i := 489) (by decide +kernel)) rfl
theorem mn_X2_31 : Cond.methodLinkNest RX2 31 yX6_copyRow "ShakerSweep" ∈ tblA := tA (List.mem_of_getElem? (i := 332) (by decide +kernel)) rfl
theorem mn_X3_30 : Cond.methodLinkNest RX3 30 yX6_copyRow "ShakerSweep" ∈ tblA := tA (List.mem_of_getElem? (i := 337) (by decide +kernel)) rfl
theorem mn_X4_117 : Cond.methodLinkNest RX4 117 yX6_isFrequency "ShakerSweep" ∈ tblA := tA (List.mem_of_getElem? (i := 389) (by decide +kernel)) rfl
theorem mn_X4_131 : Cond.fieldLinkNest RX4 131 "ShakerSweep" "SETTING_LEAST" "[I" "ShakerSweep" ∈ tblA := tA (List.mem_of_getElem? (i := 444) (by decide +kernel)) rfl
theorem mn_X4_134 : Cond.fieldLinkNest RX4 134 "ShakerSweep" "SETTING_GREATEST" "[I" "ShakerSweep" ∈ tblA := tA (List.mem_of_getElem? (i := 446) (by decide +kernel)) rfl
theorem mn_X4_185 : Cond.methodLinkNest RX4 185 yX6_measuredGain "ShakerSweep" ∈ tblA := tA (List.mem_of_getElem? (i := 502) (by decide +kernel)) rfl
theorem mn_X4_188 : Cond.methodLinkNest RX4 188 yX6_averagedGain "ShakerSweep" ∈ tblA := tA (List.mem_of_getElem? (i := 503) (by decide +kernel)) rfl
theorem mn_X4_55 : Cond.methodLinkNest RX4 55 yX6_copyRow "ShakerSweep" ∈ tblA := tA (List.mem_of_getElem? (i := 154) (by decide +kernel)) rfl
theorem mn_X4_68 : Cond.methodLinkNest RX4 68 yX6_isWithin "ShakerSweep" ∈ tblA := tA (List.mem_of_getElem? (i := 347) (by decide +kernel)) rfl
theorem mn_X5_15 : Cond.methodLinkNest RX5 15 yX6_isWithin "ShakerSweep" ∈ tblA := tA (List.mem_of_getElem? (i := 578) (by decide +kernel)) rfl
