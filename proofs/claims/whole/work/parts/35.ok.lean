/-! each method does what its function says: by program, a row an instruction -/
section OK
variable {p : Program} {l : Launch} {e : Env} {s : State} {m : MethodId} {args : Array Value} {below : List Frame} {meth : Method} {c : Code} {D : va_G} {dA : Nat → ClassId} {ad : Nat → Nat} {lo n : Nat} {A : Nat → Prop}
set_option maxHeartbeats 4000000 in
set_option maxRecDepth 100000 in
theorem ok_X7_measures_29 {a0 : Nat} (X : CX p s m args meth c cX7_measures 8 RX7 D dA ad lo n A) (hr : meth.sig.returnType = (some .int)) (h0 : tMo lo n a0) : ∀ (k : Nat) (x1 : Int32) (x2 : Int32) (y3 : Int64) (x5 : Int32) (M : MM) (R : (Int32 × MM)), f_X7_measures_29 a0 k x1 x2 y3 x5 M = some R → AR p l e 2 52 s m args below meth c D dA ad lo n 8 A (some (.int R.1)) R.2 29 [(0, .ref a0), (1, .int x1), (2, .int x2), (3, .long (y3)), (5, .int x5)] [] M := by
  intro k
  induction k with
  | zero => intro _ _ _ _ _ R h; exact none_some h
  | succ k ih =>
    intro x1 x2 y3 x5 M R h
    unfold f_X7_measures_29 at h
    refine AW.iload (k0 := 4) (pc' := 31) X rfl dX7_measures_29 rfl ?_
    refine AW.aload_n (k0 := 0) (pc' := 32) X rfl rfl dX7_measures_31 rfl ?_
    refine AW.gX7 (v := .ref (a0 + 1)) (pc' := 35) X h0 0 (by decide) rfl mf_X7_7 rfl dX7_measures_32 rfl ?_
    refine AW.iconst (v := 5) (pc' := 36) X rfl dX7_measures_35 rfl ?_
    obtain ⟨g1, h⟩ := gd_some h
    refine AW.iald (pc' := 37) X (rM1 h0) (inb_vp g1) dX7_measures_36 rfl ?_
    refine AW.icmp_ge (pc' := 40) (tgt := 135) X dX7_measures_37 rfl rfl (fun q2 => ?_) (fun q2 => ?_)
    · replace h := itep q2 h
      refine AW.aload_n (k0 := 0) (pc' := 136) X rfl rfl dX7_measures_135 rfl ?_
      obtain ⟨v3, c3, h⟩ := Option.bind_eq_some_iff.mp h
      refine AW.callV (As := []) (rest := []) (rv := (some (.int v3))) (M' := M) (pc' := 139) X (ok_X7_controlLevel h0 c3) yv_X7_controlLevel h0.1 h0.2.1 (cM h0 dA ad _) rfl rfl ml_X7_94 ⟨by decide, by decide, by decide, by decide⟩ rfl (Nat.le_of_ble_eq_true rfl) rfl rfl dX7_measures_136 rfl ?_
      refine AW.istore (ls' := [(5, .int v3), (0, .ref a0), (1, .int x1), (2, .int x2), (3, .long (y3))]) (pc' := 141) X (by decide) rfl dX7_measures_139 rfl ?_
      refine AW.aload_n (k0 := 1) (pc' := 142) X rfl rfl dX7_measures_141 rfl ?_
      refine AW.gX7 (v := .ref (a0 + 1)) (pc' := 145) X h0 0 (by decide) rfl mf_X7_7 rfl dX7_measures_142 rfl ?_
      refine AW.sipush (v := 1508) (pc' := 148) X rfl dX7_measures_145 rfl ?_
      refine AW.iload_n (k0 := 2) (pc' := 149) X rfl rfl dX7_measures_148 rfl ?_
      refine AW.iadd (pc' := 150) X dX7_measures_149 rfl ?_
      refine AW.aload_n (k0 := 1) (pc' := 151) X rfl rfl dX7_measures_150 rfl ?_
      refine AW.aload_n (k0 := 1) (pc' := 152) X rfl rfl dX7_measures_151 rfl ?_
      refine AW.gX7 (v := .ref (a0 + 1)) (pc' := 155) X h0 0 (by decide) rfl mf_X7_7 rfl dX7_measures_152 rfl ?_
      refine AW.sipush (v := 1508) (pc' := 158) X rfl dX7_measures_155 rfl ?_
      refine AW.iload_n (k0 := 2) (pc' := 159) X rfl rfl dX7_measures_158 rfl ?_
      refine AW.iadd (pc' := 160) X dX7_measures_159 rfl ?_
      obtain ⟨g4, h⟩ := gd_some h
      refine AW.iald (pc' := 161) X (rM1 h0) (inb_vp g4) dX7_measures_160 rfl ?_
      refine AW.iload (k0 := 0) (pc' := 163) X rfl dX7_measures_161 rfl ?_
      refine AW.i2l (pc' := 164) X dX7_measures_163 rfl ?_
      refine AW.ldc2 (pc' := 167) X mk_X7_89 dX7_measures_164 rfl ?_
      refine AW.lmul (pc' := 168) X dX7_measures_167 rfl ?_
      refine AW.lload_n (k0 := 4) (pc' := 169) X rfl rfl dX7_measures_168 rfl ?_
      obtain ⟨g5, h⟩ := gd_some h
      refine AW.ldiv (pc' := 170) X (nzl_ne g5) dX7_measures_169 rfl ?_
      refine AW.l2i (pc' := 171) X dX7_measures_170 rfl ?_
      obtain ⟨v6, c6, h⟩ := Option.bind_eq_some_iff.mp h
      refine AW.callV (As := [.int (M (a0 + 1) (ix (1508 + x1))), .int (Int64.toInt32 (((Int32.toInt64 v3) * 1000) / y3))]) (rest := [.int (1508 + x1), .ref (a0 + 1)]) (rv := (some (.int v6))) (M' := M) (pc' := 174) X (ok_X7_averagedBy h0 c6) yv_X7_averagedBy h0.1 h0.2.1 (cM h0 dA ad _) rfl rfl ml_X7_91 ⟨by decide, by decide, by decide, by decide⟩ rfl (Nat.le_of_ble_eq_true rfl) rfl rfl dX7_measures_171 rfl ?_
      obtain ⟨g7, h⟩ := gd_some h
      refine AW.iast (pc' := 175) X (rM1 h0) (inb_vp g7) dX7_measures_174 rfl ?_
      refine AW.iload (k0 := 0) (pc' := 177) X rfl dX7_measures_175 rfl ?_
      replace h := Option.some.inj h
      subst h
      exact AW.iret X hr dX7_measures_177
    · replace h := iten q2 h
      refine AW.bipush (v := 6) (pc' := 42) X rfl dX7_measures_40 rfl ?_
      refine AW.iload_n (k0 := 1) (pc' := 43) X rfl rfl dX7_measures_42 rfl ?_
      refine AW.imul (pc' := 44) X dX7_measures_43 rfl ?_
      refine AW.iload (k0 := 4) (pc' := 46) X rfl dX7_measures_44 rfl ?_
      refine AW.iadd (pc' := 47) X dX7_measures_46 rfl ?_
      refine AW.istore (ls' := [(6, .int ((6 * x1) + x5)), (0, .ref a0), (1, .int x1), (2, .int x2), (3, .long (y3)), (5, .int x5)]) (pc' := 49) X (by decide) rfl dX7_measures_47 rfl ?_
      refine AW.aload_n (k0 := 1) (pc' := 50) X rfl rfl dX7_measures_49 rfl ?_
      refine AW.iload (k0 := 5) (pc' := 52) X rfl dX7_measures_50 rfl ?_
      refine AW.iload_n (k0 := 3) (pc' := 53) X rfl rfl dX7_measures_52 rfl ?_
      obtain ⟨v8, c8, h⟩ := Option.bind_eq_some_iff.mp h
      refine AW.callV (As := [.int x5, .int x2]) (rest := []) (rv := (some (.int v8))) (M' := M) (pc' := 56) X (ok_X7_gainOf h0 c8) yv_X7_gainOf h0.1 h0.2.1 (cM h0 dA ad _) rfl rfl ml_X7_62 ⟨by decide, by decide, by decide, by decide⟩ rfl (Nat.le_of_ble_eq_true rfl) rfl rfl dX7_measures_53 rfl ?_
      refine AW.i2l (pc' := 57) X dX7_measures_56 rfl ?_
      refine AW.lload_n (k0 := 4) (pc' := 58) X rfl rfl dX7_measures_57 rfl ?_
      refine AW.lmul (pc' := 59) X dX7_measures_58 rfl ?_
      refine AW.ldc2 (pc' := 62) X mk_X7_89 dX7_measures_59 rfl ?_
      refine AW.ldiv (pc' := 63) X (by decide) dX7_measures_62 rfl ?_
      refine AW.l2i (pc' := 64) X dX7_measures_63 rfl ?_
      refine AW.istore (ls' := [(7, .int (Int64.toInt32 (((Int32.toInt64 v8) * y3) / 1000))), (6, .int ((6 * x1) + x5)), (0, .ref a0), (1, .int x1), (2, .int x2), (3, .long (y3)), (5, .int x5)]) (pc' := 66) X (by decide) rfl dX7_measures_64 rfl ?_
      refine AW.aload_n (k0 := 2) (pc' := 67) X rfl rfl dX7_measures_66 rfl ?_
      refine AW.gX7 (v := .ref (a0 + 1)) (pc' := 70) X h0 0 (by decide) rfl mf_X7_7 rfl dX7_measures_67 rfl ?_
      refine AW.sipush (v := 308) (pc' := 73) X rfl dX7_measures_70 rfl ?_
      refine AW.iload (k0 := 1) (pc' := 75) X rfl dX7_measures_73 rfl ?_
      refine AW.iadd (pc' := 76) X dX7_measures_75 rfl ?_
      refine AW.iload (k0 := 0) (pc' := 78) X rfl dX7_measures_76 rfl ?_
      obtain ⟨g10, h⟩ := gd_some h
      refine AW.iast (pc' := 79) X (rM1 h0) (inb_vp g10) dX7_measures_78 rfl ?_
      refine AW.aload_n (k0 := 2) (pc' := 80) X rfl rfl dX7_measures_79 rfl ?_
      refine AW.gX7 (v := .ref (a0 + 4)) (pc' := 83) X h0 5 (by decide) rfl mf_X7_20 rfl dX7_measures_80 rfl ?_
      refine AW.iload (k0 := 6) (pc' := 85) X rfl dX7_measures_83 rfl ?_
      refine AW.iload (k0 := 0) (pc' := 87) X rfl dX7_measures_85 rfl ?_
      refine AW.i2l (pc' := 88) X dX7_measures_87 rfl ?_
      refine AW.ldc2 (pc' := 91) X mk_X7_89 dX7_measures_88 rfl ?_
      refine AW.lmul (pc' := 92) X dX7_measures_91 rfl ?_
      refine AW.lload_n (k0 := 5) (pc' := 93) X rfl rfl dX7_measures_92 rfl ?_
      obtain ⟨g11, h⟩ := gd_some h
      refine AW.ldiv (pc' := 94) X (nzl_ne g11) dX7_measures_93 rfl ?_
      refine AW.l2i (pc' := 95) X dX7_measures_94 rfl ?_
      obtain ⟨g12, h⟩ := gd_some h
      refine AW.iast (pc' := 96) X (rM4 h0) (inb_vp g12) dX7_measures_95 rfl ?_
      refine AW.aload_n (k0 := 2) (pc' := 97) X rfl rfl dX7_measures_96 rfl ?_
      refine AW.gX7 (v := .ref (a0 + 1)) (pc' := 100) X h0 0 (by decide) rfl mf_X7_7 rfl dX7_measures_97 rfl ?_
      refine AW.sipush (v := 908) (pc' := 103) X rfl dX7_measures_100 rfl ?_
      refine AW.iload (k0 := 1) (pc' := 105) X rfl dX7_measures_103 rfl ?_
      refine AW.iadd (pc' := 106) X dX7_measures_105 rfl ?_
      refine AW.aload_n (k0 := 2) (pc' := 107) X rfl rfl dX7_measures_106 rfl ?_
      refine AW.aload_n (k0 := 2) (pc' := 108) X rfl rfl dX7_measures_107 rfl ?_
      refine AW.gX7 (v := .ref (a0 + 1)) (pc' := 111) X h0 0 (by decide) rfl mf_X7_7 rfl dX7_measures_108 rfl ?_
      refine AW.sipush (v := 908) (pc' := 114) X rfl dX7_measures_111 rfl ?_
      refine AW.iload (k0 := 1) (pc' := 116) X rfl dX7_measures_114 rfl ?_
      refine AW.iadd (pc' := 117) X dX7_measures_116 rfl ?_
      obtain ⟨g13, h⟩ := gd_some h
      refine AW.iald (pc' := 118) X (rM1 h0) (inb_vp g13) dX7_measures_117 rfl ?_
      refine AW.aload_n (k0 := 2) (pc' := 119) X rfl rfl dX7_measures_118 rfl ?_
      refine AW.gX7 (v := .ref (a0 + 4)) (pc' := 122) X h0 5 (by decide) rfl mf_X7_20 rfl dX7_measures_119 rfl ?_
      refine AW.iload (k0 := 6) (pc' := 124) X rfl dX7_measures_122 rfl ?_
      obtain ⟨g14, h⟩ := gd_some h
      refine AW.iald (pc' := 125) X (rM4 h0) (inb_vp g14) dX7_measures_124 rfl ?_
      obtain ⟨v15, c15, h⟩ := Option.bind_eq_some_iff.mp h
      refine AW.callV (As := [.int ((ms (ms M (a0 + 1) (ix (308 + ((6 * x1) + x5))) (Int64.toInt32 (((Int32.toInt64 v8) * y3) / 1000))) (a0 + 4) (ix x5) (Int64.toInt32 (((Int32.toInt64 (Int64.toInt32 (((Int32.toInt64 v8) * y3) / 1000))) * 1000) / y3))) (a0 + 1) (ix (908 + ((6 * x1) + x5)))), .int ((ms (ms M (a0 + 1) (ix (308 + ((6 * x1) + x5))) (Int64.toInt32 (((Int32.toInt64 v8) * y3) / 1000))) (a0 + 4) (ix x5) (Int64.toInt32 (((Int32.toInt64 (Int64.toInt32 (((Int32.toInt64 v8) * y3) / 1000))) * 1000) / y3))) (a0 + 4) (ix x5))]) (rest := [.int (908 + ((6 * x1) + x5)), .ref (a0 + 1)]) (rv := (some (.int v15))) (M' := (ms (ms M (a0 + 1) (ix (308 + ((6 * x1) + x5))) (Int64.toInt32 (((Int32.toInt64 v8) * y3) / 1000))) (a0 + 4) (ix x5) (Int64.toInt32 (((Int32.toInt64 (Int64.toInt32 (((Int32.toInt64 v8) * y3) / 1000))) * 1000) / y3)))) (pc' := 128) X (ok_X7_averagedBy h0 c15) yv_X7_averagedBy h0.1 h0.2.1 (cM h0 dA ad _) rfl rfl ml_X7_91 ⟨by decide, by decide, by decide, by decide⟩ rfl (Nat.le_of_ble_eq_true rfl) rfl rfl dX7_measures_125 rfl ?_
      obtain ⟨g16, h⟩ := gd_some h
      refine AW.iast (pc' := 129) X (rM1 h0) (inb_vp g16) dX7_measures_128 rfl ?_
      refine AW.iinc (k0 := 6) (v := (x5 + 1)) (y := 1) (ls' := [(5, .int (x5 + 1)), (7, .int (Int64.toInt32 (((Int32.toInt64 v8) * y3) / 1000))), (6, .int ((6 * x1) + x5)), (0, .ref a0), (1, .int x1), (2, .int x2), (3, .long (y3))]) (pc' := 132) X rfl rfl rfl (by decide) rfl dX7_measures_129 rfl ?_
      refine AW.goto (pc' := 29) X dX7_measures_132 rfl ?_
      refine AW.sub (ls' := [(0, .ref a0), (1, .int x1), (2, .int x2), (3, .long (y3)), (5, .int (x5 + 1))]) [3, 4, 5, 6, 0] rfl ?_
      exact ih x1 x2 y3 (x5 + 1) (ms (ms (ms M (a0 + 1) (ix (308 + ((6 * x1) + x5))) (Int64.toInt32 (((Int32.toInt64 v8) * y3) / 1000))) (a0 + 4) (ix x5) (Int64.toInt32 (((Int32.toInt64 (Int64.toInt32 (((Int32.toInt64 v8) * y3) / 1000))) * 1000) / y3))) (a0 + 1) (ix (908 + ((6 * x1) + x5))) v15) R h
set_option maxHeartbeats 4000000 in
set_option maxRecDepth 100000 in
theorem ok_X7_measures {lo n : Nat} {a0 : Nat} {M : MM} {R : (Int32 × MM)} (h0 : tMo lo n a0) (h : f_X7_measures a0 M = some R) : MC yX7_measures cX7_measures 8 (some .int) 2 52 lo n [.ref a0] M (some (.int R.1)) R.2 := by
  refine MC.of (ls0 := [(0, .ref a0)]) (by decide) rfl (fun _ => Nat.le_of_ble_eq_true rfl) (fun p l e s m args below meth c D dA ad A X hr => ?_)
  replace X : CX p s m args meth c cX7_measures 8 RX7 D dA ad lo n A := X
  unfold f_X7_measures at h
  refine AW.aload_n (k0 := 0) (pc' := 1) X rfl rfl dX7_measures_0 rfl ?_
  refine AW.gX7 (v := .ref (a0 + 1)) (pc' := 4) X h0 0 (by decide) rfl mf_X7_7 rfl dX7_measures_1 rfl ?_
  refine AW.iconst (v := 2) (pc' := 5) X rfl dX7_measures_4 rfl ?_
  obtain ⟨g1, h⟩ := gd_some h
  refine AW.iald (pc' := 6) X (rM1 h0) (inb_vp g1) dX7_measures_5 rfl ?_
  refine AW.istore_n (ls' := [(1, .int (M (a0 + 1) (ix 2))), (0, .ref a0)]) (pc' := 7) X rfl (by decide) rfl dX7_measures_6 rfl ?_
  refine AW.aload_n (k0 := 1) (pc' := 8) X rfl rfl dX7_measures_7 rfl ?_
  refine AW.gX7 (v := .ref (a0 + 1)) (pc' := 11) X h0 0 (by decide) rfl mf_X7_7 rfl dX7_measures_8 rfl ?_
  refine AW.sipush (v := 208) (pc' := 14) X rfl dX7_measures_11 rfl ?_
  refine AW.iload_n (k0 := 0) (pc' := 15) X rfl rfl dX7_measures_14 rfl ?_
  refine AW.iadd (pc' := 16) X dX7_measures_15 rfl ?_
  obtain ⟨g2, h⟩ := gd_some h
  refine AW.iald (pc' := 17) X (rM1 h0) (inb_vp g2) dX7_measures_16 rfl ?_
  refine AW.istore_n (ls' := [(2, .int (M (a0 + 1) (ix (208 + (M (a0 + 1) (ix 2)))))), (1, .int (M (a0 + 1) (ix 2))), (0, .ref a0)]) (pc' := 18) X rfl (by decide) rfl dX7_measures_17 rfl ?_
  refine AW.aload_n (k0 := 2) (pc' := 19) X rfl rfl dX7_measures_18 rfl ?_
  refine AW.gX7 (v := .ref (a0 + 1)) (pc' := 22) X h0 0 (by decide) rfl mf_X7_7 rfl dX7_measures_19 rfl ?_
  refine AW.iconst (v := 3) (pc' := 23) X rfl dX7_measures_22 rfl ?_
  obtain ⟨g3, h⟩ := gd_some h
  refine AW.iald (pc' := 24) X (rM1 h0) (inb_vp g3) dX7_measures_23 rfl ?_
  refine AW.i2l (pc' := 25) X dX7_measures_24 rfl ?_
  refine AW.lstore_n (ls' := [(3, .long ((Int32.toInt64 (M (a0 + 1) (ix 3))))), (2, .int (M (a0 + 1) (ix (208 + (M (a0 + 1) (ix 2)))))), (1, .int (M (a0 + 1) (ix 2))), (0, .ref a0)]) (pc' := 26) X rfl (by decide) rfl dX7_measures_25 rfl ?_
  refine AW.iconst (v := 0) (pc' := 27) X rfl dX7_measures_26 rfl ?_
  refine AW.istore (ls' := [(5, .int 0), (3, .long ((Int32.toInt64 (M (a0 + 1) (ix 3))))), (2, .int (M (a0 + 1) (ix (208 + (M (a0 + 1) (ix 2)))))), (1, .int (M (a0 + 1) (ix 2))), (0, .ref a0)]) (pc' := 29) X (by decide) rfl dX7_measures_27 rfl ?_
  refine AW.sub (ls' := [(0, .ref a0), (1, .int (M (a0 + 1) (ix 2))), (2, .int (M (a0 + 1) (ix (208 + (M (a0 + 1) (ix 2)))))), (3, .long ((Int32.toInt64 (M (a0 + 1) (ix 3))))), (5, .int 0)]) [4, 3, 2, 1, 0] rfl ?_
  exact ok_X7_measures_29 X hr h0 FU (M (a0 + 1) (ix 2)) (M (a0 + 1) (ix (208 + (M (a0 + 1) (ix 2))))) (Int32.toInt64 (M (a0 + 1) (ix 3))) 0 M R h
set_option maxHeartbeats 4000000 in
set_option maxRecDepth 100000 in
theorem ok_X7_greater_10 {M : MM} (X : CX p s m args meth c cX7_greater 2 RX7 D dA ad lo n A) (hr : meth.sig.returnType = (some .int)) : ∀ (s0 : Int32) (R : Int32), f_X7_greater_10 M s0 = some R → AR p l e 0 0 s m args below meth c D dA ad lo n 2 A (some (.int R)) M 10 [] [.int s0] M := by
  intro s0 R h
  unfold f_X7_greater_10 at h
  replace h := Option.some.inj h
  subst h
  exact AW.iret X hr dX7_greater_10
set_option maxHeartbeats 4000000 in
set_option maxRecDepth 100000 in
theorem ok_X7_greater {lo n : Nat} {x0 : Int32} {x1 : Int32} {M : MM} {R : Int32}  (h : f_X7_greater x0 x1 M = some R) : MC yX7_greater cX7_greater 2 (some .int) 0 0 lo n [.int x0, .int x1] M (some (.int R)) M := by
  refine MC.of (ls0 := [(0, .int x0), (1, .int x1)]) (by decide) rfl (fun _ => Nat.le_of_ble_eq_true rfl) (fun p l e s m args below meth c D dA ad A X hr => ?_)
  replace X : CX p s m args meth c cX7_greater 2 RX7 D dA ad lo n A := X
  unfold f_X7_greater at h
  refine AW.iload_n (k0 := 0) (pc' := 1) X rfl rfl dX7_greater_0 rfl ?_
  refine AW.iload_n (k0 := 1) (pc' := 2) X rfl rfl dX7_greater_1 rfl ?_
  refine AW.icmp_le (pc' := 5) (tgt := 9) X dX7_greater_2 rfl rfl (fun q1 => ?_) (fun q1 => ?_)
  · replace h := itep q1 h
    refine AW.iload_n (k0 := 1) (pc' := 10) X rfl rfl dX7_greater_9 rfl ?_
    refine AW.sub (ls' := []) [] rfl ?_
    exact ok_X7_greater_10 X hr x1 R h
  · replace h := iten q1 h
    refine AW.iload_n (k0 := 0) (pc' := 6) X rfl rfl dX7_greater_5 rfl ?_
    refine AW.goto (pc' := 10) X dX7_greater_6 rfl ?_
    refine AW.sub (ls' := []) [] rfl ?_
    exact ok_X7_greater_10 X hr x0 R h
set_option maxHeartbeats 4000000 in
set_option maxRecDepth 100000 in
theorem ok_X7_watches_210 {a0 : Nat} (X : CX p s m args meth c cX7_watches 7 RX7 D dA ad lo n A) (hr : meth.sig.returnType = (some .int)) (h0 : tMo lo n a0) {rec12 : Int32 → Int32 → Int32 → MM → Option (Int32 × MM)} (hrec12 : ∀ (x1 : Int32) (x2 : Int32) (x3 : Int32) (M : MM) (R : (Int32 × MM)), rec12 x1 x2 x3 M = some R → AR p l e 2 48 s m args below meth c D dA ad lo n 7 A (some (.int R.1)) R.2 12 [(0, .ref a0), (1, .int x1), (2, .int x2), (3, .int x3)] [] M) : ∀ (x1 : Int32) (x3 : Int32) (s0 : Int32) (M : MM) (R : (Int32 × MM)), f_X7_watches_210 a0 rec12 x1 x3 s0 M = some R → AR p l e 2 48 s m args below meth c D dA ad lo n 7 A (some (.int R.1)) R.2 210 [(0, .ref a0), (1, .int x1), (3, .int x3)] [.int s0] M := by
  intro x1 x3 s0 M R h
  unfold f_X7_watches_210 at h
  refine AW.istore_n (ls' := [(2, .int s0), (0, .ref a0), (1, .int x1), (3, .int x3)]) (pc' := 211) X rfl (by decide) rfl dX7_watches_210 rfl ?_
  refine AW.iinc (k0 := 3) (v := (x3 + 1)) (y := 1) (ls' := [(3, .int (x3 + 1)), (2, .int s0), (0, .ref a0), (1, .int x1)]) (pc' := 214) X rfl rfl rfl (by decide) rfl dX7_watches_211 rfl ?_
  refine AW.goto (pc' := 12) X dX7_watches_214 rfl ?_
  refine AW.sub (ls' := [(0, .ref a0), (1, .int x1), (2, .int s0), (3, .int (x3 + 1))]) [2, 3, 1, 0] rfl ?_
  exact hrec12 x1 s0 (x3 + 1) M R h
set_option maxHeartbeats 4000000 in
set_option maxRecDepth 100000 in
theorem ok_X7_watches_209 {a0 : Nat} (X : CX p s m args meth c cX7_watches 7 RX7 D dA ad lo n A) (hr : meth.sig.returnType = (some .int)) (h0 : tMo lo n a0) {rec12 : Int32 → Int32 → Int32 → MM → Option (Int32 × MM)} (hrec12 : ∀ (x1 : Int32) (x2 : Int32) (x3 : Int32) (M : MM) (R : (Int32 × MM)), rec12 x1 x2 x3 M = some R → AR p l e 2 48 s m args below meth c D dA ad lo n 7 A (some (.int R.1)) R.2 12 [(0, .ref a0), (1, .int x1), (2, .int x2), (3, .int x3)] [] M) : ∀ (x1 : Int32) (x2 : Int32) (x3 : Int32) (M : MM) (R : (Int32 × MM)), f_X7_watches_209 a0 rec12 x1 x2 x3 M = some R → AR p l e 2 48 s m args below meth c D dA ad lo n 7 A (some (.int R.1)) R.2 209 [(0, .ref a0), (1, .int x1), (2, .int x2), (3, .int x3)] [] M := by
  intro x1 x2 x3 M R h
  unfold f_X7_watches_209 at h
  refine AW.iload_n (k0 := 2) (pc' := 210) X rfl rfl dX7_watches_209 rfl ?_
  refine AW.sub (ls' := [(0, .ref a0), (1, .int x1), (3, .int x3)]) [0, 1, 3] rfl ?_
  exact ok_X7_watches_210 X hr h0 hrec12 x1 x3 x2 M R h
set_option maxHeartbeats 4000000 in
set_option maxRecDepth 100000 in
theorem ok_X7_watches_181 {a0 : Nat} (X : CX p s m args meth c cX7_watches 7 RX7 D dA ad lo n A) (hr : meth.sig.returnType = (some .int)) (h0 : tMo lo n a0) {rec12 : Int32 → Int32 → Int32 → MM → Option (Int32 × MM)} (hrec12 : ∀ (x1 : Int32) (x2 : Int32) (x3 : Int32) (M : MM) (R : (Int32 × MM)), rec12 x1 x2 x3 M = some R → AR p l e 2 48 s m args below meth c D dA ad lo n 7 A (some (.int R.1)) R.2 12 [(0, .ref a0), (1, .int x1), (2, .int x2), (3, .int x3)] [] M) : ∀ (x1 : Int32) (x2 : Int32) (x3 : Int32) (s0 : Int32) (s1 : Int32) (s2 : Int32) (M : MM) (R : (Int32 × MM)), f_X7_watches_181 a0 rec12 x1 x2 x3 s0 s1 s2 M = some R → AR p l e 2 48 s m args below meth c D dA ad lo n 7 A (some (.int R.1)) R.2 181 [(0, .ref a0), (1, .int x1), (2, .int x2), (3, .int x3)] [.int s0, .int s1, .int s2, .ref a0] M := by
  intro x1 x2 x3 s0 s1 s2 M R h
  unfold f_X7_watches_181 at h
  obtain ⟨v1, c1, h⟩ := Option.bind_eq_some_iff.mp h
  refine AW.callV (As := [.int s2, .int s1, .int s0]) (rest := []) (rv := none) (M' := v1) (pc' := 184) X (ok_X7_setChannel h0 c1) yv_X7_setChannel h0.1 h0.2.1 (cM h0 dA ad _) rfl rfl ml_X7_37 ⟨by decide, by decide, by decide, by decide⟩ rfl (Nat.le_of_ble_eq_true rfl) rfl rfl dX7_watches_181 rfl ?_
  refine AW.iload_n (k0 := 2) (pc' := 185) X rfl rfl dX7_watches_184 rfl ?_
  refine AW.bipush (v := (-6)) (pc' := 187) X rfl dX7_watches_185 rfl ?_
  refine AW.icmp_ne (pc' := 190) (tgt := 209) X dX7_watches_187 rfl rfl (fun q2 => ?_) (fun q2 => ?_)
  · replace h := iten q2 h
    exact ok_X7_watches_209 X hr h0 hrec12 x1 x2 x3 v1 R h
  · replace h := itep q2 h
    refine AW.aload_n (k0 := 0) (pc' := 191) X rfl rfl dX7_watches_190 rfl ?_
    refine AW.iload_n (k0 := 3) (pc' := 192) X rfl rfl dX7_watches_191 rfl ?_
    refine AW.bipush (v := 28) (pc' := 194) X rfl dX7_watches_192 rfl ?_
    obtain ⟨v3, c3, h⟩ := Option.bind_eq_some_iff.mp h
    refine AW.callV (As := [.int x3, .int 28]) (rest := []) (rv := (some (.int v3))) (M' := v1) (pc' := 197) X (ok_X7_ofChannel h0 c3) yv_X7_ofChannel h0.1 h0.2.1 (cM h0 dA ad _) rfl rfl ml_X7_65 ⟨by decide, by decide, by decide, by decide⟩ rfl (Nat.le_of_ble_eq_true rfl) rfl rfl dX7_watches_194 rfl ?_
    refine AW.aload_n (k0 := 0) (pc' := 198) X rfl rfl dX7_watches_197 rfl ?_
    refine AW.iconst (v := 2) (pc' := 199) X rfl dX7_watches_198 rfl ?_
    obtain ⟨v4, c4, h⟩ := Option.bind_eq_some_iff.mp h
    refine AW.callV (As := [.int 2]) (rest := [.int v3]) (rv := (some (.int v4))) (M' := v1) (pc' := 202) X (ok_X7_setting h0 c4) yv_X7_setting h0.1 h0.2.1 (cM h0 dA ad _) rfl rfl ml_X7_78 ⟨by decide, by decide, by decide, by decide⟩ rfl (Nat.le_of_ble_eq_true rfl) rfl rfl dX7_watches_199 rfl ?_
    refine AW.icmp_lt (pc' := 205) (tgt := 209) X dX7_watches_202 rfl rfl (fun q5 => ?_) (fun q5 => ?_)
    · replace h := itep q5 h
      exact ok_X7_watches_209 X hr h0 hrec12 x1 x2 x3 v1 R h
    · replace h := iten q5 h
      refine AW.iload_n (k0 := 3) (pc' := 206) X rfl rfl dX7_watches_205 rfl ?_
      refine AW.goto (pc' := 210) X dX7_watches_206 rfl ?_
      refine AW.sub (ls' := [(0, .ref a0), (1, .int x1), (3, .int x3)]) [0, 1, 3] rfl ?_
      exact ok_X7_watches_210 X hr h0 hrec12 x1 x3 x3 v1 R h
set_option maxHeartbeats 4000000 in
set_option maxRecDepth 100000 in
theorem ok_X7_watches_153 {a0 : Nat} (X : CX p s m args meth c cX7_watches 7 RX7 D dA ad lo n A) (hr : meth.sig.returnType = (some .int)) (h0 : tMo lo n a0) {rec12 : Int32 → Int32 → Int32 → MM → Option (Int32 × MM)} (hrec12 : ∀ (x1 : Int32) (x2 : Int32) (x3 : Int32) (M : MM) (R : (Int32 × MM)), rec12 x1 x2 x3 M = some R → AR p l e 2 48 s m args below meth c D dA ad lo n 7 A (some (.int R.1)) R.2 12 [(0, .ref a0), (1, .int x1), (2, .int x2), (3, .int x3)] [] M) : ∀ (x1 : Int32) (x2 : Int32) (x3 : Int32) (x4 : Int32) (M : MM) (R : (Int32 × MM)), f_X7_watches_153 a0 rec12 x1 x2 x3 x4 M = some R → AR p l e 2 48 s m args below meth c D dA ad lo n 7 A (some (.int R.1)) R.2 153 [(0, .ref a0), (1, .int x1), (2, .int x2), (3, .int x3), (4, .int x4)] [] M := by
  intro x1 x2 x3 x4 M R h
  unfold f_X7_watches_153 at h
  refine AW.aload_n (k0 := 0) (pc' := 154) X rfl rfl dX7_watches_153 rfl ?_
  refine AW.iload_n (k0 := 3) (pc' := 155) X rfl rfl dX7_watches_154 rfl ?_
  refine AW.bipush (v := 28) (pc' := 157) X rfl dX7_watches_155 rfl ?_
  refine AW.iload (k0 := 4) (pc' := 159) X rfl dX7_watches_157 rfl ?_
  refine AW.aload_n (k0 := 0) (pc' := 160) X rfl rfl dX7_watches_159 rfl ?_
  refine AW.iload_n (k0 := 3) (pc' := 161) X rfl rfl dX7_watches_160 rfl ?_
  refine AW.iconst (v := 2) (pc' := 162) X rfl dX7_watches_161 rfl ?_
  obtain ⟨v1, c1, h⟩ := Option.bind_eq_some_iff.mp h
  refine AW.callV (As := [.int x3, .int 2]) (rest := [.int x4, .int 28, .int x3, .ref a0]) (rv := (some (.int v1))) (M' := M) (pc' := 165) X (ok_X7_ofChannel h0 c1) yv_X7_ofChannel h0.1 h0.2.1 (cM h0 dA ad _) rfl rfl ml_X7_65 ⟨by decide, by decide, by decide, by decide⟩ rfl (Nat.le_of_ble_eq_true rfl) rfl rfl dX7_watches_162 rfl ?_
  refine AW.icmp_le (pc' := 168) (tgt := 180) X dX7_watches_165 rfl rfl (fun q2 => ?_) (fun q2 => ?_)
  · replace h := itep q2 h
    refine AW.iconst (v := 0) (pc' := 181) X rfl dX7_watches_180 rfl ?_
    refine AW.sub (ls' := [(0, .ref a0), (1, .int x1), (2, .int x2), (3, .int x3)]) [0, 1, 2, 3] rfl ?_
    exact ok_X7_watches_181 X hr h0 hrec12 x1 x2 x3 0 28 x3 M R h
  · replace h := iten q2 h
    refine AW.aload_n (k0 := 0) (pc' := 169) X rfl rfl dX7_watches_168 rfl ?_
    refine AW.iload_n (k0 := 3) (pc' := 170) X rfl rfl dX7_watches_169 rfl ?_
    refine AW.bipush (v := 28) (pc' := 172) X rfl dX7_watches_170 rfl ?_
    obtain ⟨v3, c3, h⟩ := Option.bind_eq_some_iff.mp h
    refine AW.callV (As := [.int x3, .int 28]) (rest := [.int 28, .int x3, .ref a0]) (rv := (some (.int v3))) (M' := M) (pc' := 175) X (ok_X7_ofChannel h0 c3) yv_X7_ofChannel h0.1 h0.2.1 (cM h0 dA ad _) rfl rfl ml_X7_65 ⟨by decide, by decide, by decide, by decide⟩ rfl (Nat.le_of_ble_eq_true rfl) rfl rfl dX7_watches_172 rfl ?_
    refine AW.iconst (v := 1) (pc' := 176) X rfl dX7_watches_175 rfl ?_
    refine AW.iadd (pc' := 177) X dX7_watches_176 rfl ?_
    refine AW.goto (pc' := 181) X dX7_watches_177 rfl ?_
    refine AW.sub (ls' := [(0, .ref a0), (1, .int x1), (2, .int x2), (3, .int x3)]) [0, 1, 2, 3] rfl ?_
    exact ok_X7_watches_181 X hr h0 hrec12 x1 x2 x3 (v3 + 1) 28 x3 M R h
set_option maxHeartbeats 4000000 in
set_option maxRecDepth 100000 in
theorem ok_X7_watches_99 {a0 : Nat} (X : CX p s m args meth c cX7_watches 7 RX7 D dA ad lo n A) (hr : meth.sig.returnType = (some .int)) (h0 : tMo lo n a0) {rec12 : Int32 → Int32 → Int32 → MM → Option (Int32 × MM)} (hrec12 : ∀ (x1 : Int32) (x2 : Int32) (x3 : Int32) (M : MM) (R : (Int32 × MM)), rec12 x1 x2 x3 M = some R → AR p l e 2 48 s m args below meth c D dA ad lo n 7 A (some (.int R.1)) R.2 12 [(0, .ref a0), (1, .int x1), (2, .int x2), (3, .int x3)] [] M) : ∀ (x1 : Int32) (x2 : Int32) (x3 : Int32) (x4 : Int32) (x5 : Int32) (b6 : Bool) (s0 : Int32) (s1 : Int32) (s2 : Int32) (M : MM) (R : (Int32 × MM)), f_X7_watches_99 a0 rec12 x1 x2 x3 x4 x5 b6 s0 s1 s2 M = some R → AR p l e 2 48 s m args below meth c D dA ad lo n 7 A (some (.int R.1)) R.2 99 [(0, .ref a0), (1, .int x1), (2, .int x2), (3, .int x3), (4, .int x4), (5, .int x5), (6, .int (bz b6))] [.int s0, .int s1, .int s2, .ref a0] M := by
  intro x1 x2 x3 x4 x5 b6 s0 s1 s2 M R h
  unfold f_X7_watches_99 at h
  obtain ⟨v1, c1, h⟩ := Option.bind_eq_some_iff.mp h
  refine AW.callV (As := [.int s2, .int s1, .int s0]) (rest := []) (rv := none) (M' := v1) (pc' := 102) X (ok_X7_setChannel h0 c1) yv_X7_setChannel h0.1 h0.2.1 (cM h0 dA ad _) rfl rfl ml_X7_37 ⟨by decide, by decide, by decide, by decide⟩ rfl (Nat.le_of_ble_eq_true rfl) rfl rfl dX7_watches_99 rfl ?_
  refine AW.iload (k0 := 6) (pc' := 104) X rfl dX7_watches_102 rfl ?_
  refine AW.if_eq (pc' := 107) (tgt := 153) X dX7_watches_104 rfl rfl (fun q2 => ?_) (fun q2 => ?_)
  · replace h := itep q2 h
    refine AW.sub (ls' := [(0, .ref a0), (1, .int x1), (2, .int x2), (3, .int x3), (4, .int x4)]) [0, 1, 2, 3, 4] rfl ?_
    exact ok_X7_watches_153 X hr h0 hrec12 x1 x2 x3 x4 v1 R h
  · replace h := iten q2 h
    refine AW.aload_n (k0 := 0) (pc' := 108) X rfl rfl dX7_watches_107 rfl ?_
    refine AW.iload_n (k0 := 3) (pc' := 109) X rfl rfl dX7_watches_108 rfl ?_
    refine AW.bipush (v := 26) (pc' := 111) X rfl dX7_watches_109 rfl ?_
    refine AW.aload_n (k0 := 0) (pc' := 112) X rfl rfl dX7_watches_111 rfl ?_
    refine AW.iload_n (k0 := 3) (pc' := 113) X rfl rfl dX7_watches_112 rfl ?_
    refine AW.bipush (v := 26) (pc' := 115) X rfl dX7_watches_113 rfl ?_
    obtain ⟨v3, c3, h⟩ := Option.bind_eq_some_iff.mp h
    refine AW.callV (As := [.int x3, .int 26]) (rest := [.int 26, .int x3, .ref a0]) (rv := (some (.int v3))) (M' := v1) (pc' := 118) X (ok_X7_ofChannel h0 c3) yv_X7_ofChannel h0.1 h0.2.1 (cM h0 dA ad _) rfl rfl ml_X7_65 ⟨by decide, by decide, by decide, by decide⟩ rfl (Nat.le_of_ble_eq_true rfl) rfl rfl dX7_watches_115 rfl ?_
    refine AW.aload_n (k0 := 0) (pc' := 119) X rfl rfl dX7_watches_118 rfl ?_
    refine AW.iload_n (k0 := 3) (pc' := 120) X rfl rfl dX7_watches_119 rfl ?_
    refine AW.bipush (v := 25) (pc' := 122) X rfl dX7_watches_120 rfl ?_
    obtain ⟨v4, c4, h⟩ := Option.bind_eq_some_iff.mp h
    refine AW.callV (As := [.int x3, .int 25]) (rest := [.int v3, .int 26, .int x3, .ref a0]) (rv := (some (.int v4))) (M' := v1) (pc' := 125) X (ok_X7_ofChannel h0 c4) yv_X7_ofChannel h0.1 h0.2.1 (cM h0 dA ad _) rfl rfl ml_X7_65 ⟨by decide, by decide, by decide, by decide⟩ rfl (Nat.le_of_ble_eq_true rfl) rfl rfl dX7_watches_122 rfl ?_
    obtain ⟨v5, c5, h⟩ := Option.bind_eq_some_iff.mp h
    refine AW.callS (As := [.int v3, .int v4]) (rest := [.int 26, .int x3, .ref a0]) (rv := (some (.int v5))) (M' := v1) (pc' := 128) X (ok_X7_greater c5) yv_X7_greater ml_X7_100 ⟨by decide, by decide, by decide, by decide⟩ rfl (Nat.le_of_ble_eq_true rfl) rfl rfl dX7_watches_125 rfl ?_
    obtain ⟨v6, c6, h⟩ := Option.bind_eq_some_iff.mp h
    refine AW.callV (As := [.int x3, .int 26, .int v5]) (rest := []) (rv := none) (M' := v6) (pc' := 131) X (ok_X7_setChannel h0 c6) yv_X7_setChannel h0.1 h0.2.1 (cM h0 dA ad _) rfl rfl ml_X7_37 ⟨by decide, by decide, by decide, by decide⟩ rfl (Nat.le_of_ble_eq_true rfl) rfl rfl dX7_watches_128 rfl ?_
    refine AW.aload_n (k0 := 0) (pc' := 132) X rfl rfl dX7_watches_131 rfl ?_
    refine AW.iload_n (k0 := 3) (pc' := 133) X rfl rfl dX7_watches_132 rfl ?_
    refine AW.bipush (v := 27) (pc' := 135) X rfl dX7_watches_133 rfl ?_
    refine AW.aload_n (k0 := 0) (pc' := 136) X rfl rfl dX7_watches_135 rfl ?_
    refine AW.iload_n (k0 := 3) (pc' := 137) X rfl rfl dX7_watches_136 rfl ?_
    refine AW.bipush (v := 27) (pc' := 139) X rfl dX7_watches_137 rfl ?_
    obtain ⟨v7, c7, h⟩ := Option.bind_eq_some_iff.mp h
    refine AW.callV (As := [.int x3, .int 27]) (rest := [.int 27, .int x3, .ref a0]) (rv := (some (.int v7))) (M' := v6) (pc' := 142) X (ok_X7_ofChannel h0 c7) yv_X7_ofChannel h0.1 h0.2.1 (cM h0 dA ad _) rfl rfl ml_X7_65 ⟨by decide, by decide, by decide, by decide⟩ rfl (Nat.le_of_ble_eq_true rfl) rfl rfl dX7_watches_139 rfl ?_
    refine AW.iload (k0 := 4) (pc' := 144) X rfl dX7_watches_142 rfl ?_
    refine AW.iload (k0 := 5) (pc' := 146) X rfl dX7_watches_144 rfl ?_
    refine AW.isub (pc' := 147) X dX7_watches_146 rfl ?_
    obtain ⟨v8, c8, h⟩ := Option.bind_eq_some_iff.mp h
    refine AW.callS (As := [.int v7, .int (x4 - x5)]) (rest := [.int 27, .int x3, .ref a0]) (rv := (some (.int v8))) (M' := v6) (pc' := 150) X (ok_X7_greater c8) yv_X7_greater ml_X7_100 ⟨by decide, by decide, by decide, by decide⟩ rfl (Nat.le_of_ble_eq_true rfl) rfl rfl dX7_watches_147 rfl ?_
    obtain ⟨v9, c9, h⟩ := Option.bind_eq_some_iff.mp h
    refine AW.callV (As := [.int x3, .int 27, .int v8]) (rest := []) (rv := none) (M' := v9) (pc' := 153) X (ok_X7_setChannel h0 c9) yv_X7_setChannel h0.1 h0.2.1 (cM h0 dA ad _) rfl rfl ml_X7_37 ⟨by decide, by decide, by decide, by decide⟩ rfl (Nat.le_of_ble_eq_true rfl) rfl rfl dX7_watches_150 rfl ?_
    refine AW.sub (ls' := [(0, .ref a0), (1, .int x1), (2, .int x2), (3, .int x3), (4, .int x4)]) [0, 1, 2, 3, 4] rfl ?_
    exact ok_X7_watches_153 X hr h0 hrec12 x1 x2 x3 x4 v9 R h
set_option maxHeartbeats 4000000 in
set_option maxRecDepth 100000 in
theorem ok_X7_watches_75 {a0 : Nat} (X : CX p s m args meth c cX7_watches 7 RX7 D dA ad lo n A) (hr : meth.sig.returnType = (some .int)) (h0 : tMo lo n a0) {rec12 : Int32 → Int32 → Int32 → MM → Option (Int32 × MM)} (hrec12 : ∀ (x1 : Int32) (x2 : Int32) (x3 : Int32) (M : MM) (R : (Int32 × MM)), rec12 x1 x2 x3 M = some R → AR p l e 2 48 s m args below meth c D dA ad lo n 7 A (some (.int R.1)) R.2 12 [(0, .ref a0), (1, .int x1), (2, .int x2), (3, .int x3)] [] M) : ∀ (x1 : Int32) (x2 : Int32) (x3 : Int32) (x4 : Int32) (x5 : Int32) (sb0 : Bool) (M : MM) (R : (Int32 × MM)), f_X7_watches_75 a0 rec12 x1 x2 x3 x4 x5 sb0 M = some R → AR p l e 2 48 s m args below meth c D dA ad lo n 7 A (some (.int R.1)) R.2 75 [(0, .ref a0), (1, .int x1), (2, .int x2), (3, .int x3), (4, .int x4), (5, .int x5)] [.int (bz sb0)] M := by
  intro x1 x2 x3 x4 x5 sb0 M R h
  unfold f_X7_watches_75 at h
  refine AW.istore (ls' := [(6, .int (bz sb0)), (0, .ref a0), (1, .int x1), (2, .int x2), (3, .int x3), (4, .int x4), (5, .int x5)]) (pc' := 77) X (by decide) rfl dX7_watches_75 rfl ?_
  refine AW.aload_n (k0 := 1) (pc' := 78) X rfl rfl dX7_watches_77 rfl ?_
  refine AW.iload_n (k0 := 4) (pc' := 79) X rfl rfl dX7_watches_78 rfl ?_
  refine AW.bipush (v := 25) (pc' := 81) X rfl dX7_watches_79 rfl ?_
  refine AW.iload (k0 := 0) (pc' := 83) X rfl dX7_watches_81 rfl ?_
  refine AW.if_eq (pc' := 86) (tgt := 98) X dX7_watches_83 rfl rfl (fun q1 => ?_) (fun q1 => ?_)
  · replace h := itep q1 h
    refine AW.iconst (v := 0) (pc' := 99) X rfl dX7_watches_98 rfl ?_
    refine AW.sub (ls' := [(0, .ref a0), (1, .int x1), (2, .int x2), (3, .int x3), (4, .int x4), (5, .int x5), (6, .int (bz sb0))]) [1, 2, 3, 4, 5, 6, 0] rfl ?_
    exact ok_X7_watches_99 X hr h0 hrec12 x1 x2 x3 x4 x5 sb0 0 25 x3 M R h
  · replace h := iten q1 h
    refine AW.aload_n (k0 := 1) (pc' := 87) X rfl rfl dX7_watches_86 rfl ?_
    refine AW.iload_n (k0 := 4) (pc' := 88) X rfl rfl dX7_watches_87 rfl ?_
    refine AW.bipush (v := 25) (pc' := 90) X rfl dX7_watches_88 rfl ?_
    obtain ⟨v2, c2, h⟩ := Option.bind_eq_some_iff.mp h
    refine AW.callV (As := [.int x3, .int 25]) (rest := [.int 25, .int x3, .ref a0]) (rv := (some (.int v2))) (M' := M) (pc' := 93) X (ok_X7_ofChannel h0 c2) yv_X7_ofChannel h0.1 h0.2.1 (cM h0 dA ad _) rfl rfl ml_X7_65 ⟨by decide, by decide, by decide, by decide⟩ rfl (Nat.le_of_ble_eq_true rfl) rfl rfl dX7_watches_90 rfl ?_
    refine AW.iconst (v := 1) (pc' := 94) X rfl dX7_watches_93 rfl ?_
    refine AW.iadd (pc' := 95) X dX7_watches_94 rfl ?_
    refine AW.goto (pc' := 99) X dX7_watches_95 rfl ?_
    refine AW.sub (ls' := [(0, .ref a0), (1, .int x1), (2, .int x2), (3, .int x3), (4, .int x4), (5, .int x5), (6, .int (bz sb0))]) [1, 2, 3, 4, 5, 6, 0] rfl ?_
    exact ok_X7_watches_99 X hr h0 hrec12 x1 x2 x3 x4 x5 sb0 (v2 + 1) 25 x3 M R h
set_option maxHeartbeats 4000000 in
set_option maxRecDepth 100000 in
theorem ok_X7_watches_74 {a0 : Nat} (X : CX p s m args meth c cX7_watches 7 RX7 D dA ad lo n A) (hr : meth.sig.returnType = (some .int)) (h0 : tMo lo n a0) {rec12 : Int32 → Int32 → Int32 → MM → Option (Int32 × MM)} (hrec12 : ∀ (x1 : Int32) (x2 : Int32) (x3 : Int32) (M : MM) (R : (Int32 × MM)), rec12 x1 x2 x3 M = some R → AR p l e 2 48 s m args below meth c D dA ad lo n 7 A (some (.int R.1)) R.2 12 [(0, .ref a0), (1, .int x1), (2, .int x2), (3, .int x3)] [] M) : ∀ (x1 : Int32) (x2 : Int32) (x3 : Int32) (x4 : Int32) (x5 : Int32) (M : MM) (R : (Int32 × MM)), f_X7_watches_74 a0 rec12 x1 x2 x3 x4 x5 M = some R → AR p l e 2 48 s m args below meth c D dA ad lo n 7 A (some (.int R.1)) R.2 74 [(0, .ref a0), (1, .int x1), (2, .int x2), (3, .int x3), (4, .int x4), (5, .int x5)] [] M := by
  intro x1 x2 x3 x4 x5 M R h
  unfold f_X7_watches_74 at h
  refine AW.iconst (v := 0) (pc' := 75) X rfl dX7_watches_74 rfl ?_
  exact ok_X7_watches_75 X hr h0 hrec12 x1 x2 x3 x4 x5 false M R h
set_option maxHeartbeats 4000000 in
set_option maxRecDepth 100000 in
theorem ok_X7_watches_12 {a0 : Nat} (X : CX p s m args meth c cX7_watches 7 RX7 D dA ad lo n A) (hr : meth.sig.returnType = (some .int)) (h0 : tMo lo n a0) : ∀ (k : Nat) (x1 : Int32) (x2 : Int32) (x3 : Int32) (M : MM) (R : (Int32 × MM)), f_X7_watches_12 a0 k x1 x2 x3 M = some R → AR p l e 2 48 s m args below meth c D dA ad lo n 7 A (some (.int R.1)) R.2 12 [(0, .ref a0), (1, .int x1), (2, .int x2), (3, .int x3)] [] M := by
  intro k
  induction k with
  | zero => intro _ _ _ _ R h; exact none_some h
  | succ k ih =>
    intro x1 x2 x3 M R h
    unfold f_X7_watches_12 at h
    refine AW.iload_n (k0 := 3) (pc' := 13) X rfl rfl dX7_watches_12 rfl ?_
    refine AW.aload_n (k0 := 0) (pc' := 14) X rfl rfl dX7_watches_13 rfl ?_
    refine AW.gX7 (v := .ref (a0 + 1)) (pc' := 17) X h0 0 (by decide) rfl mf_X7_7 rfl dX7_watches_14 rfl ?_
    refine AW.iconst (v := 5) (pc' := 18) X rfl dX7_watches_17 rfl ?_
    obtain ⟨g1, h⟩ := gd_some h
    refine AW.iald (pc' := 19) X (rM1 h0) (inb_vp g1) dX7_watches_18 rfl ?_
    refine AW.icmp_ge (pc' := 22) (tgt := 217) X dX7_watches_19 rfl rfl (fun q2 => ?_) (fun q2 => ?_)
    · replace h := itep q2 h
      refine AW.iload_n (k0 := 2) (pc' := 218) X rfl rfl dX7_watches_217 rfl ?_
      replace h := Option.some.inj h
      subst h
      exact AW.iret X hr dX7_watches_218
    · replace h := iten q2 h
      refine AW.aload_n (k0 := 0) (pc' := 23) X rfl rfl dX7_watches_22 rfl ?_
      refine AW.gX7 (v := .ref (a0 + 1)) (pc' := 26) X h0 0 (by decide) rfl mf_X7_7 rfl dX7_watches_23 rfl ?_
      refine AW.sipush (v := 308) (pc' := 29) X rfl dX7_watches_26 rfl ?_
      refine AW.bipush (v := 6) (pc' := 31) X rfl dX7_watches_29 rfl ?_
      refine AW.iload_n (k0 := 1) (pc' := 32) X rfl rfl dX7_watches_31 rfl ?_
      refine AW.imul (pc' := 33) X dX7_watches_32 rfl ?_
      refine AW.iadd (pc' := 34) X dX7_watches_33 rfl ?_
      refine AW.iload_n (k0 := 3) (pc' := 35) X rfl rfl dX7_watches_34 rfl ?_
      refine AW.iadd (pc' := 36) X dX7_watches_35 rfl ?_
      obtain ⟨g3, h⟩ := gd_some h
      refine AW.iald (pc' := 37) X (rM1 h0) (inb_vp g3) dX7_watches_36 rfl ?_
      refine AW.istore (ls' := [(4, .int (M (a0 + 1) (ix ((308 + (6 * x1)) + x3)))), (0, .ref a0), (1, .int x1), (2, .int x2), (3, .int x3)]) (pc' := 39) X (by decide) rfl dX7_watches_37 rfl ?_
      refine AW.aload_n (k0 := 1) (pc' := 40) X rfl rfl dX7_watches_39 rfl ?_
      refine AW.iload_n (k0 := 4) (pc' := 41) X rfl rfl dX7_watches_40 rfl ?_
      refine AW.aload_n (k0 := 1) (pc' := 42) X rfl rfl dX7_watches_41 rfl ?_
      refine AW.gX7 (v := .ref (a0 + 1)) (pc' := 45) X h0 0 (by decide) rfl mf_X7_7 rfl dX7_watches_42 rfl ?_
      refine AW.sipush (v := 208) (pc' := 48) X rfl dX7_watches_45 rfl ?_
      refine AW.iload_n (k0 := 2) (pc' := 49) X rfl rfl dX7_watches_48 rfl ?_
      refine AW.iadd (pc' := 50) X dX7_watches_49 rfl ?_
      obtain ⟨g4, h⟩ := gd_some h
      refine AW.iald (pc' := 51) X (rM1 h0) (inb_vp g4) dX7_watches_50 rfl ?_
      obtain ⟨v5, c5, h⟩ := Option.bind_eq_some_iff.mp h
      refine AW.callV (As := [.int x3, .int (M (a0 + 1) (ix (208 + x1)))]) (rest := []) (rv := (some (.int v5))) (M' := M) (pc' := 54) X (ok_X7_limitOf h0 c5) yv_X7_limitOf h0.1 h0.2.1 (cM h0 dA ad _) rfl rfl ml_X7_97 ⟨by decide, by decide, by decide, by decide⟩ rfl (Nat.le_of_ble_eq_true rfl) rfl rfl dX7_watches_51 rfl ?_
      refine AW.istore (ls' := [(5, .int v5), (4, .int (M (a0 + 1) (ix ((308 + (6 * x1)) + x3)))), (0, .ref a0), (1, .int x1), (2, .int x2), (3, .int x3)]) (pc' := 56) X (by decide) rfl dX7_watches_54 rfl ?_
      refine AW.iload (k0 := 0) (pc' := 58) X rfl dX7_watches_56 rfl ?_
      refine AW.bipush (v := (-6)) (pc' := 60) X rfl dX7_watches_58 rfl ?_
      refine AW.icmp_eq (pc' := 63) (tgt := 74) X dX7_watches_60 rfl rfl (fun q6 => ?_) (fun q6 => ?_)
      · replace h := itep q6 h
        refine AW.sub (ls' := [(0, .ref a0), (1, .int x1), (2, .int x2), (3, .int x3), (4, .int (M (a0 + 1) (ix ((308 + (6 * x1)) + x3)))), (5, .int v5)]) [2, 3, 4, 5, 1, 0] rfl ?_
        exact ok_X7_watches_74 X hr h0 ih x1 x2 x3 (M (a0 + 1) (ix ((308 + (6 * x1)) + x3))) v5 M R h
      · replace h := iten q6 h
        refine AW.iload (k0 := 1) (pc' := 65) X rfl dX7_watches_63 rfl ?_
        refine AW.iload (k0 := 0) (pc' := 67) X rfl dX7_watches_65 rfl ?_
        refine AW.icmp_le (pc' := 70) (tgt := 74) X dX7_watches_67 rfl rfl (fun q7 => ?_) (fun q7 => ?_)
        · replace h := itep q7 h
          refine AW.sub (ls' := [(0, .ref a0), (1, .int x1), (2, .int x2), (3, .int x3), (4, .int (M (a0 + 1) (ix ((308 + (6 * x1)) + x3)))), (5, .int v5)]) [2, 3, 4, 5, 1, 0] rfl ?_
          exact ok_X7_watches_74 X hr h0 ih x1 x2 x3 (M (a0 + 1) (ix ((308 + (6 * x1)) + x3))) v5 M R h
        · replace h := iten q7 h
          refine AW.iconst (v := 1) (pc' := 71) X rfl dX7_watches_70 rfl ?_
          refine AW.goto (pc' := 75) X dX7_watches_71 rfl ?_
          refine AW.sub (ls' := [(0, .ref a0), (1, .int x1), (2, .int x2), (3, .int x3), (4, .int (M (a0 + 1) (ix ((308 + (6 * x1)) + x3)))), (5, .int v5)]) [2, 3, 4, 5, 1, 0] rfl ?_
          exact ok_X7_watches_75 X hr h0 ih x1 x2 x3 (M (a0 + 1) (ix ((308 + (6 * x1)) + x3))) v5 true M R h
set_option maxHeartbeats 4000000 in
set_option maxRecDepth 100000 in
theorem ok_X7_watches {lo n : Nat} {a0 : Nat} {M : MM} {R : (Int32 × MM)} (h0 : tMo lo n a0) (h : f_X7_watches a0 M = some R) : MC yX7_watches cX7_watches 7 (some .int) 2 48 lo n [.ref a0] M (some (.int R.1)) R.2 := by
  refine MC.of (ls0 := [(0, .ref a0)]) (by decide) rfl (fun _ => Nat.le_of_ble_eq_true rfl) (fun p l e s m args below meth c D dA ad A X hr => ?_)
  replace X : CX p s m args meth c cX7_watches 7 RX7 D dA ad lo n A := X
  unfold f_X7_watches at h
  refine AW.aload_n (k0 := 0) (pc' := 1) X rfl rfl dX7_watches_0 rfl ?_
  refine AW.gX7 (v := .ref (a0 + 1)) (pc' := 4) X h0 0 (by decide) rfl mf_X7_7 rfl dX7_watches_1 rfl ?_
  refine AW.iconst (v := 2) (pc' := 5) X rfl dX7_watches_4 rfl ?_
  obtain ⟨g1, h⟩ := gd_some h
  refine AW.iald (pc' := 6) X (rM1 h0) (inb_vp g1) dX7_watches_5 rfl ?_
  refine AW.istore_n (ls' := [(1, .int (M (a0 + 1) (ix 2))), (0, .ref a0)]) (pc' := 7) X rfl (by decide) rfl dX7_watches_6 rfl ?_
  refine AW.bipush (v := (-6)) (pc' := 9) X rfl dX7_watches_7 rfl ?_
  refine AW.istore_n (ls' := [(2, .int (-6)), (1, .int (M (a0 + 1) (ix 2))), (0, .ref a0)]) (pc' := 10) X rfl (by decide) rfl dX7_watches_9 rfl ?_
  refine AW.iconst (v := 0) (pc' := 11) X rfl dX7_watches_10 rfl ?_
  refine AW.istore_n (ls' := [(3, .int 0), (2, .int (-6)), (1, .int (M (a0 + 1) (ix 2))), (0, .ref a0)]) (pc' := 12) X rfl (by decide) rfl dX7_watches_11 rfl ?_
  refine AW.sub (ls' := [(0, .ref a0), (1, .int (M (a0 + 1) (ix 2))), (2, .int (-6)), (3, .int 0)]) [3, 2, 1, 0] rfl ?_
  exact ok_X7_watches_12 X hr h0 FU (M (a0 + 1) (ix 2)) (-6) 0 M R h
set_option maxHeartbeats 4000000 in
set_option maxRecDepth 100000 in
theorem ok_X7_goesTo_263 {a0 : Nat} (X : CX p s m args meth c cX7_goesTo 17 RX7 D dA ad lo n A) (hr : meth.sig.returnType = none) (h0 : tMo lo n a0) {rec158 : Int32 → Int32 → Int64 → Int32 → Int32 → MM → Option MM} (hrec158 : ∀ (x1 : Int32) (x3 : Int32) (y6 : Int64) (x12 : Int32) (x13 : Int32) (M : MM) (R : MM), rec158 x1 x3 y6 x12 x13 M = some R → AR p l e 2 48 s m args below meth c D dA ad lo n 17 A none R 158 [(0, .ref a0), (1, .int x1), (3, .int x3), (6, .long (y6)), (12, .int x12), (13, .int x13)] [] M) : ∀ (x1 : Int32) (x3 : Int32) (y6 : Int64) (x12 : Int32) (x13 : Int32) (M : MM) (R : MM), f_X7_goesTo_263 a0 rec158 x1 x3 y6 x12 x13 M = some R → AR p l e 2 48 s m args below meth c D dA ad lo n 17 A none R 263 [(0, .ref a0), (1, .int x1), (3, .int x3), (6, .long (y6)), (12, .int x12), (13, .int x13)] [] M := by
  intro x1 x3 y6 x12 x13 M R h
  unfold f_X7_goesTo_263 at h
  refine AW.iinc (k0 := 5) (v := (x13 + 1)) (y := 1) (ls' := [(13, .int (x13 + 1)), (0, .ref a0), (1, .int x1), (3, .int x3), (6, .long (y6)), (12, .int x12)]) (pc' := 266) X rfl rfl rfl (by decide) rfl dX7_goesTo_263 rfl ?_
  refine AW.goto (pc' := 158) X dX7_goesTo_266 rfl ?_
  refine AW.sub (ls' := [(0, .ref a0), (1, .int x1), (3, .int x3), (6, .long (y6)), (12, .int x12), (13, .int (x13 + 1))]) [1, 2, 3, 4, 5, 0] rfl ?_
  exact hrec158 x1 x3 y6 x12 (x13 + 1) M R h
set_option maxHeartbeats 4000000 in
set_option maxRecDepth 100000 in
theorem ok_X7_goesTo_215 {a0 : Nat} (X : CX p s m args meth c cX7_goesTo 17 RX7 D dA ad lo n A) (hr : meth.sig.returnType = none) (h0 : tMo lo n a0) {rec158 : Int32 → Int32 → Int64 → Int32 → Int32 → MM → Option MM} (hrec158 : ∀ (x1 : Int32) (x3 : Int32) (y6 : Int64) (x12 : Int32) (x13 : Int32) (M : MM) (R : MM), rec158 x1 x3 y6 x12 x13 M = some R → AR p l e 2 48 s m args below meth c D dA ad lo n 17 A none R 158 [(0, .ref a0), (1, .int x1), (3, .int x3), (6, .long (y6)), (12, .int x12), (13, .int x13)] [] M) : ∀ (x1 : Int32) (x3 : Int32) (y6 : Int64) (x12 : Int32) (x13 : Int32) (x14 : Int32) (s0 : Int32) (M : MM) (R : MM), f_X7_goesTo_215 a0 rec158 x1 x3 y6 x12 x13 x14 s0 M = some R → AR p l e 2 48 s m args below meth c D dA ad lo n 17 A none R 215 [(0, .ref a0), (1, .int x1), (3, .int x3), (6, .long (y6)), (12, .int x12), (13, .int x13), (14, .int x14)] [.int s0] M := by
  intro x1 x3 y6 x12 x13 x14 s0 M R h
  unfold f_X7_goesTo_215 at h
  refine AW.istore (ls' := [(16, .int s0), (0, .ref a0), (1, .int x1), (3, .int x3), (6, .long (y6)), (12, .int x12), (13, .int x13), (14, .int x14)]) (pc' := 217) X (by decide) rfl dX7_goesTo_215 rfl ?_
  refine AW.iload (k0 := 7) (pc' := 219) X rfl dX7_goesTo_217 rfl ?_
  refine AW.bipush (v := (-6)) (pc' := 221) X rfl dX7_goesTo_219 rfl ?_
  refine AW.icmp_eq (pc' := 224) (tgt := 263) X dX7_goesTo_221 rfl rfl (fun q1 => ?_) (fun q1 => ?_)
  · replace h := itep q1 h
    refine AW.sub (ls' := [(0, .ref a0), (1, .int x1), (3, .int x3), (6, .long (y6)), (12, .int x12), (13, .int x13)]) [1, 2, 3, 4, 5, 6] rfl ?_
    exact ok_X7_goesTo_263 X hr h0 hrec158 x1 x3 y6 x12 x13 M R h
  · replace h := iten q1 h
    refine AW.iload (k0 := 0) (pc' := 226) X rfl dX7_goesTo_224 rfl ?_
    refine AW.if_le (pc' := 229) (tgt := 263) X dX7_goesTo_226 rfl rfl (fun q2 => ?_) (fun q2 => ?_)
    · replace h := itep q2 h
      refine AW.sub (ls' := [(0, .ref a0), (1, .int x1), (3, .int x3), (6, .long (y6)), (12, .int x12), (13, .int x13)]) [1, 2, 3, 4, 5, 6] rfl ?_
      exact ok_X7_goesTo_263 X hr h0 hrec158 x1 x3 y6 x12 x13 M R h
    · replace h := iten q2 h
      refine AW.lload (k0 := 4) (pc' := 231) X rfl dX7_goesTo_229 rfl ?_
      refine AW.iload (k0 := 7) (pc' := 233) X rfl dX7_goesTo_231 rfl ?_
      refine AW.i2l (pc' := 234) X dX7_goesTo_233 rfl ?_
      refine AW.ldc2 (pc' := 237) X mk_X7_89 dX7_goesTo_234 rfl ?_
      refine AW.lmul (pc' := 238) X dX7_goesTo_237 rfl ?_
      refine AW.iload (k0 := 0) (pc' := 240) X rfl dX7_goesTo_238 rfl ?_
      refine AW.i2l (pc' := 241) X dX7_goesTo_240 rfl ?_
      obtain ⟨g3, h⟩ := gd_some h
      refine AW.ldiv (pc' := 242) X (nzl_ne g3) dX7_goesTo_241 rfl ?_
      refine AW.lcmp (pc' := 243) X dX7_goesTo_242 rfl ?_
      refine AW.if_le (pc' := 246) (tgt := 263) X dX7_goesTo_243 rfl rfl (fun q4 => ?_) (fun q4 => ?_)
      · replace h := itep q4 h
        refine AW.sub (ls' := [(0, .ref a0), (1, .int x1), (3, .int x3), (6, .long (y6)), (12, .int x12), (13, .int x13)]) [1, 2, 3, 4, 5, 6] rfl ?_
        exact ok_X7_goesTo_263 X hr h0 hrec158 x1 x3 y6 x12 x13 M R h
      · replace h := iten q4 h
        refine AW.iload (k0 := 7) (pc' := 248) X rfl dX7_goesTo_246 rfl ?_
        refine AW.i2l (pc' := 249) X dX7_goesTo_248 rfl ?_
        refine AW.ldc2 (pc' := 252) X mk_X7_89 dX7_goesTo_249 rfl ?_
        refine AW.lmul (pc' := 253) X dX7_goesTo_252 rfl ?_
        refine AW.iload (k0 := 0) (pc' := 255) X rfl dX7_goesTo_253 rfl ?_
        refine AW.i2l (pc' := 256) X dX7_goesTo_255 rfl ?_
        obtain ⟨g5, h⟩ := gd_some h
        refine AW.ldiv (pc' := 257) X (nzl_ne g5) dX7_goesTo_256 rfl ?_
        refine AW.lstore (ls' := [(6, .long ((((Int32.toInt64 x14) * 1000) / (Int32.toInt64 s0)))), (16, .int s0), (0, .ref a0), (1, .int x1), (3, .int x3), (12, .int x12), (13, .int x13), (14, .int x14)]) (pc' := 259) X (by decide) rfl dX7_goesTo_257 rfl ?_
        refine AW.iload (k0 := 6) (pc' := 261) X rfl dX7_goesTo_259 rfl ?_
        refine AW.istore (ls' := [(12, .int x13), (6, .long ((((Int32.toInt64 x14) * 1000) / (Int32.toInt64 s0)))), (16, .int s0), (0, .ref a0), (1, .int x1), (3, .int x3), (13, .int x13), (14, .int x14)]) (pc' := 263) X (by decide) rfl dX7_goesTo_261 rfl ?_
        refine AW.sub (ls' := [(0, .ref a0), (1, .int x1), (3, .int x3), (6, .long ((((Int32.toInt64 x14) * 1000) / (Int32.toInt64 s0)))), (12, .int x13), (13, .int x13)]) [3, 4, 5, 1, 0, 6] rfl ?_
        exact ok_X7_goesTo_263 X hr h0 hrec158 x1 x3 (((Int32.toInt64 x14) * 1000) / (Int32.toInt64 s0)) x13 x13 M R h
set_option maxHeartbeats 4000000 in
set_option maxRecDepth 100000 in
theorem ok_X7_goesTo_301 {a0 : Nat} (X : CX p s m args meth c cX7_goesTo 17 RX7 D dA ad lo n A) (hr : meth.sig.returnType = none) (h0 : tMo lo n a0) : ∀ (x1 : Int32) (x12 : Int32) (sl0 : Int64) (M : MM) (R : MM), f_X7_goesTo_301 a0 x1 x12 sl0 M = some R → AR p l e 2 48 s m args below meth c D dA ad lo n 17 A none R 301 [(0, .ref a0), (1, .int x1), (12, .int x12)] [.long (sl0)] M := by
  intro x1 x12 sl0 M R h
  unfold f_X7_goesTo_301 at h
  refine AW.lstore (ls' := [(6, .long (sl0)), (0, .ref a0), (1, .int x1), (12, .int x12)]) (pc' := 303) X (by decide) rfl dX7_goesTo_301 rfl ?_
  refine AW.aload_n (k0 := 1) (pc' := 304) X rfl rfl dX7_goesTo_303 rfl ?_
  refine AW.gX7 (v := .ref (a0 + 1)) (pc' := 307) X h0 0 (by decide) rfl mf_X7_7 rfl dX7_goesTo_304 rfl ?_
  refine AW.sipush (v := 1708) (pc' := 310) X rfl dX7_goesTo_307 rfl ?_
  refine AW.iload_n (k0 := 2) (pc' := 311) X rfl rfl dX7_goesTo_310 rfl ?_
  refine AW.iadd (pc' := 312) X dX7_goesTo_311 rfl ?_
  refine AW.iload (k0 := 3) (pc' := 314) X rfl dX7_goesTo_312 rfl ?_
  obtain ⟨g1, h⟩ := gd_some h
  refine AW.iast (pc' := 315) X (rM1 h0) (inb_vp g1) dX7_goesTo_314 rfl ?_
  refine AW.aload_n (k0 := 1) (pc' := 316) X rfl rfl dX7_goesTo_315 rfl ?_
  refine AW.gX7 (v := .ref (a0 + 1)) (pc' := 319) X h0 0 (by decide) rfl mf_X7_7 rfl dX7_goesTo_316 rfl ?_
  refine AW.sipush (v := 1608) (pc' := 322) X rfl dX7_goesTo_319 rfl ?_
  refine AW.iload_n (k0 := 2) (pc' := 323) X rfl rfl dX7_goesTo_322 rfl ?_
  refine AW.iadd (pc' := 324) X dX7_goesTo_323 rfl ?_
  refine AW.lload (k0 := 0) (pc' := 326) X rfl dX7_goesTo_324 rfl ?_
  refine AW.l2i (pc' := 327) X dX7_goesTo_326 rfl ?_
  obtain ⟨g2, h⟩ := gd_some h
  refine AW.iast (pc' := 328) X (rM1 h0) (inb_vp g2) dX7_goesTo_327 rfl ?_
  refine AW.aload_n (k0 := 1) (pc' := 329) X rfl rfl dX7_goesTo_328 rfl ?_
  refine AW.gX7 (v := .ref (a0 + 1)) (pc' := 332) X h0 0 (by decide) rfl mf_X7_7 rfl dX7_goesTo_329 rfl ?_
  refine AW.iconst (v := 2) (pc' := 333) X rfl dX7_goesTo_332 rfl ?_
  refine AW.iload_n (k0 := 2) (pc' := 334) X rfl rfl dX7_goesTo_333 rfl ?_
  obtain ⟨g3, h⟩ := gd_some h
  refine AW.iast (pc' := 335) X (rM1 h0) (inb_vp g3) dX7_goesTo_334 rfl ?_
  refine AW.aload_n (k0 := 1) (pc' := 336) X rfl rfl dX7_goesTo_335 rfl ?_
  refine AW.gX7 (v := .ref (a0 + 1)) (pc' := 339) X h0 0 (by decide) rfl mf_X7_7 rfl dX7_goesTo_336 rfl ?_
  refine AW.iconst (v := 3) (pc' := 340) X rfl dX7_goesTo_339 rfl ?_
  refine AW.lload (k0 := 0) (pc' := 342) X rfl dX7_goesTo_340 rfl ?_
  refine AW.l2i (pc' := 343) X dX7_goesTo_342 rfl ?_
  obtain ⟨g4, h⟩ := gd_some h
  refine AW.iast (pc' := 344) X (rM1 h0) (inb_vp g4) dX7_goesTo_343 rfl ?_
  replace h := Option.some.inj h
  subst h
  exact AW.vret X hr dX7_goesTo_344
set_option maxHeartbeats 4000000 in
set_option maxRecDepth 100000 in
theorem ok_X7_goesTo_286 {a0 : Nat} (X : CX p s m args meth c cX7_goesTo 17 RX7 D dA ad lo n A) (hr : meth.sig.returnType = none) (h0 : tMo lo n a0) : ∀ (x1 : Int32) (x12 : Int32) (sl0 : Int64) (M : MM) (R : MM), f_X7_goesTo_286 a0 x1 x12 sl0 M = some R → AR p l e 2 48 s m args below meth c D dA ad lo n 17 A none R 286 [(0, .ref a0), (1, .int x1), (12, .int x12)] [.long (sl0)] M := by
  intro x1 x12 sl0 M R h
  unfold f_X7_goesTo_286 at h
  refine AW.lstore (ls' := [(6, .long (sl0)), (0, .ref a0), (1, .int x1), (12, .int x12)]) (pc' := 288) X (by decide) rfl dX7_goesTo_286 rfl ?_
  refine AW.lload (k0 := 0) (pc' := 290) X rfl dX7_goesTo_288 rfl ?_
  refine AW.lconst (v := 1) (pc' := 291) X rfl dX7_goesTo_290 rfl ?_
  refine AW.lcmp (pc' := 292) X dX7_goesTo_291 rfl ?_
  refine AW.if_ge (pc' := 295) (tgt := 299) X dX7_goesTo_292 rfl rfl (fun q1 => ?_) (fun q1 => ?_)
  · replace h := itep q1 h
    refine AW.lload (k0 := 0) (pc' := 301) X rfl dX7_goesTo_299 rfl ?_
    refine AW.sub (ls' := [(0, .ref a0), (1, .int x1), (12, .int x12)]) [1, 2, 3] rfl ?_
    exact ok_X7_goesTo_301 X hr h0 x1 x12 sl0 M R h
  · replace h := iten q1 h
    refine AW.lconst (v := 1) (pc' := 296) X rfl dX7_goesTo_295 rfl ?_
    refine AW.goto (pc' := 301) X dX7_goesTo_296 rfl ?_
    refine AW.sub (ls' := [(0, .ref a0), (1, .int x1), (12, .int x12)]) [1, 2, 3] rfl ?_
    exact ok_X7_goesTo_301 X hr h0 x1 x12 1 M R h
set_option maxHeartbeats 4000000 in
set_option maxRecDepth 100000 in
theorem ok_X7_goesTo_158 {a0 : Nat} (X : CX p s m args meth c cX7_goesTo 17 RX7 D dA ad lo n A) (hr : meth.sig.returnType = none) (h0 : tMo lo n a0) : ∀ (k : Nat) (x1 : Int32) (x3 : Int32) (y6 : Int64) (x12 : Int32) (x13 : Int32) (M : MM) (R : MM), f_X7_goesTo_158 a0 k x1 x3 y6 x12 x13 M = some R → AR p l e 2 48 s m args below meth c D dA ad lo n 17 A none R 158 [(0, .ref a0), (1, .int x1), (3, .int x3), (6, .long (y6)), (12, .int x12), (13, .int x13)] [] M := by
  intro k
  induction k with
  | zero => intro _ _ _ _ _ _ R h; exact none_some h
  | succ k ih =>
    intro x1 x3 y6 x12 x13 M R h
    unfold f_X7_goesTo_158 at h
    refine AW.iload (k0 := 5) (pc' := 160) X rfl dX7_goesTo_158 rfl ?_
    refine AW.aload_n (k0 := 0) (pc' := 161) X rfl rfl dX7_goesTo_160 rfl ?_
    refine AW.gX7 (v := .ref (a0 + 1)) (pc' := 164) X h0 0 (by decide) rfl mf_X7_7 rfl dX7_goesTo_161 rfl ?_
    refine AW.iconst (v := 5) (pc' := 165) X rfl dX7_goesTo_164 rfl ?_
    obtain ⟨g1, h⟩ := gd_some h
    refine AW.iald (pc' := 166) X (rM1 h0) (inb_vp g1) dX7_goesTo_165 rfl ?_
    refine AW.icmp_ge (pc' := 169) (tgt := 269) X dX7_goesTo_166 rfl rfl (fun q2 => ?_) (fun q2 => ?_)
    · replace h := itep q2 h
      refine AW.lload (k0 := 3) (pc' := 271) X rfl dX7_goesTo_269 rfl ?_
      refine AW.ldc2 (pc' := 274) X mk_X7_122 dX7_goesTo_271 rfl ?_
      refine AW.lcmp (pc' := 275) X dX7_goesTo_274 rfl ?_
      refine AW.if_le (pc' := 278) (tgt := 284) X dX7_goesTo_275 rfl rfl (fun q3 => ?_) (fun q3 => ?_)
      · replace h := itep q3 h
        refine AW.lload (k0 := 3) (pc' := 286) X rfl dX7_goesTo_284 rfl ?_
        refine AW.sub (ls' := [(0, .ref a0), (1, .int x1), (12, .int x12)]) [0, 1, 4] rfl ?_
        exact ok_X7_goesTo_286 X hr h0 x1 x12 y6 M R h
      · replace h := iten q3 h
        refine AW.ldc2 (pc' := 281) X mk_X7_122 dX7_goesTo_278 rfl ?_
        refine AW.goto (pc' := 286) X dX7_goesTo_281 rfl ?_
        refine AW.sub (ls' := [(0, .ref a0), (1, .int x1), (12, .int x12)]) [0, 1, 4] rfl ?_
        exact ok_X7_goesTo_286 X hr h0 x1 x12 100000 M R h
    · replace h := iten q2 h
      refine AW.aload_n (k0 := 0) (pc' := 170) X rfl rfl dX7_goesTo_169 rfl ?_
      refine AW.iload (k0 := 5) (pc' := 172) X rfl dX7_goesTo_170 rfl ?_
      refine AW.iload_n (k0 := 2) (pc' := 173) X rfl rfl dX7_goesTo_172 rfl ?_
      obtain ⟨v4, c4, h⟩ := Option.bind_eq_some_iff.mp h
      refine AW.callV (As := [.int x13, .int x3]) (rest := []) (rv := (some (.int v4))) (M' := M) (pc' := 176) X (ok_X7_limitOf h0 c4) yv_X7_limitOf h0.1 h0.2.1 (cM h0 dA ad _) rfl rfl ml_X7_97 ⟨by decide, by decide, by decide, by decide⟩ rfl (Nat.le_of_ble_eq_true rfl) rfl rfl dX7_goesTo_173 rfl ?_
      refine AW.istore (ls' := [(14, .int v4), (0, .ref a0), (1, .int x1), (3, .int x3), (6, .long (y6)), (12, .int x12), (13, .int x13)]) (pc' := 178) X (by decide) rfl dX7_goesTo_176 rfl ?_
      refine AW.aload_n (k0 := 1) (pc' := 179) X rfl rfl dX7_goesTo_178 rfl ?_
      refine AW.gX7 (v := .ref (a0 + 1)) (pc' := 182) X h0 0 (by decide) rfl mf_X7_7 rfl dX7_goesTo_179 rfl ?_
      refine AW.sipush (v := 908) (pc' := 185) X rfl dX7_goesTo_182 rfl ?_
      refine AW.bipush (v := 6) (pc' := 187) X rfl dX7_goesTo_185 rfl ?_
      refine AW.iload_n (k0 := 2) (pc' := 188) X rfl rfl dX7_goesTo_187 rfl ?_
      refine AW.imul (pc' := 189) X dX7_goesTo_188 rfl ?_
      refine AW.iadd (pc' := 190) X dX7_goesTo_189 rfl ?_
      refine AW.iload (k0 := 6) (pc' := 192) X rfl dX7_goesTo_190 rfl ?_
      refine AW.iadd (pc' := 193) X dX7_goesTo_192 rfl ?_
      obtain ⟨g5, h⟩ := gd_some h
      refine AW.iald (pc' := 194) X (rM1 h0) (inb_vp g5) dX7_goesTo_193 rfl ?_
      refine AW.istore (ls' := [(15, .int (M (a0 + 1) (ix ((908 + (6 * x1)) + x13)))), (14, .int v4), (0, .ref a0), (1, .int x1), (3, .int x3), (6, .long (y6)), (12, .int x12), (13, .int x13)]) (pc' := 196) X (by decide) rfl dX7_goesTo_194 rfl ?_
      refine AW.iload (k0 := 0) (pc' := 198) X rfl dX7_goesTo_196 rfl ?_
      refine AW.bipush (v := (-6)) (pc' := 200) X rfl dX7_goesTo_198 rfl ?_
      refine AW.icmp_ne (pc' := 203) (tgt := 213) X dX7_goesTo_200 rfl rfl (fun q6 => ?_) (fun q6 => ?_)
      · replace h := iten q6 h
        refine AW.iload (k0 := 0) (pc' := 215) X rfl dX7_goesTo_213 rfl ?_
        refine AW.sub (ls' := [(0, .ref a0), (1, .int x1), (3, .int x3), (6, .long (y6)), (12, .int x12), (13, .int x13), (14, .int v4)]) [2, 3, 4, 5, 6, 7, 1] rfl ?_
        exact ok_X7_goesTo_215 X hr h0 ih x1 x3 y6 x12 x13 v4 (M (a0 + 1) (ix ((908 + (6 * x1)) + x13))) M R h
      · replace h := itep q6 h
        refine AW.aload_n (k0 := 2) (pc' := 204) X rfl rfl dX7_goesTo_203 rfl ?_
        refine AW.gX7 (v := .ref (a0 + 4)) (pc' := 207) X h0 5 (by decide) rfl mf_X7_20 rfl dX7_goesTo_204 rfl ?_
        refine AW.iload (k0 := 7) (pc' := 209) X rfl dX7_goesTo_207 rfl ?_
        obtain ⟨g7, h⟩ := gd_some h
        refine AW.iald (pc' := 210) X (rM4 h0) (inb_vp g7) dX7_goesTo_209 rfl ?_
        refine AW.goto (pc' := 215) X dX7_goesTo_210 rfl ?_
        refine AW.sub (ls' := [(0, .ref a0), (1, .int x1), (3, .int x3), (6, .long (y6)), (12, .int x12), (13, .int x13), (14, .int v4)]) [2, 3, 4, 5, 6, 7, 1] rfl ?_
        exact ok_X7_goesTo_215 X hr h0 ih x1 x3 y6 x12 x13 v4 (M (a0 + 4) (ix x13)) M R h
set_option maxHeartbeats 4000000 in
set_option maxRecDepth 100000 in
theorem ok_X7_goesTo_149 {a0 : Nat} (X : CX p s m args meth c cX7_goesTo 17 RX7 D dA ad lo n A) (hr : meth.sig.returnType = none) (h0 : tMo lo n a0) : ∀ (x1 : Int32) (x3 : Int32) (sl0 : Int64) (M : MM) (R : MM), f_X7_goesTo_149 a0 x1 x3 sl0 M = some R → AR p l e 2 48 s m args below meth c D dA ad lo n 17 A none R 149 [(0, .ref a0), (1, .int x1), (3, .int x3)] [.long (sl0)] M := by
  intro x1 x3 sl0 M R h
  unfold f_X7_goesTo_149 at h
  refine AW.lstore (ls' := [(6, .long (sl0)), (0, .ref a0), (1, .int x1), (3, .int x3)]) (pc' := 151) X (by decide) rfl dX7_goesTo_149 rfl ?_
  refine AW.bipush (v := (-6)) (pc' := 153) X rfl dX7_goesTo_151 rfl ?_
  refine AW.istore (ls' := [(12, .int (-6)), (6, .long (sl0)), (0, .ref a0), (1, .int x1), (3, .int x3)]) (pc' := 155) X (by decide) rfl dX7_goesTo_153 rfl ?_
  refine AW.iconst (v := 0) (pc' := 156) X rfl dX7_goesTo_155 rfl ?_
  refine AW.istore (ls' := [(13, .int 0), (12, .int (-6)), (6, .long (sl0)), (0, .ref a0), (1, .int x1), (3, .int x3)]) (pc' := 158) X (by decide) rfl dX7_goesTo_156 rfl ?_
  refine AW.sub (ls' := [(0, .ref a0), (1, .int x1), (3, .int x3), (6, .long (sl0)), (12, .int (-6)), (13, .int 0)]) [3, 4, 5, 2, 1, 0] rfl ?_
  exact ok_X7_goesTo_158 X hr h0 FU x1 x3 sl0 (-6) 0 M R h
set_option maxHeartbeats 4000000 in
set_option maxRecDepth 100000 in
theorem ok_X7_goesTo_132 {a0 : Nat} (X : CX p s m args meth c cX7_goesTo 17 RX7 D dA ad lo n A) (hr : meth.sig.returnType = none) (h0 : tMo lo n a0) : ∀ (x1 : Int32) (x3 : Int32) (y10 : Int64) (sl0 : Int64) (M : MM) (R : MM), f_X7_goesTo_132 a0 x1 x3 y10 sl0 M = some R → AR p l e 2 48 s m args below meth c D dA ad lo n 17 A none R 132 [(0, .ref a0), (1, .int x1), (3, .int x3), (10, .long (y10))] [.long (sl0)] M := by
  intro x1 x3 y10 sl0 M R h
  unfold f_X7_goesTo_132 at h
  refine AW.lstore (ls' := [(6, .long (sl0)), (0, .ref a0), (1, .int x1), (3, .int x3), (10, .long (y10))]) (pc' := 134) X (by decide) rfl dX7_goesTo_132 rfl ?_
  refine AW.lload (k0 := 0) (pc' := 136) X rfl dX7_goesTo_134 rfl ?_
  refine AW.lload (k0 := 4) (pc' := 138) X rfl dX7_goesTo_136 rfl ?_
  refine AW.lcmp (pc' := 139) X dX7_goesTo_138 rfl ?_
  refine AW.if_le (pc' := 142) (tgt := 147) X dX7_goesTo_139 rfl rfl (fun q1 => ?_) (fun q1 => ?_)
  · replace h := itep q1 h
    refine AW.lload (k0 := 0) (pc' := 149) X rfl dX7_goesTo_147 rfl ?_
    refine AW.sub (ls' := [(0, .ref a0), (1, .int x1), (3, .int x3)]) [1, 2, 3] rfl ?_
    exact ok_X7_goesTo_149 X hr h0 x1 x3 sl0 M R h
  · replace h := iten q1 h
    refine AW.lload (k0 := 4) (pc' := 144) X rfl dX7_goesTo_142 rfl ?_
    refine AW.goto (pc' := 149) X dX7_goesTo_144 rfl ?_
    refine AW.sub (ls' := [(0, .ref a0), (1, .int x1), (3, .int x3)]) [1, 2, 3] rfl ?_
    exact ok_X7_goesTo_149 X hr h0 x1 x3 y10 M R h
set_option maxHeartbeats 4000000 in
set_option maxRecDepth 100000 in
theorem ok_X7_goesTo_86 {a0 : Nat} (X : CX p s m args meth c cX7_goesTo 17 RX7 D dA ad lo n A) (hr : meth.sig.returnType = none) (h0 : tMo lo n a0) : ∀ (x1 : Int32) (x3 : Int32) (y4 : Int64) (y6 : Int64) (M : MM) (R : MM), f_X7_goesTo_86 a0 x1 x3 y4 y6 M = some R → AR p l e 2 48 s m args below meth c D dA ad lo n 17 A none R 86 [(0, .ref a0), (1, .int x1), (3, .int x3), (4, .long (y4)), (6, .long (y6))] [] M := by
  intro x1 x3 y4 y6 M R h
  unfold f_X7_goesTo_86 at h
  refine AW.lload (k0 := 3) (pc' := 88) X rfl dX7_goesTo_86 rfl ?_
  refine AW.lload (k0 := 3) (pc' := 90) X rfl dX7_goesTo_88 rfl ?_
  refine AW.ldc2 (pc' := 93) X mk_X7_115 dX7_goesTo_90 rfl ?_
  refine AW.ldiv (pc' := 94) X (by decide) dX7_goesTo_93 rfl ?_
  refine AW.lsub (pc' := 95) X dX7_goesTo_94 rfl ?_
  refine AW.lstore (ls' := [(8, .long ((y4 - (y4 / 2)))), (0, .ref a0), (1, .int x1), (3, .int x3), (4, .long (y4)), (6, .long (y6))]) (pc' := 97) X (by decide) rfl dX7_goesTo_95 rfl ?_
  refine AW.lload (k0 := 4) (pc' := 99) X rfl dX7_goesTo_97 rfl ?_
  refine AW.lload (k0 := 4) (pc' := 101) X rfl dX7_goesTo_99 rfl ?_
  refine AW.aload_n (k0 := 1) (pc' := 102) X rfl rfl dX7_goesTo_101 rfl ?_
  refine AW.iconst (v := 3) (pc' := 103) X rfl dX7_goesTo_102 rfl ?_
  obtain ⟨v2, c2, h⟩ := Option.bind_eq_some_iff.mp h
  refine AW.callV (As := [.int 3]) (rest := [.long (y4), .long (y4)]) (rv := (some (.int v2))) (M' := M) (pc' := 106) X (ok_X7_setting h0 c2) yv_X7_setting h0.1 h0.2.1 (cM h0 dA ad _) rfl rfl ml_X7_78 ⟨by decide, by decide, by decide, by decide⟩ rfl (Nat.le_of_ble_eq_true rfl) rfl rfl dX7_goesTo_103 rfl ?_
  refine AW.i2l (pc' := 107) X dX7_goesTo_106 rfl ?_
  refine AW.lmul (pc' := 108) X dX7_goesTo_107 rfl ?_
  refine AW.ldc2 (pc' := 111) X mk_X7_120 dX7_goesTo_108 rfl ?_
  refine AW.ldiv (pc' := 112) X (by decide) dX7_goesTo_111 rfl ?_
  refine AW.ladd (pc' := 113) X dX7_goesTo_112 rfl ?_
  refine AW.lconst (v := 1) (pc' := 114) X rfl dX7_goesTo_113 rfl ?_
  refine AW.ladd (pc' := 115) X dX7_goesTo_114 rfl ?_
  refine AW.lstore (ls' := [(10, .long (((y4 + ((y4 * (Int32.toInt64 v2)) / 100)) + 1))), (8, .long ((y4 - (y4 / 2)))), (0, .ref a0), (1, .int x1), (3, .int x3), (4, .long (y4)), (6, .long (y6))]) (pc' := 117) X (by decide) rfl dX7_goesTo_115 rfl ?_
  refine AW.lload (k0 := 6) (pc' := 119) X rfl dX7_goesTo_117 rfl ?_
  refine AW.lload (k0 := 1) (pc' := 121) X rfl dX7_goesTo_119 rfl ?_
  refine AW.lcmp (pc' := 122) X dX7_goesTo_121 rfl ?_
  refine AW.if_ge (pc' := 125) (tgt := 130) X dX7_goesTo_122 rfl rfl (fun q4 => ?_) (fun q4 => ?_)
  · replace h := itep q4 h
    refine AW.lload (k0 := 6) (pc' := 132) X rfl dX7_goesTo_130 rfl ?_
    refine AW.sub (ls' := [(0, .ref a0), (1, .int x1), (3, .int x3), (10, .long (((y4 + ((y4 * (Int32.toInt64 v2)) / 100)) + 1)))]) [2, 3, 4, 0] rfl ?_
    exact ok_X7_goesTo_132 X hr h0 x1 x3 ((y4 + ((y4 * (Int32.toInt64 v2)) / 100)) + 1) y6 M R h
  · replace h := iten q4 h
    refine AW.lload (k0 := 1) (pc' := 127) X rfl dX7_goesTo_125 rfl ?_
    refine AW.goto (pc' := 132) X dX7_goesTo_127 rfl ?_
    refine AW.sub (ls' := [(0, .ref a0), (1, .int x1), (3, .int x3), (10, .long (((y4 + ((y4 * (Int32.toInt64 v2)) / 100)) + 1)))]) [2, 3, 4, 0] rfl ?_
    exact ok_X7_goesTo_132 X hr h0 x1 x3 ((y4 + ((y4 * (Int32.toInt64 v2)) / 100)) + 1) (y4 - (y4 / 2)) M R h
set_option maxHeartbeats 4000000 in
set_option maxRecDepth 100000 in
theorem ok_X7_goesTo {lo n : Nat} {a0 : Nat} {x1 : Int32} {x2 : Int32} {M : MM} {R : MM} (h0 : tMo lo n a0) (h : f_X7_goesTo a0 x1 x2 M = some R) : MC yX7_goesTo cX7_goesTo 17 none 2 48 lo n [.ref a0, .int x1, .int x2] M none R := by
  refine MC.of (ls0 := [(0, .ref a0), (1, .int x1), (2, .int x2)]) (by decide) rfl (fun _ => Nat.le_of_ble_eq_true rfl) (fun p l e s m args below meth c D dA ad A X hr => ?_)
  replace X : CX p s m args meth c cX7_goesTo 17 RX7 D dA ad lo n A := X
  unfold f_X7_goesTo at h
  refine AW.aload_n (k0 := 0) (pc' := 1) X rfl rfl dX7_goesTo_0 rfl ?_
  refine AW.gX7 (v := .ref (a0 + 1)) (pc' := 4) X h0 0 (by decide) rfl mf_X7_7 rfl dX7_goesTo_1 rfl ?_
  refine AW.sipush (v := 208) (pc' := 7) X rfl dX7_goesTo_4 rfl ?_
  refine AW.iload_n (k0 := 1) (pc' := 8) X rfl rfl dX7_goesTo_7 rfl ?_
  refine AW.iadd (pc' := 9) X dX7_goesTo_8 rfl ?_
  obtain ⟨g1, h⟩ := gd_some h
  refine AW.iald (pc' := 10) X (rM1 h0) (inb_vp g1) dX7_goesTo_9 rfl ?_
  refine AW.istore_n (ls' := [(3, .int (M (a0 + 1) (ix (208 + x1)))), (0, .ref a0), (1, .int x1), (2, .int x2)]) (pc' := 11) X rfl (by decide) rfl dX7_goesTo_10 rfl ?_
  refine AW.aload_n (k0 := 1) (pc' := 12) X rfl rfl dX7_goesTo_11 rfl ?_
  refine AW.gX7 (v := .ref (a0 + 1)) (pc' := 15) X h0 0 (by decide) rfl mf_X7_7 rfl dX7_goesTo_12 rfl ?_
  refine AW.iconst (v := 3) (pc' := 16) X rfl dX7_goesTo_15 rfl ?_
  obtain ⟨g2, h⟩ := gd_some h
  refine AW.iald (pc' := 17) X (rM1 h0) (inb_vp g2) dX7_goesTo_16 rfl ?_
  refine AW.i2l (pc' := 18) X dX7_goesTo_17 rfl ?_
  refine AW.lstore (ls' := [(4, .long ((Int32.toInt64 (M (a0 + 1) (ix 3))))), (3, .int (M (a0 + 1) (ix (208 + x1)))), (0, .ref a0), (1, .int x1), (2, .int x2)]) (pc' := 20) X (by decide) rfl dX7_goesTo_18 rfl ?_
  refine AW.ldc2 (pc' := 23) X mk_X7_115 dX7_goesTo_20 rfl ?_
  refine AW.lload (k0 := 0) (pc' := 25) X rfl dX7_goesTo_23 rfl ?_
  refine AW.lmul (pc' := 26) X dX7_goesTo_25 rfl ?_
  refine AW.lstore (ls' := [(6, .long ((2 * (Int32.toInt64 (M (a0 + 1) (ix 3)))))), (4, .long ((Int32.toInt64 (M (a0 + 1) (ix 3))))), (3, .int (M (a0 + 1) (ix (208 + x1)))), (0, .ref a0), (1, .int x1), (2, .int x2)]) (pc' := 28) X (by decide) rfl dX7_goesTo_26 rfl ?_
  refine AW.aload_n (k0 := 3) (pc' := 29) X rfl rfl dX7_goesTo_28 rfl ?_
  refine AW.gX7 (v := .ref (a0 + 1)) (pc' := 32) X h0 0 (by decide) rfl mf_X7_7 rfl dX7_goesTo_29 rfl ?_
  refine AW.sipush (v := 1508) (pc' := 35) X rfl dX7_goesTo_32 rfl ?_
  refine AW.iload_n (k0 := 4) (pc' := 36) X rfl rfl dX7_goesTo_35 rfl ?_
  refine AW.iadd (pc' := 37) X dX7_goesTo_36 rfl ?_
  obtain ⟨g3, h⟩ := gd_some h
  refine AW.iald (pc' := 38) X (rM1 h0) (inb_vp g3) dX7_goesTo_37 rfl ?_
  refine AW.if_le (pc' := 41) (tgt := 68) X dX7_goesTo_38 rfl rfl (fun q4 => ?_) (fun q4 => ?_)
  · replace h := itep q4 h
    refine AW.iload_n (k0 := 5) (pc' := 69) X rfl rfl dX7_goesTo_68 rfl ?_
    refine AW.if_le (pc' := 72) (tgt := 86) X dX7_goesTo_69 rfl rfl (fun q5 => ?_) (fun q5 => ?_)
    · replace h := itep q5 h
      refine AW.sub (ls' := [(0, .ref a0), (1, .int x1), (3, .int (M (a0 + 1) (ix (208 + x1)))), (4, .long ((Int32.toInt64 (M (a0 + 1) (ix 3))))), (6, .long ((2 * (Int32.toInt64 (M (a0 + 1) (ix 3))))))]) [3, 4, 2, 1, 0] rfl ?_
      exact ok_X7_goesTo_86 X hr h0 x1 (M (a0 + 1) (ix (208 + x1))) (Int32.toInt64 (M (a0 + 1) (ix 3))) (2 * (Int32.toInt64 (M (a0 + 1) (ix 3)))) M R h
    · replace h := iten q5 h
      refine AW.lload (k0 := 1) (pc' := 74) X rfl dX7_goesTo_72 rfl ?_
      refine AW.aload_n (k0 := 3) (pc' := 75) X rfl rfl dX7_goesTo_74 rfl ?_
      refine AW.iload_n (k0 := 2) (pc' := 76) X rfl rfl dX7_goesTo_75 rfl ?_
      obtain ⟨v6, c6, h⟩ := Option.bind_eq_some_iff.mp h
      refine AW.callV (As := [.int (M (a0 + 1) (ix (208 + x1)))]) (rest := [.long ((Int32.toInt64 (M (a0 + 1) (ix 3))))]) (rv := (some (.int v6))) (M' := M) (pc' := 79) X (ok_X7_targetOf h0 c6) yv_X7_targetOf h0.1 h0.2.1 (cM h0 dA ad _) rfl rfl ml_X7_117 ⟨by decide, by decide, by decide, by decide⟩ rfl (Nat.le_of_ble_eq_true rfl) rfl rfl dX7_goesTo_76 rfl ?_
      refine AW.i2l (pc' := 80) X dX7_goesTo_79 rfl ?_
      refine AW.lmul (pc' := 81) X dX7_goesTo_80 rfl ?_
      refine AW.iload_n (k0 := 5) (pc' := 82) X rfl rfl dX7_goesTo_81 rfl ?_
      refine AW.i2l (pc' := 83) X dX7_goesTo_82 rfl ?_
      obtain ⟨g7, h⟩ := gd_some h
      refine AW.ldiv (pc' := 84) X (nzl_ne g7) dX7_goesTo_83 rfl ?_
      refine AW.lstore (ls' := [(6, .long ((((Int32.toInt64 (M (a0 + 1) (ix 3))) * (Int32.toInt64 v6)) / (Int32.toInt64 x2)))), (4, .long ((Int32.toInt64 (M (a0 + 1) (ix 3))))), (3, .int (M (a0 + 1) (ix (208 + x1)))), (0, .ref a0), (1, .int x1), (2, .int x2)]) (pc' := 86) X (by decide) rfl dX7_goesTo_84 rfl ?_
      refine AW.sub (ls' := [(0, .ref a0), (1, .int x1), (3, .int (M (a0 + 1) (ix (208 + x1)))), (4, .long ((Int32.toInt64 (M (a0 + 1) (ix 3))))), (6, .long ((((Int32.toInt64 (M (a0 + 1) (ix 3))) * (Int32.toInt64 v6)) / (Int32.toInt64 x2))))]) [3, 4, 2, 1, 0] rfl ?_
      exact ok_X7_goesTo_86 X hr h0 x1 (M (a0 + 1) (ix (208 + x1))) (Int32.toInt64 (M (a0 + 1) (ix 3))) (((Int32.toInt64 (M (a0 + 1) (ix 3))) * (Int32.toInt64 v6)) / (Int32.toInt64 x2)) M R h
  · replace h := iten q4 h
    refine AW.aload_n (k0 := 3) (pc' := 42) X rfl rfl dX7_goesTo_41 rfl ?_
    refine AW.iload_n (k0 := 2) (pc' := 43) X rfl rfl dX7_goesTo_42 rfl ?_
    obtain ⟨v8, c8, h⟩ := Option.bind_eq_some_iff.mp h
    refine AW.callV (As := [.int (M (a0 + 1) (ix (208 + x1)))]) (rest := []) (rv := (some (.int v8))) (M' := M) (pc' := 46) X (ok_X7_targetOf h0 c8) yv_X7_targetOf h0.1 h0.2.1 (cM h0 dA ad _) rfl rfl ml_X7_117 ⟨by decide, by decide, by decide, by decide⟩ rfl (Nat.le_of_ble_eq_true rfl) rfl rfl dX7_goesTo_43 rfl ?_
    refine AW.i2l (pc' := 47) X dX7_goesTo_46 rfl ?_
    refine AW.ldc2 (pc' := 50) X mk_X7_89 dX7_goesTo_47 rfl ?_
    refine AW.lmul (pc' := 51) X dX7_goesTo_50 rfl ?_
    refine AW.aload_n (k0 := 3) (pc' := 52) X rfl rfl dX7_goesTo_51 rfl ?_
    refine AW.gX7 (v := .ref (a0 + 1)) (pc' := 55) X h0 0 (by decide) rfl mf_X7_7 rfl dX7_goesTo_52 rfl ?_
    refine AW.sipush (v := 1508) (pc' := 58) X rfl dX7_goesTo_55 rfl ?_
    refine AW.iload_n (k0 := 4) (pc' := 59) X rfl rfl dX7_goesTo_58 rfl ?_
    refine AW.iadd (pc' := 60) X dX7_goesTo_59 rfl ?_
    obtain ⟨g9, h⟩ := gd_some h
    refine AW.iald (pc' := 61) X (rM1 h0) (inb_vp g9) dX7_goesTo_60 rfl ?_
    refine AW.i2l (pc' := 62) X dX7_goesTo_61 rfl ?_
    obtain ⟨g10, h⟩ := gd_some h
    refine AW.ldiv (pc' := 63) X (nzl_ne g10) dX7_goesTo_62 rfl ?_
    refine AW.lstore (ls' := [(6, .long ((((Int32.toInt64 v8) * 1000) / (Int32.toInt64 (M (a0 + 1) (ix (1508 + x1))))))), (4, .long ((Int32.toInt64 (M (a0 + 1) (ix 3))))), (3, .int (M (a0 + 1) (ix (208 + x1)))), (0, .ref a0), (1, .int x1), (2, .int x2)]) (pc' := 65) X (by decide) rfl dX7_goesTo_63 rfl ?_
    refine AW.goto (pc' := 86) X dX7_goesTo_65 rfl ?_
    refine AW.sub (ls' := [(0, .ref a0), (1, .int x1), (3, .int (M (a0 + 1) (ix (208 + x1)))), (4, .long ((Int32.toInt64 (M (a0 + 1) (ix 3))))), (6, .long ((((Int32.toInt64 v8) * 1000) / (Int32.toInt64 (M (a0 + 1) (ix (1508 + x1)))))))]) [3, 4, 2, 1, 0] rfl ?_
    exact ok_X7_goesTo_86 X hr h0 x1 (M (a0 + 1) (ix (208 + x1))) (Int32.toInt64 (M (a0 + 1) (ix 3))) (((Int32.toInt64 v8) * 1000) / (Int32.toInt64 (M (a0 + 1) (ix (1508 + x1))))) M R h
set_option maxHeartbeats 4000000 in
set_option maxRecDepth 100000 in
theorem ok_X7_loop_61 {a0 : Nat} (X : CX p s m args meth c cX7_loop 4 RX7 D dA ad lo n A) (hr : meth.sig.returnType = none) (h0 : tMo lo n a0) {r2 : Nat} (hr2 : tIA lo n 16272 r2) : ∀ (s0 : Int32) (sb1 : Bool) (M : MM) (R : MM), f_X7_loop_61 a0 s0 sb1 r2 M = some R → AR p l e 3 84 s m args below meth c D dA ad lo n 4 A none R 61 [] [.int s0, .int (bz sb1), .ref r2] M := by
  intro s0 sb1 M R h
  unfold f_X7_loop_61 at h
  obtain ⟨g1, h⟩ := gd_some h
  refine AW.iast (pc' := 62) X hr2 (inb_vp g1) dX7_loop_61 rfl ?_
  replace h := Option.some.inj h
  subst h
  exact AW.vret X hr dX7_loop_62
set_option maxHeartbeats 4000000 in
set_option maxRecDepth 100000 in
theorem ok_X7_loop_252 {a0 : Nat} (X : CX p s m args meth c cX7_loop 4 RX7 D dA ad lo n A) (hr : meth.sig.returnType = none) (h0 : tMo lo n a0) : ∀ (x1 : Int32) (x3 : Int32) (M : MM) (R : MM), f_X7_loop_252 a0 x1 x3 M = some R → AR p l e 3 84 s m args below meth c D dA ad lo n 4 A none R 252 [(0, .ref a0), (1, .int x1), (3, .int x3)] [] M := by
  intro x1 x3 M R h
  unfold f_X7_loop_252 at h
  refine AW.aload_n (k0 := 0) (pc' := 253) X rfl rfl dX7_loop_252 rfl ?_
  refine AW.iload_n (k0 := 2) (pc' := 254) X rfl rfl dX7_loop_253 rfl ?_
  refine AW.iload_n (k0 := 1) (pc' := 255) X rfl rfl dX7_loop_254 rfl ?_
  obtain ⟨v1, c1, h⟩ := Option.bind_eq_some_iff.mp h
  refine AW.callV (As := [.int x3, .int x1]) (rest := []) (rv := none) (M' := v1) (pc' := 258) X (ok_X7_goesTo h0 c1) yv_X7_goesTo h0.1 h0.2.1 (cM h0 dA ad _) rfl rfl ml_X7_112 ⟨by decide, by decide, by decide, by decide⟩ rfl (Nat.le_of_ble_eq_true rfl) rfl rfl dX7_loop_255 rfl ?_
  replace h := Option.some.inj h
  subst h
  exact AW.vret X hr dX7_loop_258
set_option maxHeartbeats 4000000 in
set_option maxRecDepth 100000 in
theorem ok_X7_loop_251 {a0 : Nat} (X : CX p s m args meth c cX7_loop 4 RX7 D dA ad lo n A) (hr : meth.sig.returnType = none) (h0 : tMo lo n a0) : ∀ (x1 : Int32) (s0 : Int32) (M : MM) (R : MM), f_X7_loop_251 a0 x1 s0 M = some R → AR p l e 3 84 s m args below meth c D dA ad lo n 4 A none R 251 [(0, .ref a0), (1, .int x1)] [.int s0] M := by
  intro x1 s0 M R h
  unfold f_X7_loop_251 at h
  refine AW.istore_n (ls' := [(3, .int s0), (0, .ref a0), (1, .int x1)]) (pc' := 252) X rfl (by decide) rfl dX7_loop_251 rfl ?_
  refine AW.sub (ls' := [(0, .ref a0), (1, .int x1), (3, .int s0)]) [1, 2, 0] rfl ?_
  exact ok_X7_loop_252 X hr h0 x1 s0 M R h
set_option maxHeartbeats 4000000 in
set_option maxRecDepth 100000 in
theorem ok_X7_loop_231 {a0 : Nat} (X : CX p s m args meth c cX7_loop 4 RX7 D dA ad lo n A) (hr : meth.sig.returnType = none) (h0 : tMo lo n a0) : ∀ (x1 : Int32) (s0 : Int32) (s1 : Int32) (M : MM) (R : MM), f_X7_loop_231 a0 x1 s0 s1 M = some R → AR p l e 3 84 s m args below meth c D dA ad lo n 4 A none R 231 [(0, .ref a0), (1, .int x1)] [.int s0, .int s1] M := by
  intro x1 s0 s1 M R h
  unfold f_X7_loop_231 at h
  refine AW.iadd (pc' := 232) X dX7_loop_231 rfl ?_
  refine AW.istore_n (ls' := [(3, .int (s1 + s0)), (0, .ref a0), (1, .int x1)]) (pc' := 233) X rfl (by decide) rfl dX7_loop_232 rfl ?_
  refine AW.aload_n (k0 := 1) (pc' := 234) X rfl rfl dX7_loop_233 rfl ?_
  refine AW.iload_n (k0 := 0) (pc' := 235) X rfl rfl dX7_loop_234 rfl ?_
  obtain ⟨v1, c1, h⟩ := Option.bind_eq_some_iff.mp h
  refine AW.callV (As := [.int (s1 + s0)]) (rest := []) (rv := (some (.int (bz v1)))) (M' := M) (pc' := 238) X (ok_X7_isLine h0 c1) yv_X7_isLine h0.1 h0.2.1 (cM h0 dA ad _) rfl rfl ml_X7_109 ⟨by decide, by decide, by decide, by decide⟩ rfl (Nat.le_of_ble_eq_true rfl) rfl rfl dX7_loop_235 rfl ?_
  refine AW.if_eq (pc' := 241) (tgt := 245) X dX7_loop_238 rfl rfl (fun q2 => ?_) (fun q2 => ?_)
  · replace h := itep q2 h
    refine AW.aload_n (k0 := 1) (pc' := 246) X rfl rfl dX7_loop_245 rfl ?_
    refine AW.gX7 (v := .ref (a0 + 1)) (pc' := 249) X h0 0 (by decide) rfl mf_X7_7 rfl dX7_loop_246 rfl ?_
    refine AW.iconst (v := 2) (pc' := 250) X rfl dX7_loop_249 rfl ?_
    obtain ⟨g3, h⟩ := gd_some h
    refine AW.iald (pc' := 251) X (rM1 h0) (inb_vp g3) dX7_loop_250 rfl ?_
    refine AW.sub (ls' := [(0, .ref a0), (1, .int x1)]) [1, 2] rfl ?_
    exact ok_X7_loop_251 X hr h0 x1 (M (a0 + 1) (ix 2)) M R h
  · replace h := iten q2 h
    refine AW.iload_n (k0 := 0) (pc' := 242) X rfl rfl dX7_loop_241 rfl ?_
    refine AW.goto (pc' := 251) X dX7_loop_242 rfl ?_
    refine AW.sub (ls' := [(0, .ref a0), (1, .int x1)]) [1, 2] rfl ?_
    exact ok_X7_loop_251 X hr h0 x1 (s1 + s0) M R h
set_option maxHeartbeats 4000000 in
set_option maxRecDepth 100000 in
theorem ok_X7_loop_142 {a0 : Nat} (X : CX p s m args meth c cX7_loop 4 RX7 D dA ad lo n A) (hr : meth.sig.returnType = none) (h0 : tMo lo n a0) : ∀ (x1 : Int32) (s0 : Int32) (s1 : Int32) (M : MM) (R : MM), f_X7_loop_142 a0 x1 s0 s1 M = some R → AR p l e 3 84 s m args below meth c D dA ad lo n 4 A none R 142 [(0, .ref a0), (1, .int x1)] [.int s0, .int s1] M := by
  intro x1 s0 s1 M R h
  unfold f_X7_loop_142 at h
  refine AW.iadd (pc' := 143) X dX7_loop_142 rfl ?_
  refine AW.istore_n (ls' := [(3, .int (s1 + s0)), (0, .ref a0), (1, .int x1)]) (pc' := 144) X rfl (by decide) rfl dX7_loop_143 rfl ?_
  refine AW.aload_n (k0 := 1) (pc' := 145) X rfl rfl dX7_loop_144 rfl ?_
  refine AW.iload_n (k0 := 0) (pc' := 146) X rfl rfl dX7_loop_145 rfl ?_
  obtain ⟨v1, c1, h⟩ := Option.bind_eq_some_iff.mp h
  refine AW.callV (As := [.int (s1 + s0)]) (rest := []) (rv := (some (.int (bz v1)))) (M' := M) (pc' := 149) X (ok_X7_isLine h0 c1) yv_X7_isLine h0.1 h0.2.1 (cM h0 dA ad _) rfl rfl ml_X7_109 ⟨by decide, by decide, by decide, by decide⟩ rfl (Nat.le_of_ble_eq_true rfl) rfl rfl dX7_loop_146 rfl ?_
  refine AW.if_ne (pc' := 152) (tgt := 252) X dX7_loop_149 rfl rfl (fun q2 => ?_) (fun q2 => ?_)
  · replace h := iten q2 h
    refine AW.sub (ls' := [(0, .ref a0), (1, .int x1), (3, .int (s1 + s0))]) [1, 2, 0] rfl ?_
    exact ok_X7_loop_252 X hr h0 x1 (s1 + s0) M R h
  · replace h := itep q2 h
    refine AW.aload_n (k0 := 1) (pc' := 153) X rfl rfl dX7_loop_152 rfl ?_
    refine AW.gX7 (v := .ref (a0 + 1)) (pc' := 156) X h0 0 (by decide) rfl mf_X7_7 rfl dX7_loop_153 rfl ?_
    refine AW.bipush (v := 6) (pc' := 158) X rfl dX7_loop_156 rfl ?_
    refine AW.dup2 (pc' := 159) X rfl rfl dX7_loop_158 rfl ?_
    obtain ⟨g3, h⟩ := gd_some h
    refine AW.iald (pc' := 160) X (rM1 h0) (inb_vp g3) dX7_loop_159 rfl ?_
    refine AW.iconst (v := 1) (pc' := 161) X rfl dX7_loop_160 rfl ?_
    refine AW.iadd (pc' := 162) X dX7_loop_161 rfl ?_
    obtain ⟨g4, h⟩ := gd_some h
    refine AW.iast (pc' := 163) X (rM1 h0) (inb_vp g4) dX7_loop_162 rfl ?_
    refine AW.aload_n (k0 := 1) (pc' := 164) X rfl rfl dX7_loop_163 rfl ?_
    refine AW.gX7 (v := .ref (a0 + 1)) (pc' := 167) X h0 0 (by decide) rfl mf_X7_7 rfl dX7_loop_164 rfl ?_
    refine AW.bipush (v := 6) (pc' := 169) X rfl dX7_loop_167 rfl ?_
    obtain ⟨g5, h⟩ := gd_some h
    refine AW.iald (pc' := 170) X (rM1 h0) (inb_vp g5) dX7_loop_169 rfl ?_
    refine AW.aload_n (k0 := 1) (pc' := 171) X rfl rfl dX7_loop_170 rfl ?_
    refine AW.iconst (v := 5) (pc' := 172) X rfl dX7_loop_171 rfl ?_
    obtain ⟨v6, c6, h⟩ := Option.bind_eq_some_iff.mp h
    refine AW.callV (As := [.int 5]) (rest := [.int ((ms M (a0 + 1) (ix 6) ((M (a0 + 1) (ix 6)) + 1)) (a0 + 1) (ix 6))]) (rv := (some (.int v6))) (M' := (ms M (a0 + 1) (ix 6) ((M (a0 + 1) (ix 6)) + 1))) (pc' := 175) X (ok_X7_setting h0 c6) yv_X7_setting h0.1 h0.2.1 (cM h0 dA ad _) rfl rfl ml_X7_78 ⟨by decide, by decide, by decide, by decide⟩ rfl (Nat.le_of_ble_eq_true rfl) rfl rfl dX7_loop_172 rfl ?_
    refine AW.icmp_lt (pc' := 178) (tgt := 193) X dX7_loop_175 rfl rfl (fun q7 => ?_) (fun q7 => ?_)
    · replace h := itep q7 h
      refine AW.aload_n (k0 := 1) (pc' := 194) X rfl rfl dX7_loop_193 rfl ?_
      refine AW.gX7 (v := .ref (a0 + 1)) (pc' := 197) X h0 0 (by decide) rfl mf_X7_7 rfl dX7_loop_194 rfl ?_
      refine AW.bipush (v := 7) (pc' := 199) X rfl dX7_loop_197 rfl ?_
      refine AW.iconst (v := 1) (pc' := 200) X rfl dX7_loop_199 rfl ?_
      refine AW.aload_n (k0 := 1) (pc' := 201) X rfl rfl dX7_loop_200 rfl ?_
      refine AW.gX7 (v := .ref (a0 + 1)) (pc' := 204) X h0 0 (by decide) rfl mf_X7_7 rfl dX7_loop_201 rfl ?_
      refine AW.bipush (v := 7) (pc' := 206) X rfl dX7_loop_204 rfl ?_
      obtain ⟨g8, h⟩ := gd_some h
      refine AW.iald (pc' := 207) X (rM1 h0) (inb_vp g8) dX7_loop_206 rfl ?_
      refine AW.isub (pc' := 208) X dX7_loop_207 rfl ?_
      obtain ⟨g9, h⟩ := gd_some h
      refine AW.iast (pc' := 209) X (rM1 h0) (inb_vp g9) dX7_loop_208 rfl ?_
      refine AW.aload_n (k0 := 1) (pc' := 210) X rfl rfl dX7_loop_209 rfl ?_
      refine AW.gX7 (v := .ref (a0 + 1)) (pc' := 213) X h0 0 (by decide) rfl mf_X7_7 rfl dX7_loop_210 rfl ?_
      refine AW.iconst (v := 2) (pc' := 214) X rfl dX7_loop_213 rfl ?_
      obtain ⟨g10, h⟩ := gd_some h
      refine AW.iald (pc' := 215) X (rM1 h0) (inb_vp g10) dX7_loop_214 rfl ?_
      refine AW.aload_n (k0 := 1) (pc' := 216) X rfl rfl dX7_loop_215 rfl ?_
      refine AW.gX7 (v := .ref (a0 + 1)) (pc' := 219) X h0 0 (by decide) rfl mf_X7_7 rfl dX7_loop_216 rfl ?_
      refine AW.bipush (v := 7) (pc' := 221) X rfl dX7_loop_219 rfl ?_
      obtain ⟨g11, h⟩ := gd_some h
      refine AW.iald (pc' := 222) X (rM1 h0) (inb_vp g11) dX7_loop_221 rfl ?_
      refine AW.iconst (v := 1) (pc' := 223) X rfl dX7_loop_222 rfl ?_
      refine AW.icmp_ne (pc' := 226) (tgt := 230) X dX7_loop_223 rfl rfl (fun q12 => ?_) (fun q12 => ?_)
      · replace h := iten q12 h
        refine AW.iconst (v := (-1)) (pc' := 231) X rfl dX7_loop_230 rfl ?_
        refine AW.sub (ls' := [(0, .ref a0), (1, .int x1)]) [1, 2] rfl ?_
        exact ok_X7_loop_231 X hr h0 x1 (-1) ((ms (ms M (a0 + 1) (ix 6) ((M (a0 + 1) (ix 6)) + 1)) (a0 + 1) (ix 7) (1 - ((ms M (a0 + 1) (ix 6) ((M (a0 + 1) (ix 6)) + 1)) (a0 + 1) (ix 7)))) (a0 + 1) (ix 2)) (ms (ms M (a0 + 1) (ix 6) ((M (a0 + 1) (ix 6)) + 1)) (a0 + 1) (ix 7) (1 - ((ms M (a0 + 1) (ix 6) ((M (a0 + 1) (ix 6)) + 1)) (a0 + 1) (ix 7)))) R h
      · replace h := itep q12 h
        refine AW.iconst (v := 1) (pc' := 227) X rfl dX7_loop_226 rfl ?_
        refine AW.goto (pc' := 231) X dX7_loop_227 rfl ?_
        refine AW.sub (ls' := [(0, .ref a0), (1, .int x1)]) [1, 2] rfl ?_
        exact ok_X7_loop_231 X hr h0 x1 1 ((ms (ms M (a0 + 1) (ix 6) ((M (a0 + 1) (ix 6)) + 1)) (a0 + 1) (ix 7) (1 - ((ms M (a0 + 1) (ix 6) ((M (a0 + 1) (ix 6)) + 1)) (a0 + 1) (ix 7)))) (a0 + 1) (ix 2)) (ms (ms M (a0 + 1) (ix 6) ((M (a0 + 1) (ix 6)) + 1)) (a0 + 1) (ix 7) (1 - ((ms M (a0 + 1) (ix 6) ((M (a0 + 1) (ix 6)) + 1)) (a0 + 1) (ix 7)))) R h
    · replace h := iten q7 h
      refine AW.aload_n (k0 := 1) (pc' := 179) X rfl rfl dX7_loop_178 rfl ?_
      refine AW.gX7 (v := .ref (a0 + 1)) (pc' := 182) X h0 0 (by decide) rfl mf_X7_7 rfl dX7_loop_179 rfl ?_
      refine AW.iconst (v := 1) (pc' := 183) X rfl dX7_loop_182 rfl ?_
      refine AW.iconst (v := 5) (pc' := 184) X rfl dX7_loop_183 rfl ?_
      obtain ⟨g13, h⟩ := gd_some h
      refine AW.iast (pc' := 185) X (rM1 h0) (inb_vp g13) dX7_loop_184 rfl ?_
      refine AW.aload_n (k0 := 1) (pc' := 186) X rfl rfl dX7_loop_185 rfl ?_
      refine AW.gX7 (v := .ref (a0 + 1)) (pc' := 189) X h0 0 (by decide) rfl mf_X7_7 rfl dX7_loop_186 rfl ?_
      refine AW.iconst (v := 3) (pc' := 190) X rfl dX7_loop_189 rfl ?_
      refine AW.iconst (v := 0) (pc' := 191) X rfl dX7_loop_190 rfl ?_
      obtain ⟨g14, h⟩ := gd_some h
      refine AW.iast (pc' := 192) X (rM1 h0) (inb_vp g14) dX7_loop_191 rfl ?_
      replace h := Option.some.inj h
      subst h
      exact AW.vret X hr dX7_loop_192
set_option maxHeartbeats 4000000 in
set_option maxRecDepth 100000 in
theorem ok_X7_loop {lo n : Nat} {a0 : Nat} {M : MM} {R : MM} (h0 : tMo lo n a0) (h : f_X7_loop a0 M = some R) : MC yX7_loop cX7_loop 4 none 3 84 lo n [.ref a0] M none R := by
  refine MC.of (ls0 := [(0, .ref a0)]) (by decide) rfl (fun _ => Nat.le_of_ble_eq_true rfl) (fun p l e s m args below meth c D dA ad A X hr => ?_)
  replace X : CX p s m args meth c cX7_loop 4 RX7 D dA ad lo n A := X
  unfold f_X7_loop at h
  refine AW.aload_n (k0 := 0) (pc' := 1) X rfl rfl dX7_loop_0 rfl ?_
  refine AW.gX7 (v := .ref (a0 + 1)) (pc' := 4) X h0 0 (by decide) rfl mf_X7_7 rfl dX7_loop_1 rfl ?_
  refine AW.bipush (v := 8) (pc' := 6) X rfl dX7_loop_4 rfl ?_
  refine AW.dup2 (pc' := 7) X rfl rfl dX7_loop_6 rfl ?_
  obtain ⟨g1, h⟩ := gd_some h
  refine AW.iald (pc' := 8) X (rM1 h0) (inb_vp g1) dX7_loop_7 rfl ?_
  refine AW.iconst (v := 1) (pc' := 9) X rfl dX7_loop_8 rfl ?_
  refine AW.iadd (pc' := 10) X dX7_loop_9 rfl ?_
  obtain ⟨g2, h⟩ := gd_some h
  refine AW.iast (pc' := 11) X (rM1 h0) (inb_vp g2) dX7_loop_10 rfl ?_
  refine AW.aload_n (k0 := 0) (pc' := 12) X rfl rfl dX7_loop_11 rfl ?_
  refine AW.gX7 (v := .ref (a0 + 1)) (pc' := 15) X h0 0 (by decide) rfl mf_X7_7 rfl dX7_loop_12 rfl ?_
  refine AW.iconst (v := 1) (pc' := 16) X rfl dX7_loop_15 rfl ?_
  obtain ⟨g3, h⟩ := gd_some h
  refine AW.iald (pc' := 17) X (rM1 h0) (inb_vp g3) dX7_loop_16 rfl ?_
  refine AW.iconst (v := 3) (pc' := 18) X rfl dX7_loop_17 rfl ?_
  refine AW.icmp_ne (pc' := 21) (tgt := 63) X dX7_loop_18 rfl rfl (fun q4 => ?_) (fun q4 => ?_)
  · replace h := iten q4 h
    refine AW.aload_n (k0 := 0) (pc' := 64) X rfl rfl dX7_loop_63 rfl ?_
    obtain ⟨v5, c5, h⟩ := Option.bind_eq_some_iff.mp h
    refine AW.callV (As := []) (rest := []) (rv := (some (.int v5.1))) (M' := v5.2) (pc' := 67) X (ok_X7_measures h0 c5) yv_X7_measures h0.1 h0.2.1 (cM h0 dA ad _) rfl rfl ml_X7_103 ⟨by decide, by decide, by decide, by decide⟩ rfl (Nat.le_of_ble_eq_true rfl) rfl rfl dX7_loop_64 rfl ?_
    refine AW.istore_n (ls' := [(1, .int (v5.1)), (0, .ref a0)]) (pc' := 68) X rfl (by decide) rfl dX7_loop_67 rfl ?_
    refine AW.aload_n (k0 := 1) (pc' := 69) X rfl rfl dX7_loop_68 rfl ?_
    obtain ⟨v6, c6, h⟩ := Option.bind_eq_some_iff.mp h
    refine AW.callV (As := []) (rest := []) (rv := (some (.int v6.1))) (M' := v6.2) (pc' := 72) X (ok_X7_watches h0 c6) yv_X7_watches h0.1 h0.2.1 (cM h0 dA ad _) rfl rfl ml_X7_106 ⟨by decide, by decide, by decide, by decide⟩ rfl (Nat.le_of_ble_eq_true rfl) rfl rfl dX7_loop_69 rfl ?_
    refine AW.istore_n (ls' := [(2, .int (v6.1)), (1, .int (v5.1)), (0, .ref a0)]) (pc' := 73) X rfl (by decide) rfl dX7_loop_72 rfl ?_
    refine AW.iload_n (k0 := 0) (pc' := 74) X rfl rfl dX7_loop_73 rfl ?_
    refine AW.bipush (v := (-6)) (pc' := 76) X rfl dX7_loop_74 rfl ?_
    refine AW.icmp_eq (pc' := 79) (tgt := 108) X dX7_loop_76 rfl rfl (fun q7 => ?_) (fun q7 => ?_)
    · replace h := itep q7 h
      refine AW.aload_n (k0 := 2) (pc' := 109) X rfl rfl dX7_loop_108 rfl ?_
      refine AW.gX7 (v := .ref (a0 + 1)) (pc' := 112) X h0 0 (by decide) rfl mf_X7_7 rfl dX7_loop_109 rfl ?_
      refine AW.iconst (v := 2) (pc' := 113) X rfl dX7_loop_112 rfl ?_
      obtain ⟨g8, h⟩ := gd_some h
      refine AW.iald (pc' := 114) X (rM1 h0) (inb_vp g8) dX7_loop_113 rfl ?_
      refine AW.istore_n (ls' := [(3, .int (v6.2 (a0 + 1) (ix 2))), (2, .int (v6.1)), (1, .int (v5.1)), (0, .ref a0)]) (pc' := 115) X rfl (by decide) rfl dX7_loop_114 rfl ?_
      refine AW.aload_n (k0 := 3) (pc' := 116) X rfl rfl dX7_loop_115 rfl ?_
      refine AW.gX7 (v := .ref (a0 + 1)) (pc' := 119) X h0 0 (by decide) rfl mf_X7_7 rfl dX7_loop_116 rfl ?_
      refine AW.iconst (v := 1) (pc' := 120) X rfl dX7_loop_119 rfl ?_
      obtain ⟨g9, h⟩ := gd_some h
      refine AW.iald (pc' := 121) X (rM1 h0) (inb_vp g9) dX7_loop_120 rfl ?_
      refine AW.iconst (v := 1) (pc' := 122) X rfl dX7_loop_121 rfl ?_
      refine AW.icmp_ne (pc' := 125) (tgt := 252) X dX7_loop_122 rfl rfl (fun q10 => ?_) (fun q10 => ?_)
      · replace h := iten q10 h
        refine AW.sub (ls' := [(0, .ref a0), (1, .int (v5.1)), (3, .int (v6.2 (a0 + 1) (ix 2)))]) [3, 2, 0] rfl ?_
        exact ok_X7_loop_252 X hr h0 v5.1 (v6.2 (a0 + 1) (ix 2)) v6.2 R h
      · replace h := itep q10 h
        refine AW.iload_n (k0 := 0) (pc' := 126) X rfl rfl dX7_loop_125 rfl ?_
        refine AW.aload_n (k0 := 3) (pc' := 127) X rfl rfl dX7_loop_126 rfl ?_
        refine AW.gX7 (v := .ref (a0 + 1)) (pc' := 130) X h0 0 (by decide) rfl mf_X7_7 rfl dX7_loop_127 rfl ?_
        refine AW.bipush (v := 7) (pc' := 132) X rfl dX7_loop_130 rfl ?_
        obtain ⟨g11, h⟩ := gd_some h
        refine AW.iald (pc' := 133) X (rM1 h0) (inb_vp g11) dX7_loop_132 rfl ?_
        refine AW.iconst (v := 1) (pc' := 134) X rfl dX7_loop_133 rfl ?_
        refine AW.icmp_ne (pc' := 137) (tgt := 141) X dX7_loop_134 rfl rfl (fun q12 => ?_) (fun q12 => ?_)
        · replace h := iten q12 h
          refine AW.iconst (v := (-1)) (pc' := 142) X rfl dX7_loop_141 rfl ?_
          refine AW.sub (ls' := [(0, .ref a0), (1, .int (v5.1))]) [3, 2] rfl ?_
          exact ok_X7_loop_142 X hr h0 v5.1 (-1) (v6.2 (a0 + 1) (ix 2)) v6.2 R h
        · replace h := itep q12 h
          refine AW.iconst (v := 1) (pc' := 138) X rfl dX7_loop_137 rfl ?_
          refine AW.goto (pc' := 142) X dX7_loop_138 rfl ?_
          refine AW.sub (ls' := [(0, .ref a0), (1, .int (v5.1))]) [3, 2] rfl ?_
          exact ok_X7_loop_142 X hr h0 v5.1 1 (v6.2 (a0 + 1) (ix 2)) v6.2 R h
    · replace h := iten q7 h
      refine AW.aload_n (k0 := 2) (pc' := 80) X rfl rfl dX7_loop_79 rfl ?_
      refine AW.gX7 (v := .ref (a0 + 1)) (pc' := 83) X h0 0 (by decide) rfl mf_X7_7 rfl dX7_loop_80 rfl ?_
      refine AW.iconst (v := 1) (pc' := 84) X rfl dX7_loop_83 rfl ?_
      refine AW.iconst (v := 3) (pc' := 85) X rfl dX7_loop_84 rfl ?_
      obtain ⟨g13, h⟩ := gd_some h
      refine AW.iast (pc' := 86) X (rM1 h0) (inb_vp g13) dX7_loop_85 rfl ?_
      refine AW.aload_n (k0 := 2) (pc' := 87) X rfl rfl dX7_loop_86 rfl ?_
      refine AW.gX7 (v := .ref (a0 + 1)) (pc' := 90) X h0 0 (by decide) rfl mf_X7_7 rfl dX7_loop_87 rfl ?_
      refine AW.bipush (v := 9) (pc' := 92) X rfl dX7_loop_90 rfl ?_
      refine AW.iload_n (k0 := 0) (pc' := 93) X rfl rfl dX7_loop_92 rfl ?_
      obtain ⟨g14, h⟩ := gd_some h
      refine AW.iast (pc' := 94) X (rM1 h0) (inb_vp g14) dX7_loop_93 rfl ?_
      refine AW.aload_n (k0 := 2) (pc' := 95) X rfl rfl dX7_loop_94 rfl ?_
      refine AW.gX7 (v := .ref (a0 + 1)) (pc' := 98) X h0 0 (by decide) rfl mf_X7_7 rfl dX7_loop_95 rfl ?_
      refine AW.bipush (v := 10) (pc' := 100) X rfl dX7_loop_98 rfl ?_
      refine AW.aload_n (k0 := 2) (pc' := 101) X rfl rfl dX7_loop_100 rfl ?_
      refine AW.gX7 (v := .ref (a0 + 1)) (pc' := 104) X h0 0 (by decide) rfl mf_X7_7 rfl dX7_loop_101 rfl ?_
      refine AW.iconst (v := 2) (pc' := 105) X rfl dX7_loop_104 rfl ?_
      obtain ⟨g15, h⟩ := gd_some h
      refine AW.iald (pc' := 106) X (rM1 h0) (inb_vp g15) dX7_loop_105 rfl ?_
      obtain ⟨g16, h⟩ := gd_some h
      refine AW.iast (pc' := 107) X (rM1 h0) (inb_vp g16) dX7_loop_106 rfl ?_
      replace h := Option.some.inj h
      subst h
      exact AW.vret X hr dX7_loop_107
  · replace h := itep q4 h
    refine AW.aload_n (k0 := 0) (pc' := 22) X rfl rfl dX7_loop_21 rfl ?_
    refine AW.gX7 (v := .ref (a0 + 1)) (pc' := 25) X h0 0 (by decide) rfl mf_X7_7 rfl dX7_loop_22 rfl ?_
    refine AW.iconst (v := 3) (pc' := 26) X rfl dX7_loop_25 rfl ?_
    refine AW.aload_n (k0 := 0) (pc' := 27) X rfl rfl dX7_loop_26 rfl ?_
    refine AW.gX7 (v := .ref (a0 + 1)) (pc' := 30) X h0 0 (by decide) rfl mf_X7_7 rfl dX7_loop_27 rfl ?_
    refine AW.iconst (v := 3) (pc' := 31) X rfl dX7_loop_30 rfl ?_
    obtain ⟨g17, h⟩ := gd_some h
    refine AW.iald (pc' := 32) X (rM1 h0) (inb_vp g17) dX7_loop_31 rfl ?_
    refine AW.aload_n (k0 := 0) (pc' := 33) X rfl rfl dX7_loop_32 rfl ?_
    refine AW.iconst (v := 4) (pc' := 34) X rfl dX7_loop_33 rfl ?_
    obtain ⟨v18, c18, h⟩ := Option.bind_eq_some_iff.mp h
    refine AW.callV (As := [.int 4]) (rest := [.int ((ms M (a0 + 1) (ix 8) ((M (a0 + 1) (ix 8)) + 1)) (a0 + 1) (ix 3)), .int 3, .ref (a0 + 1)]) (rv := (some (.int v18))) (M' := (ms M (a0 + 1) (ix 8) ((M (a0 + 1) (ix 8)) + 1))) (pc' := 37) X (ok_X7_setting h0 c18) yv_X7_setting h0.1 h0.2.1 (cM h0 dA ad _) rfl rfl ml_X7_78 ⟨by decide, by decide, by decide, by decide⟩ rfl (Nat.le_of_ble_eq_true rfl) rfl rfl dX7_loop_34 rfl ?_
    refine AW.imul (pc' := 38) X dX7_loop_37 rfl ?_
    refine AW.bipush (v := 100) (pc' := 40) X rfl dX7_loop_38 rfl ?_
    refine AW.idiv (pc' := 41) X (by decide) dX7_loop_40 rfl ?_
    obtain ⟨g20, h⟩ := gd_some h
    refine AW.iast (pc' := 42) X (rM1 h0) (inb_vp g20) dX7_loop_41 rfl ?_
    refine AW.aload_n (k0 := 0) (pc' := 43) X rfl rfl dX7_loop_42 rfl ?_
    refine AW.gX7 (v := .ref (a0 + 1)) (pc' := 46) X h0 0 (by decide) rfl mf_X7_7 rfl dX7_loop_43 rfl ?_
    refine AW.iconst (v := 1) (pc' := 47) X rfl dX7_loop_46 rfl ?_
    refine AW.aload_n (k0 := 0) (pc' := 48) X rfl rfl dX7_loop_47 rfl ?_
    refine AW.gX7 (v := .ref (a0 + 1)) (pc' := 51) X h0 0 (by decide) rfl mf_X7_7 rfl dX7_loop_48 rfl ?_
    refine AW.iconst (v := 3) (pc' := 52) X rfl dX7_loop_51 rfl ?_
    obtain ⟨g21, h⟩ := gd_some h
    refine AW.iald (pc' := 53) X (rM1 h0) (inb_vp g21) dX7_loop_52 rfl ?_
    refine AW.if_ne (pc' := 56) (tgt := 60) X dX7_loop_53 rfl rfl (fun q22 => ?_) (fun q22 => ?_)
    · replace h := iten q22 h
      refine AW.iconst (v := 3) (pc' := 61) X rfl dX7_loop_60 rfl ?_
      refine AW.sub (ls' := []) [] rfl ?_
      exact ok_X7_loop_61 X hr h0 (rM1 h0) 3 true (ms (ms M (a0 + 1) (ix 8) ((M (a0 + 1) (ix 8)) + 1)) (a0 + 1) (ix 3) ((((ms M (a0 + 1) (ix 8) ((M (a0 + 1) (ix 8)) + 1)) (a0 + 1) (ix 3)) * v18) / 100)) R h
    · replace h := itep q22 h
      refine AW.iconst (v := 4) (pc' := 57) X rfl dX7_loop_56 rfl ?_
      refine AW.goto (pc' := 61) X dX7_loop_57 rfl ?_
      refine AW.sub (ls' := []) [] rfl ?_
      exact ok_X7_loop_61 X hr h0 (rM1 h0) 4 true (ms (ms M (a0 + 1) (ix 8) ((M (a0 + 1) (ix 8)) + 1)) (a0 + 1) (ix 3) ((((ms M (a0 + 1) (ix 8) ((M (a0 + 1) (ix 8)) + 1)) (a0 + 1) (ix 3)) * v18) / 100)) R h
set_option maxHeartbeats 4000000 in
set_option maxRecDepth 100000 in
theorem ok_X7_loops_24 {a0 : Nat} (X : CX p s m args meth c cX7_loops 3 RX7 D dA ad lo n A) (hr : meth.sig.returnType = (some .int)) (h0 : tMo lo n a0) : ∀ (x2 : Int32) (M : MM) (R : (Int32 × MM)), f_X7_loops_24 a0 x2 M = some R → AR p l e 4 107 s m args below meth c D dA ad lo n 3 A (some (.int R.1)) R.2 24 [(2, .int x2)] [] M := by
  intro x2 M R h
  unfold f_X7_loops_24 at h
  refine AW.iload_n (k0 := 0) (pc' := 25) X rfl rfl dX7_loops_24 rfl ?_
  replace h := Option.some.inj h
  subst h
  exact AW.iret X hr dX7_loops_25
set_option maxHeartbeats 4000000 in
set_option maxRecDepth 100000 in
theorem ok_X7_loops_2 {a0 : Nat} (X : CX p s m args meth c cX7_loops 3 RX7 D dA ad lo n A) (hr : meth.sig.returnType = (some .int)) (h0 : tMo lo n a0) : ∀ (k : Nat) (x1 : Int32) (x2 : Int32) (M : MM) (R : (Int32 × MM)), f_X7_loops_2 a0 k x1 x2 M = some R → AR p l e 4 107 s m args below meth c D dA ad lo n 3 A (some (.int R.1)) R.2 2 [(0, .ref a0), (1, .int x1), (2, .int x2)] [] M := by
  intro k
  induction k with
  | zero => intro _ _ _ R h; exact none_some h
  | succ k ih =>
    intro x1 x2 M R h
    unfold f_X7_loops_2 at h
    refine AW.iload_n (k0 := 2) (pc' := 3) X rfl rfl dX7_loops_2 rfl ?_
    refine AW.iload_n (k0 := 1) (pc' := 4) X rfl rfl dX7_loops_3 rfl ?_
    refine AW.icmp_ge (pc' := 7) (tgt := 24) X dX7_loops_4 rfl rfl (fun q1 => ?_) (fun q1 => ?_)
    · replace h := itep q1 h
      refine AW.sub (ls' := [(2, .int x2)]) [2] rfl ?_
      exact ok_X7_loops_24 X hr h0 x2 M R h
    · replace h := iten q1 h
      refine AW.aload_n (k0 := 0) (pc' := 8) X rfl rfl dX7_loops_7 rfl ?_
      obtain ⟨v2, c2, h⟩ := Option.bind_eq_some_iff.mp h
      refine AW.callV (As := []) (rest := []) (rv := (some (.int (bz v2)))) (M' := M) (pc' := 11) X (ok_X7_rests h0 c2) yv_X7_rests h0.1 h0.2.1 (cM h0 dA ad _) rfl rfl ml_X7_45 ⟨by decide, by decide, by decide, by decide⟩ rfl (Nat.le_of_ble_eq_true rfl) rfl rfl dX7_loops_8 rfl ?_
      refine AW.if_ne (pc' := 14) (tgt := 24) X dX7_loops_11 rfl rfl (fun q3 => ?_) (fun q3 => ?_)
      · replace h := iten q3 h
        refine AW.sub (ls' := [(2, .int x2)]) [2] rfl ?_
        exact ok_X7_loops_24 X hr h0 x2 M R h
      · replace h := itep q3 h
        refine AW.aload_n (k0 := 0) (pc' := 15) X rfl rfl dX7_loops_14 rfl ?_
        obtain ⟨v4, c4, h⟩ := Option.bind_eq_some_iff.mp h
        refine AW.callV (As := []) (rest := []) (rv := none) (M' := v4) (pc' := 18) X (ok_X7_loop h0 c4) yv_X7_loop h0.1 h0.2.1 (cM h0 dA ad _) rfl rfl ml_X7_124 ⟨by decide, by decide, by decide, by decide⟩ rfl (Nat.le_of_ble_eq_true rfl) rfl rfl dX7_loops_15 rfl ?_
        refine AW.iinc (k0 := 2) (v := (x2 + 1)) (y := 1) (ls' := [(2, .int (x2 + 1)), (0, .ref a0), (1, .int x1)]) (pc' := 21) X rfl rfl rfl (by decide) rfl dX7_loops_18 rfl ?_
        refine AW.goto (pc' := 2) X dX7_loops_21 rfl ?_
        refine AW.sub (ls' := [(0, .ref a0), (1, .int x1), (2, .int (x2 + 1))]) [1, 2, 0] rfl ?_
        exact ih x1 (x2 + 1) v4 R h
set_option maxHeartbeats 4000000 in
set_option maxRecDepth 100000 in
theorem ok_X7_loops {lo n : Nat} {a0 : Nat} {x1 : Int32} {M : MM} {R : (Int32 × MM)} (h0 : tMo lo n a0) (h : f_X7_loops a0 x1 M = some R) : MC yX7_loops cX7_loops 3 (some .int) 4 107 lo n [.ref a0, .int x1] M (some (.int R.1)) R.2 := by
  refine MC.of (ls0 := [(0, .ref a0), (1, .int x1)]) (by decide) rfl (fun _ => Nat.le_of_ble_eq_true rfl) (fun p l e s m args below meth c D dA ad A X hr => ?_)
  replace X : CX p s m args meth c cX7_loops 3 RX7 D dA ad lo n A := X
  unfold f_X7_loops at h
  refine AW.iconst (v := 0) (pc' := 1) X rfl dX7_loops_0 rfl ?_
  refine AW.istore_n (ls' := [(2, .int 0), (0, .ref a0), (1, .int x1)]) (pc' := 2) X rfl (by decide) rfl dX7_loops_1 rfl ?_
  refine AW.sub (ls' := [(0, .ref a0), (1, .int x1), (2, .int 0)]) [1, 2, 0] rfl ?_
  exact ok_X7_loops_2 X hr h0 FU x1 0 M R h
set_option maxHeartbeats 4000000 in
set_option maxRecDepth 100000 in
theorem ok_X7_step {lo n : Nat} {a0 : Nat} {x1 : Int32} {M : MM} {R : (Int32 × MM)} (h0 : tMo lo n a0) (h : f_X7_step a0 x1 M = some R) : MC yX7_step cX7_step 2 (some .int) 5 129 lo n [.ref a0, .int x1] M (some (.int R.1)) R.2 := by
  refine MC.of (ls0 := [(0, .ref a0), (1, .int x1)]) (by decide) rfl (fun _ => Nat.le_of_ble_eq_true rfl) (fun p l e s m args below meth c D dA ad A X hr => ?_)
  replace X : CX p s m args meth c cX7_step 2 RX7 D dA ad lo n A := X
  unfold f_X7_step at h
  refine AW.iload_n (k0 := 1) (pc' := 1) X rfl rfl dX7_step_0 rfl ?_
  refine AW.iconst (v := 1) (pc' := 2) X rfl dX7_step_1 rfl ?_
  refine AW.bipush (v := 50) (pc' := 4) X rfl dX7_step_2 rfl ?_
  obtain ⟨v1, c1, h⟩ := Option.bind_eq_some_iff.mp h
  refine AW.callS (As := [.int x1, .int 1, .int 50]) (rest := []) (rv := (some (.int (bz v1)))) (M' := M) (pc' := 7) X (ok_X7_in c1) yv_X7_in ml_X7_41 ⟨by decide, by decide, by decide, by decide⟩ rfl (Nat.le_of_ble_eq_true rfl) rfl rfl dX7_step_4 rfl ?_
  refine AW.if_ne (pc' := 10) (tgt := 13) X dX7_step_7 rfl rfl (fun q2 => ?_) (fun q2 => ?_)
  · replace h := iten q2 h
    refine AW.aload_n (k0 := 0) (pc' := 14) X rfl rfl dX7_step_13 rfl ?_
    obtain ⟨v3, c3, h⟩ := Option.bind_eq_some_iff.mp h
    refine AW.callV (As := []) (rest := []) (rv := (some (.int (bz v3)))) (M' := M) (pc' := 17) X (ok_X7_rests h0 c3) yv_X7_rests h0.1 h0.2.1 (cM h0 dA ad _) rfl rfl ml_X7_45 ⟨by decide, by decide, by decide, by decide⟩ rfl (Nat.le_of_ble_eq_true rfl) rfl rfl dX7_step_14 rfl ?_
    refine AW.if_eq (pc' := 20) (tgt := 23) X dX7_step_17 rfl rfl (fun q4 => ?_) (fun q4 => ?_)
    · replace h := itep q4 h
      refine AW.aload_n (k0 := 0) (pc' := 24) X rfl rfl dX7_step_23 rfl ?_
      obtain ⟨v5, c5, h⟩ := Option.bind_eq_some_iff.mp h
      refine AW.callV (As := []) (rest := []) (rv := none) (M' := v5) (pc' := 27) X (ok_X7_records h0 c5) yv_X7_records h0.1 h0.2.1 (cM h0 dA ad _) rfl rfl ml_X7_53 ⟨by decide, by decide, by decide, by decide⟩ rfl (Nat.le_of_ble_eq_true rfl) rfl rfl dX7_step_24 rfl ?_
      refine AW.aload_n (k0 := 0) (pc' := 28) X rfl rfl dX7_step_27 rfl ?_
      refine AW.iload_n (k0 := 1) (pc' := 29) X rfl rfl dX7_step_28 rfl ?_
      obtain ⟨v6, c6, h⟩ := Option.bind_eq_some_iff.mp h
      refine AW.callV (As := [.int x1]) (rest := []) (rv := (some (.int v6.1))) (M' := v6.2) (pc' := 32) X (ok_X7_loops h0 c6) yv_X7_loops h0.1 h0.2.1 (cM h0 dA ad _) rfl rfl ml_X7_127 ⟨by decide, by decide, by decide, by decide⟩ rfl (Nat.le_of_ble_eq_true rfl) rfl rfl dX7_step_29 rfl ?_
      replace h := Option.some.inj h
      subst h
      exact AW.iret X hr dX7_step_32
    · replace h := iten q4 h
      refine AW.bipush (v := (-3)) (pc' := 22) X rfl dX7_step_20 rfl ?_
      replace h := Option.some.inj h
      subst h
      exact AW.iret X hr dX7_step_22
  · replace h := itep q2 h
    refine AW.bipush (v := (-2)) (pc' := 12) X rfl dX7_step_10 rfl ?_
    replace h := Option.some.inj h
    subst h
    exact AW.iret X hr dX7_step_12
set_option maxHeartbeats 4000000 in
set_option maxRecDepth 100000 in
theorem ok_X7_canHold_23 {a0 : Nat} {M : MM} (X : CX p s m args meth c cX7_canHold 2 RX7 D dA ad lo n A) (hr : meth.sig.returnType = (some .boolean)) (h0 : tMo lo n a0) : ∀ (sb0 : Bool) (R : Bool), f_X7_canHold_23 a0 M sb0 = some R → AR p l e 0 0 s m args below meth c D dA ad lo n 2 A (some (.int (bz R))) M 23 [] [.int (bz sb0)] M := by
  intro sb0 R h
  unfold f_X7_canHold_23 at h
  replace h := Option.some.inj h
  subst h
  exact AW.zret (b := sb0) X hr dX7_canHold_23
set_option maxHeartbeats 4000000 in
set_option maxRecDepth 100000 in
theorem ok_X7_canHold_15 {a0 : Nat} {M : MM} (X : CX p s m args meth c cX7_canHold 2 RX7 D dA ad lo n A) (hr : meth.sig.returnType = (some .boolean)) (h0 : tMo lo n a0) : ∀ (s0 : Int32) (s1 : Int32) (R : Bool), f_X7_canHold_15 a0 M s0 s1 = some R → AR p l e 0 0 s m args below meth c D dA ad lo n 2 A (some (.int (bz R))) M 15 [] [.int s0, .int s1] M := by
  intro s0 s1 R h
  unfold f_X7_canHold_15 at h
  refine AW.icmp_ne (pc' := 18) (tgt := 22) X dX7_canHold_15 rfl rfl (fun q1 => ?_) (fun q1 => ?_)
  · replace h := iten q1 h
    refine AW.iconst (v := 0) (pc' := 23) X rfl dX7_canHold_22 rfl ?_
    exact ok_X7_canHold_23 X hr h0 false R h
  · replace h := itep q1 h
    refine AW.iconst (v := 1) (pc' := 19) X rfl dX7_canHold_18 rfl ?_
    refine AW.goto (pc' := 23) X dX7_canHold_19 rfl ?_
    exact ok_X7_canHold_23 X hr h0 true R h
set_option maxHeartbeats 4000000 in
set_option maxRecDepth 100000 in
theorem ok_X7_canHold {lo n : Nat} {a0 : Nat} {b1 : Bool} {M : MM} {R : Bool} (h0 : tMo lo n a0) (h : f_X7_canHold a0 b1 M = some R) : MC yX7_canHold cX7_canHold 2 (some .boolean) 0 0 lo n [.ref a0, .int (bz b1)] M (some (.int (bz R))) M := by
  refine MC.of (ls0 := [(0, .ref a0), (1, .int (bz b1))]) (by decide) rfl (fun _ => Nat.le_of_ble_eq_true rfl) (fun p l e s m args below meth c D dA ad A X hr => ?_)
  replace X : CX p s m args meth c cX7_canHold 2 RX7 D dA ad lo n A := X
  unfold f_X7_canHold at h
  refine AW.aload_n (k0 := 0) (pc' := 1) X rfl rfl dX7_canHold_0 rfl ?_
  refine AW.gX7 (v := .ref (a0 + 1)) (pc' := 4) X h0 0 (by decide) rfl mf_X7_7 rfl dX7_canHold_1 rfl ?_
  refine AW.iconst (v := 1) (pc' := 5) X rfl dX7_canHold_4 rfl ?_
  obtain ⟨g1, h⟩ := gd_some h
  refine AW.iald (pc' := 6) X (rM1 h0) (inb_vp g1) dX7_canHold_5 rfl ?_
  refine AW.iload_n (k0 := 1) (pc' := 7) X rfl rfl dX7_canHold_6 rfl ?_
  refine AW.if_eq (pc' := 10) (tgt := 14) X dX7_canHold_7 rfl rfl (fun q2 => ?_) (fun q2 => ?_)
  · replace h := itep q2 h
    refine AW.iconst (v := 2) (pc' := 15) X rfl dX7_canHold_14 rfl ?_
    refine AW.sub (ls' := []) [] rfl ?_
    exact ok_X7_canHold_15 X hr h0 2 (M (a0 + 1) (ix 1)) R h
  · replace h := iten q2 h
    refine AW.iconst (v := 1) (pc' := 11) X rfl dX7_canHold_10 rfl ?_
    refine AW.goto (pc' := 15) X dX7_canHold_11 rfl ?_
    refine AW.sub (ls' := []) [] rfl ?_
    exact ok_X7_canHold_15 X hr h0 1 (M (a0 + 1) (ix 1)) R h
set_option maxHeartbeats 4000000 in
set_option maxRecDepth 100000 in
theorem ok_X7_hold_29 {a0 : Nat} (X : CX p s m args meth c cX7_hold 2 RX7 D dA ad lo n A) (hr : meth.sig.returnType = (some .int)) (h0 : tMo lo n a0) {r2 : Nat} (hr2 : tIA lo n 16272 r2) : ∀ (s0 : Int32) (sb1 : Bool) (M : MM) (R : (Int32 × MM)), f_X7_hold_29 a0 s0 sb1 r2 M = some R → AR p l e 2 44 s m args below meth c D dA ad lo n 2 A (some (.int R.1)) R.2 29 [(0, .ref a0)] [.int s0, .int (bz sb1), .ref r2] M := by
  intro s0 sb1 M R h
  unfold f_X7_hold_29 at h
  obtain ⟨g1, h⟩ := gd_some h
  refine AW.iast (pc' := 30) X hr2 (inb_vp g1) dX7_hold_29 rfl ?_
  refine AW.aload_n (k0 := 0) (pc' := 31) X rfl rfl dX7_hold_30 rfl ?_
  refine AW.gX7 (v := .ref (a0 + 1)) (pc' := 34) X h0 0 (by decide) rfl mf_X7_7 rfl dX7_hold_31 rfl ?_
  refine AW.iconst (v := 2) (pc' := 35) X rfl dX7_hold_34 rfl ?_
  obtain ⟨g2, h⟩ := gd_some h
  refine AW.iald (pc' := 36) X (rM1 h0) (inb_vp g2) dX7_hold_35 rfl ?_
  replace h := Option.some.inj h
  subst h
  exact AW.iret X hr dX7_hold_36
set_option maxHeartbeats 4000000 in
set_option maxRecDepth 100000 in
theorem ok_X7_hold {lo n : Nat} {a0 : Nat} {b1 : Bool} {M : MM} {R : (Int32 × MM)} (h0 : tMo lo n a0) (h : f_X7_hold a0 b1 M = some R) : MC yX7_hold cX7_hold 2 (some .int) 2 44 lo n [.ref a0, .int (bz b1)] M (some (.int R.1)) R.2 := by
  refine MC.of (ls0 := [(0, .ref a0), (1, .int (bz b1))]) (by decide) rfl (fun _ => Nat.le_of_ble_eq_true rfl) (fun p l e s m args below meth c D dA ad A X hr => ?_)
  replace X : CX p s m args meth c cX7_hold 2 RX7 D dA ad lo n A := X
  unfold f_X7_hold at h
  refine AW.aload_n (k0 := 0) (pc' := 1) X rfl rfl dX7_hold_0 rfl ?_
  refine AW.iload_n (k0 := 1) (pc' := 2) X rfl rfl dX7_hold_1 rfl ?_
  obtain ⟨v1, c1, h⟩ := Option.bind_eq_some_iff.mp h
  refine AW.callV (As := [.int (bz b1)]) (rest := []) (rv := (some (.int (bz v1)))) (M' := M) (pc' := 5) X (ok_X7_canHold h0 c1) yv_X7_canHold h0.1 h0.2.1 (cM h0 dA ad _) rfl rfl ml_X7_130 ⟨by decide, by decide, by decide, by decide⟩ rfl (Nat.le_of_ble_eq_true rfl) rfl rfl dX7_hold_2 rfl ?_
  refine AW.if_ne (pc' := 8) (tgt := 11) X dX7_hold_5 rfl rfl (fun q2 => ?_) (fun q2 => ?_)
  · replace h := iten q2 h
    refine AW.aload_n (k0 := 0) (pc' := 12) X rfl rfl dX7_hold_11 rfl ?_
    obtain ⟨v3, c3, h⟩ := Option.bind_eq_some_iff.mp h
    refine AW.callV (As := []) (rest := []) (rv := none) (M' := v3) (pc' := 15) X (ok_X7_records h0 c3) yv_X7_records h0.1 h0.2.1 (cM h0 dA ad _) rfl rfl ml_X7_53 ⟨by decide, by decide, by decide, by decide⟩ rfl (Nat.le_of_ble_eq_true rfl) rfl rfl dX7_hold_12 rfl ?_
    refine AW.aload_n (k0 := 0) (pc' := 16) X rfl rfl dX7_hold_15 rfl ?_
    refine AW.gX7 (v := .ref (a0 + 1)) (pc' := 19) X h0 0 (by decide) rfl mf_X7_7 rfl dX7_hold_16 rfl ?_
    refine AW.iconst (v := 1) (pc' := 20) X rfl dX7_hold_19 rfl ?_
    refine AW.iload_n (k0 := 1) (pc' := 21) X rfl rfl dX7_hold_20 rfl ?_
    refine AW.if_eq (pc' := 24) (tgt := 28) X dX7_hold_21 rfl rfl (fun q4 => ?_) (fun q4 => ?_)
    · replace h := itep q4 h
      refine AW.iconst (v := 1) (pc' := 29) X rfl dX7_hold_28 rfl ?_
      refine AW.sub (ls' := [(0, .ref a0)]) [0] rfl ?_
      exact ok_X7_hold_29 X hr h0 (rM1 h0) 1 true v3 R h
    · replace h := iten q4 h
      refine AW.iconst (v := 2) (pc' := 25) X rfl dX7_hold_24 rfl ?_
      refine AW.goto (pc' := 29) X dX7_hold_25 rfl ?_
      refine AW.sub (ls' := [(0, .ref a0)]) [0] rfl ?_
      exact ok_X7_hold_29 X hr h0 (rM1 h0) 2 true v3 R h
  · replace h := itep q2 h
    refine AW.bipush (v := (-3)) (pc' := 10) X rfl dX7_hold_8 rfl ?_
    replace h := Option.some.inj h
    subst h
    exact AW.iret X hr dX7_hold_10
set_option maxHeartbeats 4000000 in
set_option maxRecDepth 100000 in
theorem ok_X7_canAbort_25 {a0 : Nat} {M : MM} (X : CX p s m args meth c cX7_canAbort 1 RX7 D dA ad lo n A) (hr : meth.sig.returnType = (some .boolean)) (h0 : tMo lo n a0) : ∀ (sb0 : Bool) (R : Bool), f_X7_canAbort_25 a0 M sb0 = some R → AR p l e 0 0 s m args below meth c D dA ad lo n 1 A (some (.int (bz R))) M 25 [] [.int (bz sb0)] M := by
  intro sb0 R h
  unfold f_X7_canAbort_25 at h
  replace h := Option.some.inj h
  subst h
  exact AW.zret (b := sb0) X hr dX7_canAbort_25
set_option maxHeartbeats 4000000 in
set_option maxRecDepth 100000 in
theorem ok_X7_canAbort_20 {a0 : Nat} {M : MM} (X : CX p s m args meth c cX7_canAbort 1 RX7 D dA ad lo n A) (hr : meth.sig.returnType = (some .boolean)) (h0 : tMo lo n a0) : ∀  (R : Bool), f_X7_canAbort_20 a0 M  = some R → AR p l e 0 0 s m args below meth c D dA ad lo n 1 A (some (.int (bz R))) M 20 [] [] M := by
  intro  R h
  unfold f_X7_canAbort_20 at h
  refine AW.iconst (v := 1) (pc' := 21) X rfl dX7_canAbort_20 rfl ?_
  refine AW.goto (pc' := 25) X dX7_canAbort_21 rfl ?_
  exact ok_X7_canAbort_25 X hr h0 true R h
set_option maxHeartbeats 4000000 in
set_option maxRecDepth 100000 in
theorem ok_X7_canAbort {lo n : Nat} {a0 : Nat} {M : MM} {R : Bool} (h0 : tMo lo n a0) (h : f_X7_canAbort a0 M = some R) : MC yX7_canAbort cX7_canAbort 1 (some .boolean) 0 0 lo n [.ref a0] M (some (.int (bz R))) M := by
  refine MC.of (ls0 := [(0, .ref a0)]) (by decide) rfl (fun _ => Nat.le_of_ble_eq_true rfl) (fun p l e s m args below meth c D dA ad A X hr => ?_)
  replace X : CX p s m args meth c cX7_canAbort 1 RX7 D dA ad lo n A := X
  unfold f_X7_canAbort at h
  refine AW.aload_n (k0 := 0) (pc' := 1) X rfl rfl dX7_canAbort_0 rfl ?_
  refine AW.gX7 (v := .ref (a0 + 1)) (pc' := 4) X h0 0 (by decide) rfl mf_X7_7 rfl dX7_canAbort_1 rfl ?_
  refine AW.iconst (v := 1) (pc' := 5) X rfl dX7_canAbort_4 rfl ?_
  obtain ⟨g1, h⟩ := gd_some h
  refine AW.iald (pc' := 6) X (rM1 h0) (inb_vp g1) dX7_canAbort_5 rfl ?_
  refine AW.iconst (v := 1) (pc' := 7) X rfl dX7_canAbort_6 rfl ?_
  refine AW.icmp_eq (pc' := 10) (tgt := 20) X dX7_canAbort_7 rfl rfl (fun q2 => ?_) (fun q2 => ?_)
  · replace h := itep q2 h
    refine AW.sub (ls' := []) [] rfl ?_
    exact ok_X7_canAbort_20 X hr h0 R h
  · replace h := iten q2 h
    refine AW.aload_n (k0 := 0) (pc' := 11) X rfl rfl dX7_canAbort_10 rfl ?_
    refine AW.gX7 (v := .ref (a0 + 1)) (pc' := 14) X h0 0 (by decide) rfl mf_X7_7 rfl dX7_canAbort_11 rfl ?_
    refine AW.iconst (v := 1) (pc' := 15) X rfl dX7_canAbort_14 rfl ?_
    obtain ⟨g3, h⟩ := gd_some h
    refine AW.iald (pc' := 16) X (rM1 h0) (inb_vp g3) dX7_canAbort_15 rfl ?_
    refine AW.iconst (v := 2) (pc' := 17) X rfl dX7_canAbort_16 rfl ?_
    refine AW.icmp_ne (pc' := 20) (tgt := 24) X dX7_canAbort_17 rfl rfl (fun q4 => ?_) (fun q4 => ?_)
    · replace h := iten q4 h
      refine AW.iconst (v := 0) (pc' := 25) X rfl dX7_canAbort_24 rfl ?_
      refine AW.sub (ls' := []) [] rfl ?_
      exact ok_X7_canAbort_25 X hr h0 false R h
    · replace h := itep q4 h
      refine AW.sub (ls' := []) [] rfl ?_
      exact ok_X7_canAbort_20 X hr h0 R h
set_option maxHeartbeats 4000000 in
set_option maxRecDepth 100000 in
theorem ok_X7_aborts {lo n : Nat} {a0 : Nat} {M : MM} {R : MM} (h0 : tMo lo n a0) (h : f_X7_aborts a0 M = some R) : MC yX7_aborts cX7_aborts 1 none 0 0 lo n [.ref a0] M none R := by
  refine MC.of (ls0 := [(0, .ref a0)]) (by decide) rfl (fun _ => Nat.le_of_ble_eq_true rfl) (fun p l e s m args below meth c D dA ad A X hr => ?_)
  replace X : CX p s m args meth c cX7_aborts 1 RX7 D dA ad lo n A := X
  unfold f_X7_aborts at h
  refine AW.aload_n (k0 := 0) (pc' := 1) X rfl rfl dX7_aborts_0 rfl ?_
  refine AW.gX7 (v := .ref (a0 + 1)) (pc' := 4) X h0 0 (by decide) rfl mf_X7_7 rfl dX7_aborts_1 rfl ?_
  refine AW.iconst (v := 1) (pc' := 5) X rfl dX7_aborts_4 rfl ?_
  refine AW.iconst (v := 3) (pc' := 6) X rfl dX7_aborts_5 rfl ?_
  obtain ⟨g1, h⟩ := gd_some h
  refine AW.iast (pc' := 7) X (rM1 h0) (inb_vp g1) dX7_aborts_6 rfl ?_
  refine AW.aload_n (k0 := 0) (pc' := 8) X rfl rfl dX7_aborts_7 rfl ?_
  refine AW.gX7 (v := .ref (a0 + 1)) (pc' := 11) X h0 0 (by decide) rfl mf_X7_7 rfl dX7_aborts_8 rfl ?_
  refine AW.bipush (v := 9) (pc' := 13) X rfl dX7_aborts_11 rfl ?_
  refine AW.bipush (v := (-6)) (pc' := 15) X rfl dX7_aborts_13 rfl ?_
  obtain ⟨g2, h⟩ := gd_some h
  refine AW.iast (pc' := 16) X (rM1 h0) (inb_vp g2) dX7_aborts_15 rfl ?_
  refine AW.aload_n (k0 := 0) (pc' := 17) X rfl rfl dX7_aborts_16 rfl ?_
  refine AW.gX7 (v := .ref (a0 + 1)) (pc' := 20) X h0 0 (by decide) rfl mf_X7_7 rfl dX7_aborts_17 rfl ?_
  refine AW.bipush (v := 10) (pc' := 22) X rfl dX7_aborts_20 rfl ?_
  refine AW.aload_n (k0 := 0) (pc' := 23) X rfl rfl dX7_aborts_22 rfl ?_
  refine AW.gX7 (v := .ref (a0 + 1)) (pc' := 26) X h0 0 (by decide) rfl mf_X7_7 rfl dX7_aborts_23 rfl ?_
  refine AW.iconst (v := 2) (pc' := 27) X rfl dX7_aborts_26 rfl ?_
  obtain ⟨g3, h⟩ := gd_some h
  refine AW.iald (pc' := 28) X (rM1 h0) (inb_vp g3) dX7_aborts_27 rfl ?_
  obtain ⟨g4, h⟩ := gd_some h
  refine AW.iast (pc' := 29) X (rM1 h0) (inb_vp g4) dX7_aborts_28 rfl ?_
  replace h := Option.some.inj h
  subst h
  exact AW.vret X hr dX7_aborts_29
set_option maxHeartbeats 4000000 in
set_option maxRecDepth 100000 in
theorem ok_X7_abort {lo n : Nat} {a0 : Nat} {M : MM} {R : (Int32 × MM)} (h0 : tMo lo n a0) (h : f_X7_abort a0 M = some R) : MC yX7_abort cX7_abort 1 (some .int) 2 44 lo n [.ref a0] M (some (.int R.1)) R.2 := by
  refine MC.of (ls0 := [(0, .ref a0)]) (by decide) rfl (fun _ => Nat.le_of_ble_eq_true rfl) (fun p l e s m args below meth c D dA ad A X hr => ?_)
  replace X : CX p s m args meth c cX7_abort 1 RX7 D dA ad lo n A := X
  unfold f_X7_abort at h
  refine AW.aload_n (k0 := 0) (pc' := 1) X rfl rfl dX7_abort_0 rfl ?_
  obtain ⟨v1, c1, h⟩ := Option.bind_eq_some_iff.mp h
  refine AW.callV (As := []) (rest := []) (rv := (some (.int (bz v1)))) (M' := M) (pc' := 4) X (ok_X7_canAbort h0 c1) yv_X7_canAbort h0.1 h0.2.1 (cM h0 dA ad _) rfl rfl ml_X7_134 ⟨by decide, by decide, by decide, by decide⟩ rfl (Nat.le_of_ble_eq_true rfl) rfl rfl dX7_abort_1 rfl ?_
  refine AW.if_ne (pc' := 7) (tgt := 10) X dX7_abort_4 rfl rfl (fun q2 => ?_) (fun q2 => ?_)
  · replace h := iten q2 h
    refine AW.aload_n (k0 := 0) (pc' := 11) X rfl rfl dX7_abort_10 rfl ?_
    obtain ⟨v3, c3, h⟩ := Option.bind_eq_some_iff.mp h
    refine AW.callV (As := []) (rest := []) (rv := none) (M' := v3) (pc' := 14) X (ok_X7_records h0 c3) yv_X7_records h0.1 h0.2.1 (cM h0 dA ad _) rfl rfl ml_X7_53 ⟨by decide, by decide, by decide, by decide⟩ rfl (Nat.le_of_ble_eq_true rfl) rfl rfl dX7_abort_11 rfl ?_
    refine AW.aload_n (k0 := 0) (pc' := 15) X rfl rfl dX7_abort_14 rfl ?_
    obtain ⟨v4, c4, h⟩ := Option.bind_eq_some_iff.mp h
    refine AW.callV (As := []) (rest := []) (rv := none) (M' := v4) (pc' := 18) X (ok_X7_aborts h0 c4) yv_X7_aborts h0.1 h0.2.1 (cM h0 dA ad _) rfl rfl ml_X7_137 ⟨by decide, by decide, by decide, by decide⟩ rfl (Nat.le_of_ble_eq_true rfl) rfl rfl dX7_abort_15 rfl ?_
    refine AW.aload_n (k0 := 0) (pc' := 19) X rfl rfl dX7_abort_18 rfl ?_
    refine AW.gX7 (v := .ref (a0 + 1)) (pc' := 22) X h0 0 (by decide) rfl mf_X7_7 rfl dX7_abort_19 rfl ?_
    refine AW.iconst (v := 2) (pc' := 23) X rfl dX7_abort_22 rfl ?_
    obtain ⟨g5, h⟩ := gd_some h
    refine AW.iald (pc' := 24) X (rM1 h0) (inb_vp g5) dX7_abort_23 rfl ?_
    replace h := Option.some.inj h
    subst h
    exact AW.iret X hr dX7_abort_24
  · replace h := itep q2 h
    refine AW.bipush (v := (-3)) (pc' := 9) X rfl dX7_abort_7 rfl ?_
    replace h := Option.some.inj h
    subst h
    exact AW.iret X hr dX7_abort_9
set_option maxHeartbeats 4000000 in
set_option maxRecDepth 100000 in
theorem ok_X7_append {lo n : Nat} {a0 : Nat} {x1 : Int32} {M : MM} {R : (Int32 × MM)} (h0 : tMo lo n a0) (h : f_X7_append a0 x1 M = some R) : MC yX7_append cX7_append 2 (some .int) 1 22 lo n [.ref a0, .int x1] M (some (.int R.1)) R.2 := by
  refine MC.of (ls0 := [(0, .ref a0), (1, .int x1)]) (by decide) rfl (fun _ => Nat.le_of_ble_eq_true rfl) (fun p l e s m args below meth c D dA ad A X hr => ?_)
  replace X : CX p s m args meth c cX7_append 2 RX7 D dA ad lo n A := X
  unfold f_X7_append at h
  refine AW.iload_n (k0 := 1) (pc' := 1) X rfl rfl dX7_append_0 rfl ?_
  refine AW.bipush (v := 32) (pc' := 3) X rfl dX7_append_1 rfl ?_
  refine AW.bipush (v := 126) (pc' := 5) X rfl dX7_append_3 rfl ?_
  obtain ⟨v1, c1, h⟩ := Option.bind_eq_some_iff.mp h
  refine AW.callS (As := [.int x1, .int 32, .int 126]) (rest := []) (rv := (some (.int (bz v1)))) (M' := M) (pc' := 8) X (ok_X7_in c1) yv_X7_in ml_X7_41 ⟨by decide, by decide, by decide, by decide⟩ rfl (Nat.le_of_ble_eq_true rfl) rfl rfl dX7_append_5 rfl ?_
  refine AW.if_ne (pc' := 11) (tgt := 14) X dX7_append_8 rfl rfl (fun q2 => ?_) (fun q2 => ?_)
  · replace h := iten q2 h
    refine AW.aload_n (k0 := 0) (pc' := 15) X rfl rfl dX7_append_14 rfl ?_
    refine AW.gX7 (v := .int (M a0 4)) (pc' := 18) X h0 4 (by decide) rfl mf_X7_140 rfl dX7_append_15 rfl ?_
    refine AW.bipush (v := 80) (pc' := 20) X rfl dX7_append_18 rfl ?_
    refine AW.icmp_ne (pc' := 23) (tgt := 26) X dX7_append_20 rfl rfl (fun q3 => ?_) (fun q3 => ?_)
    · replace h := iten q3 h
      refine AW.aload_n (k0 := 0) (pc' := 27) X rfl rfl dX7_append_26 rfl ?_
      refine AW.gX7 (v := .ref (a0 + 3)) (pc' := 30) X h0 3 (by decide) rfl mf_X7_17 rfl dX7_append_27 rfl ?_
      refine AW.aload_n (k0 := 0) (pc' := 31) X rfl rfl dX7_append_30 rfl ?_
      refine AW.gX7 (v := .int (M a0 4)) (pc' := 34) X h0 4 (by decide) rfl mf_X7_140 rfl dX7_append_31 rfl ?_
      refine AW.iload_n (k0 := 1) (pc' := 35) X rfl rfl dX7_append_34 rfl ?_
      obtain ⟨g4, h⟩ := gd_some h
      refine AW.iast (pc' := 36) X (rM3 h0) (inb_vp g4) dX7_append_35 rfl ?_
      refine AW.aload_n (k0 := 0) (pc' := 37) X rfl rfl dX7_append_36 rfl ?_
      refine AW.dup (pc' := 38) X rfl dX7_append_37 rfl ?_
      refine AW.gX7 (v := .int ((ms M (a0 + 3) (ix (M a0 4)) x1) a0 4)) (pc' := 41) X h0 4 (by decide) rfl mf_X7_140 rfl dX7_append_38 rfl ?_
      refine AW.iconst (v := 1) (pc' := 42) X rfl dX7_append_41 rfl ?_
      refine AW.iadd (pc' := 43) X dX7_append_42 rfl ?_
      refine AW.pX7 (pc' := 46) X h0 4 (by decide) rfl mf_X7_140 rfl rfl (by simp [fsM, upd]) (Nat.le_of_ble_eq_true rfl) dX7_append_43 rfl ?_
      refine AW.aload_n (k0 := 0) (pc' := 47) X rfl rfl dX7_append_46 rfl ?_
      refine AW.gX7 (v := .int ((ms (ms M (a0 + 3) (ix (M a0 4)) x1) a0 4 (((ms M (a0 + 3) (ix (M a0 4)) x1) a0 4) + 1)) a0 4)) (pc' := 50) X h0 4 (by decide) rfl mf_X7_140 rfl dX7_append_47 rfl ?_
      replace h := Option.some.inj h
      subst h
      exact AW.iret X hr dX7_append_50
    · replace h := itep q3 h
      refine AW.bipush (v := (-4)) (pc' := 25) X rfl dX7_append_23 rfl ?_
      replace h := Option.some.inj h
      subst h
      exact AW.iret X hr dX7_append_25
  · replace h := itep q2 h
    refine AW.bipush (v := (-2)) (pc' := 13) X rfl dX7_append_11 rfl ?_
    replace h := Option.some.inj h
    subst h
    exact AW.iret X hr dX7_append_13
set_option maxHeartbeats 4000000 in
set_option maxRecDepth 100000 in
theorem ok_X7_clearText {lo n : Nat} {a0 : Nat} {M : MM} {R : (Int32 × MM)} (h0 : tMo lo n a0) (h : f_X7_clearText a0 M = some R) : MC yX7_clearText cX7_clearText 2 (some .int) 0 0 lo n [.ref a0] M (some (.int R.1)) R.2 := by
  refine MC.of (ls0 := [(0, .ref a0)]) (by decide) rfl (fun _ => Nat.le_of_ble_eq_true rfl) (fun p l e s m args below meth c D dA ad A X hr => ?_)
  replace X : CX p s m args meth c cX7_clearText 2 RX7 D dA ad lo n A := X
  unfold f_X7_clearText at h
  refine AW.aload_n (k0 := 0) (pc' := 1) X rfl rfl dX7_clearText_0 rfl ?_
  refine AW.gX7 (v := .int (M a0 4)) (pc' := 4) X h0 4 (by decide) rfl mf_X7_140 rfl dX7_clearText_1 rfl ?_
  refine AW.istore_n (ls' := [(1, .int (M a0 4)), (0, .ref a0)]) (pc' := 5) X rfl (by decide) rfl dX7_clearText_4 rfl ?_
  refine AW.aload_n (k0 := 1) (pc' := 6) X rfl rfl dX7_clearText_5 rfl ?_
  refine AW.iconst (v := 0) (pc' := 7) X rfl dX7_clearText_6 rfl ?_
  refine AW.pX7 (pc' := 10) X h0 4 (by decide) rfl mf_X7_140 rfl rfl (by simp [fsM, upd]) (Nat.le_of_ble_eq_true rfl) dX7_clearText_7 rfl ?_
  refine AW.iload_n (k0 := 0) (pc' := 11) X rfl rfl dX7_clearText_10 rfl ?_
  replace h := Option.some.inj h
  subst h
  exact AW.iret X hr dX7_clearText_11
set_option maxHeartbeats 4000000 in
set_option maxRecDepth 100000 in
theorem ok_X7_peek_25 {a0 : Nat} {M : MM} (X : CX p s m args meth c cX7_peek 1 RX7 D dA ad lo n A) (hr : meth.sig.returnType = (some .int)) (h0 : tMo lo n a0) : ∀ (s0 : Int32) (R : Int32), f_X7_peek_25 a0 M s0 = some R → AR p l e 0 0 s m args below meth c D dA ad lo n 1 A (some (.int R)) M 25 [] [.int s0] M := by
  intro s0 R h
  unfold f_X7_peek_25 at h
  replace h := Option.some.inj h
  subst h
  exact AW.iret X hr dX7_peek_25
set_option maxHeartbeats 4000000 in
set_option maxRecDepth 100000 in
theorem ok_X7_peek {lo n : Nat} {a0 : Nat} {M : MM} {R : Int32} (h0 : tMo lo n a0) (h : f_X7_peek a0 M = some R) : MC yX7_peek cX7_peek 1 (some .int) 0 0 lo n [.ref a0] M (some (.int R)) M := by
  refine MC.of (ls0 := [(0, .ref a0)]) (by decide) rfl (fun _ => Nat.le_of_ble_eq_true rfl) (fun p l e s m args below meth c D dA ad A X hr => ?_)
  replace X : CX p s m args meth c cX7_peek 1 RX7 D dA ad lo n A := X
  unfold f_X7_peek at h
  refine AW.aload_n (k0 := 0) (pc' := 1) X rfl rfl dX7_peek_0 rfl ?_
  refine AW.gX7 (v := .int (M a0 6)) (pc' := 4) X h0 6 (by decide) rfl mf_X7_143 rfl dX7_peek_1 rfl ?_
  refine AW.aload_n (k0 := 0) (pc' := 5) X rfl rfl dX7_peek_4 rfl ?_
  refine AW.gX7 (v := .int (M a0 4)) (pc' := 8) X h0 4 (by decide) rfl mf_X7_140 rfl dX7_peek_5 rfl ?_
  refine AW.icmp_ge (pc' := 11) (tgt := 23) X dX7_peek_8 rfl rfl (fun q1 => ?_) (fun q1 => ?_)
  · replace h := itep q1 h
    refine AW.bipush (v := (-6)) (pc' := 25) X rfl dX7_peek_23 rfl ?_
    refine AW.sub (ls' := []) [] rfl ?_
    exact ok_X7_peek_25 X hr h0 (-6) R h
  · replace h := iten q1 h
    refine AW.aload_n (k0 := 0) (pc' := 12) X rfl rfl dX7_peek_11 rfl ?_
    refine AW.gX7 (v := .ref (a0 + 3)) (pc' := 15) X h0 3 (by decide) rfl mf_X7_17 rfl dX7_peek_12 rfl ?_
    refine AW.aload_n (k0 := 0) (pc' := 16) X rfl rfl dX7_peek_15 rfl ?_
    refine AW.gX7 (v := .int (M a0 6)) (pc' := 19) X h0 6 (by decide) rfl mf_X7_143 rfl dX7_peek_16 rfl ?_
    obtain ⟨g2, h⟩ := gd_some h
    refine AW.iald (pc' := 20) X (rM3 h0) (inb_vp g2) dX7_peek_19 rfl ?_
    refine AW.goto (pc' := 25) X dX7_peek_20 rfl ?_
    refine AW.sub (ls' := []) [] rfl ?_
    exact ok_X7_peek_25 X hr h0 (M (a0 + 3) (ix (M a0 6))) R h
set_option maxHeartbeats 4000000 in
set_option maxRecDepth 100000 in
theorem ok_X7_takes_28 {a0 : Nat} (X : CX p s m args meth c cX7_takes 3 RX7 D dA ad lo n A) (hr : meth.sig.returnType = (some .boolean)) (h0 : tMo lo n a0) : ∀ (b2 : Bool) (sb0 : Bool) (s1 : Int32) (M : MM) (R : (Bool × MM)), f_X7_takes_28 a0 b2 sb0 s1 M = some R → AR p l e 1 20 s m args below meth c D dA ad lo n 3 A (some (.int (bz R.1))) R.2 28 [(2, .int (bz b2))] [.int (bz sb0), .int s1, .ref a0] M := by
  intro b2 sb0 s1 M R h
  unfold f_X7_takes_28 at h
  refine AW.iadd (pc' := 29) X dX7_takes_28 rfl ?_
  refine AW.pX7 (pc' := 32) X h0 6 (by decide) rfl mf_X7_143 rfl rfl (by simp [fsM, upd]) (Nat.le_of_ble_eq_true rfl) dX7_takes_29 rfl ?_
  refine AW.iload_n (k0 := 0) (pc' := 33) X rfl rfl dX7_takes_32 rfl ?_
  replace h := Option.some.inj h
  subst h
  exact AW.zret (b := b2) X hr dX7_takes_33
set_option maxHeartbeats 4000000 in
set_option maxRecDepth 100000 in
theorem ok_X7_takes_13 {a0 : Nat} (X : CX p s m args meth c cX7_takes 3 RX7 D dA ad lo n A) (hr : meth.sig.returnType = (some .boolean)) (h0 : tMo lo n a0) : ∀ (sb0 : Bool) (M : MM) (R : (Bool × MM)), f_X7_takes_13 a0 sb0 M = some R → AR p l e 1 20 s m args below meth c D dA ad lo n 3 A (some (.int (bz R.1))) R.2 13 [(0, .ref a0)] [.int (bz sb0)] M := by
  intro sb0 M R h
  unfold f_X7_takes_13 at h
  refine AW.istore_n (ls' := [(2, .int (bz sb0)), (0, .ref a0)]) (pc' := 14) X rfl (by decide) rfl dX7_takes_13 rfl ?_
  refine AW.aload_n (k0 := 1) (pc' := 15) X rfl rfl dX7_takes_14 rfl ?_
  refine AW.dup (pc' := 16) X rfl dX7_takes_15 rfl ?_
  refine AW.gX7 (v := .int (M a0 6)) (pc' := 19) X h0 6 (by decide) rfl mf_X7_143 rfl dX7_takes_16 rfl ?_
  refine AW.iload_n (k0 := 0) (pc' := 20) X rfl rfl dX7_takes_19 rfl ?_
  refine AW.if_eq (pc' := 23) (tgt := 27) X dX7_takes_20 rfl rfl (fun q1 => ?_) (fun q1 => ?_)
  · replace h := itep q1 h
    refine AW.iconst (v := 0) (pc' := 28) X rfl dX7_takes_27 rfl ?_
    refine AW.sub (ls' := [(2, .int (bz sb0))]) [0] rfl ?_
    exact ok_X7_takes_28 X hr h0 sb0 false (M a0 6) M R h
  · replace h := iten q1 h
    refine AW.iconst (v := 1) (pc' := 24) X rfl dX7_takes_23 rfl ?_
    refine AW.goto (pc' := 28) X dX7_takes_24 rfl ?_
    refine AW.sub (ls' := [(2, .int (bz sb0))]) [0] rfl ?_
    exact ok_X7_takes_28 X hr h0 sb0 true (M a0 6) M R h
set_option maxHeartbeats 4000000 in
set_option maxRecDepth 100000 in
theorem ok_X7_takes {lo n : Nat} {a0 : Nat} {x1 : Int32} {M : MM} {R : (Bool × MM)} (h0 : tMo lo n a0) (h : f_X7_takes a0 x1 M = some R) : MC yX7_takes cX7_takes 3 (some .boolean) 1 20 lo n [.ref a0, .int x1] M (some (.int (bz R.1))) R.2 := by
  refine MC.of (ls0 := [(0, .ref a0), (1, .int x1)]) (by decide) rfl (fun _ => Nat.le_of_ble_eq_true rfl) (fun p l e s m args below meth c D dA ad A X hr => ?_)
  replace X : CX p s m args meth c cX7_takes 3 RX7 D dA ad lo n A := X
  unfold f_X7_takes at h
  refine AW.aload_n (k0 := 0) (pc' := 1) X rfl rfl dX7_takes_0 rfl ?_
  obtain ⟨v1, c1, h⟩ := Option.bind_eq_some_iff.mp h
  refine AW.callV (As := []) (rest := []) (rv := (some (.int v1))) (M' := M) (pc' := 4) X (ok_X7_peek h0 c1) yv_X7_peek h0.1 h0.2.1 (cM h0 dA ad _) rfl rfl ml_X7_146 ⟨by decide, by decide, by decide, by decide⟩ rfl (Nat.le_of_ble_eq_true rfl) rfl rfl dX7_takes_1 rfl ?_
  refine AW.iload_n (k0 := 1) (pc' := 5) X rfl rfl dX7_takes_4 rfl ?_
  refine AW.icmp_ne (pc' := 8) (tgt := 12) X dX7_takes_5 rfl rfl (fun q2 => ?_) (fun q2 => ?_)
  · replace h := iten q2 h
    refine AW.iconst (v := 0) (pc' := 13) X rfl dX7_takes_12 rfl ?_
    refine AW.sub (ls' := [(0, .ref a0)]) [0] rfl ?_
    exact ok_X7_takes_13 X hr h0 false M R h
  · replace h := itep q2 h
    refine AW.iconst (v := 1) (pc' := 9) X rfl dX7_takes_8 rfl ?_
    refine AW.goto (pc' := 13) X dX7_takes_9 rfl ?_
    refine AW.sub (ls' := [(0, .ref a0)]) [0] rfl ?_
    exact ok_X7_takes_13 X hr h0 true M R h
set_option maxHeartbeats 4000000 in
set_option maxRecDepth 100000 in
theorem ok_X7_takesNumber_53 {a0 : Nat} (X : CX p s m args meth c cX7_takesNumber 5 RX7 D dA ad lo n A) (hr : meth.sig.returnType = (some .boolean)) (h0 : tMo lo n a0) {rec10 : Int32 → Int32 → Int32 → MM → Option (Bool × MM)} (hrec10 : ∀ (x1 : Int32) (x2 : Int32) (x3 : Int32) (M : MM) (R : (Bool × MM)), rec10 x1 x2 x3 M = some R → AR p l e 1 22 s m args below meth c D dA ad lo n 5 A (some (.int (bz R.1))) R.2 10 [(0, .ref a0), (1, .int x1), (2, .int x2), (3, .int x3)] [] M) : ∀ (x1 : Int32) (x2 : Int32) (x3 : Int32) (M : MM) (R : (Bool × MM)), f_X7_takesNumber_53 a0 rec10 x1 x2 x3 M = some R → AR p l e 1 22 s m args below meth c D dA ad lo n 5 A (some (.int (bz R.1))) R.2 53 [(0, .ref a0), (1, .int x1), (2, .int x2), (3, .int x3)] [] M := by
  intro x1 x2 x3 M R h
  unfold f_X7_takesNumber_53 at h
  refine AW.aload_n (k0 := 0) (pc' := 54) X rfl rfl dX7_takesNumber_53 rfl ?_
  refine AW.bipush (v := 10) (pc' := 56) X rfl dX7_takesNumber_54 rfl ?_
  refine AW.aload_n (k0 := 0) (pc' := 57) X rfl rfl dX7_takesNumber_56 rfl ?_
  refine AW.gX7 (v := .int (M a0 7)) (pc' := 60) X h0 7 (by decide) rfl mf_X7_149 rfl dX7_takesNumber_57 rfl ?_
  refine AW.imul (pc' := 61) X dX7_takesNumber_60 rfl ?_
  refine AW.aload_n (k0 := 0) (pc' := 62) X rfl rfl dX7_takesNumber_61 rfl ?_
  obtain ⟨v1, c1, h⟩ := Option.bind_eq_some_iff.mp h
  refine AW.callV (As := []) (rest := [.int (10 * (M a0 7)), .ref a0]) (rv := (some (.int v1))) (M' := M) (pc' := 65) X (ok_X7_peek h0 c1) yv_X7_peek h0.1 h0.2.1 (cM h0 dA ad _) rfl rfl ml_X7_146 ⟨by decide, by decide, by decide, by decide⟩ rfl (Nat.le_of_ble_eq_true rfl) rfl rfl dX7_takesNumber_62 rfl ?_
  refine AW.iadd (pc' := 66) X dX7_takesNumber_65 rfl ?_
  refine AW.bipush (v := 48) (pc' := 68) X rfl dX7_takesNumber_66 rfl ?_
  refine AW.isub (pc' := 69) X dX7_takesNumber_68 rfl ?_
  refine AW.pX7 (pc' := 72) X h0 7 (by decide) rfl mf_X7_149 rfl rfl (by simp [fsM, upd]) (Nat.le_of_ble_eq_true rfl) dX7_takesNumber_69 rfl ?_
  refine AW.aload_n (k0 := 0) (pc' := 73) X rfl rfl dX7_takesNumber_72 rfl ?_
  refine AW.dup (pc' := 74) X rfl dX7_takesNumber_73 rfl ?_
  refine AW.gX7 (v := .int ((ms M a0 7 (((10 * (M a0 7)) + v1) - 48)) a0 6)) (pc' := 77) X h0 6 (by decide) rfl mf_X7_143 rfl dX7_takesNumber_74 rfl ?_
  refine AW.iconst (v := 1) (pc' := 78) X rfl dX7_takesNumber_77 rfl ?_
  refine AW.iadd (pc' := 79) X dX7_takesNumber_78 rfl ?_
  refine AW.pX7 (pc' := 82) X h0 6 (by decide) rfl mf_X7_143 rfl rfl (by simp [fsM, upd]) (Nat.le_of_ble_eq_true rfl) dX7_takesNumber_79 rfl ?_
  refine AW.goto (pc' := 10) X dX7_takesNumber_82 rfl ?_
  exact hrec10 x1 x2 x3 (ms (ms M a0 7 (((10 * (M a0 7)) + v1) - 48)) a0 6 (((ms M a0 7 (((10 * (M a0 7)) + v1) - 48)) a0 6) + 1)) R h
set_option maxHeartbeats 4000000 in
set_option maxRecDepth 100000 in
theorem ok_X7_takesNumber_126 {a0 : Nat} (X : CX p s m args meth c cX7_takesNumber 5 RX7 D dA ad lo n A) (hr : meth.sig.returnType = (some .boolean)) (h0 : tMo lo n a0) : ∀ (b4 : Bool) (s0 : Int32) (M : MM) (R : (Bool × MM)), f_X7_takesNumber_126 a0 b4 s0 M = some R → AR p l e 1 22 s m args below meth c D dA ad lo n 5 A (some (.int (bz R.1))) R.2 126 [(4, .int (bz b4))] [.int s0, .ref a0] M := by
  intro b4 s0 M R h
  unfold f_X7_takesNumber_126 at h
  refine AW.pX7 (pc' := 129) X h0 6 (by decide) rfl mf_X7_143 rfl rfl (by simp [fsM, upd]) (Nat.le_of_ble_eq_true rfl) dX7_takesNumber_126 rfl ?_
  refine AW.iload (k0 := 0) (pc' := 131) X rfl dX7_takesNumber_129 rfl ?_
  replace h := Option.some.inj h
  subst h
  exact AW.zret (b := b4) X hr dX7_takesNumber_131
set_option maxHeartbeats 4000000 in
set_option maxRecDepth 100000 in
theorem ok_X7_takesNumber_110 {a0 : Nat} (X : CX p s m args meth c cX7_takesNumber 5 RX7 D dA ad lo n A) (hr : meth.sig.returnType = (some .boolean)) (h0 : tMo lo n a0) : ∀ (x3 : Int32) (sb0 : Bool) (M : MM) (R : (Bool × MM)), f_X7_takesNumber_110 a0 x3 sb0 M = some R → AR p l e 1 22 s m args below meth c D dA ad lo n 5 A (some (.int (bz R.1))) R.2 110 [(0, .ref a0), (3, .int x3)] [.int (bz sb0)] M := by
  intro x3 sb0 M R h
  unfold f_X7_takesNumber_110 at h
  refine AW.istore (ls' := [(4, .int (bz sb0)), (0, .ref a0), (3, .int x3)]) (pc' := 112) X (by decide) rfl dX7_takesNumber_110 rfl ?_
  refine AW.aload_n (k0 := 1) (pc' := 113) X rfl rfl dX7_takesNumber_112 rfl ?_
  refine AW.iload (k0 := 0) (pc' := 115) X rfl dX7_takesNumber_113 rfl ?_
  refine AW.if_eq (pc' := 118) (tgt := 125) X dX7_takesNumber_115 rfl rfl (fun q1 => ?_) (fun q1 => ?_)
  · replace h := itep q1 h
    refine AW.iload_n (k0 := 2) (pc' := 126) X rfl rfl dX7_takesNumber_125 rfl ?_
    refine AW.sub (ls' := [(4, .int (bz sb0))]) [0] rfl ?_
    exact ok_X7_takesNumber_126 X hr h0 sb0 x3 M R h
  · replace h := iten q1 h
    refine AW.aload_n (k0 := 1) (pc' := 119) X rfl rfl dX7_takesNumber_118 rfl ?_
    refine AW.gX7 (v := .int (M a0 6)) (pc' := 122) X h0 6 (by decide) rfl mf_X7_143 rfl dX7_takesNumber_119 rfl ?_
    refine AW.goto (pc' := 126) X dX7_takesNumber_122 rfl ?_
    refine AW.sub (ls' := [(4, .int (bz sb0))]) [0] rfl ?_
    exact ok_X7_takesNumber_126 X hr h0 sb0 (M a0 6) M R h
set_option maxHeartbeats 4000000 in
set_option maxRecDepth 100000 in
theorem ok_X7_takesNumber_109 {a0 : Nat} (X : CX p s m args meth c cX7_takesNumber 5 RX7 D dA ad lo n A) (hr : meth.sig.returnType = (some .boolean)) (h0 : tMo lo n a0) : ∀ (x3 : Int32) (M : MM) (R : (Bool × MM)), f_X7_takesNumber_109 a0 x3 M = some R → AR p l e 1 22 s m args below meth c D dA ad lo n 5 A (some (.int (bz R.1))) R.2 109 [(0, .ref a0), (3, .int x3)] [] M := by
  intro x3 M R h
  unfold f_X7_takesNumber_109 at h
  refine AW.iconst (v := 0) (pc' := 110) X rfl dX7_takesNumber_109 rfl ?_
  exact ok_X7_takesNumber_110 X hr h0 x3 false M R h
set_option maxHeartbeats 4000000 in
set_option maxRecDepth 100000 in
theorem ok_X7_takesNumber_85 {a0 : Nat} (X : CX p s m args meth c cX7_takesNumber 5 RX7 D dA ad lo n A) (hr : meth.sig.returnType = (some .boolean)) (h0 : tMo lo n a0) : ∀ (x1 : Int32) (x2 : Int32) (x3 : Int32) (M : MM) (R : (Bool × MM)), f_X7_takesNumber_85 a0 x1 x2 x3 M = some R → AR p l e 1 22 s m args below meth c D dA ad lo n 5 A (some (.int (bz R.1))) R.2 85 [(0, .ref a0), (1, .int x1), (2, .int x2), (3, .int x3)] [] M := by
  intro x1 x2 x3 M R h
  unfold f_X7_takesNumber_85 at h
  refine AW.aload_n (k0 := 0) (pc' := 86) X rfl rfl dX7_takesNumber_85 rfl ?_
  refine AW.gX7 (v := .int (M a0 6)) (pc' := 89) X h0 6 (by decide) rfl mf_X7_143 rfl dX7_takesNumber_86 rfl ?_
  refine AW.iload_n (k0 := 3) (pc' := 90) X rfl rfl dX7_takesNumber_89 rfl ?_
  refine AW.icmp_le (pc' := 93) (tgt := 109) X dX7_takesNumber_90 rfl rfl (fun q1 => ?_) (fun q1 => ?_)
  · replace h := itep q1 h
    refine AW.sub (ls' := [(0, .ref a0), (3, .int x3)]) [0, 3] rfl ?_
    exact ok_X7_takesNumber_109 X hr h0 x3 M R h
  · replace h := iten q1 h
    refine AW.aload_n (k0 := 0) (pc' := 94) X rfl rfl dX7_takesNumber_93 rfl ?_
    refine AW.gX7 (v := .int (M a0 7)) (pc' := 97) X h0 7 (by decide) rfl mf_X7_149 rfl dX7_takesNumber_94 rfl ?_
    refine AW.iload_n (k0 := 1) (pc' := 98) X rfl rfl dX7_takesNumber_97 rfl ?_
    refine AW.iload_n (k0 := 2) (pc' := 99) X rfl rfl dX7_takesNumber_98 rfl ?_
    obtain ⟨v2, c2, h⟩ := Option.bind_eq_some_iff.mp h
    refine AW.callS (As := [.int (M a0 7), .int x1, .int x2]) (rest := []) (rv := (some (.int (bz v2)))) (M' := M) (pc' := 102) X (ok_X7_in c2) yv_X7_in ml_X7_41 ⟨by decide, by decide, by decide, by decide⟩ rfl (Nat.le_of_ble_eq_true rfl) rfl rfl dX7_takesNumber_99 rfl ?_
    refine AW.if_eq (pc' := 105) (tgt := 109) X dX7_takesNumber_102 rfl rfl (fun q3 => ?_) (fun q3 => ?_)
    · replace h := itep q3 h
      refine AW.sub (ls' := [(0, .ref a0), (3, .int x3)]) [0, 3] rfl ?_
      exact ok_X7_takesNumber_109 X hr h0 x3 M R h
    · replace h := iten q3 h
      refine AW.iconst (v := 1) (pc' := 106) X rfl dX7_takesNumber_105 rfl ?_
      refine AW.goto (pc' := 110) X dX7_takesNumber_106 rfl ?_
      refine AW.sub (ls' := [(0, .ref a0), (3, .int x3)]) [0, 3] rfl ?_
      exact ok_X7_takesNumber_110 X hr h0 x3 true M R h
set_option maxHeartbeats 4000000 in
set_option maxRecDepth 100000 in
theorem ok_X7_takesNumber_10 {a0 : Nat} (X : CX p s m args meth c cX7_takesNumber 5 RX7 D dA ad lo n A) (hr : meth.sig.returnType = (some .boolean)) (h0 : tMo lo n a0) : ∀ (k : Nat) (x1 : Int32) (x2 : Int32) (x3 : Int32) (M : MM) (R : (Bool × MM)), f_X7_takesNumber_10 a0 k x1 x2 x3 M = some R → AR p l e 1 22 s m args below meth c D dA ad lo n 5 A (some (.int (bz R.1))) R.2 10 [(0, .ref a0), (1, .int x1), (2, .int x2), (3, .int x3)] [] M := by
  intro k
  induction k with
  | zero => intro _ _ _ _ R h; exact none_some h
  | succ k ih =>
    intro x1 x2 x3 M R h
    unfold f_X7_takesNumber_10 at h
    refine AW.aload_n (k0 := 0) (pc' := 11) X rfl rfl dX7_takesNumber_10 rfl ?_
    obtain ⟨v1, c1, h⟩ := Option.bind_eq_some_iff.mp h
    refine AW.callV (As := []) (rest := []) (rv := (some (.int v1))) (M' := M) (pc' := 14) X (ok_X7_peek h0 c1) yv_X7_peek h0.1 h0.2.1 (cM h0 dA ad _) rfl rfl ml_X7_146 ⟨by decide, by decide, by decide, by decide⟩ rfl (Nat.le_of_ble_eq_true rfl) rfl rfl dX7_takesNumber_11 rfl ?_
    refine AW.bipush (v := 48) (pc' := 16) X rfl dX7_takesNumber_14 rfl ?_
    refine AW.bipush (v := 57) (pc' := 18) X rfl dX7_takesNumber_16 rfl ?_
    obtain ⟨v2, c2, h⟩ := Option.bind_eq_some_iff.mp h
    refine AW.callS (As := [.int v1, .int 48, .int 57]) (rest := []) (rv := (some (.int (bz v2)))) (M' := M) (pc' := 21) X (ok_X7_in c2) yv_X7_in ml_X7_41 ⟨by decide, by decide, by decide, by decide⟩ rfl (Nat.le_of_ble_eq_true rfl) rfl rfl dX7_takesNumber_18 rfl ?_
    refine AW.if_eq (pc' := 24) (tgt := 85) X dX7_takesNumber_21 rfl rfl (fun q3 => ?_) (fun q3 => ?_)
    · replace h := itep q3 h
      exact ok_X7_takesNumber_85 X hr h0 x1 x2 x3 M R h
    · replace h := iten q3 h
      refine AW.aload_n (k0 := 0) (pc' := 25) X rfl rfl dX7_takesNumber_24 rfl ?_
      refine AW.gX7 (v := .int (M a0 6)) (pc' := 28) X h0 6 (by decide) rfl mf_X7_143 rfl dX7_takesNumber_25 rfl ?_
      refine AW.iload_n (k0 := 3) (pc' := 29) X rfl rfl dX7_takesNumber_28 rfl ?_
      refine AW.isub (pc' := 30) X dX7_takesNumber_29 rfl ?_
      refine AW.iconst (v := 3) (pc' := 31) X rfl dX7_takesNumber_30 rfl ?_
      refine AW.icmp_ge (pc' := 34) (tgt := 85) X dX7_takesNumber_31 rfl rfl (fun q4 => ?_) (fun q4 => ?_)
      · replace h := itep q4 h
        exact ok_X7_takesNumber_85 X hr h0 x1 x2 x3 M R h
      · replace h := iten q4 h
        refine AW.aload_n (k0 := 0) (pc' := 35) X rfl rfl dX7_takesNumber_34 rfl ?_
        refine AW.gX7 (v := .int (M a0 6)) (pc' := 38) X h0 6 (by decide) rfl mf_X7_143 rfl dX7_takesNumber_35 rfl ?_
        refine AW.iload_n (k0 := 3) (pc' := 39) X rfl rfl dX7_takesNumber_38 rfl ?_
        refine AW.icmp_eq (pc' := 42) (tgt := 53) X dX7_takesNumber_39 rfl rfl (fun q5 => ?_) (fun q5 => ?_)
        · replace h := itep q5 h
          exact ok_X7_takesNumber_53 X hr h0 ih x1 x2 x3 M R h
        · replace h := iten q5 h
          refine AW.aload_n (k0 := 0) (pc' := 43) X rfl rfl dX7_takesNumber_42 rfl ?_
          refine AW.gX7 (v := .ref (a0 + 3)) (pc' := 46) X h0 3 (by decide) rfl mf_X7_17 rfl dX7_takesNumber_43 rfl ?_
          refine AW.iload_n (k0 := 3) (pc' := 47) X rfl rfl dX7_takesNumber_46 rfl ?_
          obtain ⟨g6, h⟩ := gd_some h
          refine AW.iald (pc' := 48) X (rM3 h0) (inb_vp g6) dX7_takesNumber_47 rfl ?_
          refine AW.bipush (v := 48) (pc' := 50) X rfl dX7_takesNumber_48 rfl ?_
          refine AW.icmp_eq (pc' := 53) (tgt := 85) X dX7_takesNumber_50 rfl rfl (fun q7 => ?_) (fun q7 => ?_)
          · replace h := itep q7 h
            exact ok_X7_takesNumber_85 X hr h0 x1 x2 x3 M R h
          · replace h := iten q7 h
            exact ok_X7_takesNumber_53 X hr h0 ih x1 x2 x3 M R h
set_option maxHeartbeats 4000000 in
set_option maxRecDepth 100000 in
theorem ok_X7_takesNumber {lo n : Nat} {a0 : Nat} {x1 : Int32} {x2 : Int32} {M : MM} {R : (Bool × MM)} (h0 : tMo lo n a0) (h : f_X7_takesNumber a0 x1 x2 M = some R) : MC yX7_takesNumber cX7_takesNumber 5 (some .boolean) 1 22 lo n [.ref a0, .int x1, .int x2] M (some (.int (bz R.1))) R.2 := by
  refine MC.of (ls0 := [(0, .ref a0), (1, .int x1), (2, .int x2)]) (by decide) rfl (fun _ => Nat.le_of_ble_eq_true rfl) (fun p l e s m args below meth c D dA ad A X hr => ?_)
  replace X : CX p s m args meth c cX7_takesNumber 5 RX7 D dA ad lo n A := X
  unfold f_X7_takesNumber at h
  refine AW.aload_n (k0 := 0) (pc' := 1) X rfl rfl dX7_takesNumber_0 rfl ?_
  refine AW.gX7 (v := .int (M a0 6)) (pc' := 4) X h0 6 (by decide) rfl mf_X7_143 rfl dX7_takesNumber_1 rfl ?_
  refine AW.istore_n (ls' := [(3, .int (M a0 6)), (0, .ref a0), (1, .int x1), (2, .int x2)]) (pc' := 5) X rfl (by decide) rfl dX7_takesNumber_4 rfl ?_
  refine AW.aload_n (k0 := 1) (pc' := 6) X rfl rfl dX7_takesNumber_5 rfl ?_
  refine AW.iconst (v := 0) (pc' := 7) X rfl dX7_takesNumber_6 rfl ?_
  refine AW.pX7 (pc' := 10) X h0 7 (by decide) rfl mf_X7_149 rfl rfl (by simp [fsM, upd]) (Nat.le_of_ble_eq_true rfl) dX7_takesNumber_7 rfl ?_
  refine AW.sub (ls' := [(0, .ref a0), (1, .int x1), (2, .int x2), (3, .int (M a0 6))]) [1, 2, 3, 0] rfl ?_
  exact ok_X7_takesNumber_10 X hr h0 FU x1 x2 (M a0 6) (ms M a0 7 0) R h
end OK
