/-! each method does what its function says: by program, a row an instruction -/
section OK
variable {p : Program} {l : Launch} {e : Env} {s : State} {m : MethodId} {args : Array Value} {below : List Frame} {meth : Method} {c : Code} {D : va_G} {dA : Nat → ClassId} {ad : Nat → Nat} {lo n : Nat} {A : Nat → Prop}
set_option maxHeartbeats 4000000 in
set_option maxRecDepth 100000 in
theorem ok_X7_setPoint_21 {a0 : Nat} (X : CX p s m args meth c cX7_setPoint 4 RX7 D dA ad lo n A) (hr : meth.sig.returnType = (some .int)) (h0 : tMo lo n a0) : ∀ (M : MM) (R : (Int32 × MM)), f_X7_setPoint_21 a0 M = some R → AR p l e 2 44 s m args below meth c D dA ad lo n 4 A (some (.int R.1)) R.2 21 [] [] M := by
  intro M R h
  unfold f_X7_setPoint_21 at h
  refine AW.bipush (v := (-2)) (pc' := 23) X rfl dX7_setPoint_21 rfl ?_
  replace h := Option.some.inj h
  subst h
  exact AW.iret X hr dX7_setPoint_23
set_option maxHeartbeats 4000000 in
set_option maxRecDepth 100000 in
theorem ok_X7_setPoint_128 {a0 : Nat} (X : CX p s m args meth c cX7_setPoint 4 RX7 D dA ad lo n A) (hr : meth.sig.returnType = (some .int)) (h0 : tMo lo n a0) {r3 : Nat} (hr3 : tIA lo n 16272 r3) : ∀ (sb0 : Bool) (s1 : Int32) (s2 : Int32) (M : MM) (R : (Int32 × MM)), f_X7_setPoint_128 a0 sb0 s1 s2 r3 M = some R → AR p l e 2 44 s m args below meth c D dA ad lo n 4 A (some (.int R.1)) R.2 128 [(0, .ref a0)] [.int (bz sb0), .int s1, .int s2, .ref r3] M := by
  intro sb0 s1 s2 M R h
  unfold f_X7_setPoint_128 at h
  refine AW.iadd (pc' := 129) X dX7_setPoint_128 rfl ?_
  obtain ⟨g1, h⟩ := gd_some h
  refine AW.iast (pc' := 130) X hr3 (inb_vp g1) dX7_setPoint_129 rfl ?_
  refine AW.aload_n (k0 := 0) (pc' := 131) X rfl rfl dX7_setPoint_130 rfl ?_
  refine AW.gX7 (v := .ref (a0 + 1)) (pc' := 134) X h0 0 (by decide) rfl mf_X7_7 rfl dX7_setPoint_131 rfl ?_
  refine AW.iconst (v := 4) (pc' := 135) X rfl dX7_setPoint_134 rfl ?_
  obtain ⟨g2, h⟩ := gd_some h
  refine AW.iald (pc' := 136) X (rM1 h0) (inb_vp g2) dX7_setPoint_135 rfl ?_
  replace h := Option.some.inj h
  subst h
  exact AW.iret X hr dX7_setPoint_136
set_option maxHeartbeats 4000000 in
set_option maxRecDepth 100000 in
theorem ok_X7_setPoint_67 {a0 : Nat} (X : CX p s m args meth c cX7_setPoint 4 RX7 D dA ad lo n A) (hr : meth.sig.returnType = (some .int)) (h0 : tMo lo n a0) : ∀ (x1 : Int32) (x2 : Int32) (x3 : Int32) (M : MM) (R : (Int32 × MM)), f_X7_setPoint_67 a0 x1 x2 x3 M = some R → AR p l e 2 44 s m args below meth c D dA ad lo n 4 A (some (.int R.1)) R.2 67 [(0, .ref a0), (1, .int x1), (2, .int x2), (3, .int x3)] [] M := by
  intro x1 x2 x3 M R h
  unfold f_X7_setPoint_67 at h
  refine AW.iload_n (k0 := 3) (pc' := 68) X rfl rfl dX7_setPoint_67 rfl ?_
  refine AW.bipush (v := 8) (pc' := 70) X rfl dX7_setPoint_68 rfl ?_
  refine AW.icmp_ne (pc' := 73) (tgt := 76) X dX7_setPoint_70 rfl rfl (fun q1 => ?_) (fun q1 => ?_)
  · replace h := iten q1 h
    refine AW.aload_n (k0 := 0) (pc' := 77) X rfl rfl dX7_setPoint_76 rfl ?_
    obtain ⟨v2, c2, h⟩ := Option.bind_eq_some_iff.mp h
    refine AW.callV (As := []) (rest := []) (rv := none) (M' := v2) (pc' := 80) X (ok_X7_records h0 c2) yv_X7_records h0.1 h0.2.1 (cM h0 dA ad _) rfl rfl ml_X7_53 ⟨by decide, by decide, by decide, by decide⟩ rfl (Nat.le_of_ble_eq_true rfl) rfl rfl dX7_setPoint_77 rfl ?_
    refine AW.aload_n (k0 := 0) (pc' := 81) X rfl rfl dX7_setPoint_80 rfl ?_
    refine AW.gX7 (v := .ref (a0 + 1)) (pc' := 84) X h0 0 (by decide) rfl mf_X7_7 rfl dX7_setPoint_81 rfl ?_
    refine AW.bipush (v := 18) (pc' := 86) X rfl dX7_setPoint_84 rfl ?_
    refine AW.iconst (v := 2) (pc' := 87) X rfl dX7_setPoint_86 rfl ?_
    refine AW.iload_n (k0 := 3) (pc' := 88) X rfl rfl dX7_setPoint_87 rfl ?_
    refine AW.imul (pc' := 89) X dX7_setPoint_88 rfl ?_
    refine AW.iadd (pc' := 90) X dX7_setPoint_89 rfl ?_
    refine AW.iload_n (k0 := 1) (pc' := 91) X rfl rfl dX7_setPoint_90 rfl ?_
    obtain ⟨g3, h⟩ := gd_some h
    refine AW.iast (pc' := 92) X (rM1 h0) (inb_vp g3) dX7_setPoint_91 rfl ?_
    refine AW.aload_n (k0 := 0) (pc' := 93) X rfl rfl dX7_setPoint_92 rfl ?_
    refine AW.gX7 (v := .ref (a0 + 1)) (pc' := 96) X h0 0 (by decide) rfl mf_X7_7 rfl dX7_setPoint_93 rfl ?_
    refine AW.bipush (v := 18) (pc' := 98) X rfl dX7_setPoint_96 rfl ?_
    refine AW.iconst (v := 2) (pc' := 99) X rfl dX7_setPoint_98 rfl ?_
    refine AW.iload_n (k0 := 3) (pc' := 100) X rfl rfl dX7_setPoint_99 rfl ?_
    refine AW.imul (pc' := 101) X dX7_setPoint_100 rfl ?_
    refine AW.iadd (pc' := 102) X dX7_setPoint_101 rfl ?_
    refine AW.iconst (v := 1) (pc' := 103) X rfl dX7_setPoint_102 rfl ?_
    refine AW.iadd (pc' := 104) X dX7_setPoint_103 rfl ?_
    refine AW.iload_n (k0 := 2) (pc' := 105) X rfl rfl dX7_setPoint_104 rfl ?_
    obtain ⟨g4, h⟩ := gd_some h
    refine AW.iast (pc' := 106) X (rM1 h0) (inb_vp g4) dX7_setPoint_105 rfl ?_
    refine AW.aload_n (k0 := 0) (pc' := 107) X rfl rfl dX7_setPoint_106 rfl ?_
    refine AW.gX7 (v := .ref (a0 + 1)) (pc' := 110) X h0 0 (by decide) rfl mf_X7_7 rfl dX7_setPoint_107 rfl ?_
    refine AW.iconst (v := 4) (pc' := 111) X rfl dX7_setPoint_110 rfl ?_
    refine AW.dup2 (pc' := 112) X rfl rfl dX7_setPoint_111 rfl ?_
    obtain ⟨g5, h⟩ := gd_some h
    refine AW.iald (pc' := 113) X (rM1 h0) (inb_vp g5) dX7_setPoint_112 rfl ?_
    refine AW.iload_n (k0 := 3) (pc' := 114) X rfl rfl dX7_setPoint_113 rfl ?_
    refine AW.aload_n (k0 := 0) (pc' := 115) X rfl rfl dX7_setPoint_114 rfl ?_
    refine AW.gX7 (v := .ref (a0 + 1)) (pc' := 118) X h0 0 (by decide) rfl mf_X7_7 rfl dX7_setPoint_115 rfl ?_
    refine AW.iconst (v := 4) (pc' := 119) X rfl dX7_setPoint_118 rfl ?_
    obtain ⟨g6, h⟩ := gd_some h
    refine AW.iald (pc' := 120) X (rM1 h0) (inb_vp g6) dX7_setPoint_119 rfl ?_
    refine AW.icmp_ne (pc' := 123) (tgt := 127) X dX7_setPoint_120 rfl rfl (fun q7 => ?_) (fun q7 => ?_)
    · replace h := iten q7 h
      refine AW.iconst (v := 0) (pc' := 128) X rfl dX7_setPoint_127 rfl ?_
      refine AW.sub (ls' := [(0, .ref a0)]) [0] rfl ?_
      exact ok_X7_setPoint_128 X hr h0 (rM1 h0) false ((ms (ms v2 (a0 + 1) (ix (18 + (2 * x3))) x1) (a0 + 1) (ix ((18 + (2 * x3)) + 1)) x2) (a0 + 1) (ix 4)) 4 (ms (ms v2 (a0 + 1) (ix (18 + (2 * x3))) x1) (a0 + 1) (ix ((18 + (2 * x3)) + 1)) x2) R h
    · replace h := itep q7 h
      refine AW.iconst (v := 1) (pc' := 124) X rfl dX7_setPoint_123 rfl ?_
      refine AW.goto (pc' := 128) X dX7_setPoint_124 rfl ?_
      refine AW.sub (ls' := [(0, .ref a0)]) [0] rfl ?_
      exact ok_X7_setPoint_128 X hr h0 (rM1 h0) true ((ms (ms v2 (a0 + 1) (ix (18 + (2 * x3))) x1) (a0 + 1) (ix ((18 + (2 * x3)) + 1)) x2) (a0 + 1) (ix 4)) 4 (ms (ms v2 (a0 + 1) (ix (18 + (2 * x3))) x1) (a0 + 1) (ix ((18 + (2 * x3)) + 1)) x2) R h
  · replace h := itep q1 h
    refine AW.bipush (v := (-4)) (pc' := 75) X rfl dX7_setPoint_73 rfl ?_
    replace h := Option.some.inj h
    subst h
    exact AW.iret X hr dX7_setPoint_75
set_option maxHeartbeats 4000000 in
set_option maxRecDepth 100000 in
theorem ok_X7_setPoint_36 {a0 : Nat} (X : CX p s m args meth c cX7_setPoint 4 RX7 D dA ad lo n A) (hr : meth.sig.returnType = (some .int)) (h0 : tMo lo n a0) : ∀ (k : Nat) (x1 : Int32) (x2 : Int32) (x3 : Int32) (M : MM) (R : (Int32 × MM)), f_X7_setPoint_36 a0 k x1 x2 x3 M = some R → AR p l e 2 44 s m args below meth c D dA ad lo n 4 A (some (.int R.1)) R.2 36 [(0, .ref a0), (1, .int x1), (2, .int x2), (3, .int x3)] [] M := by
  intro k
  induction k with
  | zero => intro _ _ _ _ R h; exact none_some h
  | succ k ih =>
    intro x1 x2 x3 M R h
    unfold f_X7_setPoint_36 at h
    refine AW.iload_n (k0 := 3) (pc' := 37) X rfl rfl dX7_setPoint_36 rfl ?_
    refine AW.aload_n (k0 := 0) (pc' := 38) X rfl rfl dX7_setPoint_37 rfl ?_
    refine AW.gX7 (v := .ref (a0 + 1)) (pc' := 41) X h0 0 (by decide) rfl mf_X7_7 rfl dX7_setPoint_38 rfl ?_
    refine AW.iconst (v := 4) (pc' := 42) X rfl dX7_setPoint_41 rfl ?_
    obtain ⟨g1, h⟩ := gd_some h
    refine AW.iald (pc' := 43) X (rM1 h0) (inb_vp g1) dX7_setPoint_42 rfl ?_
    refine AW.icmp_ge (pc' := 46) (tgt := 67) X dX7_setPoint_43 rfl rfl (fun q2 => ?_) (fun q2 => ?_)
    · replace h := itep q2 h
      exact ok_X7_setPoint_67 X hr h0 x1 x2 x3 M R h
    · replace h := iten q2 h
      refine AW.aload_n (k0 := 0) (pc' := 47) X rfl rfl dX7_setPoint_46 rfl ?_
      refine AW.gX7 (v := .ref (a0 + 1)) (pc' := 50) X h0 0 (by decide) rfl mf_X7_7 rfl dX7_setPoint_47 rfl ?_
      refine AW.bipush (v := 18) (pc' := 52) X rfl dX7_setPoint_50 rfl ?_
      refine AW.iconst (v := 2) (pc' := 53) X rfl dX7_setPoint_52 rfl ?_
      refine AW.iload_n (k0 := 3) (pc' := 54) X rfl rfl dX7_setPoint_53 rfl ?_
      refine AW.imul (pc' := 55) X dX7_setPoint_54 rfl ?_
      refine AW.iadd (pc' := 56) X dX7_setPoint_55 rfl ?_
      obtain ⟨g3, h⟩ := gd_some h
      refine AW.iald (pc' := 57) X (rM1 h0) (inb_vp g3) dX7_setPoint_56 rfl ?_
      refine AW.iload_n (k0 := 1) (pc' := 58) X rfl rfl dX7_setPoint_57 rfl ?_
      refine AW.icmp_eq (pc' := 61) (tgt := 67) X dX7_setPoint_58 rfl rfl (fun q4 => ?_) (fun q4 => ?_)
      · replace h := itep q4 h
        exact ok_X7_setPoint_67 X hr h0 x1 x2 x3 M R h
      · replace h := iten q4 h
        refine AW.iinc (k0 := 3) (v := (x3 + 1)) (y := 1) (ls' := [(3, .int (x3 + 1)), (0, .ref a0), (1, .int x1), (2, .int x2)]) (pc' := 64) X rfl rfl rfl (by decide) rfl dX7_setPoint_61 rfl ?_
        refine AW.goto (pc' := 36) X dX7_setPoint_64 rfl ?_
        refine AW.sub (ls' := [(0, .ref a0), (1, .int x1), (2, .int x2), (3, .int (x3 + 1))]) [1, 2, 3, 0] rfl ?_
        exact ih x1 x2 (x3 + 1) M R h
set_option maxHeartbeats 4000000 in
set_option maxRecDepth 100000 in
theorem ok_X7_setPoint {lo n : Nat} {a0 : Nat} {x1 : Int32} {x2 : Int32} {M : MM} {R : (Int32 × MM)} (h0 : tMo lo n a0) (h : f_X7_setPoint a0 x1 x2 M = some R) : MC yX7_setPoint cX7_setPoint 4 (some .int) 2 44 lo n [.ref a0, .int x1, .int x2] M (some (.int R.1)) R.2 := by
  refine MC.of (ls0 := [(0, .ref a0), (1, .int x1), (2, .int x2)]) (by decide) rfl (fun _ => Nat.le_of_ble_eq_true rfl) (fun p l e s m args below meth c D dA ad A X hr => ?_)
  replace X : CX p s m args meth c cX7_setPoint 4 RX7 D dA ad lo n A := X
  unfold f_X7_setPoint at h
  refine AW.iload_n (k0 := 1) (pc' := 1) X rfl rfl dX7_setPoint_0 rfl ?_
  refine AW.iconst (v := 1) (pc' := 2) X rfl dX7_setPoint_1 rfl ?_
  refine AW.sipush (v := 2000) (pc' := 5) X rfl dX7_setPoint_2 rfl ?_
  obtain ⟨v1, c1, h⟩ := Option.bind_eq_some_iff.mp h
  refine AW.callS (As := [.int x1, .int 1, .int 2000]) (rest := []) (rv := (some (.int (bz v1)))) (M' := M) (pc' := 8) X (ok_X7_in c1) yv_X7_in ml_X7_41 ⟨by decide, by decide, by decide, by decide⟩ rfl (Nat.le_of_ble_eq_true rfl) rfl rfl dX7_setPoint_5 rfl ?_
  refine AW.if_eq (pc' := 11) (tgt := 21) X dX7_setPoint_8 rfl rfl (fun q2 => ?_) (fun q2 => ?_)
  · replace h := itep q2 h
    refine AW.sub (ls' := []) [] rfl ?_
    exact ok_X7_setPoint_21 X hr h0 M R h
  · replace h := iten q2 h
    refine AW.iload_n (k0 := 2) (pc' := 12) X rfl rfl dX7_setPoint_11 rfl ?_
    refine AW.iconst (v := 1) (pc' := 13) X rfl dX7_setPoint_12 rfl ?_
    refine AW.ldc (pc' := 15) X mk_X7_56 dX7_setPoint_13 rfl ?_
    obtain ⟨v3, c3, h⟩ := Option.bind_eq_some_iff.mp h
    refine AW.callS (As := [.int x2, .int 1, .int 50000]) (rest := []) (rv := (some (.int (bz v3)))) (M' := M) (pc' := 18) X (ok_X7_in c3) yv_X7_in ml_X7_41 ⟨by decide, by decide, by decide, by decide⟩ rfl (Nat.le_of_ble_eq_true rfl) rfl rfl dX7_setPoint_15 rfl ?_
    refine AW.if_ne (pc' := 21) (tgt := 24) X dX7_setPoint_18 rfl rfl (fun q4 => ?_) (fun q4 => ?_)
    · replace h := iten q4 h
      refine AW.aload_n (k0 := 0) (pc' := 25) X rfl rfl dX7_setPoint_24 rfl ?_
      obtain ⟨v5, c5, h⟩ := Option.bind_eq_some_iff.mp h
      refine AW.callV (As := []) (rest := []) (rv := (some (.int (bz v5)))) (M' := M) (pc' := 28) X (ok_X7_rests h0 c5) yv_X7_rests h0.1 h0.2.1 (cM h0 dA ad _) rfl rfl ml_X7_45 ⟨by decide, by decide, by decide, by decide⟩ rfl (Nat.le_of_ble_eq_true rfl) rfl rfl dX7_setPoint_25 rfl ?_
      refine AW.if_ne (pc' := 31) (tgt := 34) X dX7_setPoint_28 rfl rfl (fun q6 => ?_) (fun q6 => ?_)
      · replace h := iten q6 h
        refine AW.iconst (v := 0) (pc' := 35) X rfl dX7_setPoint_34 rfl ?_
        refine AW.istore_n (ls' := [(3, .int 0), (0, .ref a0), (1, .int x1), (2, .int x2)]) (pc' := 36) X rfl (by decide) rfl dX7_setPoint_35 rfl ?_
        refine AW.sub (ls' := [(0, .ref a0), (1, .int x1), (2, .int x2), (3, .int 0)]) [1, 2, 3, 0] rfl ?_
        exact ok_X7_setPoint_36 X hr h0 FU x1 x2 0 M R h
      · replace h := itep q6 h
        refine AW.bipush (v := (-3)) (pc' := 33) X rfl dX7_setPoint_31 rfl ?_
        replace h := Option.some.inj h
        subst h
        exact AW.iret X hr dX7_setPoint_33
    · replace h := itep q4 h
      refine AW.sub (ls' := []) [] rfl ?_
      exact ok_X7_setPoint_21 X hr h0 M R h
set_option maxHeartbeats 4000000 in
set_option maxRecDepth 100000 in
theorem ok_X7_addChannel_21 {a0 : Nat} (X : CX p s m args meth c cX7_addChannel 6 RX7 D dA ad lo n A) (hr : meth.sig.returnType = (some .int)) (h0 : tMo lo n a0) : ∀ (M : MM) (R : (Int32 × MM)), f_X7_addChannel_21 a0 M = some R → AR p l e 2 44 s m args below meth c D dA ad lo n 6 A (some (.int R.1)) R.2 21 [] [] M := by
  intro M R h
  unfold f_X7_addChannel_21 at h
  refine AW.bipush (v := (-2)) (pc' := 23) X rfl dX7_addChannel_21 rfl ?_
  replace h := Option.some.inj h
  subst h
  exact AW.iret X hr dX7_addChannel_23
set_option maxHeartbeats 4000000 in
set_option maxRecDepth 100000 in
theorem ok_X7_addChannel_105 {a0 : Nat} (X : CX p s m args meth c cX7_addChannel 6 RX7 D dA ad lo n A) (hr : meth.sig.returnType = (some .int)) (h0 : tMo lo n a0) : ∀ (k : Nat) (x4 : Int32) (x5 : Int32) (M : MM) (R : (Int32 × MM)), f_X7_addChannel_105 a0 k x4 x5 M = some R → AR p l e 2 44 s m args below meth c D dA ad lo n 6 A (some (.int R.1)) R.2 105 [(0, .ref a0), (4, .int x4), (5, .int x5)] [] M := by
  intro k
  induction k with
  | zero => intro _ _ _ R h; exact none_some h
  | succ k ih =>
    intro x4 x5 M R h
    unfold f_X7_addChannel_105 at h
    refine AW.iload (k0 := 2) (pc' := 107) X rfl dX7_addChannel_105 rfl ?_
    refine AW.iconst (v := 3) (pc' := 108) X rfl dX7_addChannel_107 rfl ?_
    refine AW.icmp_ge (pc' := 111) (tgt := 145) X dX7_addChannel_108 rfl rfl (fun q1 => ?_) (fun q1 => ?_)
    · replace h := itep q1 h
      refine AW.iload (k0 := 1) (pc' := 147) X rfl dX7_addChannel_145 rfl ?_
      replace h := Option.some.inj h
      subst h
      exact AW.iret X hr dX7_addChannel_147
    · replace h := iten q1 h
      refine AW.aload_n (k0 := 0) (pc' := 112) X rfl rfl dX7_addChannel_111 rfl ?_
      refine AW.iload (k0 := 1) (pc' := 114) X rfl dX7_addChannel_112 rfl ?_
      refine AW.iconst (v := 3) (pc' := 115) X rfl dX7_addChannel_114 rfl ?_
      refine AW.iconst (v := 3) (pc' := 116) X rfl dX7_addChannel_115 rfl ?_
      refine AW.iload (k0 := 2) (pc' := 118) X rfl dX7_addChannel_116 rfl ?_
      refine AW.imul (pc' := 119) X dX7_addChannel_118 rfl ?_
      refine AW.iadd (pc' := 120) X dX7_addChannel_119 rfl ?_
      refine AW.iconst (v := 1) (pc' := 121) X rfl dX7_addChannel_120 rfl ?_
      obtain ⟨v2, c2, h⟩ := Option.bind_eq_some_iff.mp h
      refine AW.callV (As := [.int x4, .int (3 + (3 * x5)), .int 1]) (rest := []) (rv := none) (M' := v2) (pc' := 124) X (ok_X7_setChannel h0 c2) yv_X7_setChannel h0.1 h0.2.1 (cM h0 dA ad _) rfl rfl ml_X7_37 ⟨by decide, by decide, by decide, by decide⟩ rfl (Nat.le_of_ble_eq_true rfl) rfl rfl dX7_addChannel_121 rfl ?_
      refine AW.aload_n (k0 := 0) (pc' := 125) X rfl rfl dX7_addChannel_124 rfl ?_
      refine AW.iload (k0 := 1) (pc' := 127) X rfl dX7_addChannel_125 rfl ?_
      refine AW.iconst (v := 3) (pc' := 128) X rfl dX7_addChannel_127 rfl ?_
      refine AW.iconst (v := 3) (pc' := 129) X rfl dX7_addChannel_128 rfl ?_
      refine AW.iload (k0 := 2) (pc' := 131) X rfl dX7_addChannel_129 rfl ?_
      refine AW.imul (pc' := 132) X dX7_addChannel_131 rfl ?_
      refine AW.iadd (pc' := 133) X dX7_addChannel_132 rfl ?_
      refine AW.iconst (v := 1) (pc' := 134) X rfl dX7_addChannel_133 rfl ?_
      refine AW.iadd (pc' := 135) X dX7_addChannel_134 rfl ?_
      refine AW.iconst (v := 1) (pc' := 136) X rfl dX7_addChannel_135 rfl ?_
      obtain ⟨v3, c3, h⟩ := Option.bind_eq_some_iff.mp h
      refine AW.callV (As := [.int x4, .int ((3 + (3 * x5)) + 1), .int 1]) (rest := []) (rv := none) (M' := v3) (pc' := 139) X (ok_X7_setChannel h0 c3) yv_X7_setChannel h0.1 h0.2.1 (cM h0 dA ad _) rfl rfl ml_X7_37 ⟨by decide, by decide, by decide, by decide⟩ rfl (Nat.le_of_ble_eq_true rfl) rfl rfl dX7_addChannel_136 rfl ?_
      refine AW.iinc (k0 := 2) (v := (x5 + 1)) (y := 1) (ls' := [(5, .int (x5 + 1)), (0, .ref a0), (4, .int x4)]) (pc' := 142) X rfl rfl rfl (by decide) rfl dX7_addChannel_139 rfl ?_
      refine AW.goto (pc' := 105) X dX7_addChannel_142 rfl ?_
      refine AW.sub (ls' := [(0, .ref a0), (4, .int x4), (5, .int (x5 + 1))]) [1, 2, 0] rfl ?_
      exact ih x4 (x5 + 1) v3 R h
set_option maxHeartbeats 4000000 in
set_option maxRecDepth 100000 in
theorem ok_X7_addChannel_83 {a0 : Nat} (X : CX p s m args meth c cX7_addChannel 6 RX7 D dA ad lo n A) (hr : meth.sig.returnType = (some .int)) (h0 : tMo lo n a0) : ∀ (x2 : Int32) (x3 : Int32) (x4 : Int32) (sb0 : Bool) (sb1 : Bool) (s2 : Int32) (M : MM) (R : (Int32 × MM)), f_X7_addChannel_83 a0 x2 x3 x4 sb0 sb1 s2 M = some R → AR p l e 2 44 s m args below meth c D dA ad lo n 6 A (some (.int R.1)) R.2 83 [(0, .ref a0), (2, .int x2), (3, .int x3), (4, .int x4)] [.int (bz sb0), .int (bz sb1), .int s2, .ref a0] M := by
  intro x2 x3 x4 sb0 sb1 s2 M R h
  unfold f_X7_addChannel_83 at h
  obtain ⟨v1, c1, h⟩ := Option.bind_eq_some_iff.mp h
  refine AW.callV (As := [.int s2, .int (bz sb1), .int (bz sb0)]) (rest := []) (rv := none) (M' := v1) (pc' := 86) X (ok_X7_setChannel h0 c1) yv_X7_setChannel h0.1 h0.2.1 (cM h0 dA ad _) rfl rfl ml_X7_37 ⟨by decide, by decide, by decide, by decide⟩ rfl (Nat.le_of_ble_eq_true rfl) rfl rfl dX7_addChannel_83 rfl ?_
  refine AW.aload_n (k0 := 0) (pc' := 87) X rfl rfl dX7_addChannel_86 rfl ?_
  refine AW.iload (k0 := 3) (pc' := 89) X rfl dX7_addChannel_87 rfl ?_
  refine AW.iconst (v := 1) (pc' := 90) X rfl dX7_addChannel_89 rfl ?_
  refine AW.iload_n (k0 := 1) (pc' := 91) X rfl rfl dX7_addChannel_90 rfl ?_
  obtain ⟨v2, c2, h⟩ := Option.bind_eq_some_iff.mp h
  refine AW.callV (As := [.int x4, .int 1, .int x2]) (rest := []) (rv := none) (M' := v2) (pc' := 94) X (ok_X7_setChannel h0 c2) yv_X7_setChannel h0.1 h0.2.1 (cM h0 dA ad _) rfl rfl ml_X7_37 ⟨by decide, by decide, by decide, by decide⟩ rfl (Nat.le_of_ble_eq_true rfl) rfl rfl dX7_addChannel_91 rfl ?_
  refine AW.aload_n (k0 := 0) (pc' := 95) X rfl rfl dX7_addChannel_94 rfl ?_
  refine AW.iload (k0 := 3) (pc' := 97) X rfl dX7_addChannel_95 rfl ?_
  refine AW.iconst (v := 2) (pc' := 98) X rfl dX7_addChannel_97 rfl ?_
  refine AW.iload_n (k0 := 2) (pc' := 99) X rfl rfl dX7_addChannel_98 rfl ?_
  obtain ⟨v3, c3, h⟩ := Option.bind_eq_some_iff.mp h
  refine AW.callV (As := [.int x4, .int 2, .int x3]) (rest := []) (rv := none) (M' := v3) (pc' := 102) X (ok_X7_setChannel h0 c3) yv_X7_setChannel h0.1 h0.2.1 (cM h0 dA ad _) rfl rfl ml_X7_37 ⟨by decide, by decide, by decide, by decide⟩ rfl (Nat.le_of_ble_eq_true rfl) rfl rfl dX7_addChannel_99 rfl ?_
  refine AW.iconst (v := 0) (pc' := 103) X rfl dX7_addChannel_102 rfl ?_
  refine AW.istore (ls' := [(5, .int 0), (0, .ref a0), (2, .int x2), (3, .int x3), (4, .int x4)]) (pc' := 105) X (by decide) rfl dX7_addChannel_103 rfl ?_
  refine AW.sub (ls' := [(0, .ref a0), (4, .int x4), (5, .int 0)]) [1, 4, 0] rfl ?_
  exact ok_X7_addChannel_105 X hr h0 FU x4 0 v3 R h
set_option maxHeartbeats 4000000 in
set_option maxRecDepth 100000 in
theorem ok_X7_addChannel {lo n : Nat} {a0 : Nat} {b1 : Bool} {x2 : Int32} {x3 : Int32} {M : MM} {R : (Int32 × MM)} (h0 : tMo lo n a0) (h : f_X7_addChannel a0 b1 x2 x3 M = some R) : MC yX7_addChannel cX7_addChannel 6 (some .int) 2 44 lo n [.ref a0, .int (bz b1), .int x2, .int x3] M (some (.int R.1)) R.2 := by
  refine MC.of (ls0 := [(0, .ref a0), (1, .int (bz b1)), (2, .int x2), (3, .int x3)]) (by decide) rfl (fun _ => Nat.le_of_ble_eq_true rfl) (fun p l e s m args below meth c D dA ad A X hr => ?_)
  replace X : CX p s m args meth c cX7_addChannel 6 RX7 D dA ad lo n A := X
  unfold f_X7_addChannel at h
  refine AW.iload_n (k0 := 2) (pc' := 1) X rfl rfl dX7_addChannel_0 rfl ?_
  refine AW.iconst (v := 0) (pc' := 2) X rfl dX7_addChannel_1 rfl ?_
  refine AW.sipush (v := 5000) (pc' := 5) X rfl dX7_addChannel_2 rfl ?_
  obtain ⟨v1, c1, h⟩ := Option.bind_eq_some_iff.mp h
  refine AW.callS (As := [.int x2, .int 0, .int 5000]) (rest := []) (rv := (some (.int (bz v1)))) (M' := M) (pc' := 8) X (ok_X7_in c1) yv_X7_in ml_X7_41 ⟨by decide, by decide, by decide, by decide⟩ rfl (Nat.le_of_ble_eq_true rfl) rfl rfl dX7_addChannel_5 rfl ?_
  refine AW.if_eq (pc' := 11) (tgt := 21) X dX7_addChannel_8 rfl rfl (fun q2 => ?_) (fun q2 => ?_)
  · replace h := itep q2 h
    refine AW.sub (ls' := []) [] rfl ?_
    exact ok_X7_addChannel_21 X hr h0 M R h
  · replace h := iten q2 h
    refine AW.iload_n (k0 := 3) (pc' := 12) X rfl rfl dX7_addChannel_11 rfl ?_
    refine AW.iconst (v := 1) (pc' := 13) X rfl dX7_addChannel_12 rfl ?_
    refine AW.ldc (pc' := 15) X mk_X7_57 dX7_addChannel_13 rfl ?_
    obtain ⟨v3, c3, h⟩ := Option.bind_eq_some_iff.mp h
    refine AW.callS (As := [.int x3, .int 1, .int 200000]) (rest := []) (rv := (some (.int (bz v3)))) (M' := M) (pc' := 18) X (ok_X7_in c3) yv_X7_in ml_X7_41 ⟨by decide, by decide, by decide, by decide⟩ rfl (Nat.le_of_ble_eq_true rfl) rfl rfl dX7_addChannel_15 rfl ?_
    refine AW.if_ne (pc' := 21) (tgt := 24) X dX7_addChannel_18 rfl rfl (fun q4 => ?_) (fun q4 => ?_)
    · replace h := iten q4 h
      refine AW.aload_n (k0 := 0) (pc' := 25) X rfl rfl dX7_addChannel_24 rfl ?_
      obtain ⟨v5, c5, h⟩ := Option.bind_eq_some_iff.mp h
      refine AW.callV (As := []) (rest := []) (rv := (some (.int (bz v5)))) (M' := M) (pc' := 28) X (ok_X7_rests h0 c5) yv_X7_rests h0.1 h0.2.1 (cM h0 dA ad _) rfl rfl ml_X7_45 ⟨by decide, by decide, by decide, by decide⟩ rfl (Nat.le_of_ble_eq_true rfl) rfl rfl dX7_addChannel_25 rfl ?_
      refine AW.if_ne (pc' := 31) (tgt := 34) X dX7_addChannel_28 rfl rfl (fun q6 => ?_) (fun q6 => ?_)
      · replace h := iten q6 h
        refine AW.aload_n (k0 := 0) (pc' := 35) X rfl rfl dX7_addChannel_34 rfl ?_
        refine AW.gX7 (v := .ref (a0 + 1)) (pc' := 38) X h0 0 (by decide) rfl mf_X7_7 rfl dX7_addChannel_35 rfl ?_
        refine AW.iconst (v := 5) (pc' := 39) X rfl dX7_addChannel_38 rfl ?_
        obtain ⟨g7, h⟩ := gd_some h
        refine AW.iald (pc' := 40) X (rM1 h0) (inb_vp g7) dX7_addChannel_39 rfl ?_
        refine AW.bipush (v := 6) (pc' := 42) X rfl dX7_addChannel_40 rfl ?_
        refine AW.icmp_ne (pc' := 45) (tgt := 48) X dX7_addChannel_42 rfl rfl (fun q8 => ?_) (fun q8 => ?_)
        · replace h := iten q8 h
          refine AW.aload_n (k0 := 0) (pc' := 49) X rfl rfl dX7_addChannel_48 rfl ?_
          obtain ⟨v9, c9, h⟩ := Option.bind_eq_some_iff.mp h
          refine AW.callV (As := []) (rest := []) (rv := none) (M' := v9) (pc' := 52) X (ok_X7_records h0 c9) yv_X7_records h0.1 h0.2.1 (cM h0 dA ad _) rfl rfl ml_X7_53 ⟨by decide, by decide, by decide, by decide⟩ rfl (Nat.le_of_ble_eq_true rfl) rfl rfl dX7_addChannel_49 rfl ?_
          refine AW.aload_n (k0 := 0) (pc' := 53) X rfl rfl dX7_addChannel_52 rfl ?_
          refine AW.gX7 (v := .ref (a0 + 1)) (pc' := 56) X h0 0 (by decide) rfl mf_X7_7 rfl dX7_addChannel_53 rfl ?_
          refine AW.iconst (v := 5) (pc' := 57) X rfl dX7_addChannel_56 rfl ?_
          obtain ⟨g10, h⟩ := gd_some h
          refine AW.iald (pc' := 58) X (rM1 h0) (inb_vp g10) dX7_addChannel_57 rfl ?_
          refine AW.istore (ls' := [(4, .int (v9 (a0 + 1) (ix 5))), (0, .ref a0), (1, .int (bz b1)), (2, .int x2), (3, .int x3)]) (pc' := 60) X (by decide) rfl dX7_addChannel_58 rfl ?_
          refine AW.aload_n (k0 := 1) (pc' := 61) X rfl rfl dX7_addChannel_60 rfl ?_
          refine AW.gX7 (v := .ref (a0 + 1)) (pc' := 64) X h0 0 (by decide) rfl mf_X7_7 rfl dX7_addChannel_61 rfl ?_
          refine AW.iconst (v := 5) (pc' := 65) X rfl dX7_addChannel_64 rfl ?_
          refine AW.dup2 (pc' := 66) X rfl rfl dX7_addChannel_65 rfl ?_
          obtain ⟨g11, h⟩ := gd_some h
          refine AW.iald (pc' := 67) X (rM1 h0) (inb_vp g11) dX7_addChannel_66 rfl ?_
          refine AW.iconst (v := 1) (pc' := 68) X rfl dX7_addChannel_67 rfl ?_
          refine AW.iadd (pc' := 69) X dX7_addChannel_68 rfl ?_
          obtain ⟨g12, h⟩ := gd_some h
          refine AW.iast (pc' := 70) X (rM1 h0) (inb_vp g12) dX7_addChannel_69 rfl ?_
          refine AW.aload_n (k0 := 1) (pc' := 71) X rfl rfl dX7_addChannel_70 rfl ?_
          refine AW.iload (k0 := 0) (pc' := 73) X rfl dX7_addChannel_71 rfl ?_
          refine AW.iconst (v := 0) (pc' := 74) X rfl dX7_addChannel_73 rfl ?_
          refine AW.iload_n (k0 := 2) (pc' := 75) X rfl rfl dX7_addChannel_74 rfl ?_
          refine AW.if_eq (pc' := 78) (tgt := 82) X dX7_addChannel_75 rfl rfl (fun q13 => ?_) (fun q13 => ?_)
          · replace h := itep q13 h
            refine AW.iconst (v := 0) (pc' := 83) X rfl dX7_addChannel_82 rfl ?_
            refine AW.sub (ls' := [(0, .ref a0), (2, .int x2), (3, .int x3), (4, .int (v9 (a0 + 1) (ix 5)))]) [1, 3, 4, 0] rfl ?_
            exact ok_X7_addChannel_83 X hr h0 x2 x3 (v9 (a0 + 1) (ix 5)) false false (v9 (a0 + 1) (ix 5)) (ms v9 (a0 + 1) (ix 5) ((v9 (a0 + 1) (ix 5)) + 1)) R h
          · replace h := iten q13 h
            refine AW.iconst (v := 1) (pc' := 79) X rfl dX7_addChannel_78 rfl ?_
            refine AW.goto (pc' := 83) X dX7_addChannel_79 rfl ?_
            refine AW.sub (ls' := [(0, .ref a0), (2, .int x2), (3, .int x3), (4, .int (v9 (a0 + 1) (ix 5)))]) [1, 3, 4, 0] rfl ?_
            exact ok_X7_addChannel_83 X hr h0 x2 x3 (v9 (a0 + 1) (ix 5)) true false (v9 (a0 + 1) (ix 5)) (ms v9 (a0 + 1) (ix 5) ((v9 (a0 + 1) (ix 5)) + 1)) R h
        · replace h := itep q8 h
          refine AW.bipush (v := (-4)) (pc' := 47) X rfl dX7_addChannel_45 rfl ?_
          replace h := Option.some.inj h
          subst h
          exact AW.iret X hr dX7_addChannel_47
      · replace h := itep q6 h
        refine AW.bipush (v := (-3)) (pc' := 33) X rfl dX7_addChannel_31 rfl ?_
        replace h := Option.some.inj h
        subst h
        exact AW.iret X hr dX7_addChannel_33
    · replace h := itep q4 h
      refine AW.sub (ls' := []) [] rfl ?_
      exact ok_X7_addChannel_21 X hr h0 M R h
set_option maxHeartbeats 4000000 in
set_option maxRecDepth 100000 in
theorem ok_X7_gainOf_10 {a0 : Nat} {M : MM} (X : CX p s m args meth c cX7_gainOf 11 RX7 D dA ad lo n A) (hr : meth.sig.returnType = (some .int)) (h0 : tMo lo n a0) : ∀ (k : Nat) (x1 : Int32) (x2 : Int32) (x3 : Int32) (x4 : Int32) (R : Int32), f_X7_gainOf_10 a0 M k x1 x2 x3 x4 = some R → AR p l e 1 22 s m args below meth c D dA ad lo n 11 A (some (.int R)) M 10 [(0, .ref a0), (1, .int x1), (2, .int x2), (3, .int x3), (4, .int x4)] [] M := by
  intro k
  induction k with
  | zero => intro _ _ _ _ R h; exact none_some h
  | succ k ih =>
    intro x1 x2 x3 x4 R h
    unfold f_X7_gainOf_10 at h
    refine AW.iload (k0 := 4) (pc' := 12) X rfl dX7_gainOf_10 rfl ?_
    refine AW.iconst (v := 3) (pc' := 13) X rfl dX7_gainOf_12 rfl ?_
    refine AW.icmp_ge (pc' := 16) (tgt := 94) X dX7_gainOf_13 rfl rfl (fun q1 => ?_) (fun q1 => ?_)
    · replace h := itep q1 h
      refine AW.iload_n (k0 := 3) (pc' := 95) X rfl rfl dX7_gainOf_94 rfl ?_
      replace h := Option.some.inj h
      subst h
      exact AW.iret X hr dX7_gainOf_95
    · replace h := iten q1 h
      refine AW.iload_n (k0 := 2) (pc' := 17) X rfl rfl dX7_gainOf_16 rfl ?_
      refine AW.aload_n (k0 := 0) (pc' := 18) X rfl rfl dX7_gainOf_17 rfl ?_
      refine AW.iload_n (k0 := 1) (pc' := 19) X rfl rfl dX7_gainOf_18 rfl ?_
      refine AW.iconst (v := 3) (pc' := 20) X rfl dX7_gainOf_19 rfl ?_
      refine AW.iconst (v := 3) (pc' := 21) X rfl dX7_gainOf_20 rfl ?_
      refine AW.iload (k0 := 4) (pc' := 23) X rfl dX7_gainOf_21 rfl ?_
      refine AW.imul (pc' := 24) X dX7_gainOf_23 rfl ?_
      refine AW.iadd (pc' := 25) X dX7_gainOf_24 rfl ?_
      obtain ⟨v2, c2, h⟩ := Option.bind_eq_some_iff.mp h
      refine AW.callV (As := [.int x1, .int (3 + (3 * x4))]) (rest := [.int x2]) (rv := (some (.int v2))) (M' := M) (pc' := 28) X (ok_X7_ofChannel h0 c2) yv_X7_ofChannel h0.1 h0.2.1 (cM h0 dA ad _) rfl rfl ml_X7_65 ⟨by decide, by decide, by decide, by decide⟩ rfl (Nat.le_of_ble_eq_true rfl) rfl rfl dX7_gainOf_25 rfl ?_
      refine AW.isub (pc' := 29) X dX7_gainOf_28 rfl ?_
      refine AW.i2l (pc' := 30) X dX7_gainOf_29 rfl ?_
      refine AW.lstore (ls' := [(5, .long ((Int32.toInt64 (x2 - v2)))), (0, .ref a0), (1, .int x1), (2, .int x2), (3, .int x3), (4, .int x4)]) (pc' := 32) X (by decide) rfl dX7_gainOf_30 rfl ?_
      refine AW.aload_n (k0 := 1) (pc' := 33) X rfl rfl dX7_gainOf_32 rfl ?_
      refine AW.iload_n (k0 := 2) (pc' := 34) X rfl rfl dX7_gainOf_33 rfl ?_
      refine AW.iconst (v := 3) (pc' := 35) X rfl dX7_gainOf_34 rfl ?_
      refine AW.iconst (v := 3) (pc' := 36) X rfl dX7_gainOf_35 rfl ?_
      refine AW.iload (k0 := 5) (pc' := 38) X rfl dX7_gainOf_36 rfl ?_
      refine AW.imul (pc' := 39) X dX7_gainOf_38 rfl ?_
      refine AW.iadd (pc' := 40) X dX7_gainOf_39 rfl ?_
      refine AW.iconst (v := 1) (pc' := 41) X rfl dX7_gainOf_40 rfl ?_
      refine AW.iadd (pc' := 42) X dX7_gainOf_41 rfl ?_
      obtain ⟨v3, c3, h⟩ := Option.bind_eq_some_iff.mp h
      refine AW.callV (As := [.int x1, .int ((3 + (3 * x4)) + 1)]) (rest := []) (rv := (some (.int v3))) (M' := M) (pc' := 45) X (ok_X7_ofChannel h0 c3) yv_X7_ofChannel h0.1 h0.2.1 (cM h0 dA ad _) rfl rfl ml_X7_65 ⟨by decide, by decide, by decide, by decide⟩ rfl (Nat.le_of_ble_eq_true rfl) rfl rfl dX7_gainOf_42 rfl ?_
      refine AW.i2l (pc' := 46) X dX7_gainOf_45 rfl ?_
      refine AW.lstore (ls' := [(7, .long ((Int32.toInt64 v3))), (5, .long ((Int32.toInt64 (x2 - v2)))), (0, .ref a0), (1, .int x1), (2, .int x2), (3, .int x3), (4, .int x4)]) (pc' := 48) X (by decide) rfl dX7_gainOf_46 rfl ?_
      refine AW.aload_n (k0 := 2) (pc' := 49) X rfl rfl dX7_gainOf_48 rfl ?_
      refine AW.iload_n (k0 := 3) (pc' := 50) X rfl rfl dX7_gainOf_49 rfl ?_
      refine AW.iconst (v := 3) (pc' := 51) X rfl dX7_gainOf_50 rfl ?_
      refine AW.iconst (v := 3) (pc' := 52) X rfl dX7_gainOf_51 rfl ?_
      refine AW.iload (k0 := 6) (pc' := 54) X rfl dX7_gainOf_52 rfl ?_
      refine AW.imul (pc' := 55) X dX7_gainOf_54 rfl ?_
      refine AW.iadd (pc' := 56) X dX7_gainOf_55 rfl ?_
      refine AW.iconst (v := 2) (pc' := 57) X rfl dX7_gainOf_56 rfl ?_
      refine AW.iadd (pc' := 58) X dX7_gainOf_57 rfl ?_
      obtain ⟨v4, c4, h⟩ := Option.bind_eq_some_iff.mp h
      refine AW.callV (As := [.int x1, .int ((3 + (3 * x4)) + 2)]) (rest := []) (rv := (some (.int v4))) (M' := M) (pc' := 61) X (ok_X7_ofChannel h0 c4) yv_X7_ofChannel h0.1 h0.2.1 (cM h0 dA ad _) rfl rfl ml_X7_65 ⟨by decide, by decide, by decide, by decide⟩ rfl (Nat.le_of_ble_eq_true rfl) rfl rfl dX7_gainOf_58 rfl ?_
      refine AW.i2l (pc' := 62) X dX7_gainOf_61 rfl ?_
      refine AW.lstore (ls' := [(9, .long ((Int32.toInt64 v4))), (7, .long ((Int32.toInt64 v3))), (5, .long ((Int32.toInt64 (x2 - v2)))), (0, .ref a0), (1, .int x1), (2, .int x2), (3, .int x3), (4, .int x4)]) (pc' := 64) X (by decide) rfl dX7_gainOf_62 rfl ?_
      refine AW.iload_n (k0 := 6) (pc' := 65) X rfl rfl dX7_gainOf_64 rfl ?_
      refine AW.lload (k0 := 0) (pc' := 67) X rfl dX7_gainOf_65 rfl ?_
      refine AW.lload (k0 := 1) (pc' := 69) X rfl dX7_gainOf_67 rfl ?_
      refine AW.lmul (pc' := 70) X dX7_gainOf_69 rfl ?_
      refine AW.lload (k0 := 1) (pc' := 72) X rfl dX7_gainOf_70 rfl ?_
      refine AW.lmul (pc' := 73) X dX7_gainOf_72 rfl ?_
      refine AW.lload (k0 := 1) (pc' := 75) X rfl dX7_gainOf_73 rfl ?_
      refine AW.lload (k0 := 1) (pc' := 77) X rfl dX7_gainOf_75 rfl ?_
      refine AW.lmul (pc' := 78) X dX7_gainOf_77 rfl ?_
      refine AW.lload (k0 := 2) (pc' := 80) X rfl dX7_gainOf_78 rfl ?_
      refine AW.lload (k0 := 2) (pc' := 82) X rfl dX7_gainOf_80 rfl ?_
      refine AW.lmul (pc' := 83) X dX7_gainOf_82 rfl ?_
      refine AW.ladd (pc' := 84) X dX7_gainOf_83 rfl ?_
      obtain ⟨g5, h⟩ := gd_some h
      refine AW.ldiv (pc' := 85) X (nzl_ne g5) dX7_gainOf_84 rfl ?_
      refine AW.l2i (pc' := 86) X dX7_gainOf_85 rfl ?_
      refine AW.iadd (pc' := 87) X dX7_gainOf_86 rfl ?_
      refine AW.istore_n (ls' := [(3, .int (x3 + (Int64.toInt32 ((((Int32.toInt64 v4) * (Int32.toInt64 v3)) * (Int32.toInt64 v3)) / (((Int32.toInt64 v3) * (Int32.toInt64 v3)) + ((Int32.toInt64 (x2 - v2)) * (Int32.toInt64 (x2 - v2)))))))), (9, .long ((Int32.toInt64 v4))), (7, .long ((Int32.toInt64 v3))), (5, .long ((Int32.toInt64 (x2 - v2)))), (0, .ref a0), (1, .int x1), (2, .int x2), (4, .int x4)]) (pc' := 88) X rfl (by decide) rfl dX7_gainOf_87 rfl ?_
      refine AW.iinc (k0 := 7) (v := (x4 + 1)) (y := 1) (ls' := [(4, .int (x4 + 1)), (3, .int (x3 + (Int64.toInt32 ((((Int32.toInt64 v4) * (Int32.toInt64 v3)) * (Int32.toInt64 v3)) / (((Int32.toInt64 v3) * (Int32.toInt64 v3)) + ((Int32.toInt64 (x2 - v2)) * (Int32.toInt64 (x2 - v2)))))))), (9, .long ((Int32.toInt64 v4))), (7, .long ((Int32.toInt64 v3))), (5, .long ((Int32.toInt64 (x2 - v2)))), (0, .ref a0), (1, .int x1), (2, .int x2)]) (pc' := 91) X rfl rfl rfl (by decide) rfl dX7_gainOf_88 rfl ?_
      refine AW.goto (pc' := 10) X dX7_gainOf_91 rfl ?_
      refine AW.sub (ls' := [(0, .ref a0), (1, .int x1), (2, .int x2), (3, .int (x3 + (Int64.toInt32 ((((Int32.toInt64 v4) * (Int32.toInt64 v3)) * (Int32.toInt64 v3)) / (((Int32.toInt64 v3) * (Int32.toInt64 v3)) + ((Int32.toInt64 (x2 - v2)) * (Int32.toInt64 (x2 - v2)))))))), (4, .int (x4 + 1))]) [5, 6, 7, 1, 0] rfl ?_
      exact ih x1 x2 (x3 + (Int64.toInt32 ((((Int32.toInt64 v4) * (Int32.toInt64 v3)) * (Int32.toInt64 v3)) / (((Int32.toInt64 v3) * (Int32.toInt64 v3)) + ((Int32.toInt64 (x2 - v2)) * (Int32.toInt64 (x2 - v2))))))) (x4 + 1) R h
set_option maxHeartbeats 4000000 in
set_option maxRecDepth 100000 in
theorem ok_X7_gainOf {lo n : Nat} {a0 : Nat} {x1 : Int32} {x2 : Int32} {M : MM} {R : Int32} (h0 : tMo lo n a0) (h : f_X7_gainOf a0 x1 x2 M = some R) : MC yX7_gainOf cX7_gainOf 11 (some .int) 1 22 lo n [.ref a0, .int x1, .int x2] M (some (.int R)) M := by
  refine MC.of (ls0 := [(0, .ref a0), (1, .int x1), (2, .int x2)]) (by decide) rfl (fun _ => Nat.le_of_ble_eq_true rfl) (fun p l e s m args below meth c D dA ad A X hr => ?_)
  replace X : CX p s m args meth c cX7_gainOf 11 RX7 D dA ad lo n A := X
  unfold f_X7_gainOf at h
  refine AW.aload_n (k0 := 0) (pc' := 1) X rfl rfl dX7_gainOf_0 rfl ?_
  refine AW.iload_n (k0 := 1) (pc' := 2) X rfl rfl dX7_gainOf_1 rfl ?_
  refine AW.iconst (v := 1) (pc' := 3) X rfl dX7_gainOf_2 rfl ?_
  obtain ⟨v1, c1, h⟩ := Option.bind_eq_some_iff.mp h
  refine AW.callV (As := [.int x1, .int 1]) (rest := []) (rv := (some (.int v1))) (M' := M) (pc' := 6) X (ok_X7_ofChannel h0 c1) yv_X7_ofChannel h0.1 h0.2.1 (cM h0 dA ad _) rfl rfl ml_X7_65 ⟨by decide, by decide, by decide, by decide⟩ rfl (Nat.le_of_ble_eq_true rfl) rfl rfl dX7_gainOf_3 rfl ?_
  refine AW.istore_n (ls' := [(3, .int v1), (0, .ref a0), (1, .int x1), (2, .int x2)]) (pc' := 7) X rfl (by decide) rfl dX7_gainOf_6 rfl ?_
  refine AW.iconst (v := 0) (pc' := 8) X rfl dX7_gainOf_7 rfl ?_
  refine AW.istore (ls' := [(4, .int 0), (3, .int v1), (0, .ref a0), (1, .int x1), (2, .int x2)]) (pc' := 10) X (by decide) rfl dX7_gainOf_8 rfl ?_
  refine AW.sub (ls' := [(0, .ref a0), (1, .int x1), (2, .int x2), (3, .int v1), (4, .int 0)]) [2, 3, 4, 1, 0] rfl ?_
  exact ok_X7_gainOf_10 X hr h0 FU x1 x2 v1 0 R h
set_option maxHeartbeats 4000000 in
set_option maxRecDepth 100000 in
theorem ok_X7_setMode_17 {a0 : Nat} (X : CX p s m args meth c cX7_setMode 6 RX7 D dA ad lo n A) (hr : meth.sig.returnType = (some .int)) (h0 : tMo lo n a0) : ∀ (M : MM) (R : (Int32 × MM)), f_X7_setMode_17 a0 M = some R → AR p l e 2 52 s m args below meth c D dA ad lo n 6 A (some (.int R.1)) R.2 17 [] [] M := by
  intro M R h
  unfold f_X7_setMode_17 at h
  refine AW.iconst (v := (-1)) (pc' := 18) X rfl dX7_setMode_17 rfl ?_
  replace h := Option.some.inj h
  subst h
  exact AW.iret X hr dX7_setMode_18
set_option maxHeartbeats 4000000 in
set_option maxRecDepth 100000 in
theorem ok_X7_setMode_53 {a0 : Nat} (X : CX p s m args meth c cX7_setMode 6 RX7 D dA ad lo n A) (hr : meth.sig.returnType = (some .int)) (h0 : tMo lo n a0) : ∀ (M : MM) (R : (Int32 × MM)), f_X7_setMode_53 a0 M = some R → AR p l e 2 52 s m args below meth c D dA ad lo n 6 A (some (.int R.1)) R.2 53 [] [] M := by
  intro M R h
  unfold f_X7_setMode_53 at h
  refine AW.bipush (v := (-2)) (pc' := 55) X rfl dX7_setMode_53 rfl ?_
  replace h := Option.some.inj h
  subst h
  exact AW.iret X hr dX7_setMode_55
set_option maxHeartbeats 4000000 in
set_option maxRecDepth 100000 in
theorem ok_X7_setMode {lo n : Nat} {a0 : Nat} {x1 : Int32} {x2 : Int32} {x3 : Int32} {x4 : Int32} {x5 : Int32} {M : MM} {R : (Int32 × MM)} (h0 : tMo lo n a0) (h : f_X7_setMode a0 x1 x2 x3 x4 x5 M = some R) : MC yX7_setMode cX7_setMode 6 (some .int) 2 52 lo n [.ref a0, .int x1, .int x2, .int x3, .int x4, .int x5] M (some (.int R.1)) R.2 := by
  refine MC.of (ls0 := [(0, .ref a0), (1, .int x1), (2, .int x2), (3, .int x3), (4, .int x4), (5, .int x5)]) (by decide) rfl (fun _ => Nat.le_of_ble_eq_true rfl) (fun p l e s m args below meth c D dA ad A X hr => ?_)
  replace X : CX p s m args meth c cX7_setMode 6 RX7 D dA ad lo n A := X
  unfold f_X7_setMode at h
  refine AW.aload_n (k0 := 0) (pc' := 1) X rfl rfl dX7_setMode_0 rfl ?_
  refine AW.iload_n (k0 := 1) (pc' := 2) X rfl rfl dX7_setMode_1 rfl ?_
  obtain ⟨v1, c1, h⟩ := Option.bind_eq_some_iff.mp h
  refine AW.callV (As := [.int x1]) (rest := []) (rv := (some (.int (bz v1)))) (M' := M) (pc' := 5) X (ok_X7_isChannel h0 c1) yv_X7_isChannel h0.1 h0.2.1 (cM h0 dA ad _) rfl rfl ml_X7_58 ⟨by decide, by decide, by decide, by decide⟩ rfl (Nat.le_of_ble_eq_true rfl) rfl rfl dX7_setMode_2 rfl ?_
  refine AW.if_eq (pc' := 8) (tgt := 17) X dX7_setMode_5 rfl rfl (fun q2 => ?_) (fun q2 => ?_)
  · replace h := itep q2 h
    refine AW.sub (ls' := []) [] rfl ?_
    exact ok_X7_setMode_17 X hr h0 M R h
  · replace h := iten q2 h
    refine AW.iload_n (k0 := 2) (pc' := 9) X rfl rfl dX7_setMode_8 rfl ?_
    refine AW.iconst (v := 0) (pc' := 10) X rfl dX7_setMode_9 rfl ?_
    refine AW.iconst (v := 2) (pc' := 11) X rfl dX7_setMode_10 rfl ?_
    obtain ⟨v3, c3, h⟩ := Option.bind_eq_some_iff.mp h
    refine AW.callS (As := [.int x2, .int 0, .int 2]) (rest := []) (rv := (some (.int (bz v3)))) (M' := M) (pc' := 14) X (ok_X7_in c3) yv_X7_in ml_X7_41 ⟨by decide, by decide, by decide, by decide⟩ rfl (Nat.le_of_ble_eq_true rfl) rfl rfl dX7_setMode_11 rfl ?_
    refine AW.if_ne (pc' := 17) (tgt := 19) X dX7_setMode_14 rfl rfl (fun q4 => ?_) (fun q4 => ?_)
    · replace h := iten q4 h
      refine AW.iload_n (k0 := 3) (pc' := 20) X rfl rfl dX7_setMode_19 rfl ?_
      refine AW.iconst (v := 1) (pc' := 21) X rfl dX7_setMode_20 rfl ?_
      refine AW.sipush (v := 2000) (pc' := 24) X rfl dX7_setMode_21 rfl ?_
      obtain ⟨v5, c5, h⟩ := Option.bind_eq_some_iff.mp h
      refine AW.callS (As := [.int x3, .int 1, .int 2000]) (rest := []) (rv := (some (.int (bz v5)))) (M' := M) (pc' := 27) X (ok_X7_in c5) yv_X7_in ml_X7_41 ⟨by decide, by decide, by decide, by decide⟩ rfl (Nat.le_of_ble_eq_true rfl) rfl rfl dX7_setMode_24 rfl ?_
      refine AW.if_eq (pc' := 30) (tgt := 53) X dX7_setMode_27 rfl rfl (fun q6 => ?_) (fun q6 => ?_)
      · replace h := itep q6 h
        refine AW.sub (ls' := []) [] rfl ?_
        exact ok_X7_setMode_53 X hr h0 M R h
      · replace h := iten q6 h
        refine AW.iload (k0 := 4) (pc' := 32) X rfl dX7_setMode_30 rfl ?_
        refine AW.iconst (v := 1) (pc' := 33) X rfl dX7_setMode_32 rfl ?_
        refine AW.sipush (v := 500) (pc' := 36) X rfl dX7_setMode_33 rfl ?_
        obtain ⟨v7, c7, h⟩ := Option.bind_eq_some_iff.mp h
        refine AW.callS (As := [.int x4, .int 1, .int 500]) (rest := []) (rv := (some (.int (bz v7)))) (M' := M) (pc' := 39) X (ok_X7_in c7) yv_X7_in ml_X7_41 ⟨by decide, by decide, by decide, by decide⟩ rfl (Nat.le_of_ble_eq_true rfl) rfl rfl dX7_setMode_36 rfl ?_
        refine AW.if_eq (pc' := 42) (tgt := 53) X dX7_setMode_39 rfl rfl (fun q8 => ?_) (fun q8 => ?_)
        · replace h := itep q8 h
          refine AW.sub (ls' := []) [] rfl ?_
          exact ok_X7_setMode_53 X hr h0 M R h
        · replace h := iten q8 h
          refine AW.iload (k0 := 5) (pc' := 44) X rfl dX7_setMode_42 rfl ?_
          refine AW.iconst (v := 0) (pc' := 45) X rfl dX7_setMode_44 rfl ?_
          refine AW.ldc (pc' := 47) X mk_X7_56 dX7_setMode_45 rfl ?_
          obtain ⟨v9, c9, h⟩ := Option.bind_eq_some_iff.mp h
          refine AW.callS (As := [.int x5, .int 0, .int 50000]) (rest := []) (rv := (some (.int (bz v9)))) (M' := M) (pc' := 50) X (ok_X7_in c9) yv_X7_in ml_X7_41 ⟨by decide, by decide, by decide, by decide⟩ rfl (Nat.le_of_ble_eq_true rfl) rfl rfl dX7_setMode_47 rfl ?_
          refine AW.if_ne (pc' := 53) (tgt := 56) X dX7_setMode_50 rfl rfl (fun q10 => ?_) (fun q10 => ?_)
          · replace h := iten q10 h
            refine AW.aload_n (k0 := 0) (pc' := 57) X rfl rfl dX7_setMode_56 rfl ?_
            obtain ⟨v11, c11, h⟩ := Option.bind_eq_some_iff.mp h
            refine AW.callV (As := []) (rest := []) (rv := none) (M' := v11) (pc' := 60) X (ok_X7_records h0 c11) yv_X7_records h0.1 h0.2.1 (cM h0 dA ad _) rfl rfl ml_X7_53 ⟨by decide, by decide, by decide, by decide⟩ rfl (Nat.le_of_ble_eq_true rfl) rfl rfl dX7_setMode_57 rfl ?_
            refine AW.aload_n (k0 := 0) (pc' := 61) X rfl rfl dX7_setMode_60 rfl ?_
            refine AW.iload_n (k0 := 1) (pc' := 62) X rfl rfl dX7_setMode_61 rfl ?_
            refine AW.iconst (v := 3) (pc' := 63) X rfl dX7_setMode_62 rfl ?_
            refine AW.iconst (v := 3) (pc' := 64) X rfl dX7_setMode_63 rfl ?_
            refine AW.iload_n (k0 := 2) (pc' := 65) X rfl rfl dX7_setMode_64 rfl ?_
            refine AW.imul (pc' := 66) X dX7_setMode_65 rfl ?_
            refine AW.iadd (pc' := 67) X dX7_setMode_66 rfl ?_
            refine AW.iload_n (k0 := 3) (pc' := 68) X rfl rfl dX7_setMode_67 rfl ?_
            obtain ⟨v12, c12, h⟩ := Option.bind_eq_some_iff.mp h
            refine AW.callV (As := [.int x1, .int (3 + (3 * x2)), .int x3]) (rest := []) (rv := none) (M' := v12) (pc' := 71) X (ok_X7_setChannel h0 c12) yv_X7_setChannel h0.1 h0.2.1 (cM h0 dA ad _) rfl rfl ml_X7_37 ⟨by decide, by decide, by decide, by decide⟩ rfl (Nat.le_of_ble_eq_true rfl) rfl rfl dX7_setMode_68 rfl ?_
            refine AW.aload_n (k0 := 0) (pc' := 72) X rfl rfl dX7_setMode_71 rfl ?_
            refine AW.iload_n (k0 := 1) (pc' := 73) X rfl rfl dX7_setMode_72 rfl ?_
            refine AW.iconst (v := 3) (pc' := 74) X rfl dX7_setMode_73 rfl ?_
            refine AW.iconst (v := 3) (pc' := 75) X rfl dX7_setMode_74 rfl ?_
            refine AW.iload_n (k0 := 2) (pc' := 76) X rfl rfl dX7_setMode_75 rfl ?_
            refine AW.imul (pc' := 77) X dX7_setMode_76 rfl ?_
            refine AW.iadd (pc' := 78) X dX7_setMode_77 rfl ?_
            refine AW.iconst (v := 1) (pc' := 79) X rfl dX7_setMode_78 rfl ?_
            refine AW.iadd (pc' := 80) X dX7_setMode_79 rfl ?_
            refine AW.iload (k0 := 4) (pc' := 82) X rfl dX7_setMode_80 rfl ?_
            obtain ⟨v13, c13, h⟩ := Option.bind_eq_some_iff.mp h
            refine AW.callV (As := [.int x1, .int ((3 + (3 * x2)) + 1), .int x4]) (rest := []) (rv := none) (M' := v13) (pc' := 85) X (ok_X7_setChannel h0 c13) yv_X7_setChannel h0.1 h0.2.1 (cM h0 dA ad _) rfl rfl ml_X7_37 ⟨by decide, by decide, by decide, by decide⟩ rfl (Nat.le_of_ble_eq_true rfl) rfl rfl dX7_setMode_82 rfl ?_
            refine AW.aload_n (k0 := 0) (pc' := 86) X rfl rfl dX7_setMode_85 rfl ?_
            refine AW.iload_n (k0 := 1) (pc' := 87) X rfl rfl dX7_setMode_86 rfl ?_
            refine AW.iconst (v := 3) (pc' := 88) X rfl dX7_setMode_87 rfl ?_
            refine AW.iconst (v := 3) (pc' := 89) X rfl dX7_setMode_88 rfl ?_
            refine AW.iload_n (k0 := 2) (pc' := 90) X rfl rfl dX7_setMode_89 rfl ?_
            refine AW.imul (pc' := 91) X dX7_setMode_90 rfl ?_
            refine AW.iadd (pc' := 92) X dX7_setMode_91 rfl ?_
            refine AW.iconst (v := 2) (pc' := 93) X rfl dX7_setMode_92 rfl ?_
            refine AW.iadd (pc' := 94) X dX7_setMode_93 rfl ?_
            refine AW.iload (k0 := 5) (pc' := 96) X rfl dX7_setMode_94 rfl ?_
            obtain ⟨v14, c14, h⟩ := Option.bind_eq_some_iff.mp h
            refine AW.callV (As := [.int x1, .int ((3 + (3 * x2)) + 2), .int x5]) (rest := []) (rv := none) (M' := v14) (pc' := 99) X (ok_X7_setChannel h0 c14) yv_X7_setChannel h0.1 h0.2.1 (cM h0 dA ad _) rfl rfl ml_X7_37 ⟨by decide, by decide, by decide, by decide⟩ rfl (Nat.le_of_ble_eq_true rfl) rfl rfl dX7_setMode_96 rfl ?_
            refine AW.aload_n (k0 := 0) (pc' := 100) X rfl rfl dX7_setMode_99 rfl ?_
            refine AW.iload_n (k0 := 1) (pc' := 101) X rfl rfl dX7_setMode_100 rfl ?_
            refine AW.iload_n (k0 := 3) (pc' := 102) X rfl rfl dX7_setMode_101 rfl ?_
            obtain ⟨v15, c15, h⟩ := Option.bind_eq_some_iff.mp h
            refine AW.callV (As := [.int x1, .int x3]) (rest := []) (rv := (some (.int v15))) (M' := v14) (pc' := 105) X (ok_X7_gainOf h0 c15) yv_X7_gainOf h0.1 h0.2.1 (cM h0 dA ad _) rfl rfl ml_X7_62 ⟨by decide, by decide, by decide, by decide⟩ rfl (Nat.le_of_ble_eq_true rfl) rfl rfl dX7_setMode_102 rfl ?_
            replace h := Option.some.inj h
            subst h
            exact AW.iret X hr dX7_setMode_105
          · replace h := itep q10 h
            refine AW.sub (ls' := []) [] rfl ?_
            exact ok_X7_setMode_53 X hr h0 M R h
    · replace h := itep q4 h
      refine AW.sub (ls' := []) [] rfl ?_
      exact ok_X7_setMode_17 X hr h0 M R h
set_option maxHeartbeats 4000000 in
set_option maxRecDepth 100000 in
theorem ok_X7_addNotch_43 {a0 : Nat} (X : CX p s m args meth c cX7_addNotch 6 RX7 D dA ad lo n A) (hr : meth.sig.returnType = (some .int)) (h0 : tMo lo n a0) : ∀ (M : MM) (R : (Int32 × MM)), f_X7_addNotch_43 a0 M = some R → AR p l e 2 44 s m args below meth c D dA ad lo n 6 A (some (.int R.1)) R.2 43 [] [] M := by
  intro M R h
  unfold f_X7_addNotch_43 at h
  refine AW.bipush (v := (-2)) (pc' := 45) X rfl dX7_addNotch_43 rfl ?_
  replace h := Option.some.inj h
  subst h
  exact AW.iret X hr dX7_addNotch_45
set_option maxHeartbeats 4000000 in
set_option maxRecDepth 100000 in
theorem ok_X7_addNotch {lo n : Nat} {a0 : Nat} {x1 : Int32} {x2 : Int32} {x3 : Int32} {x4 : Int32} {M : MM} {R : (Int32 × MM)} (h0 : tMo lo n a0) (h : f_X7_addNotch a0 x1 x2 x3 x4 M = some R) : MC yX7_addNotch cX7_addNotch 6 (some .int) 2 44 lo n [.ref a0, .int x1, .int x2, .int x3, .int x4] M (some (.int R.1)) R.2 := by
  refine MC.of (ls0 := [(0, .ref a0), (1, .int x1), (2, .int x2), (3, .int x3), (4, .int x4)]) (by decide) rfl (fun _ => Nat.le_of_ble_eq_true rfl) (fun p l e s m args below meth c D dA ad A X hr => ?_)
  replace X : CX p s m args meth c cX7_addNotch 6 RX7 D dA ad lo n A := X
  unfold f_X7_addNotch at h
  refine AW.aload_n (k0 := 0) (pc' := 1) X rfl rfl dX7_addNotch_0 rfl ?_
  refine AW.iload_n (k0 := 1) (pc' := 2) X rfl rfl dX7_addNotch_1 rfl ?_
  obtain ⟨v1, c1, h⟩ := Option.bind_eq_some_iff.mp h
  refine AW.callV (As := [.int x1]) (rest := []) (rv := (some (.int (bz v1)))) (M' := M) (pc' := 5) X (ok_X7_isChannel h0 c1) yv_X7_isChannel h0.1 h0.2.1 (cM h0 dA ad _) rfl rfl ml_X7_58 ⟨by decide, by decide, by decide, by decide⟩ rfl (Nat.le_of_ble_eq_true rfl) rfl rfl dX7_addNotch_2 rfl ?_
  refine AW.if_ne (pc' := 8) (tgt := 10) X dX7_addNotch_5 rfl rfl (fun q2 => ?_) (fun q2 => ?_)
  · replace h := iten q2 h
    refine AW.iload_n (k0 := 2) (pc' := 11) X rfl rfl dX7_addNotch_10 rfl ?_
    refine AW.iconst (v := 1) (pc' := 12) X rfl dX7_addNotch_11 rfl ?_
    refine AW.sipush (v := 2000) (pc' := 15) X rfl dX7_addNotch_12 rfl ?_
    obtain ⟨v3, c3, h⟩ := Option.bind_eq_some_iff.mp h
    refine AW.callS (As := [.int x2, .int 1, .int 2000]) (rest := []) (rv := (some (.int (bz v3)))) (M' := M) (pc' := 18) X (ok_X7_in c3) yv_X7_in ml_X7_41 ⟨by decide, by decide, by decide, by decide⟩ rfl (Nat.le_of_ble_eq_true rfl) rfl rfl dX7_addNotch_15 rfl ?_
    refine AW.if_eq (pc' := 21) (tgt := 43) X dX7_addNotch_18 rfl rfl (fun q4 => ?_) (fun q4 => ?_)
    · replace h := itep q4 h
      refine AW.sub (ls' := []) [] rfl ?_
      exact ok_X7_addNotch_43 X hr h0 M R h
    · replace h := iten q4 h
      refine AW.iload_n (k0 := 3) (pc' := 22) X rfl rfl dX7_addNotch_21 rfl ?_
      refine AW.iload_n (k0 := 2) (pc' := 23) X rfl rfl dX7_addNotch_22 rfl ?_
      refine AW.sipush (v := 2000) (pc' := 26) X rfl dX7_addNotch_23 rfl ?_
      obtain ⟨v5, c5, h⟩ := Option.bind_eq_some_iff.mp h
      refine AW.callS (As := [.int x3, .int x2, .int 2000]) (rest := []) (rv := (some (.int (bz v5)))) (M' := M) (pc' := 29) X (ok_X7_in c5) yv_X7_in ml_X7_41 ⟨by decide, by decide, by decide, by decide⟩ rfl (Nat.le_of_ble_eq_true rfl) rfl rfl dX7_addNotch_26 rfl ?_
      refine AW.if_eq (pc' := 32) (tgt := 43) X dX7_addNotch_29 rfl rfl (fun q6 => ?_) (fun q6 => ?_)
      · replace h := itep q6 h
        refine AW.sub (ls' := []) [] rfl ?_
        exact ok_X7_addNotch_43 X hr h0 M R h
      · replace h := iten q6 h
        refine AW.iload (k0 := 4) (pc' := 34) X rfl dX7_addNotch_32 rfl ?_
        refine AW.iconst (v := 1) (pc' := 35) X rfl dX7_addNotch_34 rfl ?_
        refine AW.ldc (pc' := 37) X mk_X7_57 dX7_addNotch_35 rfl ?_
        obtain ⟨v7, c7, h⟩ := Option.bind_eq_some_iff.mp h
        refine AW.callS (As := [.int x4, .int 1, .int 200000]) (rest := []) (rv := (some (.int (bz v7)))) (M' := M) (pc' := 40) X (ok_X7_in c7) yv_X7_in ml_X7_41 ⟨by decide, by decide, by decide, by decide⟩ rfl (Nat.le_of_ble_eq_true rfl) rfl rfl dX7_addNotch_37 rfl ?_
        refine AW.if_ne (pc' := 43) (tgt := 46) X dX7_addNotch_40 rfl rfl (fun q8 => ?_) (fun q8 => ?_)
        · replace h := iten q8 h
          refine AW.aload_n (k0 := 0) (pc' := 47) X rfl rfl dX7_addNotch_46 rfl ?_
          refine AW.iload_n (k0 := 1) (pc' := 48) X rfl rfl dX7_addNotch_47 rfl ?_
          refine AW.bipush (v := 12) (pc' := 50) X rfl dX7_addNotch_48 rfl ?_
          obtain ⟨v9, c9, h⟩ := Option.bind_eq_some_iff.mp h
          refine AW.callV (As := [.int x1, .int 12]) (rest := []) (rv := (some (.int v9))) (M' := M) (pc' := 53) X (ok_X7_ofChannel h0 c9) yv_X7_ofChannel h0.1 h0.2.1 (cM h0 dA ad _) rfl rfl ml_X7_65 ⟨by decide, by decide, by decide, by decide⟩ rfl (Nat.le_of_ble_eq_true rfl) rfl rfl dX7_addNotch_50 rfl ?_
          refine AW.istore (ls' := [(5, .int v9), (0, .ref a0), (1, .int x1), (2, .int x2), (3, .int x3), (4, .int x4)]) (pc' := 55) X (by decide) rfl dX7_addNotch_53 rfl ?_
          refine AW.iload (k0 := 0) (pc' := 57) X rfl dX7_addNotch_55 rfl ?_
          refine AW.iconst (v := 4) (pc' := 58) X rfl dX7_addNotch_57 rfl ?_
          refine AW.icmp_ne (pc' := 61) (tgt := 64) X dX7_addNotch_58 rfl rfl (fun q10 => ?_) (fun q10 => ?_)
          · replace h := iten q10 h
            refine AW.aload_n (k0 := 1) (pc' := 65) X rfl rfl dX7_addNotch_64 rfl ?_
            obtain ⟨v11, c11, h⟩ := Option.bind_eq_some_iff.mp h
            refine AW.callV (As := []) (rest := []) (rv := none) (M' := v11) (pc' := 68) X (ok_X7_records h0 c11) yv_X7_records h0.1 h0.2.1 (cM h0 dA ad _) rfl rfl ml_X7_53 ⟨by decide, by decide, by decide, by decide⟩ rfl (Nat.le_of_ble_eq_true rfl) rfl rfl dX7_addNotch_65 rfl ?_
            refine AW.aload_n (k0 := 1) (pc' := 69) X rfl rfl dX7_addNotch_68 rfl ?_
            refine AW.iload_n (k0 := 2) (pc' := 70) X rfl rfl dX7_addNotch_69 rfl ?_
            refine AW.bipush (v := 13) (pc' := 72) X rfl dX7_addNotch_70 rfl ?_
            refine AW.iconst (v := 3) (pc' := 73) X rfl dX7_addNotch_72 rfl ?_
            refine AW.iload (k0 := 0) (pc' := 75) X rfl dX7_addNotch_73 rfl ?_
            refine AW.imul (pc' := 76) X dX7_addNotch_75 rfl ?_
            refine AW.iadd (pc' := 77) X dX7_addNotch_76 rfl ?_
            refine AW.iload_n (k0 := 3) (pc' := 78) X rfl rfl dX7_addNotch_77 rfl ?_
            obtain ⟨v12, c12, h⟩ := Option.bind_eq_some_iff.mp h
            refine AW.callV (As := [.int x1, .int (13 + (3 * v9)), .int x2]) (rest := []) (rv := none) (M' := v12) (pc' := 81) X (ok_X7_setChannel h0 c12) yv_X7_setChannel h0.1 h0.2.1 (cM h0 dA ad _) rfl rfl ml_X7_37 ⟨by decide, by decide, by decide, by decide⟩ rfl (Nat.le_of_ble_eq_true rfl) rfl rfl dX7_addNotch_78 rfl ?_
            refine AW.aload_n (k0 := 1) (pc' := 82) X rfl rfl dX7_addNotch_81 rfl ?_
            refine AW.iload_n (k0 := 2) (pc' := 83) X rfl rfl dX7_addNotch_82 rfl ?_
            refine AW.bipush (v := 13) (pc' := 85) X rfl dX7_addNotch_83 rfl ?_
            refine AW.iconst (v := 3) (pc' := 86) X rfl dX7_addNotch_85 rfl ?_
            refine AW.iload (k0 := 0) (pc' := 88) X rfl dX7_addNotch_86 rfl ?_
            refine AW.imul (pc' := 89) X dX7_addNotch_88 rfl ?_
            refine AW.iadd (pc' := 90) X dX7_addNotch_89 rfl ?_
            refine AW.iconst (v := 1) (pc' := 91) X rfl dX7_addNotch_90 rfl ?_
            refine AW.iadd (pc' := 92) X dX7_addNotch_91 rfl ?_
            refine AW.iload_n (k0 := 4) (pc' := 93) X rfl rfl dX7_addNotch_92 rfl ?_
            obtain ⟨v13, c13, h⟩ := Option.bind_eq_some_iff.mp h
            refine AW.callV (As := [.int x1, .int ((13 + (3 * v9)) + 1), .int x3]) (rest := []) (rv := none) (M' := v13) (pc' := 96) X (ok_X7_setChannel h0 c13) yv_X7_setChannel h0.1 h0.2.1 (cM h0 dA ad _) rfl rfl ml_X7_37 ⟨by decide, by decide, by decide, by decide⟩ rfl (Nat.le_of_ble_eq_true rfl) rfl rfl dX7_addNotch_93 rfl ?_
            refine AW.aload_n (k0 := 1) (pc' := 97) X rfl rfl dX7_addNotch_96 rfl ?_
            refine AW.iload_n (k0 := 2) (pc' := 98) X rfl rfl dX7_addNotch_97 rfl ?_
            refine AW.bipush (v := 13) (pc' := 100) X rfl dX7_addNotch_98 rfl ?_
            refine AW.iconst (v := 3) (pc' := 101) X rfl dX7_addNotch_100 rfl ?_
            refine AW.iload (k0 := 0) (pc' := 103) X rfl dX7_addNotch_101 rfl ?_
            refine AW.imul (pc' := 104) X dX7_addNotch_103 rfl ?_
            refine AW.iadd (pc' := 105) X dX7_addNotch_104 rfl ?_
            refine AW.iconst (v := 2) (pc' := 106) X rfl dX7_addNotch_105 rfl ?_
            refine AW.iadd (pc' := 107) X dX7_addNotch_106 rfl ?_
            refine AW.iload (k0 := 5) (pc' := 109) X rfl dX7_addNotch_107 rfl ?_
            obtain ⟨v14, c14, h⟩ := Option.bind_eq_some_iff.mp h
            refine AW.callV (As := [.int x1, .int ((13 + (3 * v9)) + 2), .int x4]) (rest := []) (rv := none) (M' := v14) (pc' := 112) X (ok_X7_setChannel h0 c14) yv_X7_setChannel h0.1 h0.2.1 (cM h0 dA ad _) rfl rfl ml_X7_37 ⟨by decide, by decide, by decide, by decide⟩ rfl (Nat.le_of_ble_eq_true rfl) rfl rfl dX7_addNotch_109 rfl ?_
            refine AW.aload_n (k0 := 1) (pc' := 113) X rfl rfl dX7_addNotch_112 rfl ?_
            refine AW.iload_n (k0 := 2) (pc' := 114) X rfl rfl dX7_addNotch_113 rfl ?_
            refine AW.bipush (v := 12) (pc' := 116) X rfl dX7_addNotch_114 rfl ?_
            refine AW.iload (k0 := 0) (pc' := 118) X rfl dX7_addNotch_116 rfl ?_
            refine AW.iconst (v := 1) (pc' := 119) X rfl dX7_addNotch_118 rfl ?_
            refine AW.iadd (pc' := 120) X dX7_addNotch_119 rfl ?_
            obtain ⟨v15, c15, h⟩ := Option.bind_eq_some_iff.mp h
            refine AW.callV (As := [.int x1, .int 12, .int (v9 + 1)]) (rest := []) (rv := none) (M' := v15) (pc' := 123) X (ok_X7_setChannel h0 c15) yv_X7_setChannel h0.1 h0.2.1 (cM h0 dA ad _) rfl rfl ml_X7_37 ⟨by decide, by decide, by decide, by decide⟩ rfl (Nat.le_of_ble_eq_true rfl) rfl rfl dX7_addNotch_120 rfl ?_
            refine AW.iload (k0 := 0) (pc' := 125) X rfl dX7_addNotch_123 rfl ?_
            replace h := Option.some.inj h
            subst h
            exact AW.iret X hr dX7_addNotch_125
          · replace h := itep q10 h
            refine AW.bipush (v := (-4)) (pc' := 63) X rfl dX7_addNotch_61 rfl ?_
            replace h := Option.some.inj h
            subst h
            exact AW.iret X hr dX7_addNotch_63
        · replace h := itep q8 h
          refine AW.sub (ls' := []) [] rfl ?_
          exact ok_X7_addNotch_43 X hr h0 M R h
  · replace h := itep q2 h
    refine AW.iconst (v := (-1)) (pc' := 9) X rfl dX7_addNotch_8 rfl ?_
    replace h := Option.some.inj h
    subst h
    exact AW.iret X hr dX7_addNotch_9
set_option maxHeartbeats 4000000 in
set_option maxRecDepth 100000 in
theorem ok_X7_least_19 {M : MM} (X : CX p s m args meth c cX7_least 1 RX7 D dA ad lo n A) (hr : meth.sig.returnType = (some .int)) : ∀ (s0 : Int32) (R : Int32), f_X7_least_19 M s0 = some R → AR p l e 0 0 s m args below meth c D dA ad lo n 1 A (some (.int R)) M 19 [] [.int s0] M := by
  intro s0 R h
  unfold f_X7_least_19 at h
  replace h := Option.some.inj h
  subst h
  exact AW.iret X hr dX7_least_19
set_option maxHeartbeats 4000000 in
set_option maxRecDepth 100000 in
theorem ok_X7_least {lo n : Nat} {x0 : Int32} {M : MM} {R : Int32}  (h : f_X7_least x0 M = some R) : MC yX7_least cX7_least 1 (some .int) 0 0 lo n [.int x0] M (some (.int R)) M := by
  refine MC.of (ls0 := [(0, .int x0)]) (by decide) rfl (fun _ => Nat.le_of_ble_eq_true rfl) (fun p l e s m args below meth c D dA ad A X hr => ?_)
  replace X : CX p s m args meth c cX7_least 1 RX7 D dA ad lo n A := X
  unfold f_X7_least at h
  refine AW.iload_n (k0 := 0) (pc' := 1) X rfl rfl dX7_least_0 rfl ?_
  refine AW.if_ne (pc' := 4) (tgt := 8) X dX7_least_1 rfl rfl (fun q1 => ?_) (fun q1 => ?_)
  · replace h := iten q1 h
    refine AW.iload_n (k0 := 0) (pc' := 9) X rfl rfl dX7_least_8 rfl ?_
    refine AW.iconst (v := 4) (pc' := 10) X rfl dX7_least_9 rfl ?_
    refine AW.icmp_ne (pc' := 13) (tgt := 18) X dX7_least_10 rfl rfl (fun q2 => ?_) (fun q2 => ?_)
    · replace h := iten q2 h
      refine AW.iconst (v := 1) (pc' := 19) X rfl dX7_least_18 rfl ?_
      refine AW.sub (ls' := []) [] rfl ?_
      exact ok_X7_least_19 X hr 1 R h
    · replace h := itep q2 h
      refine AW.bipush (v := 10) (pc' := 15) X rfl dX7_least_13 rfl ?_
      refine AW.goto (pc' := 19) X dX7_least_15 rfl ?_
      refine AW.sub (ls' := []) [] rfl ?_
      exact ok_X7_least_19 X hr 10 R h
  · replace h := itep q1 h
    refine AW.iconst (v := 0) (pc' := 5) X rfl dX7_least_4 rfl ?_
    refine AW.goto (pc' := 19) X dX7_least_5 rfl ?_
    refine AW.sub (ls' := []) [] rfl ?_
    exact ok_X7_least_19 X hr 0 R h
set_option maxHeartbeats 4000000 in
set_option maxRecDepth 100000 in
theorem ok_X7_most {lo n : Nat} {x0 : Int32} {M : MM} {R : Int32}  (h : f_X7_most x0 M = some R) : MC yX7_most cX7_most 1 (some .int) 0 0 lo n [.int x0] M (some (.int R)) M := by
  refine MC.of (ls0 := [(0, .int x0)]) (by decide) rfl (fun _ => Nat.le_of_ble_eq_true rfl) (fun p l e s m args below meth c D dA ad A X hr => ?_)
  replace X : CX p s m args meth c cX7_most 1 RX7 D dA ad lo n A := X
  unfold f_X7_most at h
  refine AW.iload_n (k0 := 0) (pc' := 1) X rfl rfl dX7_most_0 rfl ?_
  by_cases q1 : x0 = 0
  · replace h := itep q1 h
    refine AW.tin (pc' := 36) X dX7_most_1 (by rw [q1]; decide) (by rw [q1]; decide) (by rw [q1] <;> rfl) rfl ?_
    refine AW.iconst (v := 2) (pc' := 37) X rfl dX7_most_36 rfl ?_
    replace h := Option.some.inj h
    subst h
    exact AW.iret X hr dX7_most_37
  · replace h := iten q1 h
    by_cases q2 : x0 = 1
    · replace h := itep q2 h
      refine AW.tin (pc' := 38) X dX7_most_1 (by rw [q2]; decide) (by rw [q2]; decide) (by rw [q2] <;> rfl) rfl ?_
      refine AW.bipush (v := 8) (pc' := 40) X rfl dX7_most_38 rfl ?_
      replace h := Option.some.inj h
      subst h
      exact AW.iret X hr dX7_most_40
    · replace h := iten q2 h
      by_cases q3 : x0 = 2
      · replace h := itep q3 h
        refine AW.tin (pc' := 41) X dX7_most_1 (by rw [q3]; decide) (by rw [q3]; decide) (by rw [q3] <;> rfl) rfl ?_
        refine AW.iconst (v := 5) (pc' := 42) X rfl dX7_most_41 rfl ?_
        replace h := Option.some.inj h
        subst h
        exact AW.iret X hr dX7_most_42
      · replace h := iten q3 h
        by_cases q4 : x0 = 3
        · replace h := itep q4 h
          refine AW.tin (pc' := 43) X dX7_most_1 (by rw [q4]; decide) (by rw [q4]; decide) (by rw [q4] <;> rfl) rfl ?_
          refine AW.bipush (v := 100) (pc' := 45) X rfl dX7_most_43 rfl ?_
          replace h := Option.some.inj h
          subst h
          exact AW.iret X hr dX7_most_45
        · replace h := iten q4 h
          by_cases q5 : x0 = 4
          · replace h := itep q5 h
            refine AW.tin (pc' := 46) X dX7_most_1 (by rw [q5]; decide) (by rw [q5]; decide) (by rw [q5] <;> rfl) rfl ?_
            refine AW.bipush (v := 90) (pc' := 48) X rfl dX7_most_46 rfl ?_
            replace h := Option.some.inj h
            subst h
            exact AW.iret X hr dX7_most_48
          · replace h := iten q5 h
            have w0 := lv_neT q1 (by decide : (0 : Int32).toInt = 0)
            have w1 := lv_neT q2 (by decide : (1 : Int32).toInt = 1)
            have w2 := lv_neT q3 (by decide : (2 : Int32).toInt = 2)
            have w3 := lv_neT q4 (by decide : (3 : Int32).toInt = 3)
            have w4 := lv_neT q5 (by decide : (4 : Int32).toInt = 4)
            refine AW.tout (pc' := 49) X dX7_most_1 (by omega) rfl ?_
            refine AW.bipush (v := 9) (pc' := 51) X rfl dX7_most_49 rfl ?_
            replace h := Option.some.inj h
            subst h
            exact AW.iret X hr dX7_most_51
set_option maxHeartbeats 4000000 in
set_option maxRecDepth 100000 in
theorem ok_X7_whyNotSet_34 {a0 : Nat} {M : MM} (X : CX p s m args meth c cX7_whyNotSet 3 RX7 D dA ad lo n A) (hr : meth.sig.returnType = (some .int)) (h0 : tMo lo n a0) : ∀ (s0 : Int32) (R : Int32), f_X7_whyNotSet_34 a0 M s0 = some R → AR p l e 1 22 s m args below meth c D dA ad lo n 3 A (some (.int R)) M 34 [] [.int s0] M := by
  intro s0 R h
  unfold f_X7_whyNotSet_34 at h
  replace h := Option.some.inj h
  subst h
  exact AW.iret X hr dX7_whyNotSet_34
set_option maxHeartbeats 4000000 in
set_option maxRecDepth 100000 in
theorem ok_X7_whyNotSet {lo n : Nat} {a0 : Nat} {x1 : Int32} {x2 : Int32} {M : MM} {R : Int32} (h0 : tMo lo n a0) (h : f_X7_whyNotSet a0 x1 x2 M = some R) : MC yX7_whyNotSet cX7_whyNotSet 3 (some .int) 1 22 lo n [.ref a0, .int x1, .int x2] M (some (.int R)) M := by
  refine MC.of (ls0 := [(0, .ref a0), (1, .int x1), (2, .int x2)]) (by decide) rfl (fun _ => Nat.le_of_ble_eq_true rfl) (fun p l e s m args below meth c D dA ad A X hr => ?_)
  replace X : CX p s m args meth c cX7_whyNotSet 3 RX7 D dA ad lo n A := X
  unfold f_X7_whyNotSet at h
  refine AW.iload_n (k0 := 1) (pc' := 1) X rfl rfl dX7_whyNotSet_0 rfl ?_
  refine AW.iconst (v := 0) (pc' := 2) X rfl dX7_whyNotSet_1 rfl ?_
  refine AW.iconst (v := 5) (pc' := 3) X rfl dX7_whyNotSet_2 rfl ?_
  obtain ⟨v1, c1, h⟩ := Option.bind_eq_some_iff.mp h
  refine AW.callS (As := [.int x1, .int 0, .int 5]) (rest := []) (rv := (some (.int (bz v1)))) (M' := M) (pc' := 6) X (ok_X7_in c1) yv_X7_in ml_X7_41 ⟨by decide, by decide, by decide, by decide⟩ rfl (Nat.le_of_ble_eq_true rfl) rfl rfl dX7_whyNotSet_3 rfl ?_
  refine AW.if_ne (pc' := 9) (tgt := 13) X dX7_whyNotSet_6 rfl rfl (fun q2 => ?_) (fun q2 => ?_)
  · replace h := iten q2 h
    refine AW.iload_n (k0 := 2) (pc' := 14) X rfl rfl dX7_whyNotSet_13 rfl ?_
    refine AW.iload_n (k0 := 1) (pc' := 15) X rfl rfl dX7_whyNotSet_14 rfl ?_
    obtain ⟨v3, c3, h⟩ := Option.bind_eq_some_iff.mp h
    refine AW.callS (As := [.int x1]) (rest := [.int x2]) (rv := (some (.int v3))) (M' := M) (pc' := 18) X (ok_X7_least c3) yv_X7_least ml_X7_68 ⟨by decide, by decide, by decide, by decide⟩ rfl (Nat.le_of_ble_eq_true rfl) rfl rfl dX7_whyNotSet_15 rfl ?_
    refine AW.iload_n (k0 := 1) (pc' := 19) X rfl rfl dX7_whyNotSet_18 rfl ?_
    obtain ⟨v4, c4, h⟩ := Option.bind_eq_some_iff.mp h
    refine AW.callS (As := [.int x1]) (rest := [.int v3, .int x2]) (rv := (some (.int v4))) (M' := M) (pc' := 22) X (ok_X7_most c4) yv_X7_most ml_X7_72 ⟨by decide, by decide, by decide, by decide⟩ rfl (Nat.le_of_ble_eq_true rfl) rfl rfl dX7_whyNotSet_19 rfl ?_
    obtain ⟨v5, c5, h⟩ := Option.bind_eq_some_iff.mp h
    refine AW.callS (As := [.int x2, .int v3, .int v4]) (rest := []) (rv := (some (.int (bz v5)))) (M' := M) (pc' := 25) X (ok_X7_in c5) yv_X7_in ml_X7_41 ⟨by decide, by decide, by decide, by decide⟩ rfl (Nat.le_of_ble_eq_true rfl) rfl rfl dX7_whyNotSet_22 rfl ?_
    refine AW.if_eq (pc' := 28) (tgt := 32) X dX7_whyNotSet_25 rfl rfl (fun q6 => ?_) (fun q6 => ?_)
    · replace h := itep q6 h
      refine AW.bipush (v := (-2)) (pc' := 34) X rfl dX7_whyNotSet_32 rfl ?_
      refine AW.sub (ls' := []) [] rfl ?_
      exact ok_X7_whyNotSet_34 X hr h0 (-2) R h
    · replace h := iten q6 h
      refine AW.iconst (v := 0) (pc' := 29) X rfl dX7_whyNotSet_28 rfl ?_
      refine AW.goto (pc' := 34) X dX7_whyNotSet_29 rfl ?_
      refine AW.sub (ls' := []) [] rfl ?_
      exact ok_X7_whyNotSet_34 X hr h0 0 R h
  · replace h := itep q2 h
    refine AW.iconst (v := (-1)) (pc' := 10) X rfl dX7_whyNotSet_9 rfl ?_
    refine AW.goto (pc' := 34) X dX7_whyNotSet_10 rfl ?_
    refine AW.sub (ls' := []) [] rfl ?_
    exact ok_X7_whyNotSet_34 X hr h0 (-1) R h
set_option maxHeartbeats 4000000 in
set_option maxRecDepth 100000 in
theorem ok_X7_set {lo n : Nat} {a0 : Nat} {x1 : Int32} {x2 : Int32} {M : MM} {R : (Int32 × MM)} (h0 : tMo lo n a0) (h : f_X7_set a0 x1 x2 M = some R) : MC yX7_set cX7_set 5 (some .int) 2 44 lo n [.ref a0, .int x1, .int x2] M (some (.int R.1)) R.2 := by
  refine MC.of (ls0 := [(0, .ref a0), (1, .int x1), (2, .int x2)]) (by decide) rfl (fun _ => Nat.le_of_ble_eq_true rfl) (fun p l e s m args below meth c D dA ad A X hr => ?_)
  replace X : CX p s m args meth c cX7_set 5 RX7 D dA ad lo n A := X
  unfold f_X7_set at h
  refine AW.aload_n (k0 := 0) (pc' := 1) X rfl rfl dX7_set_0 rfl ?_
  refine AW.iload_n (k0 := 1) (pc' := 2) X rfl rfl dX7_set_1 rfl ?_
  refine AW.iload_n (k0 := 2) (pc' := 3) X rfl rfl dX7_set_2 rfl ?_
  obtain ⟨v1, c1, h⟩ := Option.bind_eq_some_iff.mp h
  refine AW.callV (As := [.int x1, .int x2]) (rest := []) (rv := (some (.int v1))) (M' := M) (pc' := 6) X (ok_X7_whyNotSet h0 c1) yv_X7_whyNotSet h0.1 h0.2.1 (cM h0 dA ad _) rfl rfl ml_X7_75 ⟨by decide, by decide, by decide, by decide⟩ rfl (Nat.le_of_ble_eq_true rfl) rfl rfl dX7_set_3 rfl ?_
  refine AW.istore_n (ls' := [(3, .int v1), (0, .ref a0), (1, .int x1), (2, .int x2)]) (pc' := 7) X rfl (by decide) rfl dX7_set_6 rfl ?_
  refine AW.iload_n (k0 := 0) (pc' := 8) X rfl rfl dX7_set_7 rfl ?_
  refine AW.if_eq (pc' := 11) (tgt := 13) X dX7_set_8 rfl rfl (fun q2 => ?_) (fun q2 => ?_)
  · replace h := itep q2 h
    refine AW.aload_n (k0 := 1) (pc' := 14) X rfl rfl dX7_set_13 rfl ?_
    obtain ⟨v3, c3, h⟩ := Option.bind_eq_some_iff.mp h
    refine AW.callV (As := []) (rest := []) (rv := none) (M' := v3) (pc' := 17) X (ok_X7_records h0 c3) yv_X7_records h0.1 h0.2.1 (cM h0 dA ad _) rfl rfl ml_X7_53 ⟨by decide, by decide, by decide, by decide⟩ rfl (Nat.le_of_ble_eq_true rfl) rfl rfl dX7_set_14 rfl ?_
    refine AW.aload_n (k0 := 1) (pc' := 18) X rfl rfl dX7_set_17 rfl ?_
    refine AW.iload_n (k0 := 2) (pc' := 19) X rfl rfl dX7_set_18 rfl ?_
    obtain ⟨v4, c4, h⟩ := Option.bind_eq_some_iff.mp h
    refine AW.callV (As := [.int x1]) (rest := []) (rv := (some (.int v4))) (M' := v3) (pc' := 22) X (ok_X7_setting h0 c4) yv_X7_setting h0.1 h0.2.1 (cM h0 dA ad _) rfl rfl ml_X7_78 ⟨by decide, by decide, by decide, by decide⟩ rfl (Nat.le_of_ble_eq_true rfl) rfl rfl dX7_set_19 rfl ?_
    refine AW.istore (ls' := [(4, .int v4), (3, .int v1), (0, .ref a0), (1, .int x1), (2, .int x2)]) (pc' := 24) X (by decide) rfl dX7_set_22 rfl ?_
    refine AW.aload_n (k0 := 2) (pc' := 25) X rfl rfl dX7_set_24 rfl ?_
    refine AW.gX7 (v := .ref (a0 + 1)) (pc' := 28) X h0 0 (by decide) rfl mf_X7_7 rfl dX7_set_25 rfl ?_
    refine AW.bipush (v := 12) (pc' := 30) X rfl dX7_set_28 rfl ?_
    refine AW.iload_n (k0 := 3) (pc' := 31) X rfl rfl dX7_set_30 rfl ?_
    refine AW.iadd (pc' := 32) X dX7_set_31 rfl ?_
    refine AW.iload_n (k0 := 4) (pc' := 33) X rfl rfl dX7_set_32 rfl ?_
    obtain ⟨g5, h⟩ := gd_some h
    refine AW.iast (pc' := 34) X (rM1 h0) (inb_vp g5) dX7_set_33 rfl ?_
    refine AW.iload (k0 := 0) (pc' := 36) X rfl dX7_set_34 rfl ?_
    replace h := Option.some.inj h
    subst h
    exact AW.iret X hr dX7_set_36
  · replace h := iten q2 h
    refine AW.iload_n (k0 := 0) (pc' := 12) X rfl rfl dX7_set_11 rfl ?_
    replace h := Option.some.inj h
    subst h
    exact AW.iret X hr dX7_set_12
set_option maxHeartbeats 4000000 in
set_option maxRecDepth 100000 in
theorem ok_X7_targetOf_103 {a0 : Nat} {M : MM} (X : CX p s m args meth c cX7_targetOf 8 RX7 D dA ad lo n A) (hr : meth.sig.returnType = (some .int)) (h0 : tMo lo n a0) {rec9 : Int32 → Int32 → Int32 → Int32 → Option Int32} (hrec9 : ∀ (x1 : Int32) (x2 : Int32) (x3 : Int32) (x4 : Int32) (R : Int32), rec9 x1 x2 x3 x4 = some R → AR p l e 0 0 s m args below meth c D dA ad lo n 8 A (some (.int R)) M 9 [(0, .ref a0), (1, .int x1), (2, .int x2), (3, .int x3), (4, .int x4)] [] M) : ∀ (x1 : Int32) (x2 : Int32) (x4 : Int32) (s0 : Int32) (R : Int32), f_X7_targetOf_103 a0 M rec9 x1 x2 x4 s0 = some R → AR p l e 0 0 s m args below meth c D dA ad lo n 8 A (some (.int R)) M 103 [(0, .ref a0), (1, .int x1), (2, .int x2), (4, .int x4)] [.int s0] M := by
  intro x1 x2 x4 s0 R h
  unfold f_X7_targetOf_103 at h
  refine AW.istore_n (ls' := [(3, .int s0), (0, .ref a0), (1, .int x1), (2, .int x2), (4, .int x4)]) (pc' := 104) X rfl (by decide) rfl dX7_targetOf_103 rfl ?_
  refine AW.iinc (k0 := 4) (v := (x4 + 1)) (y := 1) (ls' := [(4, .int (x4 + 1)), (3, .int s0), (0, .ref a0), (1, .int x1), (2, .int x2)]) (pc' := 107) X rfl rfl rfl (by decide) rfl dX7_targetOf_104 rfl ?_
  refine AW.goto (pc' := 9) X dX7_targetOf_107 rfl ?_
  refine AW.sub (ls' := [(0, .ref a0), (1, .int x1), (2, .int x2), (3, .int s0), (4, .int (x4 + 1))]) [2, 3, 4, 1, 0] rfl ?_
  exact hrec9 x1 x2 s0 (x4 + 1) R h
set_option maxHeartbeats 4000000 in
set_option maxRecDepth 100000 in
theorem ok_X7_targetOf_97 {a0 : Nat} {M : MM} (X : CX p s m args meth c cX7_targetOf 8 RX7 D dA ad lo n A) (hr : meth.sig.returnType = (some .int)) (h0 : tMo lo n a0) {rec9 : Int32 → Int32 → Int32 → Int32 → Option Int32} (hrec9 : ∀ (x1 : Int32) (x2 : Int32) (x3 : Int32) (x4 : Int32) (R : Int32), rec9 x1 x2 x3 x4 = some R → AR p l e 0 0 s m args below meth c D dA ad lo n 8 A (some (.int R)) M 9 [(0, .ref a0), (1, .int x1), (2, .int x2), (3, .int x3), (4, .int x4)] [] M) : ∀ (x1 : Int32) (x2 : Int32) (x4 : Int32) (R : Int32), f_X7_targetOf_97 a0 M rec9 x1 x2 x4 = some R → AR p l e 0 0 s m args below meth c D dA ad lo n 8 A (some (.int R)) M 97 [(0, .ref a0), (1, .int x1), (2, .int x2), (4, .int x4)] [] M := by
  intro x1 x2 x4 R h
  unfold f_X7_targetOf_97 at h
  refine AW.iload (k0 := 3) (pc' := 99) X rfl dX7_targetOf_97 rfl ?_
  refine AW.goto (pc' := 103) X dX7_targetOf_99 rfl ?_
  exact ok_X7_targetOf_103 X hr h0 hrec9 x1 x2 x4 x4 R h
set_option maxHeartbeats 4000000 in
set_option maxRecDepth 100000 in
theorem ok_X7_targetOf_102 {a0 : Nat} {M : MM} (X : CX p s m args meth c cX7_targetOf 8 RX7 D dA ad lo n A) (hr : meth.sig.returnType = (some .int)) (h0 : tMo lo n a0) {rec9 : Int32 → Int32 → Int32 → Int32 → Option Int32} (hrec9 : ∀ (x1 : Int32) (x2 : Int32) (x3 : Int32) (x4 : Int32) (R : Int32), rec9 x1 x2 x3 x4 = some R → AR p l e 0 0 s m args below meth c D dA ad lo n 8 A (some (.int R)) M 9 [(0, .ref a0), (1, .int x1), (2, .int x2), (3, .int x3), (4, .int x4)] [] M) : ∀ (x1 : Int32) (x2 : Int32) (x3 : Int32) (x4 : Int32) (R : Int32), f_X7_targetOf_102 a0 M rec9 x1 x2 x3 x4 = some R → AR p l e 0 0 s m args below meth c D dA ad lo n 8 A (some (.int R)) M 102 [(0, .ref a0), (1, .int x1), (2, .int x2), (3, .int x3), (4, .int x4)] [] M := by
  intro x1 x2 x3 x4 R h
  unfold f_X7_targetOf_102 at h
  refine AW.iload_n (k0 := 3) (pc' := 103) X rfl rfl dX7_targetOf_102 rfl ?_
  refine AW.sub (ls' := [(0, .ref a0), (1, .int x1), (2, .int x2), (4, .int x4)]) [0, 1, 2, 4] rfl ?_
  exact ok_X7_targetOf_103 X hr h0 hrec9 x1 x2 x4 x3 R h
set_option maxHeartbeats 4000000 in
set_option maxRecDepth 100000 in
theorem ok_X7_targetOf_68 {a0 : Nat} {M : MM} (X : CX p s m args meth c cX7_targetOf 8 RX7 D dA ad lo n A) (hr : meth.sig.returnType = (some .int)) (h0 : tMo lo n a0) {rec9 : Int32 → Int32 → Int32 → Int32 → Option Int32} (hrec9 : ∀ (x1 : Int32) (x2 : Int32) (x3 : Int32) (x4 : Int32) (R : Int32), rec9 x1 x2 x3 x4 = some R → AR p l e 0 0 s m args below meth c D dA ad lo n 8 A (some (.int R)) M 9 [(0, .ref a0), (1, .int x1), (2, .int x2), (3, .int x3), (4, .int x4)] [] M) : ∀ (x1 : Int32) (x3 : Int32) (x4 : Int32) (x5 : Int32) (s0 : Int32) (R : Int32), f_X7_targetOf_68 a0 M rec9 x1 x3 x4 x5 s0 = some R → AR p l e 0 0 s m args below meth c D dA ad lo n 8 A (some (.int R)) M 68 [(0, .ref a0), (1, .int x1), (3, .int x3), (4, .int x4), (5, .int x5)] [.int s0] M := by
  intro x1 x3 x4 x5 s0 R h
  unfold f_X7_targetOf_68 at h
  refine AW.istore_n (ls' := [(2, .int s0), (0, .ref a0), (1, .int x1), (3, .int x3), (4, .int x4), (5, .int x5)]) (pc' := 69) X rfl (by decide) rfl dX7_targetOf_68 rfl ?_
  refine AW.iload (k0 := 5) (pc' := 71) X rfl dX7_targetOf_69 rfl ?_
  refine AW.iload_n (k0 := 2) (pc' := 72) X rfl rfl dX7_targetOf_71 rfl ?_
  refine AW.icmp_lt (pc' := 75) (tgt := 102) X dX7_targetOf_72 rfl rfl (fun q1 => ?_) (fun q1 => ?_)
  · replace h := itep q1 h
    refine AW.sub (ls' := [(0, .ref a0), (1, .int x1), (2, .int s0), (3, .int x3), (4, .int x4)]) [1, 2, 0, 3, 4] rfl ?_
    exact ok_X7_targetOf_102 X hr h0 hrec9 x1 s0 x3 x4 R h
  · replace h := iten q1 h
    refine AW.iload_n (k0 := 3) (pc' := 76) X rfl rfl dX7_targetOf_75 rfl ?_
    refine AW.bipush (v := (-6)) (pc' := 78) X rfl dX7_targetOf_76 rfl ?_
    refine AW.icmp_eq (pc' := 81) (tgt := 97) X dX7_targetOf_78 rfl rfl (fun q2 => ?_) (fun q2 => ?_)
    · replace h := itep q2 h
      refine AW.sub (ls' := [(0, .ref a0), (1, .int x1), (2, .int s0), (4, .int x4)]) [1, 2, 0, 4] rfl ?_
      exact ok_X7_targetOf_97 X hr h0 hrec9 x1 s0 x4 R h
    · replace h := iten q2 h
      refine AW.iload (k0 := 5) (pc' := 83) X rfl dX7_targetOf_81 rfl ?_
      refine AW.aload_n (k0 := 1) (pc' := 84) X rfl rfl dX7_targetOf_83 rfl ?_
      refine AW.gX7 (v := .ref (a0 + 1)) (pc' := 87) X h0 0 (by decide) rfl mf_X7_7 rfl dX7_targetOf_84 rfl ?_
      refine AW.bipush (v := 18) (pc' := 89) X rfl dX7_targetOf_87 rfl ?_
      refine AW.iconst (v := 2) (pc' := 90) X rfl dX7_targetOf_89 rfl ?_
      refine AW.iload_n (k0 := 3) (pc' := 91) X rfl rfl dX7_targetOf_90 rfl ?_
      refine AW.imul (pc' := 92) X dX7_targetOf_91 rfl ?_
      refine AW.iadd (pc' := 93) X dX7_targetOf_92 rfl ?_
      obtain ⟨g3, h⟩ := gd_some h
      refine AW.iald (pc' := 94) X (rM1 h0) (inb_vp g3) dX7_targetOf_93 rfl ?_
      refine AW.icmp_ge (pc' := 97) (tgt := 102) X dX7_targetOf_94 rfl rfl (fun q4 => ?_) (fun q4 => ?_)
      · replace h := itep q4 h
        refine AW.sub (ls' := [(0, .ref a0), (1, .int x1), (2, .int s0), (3, .int x3), (4, .int x4)]) [1, 2, 0, 3, 4] rfl ?_
        exact ok_X7_targetOf_102 X hr h0 hrec9 x1 s0 x3 x4 R h
      · replace h := iten q4 h
        refine AW.sub (ls' := [(0, .ref a0), (1, .int x1), (2, .int s0), (4, .int x4)]) [1, 2, 0, 4] rfl ?_
        exact ok_X7_targetOf_97 X hr h0 hrec9 x1 s0 x4 R h
set_option maxHeartbeats 4000000 in
set_option maxRecDepth 100000 in
theorem ok_X7_targetOf_62 {a0 : Nat} {M : MM} (X : CX p s m args meth c cX7_targetOf 8 RX7 D dA ad lo n A) (hr : meth.sig.returnType = (some .int)) (h0 : tMo lo n a0) {rec9 : Int32 → Int32 → Int32 → Int32 → Option Int32} (hrec9 : ∀ (x1 : Int32) (x2 : Int32) (x3 : Int32) (x4 : Int32) (R : Int32), rec9 x1 x2 x3 x4 = some R → AR p l e 0 0 s m args below meth c D dA ad lo n 8 A (some (.int R)) M 9 [(0, .ref a0), (1, .int x1), (2, .int x2), (3, .int x3), (4, .int x4)] [] M) : ∀ (x1 : Int32) (x3 : Int32) (x4 : Int32) (x5 : Int32) (R : Int32), f_X7_targetOf_62 a0 M rec9 x1 x3 x4 x5 = some R → AR p l e 0 0 s m args below meth c D dA ad lo n 8 A (some (.int R)) M 62 [(0, .ref a0), (1, .int x1), (3, .int x3), (4, .int x4), (5, .int x5)] [] M := by
  intro x1 x3 x4 x5 R h
  unfold f_X7_targetOf_62 at h
  refine AW.iload (k0 := 3) (pc' := 64) X rfl dX7_targetOf_62 rfl ?_
  refine AW.goto (pc' := 68) X dX7_targetOf_64 rfl ?_
  exact ok_X7_targetOf_68 X hr h0 hrec9 x1 x3 x4 x5 x4 R h
set_option maxHeartbeats 4000000 in
set_option maxRecDepth 100000 in
theorem ok_X7_targetOf_67 {a0 : Nat} {M : MM} (X : CX p s m args meth c cX7_targetOf 8 RX7 D dA ad lo n A) (hr : meth.sig.returnType = (some .int)) (h0 : tMo lo n a0) {rec9 : Int32 → Int32 → Int32 → Int32 → Option Int32} (hrec9 : ∀ (x1 : Int32) (x2 : Int32) (x3 : Int32) (x4 : Int32) (R : Int32), rec9 x1 x2 x3 x4 = some R → AR p l e 0 0 s m args below meth c D dA ad lo n 8 A (some (.int R)) M 9 [(0, .ref a0), (1, .int x1), (2, .int x2), (3, .int x3), (4, .int x4)] [] M) : ∀ (x1 : Int32) (x2 : Int32) (x3 : Int32) (x4 : Int32) (x5 : Int32) (R : Int32), f_X7_targetOf_67 a0 M rec9 x1 x2 x3 x4 x5 = some R → AR p l e 0 0 s m args below meth c D dA ad lo n 8 A (some (.int R)) M 67 [(0, .ref a0), (1, .int x1), (2, .int x2), (3, .int x3), (4, .int x4), (5, .int x5)] [] M := by
  intro x1 x2 x3 x4 x5 R h
  unfold f_X7_targetOf_67 at h
  refine AW.iload_n (k0 := 2) (pc' := 68) X rfl rfl dX7_targetOf_67 rfl ?_
  refine AW.sub (ls' := [(0, .ref a0), (1, .int x1), (3, .int x3), (4, .int x4), (5, .int x5)]) [0, 1, 3, 4, 5] rfl ?_
  exact ok_X7_targetOf_68 X hr h0 hrec9 x1 x3 x4 x5 x2 R h
set_option maxHeartbeats 4000000 in
set_option maxRecDepth 100000 in
theorem ok_X7_targetOf_140 {a0 : Nat} {M : MM} (X : CX p s m args meth c cX7_targetOf 8 RX7 D dA ad lo n A) (hr : meth.sig.returnType = (some .int)) (h0 : tMo lo n a0) {r3 : Nat} (hr3 : tIA lo n 16272 r3) : ∀ (s0 : Int32) (s1 : Int32) (s2 : Int32) (R : Int32), f_X7_targetOf_140 a0 M s0 s1 s2 r3 = some R → AR p l e 0 0 s m args below meth c D dA ad lo n 8 A (some (.int R)) M 140 [] [.int s0, .int s1, .int s2, .ref r3] M := by
  intro s0 s1 s2 R h
  unfold f_X7_targetOf_140 at h
  refine AW.imul (pc' := 141) X dX7_targetOf_140 rfl ?_
  refine AW.iadd (pc' := 142) X dX7_targetOf_141 rfl ?_
  refine AW.iconst (v := 1) (pc' := 143) X rfl dX7_targetOf_142 rfl ?_
  refine AW.iadd (pc' := 144) X dX7_targetOf_143 rfl ?_
  obtain ⟨g1, h⟩ := gd_some h
  refine AW.iald (pc' := 145) X hr3 (inb_vp g1) dX7_targetOf_144 rfl ?_
  replace h := Option.some.inj h
  subst h
  exact AW.iret X hr dX7_targetOf_145
set_option maxHeartbeats 4000000 in
set_option maxRecDepth 100000 in
theorem ok_X7_targetOf_122 {a0 : Nat} {M : MM} (X : CX p s m args meth c cX7_targetOf 8 RX7 D dA ad lo n A) (hr : meth.sig.returnType = (some .int)) (h0 : tMo lo n a0) : ∀ (x2 : Int32) (x3 : Int32) (R : Int32), f_X7_targetOf_122 a0 M x2 x3 = some R → AR p l e 0 0 s m args below meth c D dA ad lo n 8 A (some (.int R)) M 122 [(0, .ref a0), (2, .int x2), (3, .int x3)] [] M := by
  intro x2 x3 R h
  unfold f_X7_targetOf_122 at h
  refine AW.aload_n (k0 := 0) (pc' := 123) X rfl rfl dX7_targetOf_122 rfl ?_
  refine AW.gX7 (v := .ref (a0 + 1)) (pc' := 126) X h0 0 (by decide) rfl mf_X7_7 rfl dX7_targetOf_123 rfl ?_
  refine AW.bipush (v := 18) (pc' := 128) X rfl dX7_targetOf_126 rfl ?_
  refine AW.iconst (v := 2) (pc' := 129) X rfl dX7_targetOf_128 rfl ?_
  refine AW.iload_n (k0 := 1) (pc' := 130) X rfl rfl dX7_targetOf_129 rfl ?_
  refine AW.bipush (v := (-6)) (pc' := 132) X rfl dX7_targetOf_130 rfl ?_
  refine AW.icmp_ne (pc' := 135) (tgt := 139) X dX7_targetOf_132 rfl rfl (fun q1 => ?_) (fun q1 => ?_)
  · replace h := iten q1 h
    refine AW.iload_n (k0 := 1) (pc' := 140) X rfl rfl dX7_targetOf_139 rfl ?_
    refine AW.sub (ls' := []) [] rfl ?_
    exact ok_X7_targetOf_140 X hr h0 (rM1 h0) x2 2 18 R h
  · replace h := itep q1 h
    refine AW.iload_n (k0 := 2) (pc' := 136) X rfl rfl dX7_targetOf_135 rfl ?_
    refine AW.goto (pc' := 140) X dX7_targetOf_136 rfl ?_
    refine AW.sub (ls' := []) [] rfl ?_
    exact ok_X7_targetOf_140 X hr h0 (rM1 h0) x3 2 18 R h
set_option maxHeartbeats 4000000 in
set_option maxRecDepth 100000 in
theorem ok_X7_targetOf_235 {a0 : Nat} {M : MM} (X : CX p s m args meth c cX7_targetOf 8 RX7 D dA ad lo n A) (hr : meth.sig.returnType = (some .int)) (h0 : tMo lo n a0) : ∀ (s0 : Int32) (R : Int32), f_X7_targetOf_235 a0 M s0 = some R → AR p l e 0 0 s m args below meth c D dA ad lo n 8 A (some (.int R)) M 235 [] [.int s0] M := by
  intro s0 R h
  unfold f_X7_targetOf_235 at h
  replace h := Option.some.inj h
  subst h
  exact AW.iret X hr dX7_targetOf_235
set_option maxHeartbeats 4000000 in
set_option maxRecDepth 100000 in
theorem ok_X7_targetOf_9 {a0 : Nat} {M : MM} (X : CX p s m args meth c cX7_targetOf 8 RX7 D dA ad lo n A) (hr : meth.sig.returnType = (some .int)) (h0 : tMo lo n a0) : ∀ (k : Nat) (x1 : Int32) (x2 : Int32) (x3 : Int32) (x4 : Int32) (R : Int32), f_X7_targetOf_9 a0 M k x1 x2 x3 x4 = some R → AR p l e 0 0 s m args below meth c D dA ad lo n 8 A (some (.int R)) M 9 [(0, .ref a0), (1, .int x1), (2, .int x2), (3, .int x3), (4, .int x4)] [] M := by
  intro k
  induction k with
  | zero => intro _ _ _ _ R h; exact none_some h
  | succ k ih =>
    intro x1 x2 x3 x4 R h
    unfold f_X7_targetOf_9 at h
    refine AW.iload (k0 := 4) (pc' := 11) X rfl dX7_targetOf_9 rfl ?_
    refine AW.aload_n (k0 := 0) (pc' := 12) X rfl rfl dX7_targetOf_11 rfl ?_
    refine AW.gX7 (v := .ref (a0 + 1)) (pc' := 15) X h0 0 (by decide) rfl mf_X7_7 rfl dX7_targetOf_12 rfl ?_
    refine AW.iconst (v := 4) (pc' := 16) X rfl dX7_targetOf_15 rfl ?_
    obtain ⟨g1, h⟩ := gd_some h
    refine AW.iald (pc' := 17) X (rM1 h0) (inb_vp g1) dX7_targetOf_16 rfl ?_
    refine AW.icmp_ge (pc' := 20) (tgt := 110) X dX7_targetOf_17 rfl rfl (fun q2 => ?_) (fun q2 => ?_)
    · replace h := itep q2 h
      refine AW.iload_n (k0 := 2) (pc' := 111) X rfl rfl dX7_targetOf_110 rfl ?_
      refine AW.bipush (v := (-6)) (pc' := 113) X rfl dX7_targetOf_111 rfl ?_
      refine AW.icmp_eq (pc' := 116) (tgt := 122) X dX7_targetOf_113 rfl rfl (fun q3 => ?_) (fun q3 => ?_)
      · replace h := itep q3 h
        refine AW.sub (ls' := [(0, .ref a0), (2, .int x2), (3, .int x3)]) [0, 2, 3] rfl ?_
        exact ok_X7_targetOf_122 X hr h0 x2 x3 R h
      · replace h := iten q3 h
        refine AW.iload_n (k0 := 3) (pc' := 117) X rfl rfl dX7_targetOf_116 rfl ?_
        refine AW.bipush (v := (-6)) (pc' := 119) X rfl dX7_targetOf_117 rfl ?_
        refine AW.icmp_ne (pc' := 122) (tgt := 146) X dX7_targetOf_119 rfl rfl (fun q4 => ?_) (fun q4 => ?_)
        · replace h := iten q4 h
          refine AW.aload_n (k0 := 0) (pc' := 147) X rfl rfl dX7_targetOf_146 rfl ?_
          refine AW.gX7 (v := .ref (a0 + 1)) (pc' := 150) X h0 0 (by decide) rfl mf_X7_7 rfl dX7_targetOf_147 rfl ?_
          refine AW.bipush (v := 18) (pc' := 152) X rfl dX7_targetOf_150 rfl ?_
          refine AW.iconst (v := 2) (pc' := 153) X rfl dX7_targetOf_152 rfl ?_
          refine AW.iload_n (k0 := 2) (pc' := 154) X rfl rfl dX7_targetOf_153 rfl ?_
          refine AW.imul (pc' := 155) X dX7_targetOf_154 rfl ?_
          refine AW.iadd (pc' := 156) X dX7_targetOf_155 rfl ?_
          obtain ⟨g5, h⟩ := gd_some h
          refine AW.iald (pc' := 157) X (rM1 h0) (inb_vp g5) dX7_targetOf_156 rfl ?_
          refine AW.istore (ls' := [(4, .int (M (a0 + 1) (ix (18 + (2 * x2))))), (0, .ref a0), (1, .int x1), (2, .int x2), (3, .int x3)]) (pc' := 159) X (by decide) rfl dX7_targetOf_157 rfl ?_
          refine AW.aload_n (k0 := 1) (pc' := 160) X rfl rfl dX7_targetOf_159 rfl ?_
          refine AW.gX7 (v := .ref (a0 + 1)) (pc' := 163) X h0 0 (by decide) rfl mf_X7_7 rfl dX7_targetOf_160 rfl ?_
          refine AW.bipush (v := 18) (pc' := 165) X rfl dX7_targetOf_163 rfl ?_
          refine AW.iconst (v := 2) (pc' := 166) X rfl dX7_targetOf_165 rfl ?_
          refine AW.iload_n (k0 := 4) (pc' := 167) X rfl rfl dX7_targetOf_166 rfl ?_
          refine AW.imul (pc' := 168) X dX7_targetOf_167 rfl ?_
          refine AW.iadd (pc' := 169) X dX7_targetOf_168 rfl ?_
          obtain ⟨g6, h⟩ := gd_some h
          refine AW.iald (pc' := 170) X (rM1 h0) (inb_vp g6) dX7_targetOf_169 rfl ?_
          refine AW.istore (ls' := [(5, .int (M (a0 + 1) (ix (18 + (2 * x3))))), (4, .int (M (a0 + 1) (ix (18 + (2 * x2))))), (0, .ref a0), (1, .int x1), (2, .int x2), (3, .int x3)]) (pc' := 172) X (by decide) rfl dX7_targetOf_170 rfl ?_
          refine AW.aload_n (k0 := 2) (pc' := 173) X rfl rfl dX7_targetOf_172 rfl ?_
          refine AW.gX7 (v := .ref (a0 + 1)) (pc' := 176) X h0 0 (by decide) rfl mf_X7_7 rfl dX7_targetOf_173 rfl ?_
          refine AW.bipush (v := 18) (pc' := 178) X rfl dX7_targetOf_176 rfl ?_
          refine AW.iconst (v := 2) (pc' := 179) X rfl dX7_targetOf_178 rfl ?_
          refine AW.iload_n (k0 := 4) (pc' := 180) X rfl rfl dX7_targetOf_179 rfl ?_
          refine AW.imul (pc' := 181) X dX7_targetOf_180 rfl ?_
          refine AW.iadd (pc' := 182) X dX7_targetOf_181 rfl ?_
          refine AW.iconst (v := 1) (pc' := 183) X rfl dX7_targetOf_182 rfl ?_
          refine AW.iadd (pc' := 184) X dX7_targetOf_183 rfl ?_
          obtain ⟨g7, h⟩ := gd_some h
          refine AW.iald (pc' := 185) X (rM1 h0) (inb_vp g7) dX7_targetOf_184 rfl ?_
          refine AW.istore (ls' := [(6, .int (M (a0 + 1) (ix ((18 + (2 * x2)) + 1)))), (5, .int (M (a0 + 1) (ix (18 + (2 * x3))))), (4, .int (M (a0 + 1) (ix (18 + (2 * x2))))), (0, .ref a0), (1, .int x1), (2, .int x2), (3, .int x3)]) (pc' := 187) X (by decide) rfl dX7_targetOf_185 rfl ?_
          refine AW.aload_n (k0 := 3) (pc' := 188) X rfl rfl dX7_targetOf_187 rfl ?_
          refine AW.gX7 (v := .ref (a0 + 1)) (pc' := 191) X h0 0 (by decide) rfl mf_X7_7 rfl dX7_targetOf_188 rfl ?_
          refine AW.bipush (v := 18) (pc' := 193) X rfl dX7_targetOf_191 rfl ?_
          refine AW.iconst (v := 2) (pc' := 194) X rfl dX7_targetOf_193 rfl ?_
          refine AW.iload_n (k0 := 6) (pc' := 195) X rfl rfl dX7_targetOf_194 rfl ?_
          refine AW.imul (pc' := 196) X dX7_targetOf_195 rfl ?_
          refine AW.iadd (pc' := 197) X dX7_targetOf_196 rfl ?_
          refine AW.iconst (v := 1) (pc' := 198) X rfl dX7_targetOf_197 rfl ?_
          refine AW.iadd (pc' := 199) X dX7_targetOf_198 rfl ?_
          obtain ⟨g8, h⟩ := gd_some h
          refine AW.iald (pc' := 200) X (rM1 h0) (inb_vp g8) dX7_targetOf_199 rfl ?_
          refine AW.istore (ls' := [(7, .int (M (a0 + 1) (ix ((18 + (2 * x3)) + 1)))), (6, .int (M (a0 + 1) (ix ((18 + (2 * x2)) + 1)))), (5, .int (M (a0 + 1) (ix (18 + (2 * x3))))), (4, .int (M (a0 + 1) (ix (18 + (2 * x2))))), (0, .ref a0), (1, .int x1), (2, .int x2), (3, .int x3)]) (pc' := 202) X (by decide) rfl dX7_targetOf_200 rfl ?_
          refine AW.iload (k0 := 3) (pc' := 204) X rfl dX7_targetOf_202 rfl ?_
          refine AW.iload (k0 := 2) (pc' := 206) X rfl dX7_targetOf_204 rfl ?_
          refine AW.icmp_ne (pc' := 209) (tgt := 214) X dX7_targetOf_206 rfl rfl (fun q9 => ?_) (fun q9 => ?_)
          · replace h := iten q9 h
            refine AW.iload (k0 := 1) (pc' := 216) X rfl dX7_targetOf_214 rfl ?_
            refine AW.iload (k0 := 2) (pc' := 218) X rfl dX7_targetOf_216 rfl ?_
            refine AW.iload_n (k0 := 5) (pc' := 219) X rfl rfl dX7_targetOf_218 rfl ?_
            refine AW.isub (pc' := 220) X dX7_targetOf_219 rfl ?_
            refine AW.imul (pc' := 221) X dX7_targetOf_220 rfl ?_
            refine AW.iload (k0 := 0) (pc' := 223) X rfl dX7_targetOf_221 rfl ?_
            refine AW.iload_n (k0 := 5) (pc' := 224) X rfl rfl dX7_targetOf_223 rfl ?_
            refine AW.iload (k0 := 3) (pc' := 226) X rfl dX7_targetOf_224 rfl ?_
            refine AW.isub (pc' := 227) X dX7_targetOf_226 rfl ?_
            refine AW.imul (pc' := 228) X dX7_targetOf_227 rfl ?_
            refine AW.iadd (pc' := 229) X dX7_targetOf_228 rfl ?_
            refine AW.iload (k0 := 2) (pc' := 231) X rfl dX7_targetOf_229 rfl ?_
            refine AW.iload (k0 := 3) (pc' := 233) X rfl dX7_targetOf_231 rfl ?_
            refine AW.isub (pc' := 234) X dX7_targetOf_233 rfl ?_
            obtain ⟨g10, h⟩ := gd_some h
            refine AW.idiv (pc' := 235) X (nz_ne g10) dX7_targetOf_234 rfl ?_
            refine AW.sub (ls' := []) [] rfl ?_
            exact ok_X7_targetOf_235 X hr h0 ((((M (a0 + 1) (ix ((18 + (2 * x2)) + 1))) * ((M (a0 + 1) (ix (18 + (2 * x3)))) - x1)) + ((M (a0 + 1) (ix ((18 + (2 * x3)) + 1))) * (x1 - (M (a0 + 1) (ix (18 + (2 * x2))))))) / ((M (a0 + 1) (ix (18 + (2 * x3)))) - (M (a0 + 1) (ix (18 + (2 * x2)))))) R h
          · replace h := itep q9 h
            refine AW.iload (k0 := 1) (pc' := 211) X rfl dX7_targetOf_209 rfl ?_
            refine AW.goto (pc' := 235) X dX7_targetOf_211 rfl ?_
            refine AW.sub (ls' := []) [] rfl ?_
            exact ok_X7_targetOf_235 X hr h0 (M (a0 + 1) (ix ((18 + (2 * x2)) + 1))) R h
        · replace h := itep q4 h
          refine AW.sub (ls' := [(0, .ref a0), (2, .int x2), (3, .int x3)]) [0, 2, 3] rfl ?_
          exact ok_X7_targetOf_122 X hr h0 x2 x3 R h
    · replace h := iten q2 h
      refine AW.aload_n (k0 := 0) (pc' := 21) X rfl rfl dX7_targetOf_20 rfl ?_
      refine AW.gX7 (v := .ref (a0 + 1)) (pc' := 24) X h0 0 (by decide) rfl mf_X7_7 rfl dX7_targetOf_21 rfl ?_
      refine AW.bipush (v := 18) (pc' := 26) X rfl dX7_targetOf_24 rfl ?_
      refine AW.iconst (v := 2) (pc' := 27) X rfl dX7_targetOf_26 rfl ?_
      refine AW.iload (k0 := 4) (pc' := 29) X rfl dX7_targetOf_27 rfl ?_
      refine AW.imul (pc' := 30) X dX7_targetOf_29 rfl ?_
      refine AW.iadd (pc' := 31) X dX7_targetOf_30 rfl ?_
      obtain ⟨g11, h⟩ := gd_some h
      refine AW.iald (pc' := 32) X (rM1 h0) (inb_vp g11) dX7_targetOf_31 rfl ?_
      refine AW.istore (ls' := [(5, .int (M (a0 + 1) (ix (18 + (2 * x4))))), (0, .ref a0), (1, .int x1), (2, .int x2), (3, .int x3), (4, .int x4)]) (pc' := 34) X (by decide) rfl dX7_targetOf_32 rfl ?_
      refine AW.iload (k0 := 0) (pc' := 36) X rfl dX7_targetOf_34 rfl ?_
      refine AW.iload_n (k0 := 2) (pc' := 37) X rfl rfl dX7_targetOf_36 rfl ?_
      refine AW.icmp_gt (pc' := 40) (tgt := 67) X dX7_targetOf_37 rfl rfl (fun q12 => ?_) (fun q12 => ?_)
      · replace h := itep q12 h
        refine AW.sub (ls' := [(0, .ref a0), (1, .int x1), (2, .int x2), (3, .int x3), (4, .int x4), (5, .int (M (a0 + 1) (ix (18 + (2 * x4)))))]) [1, 2, 3, 4, 5, 0] rfl ?_
        exact ok_X7_targetOf_67 X hr h0 ih x1 x2 x3 x4 (M (a0 + 1) (ix (18 + (2 * x4)))) R h
      · replace h := iten q12 h
        refine AW.iload_n (k0 := 3) (pc' := 41) X rfl rfl dX7_targetOf_40 rfl ?_
        refine AW.bipush (v := (-6)) (pc' := 43) X rfl dX7_targetOf_41 rfl ?_
        refine AW.icmp_eq (pc' := 46) (tgt := 62) X dX7_targetOf_43 rfl rfl (fun q13 => ?_) (fun q13 => ?_)
        · replace h := itep q13 h
          refine AW.sub (ls' := [(0, .ref a0), (1, .int x1), (3, .int x3), (4, .int x4), (5, .int (M (a0 + 1) (ix (18 + (2 * x4)))))]) [1, 2, 4, 5, 0] rfl ?_
          exact ok_X7_targetOf_62 X hr h0 ih x1 x3 x4 (M (a0 + 1) (ix (18 + (2 * x4)))) R h
        · replace h := iten q13 h
          refine AW.iload (k0 := 0) (pc' := 48) X rfl dX7_targetOf_46 rfl ?_
          refine AW.aload_n (k0 := 1) (pc' := 49) X rfl rfl dX7_targetOf_48 rfl ?_
          refine AW.gX7 (v := .ref (a0 + 1)) (pc' := 52) X h0 0 (by decide) rfl mf_X7_7 rfl dX7_targetOf_49 rfl ?_
          refine AW.bipush (v := 18) (pc' := 54) X rfl dX7_targetOf_52 rfl ?_
          refine AW.iconst (v := 2) (pc' := 55) X rfl dX7_targetOf_54 rfl ?_
          refine AW.iload_n (k0 := 3) (pc' := 56) X rfl rfl dX7_targetOf_55 rfl ?_
          refine AW.imul (pc' := 57) X dX7_targetOf_56 rfl ?_
          refine AW.iadd (pc' := 58) X dX7_targetOf_57 rfl ?_
          obtain ⟨g14, h⟩ := gd_some h
          refine AW.iald (pc' := 59) X (rM1 h0) (inb_vp g14) dX7_targetOf_58 rfl ?_
          refine AW.icmp_le (pc' := 62) (tgt := 67) X dX7_targetOf_59 rfl rfl (fun q15 => ?_) (fun q15 => ?_)
          · replace h := itep q15 h
            refine AW.sub (ls' := [(0, .ref a0), (1, .int x1), (2, .int x2), (3, .int x3), (4, .int x4), (5, .int (M (a0 + 1) (ix (18 + (2 * x4)))))]) [1, 2, 3, 4, 5, 0] rfl ?_
            exact ok_X7_targetOf_67 X hr h0 ih x1 x2 x3 x4 (M (a0 + 1) (ix (18 + (2 * x4)))) R h
          · replace h := iten q15 h
            refine AW.sub (ls' := [(0, .ref a0), (1, .int x1), (3, .int x3), (4, .int x4), (5, .int (M (a0 + 1) (ix (18 + (2 * x4)))))]) [1, 2, 4, 5, 0] rfl ?_
            exact ok_X7_targetOf_62 X hr h0 ih x1 x3 x4 (M (a0 + 1) (ix (18 + (2 * x4)))) R h
set_option maxHeartbeats 4000000 in
set_option maxRecDepth 100000 in
theorem ok_X7_targetOf {lo n : Nat} {a0 : Nat} {x1 : Int32} {M : MM} {R : Int32} (h0 : tMo lo n a0) (h : f_X7_targetOf a0 x1 M = some R) : MC yX7_targetOf cX7_targetOf 8 (some .int) 0 0 lo n [.ref a0, .int x1] M (some (.int R)) M := by
  refine MC.of (ls0 := [(0, .ref a0), (1, .int x1)]) (by decide) rfl (fun _ => Nat.le_of_ble_eq_true rfl) (fun p l e s m args below meth c D dA ad A X hr => ?_)
  replace X : CX p s m args meth c cX7_targetOf 8 RX7 D dA ad lo n A := X
  unfold f_X7_targetOf at h
  refine AW.bipush (v := (-6)) (pc' := 2) X rfl dX7_targetOf_0 rfl ?_
  refine AW.istore_n (ls' := [(2, .int (-6)), (0, .ref a0), (1, .int x1)]) (pc' := 3) X rfl (by decide) rfl dX7_targetOf_2 rfl ?_
  refine AW.bipush (v := (-6)) (pc' := 5) X rfl dX7_targetOf_3 rfl ?_
  refine AW.istore_n (ls' := [(3, .int (-6)), (2, .int (-6)), (0, .ref a0), (1, .int x1)]) (pc' := 6) X rfl (by decide) rfl dX7_targetOf_5 rfl ?_
  refine AW.iconst (v := 0) (pc' := 7) X rfl dX7_targetOf_6 rfl ?_
  refine AW.istore (ls' := [(4, .int 0), (3, .int (-6)), (2, .int (-6)), (0, .ref a0), (1, .int x1)]) (pc' := 9) X (by decide) rfl dX7_targetOf_7 rfl ?_
  refine AW.sub (ls' := [(0, .ref a0), (1, .int x1), (2, .int (-6)), (3, .int (-6)), (4, .int 0)]) [3, 4, 2, 1, 0] rfl ?_
  exact ok_X7_targetOf_9 X hr h0 FU x1 (-6) (-6) 0 R h
set_option maxHeartbeats 4000000 in
set_option maxRecDepth 100000 in
theorem ok_X7_limitOf_89 {a0 : Nat} {M : MM} (X : CX p s m args meth c cX7_limitOf 7 RX7 D dA ad lo n A) (hr : meth.sig.returnType = (some .int)) (h0 : tMo lo n a0) {rec6 : Int32 → Int32 → Int32 → Int32 → Option Int32} (hrec6 : ∀ (x1 : Int32) (x2 : Int32) (x3 : Int32) (x4 : Int32) (R : Int32), rec6 x1 x2 x3 x4 = some R → AR p l e 1 22 s m args below meth c D dA ad lo n 7 A (some (.int R)) M 6 [(0, .ref a0), (1, .int x1), (2, .int x2), (3, .int x3), (4, .int x4)] [] M) : ∀ (x1 : Int32) (x2 : Int32) (x4 : Int32) (s0 : Int32) (R : Int32), f_X7_limitOf_89 a0 M rec6 x1 x2 x4 s0 = some R → AR p l e 1 22 s m args below meth c D dA ad lo n 7 A (some (.int R)) M 89 [(0, .ref a0), (1, .int x1), (2, .int x2), (4, .int x4)] [.int s0] M := by
  intro x1 x2 x4 s0 R h
  unfold f_X7_limitOf_89 at h
  refine AW.istore_n (ls' := [(3, .int s0), (0, .ref a0), (1, .int x1), (2, .int x2), (4, .int x4)]) (pc' := 90) X rfl (by decide) rfl dX7_limitOf_89 rfl ?_
  refine AW.iinc (k0 := 4) (v := (x4 + 1)) (y := 1) (ls' := [(4, .int (x4 + 1)), (3, .int s0), (0, .ref a0), (1, .int x1), (2, .int x2)]) (pc' := 93) X rfl rfl rfl (by decide) rfl dX7_limitOf_90 rfl ?_
  refine AW.goto (pc' := 6) X dX7_limitOf_93 rfl ?_
  refine AW.sub (ls' := [(0, .ref a0), (1, .int x1), (2, .int x2), (3, .int s0), (4, .int (x4 + 1))]) [2, 3, 4, 1, 0] rfl ?_
  exact hrec6 x1 x2 s0 (x4 + 1) R h
set_option maxHeartbeats 4000000 in
set_option maxRecDepth 100000 in
theorem ok_X7_limitOf_83 {a0 : Nat} {M : MM} (X : CX p s m args meth c cX7_limitOf 7 RX7 D dA ad lo n A) (hr : meth.sig.returnType = (some .int)) (h0 : tMo lo n a0) {rec6 : Int32 → Int32 → Int32 → Int32 → Option Int32} (hrec6 : ∀ (x1 : Int32) (x2 : Int32) (x3 : Int32) (x4 : Int32) (R : Int32), rec6 x1 x2 x3 x4 = some R → AR p l e 1 22 s m args below meth c D dA ad lo n 7 A (some (.int R)) M 6 [(0, .ref a0), (1, .int x1), (2, .int x2), (3, .int x3), (4, .int x4)] [] M) : ∀ (x1 : Int32) (x2 : Int32) (x4 : Int32) (x6 : Int32) (R : Int32), f_X7_limitOf_83 a0 M rec6 x1 x2 x4 x6 = some R → AR p l e 1 22 s m args below meth c D dA ad lo n 7 A (some (.int R)) M 83 [(0, .ref a0), (1, .int x1), (2, .int x2), (4, .int x4), (6, .int x6)] [] M := by
  intro x1 x2 x4 x6 R h
  unfold f_X7_limitOf_83 at h
  refine AW.iload (k0 := 4) (pc' := 85) X rfl dX7_limitOf_83 rfl ?_
  refine AW.goto (pc' := 89) X dX7_limitOf_85 rfl ?_
  refine AW.sub (ls' := [(0, .ref a0), (1, .int x1), (2, .int x2), (4, .int x4)]) [0, 1, 2, 3] rfl ?_
  exact ok_X7_limitOf_89 X hr h0 hrec6 x1 x2 x4 x6 R h
set_option maxHeartbeats 4000000 in
set_option maxRecDepth 100000 in
theorem ok_X7_limitOf_88 {a0 : Nat} {M : MM} (X : CX p s m args meth c cX7_limitOf 7 RX7 D dA ad lo n A) (hr : meth.sig.returnType = (some .int)) (h0 : tMo lo n a0) {rec6 : Int32 → Int32 → Int32 → Int32 → Option Int32} (hrec6 : ∀ (x1 : Int32) (x2 : Int32) (x3 : Int32) (x4 : Int32) (R : Int32), rec6 x1 x2 x3 x4 = some R → AR p l e 1 22 s m args below meth c D dA ad lo n 7 A (some (.int R)) M 6 [(0, .ref a0), (1, .int x1), (2, .int x2), (3, .int x3), (4, .int x4)] [] M) : ∀ (x1 : Int32) (x2 : Int32) (x3 : Int32) (x4 : Int32) (R : Int32), f_X7_limitOf_88 a0 M rec6 x1 x2 x3 x4 = some R → AR p l e 1 22 s m args below meth c D dA ad lo n 7 A (some (.int R)) M 88 [(0, .ref a0), (1, .int x1), (2, .int x2), (3, .int x3), (4, .int x4)] [] M := by
  intro x1 x2 x3 x4 R h
  unfold f_X7_limitOf_88 at h
  refine AW.iload_n (k0 := 3) (pc' := 89) X rfl rfl dX7_limitOf_88 rfl ?_
  refine AW.sub (ls' := [(0, .ref a0), (1, .int x1), (2, .int x2), (4, .int x4)]) [0, 1, 2, 4] rfl ?_
  exact ok_X7_limitOf_89 X hr h0 hrec6 x1 x2 x4 x3 R h
set_option maxHeartbeats 4000000 in
set_option maxRecDepth 100000 in
theorem ok_X7_limitOf_6 {a0 : Nat} {M : MM} (X : CX p s m args meth c cX7_limitOf 7 RX7 D dA ad lo n A) (hr : meth.sig.returnType = (some .int)) (h0 : tMo lo n a0) : ∀ (k : Nat) (x1 : Int32) (x2 : Int32) (x3 : Int32) (x4 : Int32) (R : Int32), f_X7_limitOf_6 a0 M k x1 x2 x3 x4 = some R → AR p l e 1 22 s m args below meth c D dA ad lo n 7 A (some (.int R)) M 6 [(0, .ref a0), (1, .int x1), (2, .int x2), (3, .int x3), (4, .int x4)] [] M := by
  intro k
  induction k with
  | zero => intro _ _ _ _ R h; exact none_some h
  | succ k ih =>
    intro x1 x2 x3 x4 R h
    unfold f_X7_limitOf_6 at h
    refine AW.iload (k0 := 4) (pc' := 8) X rfl dX7_limitOf_6 rfl ?_
    refine AW.aload_n (k0 := 0) (pc' := 9) X rfl rfl dX7_limitOf_8 rfl ?_
    refine AW.iload_n (k0 := 1) (pc' := 10) X rfl rfl dX7_limitOf_9 rfl ?_
    refine AW.bipush (v := 12) (pc' := 12) X rfl dX7_limitOf_10 rfl ?_
    obtain ⟨v1, c1, h⟩ := Option.bind_eq_some_iff.mp h
    refine AW.callV (As := [.int x1, .int 12]) (rest := [.int x4]) (rv := (some (.int v1))) (M' := M) (pc' := 15) X (ok_X7_ofChannel h0 c1) yv_X7_ofChannel h0.1 h0.2.1 (cM h0 dA ad _) rfl rfl ml_X7_65 ⟨by decide, by decide, by decide, by decide⟩ rfl (Nat.le_of_ble_eq_true rfl) rfl rfl dX7_limitOf_12 rfl ?_
    refine AW.icmp_ge (pc' := 18) (tgt := 96) X dX7_limitOf_15 rfl rfl (fun q2 => ?_) (fun q2 => ?_)
    · replace h := itep q2 h
      refine AW.iload_n (k0 := 3) (pc' := 97) X rfl rfl dX7_limitOf_96 rfl ?_
      replace h := Option.some.inj h
      subst h
      exact AW.iret X hr dX7_limitOf_97
    · replace h := iten q2 h
      refine AW.iload_n (k0 := 2) (pc' := 19) X rfl rfl dX7_limitOf_18 rfl ?_
      refine AW.aload_n (k0 := 0) (pc' := 20) X rfl rfl dX7_limitOf_19 rfl ?_
      refine AW.iload_n (k0 := 1) (pc' := 21) X rfl rfl dX7_limitOf_20 rfl ?_
      refine AW.bipush (v := 13) (pc' := 23) X rfl dX7_limitOf_21 rfl ?_
      refine AW.iconst (v := 3) (pc' := 24) X rfl dX7_limitOf_23 rfl ?_
      refine AW.iload (k0 := 4) (pc' := 26) X rfl dX7_limitOf_24 rfl ?_
      refine AW.imul (pc' := 27) X dX7_limitOf_26 rfl ?_
      refine AW.iadd (pc' := 28) X dX7_limitOf_27 rfl ?_
      obtain ⟨v3, c3, h⟩ := Option.bind_eq_some_iff.mp h
      refine AW.callV (As := [.int x1, .int (13 + (3 * x4))]) (rest := [.int x2]) (rv := (some (.int v3))) (M' := M) (pc' := 31) X (ok_X7_ofChannel h0 c3) yv_X7_ofChannel h0.1 h0.2.1 (cM h0 dA ad _) rfl rfl ml_X7_65 ⟨by decide, by decide, by decide, by decide⟩ rfl (Nat.le_of_ble_eq_true rfl) rfl rfl dX7_limitOf_28 rfl ?_
      refine AW.aload_n (k0 := 0) (pc' := 32) X rfl rfl dX7_limitOf_31 rfl ?_
      refine AW.iload_n (k0 := 1) (pc' := 33) X rfl rfl dX7_limitOf_32 rfl ?_
      refine AW.bipush (v := 13) (pc' := 35) X rfl dX7_limitOf_33 rfl ?_
      refine AW.iconst (v := 3) (pc' := 36) X rfl dX7_limitOf_35 rfl ?_
      refine AW.iload (k0 := 4) (pc' := 38) X rfl dX7_limitOf_36 rfl ?_
      refine AW.imul (pc' := 39) X dX7_limitOf_38 rfl ?_
      refine AW.iadd (pc' := 40) X dX7_limitOf_39 rfl ?_
      refine AW.iconst (v := 1) (pc' := 41) X rfl dX7_limitOf_40 rfl ?_
      refine AW.iadd (pc' := 42) X dX7_limitOf_41 rfl ?_
      obtain ⟨v4, c4, h⟩ := Option.bind_eq_some_iff.mp h
      refine AW.callV (As := [.int x1, .int ((13 + (3 * x4)) + 1)]) (rest := [.int v3, .int x2]) (rv := (some (.int v4))) (M' := M) (pc' := 45) X (ok_X7_ofChannel h0 c4) yv_X7_ofChannel h0.1 h0.2.1 (cM h0 dA ad _) rfl rfl ml_X7_65 ⟨by decide, by decide, by decide, by decide⟩ rfl (Nat.le_of_ble_eq_true rfl) rfl rfl dX7_limitOf_42 rfl ?_
      obtain ⟨v5, c5, h⟩ := Option.bind_eq_some_iff.mp h
      refine AW.callS (As := [.int x2, .int v3, .int v4]) (rest := []) (rv := (some (.int (bz v5)))) (M' := M) (pc' := 48) X (ok_X7_in c5) yv_X7_in ml_X7_41 ⟨by decide, by decide, by decide, by decide⟩ rfl (Nat.le_of_ble_eq_true rfl) rfl rfl dX7_limitOf_45 rfl ?_
      refine AW.istore (ls' := [(5, .int (bz v5)), (0, .ref a0), (1, .int x1), (2, .int x2), (3, .int x3), (4, .int x4)]) (pc' := 50) X (by decide) rfl dX7_limitOf_48 rfl ?_
      refine AW.aload_n (k0 := 1) (pc' := 51) X rfl rfl dX7_limitOf_50 rfl ?_
      refine AW.iload_n (k0 := 2) (pc' := 52) X rfl rfl dX7_limitOf_51 rfl ?_
      refine AW.bipush (v := 13) (pc' := 54) X rfl dX7_limitOf_52 rfl ?_
      refine AW.iconst (v := 3) (pc' := 55) X rfl dX7_limitOf_54 rfl ?_
      refine AW.iload (k0 := 5) (pc' := 57) X rfl dX7_limitOf_55 rfl ?_
      refine AW.imul (pc' := 58) X dX7_limitOf_57 rfl ?_
      refine AW.iadd (pc' := 59) X dX7_limitOf_58 rfl ?_
      refine AW.iconst (v := 2) (pc' := 60) X rfl dX7_limitOf_59 rfl ?_
      refine AW.iadd (pc' := 61) X dX7_limitOf_60 rfl ?_
      obtain ⟨v6, c6, h⟩ := Option.bind_eq_some_iff.mp h
      refine AW.callV (As := [.int x1, .int ((13 + (3 * x4)) + 2)]) (rest := []) (rv := (some (.int v6))) (M' := M) (pc' := 64) X (ok_X7_ofChannel h0 c6) yv_X7_ofChannel h0.1 h0.2.1 (cM h0 dA ad _) rfl rfl ml_X7_65 ⟨by decide, by decide, by decide, by decide⟩ rfl (Nat.le_of_ble_eq_true rfl) rfl rfl dX7_limitOf_61 rfl ?_
      refine AW.istore (ls' := [(6, .int v6), (5, .int (bz v5)), (0, .ref a0), (1, .int x1), (2, .int x2), (3, .int x3), (4, .int x4)]) (pc' := 66) X (by decide) rfl dX7_limitOf_64 rfl ?_
      refine AW.iload (k0 := 1) (pc' := 68) X rfl dX7_limitOf_66 rfl ?_
      refine AW.if_eq (pc' := 71) (tgt := 88) X dX7_limitOf_68 rfl rfl (fun q7 => ?_) (fun q7 => ?_)
      · replace h := itep q7 h
        refine AW.sub (ls' := [(0, .ref a0), (1, .int x1), (2, .int x2), (3, .int x3), (4, .int x4)]) [2, 3, 4, 5, 6] rfl ?_
        exact ok_X7_limitOf_88 X hr h0 ih x1 x2 x3 x4 R h
      · replace h := iten q7 h
        refine AW.iload_n (k0 := 5) (pc' := 72) X rfl rfl dX7_limitOf_71 rfl ?_
        refine AW.bipush (v := (-6)) (pc' := 74) X rfl dX7_limitOf_72 rfl ?_
        refine AW.icmp_eq (pc' := 77) (tgt := 83) X dX7_limitOf_74 rfl rfl (fun q8 => ?_) (fun q8 => ?_)
        · replace h := itep q8 h
          refine AW.sub (ls' := [(0, .ref a0), (1, .int x1), (2, .int x2), (4, .int x4), (6, .int v6)]) [2, 3, 4, 6, 0] rfl ?_
          exact ok_X7_limitOf_83 X hr h0 ih x1 x2 x4 v6 R h
        · replace h := iten q8 h
          refine AW.iload (k0 := 0) (pc' := 79) X rfl dX7_limitOf_77 rfl ?_
          refine AW.iload_n (k0 := 5) (pc' := 80) X rfl rfl dX7_limitOf_79 rfl ?_
          refine AW.icmp_ge (pc' := 83) (tgt := 88) X dX7_limitOf_80 rfl rfl (fun q9 => ?_) (fun q9 => ?_)
          · replace h := itep q9 h
            refine AW.sub (ls' := [(0, .ref a0), (1, .int x1), (2, .int x2), (3, .int x3), (4, .int x4)]) [2, 3, 4, 5, 6] rfl ?_
            exact ok_X7_limitOf_88 X hr h0 ih x1 x2 x3 x4 R h
          · replace h := iten q9 h
            refine AW.sub (ls' := [(0, .ref a0), (1, .int x1), (2, .int x2), (4, .int x4), (6, .int v6)]) [2, 3, 4, 6, 0] rfl ?_
            exact ok_X7_limitOf_83 X hr h0 ih x1 x2 x4 v6 R h
set_option maxHeartbeats 4000000 in
set_option maxRecDepth 100000 in
theorem ok_X7_limitOf {lo n : Nat} {a0 : Nat} {x1 : Int32} {x2 : Int32} {M : MM} {R : Int32} (h0 : tMo lo n a0) (h : f_X7_limitOf a0 x1 x2 M = some R) : MC yX7_limitOf cX7_limitOf 7 (some .int) 1 22 lo n [.ref a0, .int x1, .int x2] M (some (.int R)) M := by
  refine MC.of (ls0 := [(0, .ref a0), (1, .int x1), (2, .int x2)]) (by decide) rfl (fun _ => Nat.le_of_ble_eq_true rfl) (fun p l e s m args below meth c D dA ad A X hr => ?_)
  replace X : CX p s m args meth c cX7_limitOf 7 RX7 D dA ad lo n A := X
  unfold f_X7_limitOf at h
  refine AW.bipush (v := (-6)) (pc' := 2) X rfl dX7_limitOf_0 rfl ?_
  refine AW.istore_n (ls' := [(3, .int (-6)), (0, .ref a0), (1, .int x1), (2, .int x2)]) (pc' := 3) X rfl (by decide) rfl dX7_limitOf_2 rfl ?_
  refine AW.iconst (v := 0) (pc' := 4) X rfl dX7_limitOf_3 rfl ?_
  refine AW.istore (ls' := [(4, .int 0), (3, .int (-6)), (0, .ref a0), (1, .int x1), (2, .int x2)]) (pc' := 6) X (by decide) rfl dX7_limitOf_4 rfl ?_
  refine AW.sub (ls' := [(0, .ref a0), (1, .int x1), (2, .int x2), (3, .int (-6)), (4, .int 0)]) [2, 3, 4, 1, 0] rfl ?_
  exact ok_X7_limitOf_6 X hr h0 FU x1 x2 (-6) 0 R h
set_option maxHeartbeats 4000000 in
set_option maxRecDepth 100000 in
theorem ok_X7_refusal_33 {a0 : Nat} {M : MM} (X : CX p s m args meth c cX7_refusal 3 RX7 D dA ad lo n A) (hr : meth.sig.returnType = (some .int)) (h0 : tMo lo n a0) {rec4 : Bool → Int32 → Option Int32} (hrec4 : ∀ (b1 : Bool) (x2 : Int32) (R : Int32), rec4 b1 x2 = some R → AR p l e 1 22 s m args below meth c D dA ad lo n 3 A (some (.int R)) M 4 [(0, .ref a0), (1, .int (bz b1)), (2, .int x2)] [] M) : ∀ (x2 : Int32) (sb0 : Bool) (R : Int32), f_X7_refusal_33 a0 M rec4 x2 sb0 = some R → AR p l e 1 22 s m args below meth c D dA ad lo n 3 A (some (.int R)) M 33 [(0, .ref a0), (2, .int x2)] [.int (bz sb0)] M := by
  intro x2 sb0 R h
  unfold f_X7_refusal_33 at h
  refine AW.istore_n (ls' := [(1, .int (bz sb0)), (0, .ref a0), (2, .int x2)]) (pc' := 34) X rfl (by decide) rfl dX7_refusal_33 rfl ?_
  refine AW.iinc (k0 := 2) (v := (x2 + 1)) (y := 1) (ls' := [(2, .int (x2 + 1)), (1, .int (bz sb0)), (0, .ref a0)]) (pc' := 37) X rfl rfl rfl (by decide) rfl dX7_refusal_34 rfl ?_
  refine AW.goto (pc' := 4) X dX7_refusal_37 rfl ?_
  refine AW.sub (ls' := [(0, .ref a0), (1, .int (bz sb0)), (2, .int (x2 + 1))]) [2, 1, 0] rfl ?_
  exact hrec4 sb0 (x2 + 1) R h
set_option maxHeartbeats 4000000 in
set_option maxRecDepth 100000 in
theorem ok_X7_refusal_28 {a0 : Nat} {M : MM} (X : CX p s m args meth c cX7_refusal 3 RX7 D dA ad lo n A) (hr : meth.sig.returnType = (some .int)) (h0 : tMo lo n a0) {rec4 : Bool → Int32 → Option Int32} (hrec4 : ∀ (b1 : Bool) (x2 : Int32) (R : Int32), rec4 b1 x2 = some R → AR p l e 1 22 s m args below meth c D dA ad lo n 3 A (some (.int R)) M 4 [(0, .ref a0), (1, .int (bz b1)), (2, .int x2)] [] M) : ∀ (x2 : Int32) (R : Int32), f_X7_refusal_28 a0 M rec4 x2 = some R → AR p l e 1 22 s m args below meth c D dA ad lo n 3 A (some (.int R)) M 28 [(0, .ref a0), (2, .int x2)] [] M := by
  intro x2 R h
  unfold f_X7_refusal_28 at h
  refine AW.iconst (v := 1) (pc' := 29) X rfl dX7_refusal_28 rfl ?_
  refine AW.goto (pc' := 33) X dX7_refusal_29 rfl ?_
  exact ok_X7_refusal_33 X hr h0 hrec4 x2 true R h
set_option maxHeartbeats 4000000 in
set_option maxRecDepth 100000 in
theorem ok_X7_refusal_86 {a0 : Nat} {M : MM} (X : CX p s m args meth c cX7_refusal 3 RX7 D dA ad lo n A) (hr : meth.sig.returnType = (some .int)) (h0 : tMo lo n a0) : ∀ (s0 : Int32) (R : Int32), f_X7_refusal_86 a0 M s0 = some R → AR p l e 1 22 s m args below meth c D dA ad lo n 3 A (some (.int R)) M 86 [] [.int s0] M := by
  intro s0 R h
  unfold f_X7_refusal_86 at h
  replace h := Option.some.inj h
  subst h
  exact AW.iret X hr dX7_refusal_86
set_option maxHeartbeats 4000000 in
set_option maxRecDepth 100000 in
theorem ok_X7_refusal_4 {a0 : Nat} {M : MM} (X : CX p s m args meth c cX7_refusal 3 RX7 D dA ad lo n A) (hr : meth.sig.returnType = (some .int)) (h0 : tMo lo n a0) : ∀ (k : Nat) (b1 : Bool) (x2 : Int32) (R : Int32), f_X7_refusal_4 a0 M k b1 x2 = some R → AR p l e 1 22 s m args below meth c D dA ad lo n 3 A (some (.int R)) M 4 [(0, .ref a0), (1, .int (bz b1)), (2, .int x2)] [] M := by
  intro k
  induction k with
  | zero => intro _ _ R h; exact none_some h
  | succ k ih =>
    intro b1 x2 R h
    unfold f_X7_refusal_4 at h
    refine AW.iload_n (k0 := 2) (pc' := 5) X rfl rfl dX7_refusal_4 rfl ?_
    refine AW.aload_n (k0 := 0) (pc' := 6) X rfl rfl dX7_refusal_5 rfl ?_
    refine AW.gX7 (v := .ref (a0 + 1)) (pc' := 9) X h0 0 (by decide) rfl mf_X7_7 rfl dX7_refusal_6 rfl ?_
    refine AW.iconst (v := 5) (pc' := 10) X rfl dX7_refusal_9 rfl ?_
    obtain ⟨g1, h⟩ := gd_some h
    refine AW.iald (pc' := 11) X (rM1 h0) (inb_vp g1) dX7_refusal_10 rfl ?_
    refine AW.icmp_ge (pc' := 14) (tgt := 40) X dX7_refusal_11 rfl rfl (fun q2 => ?_) (fun q2 => ?_)
    · replace h := itep q2 h
      refine AW.aload_n (k0 := 0) (pc' := 41) X rfl rfl dX7_refusal_40 rfl ?_
      obtain ⟨v3, c3, h⟩ := Option.bind_eq_some_iff.mp h
      refine AW.callV (As := []) (rest := []) (rv := (some (.int (bz v3)))) (M' := M) (pc' := 44) X (ok_X7_rests h0 c3) yv_X7_rests h0.1 h0.2.1 (cM h0 dA ad _) rfl rfl ml_X7_45 ⟨by decide, by decide, by decide, by decide⟩ rfl (Nat.le_of_ble_eq_true rfl) rfl rfl dX7_refusal_41 rfl ?_
      refine AW.if_ne (pc' := 47) (tgt := 51) X dX7_refusal_44 rfl rfl (fun q4 => ?_) (fun q4 => ?_)
      · replace h := iten q4 h
        refine AW.aload_n (k0 := 0) (pc' := 52) X rfl rfl dX7_refusal_51 rfl ?_
        refine AW.gX7 (v := .ref (a0 + 1)) (pc' := 55) X h0 0 (by decide) rfl mf_X7_7 rfl dX7_refusal_52 rfl ?_
        refine AW.iconst (v := 0) (pc' := 56) X rfl dX7_refusal_55 rfl ?_
        obtain ⟨g5, h⟩ := gd_some h
        refine AW.iald (pc' := 57) X (rM1 h0) (inb_vp g5) dX7_refusal_56 rfl ?_
        refine AW.if_ne (pc' := 60) (tgt := 64) X dX7_refusal_57 rfl rfl (fun q6 => ?_) (fun q6 => ?_)
        · replace h := iten q6 h
          refine AW.aload_n (k0 := 0) (pc' := 65) X rfl rfl dX7_refusal_64 rfl ?_
          refine AW.gX7 (v := .ref (a0 + 1)) (pc' := 68) X h0 0 (by decide) rfl mf_X7_7 rfl dX7_refusal_65 rfl ?_
          refine AW.iconst (v := 4) (pc' := 69) X rfl dX7_refusal_68 rfl ?_
          obtain ⟨g7, h⟩ := gd_some h
          refine AW.iald (pc' := 70) X (rM1 h0) (inb_vp g7) dX7_refusal_69 rfl ?_
          refine AW.if_ne (pc' := 73) (tgt := 77) X dX7_refusal_70 rfl rfl (fun q8 => ?_) (fun q8 => ?_)
          · replace h := iten q8 h
            refine AW.iload_n (k0 := 1) (pc' := 78) X rfl rfl dX7_refusal_77 rfl ?_
            refine AW.if_eq (pc' := 81) (tgt := 85) X dX7_refusal_78 rfl rfl (fun q9 => ?_) (fun q9 => ?_)
            · replace h := itep q9 h
              refine AW.iconst (v := 4) (pc' := 86) X rfl dX7_refusal_85 rfl ?_
              refine AW.sub (ls' := []) [] rfl ?_
              exact ok_X7_refusal_86 X hr h0 4 R h
            · replace h := iten q9 h
              refine AW.iconst (v := 0) (pc' := 82) X rfl dX7_refusal_81 rfl ?_
              refine AW.goto (pc' := 86) X dX7_refusal_82 rfl ?_
              refine AW.sub (ls' := []) [] rfl ?_
              exact ok_X7_refusal_86 X hr h0 0 R h
          · replace h := itep q8 h
            refine AW.iconst (v := 3) (pc' := 74) X rfl dX7_refusal_73 rfl ?_
            refine AW.goto (pc' := 86) X dX7_refusal_74 rfl ?_
            refine AW.sub (ls' := []) [] rfl ?_
            exact ok_X7_refusal_86 X hr h0 3 R h
        · replace h := itep q6 h
          refine AW.iconst (v := 2) (pc' := 61) X rfl dX7_refusal_60 rfl ?_
          refine AW.goto (pc' := 86) X dX7_refusal_61 rfl ?_
          refine AW.sub (ls' := []) [] rfl ?_
          exact ok_X7_refusal_86 X hr h0 2 R h
      · replace h := itep q4 h
        refine AW.iconst (v := 1) (pc' := 48) X rfl dX7_refusal_47 rfl ?_
        refine AW.goto (pc' := 86) X dX7_refusal_48 rfl ?_
        refine AW.sub (ls' := []) [] rfl ?_
        exact ok_X7_refusal_86 X hr h0 1 R h
    · replace h := iten q2 h
      refine AW.iload_n (k0 := 1) (pc' := 15) X rfl rfl dX7_refusal_14 rfl ?_
      refine AW.if_ne (pc' := 18) (tgt := 28) X dX7_refusal_15 rfl rfl (fun q10 => ?_) (fun q10 => ?_)
      · replace h := iten q10 h
        refine AW.sub (ls' := [(0, .ref a0), (2, .int x2)]) [0, 2] rfl ?_
        exact ok_X7_refusal_28 X hr h0 ih x2 R h
      · replace h := itep q10 h
        refine AW.aload_n (k0 := 0) (pc' := 19) X rfl rfl dX7_refusal_18 rfl ?_
        refine AW.iload_n (k0 := 2) (pc' := 20) X rfl rfl dX7_refusal_19 rfl ?_
        refine AW.iconst (v := 0) (pc' := 21) X rfl dX7_refusal_20 rfl ?_
        obtain ⟨v11, c11, h⟩ := Option.bind_eq_some_iff.mp h
        refine AW.callV (As := [.int x2, .int 0]) (rest := []) (rv := (some (.int v11))) (M' := M) (pc' := 24) X (ok_X7_ofChannel h0 c11) yv_X7_ofChannel h0.1 h0.2.1 (cM h0 dA ad _) rfl rfl ml_X7_65 ⟨by decide, by decide, by decide, by decide⟩ rfl (Nat.le_of_ble_eq_true rfl) rfl rfl dX7_refusal_21 rfl ?_
        refine AW.iconst (v := 1) (pc' := 25) X rfl dX7_refusal_24 rfl ?_
        refine AW.icmp_ne (pc' := 28) (tgt := 32) X dX7_refusal_25 rfl rfl (fun q12 => ?_) (fun q12 => ?_)
        · replace h := iten q12 h
          refine AW.iconst (v := 0) (pc' := 33) X rfl dX7_refusal_32 rfl ?_
          refine AW.sub (ls' := [(0, .ref a0), (2, .int x2)]) [0, 2] rfl ?_
          exact ok_X7_refusal_33 X hr h0 ih x2 false R h
        · replace h := itep q12 h
          refine AW.sub (ls' := [(0, .ref a0), (2, .int x2)]) [0, 2] rfl ?_
          exact ok_X7_refusal_28 X hr h0 ih x2 R h
set_option maxHeartbeats 4000000 in
set_option maxRecDepth 100000 in
theorem ok_X7_refusal {lo n : Nat} {a0 : Nat} {M : MM} {R : Int32} (h0 : tMo lo n a0) (h : f_X7_refusal a0 M = some R) : MC yX7_refusal cX7_refusal 3 (some .int) 1 22 lo n [.ref a0] M (some (.int R)) M := by
  refine MC.of (ls0 := [(0, .ref a0)]) (by decide) rfl (fun _ => Nat.le_of_ble_eq_true rfl) (fun p l e s m args below meth c D dA ad A X hr => ?_)
  replace X : CX p s m args meth c cX7_refusal 3 RX7 D dA ad lo n A := X
  unfold f_X7_refusal at h
  refine AW.iconst (v := 0) (pc' := 1) X rfl dX7_refusal_0 rfl ?_
  refine AW.istore_n (ls' := [(1, .int 0), (0, .ref a0)]) (pc' := 2) X rfl (by decide) rfl dX7_refusal_1 rfl ?_
  refine AW.iconst (v := 0) (pc' := 3) X rfl dX7_refusal_2 rfl ?_
  refine AW.istore_n (ls' := [(2, .int 0), (1, .int 0), (0, .ref a0)]) (pc' := 4) X rfl (by decide) rfl dX7_refusal_3 rfl ?_
  refine AW.sub (ls' := [(0, .ref a0), (1, .int 0), (2, .int 0)]) [2, 1, 0] rfl ?_
  exact ok_X7_refusal_4 X hr h0 FU false 0 R h
set_option maxHeartbeats 4000000 in
set_option maxRecDepth 100000 in
theorem ok_X7_starts {lo n : Nat} {a0 : Nat} {x1 : Int32} {M : MM} {R : MM} (h0 : tMo lo n a0) (h : f_X7_starts a0 x1 M = some R) : MC yX7_starts cX7_starts 2 none 2 45 lo n [.ref a0, .int x1] M none R := by
  refine MC.of (ls0 := [(0, .ref a0), (1, .int x1)]) (by decide) rfl (fun _ => Nat.le_of_ble_eq_true rfl) (fun p l e s m args below meth c D dA ad A X hr => ?_)
  replace X : CX p s m args meth c cX7_starts 2 RX7 D dA ad lo n A := X
  unfold f_X7_starts at h
  refine AW.aload_n (k0 := 0) (pc' := 1) X rfl rfl dX7_starts_0 rfl ?_
  obtain ⟨v1, c1, h⟩ := Option.bind_eq_some_iff.mp h
  refine AW.callV (As := []) (rest := []) (rv := none) (M' := v1) (pc' := 4) X (ok_X7_forgets h0 c1) yv_X7_forgets h0.1 h0.2.1 (cM h0 dA ad _) rfl rfl ml_X7_23 ⟨by decide, by decide, by decide, by decide⟩ rfl (Nat.le_of_ble_eq_true rfl) rfl rfl dX7_starts_1 rfl ?_
  refine AW.aload_n (k0 := 0) (pc' := 5) X rfl rfl dX7_starts_4 rfl ?_
  refine AW.gX7 (v := .ref (a0 + 1)) (pc' := 8) X h0 0 (by decide) rfl mf_X7_7 rfl dX7_starts_5 rfl ?_
  refine AW.bipush (v := 11) (pc' := 10) X rfl dX7_starts_8 rfl ?_
  refine AW.iconst (v := 0) (pc' := 11) X rfl dX7_starts_10 rfl ?_
  obtain ⟨g2, h⟩ := gd_some h
  refine AW.iast (pc' := 12) X (rM1 h0) (inb_vp g2) dX7_starts_11 rfl ?_
  refine AW.aload_n (k0 := 0) (pc' := 13) X rfl rfl dX7_starts_12 rfl ?_
  refine AW.gX7 (v := .ref (a0 + 1)) (pc' := 16) X h0 0 (by decide) rfl mf_X7_7 rfl dX7_starts_13 rfl ?_
  refine AW.iconst (v := 1) (pc' := 17) X rfl dX7_starts_16 rfl ?_
  refine AW.iconst (v := 1) (pc' := 18) X rfl dX7_starts_17 rfl ?_
  obtain ⟨g3, h⟩ := gd_some h
  refine AW.iast (pc' := 19) X (rM1 h0) (inb_vp g3) dX7_starts_18 rfl ?_
  refine AW.aload_n (k0 := 0) (pc' := 20) X rfl rfl dX7_starts_19 rfl ?_
  refine AW.gX7 (v := .ref (a0 + 1)) (pc' := 23) X h0 0 (by decide) rfl mf_X7_7 rfl dX7_starts_20 rfl ?_
  refine AW.iconst (v := 2) (pc' := 24) X rfl dX7_starts_23 rfl ?_
  refine AW.iconst (v := 0) (pc' := 25) X rfl dX7_starts_24 rfl ?_
  obtain ⟨g4, h⟩ := gd_some h
  refine AW.iast (pc' := 26) X (rM1 h0) (inb_vp g4) dX7_starts_25 rfl ?_
  refine AW.aload_n (k0 := 0) (pc' := 27) X rfl rfl dX7_starts_26 rfl ?_
  refine AW.gX7 (v := .ref (a0 + 1)) (pc' := 30) X h0 0 (by decide) rfl mf_X7_7 rfl dX7_starts_27 rfl ?_
  refine AW.iconst (v := 3) (pc' := 31) X rfl dX7_starts_30 rfl ?_
  refine AW.iload_n (k0 := 1) (pc' := 32) X rfl rfl dX7_starts_31 rfl ?_
  obtain ⟨g5, h⟩ := gd_some h
  refine AW.iast (pc' := 33) X (rM1 h0) (inb_vp g5) dX7_starts_32 rfl ?_
  refine AW.aload_n (k0 := 0) (pc' := 34) X rfl rfl dX7_starts_33 rfl ?_
  refine AW.gX7 (v := .ref (a0 + 1)) (pc' := 37) X h0 0 (by decide) rfl mf_X7_7 rfl dX7_starts_34 rfl ?_
  refine AW.sipush (v := 1608) (pc' := 40) X rfl dX7_starts_37 rfl ?_
  refine AW.iload_n (k0 := 1) (pc' := 41) X rfl rfl dX7_starts_40 rfl ?_
  obtain ⟨g6, h⟩ := gd_some h
  refine AW.iast (pc' := 42) X (rM1 h0) (inb_vp g6) dX7_starts_41 rfl ?_
  replace h := Option.some.inj h
  subst h
  exact AW.vret X hr dX7_starts_42
set_option maxHeartbeats 4000000 in
set_option maxRecDepth 100000 in
theorem ok_X7_start {lo n : Nat} {a0 : Nat} {x1 : Int32} {M : MM} {R : (Int32 × MM)} (h0 : tMo lo n a0) (h : f_X7_start a0 x1 M = some R) : MC yX7_start cX7_start 2 (some .int) 3 66 lo n [.ref a0, .int x1] M (some (.int R.1)) R.2 := by
  refine MC.of (ls0 := [(0, .ref a0), (1, .int x1)]) (by decide) rfl (fun _ => Nat.le_of_ble_eq_true rfl) (fun p l e s m args below meth c D dA ad A X hr => ?_)
  replace X : CX p s m args meth c cX7_start 2 RX7 D dA ad lo n A := X
  unfold f_X7_start at h
  refine AW.iload_n (k0 := 1) (pc' := 1) X rfl rfl dX7_start_0 rfl ?_
  refine AW.iconst (v := 1) (pc' := 2) X rfl dX7_start_1 rfl ?_
  refine AW.sipush (v := 1000) (pc' := 5) X rfl dX7_start_2 rfl ?_
  obtain ⟨v1, c1, h⟩ := Option.bind_eq_some_iff.mp h
  refine AW.callS (As := [.int x1, .int 1, .int 1000]) (rest := []) (rv := (some (.int (bz v1)))) (M' := M) (pc' := 8) X (ok_X7_in c1) yv_X7_in ml_X7_41 ⟨by decide, by decide, by decide, by decide⟩ rfl (Nat.le_of_ble_eq_true rfl) rfl rfl dX7_start_5 rfl ?_
  refine AW.if_ne (pc' := 11) (tgt := 14) X dX7_start_8 rfl rfl (fun q2 => ?_) (fun q2 => ?_)
  · replace h := iten q2 h
    refine AW.aload_n (k0 := 0) (pc' := 15) X rfl rfl dX7_start_14 rfl ?_
    obtain ⟨v3, c3, h⟩ := Option.bind_eq_some_iff.mp h
    refine AW.callV (As := []) (rest := []) (rv := (some (.int v3))) (M' := M) (pc' := 18) X (ok_X7_refusal h0 c3) yv_X7_refusal h0.1 h0.2.1 (cM h0 dA ad _) rfl rfl ml_X7_81 ⟨by decide, by decide, by decide, by decide⟩ rfl (Nat.le_of_ble_eq_true rfl) rfl rfl dX7_start_15 rfl ?_
    refine AW.if_eq (pc' := 21) (tgt := 35) X dX7_start_18 rfl rfl (fun q4 => ?_) (fun q4 => ?_)
    · replace h := itep q4 h
      refine AW.aload_n (k0 := 0) (pc' := 36) X rfl rfl dX7_start_35 rfl ?_
      obtain ⟨v5, c5, h⟩ := Option.bind_eq_some_iff.mp h
      refine AW.callV (As := []) (rest := []) (rv := none) (M' := v5) (pc' := 39) X (ok_X7_records h0 c5) yv_X7_records h0.1 h0.2.1 (cM h0 dA ad _) rfl rfl ml_X7_53 ⟨by decide, by decide, by decide, by decide⟩ rfl (Nat.le_of_ble_eq_true rfl) rfl rfl dX7_start_36 rfl ?_
      refine AW.aload_n (k0 := 0) (pc' := 40) X rfl rfl dX7_start_39 rfl ?_
      refine AW.iload_n (k0 := 1) (pc' := 41) X rfl rfl dX7_start_40 rfl ?_
      obtain ⟨v6, c6, h⟩ := Option.bind_eq_some_iff.mp h
      refine AW.callV (As := [.int x1]) (rest := []) (rv := none) (M' := v6) (pc' := 44) X (ok_X7_starts h0 c6) yv_X7_starts h0.1 h0.2.1 (cM h0 dA ad _) rfl rfl ml_X7_85 ⟨by decide, by decide, by decide, by decide⟩ rfl (Nat.le_of_ble_eq_true rfl) rfl rfl dX7_start_41 rfl ?_
      refine AW.aload_n (k0 := 0) (pc' := 45) X rfl rfl dX7_start_44 rfl ?_
      refine AW.gX7 (v := .ref (a0 + 1)) (pc' := 48) X h0 0 (by decide) rfl mf_X7_7 rfl dX7_start_45 rfl ?_
      refine AW.iconst (v := 0) (pc' := 49) X rfl dX7_start_48 rfl ?_
      obtain ⟨g7, h⟩ := gd_some h
      refine AW.iald (pc' := 50) X (rM1 h0) (inb_vp g7) dX7_start_49 rfl ?_
      replace h := Option.some.inj h
      subst h
      exact AW.iret X hr dX7_start_50
    · replace h := iten q4 h
      refine AW.aload_n (k0 := 0) (pc' := 22) X rfl rfl dX7_start_21 rfl ?_
      refine AW.gX7 (v := .ref (a0 + 1)) (pc' := 25) X h0 0 (by decide) rfl mf_X7_7 rfl dX7_start_22 rfl ?_
      refine AW.bipush (v := 11) (pc' := 27) X rfl dX7_start_25 rfl ?_
      refine AW.aload_n (k0 := 0) (pc' := 28) X rfl rfl dX7_start_27 rfl ?_
      obtain ⟨v8, c8, h⟩ := Option.bind_eq_some_iff.mp h
      refine AW.callV (As := []) (rest := [.int 11, .ref (a0 + 1)]) (rv := (some (.int v8))) (M' := M) (pc' := 31) X (ok_X7_refusal h0 c8) yv_X7_refusal h0.1 h0.2.1 (cM h0 dA ad _) rfl rfl ml_X7_81 ⟨by decide, by decide, by decide, by decide⟩ rfl (Nat.le_of_ble_eq_true rfl) rfl rfl dX7_start_28 rfl ?_
      obtain ⟨g9, h⟩ := gd_some h
      refine AW.iast (pc' := 32) X (rM1 h0) (inb_vp g9) dX7_start_31 rfl ?_
      refine AW.bipush (v := (-5)) (pc' := 34) X rfl dX7_start_32 rfl ?_
      replace h := Option.some.inj h
      subst h
      exact AW.iret X hr dX7_start_34
  · replace h := itep q2 h
    refine AW.bipush (v := (-2)) (pc' := 13) X rfl dX7_start_11 rfl ?_
    replace h := Option.some.inj h
    subst h
    exact AW.iret X hr dX7_start_13
set_option maxHeartbeats 4000000 in
set_option maxRecDepth 100000 in
theorem ok_X7_averagedBy_30 {a0 : Nat} {M : MM} (X : CX p s m args meth c cX7_averagedBy 4 RX7 D dA ad lo n A) (hr : meth.sig.returnType = (some .int)) (h0 : tMo lo n a0) : ∀ (s0 : Int32) (R : Int32), f_X7_averagedBy_30 a0 M s0 = some R → AR p l e 1 21 s m args below meth c D dA ad lo n 4 A (some (.int R)) M 30 [] [.int s0] M := by
  intro s0 R h
  unfold f_X7_averagedBy_30 at h
  replace h := Option.some.inj h
  subst h
  exact AW.iret X hr dX7_averagedBy_30
set_option maxHeartbeats 4000000 in
set_option maxRecDepth 100000 in
theorem ok_X7_averagedBy {lo n : Nat} {a0 : Nat} {x1 : Int32} {x2 : Int32} {M : MM} {R : Int32} (h0 : tMo lo n a0) (h : f_X7_averagedBy a0 x1 x2 M = some R) : MC yX7_averagedBy cX7_averagedBy 4 (some .int) 1 21 lo n [.ref a0, .int x1, .int x2] M (some (.int R)) M := by
  refine MC.of (ls0 := [(0, .ref a0), (1, .int x1), (2, .int x2)]) (by decide) rfl (fun _ => Nat.le_of_ble_eq_true rfl) (fun p l e s m args below meth c D dA ad A X hr => ?_)
  replace X : CX p s m args meth c cX7_averagedBy 4 RX7 D dA ad lo n A := X
  unfold f_X7_averagedBy at h
  refine AW.aload_n (k0 := 0) (pc' := 1) X rfl rfl dX7_averagedBy_0 rfl ?_
  refine AW.iconst (v := 1) (pc' := 2) X rfl dX7_averagedBy_1 rfl ?_
  obtain ⟨v1, c1, h⟩ := Option.bind_eq_some_iff.mp h
  refine AW.callV (As := [.int 1]) (rest := []) (rv := (some (.int v1))) (M' := M) (pc' := 5) X (ok_X7_setting h0 c1) yv_X7_setting h0.1 h0.2.1 (cM h0 dA ad _) rfl rfl ml_X7_78 ⟨by decide, by decide, by decide, by decide⟩ rfl (Nat.le_of_ble_eq_true rfl) rfl rfl dX7_averagedBy_2 rfl ?_
  refine AW.istore_n (ls' := [(3, .int v1), (0, .ref a0), (1, .int x1), (2, .int x2)]) (pc' := 6) X rfl (by decide) rfl dX7_averagedBy_5 rfl ?_
  refine AW.iload_n (k0 := 2) (pc' := 7) X rfl rfl dX7_averagedBy_6 rfl ?_
  refine AW.bipush (v := (-6)) (pc' := 9) X rfl dX7_averagedBy_7 rfl ?_
  refine AW.icmp_ne (pc' := 12) (tgt := 16) X dX7_averagedBy_9 rfl rfl (fun q2 => ?_) (fun q2 => ?_)
  · replace h := iten q2 h
    refine AW.iload_n (k0 := 2) (pc' := 17) X rfl rfl dX7_averagedBy_16 rfl ?_
    refine AW.i2l (pc' := 18) X dX7_averagedBy_17 rfl ?_
    refine AW.iload_n (k0 := 0) (pc' := 19) X rfl rfl dX7_averagedBy_18 rfl ?_
    refine AW.iconst (v := 1) (pc' := 20) X rfl dX7_averagedBy_19 rfl ?_
    refine AW.isub (pc' := 21) X dX7_averagedBy_20 rfl ?_
    refine AW.i2l (pc' := 22) X dX7_averagedBy_21 rfl ?_
    refine AW.lmul (pc' := 23) X dX7_averagedBy_22 rfl ?_
    refine AW.iload_n (k0 := 3) (pc' := 24) X rfl rfl dX7_averagedBy_23 rfl ?_
    refine AW.i2l (pc' := 25) X dX7_averagedBy_24 rfl ?_
    refine AW.ladd (pc' := 26) X dX7_averagedBy_25 rfl ?_
    refine AW.iload_n (k0 := 0) (pc' := 27) X rfl rfl dX7_averagedBy_26 rfl ?_
    refine AW.i2l (pc' := 28) X dX7_averagedBy_27 rfl ?_
    obtain ⟨g3, h⟩ := gd_some h
    refine AW.ldiv (pc' := 29) X (nzl_ne g3) dX7_averagedBy_28 rfl ?_
    refine AW.l2i (pc' := 30) X dX7_averagedBy_29 rfl ?_
    refine AW.sub (ls' := []) [] rfl ?_
    exact ok_X7_averagedBy_30 X hr h0 (Int64.toInt32 ((((Int32.toInt64 x1) * (Int32.toInt64 (v1 - 1))) + (Int32.toInt64 x2)) / (Int32.toInt64 v1))) R h
  · replace h := itep q2 h
    refine AW.iload_n (k0 := 3) (pc' := 13) X rfl rfl dX7_averagedBy_12 rfl ?_
    refine AW.goto (pc' := 30) X dX7_averagedBy_13 rfl ?_
    refine AW.sub (ls' := []) [] rfl ?_
    exact ok_X7_averagedBy_30 X hr h0 x2 R h
set_option maxHeartbeats 4000000 in
set_option maxRecDepth 100000 in
theorem ok_X7_controlLevel_107 {a0 : Nat} {M : MM} (X : CX p s m args meth c cX7_controlLevel 8 RX7 D dA ad lo n A) (hr : meth.sig.returnType = (some .int)) (h0 : tMo lo n a0) {rec13 : Int64 → Int32 → Int32 → Int32 → Int32 → Option Int32} (hrec13 : ∀ (y1 : Int64) (x3 : Int32) (x4 : Int32) (x5 : Int32) (x6 : Int32) (R : Int32), rec13 y1 x3 x4 x5 x6 = some R → AR p l e 1 22 s m args below meth c D dA ad lo n 8 A (some (.int R)) M 13 [(0, .ref a0), (1, .long (y1)), (3, .int x3), (4, .int x4), (5, .int x5), (6, .int x6)] [] M) : ∀ (y1 : Int64) (x3 : Int32) (x4 : Int32) (x5 : Int32) (x6 : Int32) (R : Int32), f_X7_controlLevel_107 a0 M rec13 y1 x3 x4 x5 x6 = some R → AR p l e 1 22 s m args below meth c D dA ad lo n 8 A (some (.int R)) M 107 [(0, .ref a0), (1, .long (y1)), (3, .int x3), (4, .int x4), (5, .int x5), (6, .int x6)] [] M := by
  intro y1 x3 x4 x5 x6 R h
  unfold f_X7_controlLevel_107 at h
  refine AW.iinc (k0 := 5) (v := (x6 + 1)) (y := 1) (ls' := [(6, .int (x6 + 1)), (0, .ref a0), (1, .long (y1)), (3, .int x3), (4, .int x4), (5, .int x5)]) (pc' := 110) X rfl rfl rfl (by decide) rfl dX7_controlLevel_107 rfl ?_
  refine AW.goto (pc' := 13) X dX7_controlLevel_110 rfl ?_
  refine AW.sub (ls' := [(0, .ref a0), (1, .long (y1)), (3, .int x3), (4, .int x4), (5, .int x5), (6, .int (x6 + 1))]) [1, 2, 3, 4, 5, 0] rfl ?_
  exact hrec13 y1 x3 x4 x5 (x6 + 1) R h
set_option maxHeartbeats 4000000 in
set_option maxRecDepth 100000 in
theorem ok_X7_controlLevel_96 {a0 : Nat} {M : MM} (X : CX p s m args meth c cX7_controlLevel 8 RX7 D dA ad lo n A) (hr : meth.sig.returnType = (some .int)) (h0 : tMo lo n a0) {rec13 : Int64 → Int32 → Int32 → Int32 → Int32 → Option Int32} (hrec13 : ∀ (y1 : Int64) (x3 : Int32) (x4 : Int32) (x5 : Int32) (x6 : Int32) (R : Int32), rec13 y1 x3 x4 x5 x6 = some R → AR p l e 1 22 s m args below meth c D dA ad lo n 8 A (some (.int R)) M 13 [(0, .ref a0), (1, .long (y1)), (3, .int x3), (4, .int x4), (5, .int x5), (6, .int x6)] [] M) : ∀ (y1 : Int64) (x3 : Int32) (x4 : Int32) (x6 : Int32) (x7 : Int32) (s0 : Int32) (R : Int32), f_X7_controlLevel_96 a0 M rec13 y1 x3 x4 x6 x7 s0 = some R → AR p l e 1 22 s m args below meth c D dA ad lo n 8 A (some (.int R)) M 96 [(0, .ref a0), (1, .long (y1)), (3, .int x3), (4, .int x4), (6, .int x6), (7, .int x7)] [.int s0] M := by
  intro y1 x3 x4 x6 x7 s0 R h
  unfold f_X7_controlLevel_96 at h
  refine AW.istore (ls' := [(5, .int s0), (0, .ref a0), (1, .long (y1)), (3, .int x3), (4, .int x4), (6, .int x6), (7, .int x7)]) (pc' := 98) X (by decide) rfl dX7_controlLevel_96 rfl ?_
  refine AW.lload_n (k0 := 2) (pc' := 99) X rfl rfl dX7_controlLevel_98 rfl ?_
  refine AW.iload (k0 := 6) (pc' := 101) X rfl dX7_controlLevel_99 rfl ?_
  refine AW.i2l (pc' := 102) X dX7_controlLevel_101 rfl ?_
  refine AW.ladd (pc' := 103) X dX7_controlLevel_102 rfl ?_
  refine AW.lstore_n (ls' := [(1, .long ((y1 + (Int32.toInt64 x7)))), (5, .int s0), (0, .ref a0), (3, .int x3), (4, .int x4), (6, .int x6), (7, .int x7)]) (pc' := 104) X rfl (by decide) rfl dX7_controlLevel_103 rfl ?_
  refine AW.iinc (k0 := 3) (v := (x3 + 1)) (y := 1) (ls' := [(3, .int (x3 + 1)), (1, .long ((y1 + (Int32.toInt64 x7)))), (5, .int s0), (0, .ref a0), (4, .int x4), (6, .int x6), (7, .int x7)]) (pc' := 107) X rfl rfl rfl (by decide) rfl dX7_controlLevel_104 rfl ?_
  refine AW.sub (ls' := [(0, .ref a0), (1, .long ((y1 + (Int32.toInt64 x7)))), (3, .int (x3 + 1)), (4, .int x4), (5, .int s0), (6, .int x6)]) [3, 1, 0, 4, 2, 5] rfl ?_
  exact ok_X7_controlLevel_107 X hr h0 hrec13 (y1 + (Int32.toInt64 x7)) (x3 + 1) x4 s0 x6 R h
set_option maxHeartbeats 4000000 in
set_option maxRecDepth 100000 in
theorem ok_X7_controlLevel_89 {a0 : Nat} {M : MM} (X : CX p s m args meth c cX7_controlLevel 8 RX7 D dA ad lo n A) (hr : meth.sig.returnType = (some .int)) (h0 : tMo lo n a0) {rec13 : Int64 → Int32 → Int32 → Int32 → Int32 → Option Int32} (hrec13 : ∀ (y1 : Int64) (x3 : Int32) (x4 : Int32) (x5 : Int32) (x6 : Int32) (R : Int32), rec13 y1 x3 x4 x5 x6 = some R → AR p l e 1 22 s m args below meth c D dA ad lo n 8 A (some (.int R)) M 13 [(0, .ref a0), (1, .long (y1)), (3, .int x3), (4, .int x4), (5, .int x5), (6, .int x6)] [] M) : ∀ (y1 : Int64) (x3 : Int32) (x4 : Int32) (x6 : Int32) (x7 : Int32) (R : Int32), f_X7_controlLevel_89 a0 M rec13 y1 x3 x4 x6 x7 = some R → AR p l e 1 22 s m args below meth c D dA ad lo n 8 A (some (.int R)) M 89 [(0, .ref a0), (1, .long (y1)), (3, .int x3), (4, .int x4), (6, .int x6), (7, .int x7)] [] M := by
  intro y1 x3 x4 x6 x7 R h
  unfold f_X7_controlLevel_89 at h
  refine AW.iload (k0 := 5) (pc' := 91) X rfl dX7_controlLevel_89 rfl ?_
  refine AW.goto (pc' := 96) X dX7_controlLevel_91 rfl ?_
  exact ok_X7_controlLevel_96 X hr h0 hrec13 y1 x3 x4 x6 x7 x7 R h
set_option maxHeartbeats 4000000 in
set_option maxRecDepth 100000 in
theorem ok_X7_controlLevel_76 {a0 : Nat} {M : MM} (X : CX p s m args meth c cX7_controlLevel 8 RX7 D dA ad lo n A) (hr : meth.sig.returnType = (some .int)) (h0 : tMo lo n a0) {rec13 : Int64 → Int32 → Int32 → Int32 → Int32 → Option Int32} (hrec13 : ∀ (y1 : Int64) (x3 : Int32) (x4 : Int32) (x5 : Int32) (x6 : Int32) (R : Int32), rec13 y1 x3 x4 x5 x6 = some R → AR p l e 1 22 s m args below meth c D dA ad lo n 8 A (some (.int R)) M 13 [(0, .ref a0), (1, .long (y1)), (3, .int x3), (4, .int x4), (5, .int x5), (6, .int x6)] [] M) : ∀ (y1 : Int64) (x3 : Int32) (x5 : Int32) (x6 : Int32) (x7 : Int32) (s0 : Int32) (R : Int32), f_X7_controlLevel_76 a0 M rec13 y1 x3 x5 x6 x7 s0 = some R → AR p l e 1 22 s m args below meth c D dA ad lo n 8 A (some (.int R)) M 76 [(0, .ref a0), (1, .long (y1)), (3, .int x3), (5, .int x5), (6, .int x6), (7, .int x7)] [.int s0] M := by
  intro y1 x3 x5 x6 x7 s0 R h
  unfold f_X7_controlLevel_76 at h
  refine AW.istore (ls' := [(4, .int s0), (0, .ref a0), (1, .long (y1)), (3, .int x3), (5, .int x5), (6, .int x6), (7, .int x7)]) (pc' := 78) X (by decide) rfl dX7_controlLevel_76 rfl ?_
  refine AW.iload_n (k0 := 3) (pc' := 79) X rfl rfl dX7_controlLevel_78 rfl ?_
  refine AW.if_eq (pc' := 82) (tgt := 89) X dX7_controlLevel_79 rfl rfl (fun q1 => ?_) (fun q1 => ?_)
  · replace h := itep q1 h
    refine AW.sub (ls' := [(0, .ref a0), (1, .long (y1)), (3, .int x3), (4, .int s0), (6, .int x6), (7, .int x7)]) [1, 2, 3, 0, 5, 6] rfl ?_
    exact ok_X7_controlLevel_89 X hr h0 hrec13 y1 x3 s0 x6 x7 R h
  · replace h := iten q1 h
    refine AW.iload (k0 := 6) (pc' := 84) X rfl dX7_controlLevel_82 rfl ?_
    refine AW.iload (k0 := 4) (pc' := 86) X rfl dX7_controlLevel_84 rfl ?_
    refine AW.icmp_ge (pc' := 89) (tgt := 94) X dX7_controlLevel_86 rfl rfl (fun q2 => ?_) (fun q2 => ?_)
    · replace h := itep q2 h
      refine AW.iload (k0 := 4) (pc' := 96) X rfl dX7_controlLevel_94 rfl ?_
      refine AW.sub (ls' := [(0, .ref a0), (1, .long (y1)), (3, .int x3), (4, .int s0), (6, .int x6), (7, .int x7)]) [1, 2, 3, 0, 5, 6] rfl ?_
      exact ok_X7_controlLevel_96 X hr h0 hrec13 y1 x3 s0 x6 x7 x5 R h
    · replace h := iten q2 h
      refine AW.sub (ls' := [(0, .ref a0), (1, .long (y1)), (3, .int x3), (4, .int s0), (6, .int x6), (7, .int x7)]) [1, 2, 3, 0, 5, 6] rfl ?_
      exact ok_X7_controlLevel_89 X hr h0 hrec13 y1 x3 s0 x6 x7 R h
set_option maxHeartbeats 4000000 in
set_option maxRecDepth 100000 in
theorem ok_X7_controlLevel_69 {a0 : Nat} {M : MM} (X : CX p s m args meth c cX7_controlLevel 8 RX7 D dA ad lo n A) (hr : meth.sig.returnType = (some .int)) (h0 : tMo lo n a0) {rec13 : Int64 → Int32 → Int32 → Int32 → Int32 → Option Int32} (hrec13 : ∀ (y1 : Int64) (x3 : Int32) (x4 : Int32) (x5 : Int32) (x6 : Int32) (R : Int32), rec13 y1 x3 x4 x5 x6 = some R → AR p l e 1 22 s m args below meth c D dA ad lo n 8 A (some (.int R)) M 13 [(0, .ref a0), (1, .long (y1)), (3, .int x3), (4, .int x4), (5, .int x5), (6, .int x6)] [] M) : ∀ (y1 : Int64) (x3 : Int32) (x5 : Int32) (x6 : Int32) (x7 : Int32) (R : Int32), f_X7_controlLevel_69 a0 M rec13 y1 x3 x5 x6 x7 = some R → AR p l e 1 22 s m args below meth c D dA ad lo n 8 A (some (.int R)) M 69 [(0, .ref a0), (1, .long (y1)), (3, .int x3), (5, .int x5), (6, .int x6), (7, .int x7)] [] M := by
  intro y1 x3 x5 x6 x7 R h
  unfold f_X7_controlLevel_69 at h
  refine AW.iload (k0 := 5) (pc' := 71) X rfl dX7_controlLevel_69 rfl ?_
  refine AW.goto (pc' := 76) X dX7_controlLevel_71 rfl ?_
  exact ok_X7_controlLevel_76 X hr h0 hrec13 y1 x3 x5 x6 x7 x7 R h
set_option maxHeartbeats 4000000 in
set_option maxRecDepth 100000 in
theorem ok_X7_controlLevel_145 {a0 : Nat} {M : MM} (X : CX p s m args meth c cX7_controlLevel 8 RX7 D dA ad lo n A) (hr : meth.sig.returnType = (some .int)) (h0 : tMo lo n a0) : ∀ (s0 : Int32) (R : Int32), f_X7_controlLevel_145 a0 M s0 = some R → AR p l e 1 22 s m args below meth c D dA ad lo n 8 A (some (.int R)) M 145 [] [.int s0] M := by
  intro s0 R h
  unfold f_X7_controlLevel_145 at h
  replace h := Option.some.inj h
  subst h
  exact AW.iret X hr dX7_controlLevel_145
set_option maxHeartbeats 4000000 in
set_option maxRecDepth 100000 in
theorem ok_X7_controlLevel_13 {a0 : Nat} {M : MM} (X : CX p s m args meth c cX7_controlLevel 8 RX7 D dA ad lo n A) (hr : meth.sig.returnType = (some .int)) (h0 : tMo lo n a0) : ∀ (k : Nat) (y1 : Int64) (x3 : Int32) (x4 : Int32) (x5 : Int32) (x6 : Int32) (R : Int32), f_X7_controlLevel_13 a0 M k y1 x3 x4 x5 x6 = some R → AR p l e 1 22 s m args below meth c D dA ad lo n 8 A (some (.int R)) M 13 [(0, .ref a0), (1, .long (y1)), (3, .int x3), (4, .int x4), (5, .int x5), (6, .int x6)] [] M := by
  intro k
  induction k with
  | zero => intro _ _ _ _ _ R h; exact none_some h
  | succ k ih =>
    intro y1 x3 x4 x5 x6 R h
    unfold f_X7_controlLevel_13 at h
    refine AW.iload (k0 := 5) (pc' := 15) X rfl dX7_controlLevel_13 rfl ?_
    refine AW.aload_n (k0 := 0) (pc' := 16) X rfl rfl dX7_controlLevel_15 rfl ?_
    refine AW.gX7 (v := .ref (a0 + 1)) (pc' := 19) X h0 0 (by decide) rfl mf_X7_7 rfl dX7_controlLevel_16 rfl ?_
    refine AW.iconst (v := 5) (pc' := 20) X rfl dX7_controlLevel_19 rfl ?_
    obtain ⟨g1, h⟩ := gd_some h
    refine AW.iald (pc' := 21) X (rM1 h0) (inb_vp g1) dX7_controlLevel_20 rfl ?_
    refine AW.icmp_ge (pc' := 24) (tgt := 113) X dX7_controlLevel_21 rfl rfl (fun q2 => ?_) (fun q2 => ?_)
    · replace h := itep q2 h
      refine AW.aload_n (k0 := 0) (pc' := 114) X rfl rfl dX7_controlLevel_113 rfl ?_
      refine AW.iconst (v := 0) (pc' := 115) X rfl dX7_controlLevel_114 rfl ?_
      obtain ⟨v3, c3, h⟩ := Option.bind_eq_some_iff.mp h
      refine AW.callV (As := [.int 0]) (rest := []) (rv := (some (.int v3))) (M' := M) (pc' := 118) X (ok_X7_setting h0 c3) yv_X7_setting h0.1 h0.2.1 (cM h0 dA ad _) rfl rfl ml_X7_78 ⟨by decide, by decide, by decide, by decide⟩ rfl (Nat.le_of_ble_eq_true rfl) rfl rfl dX7_controlLevel_115 rfl ?_
      refine AW.if_ne (pc' := 121) (tgt := 129) X dX7_controlLevel_118 rfl rfl (fun q4 => ?_) (fun q4 => ?_)
      · replace h := iten q4 h
        refine AW.aload_n (k0 := 0) (pc' := 130) X rfl rfl dX7_controlLevel_129 rfl ?_
        refine AW.iconst (v := 0) (pc' := 131) X rfl dX7_controlLevel_130 rfl ?_
        obtain ⟨v5, c5, h⟩ := Option.bind_eq_some_iff.mp h
        refine AW.callV (As := [.int 0]) (rest := []) (rv := (some (.int v5))) (M' := M) (pc' := 134) X (ok_X7_setting h0 c5) yv_X7_setting h0.1 h0.2.1 (cM h0 dA ad _) rfl rfl ml_X7_78 ⟨by decide, by decide, by decide, by decide⟩ rfl (Nat.le_of_ble_eq_true rfl) rfl rfl dX7_controlLevel_131 rfl ?_
        refine AW.iconst (v := 1) (pc' := 135) X rfl dX7_controlLevel_134 rfl ?_
        refine AW.icmp_ne (pc' := 138) (tgt := 143) X dX7_controlLevel_135 rfl rfl (fun q6 => ?_) (fun q6 => ?_)
        · replace h := iten q6 h
          refine AW.iload (k0 := 4) (pc' := 145) X rfl dX7_controlLevel_143 rfl ?_
          refine AW.sub (ls' := []) [] rfl ?_
          exact ok_X7_controlLevel_145 X hr h0 x5 R h
        · replace h := itep q6 h
          refine AW.iload (k0 := 3) (pc' := 140) X rfl dX7_controlLevel_138 rfl ?_
          refine AW.goto (pc' := 145) X dX7_controlLevel_140 rfl ?_
          refine AW.sub (ls' := []) [] rfl ?_
          exact ok_X7_controlLevel_145 X hr h0 x4 R h
      · replace h := itep q4 h
        refine AW.lload_n (k0 := 1) (pc' := 122) X rfl rfl dX7_controlLevel_121 rfl ?_
        refine AW.iload_n (k0 := 2) (pc' := 123) X rfl rfl dX7_controlLevel_122 rfl ?_
        refine AW.i2l (pc' := 124) X dX7_controlLevel_123 rfl ?_
        obtain ⟨g7, h⟩ := gd_some h
        refine AW.ldiv (pc' := 125) X (nzl_ne g7) dX7_controlLevel_124 rfl ?_
        refine AW.l2i (pc' := 126) X dX7_controlLevel_125 rfl ?_
        refine AW.goto (pc' := 145) X dX7_controlLevel_126 rfl ?_
        refine AW.sub (ls' := []) [] rfl ?_
        exact ok_X7_controlLevel_145 X hr h0 (Int64.toInt32 (y1 / (Int32.toInt64 x3))) R h
    · replace h := iten q2 h
      refine AW.aload_n (k0 := 0) (pc' := 25) X rfl rfl dX7_controlLevel_24 rfl ?_
      refine AW.iload (k0 := 5) (pc' := 27) X rfl dX7_controlLevel_25 rfl ?_
      refine AW.iconst (v := 0) (pc' := 28) X rfl dX7_controlLevel_27 rfl ?_
      obtain ⟨v8, c8, h⟩ := Option.bind_eq_some_iff.mp h
      refine AW.callV (As := [.int x6, .int 0]) (rest := []) (rv := (some (.int v8))) (M' := M) (pc' := 31) X (ok_X7_ofChannel h0 c8) yv_X7_ofChannel h0.1 h0.2.1 (cM h0 dA ad _) rfl rfl ml_X7_65 ⟨by decide, by decide, by decide, by decide⟩ rfl (Nat.le_of_ble_eq_true rfl) rfl rfl dX7_controlLevel_28 rfl ?_
      refine AW.iconst (v := 1) (pc' := 32) X rfl dX7_controlLevel_31 rfl ?_
      refine AW.icmp_ne (pc' := 35) (tgt := 107) X dX7_controlLevel_32 rfl rfl (fun q9 => ?_) (fun q9 => ?_)
      · replace h := iten q9 h
        exact ok_X7_controlLevel_107 X hr h0 ih y1 x3 x4 x5 x6 R h
      · replace h := itep q9 h
        refine AW.aload_n (k0 := 0) (pc' := 36) X rfl rfl dX7_controlLevel_35 rfl ?_
        refine AW.gX7 (v := .ref (a0 + 1)) (pc' := 39) X h0 0 (by decide) rfl mf_X7_7 rfl dX7_controlLevel_36 rfl ?_
        refine AW.sipush (v := 308) (pc' := 42) X rfl dX7_controlLevel_39 rfl ?_
        refine AW.bipush (v := 6) (pc' := 44) X rfl dX7_controlLevel_42 rfl ?_
        refine AW.aload_n (k0 := 0) (pc' := 45) X rfl rfl dX7_controlLevel_44 rfl ?_
        refine AW.gX7 (v := .ref (a0 + 1)) (pc' := 48) X h0 0 (by decide) rfl mf_X7_7 rfl dX7_controlLevel_45 rfl ?_
        refine AW.iconst (v := 2) (pc' := 49) X rfl dX7_controlLevel_48 rfl ?_
        obtain ⟨g10, h⟩ := gd_some h
        refine AW.iald (pc' := 50) X (rM1 h0) (inb_vp g10) dX7_controlLevel_49 rfl ?_
        refine AW.imul (pc' := 51) X dX7_controlLevel_50 rfl ?_
        refine AW.iadd (pc' := 52) X dX7_controlLevel_51 rfl ?_
        refine AW.iload (k0 := 5) (pc' := 54) X rfl dX7_controlLevel_52 rfl ?_
        refine AW.iadd (pc' := 55) X dX7_controlLevel_54 rfl ?_
        obtain ⟨g11, h⟩ := gd_some h
        refine AW.iald (pc' := 56) X (rM1 h0) (inb_vp g11) dX7_controlLevel_55 rfl ?_
        refine AW.istore (ls' := [(7, .int (M (a0 + 1) (ix ((308 + (6 * (M (a0 + 1) (ix 2)))) + x6)))), (0, .ref a0), (1, .long (y1)), (3, .int x3), (4, .int x4), (5, .int x5), (6, .int x6)]) (pc' := 58) X (by decide) rfl dX7_controlLevel_56 rfl ?_
        refine AW.iload_n (k0 := 3) (pc' := 59) X rfl rfl dX7_controlLevel_58 rfl ?_
        refine AW.if_eq (pc' := 62) (tgt := 69) X dX7_controlLevel_59 rfl rfl (fun q12 => ?_) (fun q12 => ?_)
        · replace h := itep q12 h
          refine AW.sub (ls' := [(0, .ref a0), (1, .long (y1)), (3, .int x3), (5, .int x5), (6, .int x6), (7, .int (M (a0 + 1) (ix ((308 + (6 * (M (a0 + 1) (ix 2)))) + x6))))]) [1, 2, 3, 5, 6, 0] rfl ?_
          exact ok_X7_controlLevel_69 X hr h0 ih y1 x3 x5 x6 (M (a0 + 1) (ix ((308 + (6 * (M (a0 + 1) (ix 2)))) + x6))) R h
        · replace h := iten q12 h
          refine AW.iload (k0 := 0) (pc' := 64) X rfl dX7_controlLevel_62 rfl ?_
          refine AW.iload (k0 := 4) (pc' := 66) X rfl dX7_controlLevel_64 rfl ?_
          refine AW.icmp_le (pc' := 69) (tgt := 74) X dX7_controlLevel_66 rfl rfl (fun q13 => ?_) (fun q13 => ?_)
          · replace h := itep q13 h
            refine AW.iload (k0 := 4) (pc' := 76) X rfl dX7_controlLevel_74 rfl ?_
            refine AW.sub (ls' := [(0, .ref a0), (1, .long (y1)), (3, .int x3), (5, .int x5), (6, .int x6), (7, .int (M (a0 + 1) (ix ((308 + (6 * (M (a0 + 1) (ix 2)))) + x6))))]) [1, 2, 3, 5, 6, 0] rfl ?_
            exact ok_X7_controlLevel_76 X hr h0 ih y1 x3 x5 x6 (M (a0 + 1) (ix ((308 + (6 * (M (a0 + 1) (ix 2)))) + x6))) x4 R h
          · replace h := iten q13 h
            refine AW.sub (ls' := [(0, .ref a0), (1, .long (y1)), (3, .int x3), (5, .int x5), (6, .int x6), (7, .int (M (a0 + 1) (ix ((308 + (6 * (M (a0 + 1) (ix 2)))) + x6))))]) [1, 2, 3, 5, 6, 0] rfl ?_
            exact ok_X7_controlLevel_69 X hr h0 ih y1 x3 x5 x6 (M (a0 + 1) (ix ((308 + (6 * (M (a0 + 1) (ix 2)))) + x6))) R h
set_option maxHeartbeats 4000000 in
set_option maxRecDepth 100000 in
theorem ok_X7_controlLevel {lo n : Nat} {a0 : Nat} {M : MM} {R : Int32} (h0 : tMo lo n a0) (h : f_X7_controlLevel a0 M = some R) : MC yX7_controlLevel cX7_controlLevel 8 (some .int) 1 22 lo n [.ref a0] M (some (.int R)) M := by
  refine MC.of (ls0 := [(0, .ref a0)]) (by decide) rfl (fun _ => Nat.le_of_ble_eq_true rfl) (fun p l e s m args below meth c D dA ad A X hr => ?_)
  replace X : CX p s m args meth c cX7_controlLevel 8 RX7 D dA ad lo n A := X
  unfold f_X7_controlLevel at h
  refine AW.lconst (v := 0) (pc' := 1) X rfl dX7_controlLevel_0 rfl ?_
  refine AW.lstore_n (ls' := [(1, .long (0)), (0, .ref a0)]) (pc' := 2) X rfl (by decide) rfl dX7_controlLevel_1 rfl ?_
  refine AW.iconst (v := 0) (pc' := 3) X rfl dX7_controlLevel_2 rfl ?_
  refine AW.istore_n (ls' := [(3, .int 0), (1, .long (0)), (0, .ref a0)]) (pc' := 4) X rfl (by decide) rfl dX7_controlLevel_3 rfl ?_
  refine AW.iconst (v := 0) (pc' := 5) X rfl dX7_controlLevel_4 rfl ?_
  refine AW.istore (ls' := [(4, .int 0), (3, .int 0), (1, .long (0)), (0, .ref a0)]) (pc' := 7) X (by decide) rfl dX7_controlLevel_5 rfl ?_
  refine AW.iconst (v := 0) (pc' := 8) X rfl dX7_controlLevel_7 rfl ?_
  refine AW.istore (ls' := [(5, .int 0), (4, .int 0), (3, .int 0), (1, .long (0)), (0, .ref a0)]) (pc' := 10) X (by decide) rfl dX7_controlLevel_8 rfl ?_
  refine AW.iconst (v := 0) (pc' := 11) X rfl dX7_controlLevel_10 rfl ?_
  refine AW.istore (ls' := [(6, .int 0), (5, .int 0), (4, .int 0), (3, .int 0), (1, .long (0)), (0, .ref a0)]) (pc' := 13) X (by decide) rfl dX7_controlLevel_11 rfl ?_
  refine AW.sub (ls' := [(0, .ref a0), (1, .long (0)), (3, .int 0), (4, .int 0), (5, .int 0), (6, .int 0)]) [5, 4, 3, 2, 1, 0] rfl ?_
  exact ok_X7_controlLevel_13 X hr h0 FU 0 0 0 0 0 R h
end OK
