/-! each method does what its function says: by program, a row an instruction -/
section OK
variable {p : Program} {l : Launch} {e : Env} {s : State} {m : MethodId} {args : Array Value} {below : List Frame} {meth : Method} {c : Code} {D : va_G} {dA : Nat → ClassId} {ad : Nat → Nat} {lo n : Nat} {A : Nat → Prop}
set_option maxHeartbeats 4000000 in
set_option maxRecDepth 100000 in
theorem ok_X7_putAside {lo n : Nat} {a0 : Nat} {M : MM} {R : MM} (h0 : tMo lo n a0) (h : f_X7_putAside a0 M = some R) : MC yX7_putAside cX7_putAside 1 none 1 23 lo n [.ref a0] M none R := by
  refine MC.of (ls0 := [(0, .ref a0)]) (by decide) rfl (fun _ => Nat.le_of_ble_eq_true rfl) (fun p l e s m args below meth c D dA ad A X hr => ?_)
  replace X : CX p s m args meth c cX7_putAside 1 RX7 D dA ad lo n A := X
  unfold f_X7_putAside at h
  refine AW.aload_n (k0 := 0) (pc' := 1) X rfl rfl dX7_putAside_0 rfl ?_
  refine AW.iconst (v := 0) (pc' := 2) X rfl dX7_putAside_1 rfl ?_
  refine AW.sipush (v := 14464) (pc' := 5) X rfl dX7_putAside_2 rfl ?_
  obtain ⟨v1, c1, h⟩ := Option.bind_eq_some_iff.mp h
  refine AW.callV (As := [.int 0, .int 14464]) (rest := []) (rv := none) (M' := v1) (pc' := 8) X (ok_X7_copies h0 c1) yv_X7_copies h0.1 h0.2.1 (cM h0 dA ad _) rfl rfl ml_X7_33 ⟨by decide, by decide, by decide, by decide⟩ rfl (Nat.le_of_ble_eq_true rfl) rfl rfl dX7_putAside_5 rfl ?_
  replace h := Option.some.inj h
  subst h
  exact AW.vret X hr dX7_putAside_8
set_option maxHeartbeats 4000000 in
set_option maxRecDepth 100000 in
theorem ok_X7_comesBack {lo n : Nat} {a0 : Nat} {M : MM} {R : MM} (h0 : tMo lo n a0) (h : f_X7_comesBack a0 M = some R) : MC yX7_comesBack cX7_comesBack 1 none 1 23 lo n [.ref a0] M none R := by
  refine MC.of (ls0 := [(0, .ref a0)]) (by decide) rfl (fun _ => Nat.le_of_ble_eq_true rfl) (fun p l e s m args below meth c D dA ad A X hr => ?_)
  replace X : CX p s m args meth c cX7_comesBack 1 RX7 D dA ad lo n A := X
  unfold f_X7_comesBack at h
  refine AW.aload_n (k0 := 0) (pc' := 1) X rfl rfl dX7_comesBack_0 rfl ?_
  refine AW.sipush (v := 14464) (pc' := 4) X rfl dX7_comesBack_1 rfl ?_
  refine AW.iconst (v := 0) (pc' := 5) X rfl dX7_comesBack_4 rfl ?_
  obtain ⟨v1, c1, h⟩ := Option.bind_eq_some_iff.mp h
  refine AW.callV (As := [.int 14464, .int 0]) (rest := []) (rv := none) (M' := v1) (pc' := 8) X (ok_X7_copies h0 c1) yv_X7_copies h0.1 h0.2.1 (cM h0 dA ad _) rfl rfl ml_X7_33 ⟨by decide, by decide, by decide, by decide⟩ rfl (Nat.le_of_ble_eq_true rfl) rfl rfl dX7_comesBack_5 rfl ?_
  replace h := Option.some.inj h
  subst h
  exact AW.vret X hr dX7_comesBack_8
set_option maxHeartbeats 4000000 in
set_option maxRecDepth 100000 in
theorem ok_X7_loopsLeft_31 {a0 : Nat} (X : CX p s m args meth c cX7_loopsLeft 3 RX7 D dA ad lo n A) (hr : meth.sig.returnType = (some .int)) (h0 : tMo lo n a0) : ∀ (s0 : Int32) (M : MM) (R : (Int32 × MM)), f_X7_loopsLeft_31 a0 s0 M = some R → AR p l e 5 129 s m args below meth c D dA ad lo n 3 A (some (.int R.1)) R.2 31 [] [.int s0] M := by
  intro s0 M R h
  unfold f_X7_loopsLeft_31 at h
  replace h := Option.some.inj h
  subst h
  exact AW.iret X hr dX7_loopsLeft_31
set_option maxHeartbeats 4000000 in
set_option maxRecDepth 100000 in
theorem ok_X7_loopsLeft {lo n : Nat} {a0 : Nat} {M : MM} {R : (Int32 × MM)} (h0 : tMo lo n a0) (h : f_X7_loopsLeft a0 M = some R) : MC yX7_loopsLeft cX7_loopsLeft 3 (some .int) 5 129 lo n [.ref a0] M (some (.int R.1)) R.2 := by
  refine MC.of (ls0 := [(0, .ref a0)]) (by decide) rfl (fun _ => Nat.le_of_ble_eq_true rfl) (fun p l e s m args below meth c D dA ad A X hr => ?_)
  replace X : CX p s m args meth c cX7_loopsLeft 3 RX7 D dA ad lo n A := X
  unfold f_X7_loopsLeft at h
  refine AW.aload_n (k0 := 0) (pc' := 1) X rfl rfl dX7_loopsLeft_0 rfl ?_
  obtain ⟨v1, c1, h⟩ := Option.bind_eq_some_iff.mp h
  refine AW.callV (As := []) (rest := []) (rv := none) (M' := v1) (pc' := 4) X (ok_X7_putAside h0 c1) yv_X7_putAside h0.1 h0.2.1 (cM h0 dA ad _) rfl rfl ml_X7_177 ⟨by decide, by decide, by decide, by decide⟩ rfl (Nat.le_of_ble_eq_true rfl) rfl rfl dX7_loopsLeft_1 rfl ?_
  refine AW.aload_n (k0 := 0) (pc' := 5) X rfl rfl dX7_loopsLeft_4 rfl ?_
  refine AW.sipush (v := 500) (pc' := 8) X rfl dX7_loopsLeft_5 rfl ?_
  obtain ⟨v2, c2, h⟩ := Option.bind_eq_some_iff.mp h
  refine AW.callV (As := [.int 500]) (rest := []) (rv := (some (.int v2.1))) (M' := v2.2) (pc' := 11) X (ok_X7_loops h0 c2) yv_X7_loops h0.1 h0.2.1 (cM h0 dA ad _) rfl rfl ml_X7_127 ⟨by decide, by decide, by decide, by decide⟩ rfl (Nat.le_of_ble_eq_true rfl) rfl rfl dX7_loopsLeft_8 rfl ?_
  refine AW.istore_n (ls' := [(1, .int (v2.1)), (0, .ref a0)]) (pc' := 12) X rfl (by decide) rfl dX7_loopsLeft_11 rfl ?_
  refine AW.aload_n (k0 := 1) (pc' := 13) X rfl rfl dX7_loopsLeft_12 rfl ?_
  obtain ⟨v3, c3, h⟩ := Option.bind_eq_some_iff.mp h
  refine AW.callV (As := []) (rest := []) (rv := (some (.int (bz v3)))) (M' := v2.2) (pc' := 16) X (ok_X7_rests h0 c3) yv_X7_rests h0.1 h0.2.1 (cM h0 dA ad _) rfl rfl ml_X7_45 ⟨by decide, by decide, by decide, by decide⟩ rfl (Nat.le_of_ble_eq_true rfl) rfl rfl dX7_loopsLeft_13 rfl ?_
  refine AW.istore_n (ls' := [(2, .int (bz v3)), (1, .int (v2.1)), (0, .ref a0)]) (pc' := 17) X rfl (by decide) rfl dX7_loopsLeft_16 rfl ?_
  refine AW.aload_n (k0 := 2) (pc' := 18) X rfl rfl dX7_loopsLeft_17 rfl ?_
  obtain ⟨v4, c4, h⟩ := Option.bind_eq_some_iff.mp h
  refine AW.callV (As := []) (rest := []) (rv := none) (M' := v4) (pc' := 21) X (ok_X7_comesBack h0 c4) yv_X7_comesBack h0.1 h0.2.1 (cM h0 dA ad _) rfl rfl ml_X7_180 ⟨by decide, by decide, by decide, by decide⟩ rfl (Nat.le_of_ble_eq_true rfl) rfl rfl dX7_loopsLeft_18 rfl ?_
  refine AW.iload_n (k0 := 0) (pc' := 22) X rfl rfl dX7_loopsLeft_21 rfl ?_
  refine AW.if_eq (pc' := 25) (tgt := 29) X dX7_loopsLeft_22 rfl rfl (fun q5 => ?_) (fun q5 => ?_)
  · replace h := itep q5 h
    refine AW.bipush (v := (-6)) (pc' := 31) X rfl dX7_loopsLeft_29 rfl ?_
    refine AW.sub (ls' := []) [] rfl ?_
    exact ok_X7_loopsLeft_31 X hr h0 (-6) v4 R h
  · replace h := iten q5 h
    refine AW.iload_n (k0 := 1) (pc' := 26) X rfl rfl dX7_loopsLeft_25 rfl ?_
    refine AW.goto (pc' := 31) X dX7_loopsLeft_26 rfl ?_
    refine AW.sub (ls' := []) [] rfl ?_
    exact ok_X7_loopsLeft_31 X hr h0 v2.1 v4 R h
set_option maxHeartbeats 4000000 in
set_option maxRecDepth 100000 in
theorem ok_X7_wouldAbort_74 {a0 : Nat} (X : CX p s m args meth c cX7_wouldAbort 3 RX7 D dA ad lo n A) (hr : meth.sig.returnType = (some .int)) (h0 : tMo lo n a0) : ∀ (s0 : Int32) (M : MM) (R : (Int32 × MM)), f_X7_wouldAbort_74 a0 s0 M = some R → AR p l e 4 107 s m args below meth c D dA ad lo n 3 A (some (.int R.1)) R.2 74 [(0, .ref a0)] [.int s0] M := by
  intro s0 M R h
  unfold f_X7_wouldAbort_74 at h
  refine AW.istore_n (ls' := [(2, .int s0), (0, .ref a0)]) (pc' := 75) X rfl (by decide) rfl dX7_wouldAbort_74 rfl ?_
  refine AW.aload_n (k0 := 1) (pc' := 76) X rfl rfl dX7_wouldAbort_75 rfl ?_
  obtain ⟨v1, c1, h⟩ := Option.bind_eq_some_iff.mp h
  refine AW.callV (As := []) (rest := []) (rv := none) (M' := v1) (pc' := 79) X (ok_X7_comesBack h0 c1) yv_X7_comesBack h0.1 h0.2.1 (cM h0 dA ad _) rfl rfl ml_X7_180 ⟨by decide, by decide, by decide, by decide⟩ rfl (Nat.le_of_ble_eq_true rfl) rfl rfl dX7_wouldAbort_76 rfl ?_
  refine AW.iload_n (k0 := 0) (pc' := 80) X rfl rfl dX7_wouldAbort_79 rfl ?_
  replace h := Option.some.inj h
  subst h
  exact AW.iret X hr dX7_wouldAbort_80
set_option maxHeartbeats 4000000 in
set_option maxRecDepth 100000 in
theorem ok_X7_wouldAbort_52 {a0 : Nat} (X : CX p s m args meth c cX7_wouldAbort 3 RX7 D dA ad lo n A) (hr : meth.sig.returnType = (some .int)) (h0 : tMo lo n a0) : ∀ (M : MM) (R : (Int32 × MM)), f_X7_wouldAbort_52 a0 M = some R → AR p l e 4 107 s m args below meth c D dA ad lo n 3 A (some (.int R.1)) R.2 52 [(0, .ref a0)] [] M := by
  intro M R h
  unfold f_X7_wouldAbort_52 at h
  refine AW.aload_n (k0 := 0) (pc' := 53) X rfl rfl dX7_wouldAbort_52 rfl ?_
  refine AW.gX7 (v := .ref (a0 + 1)) (pc' := 56) X h0 0 (by decide) rfl mf_X7_7 rfl dX7_wouldAbort_53 rfl ?_
  refine AW.iconst (v := 1) (pc' := 57) X rfl dX7_wouldAbort_56 rfl ?_
  obtain ⟨g1, h⟩ := gd_some h
  refine AW.iald (pc' := 58) X (rM1 h0) (inb_vp g1) dX7_wouldAbort_57 rfl ?_
  refine AW.iconst (v := 3) (pc' := 59) X rfl dX7_wouldAbort_58 rfl ?_
  refine AW.icmp_ne (pc' := 62) (tgt := 72) X dX7_wouldAbort_59 rfl rfl (fun q2 => ?_) (fun q2 => ?_)
  · replace h := iten q2 h
    refine AW.bipush (v := (-6)) (pc' := 74) X rfl dX7_wouldAbort_72 rfl ?_
    exact ok_X7_wouldAbort_74 X hr h0 (-6) M R h
  · replace h := itep q2 h
    refine AW.aload_n (k0 := 0) (pc' := 63) X rfl rfl dX7_wouldAbort_62 rfl ?_
    refine AW.gX7 (v := .ref (a0 + 1)) (pc' := 66) X h0 0 (by decide) rfl mf_X7_7 rfl dX7_wouldAbort_63 rfl ?_
    refine AW.bipush (v := 9) (pc' := 68) X rfl dX7_wouldAbort_66 rfl ?_
    obtain ⟨g3, h⟩ := gd_some h
    refine AW.iald (pc' := 69) X (rM1 h0) (inb_vp g3) dX7_wouldAbort_68 rfl ?_
    refine AW.goto (pc' := 74) X dX7_wouldAbort_69 rfl ?_
    exact ok_X7_wouldAbort_74 X hr h0 (M (a0 + 1) (ix 9)) M R h
set_option maxHeartbeats 4000000 in
set_option maxRecDepth 100000 in
theorem ok_X7_wouldAbort_30 {a0 : Nat} (X : CX p s m args meth c cX7_wouldAbort 3 RX7 D dA ad lo n A) (hr : meth.sig.returnType = (some .int)) (h0 : tMo lo n a0) : ∀ (k : Nat) (x1 : Int32) (x2 : Int32) (M : MM) (R : (Int32 × MM)), f_X7_wouldAbort_30 a0 k x1 x2 M = some R → AR p l e 4 107 s m args below meth c D dA ad lo n 3 A (some (.int R.1)) R.2 30 [(0, .ref a0), (1, .int x1), (2, .int x2)] [] M := by
  intro k
  induction k with
  | zero => intro _ _ _ R h; exact none_some h
  | succ k ih =>
    intro x1 x2 M R h
    unfold f_X7_wouldAbort_30 at h
    refine AW.iload_n (k0 := 2) (pc' := 31) X rfl rfl dX7_wouldAbort_30 rfl ?_
    refine AW.iload_n (k0 := 1) (pc' := 32) X rfl rfl dX7_wouldAbort_31 rfl ?_
    refine AW.icmp_ge (pc' := 35) (tgt := 52) X dX7_wouldAbort_32 rfl rfl (fun q1 => ?_) (fun q1 => ?_)
    · replace h := itep q1 h
      refine AW.sub (ls' := [(0, .ref a0)]) [0] rfl ?_
      exact ok_X7_wouldAbort_52 X hr h0 M R h
    · replace h := iten q1 h
      refine AW.aload_n (k0 := 0) (pc' := 36) X rfl rfl dX7_wouldAbort_35 rfl ?_
      obtain ⟨v2, c2, h⟩ := Option.bind_eq_some_iff.mp h
      refine AW.callV (As := []) (rest := []) (rv := (some (.int (bz v2)))) (M' := M) (pc' := 39) X (ok_X7_canAbort h0 c2) yv_X7_canAbort h0.1 h0.2.1 (cM h0 dA ad _) rfl rfl ml_X7_134 ⟨by decide, by decide, by decide, by decide⟩ rfl (Nat.le_of_ble_eq_true rfl) rfl rfl dX7_wouldAbort_36 rfl ?_
      refine AW.if_eq (pc' := 42) (tgt := 52) X dX7_wouldAbort_39 rfl rfl (fun q3 => ?_) (fun q3 => ?_)
      · replace h := itep q3 h
        refine AW.sub (ls' := [(0, .ref a0)]) [0] rfl ?_
        exact ok_X7_wouldAbort_52 X hr h0 M R h
      · replace h := iten q3 h
        refine AW.aload_n (k0 := 0) (pc' := 43) X rfl rfl dX7_wouldAbort_42 rfl ?_
        obtain ⟨v4, c4, h⟩ := Option.bind_eq_some_iff.mp h
        refine AW.callV (As := []) (rest := []) (rv := none) (M' := v4) (pc' := 46) X (ok_X7_loop h0 c4) yv_X7_loop h0.1 h0.2.1 (cM h0 dA ad _) rfl rfl ml_X7_124 ⟨by decide, by decide, by decide, by decide⟩ rfl (Nat.le_of_ble_eq_true rfl) rfl rfl dX7_wouldAbort_43 rfl ?_
        refine AW.iinc (k0 := 2) (v := (x2 + 1)) (y := 1) (ls' := [(2, .int (x2 + 1)), (0, .ref a0), (1, .int x1)]) (pc' := 49) X rfl rfl rfl (by decide) rfl dX7_wouldAbort_46 rfl ?_
        refine AW.goto (pc' := 30) X dX7_wouldAbort_49 rfl ?_
        refine AW.sub (ls' := [(0, .ref a0), (1, .int x1), (2, .int (x2 + 1))]) [1, 2, 0] rfl ?_
        exact ih x1 (x2 + 1) v4 R h
set_option maxHeartbeats 4000000 in
set_option maxRecDepth 100000 in
theorem ok_X7_wouldAbort {lo n : Nat} {a0 : Nat} {x1 : Int32} {M : MM} {R : (Int32 × MM)} (h0 : tMo lo n a0) (h : f_X7_wouldAbort a0 x1 M = some R) : MC yX7_wouldAbort cX7_wouldAbort 3 (some .int) 4 107 lo n [.ref a0, .int x1] M (some (.int R.1)) R.2 := by
  refine MC.of (ls0 := [(0, .ref a0), (1, .int x1)]) (by decide) rfl (fun _ => Nat.le_of_ble_eq_true rfl) (fun p l e s m args below meth c D dA ad A X hr => ?_)
  replace X : CX p s m args meth c cX7_wouldAbort 3 RX7 D dA ad lo n A := X
  unfold f_X7_wouldAbort at h
  refine AW.iload_n (k0 := 1) (pc' := 1) X rfl rfl dX7_wouldAbort_0 rfl ?_
  refine AW.iconst (v := 1) (pc' := 2) X rfl dX7_wouldAbort_1 rfl ?_
  refine AW.sipush (v := 300) (pc' := 5) X rfl dX7_wouldAbort_2 rfl ?_
  obtain ⟨v1, c1, h⟩ := Option.bind_eq_some_iff.mp h
  refine AW.callS (As := [.int x1, .int 1, .int 300]) (rest := []) (rv := (some (.int (bz v1)))) (M' := M) (pc' := 8) X (ok_X7_in c1) yv_X7_in ml_X7_41 ⟨by decide, by decide, by decide, by decide⟩ rfl (Nat.le_of_ble_eq_true rfl) rfl rfl dX7_wouldAbort_5 rfl ?_
  refine AW.if_ne (pc' := 11) (tgt := 14) X dX7_wouldAbort_8 rfl rfl (fun q2 => ?_) (fun q2 => ?_)
  · replace h := iten q2 h
    refine AW.aload_n (k0 := 0) (pc' := 15) X rfl rfl dX7_wouldAbort_14 rfl ?_
    obtain ⟨v3, c3, h⟩ := Option.bind_eq_some_iff.mp h
    refine AW.callV (As := []) (rest := []) (rv := (some (.int (bz v3)))) (M' := M) (pc' := 18) X (ok_X7_canAbort h0 c3) yv_X7_canAbort h0.1 h0.2.1 (cM h0 dA ad _) rfl rfl ml_X7_134 ⟨by decide, by decide, by decide, by decide⟩ rfl (Nat.le_of_ble_eq_true rfl) rfl rfl dX7_wouldAbort_15 rfl ?_
    refine AW.if_ne (pc' := 21) (tgt := 24) X dX7_wouldAbort_18 rfl rfl (fun q4 => ?_) (fun q4 => ?_)
    · replace h := iten q4 h
      refine AW.aload_n (k0 := 0) (pc' := 25) X rfl rfl dX7_wouldAbort_24 rfl ?_
      obtain ⟨v5, c5, h⟩ := Option.bind_eq_some_iff.mp h
      refine AW.callV (As := []) (rest := []) (rv := none) (M' := v5) (pc' := 28) X (ok_X7_putAside h0 c5) yv_X7_putAside h0.1 h0.2.1 (cM h0 dA ad _) rfl rfl ml_X7_177 ⟨by decide, by decide, by decide, by decide⟩ rfl (Nat.le_of_ble_eq_true rfl) rfl rfl dX7_wouldAbort_25 rfl ?_
      refine AW.iconst (v := 0) (pc' := 29) X rfl dX7_wouldAbort_28 rfl ?_
      refine AW.istore_n (ls' := [(2, .int 0), (0, .ref a0), (1, .int x1)]) (pc' := 30) X rfl (by decide) rfl dX7_wouldAbort_29 rfl ?_
      refine AW.sub (ls' := [(0, .ref a0), (1, .int x1), (2, .int 0)]) [1, 2, 0] rfl ?_
      exact ok_X7_wouldAbort_30 X hr h0 FU x1 0 v5 R h
    · replace h := itep q4 h
      refine AW.bipush (v := (-6)) (pc' := 23) X rfl dX7_wouldAbort_21 rfl ?_
      replace h := Option.some.inj h
      subst h
      exact AW.iret X hr dX7_wouldAbort_23
  · replace h := itep q2 h
    refine AW.bipush (v := (-2)) (pc' := 13) X rfl dX7_wouldAbort_11 rfl ?_
    replace h := Option.some.inj h
    subst h
    exact AW.iret X hr dX7_wouldAbort_13
set_option maxHeartbeats 4000000 in
set_option maxRecDepth 100000 in
theorem ok_X7_highest_86 {a0 : Nat} (X : CX p s m args meth c cX7_highest 6 RX7 D dA ad lo n A) (hr : meth.sig.returnType = (some .int)) (h0 : tMo lo n a0) : ∀ (x3 : Int32) (M : MM) (R : (Int32 × MM)), f_X7_highest_86 a0 x3 M = some R → AR p l e 4 107 s m args below meth c D dA ad lo n 6 A (some (.int R.1)) R.2 86 [(0, .ref a0), (3, .int x3)] [] M := by
  intro x3 M R h
  unfold f_X7_highest_86 at h
  refine AW.aload_n (k0 := 0) (pc' := 87) X rfl rfl dX7_highest_86 rfl ?_
  obtain ⟨v1, c1, h⟩ := Option.bind_eq_some_iff.mp h
  refine AW.callV (As := []) (rest := []) (rv := none) (M' := v1) (pc' := 90) X (ok_X7_comesBack h0 c1) yv_X7_comesBack h0.1 h0.2.1 (cM h0 dA ad _) rfl rfl ml_X7_180 ⟨by decide, by decide, by decide, by decide⟩ rfl (Nat.le_of_ble_eq_true rfl) rfl rfl dX7_highest_87 rfl ?_
  refine AW.iload_n (k0 := 1) (pc' := 91) X rfl rfl dX7_highest_90 rfl ?_
  replace h := Option.some.inj h
  subst h
  exact AW.iret X hr dX7_highest_91
set_option maxHeartbeats 4000000 in
set_option maxRecDepth 100000 in
theorem ok_X7_highest_34 {a0 : Nat} (X : CX p s m args meth c cX7_highest 6 RX7 D dA ad lo n A) (hr : meth.sig.returnType = (some .int)) (h0 : tMo lo n a0) : ∀ (k : Nat) (x1 : Int32) (x2 : Int32) (x3 : Int32) (x4 : Int32) (M : MM) (R : (Int32 × MM)), f_X7_highest_34 a0 k x1 x2 x3 x4 M = some R → AR p l e 4 107 s m args below meth c D dA ad lo n 6 A (some (.int R.1)) R.2 34 [(0, .ref a0), (1, .int x1), (2, .int x2), (3, .int x3), (4, .int x4)] [] M := by
  intro k
  induction k with
  | zero => intro _ _ _ _ _ R h; exact none_some h
  | succ k ih =>
    intro x1 x2 x3 x4 M R h
    unfold f_X7_highest_34 at h
    refine AW.iload (k0 := 4) (pc' := 36) X rfl dX7_highest_34 rfl ?_
    refine AW.iload_n (k0 := 2) (pc' := 37) X rfl rfl dX7_highest_36 rfl ?_
    refine AW.icmp_ge (pc' := 40) (tgt := 86) X dX7_highest_37 rfl rfl (fun q1 => ?_) (fun q1 => ?_)
    · replace h := itep q1 h
      refine AW.sub (ls' := [(0, .ref a0), (3, .int x3)]) [0, 3] rfl ?_
      exact ok_X7_highest_86 X hr h0 x3 M R h
    · replace h := iten q1 h
      refine AW.aload_n (k0 := 0) (pc' := 41) X rfl rfl dX7_highest_40 rfl ?_
      obtain ⟨v2, c2, h⟩ := Option.bind_eq_some_iff.mp h
      refine AW.callV (As := []) (rest := []) (rv := (some (.int (bz v2)))) (M' := M) (pc' := 44) X (ok_X7_canAbort h0 c2) yv_X7_canAbort h0.1 h0.2.1 (cM h0 dA ad _) rfl rfl ml_X7_134 ⟨by decide, by decide, by decide, by decide⟩ rfl (Nat.le_of_ble_eq_true rfl) rfl rfl dX7_highest_41 rfl ?_
      refine AW.if_eq (pc' := 47) (tgt := 86) X dX7_highest_44 rfl rfl (fun q3 => ?_) (fun q3 => ?_)
      · replace h := itep q3 h
        refine AW.sub (ls' := [(0, .ref a0), (3, .int x3)]) [0, 3] rfl ?_
        exact ok_X7_highest_86 X hr h0 x3 M R h
      · replace h := iten q3 h
        refine AW.aload_n (k0 := 0) (pc' := 48) X rfl rfl dX7_highest_47 rfl ?_
        refine AW.gX7 (v := .ref (a0 + 1)) (pc' := 51) X h0 0 (by decide) rfl mf_X7_7 rfl dX7_highest_48 rfl ?_
        refine AW.iconst (v := 2) (pc' := 52) X rfl dX7_highest_51 rfl ?_
        obtain ⟨g4, h⟩ := gd_some h
        refine AW.iald (pc' := 53) X (rM1 h0) (inb_vp g4) dX7_highest_52 rfl ?_
        refine AW.istore (ls' := [(5, .int (M (a0 + 1) (ix 2))), (0, .ref a0), (1, .int x1), (2, .int x2), (3, .int x3), (4, .int x4)]) (pc' := 55) X (by decide) rfl dX7_highest_53 rfl ?_
        refine AW.aload_n (k0 := 1) (pc' := 56) X rfl rfl dX7_highest_55 rfl ?_
        obtain ⟨v5, c5, h⟩ := Option.bind_eq_some_iff.mp h
        refine AW.callV (As := []) (rest := []) (rv := none) (M' := v5) (pc' := 59) X (ok_X7_loop h0 c5) yv_X7_loop h0.1 h0.2.1 (cM h0 dA ad _) rfl rfl ml_X7_124 ⟨by decide, by decide, by decide, by decide⟩ rfl (Nat.le_of_ble_eq_true rfl) rfl rfl dX7_highest_56 rfl ?_
        refine AW.iload_n (k0 := 4) (pc' := 60) X rfl rfl dX7_highest_59 rfl ?_
        refine AW.aload_n (k0 := 1) (pc' := 61) X rfl rfl dX7_highest_60 rfl ?_
        refine AW.gX7 (v := .ref (a0 + 1)) (pc' := 64) X h0 0 (by decide) rfl mf_X7_7 rfl dX7_highest_61 rfl ?_
        refine AW.sipush (v := 308) (pc' := 67) X rfl dX7_highest_64 rfl ?_
        refine AW.bipush (v := 6) (pc' := 69) X rfl dX7_highest_67 rfl ?_
        refine AW.iload (k0 := 0) (pc' := 71) X rfl dX7_highest_69 rfl ?_
        refine AW.imul (pc' := 72) X dX7_highest_71 rfl ?_
        refine AW.iadd (pc' := 73) X dX7_highest_72 rfl ?_
        refine AW.iload_n (k0 := 2) (pc' := 74) X rfl rfl dX7_highest_73 rfl ?_
        refine AW.iadd (pc' := 75) X dX7_highest_74 rfl ?_
        obtain ⟨g6, h⟩ := gd_some h
        refine AW.iald (pc' := 76) X (rM1 h0) (inb_vp g6) dX7_highest_75 rfl ?_
        obtain ⟨v7, c7, h⟩ := Option.bind_eq_some_iff.mp h
        refine AW.callS (As := [.int x3, .int (v5 (a0 + 1) (ix ((308 + (6 * (M (a0 + 1) (ix 2)))) + x1)))]) (rest := []) (rv := (some (.int v7))) (M' := v5) (pc' := 79) X (ok_X7_greater c7) yv_X7_greater ml_X7_100 ⟨by decide, by decide, by decide, by decide⟩ rfl (Nat.le_of_ble_eq_true rfl) rfl rfl dX7_highest_76 rfl ?_
        refine AW.istore_n (ls' := [(3, .int v7), (5, .int (M (a0 + 1) (ix 2))), (0, .ref a0), (1, .int x1), (2, .int x2), (4, .int x4)]) (pc' := 80) X rfl (by decide) rfl dX7_highest_79 rfl ?_
        refine AW.iinc (k0 := 5) (v := (x4 + 1)) (y := 1) (ls' := [(4, .int (x4 + 1)), (3, .int v7), (5, .int (M (a0 + 1) (ix 2))), (0, .ref a0), (1, .int x1), (2, .int x2)]) (pc' := 83) X rfl rfl rfl (by decide) rfl dX7_highest_80 rfl ?_
        refine AW.goto (pc' := 34) X dX7_highest_83 rfl ?_
        refine AW.sub (ls' := [(0, .ref a0), (1, .int x1), (2, .int x2), (3, .int v7), (4, .int (x4 + 1))]) [3, 4, 5, 1, 0] rfl ?_
        exact ih x1 x2 v7 (x4 + 1) v5 R h
set_option maxHeartbeats 4000000 in
set_option maxRecDepth 100000 in
theorem ok_X7_highest {lo n : Nat} {a0 : Nat} {x1 : Int32} {x2 : Int32} {M : MM} {R : (Int32 × MM)} (h0 : tMo lo n a0) (h : f_X7_highest a0 x1 x2 M = some R) : MC yX7_highest cX7_highest 6 (some .int) 4 107 lo n [.ref a0, .int x1, .int x2] M (some (.int R.1)) R.2 := by
  refine MC.of (ls0 := [(0, .ref a0), (1, .int x1), (2, .int x2)]) (by decide) rfl (fun _ => Nat.le_of_ble_eq_true rfl) (fun p l e s m args below meth c D dA ad A X hr => ?_)
  replace X : CX p s m args meth c cX7_highest 6 RX7 D dA ad lo n A := X
  unfold f_X7_highest at h
  refine AW.aload_n (k0 := 0) (pc' := 1) X rfl rfl dX7_highest_0 rfl ?_
  refine AW.iload_n (k0 := 1) (pc' := 2) X rfl rfl dX7_highest_1 rfl ?_
  obtain ⟨v1, c1, h⟩ := Option.bind_eq_some_iff.mp h
  refine AW.callV (As := [.int x1]) (rest := []) (rv := (some (.int (bz v1)))) (M' := M) (pc' := 5) X (ok_X7_isChannel h0 c1) yv_X7_isChannel h0.1 h0.2.1 (cM h0 dA ad _) rfl rfl ml_X7_58 ⟨by decide, by decide, by decide, by decide⟩ rfl (Nat.le_of_ble_eq_true rfl) rfl rfl dX7_highest_2 rfl ?_
  refine AW.if_ne (pc' := 8) (tgt := 10) X dX7_highest_5 rfl rfl (fun q2 => ?_) (fun q2 => ?_)
  · replace h := iten q2 h
    refine AW.iload_n (k0 := 2) (pc' := 11) X rfl rfl dX7_highest_10 rfl ?_
    refine AW.iconst (v := 1) (pc' := 12) X rfl dX7_highest_11 rfl ?_
    refine AW.sipush (v := 300) (pc' := 15) X rfl dX7_highest_12 rfl ?_
    obtain ⟨v3, c3, h⟩ := Option.bind_eq_some_iff.mp h
    refine AW.callS (As := [.int x2, .int 1, .int 300]) (rest := []) (rv := (some (.int (bz v3)))) (M' := M) (pc' := 18) X (ok_X7_in c3) yv_X7_in ml_X7_41 ⟨by decide, by decide, by decide, by decide⟩ rfl (Nat.le_of_ble_eq_true rfl) rfl rfl dX7_highest_15 rfl ?_
    refine AW.if_ne (pc' := 21) (tgt := 24) X dX7_highest_18 rfl rfl (fun q4 => ?_) (fun q4 => ?_)
    · replace h := iten q4 h
      refine AW.aload_n (k0 := 0) (pc' := 25) X rfl rfl dX7_highest_24 rfl ?_
      obtain ⟨v5, c5, h⟩ := Option.bind_eq_some_iff.mp h
      refine AW.callV (As := []) (rest := []) (rv := none) (M' := v5) (pc' := 28) X (ok_X7_putAside h0 c5) yv_X7_putAside h0.1 h0.2.1 (cM h0 dA ad _) rfl rfl ml_X7_177 ⟨by decide, by decide, by decide, by decide⟩ rfl (Nat.le_of_ble_eq_true rfl) rfl rfl dX7_highest_25 rfl ?_
      refine AW.bipush (v := (-6)) (pc' := 30) X rfl dX7_highest_28 rfl ?_
      refine AW.istore_n (ls' := [(3, .int (-6)), (0, .ref a0), (1, .int x1), (2, .int x2)]) (pc' := 31) X rfl (by decide) rfl dX7_highest_30 rfl ?_
      refine AW.iconst (v := 0) (pc' := 32) X rfl dX7_highest_31 rfl ?_
      refine AW.istore (ls' := [(4, .int 0), (3, .int (-6)), (0, .ref a0), (1, .int x1), (2, .int x2)]) (pc' := 34) X (by decide) rfl dX7_highest_32 rfl ?_
      refine AW.sub (ls' := [(0, .ref a0), (1, .int x1), (2, .int x2), (3, .int (-6)), (4, .int 0)]) [2, 3, 4, 1, 0] rfl ?_
      exact ok_X7_highest_34 X hr h0 FU x1 x2 (-6) 0 v5 R h
    · replace h := itep q4 h
      refine AW.bipush (v := (-2)) (pc' := 23) X rfl dX7_highest_21 rfl ?_
      replace h := Option.some.inj h
      subst h
      exact AW.iret X hr dX7_highest_23
  · replace h := itep q2 h
    refine AW.iconst (v := (-1)) (pc' := 9) X rfl dX7_highest_8 rfl ?_
    replace h := Option.some.inj h
    subst h
    exact AW.iret X hr dX7_highest_9
end OK
