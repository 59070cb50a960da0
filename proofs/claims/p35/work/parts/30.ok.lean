/-! each method does what its function says: by program, a row an instruction -/
section OK
variable {p : Program} {l : Launch} {e : Env} {s : State} {m : MethodId} {args : Array Value} {below : List Frame} {meth : Method} {c : Code} {D : va_G} {dA : Nat → ClassId} {ad : Nat → Nat} {lo n : Nat} {A : Nat → Prop}
set_option maxHeartbeats 4000000 in
set_option maxRecDepth 100000 in
theorem ok_J7_fill_53178_5 {a0 : Nat} {L0 : Nat} (X : CX p s m args meth c cJ7_fill_53178 4 RJ7 D dA ad lo n A) (hr : meth.sig.returnType = none) (h0 : tIA lo n L0 a0) : ∀ (k : Nat) (x1 : Int32) (x2 : Int32) (x3 : Int32) (M : MM) (R : MM), f_J7_fill_53178_5 a0 L0 k x1 x2 x3 M = some R → AR p l e 0 0 s m args below meth c D dA ad lo n 4 A none R 5 [(0, .ref a0), (1, .int x1), (2, .int x2), (3, .int x3)] [] M := by
  intro k
  induction k with
  | zero => intro _ _ _ _ R h; exact none_some h
  | succ k ih =>
    intro x1 x2 x3 M R h
    unfold f_J7_fill_53178_5 at h
    refine AW.iload_n (k0 := 2) (pc' := 6) X rfl rfl dJ7_fill_53178_5 rfl ?_
    refine AW.iload_n (k0 := 3) (pc' := 7) X rfl rfl dJ7_fill_53178_6 rfl ?_
    refine AW.icmp_ge (pc' := 10) (tgt := 20) X dJ7_fill_53178_7 rfl rfl (fun q1 => ?_) (fun q1 => ?_)
    · replace h := itep q1 h
      replace h := Option.some.inj h
      subst h
      exact AW.vret X hr dJ7_fill_53178_20
    · replace h := iten q1 h
      refine AW.aload_n (k0 := 0) (pc' := 11) X rfl rfl dJ7_fill_53178_10 rfl ?_
      refine AW.iload_n (k0 := 2) (pc' := 12) X rfl rfl dJ7_fill_53178_11 rfl ?_
      refine AW.iload_n (k0 := 1) (pc' := 13) X rfl rfl dJ7_fill_53178_12 rfl ?_
      obtain ⟨g2, h⟩ := gd_some h
      refine AW.iast (pc' := 14) X h0 (inb_vp g2) dJ7_fill_53178_13 rfl ?_
      refine AW.iinc (k0 := 2) (v := (x2 + 1)) (y := 1) (ls' := [(2, .int (x2 + 1)), (0, .ref a0), (1, .int x1), (3, .int x3)]) (pc' := 17) X rfl rfl rfl (by decide) rfl dJ7_fill_53178_14 rfl ?_
      refine AW.goto (pc' := 5) X dJ7_fill_53178_17 rfl ?_
      refine AW.sub (ls' := [(0, .ref a0), (1, .int x1), (2, .int (x2 + 1)), (3, .int x3)]) [1, 2, 0, 3] rfl ?_
      exact ih x1 (x2 + 1) x3 (ms M a0 (ix x2) x1) R h
set_option maxHeartbeats 4000000 in
set_option maxRecDepth 100000 in
theorem ok_J7_fill_53178 {lo n : Nat} {a0 : Nat} {L0 : Nat} {x1 : Int32} {M : MM} {R : MM} (h0 : tIA lo n L0 a0) (h : f_J7_fill_53178 a0 L0 x1 M = some R) : MC yJ7_fill_53178 cJ7_fill_53178 4 none 0 0 lo n [.ref a0, .int x1] M none R := by
  refine MC.of (ls0 := [(0, .ref a0), (1, .int x1)]) (by decide) rfl (fun _ => Nat.le_of_ble_eq_true rfl) (fun p l e s m args below meth c D dA ad A X hr => ?_)
  replace X : CX p s m args meth c cJ7_fill_53178 4 RJ7 D dA ad lo n A := X
  unfold f_J7_fill_53178 at h
  refine AW.iconst (v := 0) (pc' := 1) X rfl dJ7_fill_53178_0 rfl ?_
  refine AW.istore_n (ls' := [(2, .int 0), (0, .ref a0), (1, .int x1)]) (pc' := 2) X rfl (by decide) rfl dJ7_fill_53178_1 rfl ?_
  refine AW.aload_n (k0 := 1) (pc' := 3) X rfl rfl dJ7_fill_53178_2 rfl ?_
  refine AW.alen (pc' := 4) X h0 rfl dJ7_fill_53178_3 rfl ?_
  refine AW.istore_n (ls' := [(3, .int (Int32.ofNat L0)), (2, .int 0), (0, .ref a0), (1, .int x1)]) (pc' := 5) X rfl (by decide) rfl dJ7_fill_53178_4 rfl ?_
  refine AW.sub (ls' := [(0, .ref a0), (1, .int x1), (2, .int 0), (3, .int (Int32.ofNat L0))]) [2, 3, 1, 0] rfl ?_
  exact ok_J7_fill_53178_5 X hr h0 FU x1 0 (Int32.ofNat L0) M R h
set_option maxHeartbeats 4000000 in
set_option maxRecDepth 100000 in
theorem ok_X0_forgetRun {lo n : Nat} {a0 : Nat} {M : MM} {R : MM} (h0 : tCh lo n a0) (h : f_X0_forgetRun a0 M = some R) : MC yX0_forgetRun cX0_forgetRun 1 none 1 23 lo n [.ref a0] M none R := by
  refine MC.of (ls0 := [(0, .ref a0)]) (by decide) rfl (fun _ => Nat.le_of_ble_eq_true rfl) (fun p l e s m args below meth c D dA ad A X hr => ?_)
  replace X : CX p s m args meth c cX0_forgetRun 1 RX0 D dA ad lo n A := X
  unfold f_X0_forgetRun at h
  refine AW.aload_n (k0 := 0) (pc' := 1) X rfl rfl dX0_forgetRun_0 rfl ?_
  refine AW.gX0 (v := .ref (a0 + 7)) (pc' := 4) X h0 10 (by decide) rfl mf_X0_30 rfl dX0_forgetRun_1 rfl ?_
  refine AW.bipush (v := (-6)) (pc' := 6) X rfl dX0_forgetRun_4 rfl ?_
  obtain ⟨v1, c1, h⟩ := Option.bind_eq_some_iff.mp h
  refine AW.callS (As := [.ref (a0 + 7), .int (-6)]) (rest := []) (rv := none) (M' := v1) (pc' := 9) X (ok_J7_fill_53178 (rC7 h0) c1) yv_J7_fill_53178 ml_X0_47 ⟨by decide, by decide, by decide, by decide⟩ rfl (Nat.le_of_ble_eq_true rfl) rfl rfl dX0_forgetRun_6 rfl ?_
  refine AW.aload_n (k0 := 0) (pc' := 10) X rfl rfl dX0_forgetRun_9 rfl ?_
  refine AW.iconst (v := 0) (pc' := 11) X rfl dX0_forgetRun_10 rfl ?_
  refine AW.pX0 (pc' := 14) X h0 14 (by decide) rfl mf_X0_62 rfl rfl (by simp [fsC, upd]) (Nat.le_of_ble_eq_true rfl) dX0_forgetRun_11 rfl ?_
  refine AW.aload_n (k0 := 0) (pc' := 15) X rfl rfl dX0_forgetRun_14 rfl ?_
  refine AW.iconst (v := 0) (pc' := 16) X rfl dX0_forgetRun_15 rfl ?_
  refine AW.pX0 (pc' := 19) X h0 15 (by decide) rfl mf_X0_65 rfl rfl (by simp [fsC, upd]) (Nat.le_of_ble_eq_true rfl) dX0_forgetRun_16 rfl ?_
  refine AW.aload_n (k0 := 0) (pc' := 20) X rfl rfl dX0_forgetRun_19 rfl ?_
  refine AW.iconst (v := 0) (pc' := 21) X rfl dX0_forgetRun_20 rfl ?_
  refine AW.pX0 (pc' := 24) X h0 16 (by decide) rfl mf_X0_68 rfl rfl (by simp [fsC, upd]) (Nat.le_of_ble_eq_true rfl) dX0_forgetRun_21 rfl ?_
  refine AW.aload_n (k0 := 0) (pc' := 25) X rfl rfl dX0_forgetRun_24 rfl ?_
  refine AW.iconst (v := 0) (pc' := 26) X rfl dX0_forgetRun_25 rfl ?_
  refine AW.pX0 (pc' := 29) X h0 17 (by decide) rfl mf_X0_71 rfl rfl (by simp [fsC, upd]) (Nat.le_of_ble_eq_true rfl) dX0_forgetRun_26 rfl ?_
  replace h := Option.some.inj h
  subst h
  exact AW.vret X hr dX0_forgetRun_29
set_option maxHeartbeats 4000000 in
set_option maxRecDepth 100000 in
theorem ok_X0_forgetGains {lo n : Nat} {a0 : Nat} {M : MM} {R : MM} (h0 : tCh lo n a0) (h : f_X0_forgetGains a0 M = some R) : MC yX0_forgetGains cX0_forgetGains 1 none 1 23 lo n [.ref a0] M none R := by
  refine MC.of (ls0 := [(0, .ref a0)]) (by decide) rfl (fun _ => Nat.le_of_ble_eq_true rfl) (fun p l e s m args below meth c D dA ad A X hr => ?_)
  replace X : CX p s m args meth c cX0_forgetGains 1 RX0 D dA ad lo n A := X
  unfold f_X0_forgetGains at h
  refine AW.aload_n (k0 := 0) (pc' := 1) X rfl rfl dX0_forgetGains_0 rfl ?_
  refine AW.gX0 (v := .ref (a0 + 8)) (pc' := 4) X h0 11 (by decide) rfl mf_X0_33 rfl dX0_forgetGains_1 rfl ?_
  refine AW.bipush (v := (-6)) (pc' := 6) X rfl dX0_forgetGains_4 rfl ?_
  obtain ⟨v1, c1, h⟩ := Option.bind_eq_some_iff.mp h
  refine AW.callS (As := [.ref (a0 + 8), .int (-6)]) (rest := []) (rv := none) (M' := v1) (pc' := 9) X (ok_J7_fill_53178 (rC8 h0) c1) yv_J7_fill_53178 ml_X0_47 ⟨by decide, by decide, by decide, by decide⟩ rfl (Nat.le_of_ble_eq_true rfl) rfl rfl dX0_forgetGains_6 rfl ?_
  replace h := Option.some.inj h
  subst h
  exact AW.vret X hr dX0_forgetGains_9
set_option maxHeartbeats 4000000 in
set_option maxRecDepth 100000 in
theorem ok_X0_become {lo n : Nat} {a0 : Nat} {b1 : Bool} {x2 : Int32} {x3 : Int32} {M : MM} {R : MM} (h0 : tCh lo n a0) (h : f_X0_become a0 b1 x2 x3 M = some R) : MC yX0_become cX0_become 4 none 2 43 lo n [.ref a0, .int (bz b1), .int x2, .int x3] M none R := by
  refine MC.of (ls0 := [(0, .ref a0), (1, .int (bz b1)), (2, .int x2), (3, .int x3)]) (by decide) rfl (fun _ => Nat.le_of_ble_eq_true rfl) (fun p l e s m args below meth c D dA ad A X hr => ?_)
  replace X : CX p s m args meth c cX0_become 4 RX0 D dA ad lo n A := X
  unfold f_X0_become at h
  refine AW.aload_n (k0 := 0) (pc' := 1) X rfl rfl dX0_become_0 rfl ?_
  refine AW.iload_n (k0 := 1) (pc' := 2) X rfl rfl dX0_become_1 rfl ?_
  refine AW.zX0 (b := b1) (pc' := 5) X h0 0 (by decide) rfl mf_X0_36 rfl rfl (by simp [fsC, upd, nz_bz]) (Nat.le_of_ble_eq_true rfl) dX0_become_2 rfl ?_
  refine AW.aload_n (k0 := 0) (pc' := 6) X rfl rfl dX0_become_5 rfl ?_
  refine AW.iload_n (k0 := 2) (pc' := 7) X rfl rfl dX0_become_6 rfl ?_
  refine AW.pX0 (pc' := 10) X h0 1 (by decide) rfl mf_X0_40 rfl rfl (by simp [fsC, upd]) (Nat.le_of_ble_eq_true rfl) dX0_become_7 rfl ?_
  refine AW.aload_n (k0 := 0) (pc' := 11) X rfl rfl dX0_become_10 rfl ?_
  refine AW.iload_n (k0 := 3) (pc' := 12) X rfl rfl dX0_become_11 rfl ?_
  refine AW.pX0 (pc' := 15) X h0 2 (by decide) rfl mf_X0_44 rfl rfl (by simp [fsC, upd]) (Nat.le_of_ble_eq_true rfl) dX0_become_12 rfl ?_
  refine AW.aload_n (k0 := 0) (pc' := 16) X rfl rfl dX0_become_15 rfl ?_
  refine AW.gX0 (v := .ref (a0 + 1)) (pc' := 19) X h0 3 (by decide) rfl mf_X0_9 rfl dX0_become_16 rfl ?_
  refine AW.iconst (v := 1) (pc' := 20) X rfl dX0_become_19 rfl ?_
  obtain ⟨v1, c1, h⟩ := Option.bind_eq_some_iff.mp h
  refine AW.callS (As := [.ref (a0 + 1), .int 1]) (rest := []) (rv := none) (M' := v1) (pc' := 23) X (ok_J7_fill_53178 (rC1 h0) c1) yv_J7_fill_53178 ml_X0_47 ⟨by decide, by decide, by decide, by decide⟩ rfl (Nat.le_of_ble_eq_true rfl) rfl rfl dX0_become_20 rfl ?_
  refine AW.aload_n (k0 := 0) (pc' := 24) X rfl rfl dX0_become_23 rfl ?_
  refine AW.gX0 (v := .ref (a0 + 2)) (pc' := 27) X h0 4 (by decide) rfl mf_X0_15 rfl dX0_become_24 rfl ?_
  refine AW.iconst (v := 1) (pc' := 28) X rfl dX0_become_27 rfl ?_
  obtain ⟨v2, c2, h⟩ := Option.bind_eq_some_iff.mp h
  refine AW.callS (As := [.ref (a0 + 2), .int 1]) (rest := []) (rv := none) (M' := v2) (pc' := 31) X (ok_J7_fill_53178 (rC2 h0) c2) yv_J7_fill_53178 ml_X0_47 ⟨by decide, by decide, by decide, by decide⟩ rfl (Nat.le_of_ble_eq_true rfl) rfl rfl dX0_become_28 rfl ?_
  refine AW.aload_n (k0 := 0) (pc' := 32) X rfl rfl dX0_become_31 rfl ?_
  refine AW.gX0 (v := .ref (a0 + 3)) (pc' := 35) X h0 5 (by decide) rfl mf_X0_18 rfl dX0_become_32 rfl ?_
  refine AW.iconst (v := 0) (pc' := 36) X rfl dX0_become_35 rfl ?_
  obtain ⟨v3, c3, h⟩ := Option.bind_eq_some_iff.mp h
  refine AW.callS (As := [.ref (a0 + 3), .int 0]) (rest := []) (rv := none) (M' := v3) (pc' := 39) X (ok_J7_fill_53178 (rC3 h0) c3) yv_J7_fill_53178 ml_X0_47 ⟨by decide, by decide, by decide, by decide⟩ rfl (Nat.le_of_ble_eq_true rfl) rfl rfl dX0_become_36 rfl ?_
  refine AW.aload_n (k0 := 0) (pc' := 40) X rfl rfl dX0_become_39 rfl ?_
  refine AW.iconst (v := 0) (pc' := 41) X rfl dX0_become_40 rfl ?_
  refine AW.pX0 (pc' := 44) X h0 9 (by decide) rfl mf_X0_53 rfl rfl (by simp [fsC, upd]) (Nat.le_of_ble_eq_true rfl) dX0_become_41 rfl ?_
  refine AW.aload_n (k0 := 0) (pc' := 45) X rfl rfl dX0_become_44 rfl ?_
  obtain ⟨v4, c4, h⟩ := Option.bind_eq_some_iff.mp h
  refine AW.callV (As := []) (rest := []) (rv := none) (M' := v4) (pc' := 48) X (ok_X0_forgetRun h0 c4) yv_X0_forgetRun h0.1 h0.2.1 (cC h0 dA ad _) rfl rfl ml_X0_56 ⟨by decide, by decide, by decide, by decide⟩ rfl (Nat.le_of_ble_eq_true rfl) rfl rfl dX0_become_45 rfl ?_
  refine AW.aload_n (k0 := 0) (pc' := 49) X rfl rfl dX0_become_48 rfl ?_
  obtain ⟨v5, c5, h⟩ := Option.bind_eq_some_iff.mp h
  refine AW.callV (As := []) (rest := []) (rv := none) (M' := v5) (pc' := 52) X (ok_X0_forgetGains h0 c5) yv_X0_forgetGains h0.1 h0.2.1 (cC h0 dA ad _) rfl rfl ml_X0_59 ⟨by decide, by decide, by decide, by decide⟩ rfl (Nat.le_of_ble_eq_true rfl) rfl rfl dX0_become_49 rfl ?_
  replace h := Option.some.inj h
  subst h
  exact AW.vret X hr dX0_become_52
set_option maxHeartbeats 4000000 in
set_option maxRecDepth 100000 in
theorem ok_X6_isWithin_15 {M : MM} (X : CX p s m args meth c cX6_isWithin 3 RX6 D dA ad lo n A) (hr : meth.sig.returnType = (some .boolean)) : ∀ (sb0 : Bool) (R : Bool), f_X6_isWithin_15 M sb0 = some R → AR p l e 0 0 s m args below meth c D dA ad lo n 3 A (some (.int (bz R))) M 15 [] [.int (bz sb0)] M := by
  intro sb0 R h
  unfold f_X6_isWithin_15 at h
  replace h := Option.some.inj h
  subst h
  exact AW.zret (b := sb0) X hr dX6_isWithin_15
set_option maxHeartbeats 4000000 in
set_option maxRecDepth 100000 in
theorem ok_X6_isWithin_14 {M : MM} (X : CX p s m args meth c cX6_isWithin 3 RX6 D dA ad lo n A) (hr : meth.sig.returnType = (some .boolean)) : ∀  (R : Bool), f_X6_isWithin_14 M  = some R → AR p l e 0 0 s m args below meth c D dA ad lo n 3 A (some (.int (bz R))) M 14 [] [] M := by
  intro  R h
  unfold f_X6_isWithin_14 at h
  refine AW.iconst (v := 0) (pc' := 15) X rfl dX6_isWithin_14 rfl ?_
  exact ok_X6_isWithin_15 X hr false R h
set_option maxHeartbeats 4000000 in
set_option maxRecDepth 100000 in
theorem ok_X6_isWithin {lo n : Nat} {x0 : Int32} {x1 : Int32} {x2 : Int32} {M : MM} {R : Bool}  (h : f_X6_isWithin x0 x1 x2 M = some R) : MC yX6_isWithin cX6_isWithin 3 (some .boolean) 0 0 lo n [.int x0, .int x1, .int x2] M (some (.int (bz R))) M := by
  refine MC.of (ls0 := [(0, .int x0), (1, .int x1), (2, .int x2)]) (by decide) rfl (fun _ => Nat.le_of_ble_eq_true rfl) (fun p l e s m args below meth c D dA ad A X hr => ?_)
  replace X : CX p s m args meth c cX6_isWithin 3 RX6 D dA ad lo n A := X
  unfold f_X6_isWithin at h
  refine AW.iload_n (k0 := 0) (pc' := 1) X rfl rfl dX6_isWithin_0 rfl ?_
  refine AW.iload_n (k0 := 1) (pc' := 2) X rfl rfl dX6_isWithin_1 rfl ?_
  refine AW.icmp_lt (pc' := 5) (tgt := 14) X dX6_isWithin_2 rfl rfl (fun q1 => ?_) (fun q1 => ?_)
  · replace h := itep q1 h
    refine AW.sub (ls' := []) [] rfl ?_
    exact ok_X6_isWithin_14 X hr R h
  · replace h := iten q1 h
    refine AW.iload_n (k0 := 0) (pc' := 6) X rfl rfl dX6_isWithin_5 rfl ?_
    refine AW.iload_n (k0 := 2) (pc' := 7) X rfl rfl dX6_isWithin_6 rfl ?_
    refine AW.icmp_gt (pc' := 10) (tgt := 14) X dX6_isWithin_7 rfl rfl (fun q2 => ?_) (fun q2 => ?_)
    · replace h := itep q2 h
      refine AW.sub (ls' := []) [] rfl ?_
      exact ok_X6_isWithin_14 X hr R h
    · replace h := iten q2 h
      refine AW.iconst (v := 1) (pc' := 11) X rfl dX6_isWithin_10 rfl ?_
      refine AW.goto (pc' := 15) X dX6_isWithin_11 rfl ?_
      refine AW.sub (ls' := []) [] rfl ?_
      exact ok_X6_isWithin_15 X hr true R h
set_option maxHeartbeats 4000000 in
set_option maxRecDepth 100000 in
theorem ok_X6_isFrequency {lo n : Nat} {x0 : Int32} {M : MM} {R : Bool}  (h : f_X6_isFrequency x0 M = some R) : MC yX6_isFrequency cX6_isFrequency 1 (some .boolean) 1 22 lo n [.int x0] M (some (.int (bz R))) M := by
  refine MC.of (ls0 := [(0, .int x0)]) (by decide) rfl (fun _ => Nat.le_of_ble_eq_true rfl) (fun p l e s m args below meth c D dA ad A X hr => ?_)
  replace X : CX p s m args meth c cX6_isFrequency 1 RX6 D dA ad lo n A := X
  unfold f_X6_isFrequency at h
  refine AW.iload_n (k0 := 0) (pc' := 1) X rfl rfl dX6_isFrequency_0 rfl ?_
  refine AW.iconst (v := 1) (pc' := 2) X rfl dX6_isFrequency_1 rfl ?_
  refine AW.sipush (v := 2000) (pc' := 5) X rfl dX6_isFrequency_2 rfl ?_
  obtain ⟨v1, c1, h⟩ := Option.bind_eq_some_iff.mp h
  refine AW.callS (As := [.int x0, .int 1, .int 2000]) (rest := []) (rv := (some (.int (bz v1)))) (M' := M) (pc' := 8) X (ok_X6_isWithin c1) yv_X6_isWithin ml_X6_137 ⟨by decide, by decide, by decide, by decide⟩ rfl (Nat.le_of_ble_eq_true rfl) rfl rfl dX6_isFrequency_5 rfl ?_
  replace h := Option.some.inj h
  subst h
  exact AW.zret (b := v1) X hr dX6_isFrequency_8
set_option maxHeartbeats 4000000 in
set_option maxRecDepth 100000 in
theorem ok_X0_gainAt_80 {a0 : Nat} {M : MM} (X : CX p s m args meth c cX0_gainAt 11 RX0 D dA ad lo n A) (hr : meth.sig.returnType = (some .int)) (h0 : tCh lo n a0) {rec9 : Int32 → Int64 → Int32 → Option Int32} (hrec9 : ∀ (x1 : Int32) (y2 : Int64) (x4 : Int32) (R : Int32), rec9 x1 y2 x4 = some R → AR p l e 0 0 s m args below meth c D dA ad lo n 11 A (some (.int R)) M 9 [(0, .ref a0), (1, .int x1), (2, .long (y2)), (4, .int x4)] [] M) : ∀ (x1 : Int32) (y2 : Int64) (x4 : Int32) (R : Int32), f_X0_gainAt_80 a0 M rec9 x1 y2 x4 = some R → AR p l e 0 0 s m args below meth c D dA ad lo n 11 A (some (.int R)) M 80 [(0, .ref a0), (1, .int x1), (2, .long (y2)), (4, .int x4)] [] M := by
  intro x1 y2 x4 R h
  unfold f_X0_gainAt_80 at h
  refine AW.iinc (k0 := 3) (v := (x4 + 1)) (y := 1) (ls' := [(4, .int (x4 + 1)), (0, .ref a0), (1, .int x1), (2, .long (y2))]) (pc' := 83) X rfl rfl rfl (by decide) rfl dX0_gainAt_80 rfl ?_
  refine AW.goto (pc' := 9) X dX0_gainAt_83 rfl ?_
  refine AW.sub (ls' := [(0, .ref a0), (1, .int x1), (2, .long (y2)), (4, .int (x4 + 1))]) [1, 2, 3, 0] rfl ?_
  exact hrec9 x1 y2 (x4 + 1) R h
set_option maxHeartbeats 4000000 in
set_option maxRecDepth 100000 in
theorem ok_X0_gainAt_9 {a0 : Nat} {M : MM} (X : CX p s m args meth c cX0_gainAt 11 RX0 D dA ad lo n A) (hr : meth.sig.returnType = (some .int)) (h0 : tCh lo n a0) : ∀ (k : Nat) (x1 : Int32) (y2 : Int64) (x4 : Int32) (R : Int32), f_X0_gainAt_9 a0 M k x1 y2 x4 = some R → AR p l e 0 0 s m args below meth c D dA ad lo n 11 A (some (.int R)) M 9 [(0, .ref a0), (1, .int x1), (2, .long (y2)), (4, .int x4)] [] M := by
  intro k
  induction k with
  | zero => intro _ _ _ R h; exact none_some h
  | succ k ih =>
    intro x1 y2 x4 R h
    unfold f_X0_gainAt_9 at h
    refine AW.iload (k0 := 3) (pc' := 11) X rfl dX0_gainAt_9 rfl ?_
    refine AW.iconst (v := 3) (pc' := 12) X rfl dX0_gainAt_11 rfl ?_
    refine AW.icmp_ge (pc' := 15) (tgt := 86) X dX0_gainAt_12 rfl rfl (fun q1 => ?_) (fun q1 => ?_)
    · replace h := itep q1 h
      refine AW.lload_n (k0 := 2) (pc' := 87) X rfl rfl dX0_gainAt_86 rfl ?_
      refine AW.l2i (pc' := 88) X dX0_gainAt_87 rfl ?_
      replace h := Option.some.inj h
      subst h
      exact AW.iret X hr dX0_gainAt_88
    · replace h := iten q1 h
      refine AW.iload_n (k0 := 1) (pc' := 16) X rfl rfl dX0_gainAt_15 rfl ?_
      refine AW.aload_n (k0 := 0) (pc' := 17) X rfl rfl dX0_gainAt_16 rfl ?_
      refine AW.gX0 (v := .ref (a0 + 1)) (pc' := 20) X h0 3 (by decide) rfl mf_X0_9 rfl dX0_gainAt_17 rfl ?_
      refine AW.iload (k0 := 3) (pc' := 22) X rfl dX0_gainAt_20 rfl ?_
      obtain ⟨g2, h⟩ := gd_some h
      refine AW.iald (pc' := 23) X (rC1 h0) (inb_vp g2) dX0_gainAt_22 rfl ?_
      refine AW.isub (pc' := 24) X dX0_gainAt_23 rfl ?_
      refine AW.i2l (pc' := 25) X dX0_gainAt_24 rfl ?_
      refine AW.lstore (ls' := [(5, .long ((Int32.toInt64 (x1 - (M (a0 + 1) (ix x4)))))), (0, .ref a0), (1, .int x1), (2, .long (y2)), (4, .int x4)]) (pc' := 27) X (by decide) rfl dX0_gainAt_25 rfl ?_
      refine AW.aload_n (k0 := 1) (pc' := 28) X rfl rfl dX0_gainAt_27 rfl ?_
      refine AW.gX0 (v := .ref (a0 + 2)) (pc' := 31) X h0 4 (by decide) rfl mf_X0_15 rfl dX0_gainAt_28 rfl ?_
      refine AW.iload (k0 := 4) (pc' := 33) X rfl dX0_gainAt_31 rfl ?_
      obtain ⟨g3, h⟩ := gd_some h
      refine AW.iald (pc' := 34) X (rC2 h0) (inb_vp g3) dX0_gainAt_33 rfl ?_
      refine AW.i2l (pc' := 35) X dX0_gainAt_34 rfl ?_
      refine AW.aload_n (k0 := 1) (pc' := 36) X rfl rfl dX0_gainAt_35 rfl ?_
      refine AW.gX0 (v := .ref (a0 + 2)) (pc' := 39) X h0 4 (by decide) rfl mf_X0_15 rfl dX0_gainAt_36 rfl ?_
      refine AW.iload (k0 := 4) (pc' := 41) X rfl dX0_gainAt_39 rfl ?_
      obtain ⟨g4, h⟩ := gd_some h
      refine AW.iald (pc' := 42) X (rC2 h0) (inb_vp g4) dX0_gainAt_41 rfl ?_
      refine AW.i2l (pc' := 43) X dX0_gainAt_42 rfl ?_
      refine AW.lmul (pc' := 44) X dX0_gainAt_43 rfl ?_
      refine AW.lstore (ls' := [(7, .long (((Int32.toInt64 (M (a0 + 2) (ix x4))) * (Int32.toInt64 (M (a0 + 2) (ix x4)))))), (5, .long ((Int32.toInt64 (x1 - (M (a0 + 1) (ix x4)))))), (0, .ref a0), (1, .int x1), (2, .long (y2)), (4, .int x4)]) (pc' := 46) X (by decide) rfl dX0_gainAt_44 rfl ?_
      refine AW.lload (k0 := 0) (pc' := 48) X rfl dX0_gainAt_46 rfl ?_
      refine AW.lload (k0 := 1) (pc' := 50) X rfl dX0_gainAt_48 rfl ?_
      refine AW.lload (k0 := 1) (pc' := 52) X rfl dX0_gainAt_50 rfl ?_
      refine AW.lmul (pc' := 53) X dX0_gainAt_52 rfl ?_
      refine AW.ladd (pc' := 54) X dX0_gainAt_53 rfl ?_
      refine AW.lstore (ls' := [(9, .long ((((Int32.toInt64 (M (a0 + 2) (ix x4))) * (Int32.toInt64 (M (a0 + 2) (ix x4)))) + ((Int32.toInt64 (x1 - (M (a0 + 1) (ix x4)))) * (Int32.toInt64 (x1 - (M (a0 + 1) (ix x4)))))))), (7, .long (((Int32.toInt64 (M (a0 + 2) (ix x4))) * (Int32.toInt64 (M (a0 + 2) (ix x4)))))), (5, .long ((Int32.toInt64 (x1 - (M (a0 + 1) (ix x4)))))), (0, .ref a0), (1, .int x1), (2, .long (y2)), (4, .int x4)]) (pc' := 56) X (by decide) rfl dX0_gainAt_54 rfl ?_
      refine AW.lload (k0 := 0) (pc' := 58) X rfl dX0_gainAt_56 rfl ?_
      refine AW.lconst (v := 0) (pc' := 59) X rfl dX0_gainAt_58 rfl ?_
      refine AW.lcmp (pc' := 60) X dX0_gainAt_59 rfl ?_
      refine AW.if_le (pc' := 63) (tgt := 80) X dX0_gainAt_60 rfl rfl (fun q5 => ?_) (fun q5 => ?_)
      · replace h := itep q5 h
        refine AW.sub (ls' := [(0, .ref a0), (1, .int x1), (2, .long (y2)), (4, .int x4)]) [3, 4, 5, 6] rfl ?_
        exact ok_X0_gainAt_80 X hr h0 ih x1 y2 x4 R h
      · replace h := iten q5 h
        refine AW.lload_n (k0 := 5) (pc' := 64) X rfl rfl dX0_gainAt_63 rfl ?_
        refine AW.aload_n (k0 := 3) (pc' := 65) X rfl rfl dX0_gainAt_64 rfl ?_
        refine AW.gX0 (v := .ref (a0 + 3)) (pc' := 68) X h0 5 (by decide) rfl mf_X0_18 rfl dX0_gainAt_65 rfl ?_
        refine AW.iload (k0 := 6) (pc' := 70) X rfl dX0_gainAt_68 rfl ?_
        obtain ⟨g6, h⟩ := gd_some h
        refine AW.iald (pc' := 71) X (rC3 h0) (inb_vp g6) dX0_gainAt_70 rfl ?_
        refine AW.i2l (pc' := 72) X dX0_gainAt_71 rfl ?_
        refine AW.lload (k0 := 1) (pc' := 74) X rfl dX0_gainAt_72 rfl ?_
        refine AW.lmul (pc' := 75) X dX0_gainAt_74 rfl ?_
        refine AW.lload (k0 := 0) (pc' := 77) X rfl dX0_gainAt_75 rfl ?_
        obtain ⟨g7, h⟩ := gd_some h
        refine AW.ldiv (pc' := 78) X (nzl_ne g7) dX0_gainAt_77 rfl ?_
        refine AW.ladd (pc' := 79) X dX0_gainAt_78 rfl ?_
        refine AW.lstore_n (ls' := [(2, .long ((y2 + (((Int32.toInt64 (M (a0 + 3) (ix x4))) * ((Int32.toInt64 (M (a0 + 2) (ix x4))) * (Int32.toInt64 (M (a0 + 2) (ix x4))))) / (((Int32.toInt64 (M (a0 + 2) (ix x4))) * (Int32.toInt64 (M (a0 + 2) (ix x4)))) + ((Int32.toInt64 (x1 - (M (a0 + 1) (ix x4)))) * (Int32.toInt64 (x1 - (M (a0 + 1) (ix x4)))))))))), (9, .long ((((Int32.toInt64 (M (a0 + 2) (ix x4))) * (Int32.toInt64 (M (a0 + 2) (ix x4)))) + ((Int32.toInt64 (x1 - (M (a0 + 1) (ix x4)))) * (Int32.toInt64 (x1 - (M (a0 + 1) (ix x4)))))))), (7, .long (((Int32.toInt64 (M (a0 + 2) (ix x4))) * (Int32.toInt64 (M (a0 + 2) (ix x4)))))), (5, .long ((Int32.toInt64 (x1 - (M (a0 + 1) (ix x4)))))), (0, .ref a0), (1, .int x1), (4, .int x4)]) (pc' := 80) X rfl (by decide) rfl dX0_gainAt_79 rfl ?_
        refine AW.sub (ls' := [(0, .ref a0), (1, .int x1), (2, .long ((y2 + (((Int32.toInt64 (M (a0 + 3) (ix x4))) * ((Int32.toInt64 (M (a0 + 2) (ix x4))) * (Int32.toInt64 (M (a0 + 2) (ix x4))))) / (((Int32.toInt64 (M (a0 + 2) (ix x4))) * (Int32.toInt64 (M (a0 + 2) (ix x4)))) + ((Int32.toInt64 (x1 - (M (a0 + 1) (ix x4)))) * (Int32.toInt64 (x1 - (M (a0 + 1) (ix x4)))))))))), (4, .int x4)]) [4, 5, 0, 6] rfl ?_
        exact ok_X0_gainAt_80 X hr h0 ih x1 (y2 + (((Int32.toInt64 (M (a0 + 3) (ix x4))) * ((Int32.toInt64 (M (a0 + 2) (ix x4))) * (Int32.toInt64 (M (a0 + 2) (ix x4))))) / (((Int32.toInt64 (M (a0 + 2) (ix x4))) * (Int32.toInt64 (M (a0 + 2) (ix x4)))) + ((Int32.toInt64 (x1 - (M (a0 + 1) (ix x4)))) * (Int32.toInt64 (x1 - (M (a0 + 1) (ix x4)))))))) x4 R h
set_option maxHeartbeats 4000000 in
set_option maxRecDepth 100000 in
theorem ok_X0_gainAt {lo n : Nat} {a0 : Nat} {x1 : Int32} {M : MM} {R : Int32} (h0 : tCh lo n a0) (h : f_X0_gainAt a0 x1 M = some R) : MC yX0_gainAt cX0_gainAt 11 (some .int) 0 0 lo n [.ref a0, .int x1] M (some (.int R)) M := by
  refine MC.of (ls0 := [(0, .ref a0), (1, .int x1)]) (by decide) rfl (fun _ => Nat.le_of_ble_eq_true rfl) (fun p l e s m args below meth c D dA ad A X hr => ?_)
  replace X : CX p s m args meth c cX0_gainAt 11 RX0 D dA ad lo n A := X
  unfold f_X0_gainAt at h
  refine AW.aload_n (k0 := 0) (pc' := 1) X rfl rfl dX0_gainAt_0 rfl ?_
  refine AW.gX0 (v := .int (M a0 1)) (pc' := 4) X h0 1 (by decide) rfl mf_X0_40 rfl dX0_gainAt_1 rfl ?_
  refine AW.i2l (pc' := 5) X dX0_gainAt_4 rfl ?_
  refine AW.lstore_n (ls' := [(2, .long ((Int32.toInt64 (M a0 1)))), (0, .ref a0), (1, .int x1)]) (pc' := 6) X rfl (by decide) rfl dX0_gainAt_5 rfl ?_
  refine AW.iconst (v := 0) (pc' := 7) X rfl dX0_gainAt_6 rfl ?_
  refine AW.istore (ls' := [(4, .int 0), (2, .long ((Int32.toInt64 (M a0 1)))), (0, .ref a0), (1, .int x1)]) (pc' := 9) X (by decide) rfl dX0_gainAt_7 rfl ?_
  refine AW.sub (ls' := [(0, .ref a0), (1, .int x1), (2, .long ((Int32.toInt64 (M a0 1)))), (4, .int 0)]) [2, 3, 1, 0] rfl ?_
  exact ok_X0_gainAt_9 X hr h0 FU x1 (Int32.toInt64 (M a0 1)) 0 R h
set_option maxHeartbeats 4000000 in
set_option maxRecDepth 100000 in
theorem ok_X0_putMode_40 {a0 : Nat} (X : CX p s m args meth c cX0_putMode 5 RX0 D dA ad lo n A) (hr : meth.sig.returnType = (some .int)) (h0 : tCh lo n a0) : ∀ (M : MM) (R : (Int32 × MM)), f_X0_putMode_40 a0 M = some R → AR p l e 2 42 s m args below meth c D dA ad lo n 5 A (some (.int R.1)) R.2 40 [] [] M := by
  intro M R h
  unfold f_X0_putMode_40 at h
  refine AW.bipush (v := (-2)) (pc' := 42) X rfl dX0_putMode_40 rfl ?_
  replace h := Option.some.inj h
  subst h
  exact AW.iret X hr dX0_putMode_42
set_option maxHeartbeats 4000000 in
set_option maxRecDepth 100000 in
theorem ok_X0_putMode {lo n : Nat} {a0 : Nat} {x1 : Int32} {x2 : Int32} {x3 : Int32} {x4 : Int32} {M : MM} {R : (Int32 × MM)} (h0 : tCh lo n a0) (h : f_X0_putMode a0 x1 x2 x3 x4 M = some R) : MC yX0_putMode cX0_putMode 5 (some .int) 2 42 lo n [.ref a0, .int x1, .int x2, .int x3, .int x4] M (some (.int R.1)) R.2 := by
  refine MC.of (ls0 := [(0, .ref a0), (1, .int x1), (2, .int x2), (3, .int x3), (4, .int x4)]) (by decide) rfl (fun _ => Nat.le_of_ble_eq_true rfl) (fun p l e s m args below meth c D dA ad A X hr => ?_)
  replace X : CX p s m args meth c cX0_putMode 5 RX0 D dA ad lo n A := X
  unfold f_X0_putMode at h
  refine AW.iload_n (k0 := 1) (pc' := 1) X rfl rfl dX0_putMode_0 rfl ?_
  refine AW.iconst (v := 0) (pc' := 2) X rfl dX0_putMode_1 rfl ?_
  refine AW.iconst (v := 2) (pc' := 3) X rfl dX0_putMode_2 rfl ?_
  obtain ⟨v1, c1, h⟩ := Option.bind_eq_some_iff.mp h
  refine AW.callN (As := [.int x1, .int 0, .int 2]) (rest := []) (rv := (some (.int (bz v1)))) (M' := M) (pc' := 6) X (ok_X6_isWithin c1) yv_X6_isWithin mn_X0_74 ⟨by decide, by decide, by decide, by decide⟩ rfl (Nat.le_of_ble_eq_true rfl) rfl rfl dX0_putMode_3 rfl ?_
  refine AW.if_ne (pc' := 9) (tgt := 11) X dX0_putMode_6 rfl rfl (fun q2 => ?_) (fun q2 => ?_)
  · replace h := iten q2 h
    refine AW.iload_n (k0 := 2) (pc' := 12) X rfl rfl dX0_putMode_11 rfl ?_
    obtain ⟨v3, c3, h⟩ := Option.bind_eq_some_iff.mp h
    refine AW.callN (As := [.int x2]) (rest := []) (rv := (some (.int (bz v3)))) (M' := M) (pc' := 15) X (ok_X6_isFrequency c3) yv_X6_isFrequency mn_X0_78 ⟨by decide, by decide, by decide, by decide⟩ rfl (Nat.le_of_ble_eq_true rfl) rfl rfl dX0_putMode_12 rfl ?_
    refine AW.if_eq (pc' := 18) (tgt := 40) X dX0_putMode_15 rfl rfl (fun q4 => ?_) (fun q4 => ?_)
    · replace h := itep q4 h
      refine AW.sub (ls' := []) [] rfl ?_
      exact ok_X0_putMode_40 X hr h0 M R h
    · replace h := iten q4 h
      refine AW.iload_n (k0 := 3) (pc' := 19) X rfl rfl dX0_putMode_18 rfl ?_
      refine AW.iconst (v := 1) (pc' := 20) X rfl dX0_putMode_19 rfl ?_
      refine AW.sipush (v := 500) (pc' := 23) X rfl dX0_putMode_20 rfl ?_
      obtain ⟨v5, c5, h⟩ := Option.bind_eq_some_iff.mp h
      refine AW.callN (As := [.int x3, .int 1, .int 500]) (rest := []) (rv := (some (.int (bz v5)))) (M' := M) (pc' := 26) X (ok_X6_isWithin c5) yv_X6_isWithin mn_X0_74 ⟨by decide, by decide, by decide, by decide⟩ rfl (Nat.le_of_ble_eq_true rfl) rfl rfl dX0_putMode_23 rfl ?_
      refine AW.if_eq (pc' := 29) (tgt := 40) X dX0_putMode_26 rfl rfl (fun q6 => ?_) (fun q6 => ?_)
      · replace h := itep q6 h
        refine AW.sub (ls' := []) [] rfl ?_
        exact ok_X0_putMode_40 X hr h0 M R h
      · replace h := iten q6 h
        refine AW.iload (k0 := 4) (pc' := 31) X rfl dX0_putMode_29 rfl ?_
        refine AW.iconst (v := 0) (pc' := 32) X rfl dX0_putMode_31 rfl ?_
        refine AW.ldc (pc' := 34) X mk_X0_82 dX0_putMode_32 rfl ?_
        obtain ⟨v7, c7, h⟩ := Option.bind_eq_some_iff.mp h
        refine AW.callN (As := [.int x4, .int 0, .int 50000]) (rest := []) (rv := (some (.int (bz v7)))) (M' := M) (pc' := 37) X (ok_X6_isWithin c7) yv_X6_isWithin mn_X0_74 ⟨by decide, by decide, by decide, by decide⟩ rfl (Nat.le_of_ble_eq_true rfl) rfl rfl dX0_putMode_34 rfl ?_
        refine AW.if_ne (pc' := 40) (tgt := 43) X dX0_putMode_37 rfl rfl (fun q8 => ?_) (fun q8 => ?_)
        · replace h := iten q8 h
          refine AW.aload_n (k0 := 0) (pc' := 44) X rfl rfl dX0_putMode_43 rfl ?_
          refine AW.gX0 (v := .ref (a0 + 1)) (pc' := 47) X h0 3 (by decide) rfl mf_X0_9 rfl dX0_putMode_44 rfl ?_
          refine AW.iload_n (k0 := 1) (pc' := 48) X rfl rfl dX0_putMode_47 rfl ?_
          refine AW.iload_n (k0 := 2) (pc' := 49) X rfl rfl dX0_putMode_48 rfl ?_
          obtain ⟨g9, h⟩ := gd_some h
          refine AW.iast (pc' := 50) X (rC1 h0) (inb_vp g9) dX0_putMode_49 rfl ?_
          refine AW.aload_n (k0 := 0) (pc' := 51) X rfl rfl dX0_putMode_50 rfl ?_
          refine AW.gX0 (v := .ref (a0 + 2)) (pc' := 54) X h0 4 (by decide) rfl mf_X0_15 rfl dX0_putMode_51 rfl ?_
          refine AW.iload_n (k0 := 1) (pc' := 55) X rfl rfl dX0_putMode_54 rfl ?_
          refine AW.iload_n (k0 := 3) (pc' := 56) X rfl rfl dX0_putMode_55 rfl ?_
          obtain ⟨g10, h⟩ := gd_some h
          refine AW.iast (pc' := 57) X (rC2 h0) (inb_vp g10) dX0_putMode_56 rfl ?_
          refine AW.aload_n (k0 := 0) (pc' := 58) X rfl rfl dX0_putMode_57 rfl ?_
          refine AW.gX0 (v := .ref (a0 + 3)) (pc' := 61) X h0 5 (by decide) rfl mf_X0_18 rfl dX0_putMode_58 rfl ?_
          refine AW.iload_n (k0 := 1) (pc' := 62) X rfl rfl dX0_putMode_61 rfl ?_
          refine AW.iload (k0 := 4) (pc' := 64) X rfl dX0_putMode_62 rfl ?_
          obtain ⟨g11, h⟩ := gd_some h
          refine AW.iast (pc' := 65) X (rC3 h0) (inb_vp g11) dX0_putMode_64 rfl ?_
          refine AW.aload_n (k0 := 0) (pc' := 66) X rfl rfl dX0_putMode_65 rfl ?_
          refine AW.iload_n (k0 := 2) (pc' := 67) X rfl rfl dX0_putMode_66 rfl ?_
          obtain ⟨v12, c12, h⟩ := Option.bind_eq_some_iff.mp h
          refine AW.callV (As := [.int x2]) (rest := []) (rv := (some (.int v12))) (M' := (ms (ms (ms M (a0 + 1) (ix x1) x2) (a0 + 2) (ix x1) x3) (a0 + 3) (ix x1) x4)) (pc' := 70) X (ok_X0_gainAt h0 c12) yv_X0_gainAt h0.1 h0.2.1 (cC h0 dA ad _) rfl rfl ml_X0_83 ⟨by decide, by decide, by decide, by decide⟩ rfl (Nat.le_of_ble_eq_true rfl) rfl rfl dX0_putMode_67 rfl ?_
          replace h := Option.some.inj h
          subst h
          exact AW.iret X hr dX0_putMode_70
        · replace h := itep q8 h
          refine AW.sub (ls' := []) [] rfl ?_
          exact ok_X0_putMode_40 X hr h0 M R h
  · replace h := itep q2 h
    refine AW.iconst (v := (-1)) (pc' := 10) X rfl dX0_putMode_9 rfl ?_
    replace h := Option.some.inj h
    subst h
    exact AW.iret X hr dX0_putMode_10
set_option maxHeartbeats 4000000 in
set_option maxRecDepth 100000 in
theorem ok_X0_putNotch_28 {a0 : Nat} (X : CX p s m args meth c cX0_putNotch 4 RX0 D dA ad lo n A) (hr : meth.sig.returnType = (some .int)) (h0 : tCh lo n a0) : ∀ (M : MM) (R : (Int32 × MM)), f_X0_putNotch_28 a0 M = some R → AR p l e 2 42 s m args below meth c D dA ad lo n 4 A (some (.int R.1)) R.2 28 [] [] M := by
  intro M R h
  unfold f_X0_putNotch_28 at h
  refine AW.bipush (v := (-2)) (pc' := 30) X rfl dX0_putNotch_28 rfl ?_
  replace h := Option.some.inj h
  subst h
  exact AW.iret X hr dX0_putNotch_30
set_option maxHeartbeats 4000000 in
set_option maxRecDepth 100000 in
theorem ok_X0_putNotch {lo n : Nat} {a0 : Nat} {x1 : Int32} {x2 : Int32} {x3 : Int32} {M : MM} {R : (Int32 × MM)} (h0 : tCh lo n a0) (h : f_X0_putNotch a0 x1 x2 x3 M = some R) : MC yX0_putNotch cX0_putNotch 4 (some .int) 2 42 lo n [.ref a0, .int x1, .int x2, .int x3] M (some (.int R.1)) R.2 := by
  refine MC.of (ls0 := [(0, .ref a0), (1, .int x1), (2, .int x2), (3, .int x3)]) (by decide) rfl (fun _ => Nat.le_of_ble_eq_true rfl) (fun p l e s m args below meth c D dA ad A X hr => ?_)
  replace X : CX p s m args meth c cX0_putNotch 4 RX0 D dA ad lo n A := X
  unfold f_X0_putNotch at h
  refine AW.iload_n (k0 := 1) (pc' := 1) X rfl rfl dX0_putNotch_0 rfl ?_
  obtain ⟨v1, c1, h⟩ := Option.bind_eq_some_iff.mp h
  refine AW.callN (As := [.int x1]) (rest := []) (rv := (some (.int (bz v1)))) (M' := M) (pc' := 4) X (ok_X6_isFrequency c1) yv_X6_isFrequency mn_X0_78 ⟨by decide, by decide, by decide, by decide⟩ rfl (Nat.le_of_ble_eq_true rfl) rfl rfl dX0_putNotch_1 rfl ?_
  refine AW.if_eq (pc' := 7) (tgt := 28) X dX0_putNotch_4 rfl rfl (fun q2 => ?_) (fun q2 => ?_)
  · replace h := itep q2 h
    refine AW.sub (ls' := []) [] rfl ?_
    exact ok_X0_putNotch_28 X hr h0 M R h
  · replace h := iten q2 h
    refine AW.iload_n (k0 := 2) (pc' := 8) X rfl rfl dX0_putNotch_7 rfl ?_
    refine AW.iload_n (k0 := 1) (pc' := 9) X rfl rfl dX0_putNotch_8 rfl ?_
    refine AW.sipush (v := 2000) (pc' := 12) X rfl dX0_putNotch_9 rfl ?_
    obtain ⟨v3, c3, h⟩ := Option.bind_eq_some_iff.mp h
    refine AW.callN (As := [.int x2, .int x1, .int 2000]) (rest := []) (rv := (some (.int (bz v3)))) (M' := M) (pc' := 15) X (ok_X6_isWithin c3) yv_X6_isWithin mn_X0_74 ⟨by decide, by decide, by decide, by decide⟩ rfl (Nat.le_of_ble_eq_true rfl) rfl rfl dX0_putNotch_12 rfl ?_
    refine AW.if_eq (pc' := 18) (tgt := 28) X dX0_putNotch_15 rfl rfl (fun q4 => ?_) (fun q4 => ?_)
    · replace h := itep q4 h
      refine AW.sub (ls' := []) [] rfl ?_
      exact ok_X0_putNotch_28 X hr h0 M R h
    · replace h := iten q4 h
      refine AW.iload_n (k0 := 3) (pc' := 19) X rfl rfl dX0_putNotch_18 rfl ?_
      refine AW.iconst (v := 1) (pc' := 20) X rfl dX0_putNotch_19 rfl ?_
      refine AW.ldc (pc' := 22) X mk_X0_87 dX0_putNotch_20 rfl ?_
      obtain ⟨v5, c5, h⟩ := Option.bind_eq_some_iff.mp h
      refine AW.callN (As := [.int x3, .int 1, .int 200000]) (rest := []) (rv := (some (.int (bz v5)))) (M' := M) (pc' := 25) X (ok_X6_isWithin c5) yv_X6_isWithin mn_X0_74 ⟨by decide, by decide, by decide, by decide⟩ rfl (Nat.le_of_ble_eq_true rfl) rfl rfl dX0_putNotch_22 rfl ?_
      refine AW.if_ne (pc' := 28) (tgt := 31) X dX0_putNotch_25 rfl rfl (fun q6 => ?_) (fun q6 => ?_)
      · replace h := iten q6 h
        refine AW.aload_n (k0 := 0) (pc' := 32) X rfl rfl dX0_putNotch_31 rfl ?_
        refine AW.gX0 (v := .int (M a0 9)) (pc' := 35) X h0 9 (by decide) rfl mf_X0_53 rfl dX0_putNotch_32 rfl ?_
        refine AW.iconst (v := 4) (pc' := 36) X rfl dX0_putNotch_35 rfl ?_
        refine AW.icmp_lt (pc' := 39) (tgt := 42) X dX0_putNotch_36 rfl rfl (fun q7 => ?_) (fun q7 => ?_)
        · replace h := itep q7 h
          refine AW.aload_n (k0 := 0) (pc' := 43) X rfl rfl dX0_putNotch_42 rfl ?_
          refine AW.gX0 (v := .ref (a0 + 4)) (pc' := 46) X h0 6 (by decide) rfl mf_X0_21 rfl dX0_putNotch_43 rfl ?_
          refine AW.aload_n (k0 := 0) (pc' := 47) X rfl rfl dX0_putNotch_46 rfl ?_
          refine AW.gX0 (v := .int (M a0 9)) (pc' := 50) X h0 9 (by decide) rfl mf_X0_53 rfl dX0_putNotch_47 rfl ?_
          refine AW.iload_n (k0 := 1) (pc' := 51) X rfl rfl dX0_putNotch_50 rfl ?_
          obtain ⟨g8, h⟩ := gd_some h
          refine AW.iast (pc' := 52) X (rC4 h0) (inb_vp g8) dX0_putNotch_51 rfl ?_
          refine AW.aload_n (k0 := 0) (pc' := 53) X rfl rfl dX0_putNotch_52 rfl ?_
          refine AW.gX0 (v := .ref (a0 + 5)) (pc' := 56) X h0 7 (by decide) rfl mf_X0_24 rfl dX0_putNotch_53 rfl ?_
          refine AW.aload_n (k0 := 0) (pc' := 57) X rfl rfl dX0_putNotch_56 rfl ?_
          refine AW.gX0 (v := .int ((ms M (a0 + 4) (ix (M a0 9)) x1) a0 9)) (pc' := 60) X h0 9 (by decide) rfl mf_X0_53 rfl dX0_putNotch_57 rfl ?_
          refine AW.iload_n (k0 := 2) (pc' := 61) X rfl rfl dX0_putNotch_60 rfl ?_
          obtain ⟨g9, h⟩ := gd_some h
          refine AW.iast (pc' := 62) X (rC5 h0) (inb_vp g9) dX0_putNotch_61 rfl ?_
          refine AW.aload_n (k0 := 0) (pc' := 63) X rfl rfl dX0_putNotch_62 rfl ?_
          refine AW.gX0 (v := .ref (a0 + 6)) (pc' := 66) X h0 8 (by decide) rfl mf_X0_27 rfl dX0_putNotch_63 rfl ?_
          refine AW.aload_n (k0 := 0) (pc' := 67) X rfl rfl dX0_putNotch_66 rfl ?_
          refine AW.gX0 (v := .int ((ms (ms M (a0 + 4) (ix (M a0 9)) x1) (a0 + 5) (ix ((ms M (a0 + 4) (ix (M a0 9)) x1) a0 9)) x2) a0 9)) (pc' := 70) X h0 9 (by decide) rfl mf_X0_53 rfl dX0_putNotch_67 rfl ?_
          refine AW.iload_n (k0 := 3) (pc' := 71) X rfl rfl dX0_putNotch_70 rfl ?_
          obtain ⟨g10, h⟩ := gd_some h
          refine AW.iast (pc' := 72) X (rC6 h0) (inb_vp g10) dX0_putNotch_71 rfl ?_
          refine AW.aload_n (k0 := 0) (pc' := 73) X rfl rfl dX0_putNotch_72 rfl ?_
          refine AW.dup (pc' := 74) X rfl dX0_putNotch_73 rfl ?_
          refine AW.gX0 (v := .int ((ms (ms (ms M (a0 + 4) (ix (M a0 9)) x1) (a0 + 5) (ix ((ms M (a0 + 4) (ix (M a0 9)) x1) a0 9)) x2) (a0 + 6) (ix ((ms (ms M (a0 + 4) (ix (M a0 9)) x1) (a0 + 5) (ix ((ms M (a0 + 4) (ix (M a0 9)) x1) a0 9)) x2) a0 9)) x3) a0 9)) (pc' := 77) X h0 9 (by decide) rfl mf_X0_53 rfl dX0_putNotch_74 rfl ?_
          refine AW.iconst (v := 1) (pc' := 78) X rfl dX0_putNotch_77 rfl ?_
          refine AW.iadd (pc' := 79) X dX0_putNotch_78 rfl ?_
          refine AW.pX0 (pc' := 82) X h0 9 (by decide) rfl mf_X0_53 rfl rfl (by simp [fsC, upd]) (Nat.le_of_ble_eq_true rfl) dX0_putNotch_79 rfl ?_
          refine AW.aload_n (k0 := 0) (pc' := 83) X rfl rfl dX0_putNotch_82 rfl ?_
          refine AW.gX0 (v := .int ((ms (ms (ms (ms M (a0 + 4) (ix (M a0 9)) x1) (a0 + 5) (ix ((ms M (a0 + 4) (ix (M a0 9)) x1) a0 9)) x2) (a0 + 6) (ix ((ms (ms M (a0 + 4) (ix (M a0 9)) x1) (a0 + 5) (ix ((ms M (a0 + 4) (ix (M a0 9)) x1) a0 9)) x2) a0 9)) x3) a0 9 (((ms (ms (ms M (a0 + 4) (ix (M a0 9)) x1) (a0 + 5) (ix ((ms M (a0 + 4) (ix (M a0 9)) x1) a0 9)) x2) (a0 + 6) (ix ((ms (ms M (a0 + 4) (ix (M a0 9)) x1) (a0 + 5) (ix ((ms M (a0 + 4) (ix (M a0 9)) x1) a0 9)) x2) a0 9)) x3) a0 9) + 1)) a0 9)) (pc' := 86) X h0 9 (by decide) rfl mf_X0_53 rfl dX0_putNotch_83 rfl ?_
          refine AW.iconst (v := 1) (pc' := 87) X rfl dX0_putNotch_86 rfl ?_
          refine AW.isub (pc' := 88) X dX0_putNotch_87 rfl ?_
          replace h := Option.some.inj h
          subst h
          exact AW.iret X hr dX0_putNotch_88
        · replace h := iten q7 h
          refine AW.bipush (v := (-4)) (pc' := 41) X rfl dX0_putNotch_39 rfl ?_
          replace h := Option.some.inj h
          subst h
          exact AW.iret X hr dX0_putNotch_41
      · replace h := itep q6 h
        refine AW.sub (ls' := []) [] rfl ?_
        exact ok_X0_putNotch_28 X hr h0 M R h
set_option maxHeartbeats 4000000 in
set_option maxRecDepth 100000 in
theorem ok_X0_limitAt_68 {a0 : Nat} {M : MM} (X : CX p s m args meth c cX0_limitAt 5 RX0 D dA ad lo n A) (hr : meth.sig.returnType = (some .int)) (h0 : tCh lo n a0) {rec5 : Int32 → Int32 → Int32 → Option Int32} (hrec5 : ∀ (x1 : Int32) (x2 : Int32) (x3 : Int32) (R : Int32), rec5 x1 x2 x3 = some R → AR p l e 0 0 s m args below meth c D dA ad lo n 5 A (some (.int R)) M 5 [(0, .ref a0), (1, .int x1), (2, .int x2), (3, .int x3)] [] M) : ∀ (x1 : Int32) (x2 : Int32) (x3 : Int32) (R : Int32), f_X0_limitAt_68 a0 M rec5 x1 x2 x3 = some R → AR p l e 0 0 s m args below meth c D dA ad lo n 5 A (some (.int R)) M 68 [(0, .ref a0), (1, .int x1), (2, .int x2), (3, .int x3)] [] M := by
  intro x1 x2 x3 R h
  unfold f_X0_limitAt_68 at h
  refine AW.iinc (k0 := 3) (v := (x3 + 1)) (y := 1) (ls' := [(3, .int (x3 + 1)), (0, .ref a0), (1, .int x1), (2, .int x2)]) (pc' := 71) X rfl rfl rfl (by decide) rfl dX0_limitAt_68 rfl ?_
  refine AW.goto (pc' := 5) X dX0_limitAt_71 rfl ?_
  refine AW.sub (ls' := [(0, .ref a0), (1, .int x1), (2, .int x2), (3, .int (x3 + 1))]) [1, 2, 3, 0] rfl ?_
  exact hrec5 x1 x2 (x3 + 1) R h
set_option maxHeartbeats 4000000 in
set_option maxRecDepth 100000 in
theorem ok_X0_limitAt_61 {a0 : Nat} {M : MM} (X : CX p s m args meth c cX0_limitAt 5 RX0 D dA ad lo n A) (hr : meth.sig.returnType = (some .int)) (h0 : tCh lo n a0) {rec5 : Int32 → Int32 → Int32 → Option Int32} (hrec5 : ∀ (x1 : Int32) (x2 : Int32) (x3 : Int32) (R : Int32), rec5 x1 x2 x3 = some R → AR p l e 0 0 s m args below meth c D dA ad lo n 5 A (some (.int R)) M 5 [(0, .ref a0), (1, .int x1), (2, .int x2), (3, .int x3)] [] M) : ∀ (x1 : Int32) (x3 : Int32) (R : Int32), f_X0_limitAt_61 a0 M rec5 x1 x3 = some R → AR p l e 0 0 s m args below meth c D dA ad lo n 5 A (some (.int R)) M 61 [(0, .ref a0), (1, .int x1), (3, .int x3)] [] M := by
  intro x1 x3 R h
  unfold f_X0_limitAt_61 at h
  refine AW.aload_n (k0 := 0) (pc' := 62) X rfl rfl dX0_limitAt_61 rfl ?_
  refine AW.gX0 (v := .ref (a0 + 6)) (pc' := 65) X h0 8 (by decide) rfl mf_X0_27 rfl dX0_limitAt_62 rfl ?_
  refine AW.iload_n (k0 := 2) (pc' := 66) X rfl rfl dX0_limitAt_65 rfl ?_
  obtain ⟨g1, h⟩ := gd_some h
  refine AW.iald (pc' := 67) X (rC6 h0) (inb_vp g1) dX0_limitAt_66 rfl ?_
  refine AW.istore_n (ls' := [(2, .int (M (a0 + 6) (ix x3))), (0, .ref a0), (1, .int x1), (3, .int x3)]) (pc' := 68) X rfl (by decide) rfl dX0_limitAt_67 rfl ?_
  refine AW.sub (ls' := [(0, .ref a0), (1, .int x1), (2, .int (M (a0 + 6) (ix x3))), (3, .int x3)]) [1, 2, 0, 3] rfl ?_
  exact ok_X0_limitAt_68 X hr h0 hrec5 x1 (M (a0 + 6) (ix x3)) x3 R h
set_option maxHeartbeats 4000000 in
set_option maxRecDepth 100000 in
theorem ok_X0_limitAt_38 {a0 : Nat} {M : MM} (X : CX p s m args meth c cX0_limitAt 5 RX0 D dA ad lo n A) (hr : meth.sig.returnType = (some .int)) (h0 : tCh lo n a0) {rec5 : Int32 → Int32 → Int32 → Option Int32} (hrec5 : ∀ (x1 : Int32) (x2 : Int32) (x3 : Int32) (R : Int32), rec5 x1 x2 x3 = some R → AR p l e 0 0 s m args below meth c D dA ad lo n 5 A (some (.int R)) M 5 [(0, .ref a0), (1, .int x1), (2, .int x2), (3, .int x3)] [] M) : ∀ (x1 : Int32) (x2 : Int32) (x3 : Int32) (sb0 : Bool) (R : Int32), f_X0_limitAt_38 a0 M rec5 x1 x2 x3 sb0 = some R → AR p l e 0 0 s m args below meth c D dA ad lo n 5 A (some (.int R)) M 38 [(0, .ref a0), (1, .int x1), (2, .int x2), (3, .int x3)] [.int (bz sb0)] M := by
  intro x1 x2 x3 sb0 R h
  unfold f_X0_limitAt_38 at h
  refine AW.istore (ls' := [(4, .int (bz sb0)), (0, .ref a0), (1, .int x1), (2, .int x2), (3, .int x3)]) (pc' := 40) X (by decide) rfl dX0_limitAt_38 rfl ?_
  refine AW.iload (k0 := 0) (pc' := 42) X rfl dX0_limitAt_40 rfl ?_
  refine AW.if_eq (pc' := 45) (tgt := 68) X dX0_limitAt_42 rfl rfl (fun q1 => ?_) (fun q1 => ?_)
  · replace h := itep q1 h
    refine AW.sub (ls' := [(0, .ref a0), (1, .int x1), (2, .int x2), (3, .int x3)]) [1, 2, 3, 4] rfl ?_
    exact ok_X0_limitAt_68 X hr h0 hrec5 x1 x2 x3 R h
  · replace h := iten q1 h
    refine AW.iload_n (k0 := 3) (pc' := 46) X rfl rfl dX0_limitAt_45 rfl ?_
    refine AW.bipush (v := (-6)) (pc' := 48) X rfl dX0_limitAt_46 rfl ?_
    refine AW.icmp_eq (pc' := 51) (tgt := 61) X dX0_limitAt_48 rfl rfl (fun q2 => ?_) (fun q2 => ?_)
    · replace h := itep q2 h
      refine AW.sub (ls' := [(0, .ref a0), (1, .int x1), (3, .int x3)]) [1, 2, 4] rfl ?_
      exact ok_X0_limitAt_61 X hr h0 hrec5 x1 x3 R h
    · replace h := iten q2 h
      refine AW.aload_n (k0 := 1) (pc' := 52) X rfl rfl dX0_limitAt_51 rfl ?_
      refine AW.gX0 (v := .ref (a0 + 6)) (pc' := 55) X h0 8 (by decide) rfl mf_X0_27 rfl dX0_limitAt_52 rfl ?_
      refine AW.iload_n (k0 := 4) (pc' := 56) X rfl rfl dX0_limitAt_55 rfl ?_
      obtain ⟨g3, h⟩ := gd_some h
      refine AW.iald (pc' := 57) X (rC6 h0) (inb_vp g3) dX0_limitAt_56 rfl ?_
      refine AW.iload_n (k0 := 3) (pc' := 58) X rfl rfl dX0_limitAt_57 rfl ?_
      refine AW.icmp_ge (pc' := 61) (tgt := 68) X dX0_limitAt_58 rfl rfl (fun q4 => ?_) (fun q4 => ?_)
      · replace h := itep q4 h
        refine AW.sub (ls' := [(0, .ref a0), (1, .int x1), (2, .int x2), (3, .int x3)]) [1, 2, 3, 4] rfl ?_
        exact ok_X0_limitAt_68 X hr h0 hrec5 x1 x2 x3 R h
      · replace h := iten q4 h
        refine AW.sub (ls' := [(0, .ref a0), (1, .int x1), (3, .int x3)]) [1, 2, 4] rfl ?_
        exact ok_X0_limitAt_61 X hr h0 hrec5 x1 x3 R h
set_option maxHeartbeats 4000000 in
set_option maxRecDepth 100000 in
theorem ok_X0_limitAt_37 {a0 : Nat} {M : MM} (X : CX p s m args meth c cX0_limitAt 5 RX0 D dA ad lo n A) (hr : meth.sig.returnType = (some .int)) (h0 : tCh lo n a0) {rec5 : Int32 → Int32 → Int32 → Option Int32} (hrec5 : ∀ (x1 : Int32) (x2 : Int32) (x3 : Int32) (R : Int32), rec5 x1 x2 x3 = some R → AR p l e 0 0 s m args below meth c D dA ad lo n 5 A (some (.int R)) M 5 [(0, .ref a0), (1, .int x1), (2, .int x2), (3, .int x3)] [] M) : ∀ (x1 : Int32) (x2 : Int32) (x3 : Int32) (R : Int32), f_X0_limitAt_37 a0 M rec5 x1 x2 x3 = some R → AR p l e 0 0 s m args below meth c D dA ad lo n 5 A (some (.int R)) M 37 [(0, .ref a0), (1, .int x1), (2, .int x2), (3, .int x3)] [] M := by
  intro x1 x2 x3 R h
  unfold f_X0_limitAt_37 at h
  refine AW.iconst (v := 0) (pc' := 38) X rfl dX0_limitAt_37 rfl ?_
  exact ok_X0_limitAt_38 X hr h0 hrec5 x1 x2 x3 false R h
set_option maxHeartbeats 4000000 in
set_option maxRecDepth 100000 in
theorem ok_X0_limitAt_5 {a0 : Nat} {M : MM} (X : CX p s m args meth c cX0_limitAt 5 RX0 D dA ad lo n A) (hr : meth.sig.returnType = (some .int)) (h0 : tCh lo n a0) : ∀ (k : Nat) (x1 : Int32) (x2 : Int32) (x3 : Int32) (R : Int32), f_X0_limitAt_5 a0 M k x1 x2 x3 = some R → AR p l e 0 0 s m args below meth c D dA ad lo n 5 A (some (.int R)) M 5 [(0, .ref a0), (1, .int x1), (2, .int x2), (3, .int x3)] [] M := by
  intro k
  induction k with
  | zero => intro _ _ _ R h; exact none_some h
  | succ k ih =>
    intro x1 x2 x3 R h
    unfold f_X0_limitAt_5 at h
    refine AW.iload_n (k0 := 3) (pc' := 6) X rfl rfl dX0_limitAt_5 rfl ?_
    refine AW.aload_n (k0 := 0) (pc' := 7) X rfl rfl dX0_limitAt_6 rfl ?_
    refine AW.gX0 (v := .int (M a0 9)) (pc' := 10) X h0 9 (by decide) rfl mf_X0_53 rfl dX0_limitAt_7 rfl ?_
    refine AW.icmp_ge (pc' := 13) (tgt := 74) X dX0_limitAt_10 rfl rfl (fun q1 => ?_) (fun q1 => ?_)
    · replace h := itep q1 h
      refine AW.iload_n (k0 := 2) (pc' := 75) X rfl rfl dX0_limitAt_74 rfl ?_
      replace h := Option.some.inj h
      subst h
      exact AW.iret X hr dX0_limitAt_75
    · replace h := iten q1 h
      refine AW.aload_n (k0 := 0) (pc' := 14) X rfl rfl dX0_limitAt_13 rfl ?_
      refine AW.gX0 (v := .ref (a0 + 4)) (pc' := 17) X h0 6 (by decide) rfl mf_X0_21 rfl dX0_limitAt_14 rfl ?_
      refine AW.iload_n (k0 := 3) (pc' := 18) X rfl rfl dX0_limitAt_17 rfl ?_
      obtain ⟨g2, h⟩ := gd_some h
      refine AW.iald (pc' := 19) X (rC4 h0) (inb_vp g2) dX0_limitAt_18 rfl ?_
      refine AW.iload_n (k0 := 1) (pc' := 20) X rfl rfl dX0_limitAt_19 rfl ?_
      refine AW.icmp_gt (pc' := 23) (tgt := 37) X dX0_limitAt_20 rfl rfl (fun q3 => ?_) (fun q3 => ?_)
      · replace h := itep q3 h
        exact ok_X0_limitAt_37 X hr h0 ih x1 x2 x3 R h
      · replace h := iten q3 h
        refine AW.iload_n (k0 := 1) (pc' := 24) X rfl rfl dX0_limitAt_23 rfl ?_
        refine AW.aload_n (k0 := 0) (pc' := 25) X rfl rfl dX0_limitAt_24 rfl ?_
        refine AW.gX0 (v := .ref (a0 + 5)) (pc' := 28) X h0 7 (by decide) rfl mf_X0_24 rfl dX0_limitAt_25 rfl ?_
        refine AW.iload_n (k0 := 3) (pc' := 29) X rfl rfl dX0_limitAt_28 rfl ?_
        obtain ⟨g4, h⟩ := gd_some h
        refine AW.iald (pc' := 30) X (rC5 h0) (inb_vp g4) dX0_limitAt_29 rfl ?_
        refine AW.icmp_gt (pc' := 33) (tgt := 37) X dX0_limitAt_30 rfl rfl (fun q5 => ?_) (fun q5 => ?_)
        · replace h := itep q5 h
          exact ok_X0_limitAt_37 X hr h0 ih x1 x2 x3 R h
        · replace h := iten q5 h
          refine AW.iconst (v := 1) (pc' := 34) X rfl dX0_limitAt_33 rfl ?_
          refine AW.goto (pc' := 38) X dX0_limitAt_34 rfl ?_
          exact ok_X0_limitAt_38 X hr h0 ih x1 x2 x3 true R h
set_option maxHeartbeats 4000000 in
set_option maxRecDepth 100000 in
theorem ok_X0_limitAt {lo n : Nat} {a0 : Nat} {x1 : Int32} {M : MM} {R : Int32} (h0 : tCh lo n a0) (h : f_X0_limitAt a0 x1 M = some R) : MC yX0_limitAt cX0_limitAt 5 (some .int) 0 0 lo n [.ref a0, .int x1] M (some (.int R)) M := by
  refine MC.of (ls0 := [(0, .ref a0), (1, .int x1)]) (by decide) rfl (fun _ => Nat.le_of_ble_eq_true rfl) (fun p l e s m args below meth c D dA ad A X hr => ?_)
  replace X : CX p s m args meth c cX0_limitAt 5 RX0 D dA ad lo n A := X
  unfold f_X0_limitAt at h
  refine AW.bipush (v := (-6)) (pc' := 2) X rfl dX0_limitAt_0 rfl ?_
  refine AW.istore_n (ls' := [(2, .int (-6)), (0, .ref a0), (1, .int x1)]) (pc' := 3) X rfl (by decide) rfl dX0_limitAt_2 rfl ?_
  refine AW.iconst (v := 0) (pc' := 4) X rfl dX0_limitAt_3 rfl ?_
  refine AW.istore_n (ls' := [(3, .int 0), (2, .int (-6)), (0, .ref a0), (1, .int x1)]) (pc' := 5) X rfl (by decide) rfl dX0_limitAt_4 rfl ?_
  refine AW.sub (ls' := [(0, .ref a0), (1, .int x1), (2, .int (-6)), (3, .int 0)]) [2, 3, 1, 0] rfl ?_
  exact ok_X0_limitAt_5 X hr h0 FU x1 (-6) 0 R h
set_option maxHeartbeats 4000000 in
set_option maxRecDepth 100000 in
theorem ok_X6_measuredGain_18 {M : MM} (X : CX p s m args meth c cX6_measuredGain 2 RX6 D dA ad lo n A) (hr : meth.sig.returnType = (some .int)) : ∀ (s0 : Int32) (R : Int32), f_X6_measuredGain_18 M s0 = some R → AR p l e 0 0 s m args below meth c D dA ad lo n 2 A (some (.int R)) M 18 [] [.int s0] M := by
  intro s0 R h
  unfold f_X6_measuredGain_18 at h
  replace h := Option.some.inj h
  subst h
  exact AW.iret X hr dX6_measuredGain_18
set_option maxHeartbeats 4000000 in
set_option maxRecDepth 100000 in
theorem ok_X6_measuredGain {lo n : Nat} {x0 : Int32} {x1 : Int32} {M : MM} {R : Int32}  (h : f_X6_measuredGain x0 x1 M = some R) : MC yX6_measuredGain cX6_measuredGain 2 (some .int) 0 0 lo n [.int x0, .int x1] M (some (.int R)) M := by
  refine MC.of (ls0 := [(0, .int x0), (1, .int x1)]) (by decide) rfl (fun _ => Nat.le_of_ble_eq_true rfl) (fun p l e s m args below meth c D dA ad A X hr => ?_)
  replace X : CX p s m args meth c cX6_measuredGain 2 RX6 D dA ad lo n A := X
  unfold f_X6_measuredGain at h
  refine AW.iload_n (k0 := 1) (pc' := 1) X rfl rfl dX6_measuredGain_0 rfl ?_
  refine AW.if_le (pc' := 4) (tgt := 17) X dX6_measuredGain_1 rfl rfl (fun q1 => ?_) (fun q1 => ?_)
  · replace h := itep q1 h
    refine AW.iconst (v := 0) (pc' := 18) X rfl dX6_measuredGain_17 rfl ?_
    refine AW.sub (ls' := []) [] rfl ?_
    exact ok_X6_measuredGain_18 X hr 0 R h
  · replace h := iten q1 h
    refine AW.iload_n (k0 := 0) (pc' := 5) X rfl rfl dX6_measuredGain_4 rfl ?_
    refine AW.i2l (pc' := 6) X dX6_measuredGain_5 rfl ?_
    refine AW.ldc2 (pc' := 9) X mk_X6_239 dX6_measuredGain_6 rfl ?_
    refine AW.lmul (pc' := 10) X dX6_measuredGain_9 rfl ?_
    refine AW.iload_n (k0 := 1) (pc' := 11) X rfl rfl dX6_measuredGain_10 rfl ?_
    refine AW.i2l (pc' := 12) X dX6_measuredGain_11 rfl ?_
    obtain ⟨g2, h⟩ := gd_some h
    refine AW.ldiv (pc' := 13) X (nzl_ne g2) dX6_measuredGain_12 rfl ?_
    refine AW.l2i (pc' := 14) X dX6_measuredGain_13 rfl ?_
    refine AW.goto (pc' := 18) X dX6_measuredGain_14 rfl ?_
    refine AW.sub (ls' := []) [] rfl ?_
    exact ok_X6_measuredGain_18 X hr (Int64.toInt32 (((Int32.toInt64 x0) * 1000) / (Int32.toInt64 x1))) R h
set_option maxHeartbeats 4000000 in
set_option maxRecDepth 100000 in
theorem ok_X6_averagedGain_10 {M : MM} (X : CX p s m args meth c cX6_averagedGain 3 RX6 D dA ad lo n A) (hr : meth.sig.returnType = (some .int)) : ∀ (x1 : Int32) (R : Int32), f_X6_averagedGain_10 M x1 = some R → AR p l e 0 0 s m args below meth c D dA ad lo n 3 A (some (.int R)) M 10 [(1, .int x1)] [] M := by
  intro x1 R h
  unfold f_X6_averagedGain_10 at h
  refine AW.iload_n (k0 := 0) (pc' := 11) X rfl rfl dX6_averagedGain_10 rfl ?_
  replace h := Option.some.inj h
  subst h
  exact AW.iret X hr dX6_averagedGain_11
set_option maxHeartbeats 4000000 in
set_option maxRecDepth 100000 in
theorem ok_X6_averagedGain {lo n : Nat} {x0 : Int32} {x1 : Int32} {x2 : Int32} {M : MM} {R : Int32}  (h : f_X6_averagedGain x0 x1 x2 M = some R) : MC yX6_averagedGain cX6_averagedGain 3 (some .int) 0 0 lo n [.int x0, .int x1, .int x2] M (some (.int R)) M := by
  refine MC.of (ls0 := [(0, .int x0), (1, .int x1), (2, .int x2)]) (by decide) rfl (fun _ => Nat.le_of_ble_eq_true rfl) (fun p l e s m args below meth c D dA ad A X hr => ?_)
  replace X : CX p s m args meth c cX6_averagedGain 3 RX6 D dA ad lo n A := X
  unfold f_X6_averagedGain at h
  refine AW.iload_n (k0 := 0) (pc' := 1) X rfl rfl dX6_averagedGain_0 rfl ?_
  refine AW.bipush (v := (-6)) (pc' := 3) X rfl dX6_averagedGain_1 rfl ?_
  refine AW.icmp_eq (pc' := 6) (tgt := 10) X dX6_averagedGain_3 rfl rfl (fun q1 => ?_) (fun q1 => ?_)
  · replace h := itep q1 h
    refine AW.sub (ls' := [(1, .int x1)]) [1] rfl ?_
    exact ok_X6_averagedGain_10 X hr x1 R h
  · replace h := iten q1 h
    refine AW.iload_n (k0 := 2) (pc' := 7) X rfl rfl dX6_averagedGain_6 rfl ?_
    refine AW.if_gt (pc' := 10) (tgt := 12) X dX6_averagedGain_7 rfl rfl (fun q2 => ?_) (fun q2 => ?_)
    · replace h := itep q2 h
      refine AW.iload_n (k0 := 0) (pc' := 13) X rfl rfl dX6_averagedGain_12 rfl ?_
      refine AW.iload_n (k0 := 2) (pc' := 14) X rfl rfl dX6_averagedGain_13 rfl ?_
      refine AW.iconst (v := 1) (pc' := 15) X rfl dX6_averagedGain_14 rfl ?_
      refine AW.isub (pc' := 16) X dX6_averagedGain_15 rfl ?_
      refine AW.imul (pc' := 17) X dX6_averagedGain_16 rfl ?_
      refine AW.iload_n (k0 := 1) (pc' := 18) X rfl rfl dX6_averagedGain_17 rfl ?_
      refine AW.iadd (pc' := 19) X dX6_averagedGain_18 rfl ?_
      refine AW.iload_n (k0 := 2) (pc' := 20) X rfl rfl dX6_averagedGain_19 rfl ?_
      obtain ⟨g3, h⟩ := gd_some h
      refine AW.idiv (pc' := 21) X (nz_ne g3) dX6_averagedGain_20 rfl ?_
      replace h := Option.some.inj h
      subst h
      exact AW.iret X hr dX6_averagedGain_21
    · replace h := iten q2 h
      refine AW.sub (ls' := [(1, .int x1)]) [1] rfl ?_
      exact ok_X6_averagedGain_10 X hr x1 R h
set_option maxHeartbeats 4000000 in
set_option maxRecDepth 100000 in
theorem ok_X0_measure {lo n : Nat} {a0 : Nat} {x1 : Int32} {x2 : Int32} {x3 : Int32} {x4 : Int32} {M : MM} {R : MM} (h0 : tCh lo n a0) (h : f_X0_measure a0 x1 x2 x3 x4 M = some R) : MC yX0_measure cX0_measure 5 none 1 30 lo n [.ref a0, .int x1, .int x2, .int x3, .int x4] M none R := by
  refine MC.of (ls0 := [(0, .ref a0), (1, .int x1), (2, .int x2), (3, .int x3), (4, .int x4)]) (by decide) rfl (fun _ => Nat.le_of_ble_eq_true rfl) (fun p l e s m args below meth c D dA ad A X hr => ?_)
  replace X : CX p s m args meth c cX0_measure 5 RX0 D dA ad lo n A := X
  unfold f_X0_measure at h
  refine AW.aload_n (k0 := 0) (pc' := 1) X rfl rfl dX0_measure_0 rfl ?_
  refine AW.aload_n (k0 := 0) (pc' := 2) X rfl rfl dX0_measure_1 rfl ?_
  refine AW.iload_n (k0 := 2) (pc' := 3) X rfl rfl dX0_measure_2 rfl ?_
  obtain ⟨v1, c1, h⟩ := Option.bind_eq_some_iff.mp h
  refine AW.callV (As := [.int x2]) (rest := [.ref a0]) (rv := (some (.int v1))) (M' := M) (pc' := 6) X (ok_X0_gainAt h0 c1) yv_X0_gainAt h0.1 h0.2.1 (cC h0 dA ad _) rfl rfl ml_X0_83 ⟨by decide, by decide, by decide, by decide⟩ rfl (Nat.le_of_ble_eq_true rfl) rfl rfl dX0_measure_3 rfl ?_
  refine AW.i2l (pc' := 7) X dX0_measure_6 rfl ?_
  refine AW.iload_n (k0 := 3) (pc' := 8) X rfl rfl dX0_measure_7 rfl ?_
  refine AW.i2l (pc' := 9) X dX0_measure_8 rfl ?_
  refine AW.lmul (pc' := 10) X dX0_measure_9 rfl ?_
  refine AW.ldc2 (pc' := 13) X mk_X0_88 dX0_measure_10 rfl ?_
  refine AW.ldiv (pc' := 14) X (by decide) dX0_measure_13 rfl ?_
  refine AW.l2i (pc' := 15) X dX0_measure_14 rfl ?_
  refine AW.pX0 (pc' := 18) X h0 12 (by decide) rfl mf_X0_90 rfl rfl (by simp [fsC, upd]) (Nat.le_of_ble_eq_true rfl) dX0_measure_15 rfl ?_
  refine AW.aload_n (k0 := 0) (pc' := 19) X rfl rfl dX0_measure_18 rfl ?_
  refine AW.aload_n (k0 := 0) (pc' := 20) X rfl rfl dX0_measure_19 rfl ?_
  refine AW.gX0 (v := .int ((ms M a0 12 (Int64.toInt32 (((Int32.toInt64 v1) * (Int32.toInt64 x3)) / 1000))) a0 12)) (pc' := 23) X h0 12 (by decide) rfl mf_X0_90 rfl dX0_measure_20 rfl ?_
  refine AW.iload_n (k0 := 3) (pc' := 24) X rfl rfl dX0_measure_23 rfl ?_
  obtain ⟨v3, c3, h⟩ := Option.bind_eq_some_iff.mp h
  refine AW.callN (As := [.int ((ms M a0 12 (Int64.toInt32 (((Int32.toInt64 v1) * (Int32.toInt64 x3)) / 1000))) a0 12), .int x3]) (rest := [.ref a0]) (rv := (some (.int v3))) (M' := (ms M a0 12 (Int64.toInt32 (((Int32.toInt64 v1) * (Int32.toInt64 x3)) / 1000)))) (pc' := 27) X (ok_X6_measuredGain c3) yv_X6_measuredGain mn_X0_93 ⟨by decide, by decide, by decide, by decide⟩ rfl (Nat.le_of_ble_eq_true rfl) rfl rfl dX0_measure_24 rfl ?_
  refine AW.pX0 (pc' := 30) X h0 13 (by decide) rfl mf_X0_97 rfl rfl (by simp [fsC, upd]) (Nat.le_of_ble_eq_true rfl) dX0_measure_27 rfl ?_
  refine AW.aload_n (k0 := 0) (pc' := 31) X rfl rfl dX0_measure_30 rfl ?_
  refine AW.gX0 (v := .ref (a0 + 7)) (pc' := 34) X h0 10 (by decide) rfl mf_X0_30 rfl dX0_measure_31 rfl ?_
  refine AW.iload_n (k0 := 1) (pc' := 35) X rfl rfl dX0_measure_34 rfl ?_
  refine AW.aload_n (k0 := 0) (pc' := 36) X rfl rfl dX0_measure_35 rfl ?_
  refine AW.gX0 (v := .int ((ms (ms M a0 12 (Int64.toInt32 (((Int32.toInt64 v1) * (Int32.toInt64 x3)) / 1000))) a0 13 v3) a0 12)) (pc' := 39) X h0 12 (by decide) rfl mf_X0_90 rfl dX0_measure_36 rfl ?_
  obtain ⟨g4, h⟩ := gd_some h
  refine AW.iast (pc' := 40) X (rC7 h0) (inb_vp g4) dX0_measure_39 rfl ?_
  refine AW.aload_n (k0 := 0) (pc' := 41) X rfl rfl dX0_measure_40 rfl ?_
  refine AW.gX0 (v := .ref (a0 + 8)) (pc' := 44) X h0 11 (by decide) rfl mf_X0_33 rfl dX0_measure_41 rfl ?_
  refine AW.iload_n (k0 := 1) (pc' := 45) X rfl rfl dX0_measure_44 rfl ?_
  refine AW.aload_n (k0 := 0) (pc' := 46) X rfl rfl dX0_measure_45 rfl ?_
  refine AW.gX0 (v := .ref (a0 + 8)) (pc' := 49) X h0 11 (by decide) rfl mf_X0_33 rfl dX0_measure_46 rfl ?_
  refine AW.iload_n (k0 := 1) (pc' := 50) X rfl rfl dX0_measure_49 rfl ?_
  obtain ⟨g5, h⟩ := gd_some h
  refine AW.iald (pc' := 51) X (rC8 h0) (inb_vp g5) dX0_measure_50 rfl ?_
  refine AW.aload_n (k0 := 0) (pc' := 52) X rfl rfl dX0_measure_51 rfl ?_
  refine AW.gX0 (v := .int ((ms (ms (ms M a0 12 (Int64.toInt32 (((Int32.toInt64 v1) * (Int32.toInt64 x3)) / 1000))) a0 13 v3) (a0 + 7) (ix x1) ((ms (ms M a0 12 (Int64.toInt32 (((Int32.toInt64 v1) * (Int32.toInt64 x3)) / 1000))) a0 13 v3) a0 12)) a0 13)) (pc' := 55) X h0 13 (by decide) rfl mf_X0_97 rfl dX0_measure_52 rfl ?_
  refine AW.iload (k0 := 4) (pc' := 57) X rfl dX0_measure_55 rfl ?_
  obtain ⟨v6, c6, h⟩ := Option.bind_eq_some_iff.mp h
  refine AW.callN (As := [.int ((ms (ms (ms M a0 12 (Int64.toInt32 (((Int32.toInt64 v1) * (Int32.toInt64 x3)) / 1000))) a0 13 v3) (a0 + 7) (ix x1) ((ms (ms M a0 12 (Int64.toInt32 (((Int32.toInt64 v1) * (Int32.toInt64 x3)) / 1000))) a0 13 v3) a0 12)) (a0 + 8) (ix x1)), .int ((ms (ms (ms M a0 12 (Int64.toInt32 (((Int32.toInt64 v1) * (Int32.toInt64 x3)) / 1000))) a0 13 v3) (a0 + 7) (ix x1) ((ms (ms M a0 12 (Int64.toInt32 (((Int32.toInt64 v1) * (Int32.toInt64 x3)) / 1000))) a0 13 v3) a0 12)) a0 13), .int x4]) (rest := [.int x1, .ref (a0 + 8)]) (rv := (some (.int v6))) (M' := (ms (ms (ms M a0 12 (Int64.toInt32 (((Int32.toInt64 v1) * (Int32.toInt64 x3)) / 1000))) a0 13 v3) (a0 + 7) (ix x1) ((ms (ms M a0 12 (Int64.toInt32 (((Int32.toInt64 v1) * (Int32.toInt64 x3)) / 1000))) a0 13 v3) a0 12))) (pc' := 60) X (ok_X6_averagedGain c6) yv_X6_averagedGain mn_X0_100 ⟨by decide, by decide, by decide, by decide⟩ rfl (Nat.le_of_ble_eq_true rfl) rfl rfl dX0_measure_57 rfl ?_
  obtain ⟨g7, h⟩ := gd_some h
  refine AW.iast (pc' := 61) X (rC8 h0) (inb_vp g7) dX0_measure_60 rfl ?_
  replace h := Option.some.inj h
  subst h
  exact AW.vret X hr dX0_measure_61
set_option maxHeartbeats 4000000 in
set_option maxRecDepth 100000 in
theorem ok_X0_countLoop_102 {a0 : Nat} (X : CX p s m args meth c cX0_countLoop 4 RX0 D dA ad lo n A) (hr : meth.sig.returnType = none) (h0 : tCh lo n a0) : ∀ (s0 : Int32) (M : MM) (R : MM), f_X0_countLoop_102 a0 s0 M = some R → AR p l e 1 24 s m args below meth c D dA ad lo n 4 A none R 102 [] [.int s0, .ref a0] M := by
  intro s0 M R h
  unfold f_X0_countLoop_102 at h
  refine AW.pX0 (pc' := 105) X h0 17 (by decide) rfl mf_X0_71 rfl rfl (by simp [fsC, upd]) (Nat.le_of_ble_eq_true rfl) dX0_countLoop_102 rfl ?_
  replace h := Option.some.inj h
  subst h
  exact AW.vret X hr dX0_countLoop_105
set_option maxHeartbeats 4000000 in
set_option maxRecDepth 100000 in
theorem ok_X0_countLoop_80 {a0 : Nat} (X : CX p s m args meth c cX0_countLoop 4 RX0 D dA ad lo n A) (hr : meth.sig.returnType = none) (h0 : tCh lo n a0) : ∀ (M : MM) (R : MM), f_X0_countLoop_80 a0 M = some R → AR p l e 1 24 s m args below meth c D dA ad lo n 4 A none R 80 [(0, .ref a0)] [] M := by
  intro M R h
  unfold f_X0_countLoop_80 at h
  refine AW.aload_n (k0 := 0) (pc' := 81) X rfl rfl dX0_countLoop_80 rfl ?_
  refine AW.aload_n (k0 := 0) (pc' := 82) X rfl rfl dX0_countLoop_81 rfl ?_
  refine AW.gX0 (v := .int (M a0 12)) (pc' := 85) X h0 12 (by decide) rfl mf_X0_90 rfl dX0_countLoop_82 rfl ?_
  refine AW.aload_n (k0 := 0) (pc' := 86) X rfl rfl dX0_countLoop_85 rfl ?_
  refine AW.gX0 (v := .int (M a0 2)) (pc' := 89) X h0 2 (by decide) rfl mf_X0_44 rfl dX0_countLoop_86 rfl ?_
  refine AW.icmp_le (pc' := 92) (tgt := 101) X dX0_countLoop_89 rfl rfl (fun q1 => ?_) (fun q1 => ?_)
  · replace h := itep q1 h
    refine AW.iconst (v := 0) (pc' := 102) X rfl dX0_countLoop_101 rfl ?_
    refine AW.sub (ls' := []) [] rfl ?_
    exact ok_X0_countLoop_102 X hr h0 0 M R h
  · replace h := iten q1 h
    refine AW.aload_n (k0 := 0) (pc' := 93) X rfl rfl dX0_countLoop_92 rfl ?_
    refine AW.gX0 (v := .int (M a0 17)) (pc' := 96) X h0 17 (by decide) rfl mf_X0_71 rfl dX0_countLoop_93 rfl ?_
    refine AW.iconst (v := 1) (pc' := 97) X rfl dX0_countLoop_96 rfl ?_
    refine AW.iadd (pc' := 98) X dX0_countLoop_97 rfl ?_
    refine AW.goto (pc' := 102) X dX0_countLoop_98 rfl ?_
    refine AW.sub (ls' := []) [] rfl ?_
    exact ok_X0_countLoop_102 X hr h0 ((M a0 17) + 1) M R h
set_option maxHeartbeats 4000000 in
set_option maxRecDepth 100000 in
theorem ok_X0_countLoop_41 {a0 : Nat} (X : CX p s m args meth c cX0_countLoop 4 RX0 D dA ad lo n A) (hr : meth.sig.returnType = none) (h0 : tCh lo n a0) : ∀ (x2 : Int32) (b3 : Bool) (s0 : Int32) (M : MM) (R : MM), f_X0_countLoop_41 a0 x2 b3 s0 M = some R → AR p l e 1 24 s m args below meth c D dA ad lo n 4 A none R 41 [(0, .ref a0), (2, .int x2), (3, .int (bz b3))] [.int s0, .ref a0] M := by
  intro x2 b3 s0 M R h
  unfold f_X0_countLoop_41 at h
  refine AW.pX0 (pc' := 44) X h0 14 (by decide) rfl mf_X0_62 rfl rfl (by simp [fsC, upd]) (Nat.le_of_ble_eq_true rfl) dX0_countLoop_41 rfl ?_
  refine AW.aload_n (k0 := 0) (pc' := 45) X rfl rfl dX0_countLoop_44 rfl ?_
  refine AW.aload_n (k0 := 0) (pc' := 46) X rfl rfl dX0_countLoop_45 rfl ?_
  refine AW.gX0 (v := .int ((ms M a0 14 s0) a0 15)) (pc' := 49) X h0 15 (by decide) rfl mf_X0_65 rfl dX0_countLoop_46 rfl ?_
  refine AW.aload_n (k0 := 0) (pc' := 50) X rfl rfl dX0_countLoop_49 rfl ?_
  refine AW.gX0 (v := .int ((ms M a0 14 s0) a0 14)) (pc' := 53) X h0 14 (by decide) rfl mf_X0_62 rfl dX0_countLoop_50 rfl ?_
  refine AW.mmax (pc' := 56) X ⟨by decide, by decide, by decide, by decide⟩ (Nat.le_of_ble_eq_true rfl) ml_X0_107 dX0_countLoop_53 rfl ?_
  refine AW.pX0 (pc' := 59) X h0 15 (by decide) rfl mf_X0_65 rfl rfl (by simp [fsC, upd]) (Nat.le_of_ble_eq_true rfl) dX0_countLoop_56 rfl ?_
  refine AW.iload_n (k0 := 2) (pc' := 60) X rfl rfl dX0_countLoop_59 rfl ?_
  refine AW.if_eq (pc' := 63) (tgt := 80) X dX0_countLoop_60 rfl rfl (fun q1 => ?_) (fun q1 => ?_)
  · replace h := itep q1 h
    refine AW.sub (ls' := [(0, .ref a0)]) [0] rfl ?_
    exact ok_X0_countLoop_80 X hr h0 (ms (ms M a0 14 s0) a0 15 (if ((ms M a0 14 s0) a0 15) < ((ms M a0 14 s0) a0 14) then ((ms M a0 14 s0) a0 14) else ((ms M a0 14 s0) a0 15))) R h
  · replace h := iten q1 h
    refine AW.aload_n (k0 := 0) (pc' := 64) X rfl rfl dX0_countLoop_63 rfl ?_
    refine AW.aload_n (k0 := 0) (pc' := 65) X rfl rfl dX0_countLoop_64 rfl ?_
    refine AW.gX0 (v := .int ((ms (ms M a0 14 s0) a0 15 (if ((ms M a0 14 s0) a0 15) < ((ms M a0 14 s0) a0 14) then ((ms M a0 14 s0) a0 14) else ((ms M a0 14 s0) a0 15))) a0 16)) (pc' := 68) X h0 16 (by decide) rfl mf_X0_68 rfl dX0_countLoop_65 rfl ?_
    refine AW.aload_n (k0 := 0) (pc' := 69) X rfl rfl dX0_countLoop_68 rfl ?_
    refine AW.gX0 (v := .int ((ms (ms M a0 14 s0) a0 15 (if ((ms M a0 14 s0) a0 15) < ((ms M a0 14 s0) a0 14) then ((ms M a0 14 s0) a0 14) else ((ms M a0 14 s0) a0 15))) a0 12)) (pc' := 72) X h0 12 (by decide) rfl mf_X0_90 rfl dX0_countLoop_69 rfl ?_
    refine AW.iload_n (k0 := 1) (pc' := 73) X rfl rfl dX0_countLoop_72 rfl ?_
    refine AW.isub (pc' := 74) X dX0_countLoop_73 rfl ?_
    refine AW.mmax (pc' := 77) X ⟨by decide, by decide, by decide, by decide⟩ (Nat.le_of_ble_eq_true rfl) ml_X0_107 dX0_countLoop_74 rfl ?_
    refine AW.pX0 (pc' := 80) X h0 16 (by decide) rfl mf_X0_68 rfl rfl (by simp [fsC, upd]) (Nat.le_of_ble_eq_true rfl) dX0_countLoop_77 rfl ?_
    refine AW.sub (ls' := [(0, .ref a0)]) [0] rfl ?_
    exact ok_X0_countLoop_80 X hr h0 (ms (ms (ms M a0 14 s0) a0 15 (if ((ms M a0 14 s0) a0 15) < ((ms M a0 14 s0) a0 14) then ((ms M a0 14 s0) a0 14) else ((ms M a0 14 s0) a0 15))) a0 16 (if ((ms (ms M a0 14 s0) a0 15 (if ((ms M a0 14 s0) a0 15) < ((ms M a0 14 s0) a0 14) then ((ms M a0 14 s0) a0 14) else ((ms M a0 14 s0) a0 15))) a0 16) < (((ms (ms M a0 14 s0) a0 15 (if ((ms M a0 14 s0) a0 15) < ((ms M a0 14 s0) a0 14) then ((ms M a0 14 s0) a0 14) else ((ms M a0 14 s0) a0 15))) a0 12) - x2) then (((ms (ms M a0 14 s0) a0 15 (if ((ms M a0 14 s0) a0 15) < ((ms M a0 14 s0) a0 14) then ((ms M a0 14 s0) a0 14) else ((ms M a0 14 s0) a0 15))) a0 12) - x2) else ((ms (ms M a0 14 s0) a0 15 (if ((ms M a0 14 s0) a0 15) < ((ms M a0 14 s0) a0 14) then ((ms M a0 14 s0) a0 14) else ((ms M a0 14 s0) a0 15))) a0 16))) R h
set_option maxHeartbeats 4000000 in
set_option maxRecDepth 100000 in
theorem ok_X0_countLoop_25 {a0 : Nat} (X : CX p s m args meth c cX0_countLoop 4 RX0 D dA ad lo n A) (hr : meth.sig.returnType = none) (h0 : tCh lo n a0) : ∀ (x2 : Int32) (sb0 : Bool) (M : MM) (R : MM), f_X0_countLoop_25 a0 x2 sb0 M = some R → AR p l e 1 24 s m args below meth c D dA ad lo n 4 A none R 25 [(0, .ref a0), (2, .int x2)] [.int (bz sb0)] M := by
  intro x2 sb0 M R h
  unfold f_X0_countLoop_25 at h
  refine AW.istore_n (ls' := [(3, .int (bz sb0)), (0, .ref a0), (2, .int x2)]) (pc' := 26) X rfl (by decide) rfl dX0_countLoop_25 rfl ?_
  refine AW.aload_n (k0 := 1) (pc' := 27) X rfl rfl dX0_countLoop_26 rfl ?_
  refine AW.iload_n (k0 := 0) (pc' := 28) X rfl rfl dX0_countLoop_27 rfl ?_
  refine AW.if_eq (pc' := 31) (tgt := 40) X dX0_countLoop_28 rfl rfl (fun q1 => ?_) (fun q1 => ?_)
  · replace h := itep q1 h
    refine AW.iconst (v := 0) (pc' := 41) X rfl dX0_countLoop_40 rfl ?_
    refine AW.sub (ls' := [(0, .ref a0), (2, .int x2), (3, .int (bz sb0))]) [1, 2, 0] rfl ?_
    exact ok_X0_countLoop_41 X hr h0 x2 sb0 0 M R h
  · replace h := iten q1 h
    refine AW.aload_n (k0 := 1) (pc' := 32) X rfl rfl dX0_countLoop_31 rfl ?_
    refine AW.gX0 (v := .int (M a0 14)) (pc' := 35) X h0 14 (by decide) rfl mf_X0_62 rfl dX0_countLoop_32 rfl ?_
    refine AW.iconst (v := 1) (pc' := 36) X rfl dX0_countLoop_35 rfl ?_
    refine AW.iadd (pc' := 37) X dX0_countLoop_36 rfl ?_
    refine AW.goto (pc' := 41) X dX0_countLoop_37 rfl ?_
    refine AW.sub (ls' := [(0, .ref a0), (2, .int x2), (3, .int (bz sb0))]) [1, 2, 0] rfl ?_
    exact ok_X0_countLoop_41 X hr h0 x2 sb0 ((M a0 14) + 1) M R h
set_option maxHeartbeats 4000000 in
set_option maxRecDepth 100000 in
theorem ok_X0_countLoop_24 {a0 : Nat} (X : CX p s m args meth c cX0_countLoop 4 RX0 D dA ad lo n A) (hr : meth.sig.returnType = none) (h0 : tCh lo n a0) : ∀ (x2 : Int32) (M : MM) (R : MM), f_X0_countLoop_24 a0 x2 M = some R → AR p l e 1 24 s m args below meth c D dA ad lo n 4 A none R 24 [(0, .ref a0), (2, .int x2)] [] M := by
  intro x2 M R h
  unfold f_X0_countLoop_24 at h
  refine AW.iconst (v := 0) (pc' := 25) X rfl dX0_countLoop_24 rfl ?_
  exact ok_X0_countLoop_25 X hr h0 x2 false M R h
set_option maxHeartbeats 4000000 in
set_option maxRecDepth 100000 in
theorem ok_X0_countLoop {lo n : Nat} {a0 : Nat} {x1 : Int32} {M : MM} {R : MM} (h0 : tCh lo n a0) (h : f_X0_countLoop a0 x1 M = some R) : MC yX0_countLoop cX0_countLoop 4 none 1 24 lo n [.ref a0, .int x1] M none R := by
  refine MC.of (ls0 := [(0, .ref a0), (1, .int x1)]) (by decide) rfl (fun _ => Nat.le_of_ble_eq_true rfl) (fun p l e s m args below meth c D dA ad A X hr => ?_)
  replace X : CX p s m args meth c cX0_countLoop 4 RX0 D dA ad lo n A := X
  unfold f_X0_countLoop at h
  refine AW.aload_n (k0 := 0) (pc' := 1) X rfl rfl dX0_countLoop_0 rfl ?_
  refine AW.iload_n (k0 := 1) (pc' := 2) X rfl rfl dX0_countLoop_1 rfl ?_
  obtain ⟨v1, c1, h⟩ := Option.bind_eq_some_iff.mp h
  refine AW.callV (As := [.int x1]) (rest := []) (rv := (some (.int v1))) (M' := M) (pc' := 5) X (ok_X0_limitAt h0 c1) yv_X0_limitAt h0.1 h0.2.1 (cC h0 dA ad _) rfl rfl ml_X0_104 ⟨by decide, by decide, by decide, by decide⟩ rfl (Nat.le_of_ble_eq_true rfl) rfl rfl dX0_countLoop_2 rfl ?_
  refine AW.istore_n (ls' := [(2, .int v1), (0, .ref a0), (1, .int x1)]) (pc' := 6) X rfl (by decide) rfl dX0_countLoop_5 rfl ?_
  refine AW.iload_n (k0 := 0) (pc' := 7) X rfl rfl dX0_countLoop_6 rfl ?_
  refine AW.bipush (v := (-6)) (pc' := 9) X rfl dX0_countLoop_7 rfl ?_
  refine AW.icmp_eq (pc' := 12) (tgt := 24) X dX0_countLoop_9 rfl rfl (fun q2 => ?_) (fun q2 => ?_)
  · replace h := itep q2 h
    refine AW.sub (ls' := [(0, .ref a0), (2, .int v1)]) [1, 0] rfl ?_
    exact ok_X0_countLoop_24 X hr h0 v1 M R h
  · replace h := iten q2 h
    refine AW.aload_n (k0 := 1) (pc' := 13) X rfl rfl dX0_countLoop_12 rfl ?_
    refine AW.gX0 (v := .int (M a0 12)) (pc' := 16) X h0 12 (by decide) rfl mf_X0_90 rfl dX0_countLoop_13 rfl ?_
    refine AW.iload_n (k0 := 0) (pc' := 17) X rfl rfl dX0_countLoop_16 rfl ?_
    refine AW.icmp_le (pc' := 20) (tgt := 24) X dX0_countLoop_17 rfl rfl (fun q3 => ?_) (fun q3 => ?_)
    · replace h := itep q3 h
      refine AW.sub (ls' := [(0, .ref a0), (2, .int v1)]) [1, 0] rfl ?_
      exact ok_X0_countLoop_24 X hr h0 v1 M R h
    · replace h := iten q3 h
      refine AW.iconst (v := 1) (pc' := 21) X rfl dX0_countLoop_20 rfl ?_
      refine AW.goto (pc' := 25) X dX0_countLoop_21 rfl ?_
      refine AW.sub (ls' := [(0, .ref a0), (2, .int v1)]) [1, 0] rfl ?_
      exact ok_X0_countLoop_25 X hr h0 v1 true M R h
set_option maxHeartbeats 4000000 in
set_option maxRecDepth 100000 in
theorem ok_X0_notchedDrive_59 {a0 : Nat} {M : MM} (X : CX p s m args meth c cX0_notchedDrive 5 RX0 D dA ad lo n A) (hr : meth.sig.returnType = (some .int)) (h0 : tCh lo n a0) : ∀ (s0 : Int32) (R : Int32), f_X0_notchedDrive_59 a0 M s0 = some R → AR p l e 1 24 s m args below meth c D dA ad lo n 5 A (some (.int R)) M 59 [] [.int s0] M := by
  intro s0 R h
  unfold f_X0_notchedDrive_59 at h
  replace h := Option.some.inj h
  subst h
  exact AW.iret X hr dX0_notchedDrive_59
set_option maxHeartbeats 4000000 in
set_option maxRecDepth 100000 in
theorem ok_X0_notchedDrive_57 {a0 : Nat} {M : MM} (X : CX p s m args meth c cX0_notchedDrive 5 RX0 D dA ad lo n A) (hr : meth.sig.returnType = (some .int)) (h0 : tCh lo n a0) : ∀  (R : Int32), f_X0_notchedDrive_57 a0 M  = some R → AR p l e 1 24 s m args below meth c D dA ad lo n 5 A (some (.int R)) M 57 [] [] M := by
  intro  R h
  unfold f_X0_notchedDrive_57 at h
  refine AW.bipush (v := (-6)) (pc' := 59) X rfl dX0_notchedDrive_57 rfl ?_
  exact ok_X0_notchedDrive_59 X hr h0 (-6) R h
set_option maxHeartbeats 4000000 in
set_option maxRecDepth 100000 in
theorem ok_X0_notchedDrive_30 {a0 : Nat} {M : MM} (X : CX p s m args meth c cX0_notchedDrive 5 RX0 D dA ad lo n A) (hr : meth.sig.returnType = (some .int)) (h0 : tCh lo n a0) : ∀ (x3 : Int32) (s0 : Int32) (R : Int32), f_X0_notchedDrive_30 a0 M x3 s0 = some R → AR p l e 1 24 s m args below meth c D dA ad lo n 5 A (some (.int R)) M 30 [(3, .int x3)] [.int s0] M := by
  intro x3 s0 R h
  unfold f_X0_notchedDrive_30 at h
  refine AW.istore (ls' := [(4, .int s0), (3, .int x3)]) (pc' := 32) X (by decide) rfl dX0_notchedDrive_30 rfl ?_
  refine AW.iload_n (k0 := 1) (pc' := 33) X rfl rfl dX0_notchedDrive_32 rfl ?_
  refine AW.bipush (v := (-6)) (pc' := 35) X rfl dX0_notchedDrive_33 rfl ?_
  refine AW.icmp_eq (pc' := 38) (tgt := 57) X dX0_notchedDrive_35 rfl rfl (fun q1 => ?_) (fun q1 => ?_)
  · replace h := itep q1 h
    refine AW.sub (ls' := []) [] rfl ?_
    exact ok_X0_notchedDrive_57 X hr h0 R h
  · replace h := iten q1 h
    refine AW.iload (k0 := 0) (pc' := 40) X rfl dX0_notchedDrive_38 rfl ?_
    refine AW.if_le (pc' := 43) (tgt := 57) X dX0_notchedDrive_40 rfl rfl (fun q2 => ?_) (fun q2 => ?_)
    · replace h := itep q2 h
      refine AW.sub (ls' := []) [] rfl ?_
      exact ok_X0_notchedDrive_57 X hr h0 R h
    · replace h := iten q2 h
      refine AW.iload_n (k0 := 1) (pc' := 44) X rfl rfl dX0_notchedDrive_43 rfl ?_
      refine AW.i2l (pc' := 45) X dX0_notchedDrive_44 rfl ?_
      refine AW.ldc2 (pc' := 48) X mk_X0_88 dX0_notchedDrive_45 rfl ?_
      refine AW.lmul (pc' := 49) X dX0_notchedDrive_48 rfl ?_
      refine AW.iload (k0 := 0) (pc' := 51) X rfl dX0_notchedDrive_49 rfl ?_
      refine AW.i2l (pc' := 52) X dX0_notchedDrive_51 rfl ?_
      obtain ⟨g3, h⟩ := gd_some h
      refine AW.ldiv (pc' := 53) X (nzl_ne g3) dX0_notchedDrive_52 rfl ?_
      refine AW.l2i (pc' := 54) X dX0_notchedDrive_53 rfl ?_
      refine AW.goto (pc' := 59) X dX0_notchedDrive_54 rfl ?_
      refine AW.sub (ls' := []) [] rfl ?_
      exact ok_X0_notchedDrive_59 X hr h0 (Int64.toInt32 (((Int32.toInt64 x3) * 1000) / (Int32.toInt64 s0))) R h
set_option maxHeartbeats 4000000 in
set_option maxRecDepth 100000 in
theorem ok_X0_notchedDrive {lo n : Nat} {a0 : Nat} {x1 : Int32} {x2 : Int32} {M : MM} {R : Int32} (h0 : tCh lo n a0) (h : f_X0_notchedDrive a0 x1 x2 M = some R) : MC yX0_notchedDrive cX0_notchedDrive 5 (some .int) 1 24 lo n [.ref a0, .int x1, .int x2] M (some (.int R)) M := by
  refine MC.of (ls0 := [(0, .ref a0), (1, .int x1), (2, .int x2)]) (by decide) rfl (fun _ => Nat.le_of_ble_eq_true rfl) (fun p l e s m args below meth c D dA ad A X hr => ?_)
  replace X : CX p s m args meth c cX0_notchedDrive 5 RX0 D dA ad lo n A := X
  unfold f_X0_notchedDrive at h
  refine AW.aload_n (k0 := 0) (pc' := 1) X rfl rfl dX0_notchedDrive_0 rfl ?_
  refine AW.iload_n (k0 := 2) (pc' := 2) X rfl rfl dX0_notchedDrive_1 rfl ?_
  obtain ⟨v1, c1, h⟩ := Option.bind_eq_some_iff.mp h
  refine AW.callV (As := [.int x2]) (rest := []) (rv := (some (.int v1))) (M' := M) (pc' := 5) X (ok_X0_limitAt h0 c1) yv_X0_limitAt h0.1 h0.2.1 (cC h0 dA ad _) rfl rfl ml_X0_104 ⟨by decide, by decide, by decide, by decide⟩ rfl (Nat.le_of_ble_eq_true rfl) rfl rfl dX0_notchedDrive_2 rfl ?_
  refine AW.istore_n (ls' := [(3, .int v1), (0, .ref a0), (1, .int x1), (2, .int x2)]) (pc' := 6) X rfl (by decide) rfl dX0_notchedDrive_5 rfl ?_
  refine AW.aload_n (k0 := 1) (pc' := 7) X rfl rfl dX0_notchedDrive_6 rfl ?_
  refine AW.gX0 (v := .ref (a0 + 8)) (pc' := 10) X h0 11 (by decide) rfl mf_X0_33 rfl dX0_notchedDrive_7 rfl ?_
  refine AW.iload_n (k0 := 2) (pc' := 11) X rfl rfl dX0_notchedDrive_10 rfl ?_
  obtain ⟨g2, h⟩ := gd_some h
  refine AW.iald (pc' := 12) X (rC8 h0) (inb_vp g2) dX0_notchedDrive_11 rfl ?_
  refine AW.bipush (v := (-6)) (pc' := 14) X rfl dX0_notchedDrive_12 rfl ?_
  refine AW.icmp_eq (pc' := 17) (tgt := 26) X dX0_notchedDrive_14 rfl rfl (fun q3 => ?_) (fun q3 => ?_)
  · replace h := itep q3 h
    refine AW.aload_n (k0 := 1) (pc' := 27) X rfl rfl dX0_notchedDrive_26 rfl ?_
    refine AW.gX0 (v := .int (M a0 13)) (pc' := 30) X h0 13 (by decide) rfl mf_X0_97 rfl dX0_notchedDrive_27 rfl ?_
    refine AW.sub (ls' := [(3, .int v1)]) [0] rfl ?_
    exact ok_X0_notchedDrive_30 X hr h0 v1 (M a0 13) R h
  · replace h := iten q3 h
    refine AW.aload_n (k0 := 1) (pc' := 18) X rfl rfl dX0_notchedDrive_17 rfl ?_
    refine AW.gX0 (v := .ref (a0 + 8)) (pc' := 21) X h0 11 (by decide) rfl mf_X0_33 rfl dX0_notchedDrive_18 rfl ?_
    refine AW.iload_n (k0 := 2) (pc' := 22) X rfl rfl dX0_notchedDrive_21 rfl ?_
    obtain ⟨g4, h⟩ := gd_some h
    refine AW.iald (pc' := 23) X (rC8 h0) (inb_vp g4) dX0_notchedDrive_22 rfl ?_
    refine AW.goto (pc' := 30) X dX0_notchedDrive_23 rfl ?_
    refine AW.sub (ls' := [(3, .int v1)]) [0] rfl ?_
    exact ok_X0_notchedDrive_30 X hr h0 v1 (M (a0 + 8) (ix x1)) R h
set_option maxHeartbeats 4000000 in
set_option maxRecDepth 100000 in
theorem ok_X0_propertyOf_56 {a0 : Nat} {M : MM} (X : CX p s m args meth c cX0_propertyOf 2 RX0 D dA ad lo n A) (hr : meth.sig.returnType = (some .int)) (h0 : tCh lo n a0) : ∀ (sb0 : Bool) (R : Int32), f_X0_propertyOf_56 a0 M sb0 = some R → AR p l e 0 0 s m args below meth c D dA ad lo n 2 A (some (.int R)) M 56 [] [.int (bz sb0)] M := by
  intro sb0 R h
  unfold f_X0_propertyOf_56 at h
  replace h := Option.some.inj h
  subst h
  exact AW.iret X hr dX0_propertyOf_56
set_option maxHeartbeats 4000000 in
set_option maxRecDepth 100000 in
theorem ok_X0_propertyOf {lo n : Nat} {a0 : Nat} {x1 : Int32} {M : MM} {R : Int32} (h0 : tCh lo n a0) (h : f_X0_propertyOf a0 x1 M = some R) : MC yX0_propertyOf cX0_propertyOf 2 (some .int) 0 0 lo n [.ref a0, .int x1] M (some (.int R)) M := by
  refine MC.of (ls0 := [(0, .ref a0), (1, .int x1)]) (by decide) rfl (fun _ => Nat.le_of_ble_eq_true rfl) (fun p l e s m args below meth c D dA ad A X hr => ?_)
  replace X : CX p s m args meth c cX0_propertyOf 2 RX0 D dA ad lo n A := X
  unfold f_X0_propertyOf at h
  refine AW.iload_n (k0 := 1) (pc' := 1) X rfl rfl dX0_propertyOf_0 rfl ?_
  by_cases q1 : x1 = 0
  · replace h := itep q1 h
    refine AW.tin (pc' := 44) X dX0_propertyOf_1 (by rw [q1]; decide) (by rw [q1]; decide) (by rw [q1] <;> rfl) rfl ?_
    refine AW.aload_n (k0 := 0) (pc' := 45) X rfl rfl dX0_propertyOf_44 rfl ?_
    refine AW.gX0 (v := .int (bz (nz (M a0 0)))) (pc' := 48) X h0 0 (by decide) rfl mf_X0_36 rfl dX0_propertyOf_45 rfl ?_
    refine AW.if_eq (pc' := 51) (tgt := 55) X dX0_propertyOf_48 rfl rfl (fun q2 => ?_) (fun q2 => ?_)
    · replace h := itep q2 h
      refine AW.iconst (v := 0) (pc' := 56) X rfl dX0_propertyOf_55 rfl ?_
      refine AW.sub (ls' := []) [] rfl ?_
      exact ok_X0_propertyOf_56 X hr h0 false R h
    · replace h := iten q2 h
      refine AW.iconst (v := 1) (pc' := 52) X rfl dX0_propertyOf_51 rfl ?_
      refine AW.goto (pc' := 56) X dX0_propertyOf_52 rfl ?_
      refine AW.sub (ls' := []) [] rfl ?_
      exact ok_X0_propertyOf_56 X hr h0 true R h
  · replace h := iten q1 h
    by_cases q3 : x1 = 1
    · replace h := itep q3 h
      refine AW.tin (pc' := 57) X dX0_propertyOf_1 (by rw [q3]; decide) (by rw [q3]; decide) (by rw [q3] <;> rfl) rfl ?_
      refine AW.aload_n (k0 := 0) (pc' := 58) X rfl rfl dX0_propertyOf_57 rfl ?_
      refine AW.gX0 (v := .int (M a0 1)) (pc' := 61) X h0 1 (by decide) rfl mf_X0_40 rfl dX0_propertyOf_58 rfl ?_
      replace h := Option.some.inj h
      subst h
      exact AW.iret X hr dX0_propertyOf_61
    · replace h := iten q3 h
      by_cases q4 : x1 = 2
      · replace h := itep q4 h
        refine AW.tin (pc' := 62) X dX0_propertyOf_1 (by rw [q4]; decide) (by rw [q4]; decide) (by rw [q4] <;> rfl) rfl ?_
        refine AW.aload_n (k0 := 0) (pc' := 63) X rfl rfl dX0_propertyOf_62 rfl ?_
        refine AW.gX0 (v := .int (M a0 2)) (pc' := 66) X h0 2 (by decide) rfl mf_X0_44 rfl dX0_propertyOf_63 rfl ?_
        replace h := Option.some.inj h
        subst h
        exact AW.iret X hr dX0_propertyOf_66
      · replace h := iten q4 h
        by_cases q5 : x1 = 3
        · replace h := itep q5 h
          refine AW.tin (pc' := 67) X dX0_propertyOf_1 (by rw [q5]; decide) (by rw [q5]; decide) (by rw [q5] <;> rfl) rfl ?_
          refine AW.aload_n (k0 := 0) (pc' := 68) X rfl rfl dX0_propertyOf_67 rfl ?_
          refine AW.gX0 (v := .int (M a0 9)) (pc' := 71) X h0 9 (by decide) rfl mf_X0_53 rfl dX0_propertyOf_68 rfl ?_
          replace h := Option.some.inj h
          subst h
          exact AW.iret X hr dX0_propertyOf_71
        · replace h := iten q5 h
          by_cases q6 : x1 = 4
          · replace h := itep q6 h
            refine AW.tin (pc' := 72) X dX0_propertyOf_1 (by rw [q6]; decide) (by rw [q6]; decide) (by rw [q6] <;> rfl) rfl ?_
            refine AW.aload_n (k0 := 0) (pc' := 73) X rfl rfl dX0_propertyOf_72 rfl ?_
            refine AW.gX0 (v := .int (M a0 14)) (pc' := 76) X h0 14 (by decide) rfl mf_X0_62 rfl dX0_propertyOf_73 rfl ?_
            replace h := Option.some.inj h
            subst h
            exact AW.iret X hr dX0_propertyOf_76
          · replace h := iten q6 h
            by_cases q7 : x1 = 5
            · replace h := itep q7 h
              refine AW.tin (pc' := 77) X dX0_propertyOf_1 (by rw [q7]; decide) (by rw [q7]; decide) (by rw [q7] <;> rfl) rfl ?_
              refine AW.aload_n (k0 := 0) (pc' := 78) X rfl rfl dX0_propertyOf_77 rfl ?_
              refine AW.gX0 (v := .int (M a0 15)) (pc' := 81) X h0 15 (by decide) rfl mf_X0_65 rfl dX0_propertyOf_78 rfl ?_
              replace h := Option.some.inj h
              subst h
              exact AW.iret X hr dX0_propertyOf_81
            · replace h := iten q7 h
              by_cases q8 : x1 = 6
              · replace h := itep q8 h
                refine AW.tin (pc' := 82) X dX0_propertyOf_1 (by rw [q8]; decide) (by rw [q8]; decide) (by rw [q8] <;> rfl) rfl ?_
                refine AW.aload_n (k0 := 0) (pc' := 83) X rfl rfl dX0_propertyOf_82 rfl ?_
                refine AW.gX0 (v := .int (M a0 16)) (pc' := 86) X h0 16 (by decide) rfl mf_X0_68 rfl dX0_propertyOf_83 rfl ?_
                replace h := Option.some.inj h
                subst h
                exact AW.iret X hr dX0_propertyOf_86
              · replace h := iten q8 h
                have w0 := lv_neT q1 (by decide : (0 : Int32).toInt = 0)
                have w1 := lv_neT q3 (by decide : (1 : Int32).toInt = 1)
                have w2 := lv_neT q4 (by decide : (2 : Int32).toInt = 2)
                have w3 := lv_neT q5 (by decide : (3 : Int32).toInt = 3)
                have w4 := lv_neT q6 (by decide : (4 : Int32).toInt = 4)
                have w5 := lv_neT q7 (by decide : (5 : Int32).toInt = 5)
                have w6 := lv_neT q8 (by decide : (6 : Int32).toInt = 6)
                refine AW.tout (pc' := 87) X dX0_propertyOf_1 (by omega) rfl ?_
                refine AW.aload_n (k0 := 0) (pc' := 88) X rfl rfl dX0_propertyOf_87 rfl ?_
                refine AW.gX0 (v := .int (M a0 17)) (pc' := 91) X h0 17 (by decide) rfl mf_X0_71 rfl dX0_propertyOf_88 rfl ?_
                replace h := Option.some.inj h
                subst h
                exact AW.iret X hr dX0_propertyOf_91
set_option maxHeartbeats 4000000 in
set_option maxRecDepth 100000 in
theorem ok_X0_gainOfLine_22 {a0 : Nat} {M : MM} (X : CX p s m args meth c cX0_gainOfLine 3 RX0 D dA ad lo n A) (hr : meth.sig.returnType = (some .int)) (h0 : tCh lo n a0) : ∀ (s0 : Int32) (R : Int32), f_X0_gainOfLine_22 a0 M s0 = some R → AR p l e 1 22 s m args below meth c D dA ad lo n 3 A (some (.int R)) M 22 [] [.int s0] M := by
  intro s0 R h
  unfold f_X0_gainOfLine_22 at h
  replace h := Option.some.inj h
  subst h
  exact AW.iret X hr dX0_gainOfLine_22
set_option maxHeartbeats 4000000 in
set_option maxRecDepth 100000 in
theorem ok_X0_gainOfLine {lo n : Nat} {a0 : Nat} {x1 : Int32} {x2 : Int32} {M : MM} {R : Int32} (h0 : tCh lo n a0) (h : f_X0_gainOfLine a0 x1 x2 M = some R) : MC yX0_gainOfLine cX0_gainOfLine 3 (some .int) 1 22 lo n [.ref a0, .int x1, .int x2] M (some (.int R)) M := by
  refine MC.of (ls0 := [(0, .ref a0), (1, .int x1), (2, .int x2)]) (by decide) rfl (fun _ => Nat.le_of_ble_eq_true rfl) (fun p l e s m args below meth c D dA ad A X hr => ?_)
  replace X : CX p s m args meth c cX0_gainOfLine 3 RX0 D dA ad lo n A := X
  unfold f_X0_gainOfLine at h
  refine AW.iload_n (k0 := 1) (pc' := 1) X rfl rfl dX0_gainOfLine_0 rfl ?_
  refine AW.iconst (v := 0) (pc' := 2) X rfl dX0_gainOfLine_1 rfl ?_
  refine AW.iload_n (k0 := 2) (pc' := 3) X rfl rfl dX0_gainOfLine_2 rfl ?_
  refine AW.iconst (v := 1) (pc' := 4) X rfl dX0_gainOfLine_3 rfl ?_
  refine AW.isub (pc' := 5) X dX0_gainOfLine_4 rfl ?_
  obtain ⟨v1, c1, h⟩ := Option.bind_eq_some_iff.mp h
  refine AW.callN (As := [.int x1, .int 0, .int (x2 - 1)]) (rest := []) (rv := (some (.int (bz v1)))) (M' := M) (pc' := 8) X (ok_X6_isWithin c1) yv_X6_isWithin mn_X0_74 ⟨by decide, by decide, by decide, by decide⟩ rfl (Nat.le_of_ble_eq_true rfl) rfl rfl dX0_gainOfLine_5 rfl ?_
  refine AW.if_eq (pc' := 11) (tgt := 20) X dX0_gainOfLine_8 rfl rfl (fun q2 => ?_) (fun q2 => ?_)
  · replace h := itep q2 h
    refine AW.bipush (v := (-6)) (pc' := 22) X rfl dX0_gainOfLine_20 rfl ?_
    refine AW.sub (ls' := []) [] rfl ?_
    exact ok_X0_gainOfLine_22 X hr h0 (-6) R h
  · replace h := iten q2 h
    refine AW.aload_n (k0 := 0) (pc' := 12) X rfl rfl dX0_gainOfLine_11 rfl ?_
    refine AW.gX0 (v := .ref (a0 + 8)) (pc' := 15) X h0 11 (by decide) rfl mf_X0_33 rfl dX0_gainOfLine_12 rfl ?_
    refine AW.iload_n (k0 := 1) (pc' := 16) X rfl rfl dX0_gainOfLine_15 rfl ?_
    obtain ⟨g3, h⟩ := gd_some h
    refine AW.iald (pc' := 17) X (rC8 h0) (inb_vp g3) dX0_gainOfLine_16 rfl ?_
    refine AW.goto (pc' := 22) X dX0_gainOfLine_17 rfl ?_
    refine AW.sub (ls' := []) [] rfl ?_
    exact ok_X0_gainOfLine_22 X hr h0 (M (a0 + 8) (ix x1)) R h
set_option maxHeartbeats 4000000 in
set_option maxRecDepth 100000 in
theorem ok_X0_isResonance_42 {a0 : Nat} {M : MM} (X : CX p s m args meth c cX0_isResonance 4 RX0 D dA ad lo n A) (hr : meth.sig.returnType = (some .boolean)) (h0 : tCh lo n a0) : ∀ (sb0 : Bool) (R : Bool), f_X0_isResonance_42 a0 M sb0 = some R → AR p l e 2 44 s m args below meth c D dA ad lo n 4 A (some (.int (bz R))) M 42 [] [.int (bz sb0)] M := by
  intro sb0 R h
  unfold f_X0_isResonance_42 at h
  replace h := Option.some.inj h
  subst h
  exact AW.zret (b := sb0) X hr dX0_isResonance_42
set_option maxHeartbeats 4000000 in
set_option maxRecDepth 100000 in
theorem ok_X0_isResonance_41 {a0 : Nat} {M : MM} (X : CX p s m args meth c cX0_isResonance 4 RX0 D dA ad lo n A) (hr : meth.sig.returnType = (some .boolean)) (h0 : tCh lo n a0) : ∀  (R : Bool), f_X0_isResonance_41 a0 M  = some R → AR p l e 2 44 s m args below meth c D dA ad lo n 4 A (some (.int (bz R))) M 41 [] [] M := by
  intro  R h
  unfold f_X0_isResonance_41 at h
  refine AW.iconst (v := 0) (pc' := 42) X rfl dX0_isResonance_41 rfl ?_
  exact ok_X0_isResonance_42 X hr h0 false R h
set_option maxHeartbeats 4000000 in
set_option maxRecDepth 100000 in
theorem ok_X0_isResonance {lo n : Nat} {a0 : Nat} {x1 : Int32} {x2 : Int32} {M : MM} {R : Bool} (h0 : tCh lo n a0) (h : f_X0_isResonance a0 x1 x2 M = some R) : MC yX0_isResonance cX0_isResonance 4 (some .boolean) 2 44 lo n [.ref a0, .int x1, .int x2] M (some (.int (bz R))) M := by
  refine MC.of (ls0 := [(0, .ref a0), (1, .int x1), (2, .int x2)]) (by decide) rfl (fun _ => Nat.le_of_ble_eq_true rfl) (fun p l e s m args below meth c D dA ad A X hr => ?_)
  replace X : CX p s m args meth c cX0_isResonance 4 RX0 D dA ad lo n A := X
  unfold f_X0_isResonance at h
  refine AW.aload_n (k0 := 0) (pc' := 1) X rfl rfl dX0_isResonance_0 rfl ?_
  refine AW.gX0 (v := .ref (a0 + 8)) (pc' := 4) X h0 11 (by decide) rfl mf_X0_33 rfl dX0_isResonance_1 rfl ?_
  refine AW.iload_n (k0 := 1) (pc' := 5) X rfl rfl dX0_isResonance_4 rfl ?_
  obtain ⟨g1, h⟩ := gd_some h
  refine AW.iald (pc' := 6) X (rC8 h0) (inb_vp g1) dX0_isResonance_5 rfl ?_
  refine AW.istore_n (ls' := [(3, .int (M (a0 + 8) (ix x1))), (0, .ref a0), (1, .int x1), (2, .int x2)]) (pc' := 7) X rfl (by decide) rfl dX0_isResonance_6 rfl ?_
  refine AW.iload_n (k0 := 0) (pc' := 8) X rfl rfl dX0_isResonance_7 rfl ?_
  refine AW.bipush (v := (-6)) (pc' := 10) X rfl dX0_isResonance_8 rfl ?_
  refine AW.icmp_eq (pc' := 13) (tgt := 41) X dX0_isResonance_10 rfl rfl (fun q2 => ?_) (fun q2 => ?_)
  · replace h := itep q2 h
    refine AW.sub (ls' := []) [] rfl ?_
    exact ok_X0_isResonance_41 X hr h0 R h
  · replace h := iten q2 h
    refine AW.iload_n (k0 := 0) (pc' := 14) X rfl rfl dX0_isResonance_13 rfl ?_
    refine AW.aload_n (k0 := 1) (pc' := 15) X rfl rfl dX0_isResonance_14 rfl ?_
    refine AW.iload_n (k0 := 2) (pc' := 16) X rfl rfl dX0_isResonance_15 rfl ?_
    refine AW.iconst (v := 1) (pc' := 17) X rfl dX0_isResonance_16 rfl ?_
    refine AW.isub (pc' := 18) X dX0_isResonance_17 rfl ?_
    refine AW.iload_n (k0 := 3) (pc' := 19) X rfl rfl dX0_isResonance_18 rfl ?_
    obtain ⟨v3, c3, h⟩ := Option.bind_eq_some_iff.mp h
    refine AW.callV (As := [.int (x1 - 1), .int x2]) (rest := [.int (M (a0 + 8) (ix x1))]) (rv := (some (.int v3))) (M' := M) (pc' := 22) X (ok_X0_gainOfLine h0 c3) yv_X0_gainOfLine h0.1 h0.2.1 (cC h0 dA ad _) rfl rfl ml_X0_119 ⟨by decide, by decide, by decide, by decide⟩ rfl (Nat.le_of_ble_eq_true rfl) rfl rfl dX0_isResonance_19 rfl ?_
    refine AW.icmp_le (pc' := 25) (tgt := 41) X dX0_isResonance_22 rfl rfl (fun q4 => ?_) (fun q4 => ?_)
    · replace h := itep q4 h
      refine AW.sub (ls' := []) [] rfl ?_
      exact ok_X0_isResonance_41 X hr h0 R h
    · replace h := iten q4 h
      refine AW.iload_n (k0 := 0) (pc' := 26) X rfl rfl dX0_isResonance_25 rfl ?_
      refine AW.aload_n (k0 := 1) (pc' := 27) X rfl rfl dX0_isResonance_26 rfl ?_
      refine AW.iload_n (k0 := 2) (pc' := 28) X rfl rfl dX0_isResonance_27 rfl ?_
      refine AW.iconst (v := 1) (pc' := 29) X rfl dX0_isResonance_28 rfl ?_
      refine AW.iadd (pc' := 30) X dX0_isResonance_29 rfl ?_
      refine AW.iload_n (k0 := 3) (pc' := 31) X rfl rfl dX0_isResonance_30 rfl ?_
      obtain ⟨v5, c5, h⟩ := Option.bind_eq_some_iff.mp h
      refine AW.callV (As := [.int (x1 + 1), .int x2]) (rest := [.int (M (a0 + 8) (ix x1))]) (rv := (some (.int v5))) (M' := M) (pc' := 34) X (ok_X0_gainOfLine h0 c5) yv_X0_gainOfLine h0.1 h0.2.1 (cC h0 dA ad _) rfl rfl ml_X0_119 ⟨by decide, by decide, by decide, by decide⟩ rfl (Nat.le_of_ble_eq_true rfl) rfl rfl dX0_isResonance_31 rfl ?_
      refine AW.icmp_le (pc' := 37) (tgt := 41) X dX0_isResonance_34 rfl rfl (fun q6 => ?_) (fun q6 => ?_)
      · replace h := itep q6 h
        refine AW.sub (ls' := []) [] rfl ?_
        exact ok_X0_isResonance_41 X hr h0 R h
      · replace h := iten q6 h
        refine AW.iconst (v := 1) (pc' := 38) X rfl dX0_isResonance_37 rfl ?_
        refine AW.goto (pc' := 42) X dX0_isResonance_38 rfl ?_
        refine AW.sub (ls' := []) [] rfl ?_
        exact ok_X0_isResonance_42 X hr h0 true R h
set_option maxHeartbeats 4000000 in
set_option maxRecDepth 100000 in
theorem ok_X0_resonancesAhead_74 {a0 : Nat} {M : MM} (X : CX p s m args meth c cX0_resonancesAhead 6 RX0 D dA ad lo n A) (hr : meth.sig.returnType = (some .int)) (h0 : tCh lo n a0) {rec5 : Int32 → Int32 → Int32 → Int32 → Option Int32} (hrec5 : ∀ (x1 : Int32) (x2 : Int32) (x3 : Int32) (x4 : Int32) (R : Int32), rec5 x1 x2 x3 x4 = some R → AR p l e 3 67 s m args below meth c D dA ad lo n 6 A (some (.int R)) M 5 [(0, .ref a0), (1, .int x1), (2, .int x2), (3, .int x3), (4, .int x4)] [] M) : ∀ (x1 : Int32) (x2 : Int32) (x3 : Int32) (x4 : Int32) (R : Int32), f_X0_resonancesAhead_74 a0 M rec5 x1 x2 x3 x4 = some R → AR p l e 3 67 s m args below meth c D dA ad lo n 6 A (some (.int R)) M 74 [(0, .ref a0), (1, .int x1), (2, .int x2), (3, .int x3), (4, .int x4)] [] M := by
  intro x1 x2 x3 x4 R h
  unfold f_X0_resonancesAhead_74 at h
  refine AW.iinc (k0 := 4) (v := (x4 + 1)) (y := 1) (ls' := [(4, .int (x4 + 1)), (0, .ref a0), (1, .int x1), (2, .int x2), (3, .int x3)]) (pc' := 77) X rfl rfl rfl (by decide) rfl dX0_resonancesAhead_74 rfl ?_
  refine AW.goto (pc' := 5) X dX0_resonancesAhead_77 rfl ?_
  refine AW.sub (ls' := [(0, .ref a0), (1, .int x1), (2, .int x2), (3, .int x3), (4, .int (x4 + 1))]) [1, 2, 3, 4, 0] rfl ?_
  exact hrec5 x1 x2 x3 (x4 + 1) R h
set_option maxHeartbeats 4000000 in
set_option maxRecDepth 100000 in
theorem ok_X0_resonancesAhead_54 {a0 : Nat} {M : MM} (X : CX p s m args meth c cX0_resonancesAhead 6 RX0 D dA ad lo n A) (hr : meth.sig.returnType = (some .int)) (h0 : tCh lo n a0) {rec5 : Int32 → Int32 → Int32 → Int32 → Option Int32} (hrec5 : ∀ (x1 : Int32) (x2 : Int32) (x3 : Int32) (x4 : Int32) (R : Int32), rec5 x1 x2 x3 x4 = some R → AR p l e 3 67 s m args below meth c D dA ad lo n 6 A (some (.int R)) M 5 [(0, .ref a0), (1, .int x1), (2, .int x2), (3, .int x3), (4, .int x4)] [] M) : ∀ (x1 : Int32) (x2 : Int32) (x3 : Int32) (x4 : Int32) (sb0 : Bool) (R : Int32), f_X0_resonancesAhead_54 a0 M rec5 x1 x2 x3 x4 sb0 = some R → AR p l e 3 67 s m args below meth c D dA ad lo n 6 A (some (.int R)) M 54 [(0, .ref a0), (1, .int x1), (2, .int x2), (3, .int x3), (4, .int x4)] [.int (bz sb0)] M := by
  intro x1 x2 x3 x4 sb0 R h
  unfold f_X0_resonancesAhead_54 at h
  refine AW.istore (ls' := [(5, .int (bz sb0)), (0, .ref a0), (1, .int x1), (2, .int x2), (3, .int x3), (4, .int x4)]) (pc' := 56) X (by decide) rfl dX0_resonancesAhead_54 rfl ?_
  refine AW.iload (k0 := 0) (pc' := 58) X rfl dX0_resonancesAhead_56 rfl ?_
  refine AW.if_eq (pc' := 61) (tgt := 74) X dX0_resonancesAhead_58 rfl rfl (fun q1 => ?_) (fun q1 => ?_)
  · replace h := itep q1 h
    refine AW.sub (ls' := [(0, .ref a0), (1, .int x1), (2, .int x2), (3, .int x3), (4, .int x4)]) [1, 2, 3, 4, 5] rfl ?_
    exact ok_X0_resonancesAhead_74 X hr h0 hrec5 x1 x2 x3 x4 R h
  · replace h := iten q1 h
    refine AW.aload_n (k0 := 1) (pc' := 62) X rfl rfl dX0_resonancesAhead_61 rfl ?_
    refine AW.iload (k0 := 5) (pc' := 64) X rfl dX0_resonancesAhead_62 rfl ?_
    refine AW.iload_n (k0 := 3) (pc' := 65) X rfl rfl dX0_resonancesAhead_64 rfl ?_
    obtain ⟨v2, c2, h⟩ := Option.bind_eq_some_iff.mp h
    refine AW.callV (As := [.int x4, .int x2]) (rest := []) (rv := (some (.int (bz v2)))) (M' := M) (pc' := 68) X (ok_X0_isResonance h0 c2) yv_X0_isResonance h0.1 h0.2.1 (cC h0 dA ad _) rfl rfl ml_X0_112 ⟨by decide, by decide, by decide, by decide⟩ rfl (Nat.le_of_ble_eq_true rfl) rfl rfl dX0_resonancesAhead_65 rfl ?_
    refine AW.if_eq (pc' := 71) (tgt := 74) X dX0_resonancesAhead_68 rfl rfl (fun q3 => ?_) (fun q3 => ?_)
    · replace h := itep q3 h
      refine AW.sub (ls' := [(0, .ref a0), (1, .int x1), (2, .int x2), (3, .int x3), (4, .int x4)]) [1, 2, 3, 4, 5] rfl ?_
      exact ok_X0_resonancesAhead_74 X hr h0 hrec5 x1 x2 x3 x4 R h
    · replace h := iten q3 h
      refine AW.iinc (k0 := 4) (v := (x3 + 1)) (y := 1) (ls' := [(3, .int (x3 + 1)), (5, .int (bz sb0)), (0, .ref a0), (1, .int x1), (2, .int x2), (4, .int x4)]) (pc' := 74) X rfl rfl rfl (by decide) rfl dX0_resonancesAhead_71 rfl ?_
      refine AW.sub (ls' := [(0, .ref a0), (1, .int x1), (2, .int x2), (3, .int (x3 + 1)), (4, .int x4)]) [2, 3, 4, 0, 5] rfl ?_
      exact ok_X0_resonancesAhead_74 X hr h0 hrec5 x1 x2 (x3 + 1) x4 R h
set_option maxHeartbeats 4000000 in
set_option maxRecDepth 100000 in
theorem ok_X0_resonancesAhead_49 {a0 : Nat} {M : MM} (X : CX p s m args meth c cX0_resonancesAhead 6 RX0 D dA ad lo n A) (hr : meth.sig.returnType = (some .int)) (h0 : tCh lo n a0) {rec5 : Int32 → Int32 → Int32 → Int32 → Option Int32} (hrec5 : ∀ (x1 : Int32) (x2 : Int32) (x3 : Int32) (x4 : Int32) (R : Int32), rec5 x1 x2 x3 x4 = some R → AR p l e 3 67 s m args below meth c D dA ad lo n 6 A (some (.int R)) M 5 [(0, .ref a0), (1, .int x1), (2, .int x2), (3, .int x3), (4, .int x4)] [] M) : ∀ (x1 : Int32) (x2 : Int32) (x3 : Int32) (x4 : Int32) (R : Int32), f_X0_resonancesAhead_49 a0 M rec5 x1 x2 x3 x4 = some R → AR p l e 3 67 s m args below meth c D dA ad lo n 6 A (some (.int R)) M 49 [(0, .ref a0), (1, .int x1), (2, .int x2), (3, .int x3), (4, .int x4)] [] M := by
  intro x1 x2 x3 x4 R h
  unfold f_X0_resonancesAhead_49 at h
  refine AW.iconst (v := 1) (pc' := 50) X rfl dX0_resonancesAhead_49 rfl ?_
  refine AW.goto (pc' := 54) X dX0_resonancesAhead_50 rfl ?_
  exact ok_X0_resonancesAhead_54 X hr h0 hrec5 x1 x2 x3 x4 true R h
set_option maxHeartbeats 4000000 in
set_option maxRecDepth 100000 in
theorem ok_X0_resonancesAhead_53 {a0 : Nat} {M : MM} (X : CX p s m args meth c cX0_resonancesAhead 6 RX0 D dA ad lo n A) (hr : meth.sig.returnType = (some .int)) (h0 : tCh lo n a0) {rec5 : Int32 → Int32 → Int32 → Int32 → Option Int32} (hrec5 : ∀ (x1 : Int32) (x2 : Int32) (x3 : Int32) (x4 : Int32) (R : Int32), rec5 x1 x2 x3 x4 = some R → AR p l e 3 67 s m args below meth c D dA ad lo n 6 A (some (.int R)) M 5 [(0, .ref a0), (1, .int x1), (2, .int x2), (3, .int x3), (4, .int x4)] [] M) : ∀ (x1 : Int32) (x2 : Int32) (x3 : Int32) (x4 : Int32) (R : Int32), f_X0_resonancesAhead_53 a0 M rec5 x1 x2 x3 x4 = some R → AR p l e 3 67 s m args below meth c D dA ad lo n 6 A (some (.int R)) M 53 [(0, .ref a0), (1, .int x1), (2, .int x2), (3, .int x3), (4, .int x4)] [] M := by
  intro x1 x2 x3 x4 R h
  unfold f_X0_resonancesAhead_53 at h
  refine AW.iconst (v := 0) (pc' := 54) X rfl dX0_resonancesAhead_53 rfl ?_
  exact ok_X0_resonancesAhead_54 X hr h0 hrec5 x1 x2 x3 x4 false R h
set_option maxHeartbeats 4000000 in
set_option maxRecDepth 100000 in
theorem ok_X0_resonancesAhead_5 {a0 : Nat} {M : MM} (X : CX p s m args meth c cX0_resonancesAhead 6 RX0 D dA ad lo n A) (hr : meth.sig.returnType = (some .int)) (h0 : tCh lo n a0) : ∀ (k : Nat) (x1 : Int32) (x2 : Int32) (x3 : Int32) (x4 : Int32) (R : Int32), f_X0_resonancesAhead_5 a0 M k x1 x2 x3 x4 = some R → AR p l e 3 67 s m args below meth c D dA ad lo n 6 A (some (.int R)) M 5 [(0, .ref a0), (1, .int x1), (2, .int x2), (3, .int x3), (4, .int x4)] [] M := by
  intro k
  induction k with
  | zero => intro _ _ _ _ R h; exact none_some h
  | succ k ih =>
    intro x1 x2 x3 x4 R h
    unfold f_X0_resonancesAhead_5 at h
    refine AW.iload (k0 := 4) (pc' := 7) X rfl dX0_resonancesAhead_5 rfl ?_
    refine AW.iload_n (k0 := 2) (pc' := 8) X rfl rfl dX0_resonancesAhead_7 rfl ?_
    refine AW.icmp_ge (pc' := 11) (tgt := 80) X dX0_resonancesAhead_8 rfl rfl (fun q1 => ?_) (fun q1 => ?_)
    · replace h := itep q1 h
      refine AW.iload_n (k0 := 3) (pc' := 81) X rfl rfl dX0_resonancesAhead_80 rfl ?_
      replace h := Option.some.inj h
      subst h
      exact AW.iret X hr dX0_resonancesAhead_81
    · replace h := iten q1 h
      refine AW.aload_n (k0 := 0) (pc' := 12) X rfl rfl dX0_resonancesAhead_11 rfl ?_
      refine AW.gX0 (v := .ref (a0 + 8)) (pc' := 15) X h0 11 (by decide) rfl mf_X0_33 rfl dX0_resonancesAhead_12 rfl ?_
      refine AW.iload (k0 := 4) (pc' := 17) X rfl dX0_resonancesAhead_15 rfl ?_
      obtain ⟨g2, h⟩ := gd_some h
      refine AW.iald (pc' := 18) X (rC8 h0) (inb_vp g2) dX0_resonancesAhead_17 rfl ?_
      refine AW.aload_n (k0 := 0) (pc' := 19) X rfl rfl dX0_resonancesAhead_18 rfl ?_
      refine AW.gX0 (v := .ref (a0 + 8)) (pc' := 22) X h0 11 (by decide) rfl mf_X0_33 rfl dX0_resonancesAhead_19 rfl ?_
      refine AW.iload_n (k0 := 1) (pc' := 23) X rfl rfl dX0_resonancesAhead_22 rfl ?_
      obtain ⟨g3, h⟩ := gd_some h
      refine AW.iald (pc' := 24) X (rC8 h0) (inb_vp g3) dX0_resonancesAhead_23 rfl ?_
      refine AW.icmp_gt (pc' := 27) (tgt := 49) X dX0_resonancesAhead_24 rfl rfl (fun q4 => ?_) (fun q4 => ?_)
      · replace h := itep q4 h
        exact ok_X0_resonancesAhead_49 X hr h0 ih x1 x2 x3 x4 R h
      · replace h := iten q4 h
        refine AW.aload_n (k0 := 0) (pc' := 28) X rfl rfl dX0_resonancesAhead_27 rfl ?_
        refine AW.gX0 (v := .ref (a0 + 8)) (pc' := 31) X h0 11 (by decide) rfl mf_X0_33 rfl dX0_resonancesAhead_28 rfl ?_
        refine AW.iload (k0 := 4) (pc' := 33) X rfl dX0_resonancesAhead_31 rfl ?_
        obtain ⟨g5, h⟩ := gd_some h
        refine AW.iald (pc' := 34) X (rC8 h0) (inb_vp g5) dX0_resonancesAhead_33 rfl ?_
        refine AW.aload_n (k0 := 0) (pc' := 35) X rfl rfl dX0_resonancesAhead_34 rfl ?_
        refine AW.gX0 (v := .ref (a0 + 8)) (pc' := 38) X h0 11 (by decide) rfl mf_X0_33 rfl dX0_resonancesAhead_35 rfl ?_
        refine AW.iload_n (k0 := 1) (pc' := 39) X rfl rfl dX0_resonancesAhead_38 rfl ?_
        obtain ⟨g6, h⟩ := gd_some h
        refine AW.iald (pc' := 40) X (rC8 h0) (inb_vp g6) dX0_resonancesAhead_39 rfl ?_
        refine AW.icmp_ne (pc' := 43) (tgt := 53) X dX0_resonancesAhead_40 rfl rfl (fun q7 => ?_) (fun q7 => ?_)
        · replace h := iten q7 h
          exact ok_X0_resonancesAhead_53 X hr h0 ih x1 x2 x3 x4 R h
        · replace h := itep q7 h
          refine AW.iload (k0 := 4) (pc' := 45) X rfl dX0_resonancesAhead_43 rfl ?_
          refine AW.iload_n (k0 := 1) (pc' := 46) X rfl rfl dX0_resonancesAhead_45 rfl ?_
          refine AW.icmp_ge (pc' := 49) (tgt := 53) X dX0_resonancesAhead_46 rfl rfl (fun q8 => ?_) (fun q8 => ?_)
          · replace h := itep q8 h
            exact ok_X0_resonancesAhead_53 X hr h0 ih x1 x2 x3 x4 R h
          · replace h := iten q8 h
            exact ok_X0_resonancesAhead_49 X hr h0 ih x1 x2 x3 x4 R h
set_option maxHeartbeats 4000000 in
set_option maxRecDepth 100000 in
theorem ok_X0_resonancesAhead {lo n : Nat} {a0 : Nat} {x1 : Int32} {x2 : Int32} {M : MM} {R : Int32} (h0 : tCh lo n a0) (h : f_X0_resonancesAhead a0 x1 x2 M = some R) : MC yX0_resonancesAhead cX0_resonancesAhead 6 (some .int) 3 67 lo n [.ref a0, .int x1, .int x2] M (some (.int R)) M := by
  refine MC.of (ls0 := [(0, .ref a0), (1, .int x1), (2, .int x2)]) (by decide) rfl (fun _ => Nat.le_of_ble_eq_true rfl) (fun p l e s m args below meth c D dA ad A X hr => ?_)
  replace X : CX p s m args meth c cX0_resonancesAhead 6 RX0 D dA ad lo n A := X
  unfold f_X0_resonancesAhead at h
  refine AW.iconst (v := 0) (pc' := 1) X rfl dX0_resonancesAhead_0 rfl ?_
  refine AW.istore_n (ls' := [(3, .int 0), (0, .ref a0), (1, .int x1), (2, .int x2)]) (pc' := 2) X rfl (by decide) rfl dX0_resonancesAhead_1 rfl ?_
  refine AW.iconst (v := 0) (pc' := 3) X rfl dX0_resonancesAhead_2 rfl ?_
  refine AW.istore (ls' := [(4, .int 0), (3, .int 0), (0, .ref a0), (1, .int x1), (2, .int x2)]) (pc' := 5) X (by decide) rfl dX0_resonancesAhead_3 rfl ?_
  refine AW.sub (ls' := [(0, .ref a0), (1, .int x1), (2, .int x2), (3, .int 0), (4, .int 0)]) [2, 3, 4, 1, 0] rfl ?_
  exact ok_X0_resonancesAhead_5 X hr h0 FU x1 x2 0 0 R h
set_option maxHeartbeats 4000000 in
set_option maxRecDepth 100000 in
theorem ok_X0_resonanceAt_28 {a0 : Nat} {M : MM} (X : CX p s m args meth c cX0_resonanceAt 4 RX0 D dA ad lo n A) (hr : meth.sig.returnType = (some .int)) (h0 : tCh lo n a0) {rec2 : Int32 → Int32 → Int32 → Option Int32} (hrec2 : ∀ (x1 : Int32) (x2 : Int32) (x3 : Int32) (R : Int32), rec2 x1 x2 x3 = some R → AR p l e 4 92 s m args below meth c D dA ad lo n 4 A (some (.int R)) M 2 [(0, .ref a0), (1, .int x1), (2, .int x2), (3, .int x3)] [] M) : ∀ (x1 : Int32) (x2 : Int32) (x3 : Int32) (R : Int32), f_X0_resonanceAt_28 a0 M rec2 x1 x2 x3 = some R → AR p l e 4 92 s m args below meth c D dA ad lo n 4 A (some (.int R)) M 28 [(0, .ref a0), (1, .int x1), (2, .int x2), (3, .int x3)] [] M := by
  intro x1 x2 x3 R h
  unfold f_X0_resonanceAt_28 at h
  refine AW.iinc (k0 := 3) (v := (x3 + 1)) (y := 1) (ls' := [(3, .int (x3 + 1)), (0, .ref a0), (1, .int x1), (2, .int x2)]) (pc' := 31) X rfl rfl rfl (by decide) rfl dX0_resonanceAt_28 rfl ?_
  refine AW.goto (pc' := 2) X dX0_resonanceAt_31 rfl ?_
  refine AW.sub (ls' := [(0, .ref a0), (1, .int x1), (2, .int x2), (3, .int (x3 + 1))]) [1, 2, 3, 0] rfl ?_
  exact hrec2 x1 x2 (x3 + 1) R h
set_option maxHeartbeats 4000000 in
set_option maxRecDepth 100000 in
theorem ok_X0_resonanceAt_2 {a0 : Nat} {M : MM} (X : CX p s m args meth c cX0_resonanceAt 4 RX0 D dA ad lo n A) (hr : meth.sig.returnType = (some .int)) (h0 : tCh lo n a0) : ∀ (k : Nat) (x1 : Int32) (x2 : Int32) (x3 : Int32) (R : Int32), f_X0_resonanceAt_2 a0 M k x1 x2 x3 = some R → AR p l e 4 92 s m args below meth c D dA ad lo n 4 A (some (.int R)) M 2 [(0, .ref a0), (1, .int x1), (2, .int x2), (3, .int x3)] [] M := by
  intro k
  induction k with
  | zero => intro _ _ _ R h; exact none_some h
  | succ k ih =>
    intro x1 x2 x3 R h
    unfold f_X0_resonanceAt_2 at h
    refine AW.iload_n (k0 := 3) (pc' := 3) X rfl rfl dX0_resonanceAt_2 rfl ?_
    refine AW.iload_n (k0 := 2) (pc' := 4) X rfl rfl dX0_resonanceAt_3 rfl ?_
    refine AW.icmp_ge (pc' := 7) (tgt := 34) X dX0_resonanceAt_4 rfl rfl (fun q1 => ?_) (fun q1 => ?_)
    · replace h := itep q1 h
      refine AW.bipush (v := (-6)) (pc' := 36) X rfl dX0_resonanceAt_34 rfl ?_
      replace h := Option.some.inj h
      subst h
      exact AW.iret X hr dX0_resonanceAt_36
    · replace h := iten q1 h
      refine AW.aload_n (k0 := 0) (pc' := 8) X rfl rfl dX0_resonanceAt_7 rfl ?_
      refine AW.iload_n (k0 := 3) (pc' := 9) X rfl rfl dX0_resonanceAt_8 rfl ?_
      refine AW.iload_n (k0 := 2) (pc' := 10) X rfl rfl dX0_resonanceAt_9 rfl ?_
      obtain ⟨v2, c2, h⟩ := Option.bind_eq_some_iff.mp h
      refine AW.callV (As := [.int x3, .int x2]) (rest := []) (rv := (some (.int (bz v2)))) (M' := M) (pc' := 13) X (ok_X0_isResonance h0 c2) yv_X0_isResonance h0.1 h0.2.1 (cC h0 dA ad _) rfl rfl ml_X0_112 ⟨by decide, by decide, by decide, by decide⟩ rfl (Nat.le_of_ble_eq_true rfl) rfl rfl dX0_resonanceAt_10 rfl ?_
      refine AW.if_eq (pc' := 16) (tgt := 28) X dX0_resonanceAt_13 rfl rfl (fun q3 => ?_) (fun q3 => ?_)
      · replace h := itep q3 h
        exact ok_X0_resonanceAt_28 X hr h0 ih x1 x2 x3 R h
      · replace h := iten q3 h
        refine AW.aload_n (k0 := 0) (pc' := 17) X rfl rfl dX0_resonanceAt_16 rfl ?_
        refine AW.iload_n (k0 := 3) (pc' := 18) X rfl rfl dX0_resonanceAt_17 rfl ?_
        refine AW.iload_n (k0 := 2) (pc' := 19) X rfl rfl dX0_resonanceAt_18 rfl ?_
        obtain ⟨v4, c4, h⟩ := Option.bind_eq_some_iff.mp h
        refine AW.callV (As := [.int x3, .int x2]) (rest := []) (rv := (some (.int v4))) (M' := M) (pc' := 22) X (ok_X0_resonancesAhead h0 c4) yv_X0_resonancesAhead h0.1 h0.2.1 (cC h0 dA ad _) rfl rfl ml_X0_116 ⟨by decide, by decide, by decide, by decide⟩ rfl (Nat.le_of_ble_eq_true rfl) rfl rfl dX0_resonanceAt_19 rfl ?_
        refine AW.iload_n (k0 := 1) (pc' := 23) X rfl rfl dX0_resonanceAt_22 rfl ?_
        refine AW.icmp_ne (pc' := 26) (tgt := 28) X dX0_resonanceAt_23 rfl rfl (fun q5 => ?_) (fun q5 => ?_)
        · replace h := iten q5 h
          exact ok_X0_resonanceAt_28 X hr h0 ih x1 x2 x3 R h
        · replace h := itep q5 h
          refine AW.iload_n (k0 := 3) (pc' := 27) X rfl rfl dX0_resonanceAt_26 rfl ?_
          replace h := Option.some.inj h
          subst h
          exact AW.iret X hr dX0_resonanceAt_27
set_option maxHeartbeats 4000000 in
set_option maxRecDepth 100000 in
theorem ok_X0_resonanceAt {lo n : Nat} {a0 : Nat} {x1 : Int32} {x2 : Int32} {M : MM} {R : Int32} (h0 : tCh lo n a0) (h : f_X0_resonanceAt a0 x1 x2 M = some R) : MC yX0_resonanceAt cX0_resonanceAt 4 (some .int) 4 92 lo n [.ref a0, .int x1, .int x2] M (some (.int R)) M := by
  refine MC.of (ls0 := [(0, .ref a0), (1, .int x1), (2, .int x2)]) (by decide) rfl (fun _ => Nat.le_of_ble_eq_true rfl) (fun p l e s m args below meth c D dA ad A X hr => ?_)
  replace X : CX p s m args meth c cX0_resonanceAt 4 RX0 D dA ad lo n A := X
  unfold f_X0_resonanceAt at h
  refine AW.iconst (v := 0) (pc' := 1) X rfl dX0_resonanceAt_0 rfl ?_
  refine AW.istore_n (ls' := [(3, .int 0), (0, .ref a0), (1, .int x1), (2, .int x2)]) (pc' := 2) X rfl (by decide) rfl dX0_resonanceAt_1 rfl ?_
  refine AW.sub (ls' := [(0, .ref a0), (1, .int x1), (2, .int x2), (3, .int 0)]) [1, 2, 3, 0] rfl ?_
  exact ok_X0_resonanceAt_2 X hr h0 FU x1 x2 0 R h
set_option maxHeartbeats 4000000 in
set_option maxRecDepth 100000 in
theorem ok_X6_copyRow {lo n : Nat} {a0 : Nat} {L0 : Nat} {a1 : Nat} {L1 : Nat} {M : MM} {R : MM} (h0 : tIA lo n L0 a0) (h1 : tIA lo n L1 a1) (h : f_X6_copyRow a0 L0 a1 L1 M = some R) : MC yX6_copyRow cX6_copyRow 2 none 1 40 lo n [.ref a0, .ref a1] M none R := by
  refine MC.of (ls0 := [(0, .ref a0), (1, .ref a1)]) (by decide) rfl (fun _ => Nat.le_of_ble_eq_true rfl) (fun p l e s m args below meth c D dA ad A X hr => ?_)
  replace X : CX p s m args meth c cX6_copyRow 2 RX6 D dA ad lo n A := X
  unfold f_X6_copyRow at h
  refine AW.aload_n (k0 := 0) (pc' := 1) X rfl rfl dX6_copyRow_0 rfl ?_
  refine AW.iconst (v := 0) (pc' := 2) X rfl dX6_copyRow_1 rfl ?_
  refine AW.aload_n (k0 := 1) (pc' := 3) X rfl rfl dX6_copyRow_2 rfl ?_
  refine AW.iconst (v := 0) (pc' := 4) X rfl dX6_copyRow_3 rfl ?_
  refine AW.aload_n (k0 := 0) (pc' := 5) X rfl rfl dX6_copyRow_4 rfl ?_
  refine AW.alen (pc' := 6) X h0 rfl dX6_copyRow_5 rfl ?_
  refine AW.aload_n (k0 := 1) (pc' := 7) X rfl rfl dX6_copyRow_6 rfl ?_
  refine AW.alen (pc' := 8) X h1 rfl dX6_copyRow_7 rfl ?_
  refine AW.mmin (pc' := 11) X ⟨by decide, by decide, by decide, by decide⟩ (Nat.le_of_ble_eq_true rfl) ml_X6_230 dX6_copyRow_8 rfl ?_
  obtain ⟨g1, h⟩ := gd_some h
  refine AW.acopy (pc' := 14) X h0 h1 ⟨by decide, by decide⟩ (Nat.le_of_ble_eq_true rfl) (acg_1 g1) (acg_2 g1) (acg_3 g1) (acg_4 g1) (acg_5 g1) ml_X6_233 dX6_copyRow_11 rfl ?_
  replace h := Option.some.inj h
  subst h
  exact AW.vret X hr dX6_copyRow_14
set_option maxHeartbeats 4000000 in
set_option maxRecDepth 100000 in
theorem ok_X0_copyFrom {lo n : Nat} {a0 : Nat} {a1 : Nat} {M : MM} {R : MM} (h0 : tCh lo n a0) (h1 : tCh lo n a1) (h : f_X0_copyFrom a0 a1 M = some R) : MC yX0_copyFrom cX0_copyFrom 2 none 2 61 lo n [.ref a0, .ref a1] M none R := by
  refine MC.of (ls0 := [(0, .ref a0), (1, .ref a1)]) (by decide) rfl (fun _ => Nat.le_of_ble_eq_true rfl) (fun p l e s m args below meth c D dA ad A X hr => ?_)
  replace X : CX p s m args meth c cX0_copyFrom 2 RX0 D dA ad lo n A := X
  unfold f_X0_copyFrom at h
  refine AW.aload_n (k0 := 0) (pc' := 1) X rfl rfl dX0_copyFrom_0 rfl ?_
  refine AW.aload_n (k0 := 1) (pc' := 2) X rfl rfl dX0_copyFrom_1 rfl ?_
  refine AW.gX0 (v := .int (bz (nz (M a1 0)))) (pc' := 5) X h1 0 (by decide) rfl mf_X0_36 rfl dX0_copyFrom_2 rfl ?_
  refine AW.zX0 (b := (nz (M a1 0))) (pc' := 8) X h0 0 (by decide) rfl mf_X0_36 rfl rfl (by simp [fsC, upd, nz_bz]) (Nat.le_of_ble_eq_true rfl) dX0_copyFrom_5 rfl ?_
  refine AW.aload_n (k0 := 0) (pc' := 9) X rfl rfl dX0_copyFrom_8 rfl ?_
  refine AW.aload_n (k0 := 1) (pc' := 10) X rfl rfl dX0_copyFrom_9 rfl ?_
  refine AW.gX0 (v := .int ((ms M a0 0 (bz (nz (M a1 0)))) a1 1)) (pc' := 13) X h1 1 (by decide) rfl mf_X0_40 rfl dX0_copyFrom_10 rfl ?_
  refine AW.pX0 (pc' := 16) X h0 1 (by decide) rfl mf_X0_40 rfl rfl (by simp [fsC, upd]) (Nat.le_of_ble_eq_true rfl) dX0_copyFrom_13 rfl ?_
  refine AW.aload_n (k0 := 0) (pc' := 17) X rfl rfl dX0_copyFrom_16 rfl ?_
  refine AW.aload_n (k0 := 1) (pc' := 18) X rfl rfl dX0_copyFrom_17 rfl ?_
  refine AW.gX0 (v := .int ((ms (ms M a0 0 (bz (nz (M a1 0)))) a0 1 ((ms M a0 0 (bz (nz (M a1 0)))) a1 1)) a1 2)) (pc' := 21) X h1 2 (by decide) rfl mf_X0_44 rfl dX0_copyFrom_18 rfl ?_
  refine AW.pX0 (pc' := 24) X h0 2 (by decide) rfl mf_X0_44 rfl rfl (by simp [fsC, upd]) (Nat.le_of_ble_eq_true rfl) dX0_copyFrom_21 rfl ?_
  refine AW.aload_n (k0 := 1) (pc' := 25) X rfl rfl dX0_copyFrom_24 rfl ?_
  refine AW.gX0 (v := .ref (a1 + 1)) (pc' := 28) X h1 3 (by decide) rfl mf_X0_9 rfl dX0_copyFrom_25 rfl ?_
  refine AW.aload_n (k0 := 0) (pc' := 29) X rfl rfl dX0_copyFrom_28 rfl ?_
  refine AW.gX0 (v := .ref (a0 + 1)) (pc' := 32) X h0 3 (by decide) rfl mf_X0_9 rfl dX0_copyFrom_29 rfl ?_
  obtain ⟨v1, c1, h⟩ := Option.bind_eq_some_iff.mp h
  refine AW.callN (As := [.ref (a1 + 1), .ref (a0 + 1)]) (rest := []) (rv := none) (M' := v1) (pc' := 35) X (ok_X6_copyRow (rC1 h1) (rC1 h0) c1) yv_X6_copyRow mn_X0_122 ⟨by decide, by decide, by decide, by decide⟩ rfl (Nat.le_of_ble_eq_true rfl) rfl rfl dX0_copyFrom_32 rfl ?_
  refine AW.aload_n (k0 := 1) (pc' := 36) X rfl rfl dX0_copyFrom_35 rfl ?_
  refine AW.gX0 (v := .ref (a1 + 2)) (pc' := 39) X h1 4 (by decide) rfl mf_X0_15 rfl dX0_copyFrom_36 rfl ?_
  refine AW.aload_n (k0 := 0) (pc' := 40) X rfl rfl dX0_copyFrom_39 rfl ?_
  refine AW.gX0 (v := .ref (a0 + 2)) (pc' := 43) X h0 4 (by decide) rfl mf_X0_15 rfl dX0_copyFrom_40 rfl ?_
  obtain ⟨v2, c2, h⟩ := Option.bind_eq_some_iff.mp h
  refine AW.callN (As := [.ref (a1 + 2), .ref (a0 + 2)]) (rest := []) (rv := none) (M' := v2) (pc' := 46) X (ok_X6_copyRow (rC2 h1) (rC2 h0) c2) yv_X6_copyRow mn_X0_122 ⟨by decide, by decide, by decide, by decide⟩ rfl (Nat.le_of_ble_eq_true rfl) rfl rfl dX0_copyFrom_43 rfl ?_
  refine AW.aload_n (k0 := 1) (pc' := 47) X rfl rfl dX0_copyFrom_46 rfl ?_
  refine AW.gX0 (v := .ref (a1 + 3)) (pc' := 50) X h1 5 (by decide) rfl mf_X0_18 rfl dX0_copyFrom_47 rfl ?_
  refine AW.aload_n (k0 := 0) (pc' := 51) X rfl rfl dX0_copyFrom_50 rfl ?_
  refine AW.gX0 (v := .ref (a0 + 3)) (pc' := 54) X h0 5 (by decide) rfl mf_X0_18 rfl dX0_copyFrom_51 rfl ?_
  obtain ⟨v3, c3, h⟩ := Option.bind_eq_some_iff.mp h
  refine AW.callN (As := [.ref (a1 + 3), .ref (a0 + 3)]) (rest := []) (rv := none) (M' := v3) (pc' := 57) X (ok_X6_copyRow (rC3 h1) (rC3 h0) c3) yv_X6_copyRow mn_X0_122 ⟨by decide, by decide, by decide, by decide⟩ rfl (Nat.le_of_ble_eq_true rfl) rfl rfl dX0_copyFrom_54 rfl ?_
  refine AW.aload_n (k0 := 1) (pc' := 58) X rfl rfl dX0_copyFrom_57 rfl ?_
  refine AW.gX0 (v := .ref (a1 + 4)) (pc' := 61) X h1 6 (by decide) rfl mf_X0_21 rfl dX0_copyFrom_58 rfl ?_
  refine AW.aload_n (k0 := 0) (pc' := 62) X rfl rfl dX0_copyFrom_61 rfl ?_
  refine AW.gX0 (v := .ref (a0 + 4)) (pc' := 65) X h0 6 (by decide) rfl mf_X0_21 rfl dX0_copyFrom_62 rfl ?_
  obtain ⟨v4, c4, h⟩ := Option.bind_eq_some_iff.mp h
  refine AW.callN (As := [.ref (a1 + 4), .ref (a0 + 4)]) (rest := []) (rv := none) (M' := v4) (pc' := 68) X (ok_X6_copyRow (rC4 h1) (rC4 h0) c4) yv_X6_copyRow mn_X0_122 ⟨by decide, by decide, by decide, by decide⟩ rfl (Nat.le_of_ble_eq_true rfl) rfl rfl dX0_copyFrom_65 rfl ?_
  refine AW.aload_n (k0 := 1) (pc' := 69) X rfl rfl dX0_copyFrom_68 rfl ?_
  refine AW.gX0 (v := .ref (a1 + 5)) (pc' := 72) X h1 7 (by decide) rfl mf_X0_24 rfl dX0_copyFrom_69 rfl ?_
  refine AW.aload_n (k0 := 0) (pc' := 73) X rfl rfl dX0_copyFrom_72 rfl ?_
  refine AW.gX0 (v := .ref (a0 + 5)) (pc' := 76) X h0 7 (by decide) rfl mf_X0_24 rfl dX0_copyFrom_73 rfl ?_
  obtain ⟨v5, c5, h⟩ := Option.bind_eq_some_iff.mp h
  refine AW.callN (As := [.ref (a1 + 5), .ref (a0 + 5)]) (rest := []) (rv := none) (M' := v5) (pc' := 79) X (ok_X6_copyRow (rC5 h1) (rC5 h0) c5) yv_X6_copyRow mn_X0_122 ⟨by decide, by decide, by decide, by decide⟩ rfl (Nat.le_of_ble_eq_true rfl) rfl rfl dX0_copyFrom_76 rfl ?_
  refine AW.aload_n (k0 := 1) (pc' := 80) X rfl rfl dX0_copyFrom_79 rfl ?_
  refine AW.gX0 (v := .ref (a1 + 6)) (pc' := 83) X h1 8 (by decide) rfl mf_X0_27 rfl dX0_copyFrom_80 rfl ?_
  refine AW.aload_n (k0 := 0) (pc' := 84) X rfl rfl dX0_copyFrom_83 rfl ?_
  refine AW.gX0 (v := .ref (a0 + 6)) (pc' := 87) X h0 8 (by decide) rfl mf_X0_27 rfl dX0_copyFrom_84 rfl ?_
  obtain ⟨v6, c6, h⟩ := Option.bind_eq_some_iff.mp h
  refine AW.callN (As := [.ref (a1 + 6), .ref (a0 + 6)]) (rest := []) (rv := none) (M' := v6) (pc' := 90) X (ok_X6_copyRow (rC6 h1) (rC6 h0) c6) yv_X6_copyRow mn_X0_122 ⟨by decide, by decide, by decide, by decide⟩ rfl (Nat.le_of_ble_eq_true rfl) rfl rfl dX0_copyFrom_87 rfl ?_
  refine AW.aload_n (k0 := 0) (pc' := 91) X rfl rfl dX0_copyFrom_90 rfl ?_
  refine AW.aload_n (k0 := 1) (pc' := 92) X rfl rfl dX0_copyFrom_91 rfl ?_
  refine AW.gX0 (v := .int (v6 a1 9)) (pc' := 95) X h1 9 (by decide) rfl mf_X0_53 rfl dX0_copyFrom_92 rfl ?_
  refine AW.pX0 (pc' := 98) X h0 9 (by decide) rfl mf_X0_53 rfl rfl (by simp [fsC, upd]) (Nat.le_of_ble_eq_true rfl) dX0_copyFrom_95 rfl ?_
  refine AW.aload_n (k0 := 1) (pc' := 99) X rfl rfl dX0_copyFrom_98 rfl ?_
  refine AW.gX0 (v := .ref (a1 + 7)) (pc' := 102) X h1 10 (by decide) rfl mf_X0_30 rfl dX0_copyFrom_99 rfl ?_
  refine AW.aload_n (k0 := 0) (pc' := 103) X rfl rfl dX0_copyFrom_102 rfl ?_
  refine AW.gX0 (v := .ref (a0 + 7)) (pc' := 106) X h0 10 (by decide) rfl mf_X0_30 rfl dX0_copyFrom_103 rfl ?_
  obtain ⟨v7, c7, h⟩ := Option.bind_eq_some_iff.mp h
  refine AW.callN (As := [.ref (a1 + 7), .ref (a0 + 7)]) (rest := []) (rv := none) (M' := v7) (pc' := 109) X (ok_X6_copyRow (rC7 h1) (rC7 h0) c7) yv_X6_copyRow mn_X0_122 ⟨by decide, by decide, by decide, by decide⟩ rfl (Nat.le_of_ble_eq_true rfl) rfl rfl dX0_copyFrom_106 rfl ?_
  refine AW.aload_n (k0 := 1) (pc' := 110) X rfl rfl dX0_copyFrom_109 rfl ?_
  refine AW.gX0 (v := .ref (a1 + 8)) (pc' := 113) X h1 11 (by decide) rfl mf_X0_33 rfl dX0_copyFrom_110 rfl ?_
  refine AW.aload_n (k0 := 0) (pc' := 114) X rfl rfl dX0_copyFrom_113 rfl ?_
  refine AW.gX0 (v := .ref (a0 + 8)) (pc' := 117) X h0 11 (by decide) rfl mf_X0_33 rfl dX0_copyFrom_114 rfl ?_
  obtain ⟨v8, c8, h⟩ := Option.bind_eq_some_iff.mp h
  refine AW.callN (As := [.ref (a1 + 8), .ref (a0 + 8)]) (rest := []) (rv := none) (M' := v8) (pc' := 120) X (ok_X6_copyRow (rC8 h1) (rC8 h0) c8) yv_X6_copyRow mn_X0_122 ⟨by decide, by decide, by decide, by decide⟩ rfl (Nat.le_of_ble_eq_true rfl) rfl rfl dX0_copyFrom_117 rfl ?_
  refine AW.aload_n (k0 := 0) (pc' := 121) X rfl rfl dX0_copyFrom_120 rfl ?_
  refine AW.aload_n (k0 := 1) (pc' := 122) X rfl rfl dX0_copyFrom_121 rfl ?_
  refine AW.gX0 (v := .int (v8 a1 12)) (pc' := 125) X h1 12 (by decide) rfl mf_X0_90 rfl dX0_copyFrom_122 rfl ?_
  refine AW.pX0 (pc' := 128) X h0 12 (by decide) rfl mf_X0_90 rfl rfl (by simp [fsC, upd]) (Nat.le_of_ble_eq_true rfl) dX0_copyFrom_125 rfl ?_
  refine AW.aload_n (k0 := 0) (pc' := 129) X rfl rfl dX0_copyFrom_128 rfl ?_
  refine AW.aload_n (k0 := 1) (pc' := 130) X rfl rfl dX0_copyFrom_129 rfl ?_
  refine AW.gX0 (v := .int ((ms v8 a0 12 (v8 a1 12)) a1 13)) (pc' := 133) X h1 13 (by decide) rfl mf_X0_97 rfl dX0_copyFrom_130 rfl ?_
  refine AW.pX0 (pc' := 136) X h0 13 (by decide) rfl mf_X0_97 rfl rfl (by simp [fsC, upd]) (Nat.le_of_ble_eq_true rfl) dX0_copyFrom_133 rfl ?_
  refine AW.aload_n (k0 := 0) (pc' := 137) X rfl rfl dX0_copyFrom_136 rfl ?_
  refine AW.aload_n (k0 := 1) (pc' := 138) X rfl rfl dX0_copyFrom_137 rfl ?_
  refine AW.gX0 (v := .int ((ms (ms v8 a0 12 (v8 a1 12)) a0 13 ((ms v8 a0 12 (v8 a1 12)) a1 13)) a1 14)) (pc' := 141) X h1 14 (by decide) rfl mf_X0_62 rfl dX0_copyFrom_138 rfl ?_
  refine AW.pX0 (pc' := 144) X h0 14 (by decide) rfl mf_X0_62 rfl rfl (by simp [fsC, upd]) (Nat.le_of_ble_eq_true rfl) dX0_copyFrom_141 rfl ?_
  refine AW.aload_n (k0 := 0) (pc' := 145) X rfl rfl dX0_copyFrom_144 rfl ?_
  refine AW.aload_n (k0 := 1) (pc' := 146) X rfl rfl dX0_copyFrom_145 rfl ?_
  refine AW.gX0 (v := .int ((ms (ms (ms v8 a0 12 (v8 a1 12)) a0 13 ((ms v8 a0 12 (v8 a1 12)) a1 13)) a0 14 ((ms (ms v8 a0 12 (v8 a1 12)) a0 13 ((ms v8 a0 12 (v8 a1 12)) a1 13)) a1 14)) a1 15)) (pc' := 149) X h1 15 (by decide) rfl mf_X0_65 rfl dX0_copyFrom_146 rfl ?_
  refine AW.pX0 (pc' := 152) X h0 15 (by decide) rfl mf_X0_65 rfl rfl (by simp [fsC, upd]) (Nat.le_of_ble_eq_true rfl) dX0_copyFrom_149 rfl ?_
  refine AW.aload_n (k0 := 0) (pc' := 153) X rfl rfl dX0_copyFrom_152 rfl ?_
  refine AW.aload_n (k0 := 1) (pc' := 154) X rfl rfl dX0_copyFrom_153 rfl ?_
  refine AW.gX0 (v := .int ((ms (ms (ms (ms v8 a0 12 (v8 a1 12)) a0 13 ((ms v8 a0 12 (v8 a1 12)) a1 13)) a0 14 ((ms (ms v8 a0 12 (v8 a1 12)) a0 13 ((ms v8 a0 12 (v8 a1 12)) a1 13)) a1 14)) a0 15 ((ms (ms (ms v8 a0 12 (v8 a1 12)) a0 13 ((ms v8 a0 12 (v8 a1 12)) a1 13)) a0 14 ((ms (ms v8 a0 12 (v8 a1 12)) a0 13 ((ms v8 a0 12 (v8 a1 12)) a1 13)) a1 14)) a1 15)) a1 16)) (pc' := 157) X h1 16 (by decide) rfl mf_X0_68 rfl dX0_copyFrom_154 rfl ?_
  refine AW.pX0 (pc' := 160) X h0 16 (by decide) rfl mf_X0_68 rfl rfl (by simp [fsC, upd]) (Nat.le_of_ble_eq_true rfl) dX0_copyFrom_157 rfl ?_
  refine AW.aload_n (k0 := 0) (pc' := 161) X rfl rfl dX0_copyFrom_160 rfl ?_
  refine AW.aload_n (k0 := 1) (pc' := 162) X rfl rfl dX0_copyFrom_161 rfl ?_
  refine AW.gX0 (v := .int ((ms (ms (ms (ms (ms v8 a0 12 (v8 a1 12)) a0 13 ((ms v8 a0 12 (v8 a1 12)) a1 13)) a0 14 ((ms (ms v8 a0 12 (v8 a1 12)) a0 13 ((ms v8 a0 12 (v8 a1 12)) a1 13)) a1 14)) a0 15 ((ms (ms (ms v8 a0 12 (v8 a1 12)) a0 13 ((ms v8 a0 12 (v8 a1 12)) a1 13)) a0 14 ((ms (ms v8 a0 12 (v8 a1 12)) a0 13 ((ms v8 a0 12 (v8 a1 12)) a1 13)) a1 14)) a1 15)) a0 16 ((ms (ms (ms (ms v8 a0 12 (v8 a1 12)) a0 13 ((ms v8 a0 12 (v8 a1 12)) a1 13)) a0 14 ((ms (ms v8 a0 12 (v8 a1 12)) a0 13 ((ms v8 a0 12 (v8 a1 12)) a1 13)) a1 14)) a0 15 ((ms (ms (ms v8 a0 12 (v8 a1 12)) a0 13 ((ms v8 a0 12 (v8 a1 12)) a1 13)) a0 14 ((ms (ms v8 a0 12 (v8 a1 12)) a0 13 ((ms v8 a0 12 (v8 a1 12)) a1 13)) a1 14)) a1 15)) a1 16)) a1 17)) (pc' := 165) X h1 17 (by decide) rfl mf_X0_71 rfl dX0_copyFrom_162 rfl ?_
  refine AW.pX0 (pc' := 168) X h0 17 (by decide) rfl mf_X0_71 rfl rfl (by simp [fsC, upd]) (Nat.le_of_ble_eq_true rfl) dX0_copyFrom_165 rfl ?_
  replace h := Option.some.inj h
  subst h
  exact AW.vret X hr dX0_copyFrom_168
set_option maxHeartbeats 4000000 in
set_option maxRecDepth 100000 in
theorem ok_X2_copyFrom {lo n : Nat} {a0 : Nat} {a1 : Nat} {M : MM} {R : MM} (h0 : tLn lo n a0) (h1 : tLn lo n a1) (h : f_X2_copyFrom a0 a1 M = some R) : MC yX2_copyFrom cX2_copyFrom 2 none 2 61 lo n [.ref a0, .ref a1] M none R := by
  refine MC.of (ls0 := [(0, .ref a0), (1, .ref a1)]) (by decide) rfl (fun _ => Nat.le_of_ble_eq_true rfl) (fun p l e s m args below meth c D dA ad A X hr => ?_)
  replace X : CX p s m args meth c cX2_copyFrom 2 RX2 D dA ad lo n A := X
  unfold f_X2_copyFrom at h
  refine AW.aload_n (k0 := 1) (pc' := 1) X rfl rfl dX2_copyFrom_0 rfl ?_
  refine AW.gX2 (v := .ref (a1 + 1)) (pc' := 4) X h1 0 (by decide) rfl mf_X2_9 rfl dX2_copyFrom_1 rfl ?_
  refine AW.aload_n (k0 := 0) (pc' := 5) X rfl rfl dX2_copyFrom_4 rfl ?_
  refine AW.gX2 (v := .ref (a0 + 1)) (pc' := 8) X h0 0 (by decide) rfl mf_X2_9 rfl dX2_copyFrom_5 rfl ?_
  obtain ⟨v1, c1, h⟩ := Option.bind_eq_some_iff.mp h
  refine AW.callN (As := [.ref (a1 + 1), .ref (a0 + 1)]) (rest := []) (rv := none) (M' := v1) (pc' := 11) X (ok_X6_copyRow (rL1 h1) (rL1 h0) c1) yv_X6_copyRow mn_X2_31 ⟨by decide, by decide, by decide, by decide⟩ rfl (Nat.le_of_ble_eq_true rfl) rfl rfl dX2_copyFrom_8 rfl ?_
  refine AW.aload_n (k0 := 0) (pc' := 12) X rfl rfl dX2_copyFrom_11 rfl ?_
  refine AW.aload_n (k0 := 1) (pc' := 13) X rfl rfl dX2_copyFrom_12 rfl ?_
  refine AW.gX2 (v := .int (v1 a1 1)) (pc' := 16) X h1 1 (by decide) rfl mf_X2_27 rfl dX2_copyFrom_13 rfl ?_
  refine AW.pX2 (pc' := 19) X h0 1 (by decide) rfl mf_X2_27 rfl rfl (by simp [fsL, upd]) (Nat.le_of_ble_eq_true rfl) dX2_copyFrom_16 rfl ?_
  replace h := Option.some.inj h
  subst h
  exact AW.vret X hr dX2_copyFrom_19
set_option maxHeartbeats 4000000 in
set_option maxRecDepth 100000 in
theorem ok_X3_copyFrom {lo n : Nat} {a0 : Nat} {a1 : Nat} {M : MM} {R : MM} (h0 : tPf lo n a0) (h1 : tPf lo n a1) (h : f_X3_copyFrom a0 a1 M = some R) : MC yX3_copyFrom cX3_copyFrom 2 none 2 61 lo n [.ref a0, .ref a1] M none R := by
  refine MC.of (ls0 := [(0, .ref a0), (1, .ref a1)]) (by decide) rfl (fun _ => Nat.le_of_ble_eq_true rfl) (fun p l e s m args below meth c D dA ad A X hr => ?_)
  replace X : CX p s m args meth c cX3_copyFrom 2 RX3 D dA ad lo n A := X
  unfold f_X3_copyFrom at h
  refine AW.aload_n (k0 := 1) (pc' := 1) X rfl rfl dX3_copyFrom_0 rfl ?_
  refine AW.gX3 (v := .ref (a1 + 1)) (pc' := 4) X h1 0 (by decide) rfl mf_X3_9 rfl dX3_copyFrom_1 rfl ?_
  refine AW.aload_n (k0 := 0) (pc' := 5) X rfl rfl dX3_copyFrom_4 rfl ?_
  refine AW.gX3 (v := .ref (a0 + 1)) (pc' := 8) X h0 0 (by decide) rfl mf_X3_9 rfl dX3_copyFrom_5 rfl ?_
  obtain ⟨v1, c1, h⟩ := Option.bind_eq_some_iff.mp h
  refine AW.callN (As := [.ref (a1 + 1), .ref (a0 + 1)]) (rest := []) (rv := none) (M' := v1) (pc' := 11) X (ok_X6_copyRow (rP1 h1) (rP1 h0) c1) yv_X6_copyRow mn_X3_30 ⟨by decide, by decide, by decide, by decide⟩ rfl (Nat.le_of_ble_eq_true rfl) rfl rfl dX3_copyFrom_8 rfl ?_
  refine AW.aload_n (k0 := 1) (pc' := 12) X rfl rfl dX3_copyFrom_11 rfl ?_
  refine AW.gX3 (v := .ref (a1 + 2)) (pc' := 15) X h1 1 (by decide) rfl mf_X3_15 rfl dX3_copyFrom_12 rfl ?_
  refine AW.aload_n (k0 := 0) (pc' := 16) X rfl rfl dX3_copyFrom_15 rfl ?_
  refine AW.gX3 (v := .ref (a0 + 2)) (pc' := 19) X h0 1 (by decide) rfl mf_X3_15 rfl dX3_copyFrom_16 rfl ?_
  obtain ⟨v2, c2, h⟩ := Option.bind_eq_some_iff.mp h
  refine AW.callN (As := [.ref (a1 + 2), .ref (a0 + 2)]) (rest := []) (rv := none) (M' := v2) (pc' := 22) X (ok_X6_copyRow (rP2 h1) (rP2 h0) c2) yv_X6_copyRow mn_X3_30 ⟨by decide, by decide, by decide, by decide⟩ rfl (Nat.le_of_ble_eq_true rfl) rfl rfl dX3_copyFrom_19 rfl ?_
  refine AW.aload_n (k0 := 0) (pc' := 23) X rfl rfl dX3_copyFrom_22 rfl ?_
  refine AW.aload_n (k0 := 1) (pc' := 24) X rfl rfl dX3_copyFrom_23 rfl ?_
  refine AW.gX3 (v := .int (v2 a1 2)) (pc' := 27) X h1 2 (by decide) rfl mf_X3_22 rfl dX3_copyFrom_24 rfl ?_
  refine AW.pX3 (pc' := 30) X h0 2 (by decide) rfl mf_X3_22 rfl rfl (by simp [fsP, upd]) (Nat.le_of_ble_eq_true rfl) dX3_copyFrom_27 rfl ?_
  replace h := Option.some.inj h
  subst h
  exact AW.vret X hr dX3_copyFrom_30
set_option maxHeartbeats 4000000 in
set_option maxRecDepth 100000 in
theorem ok_X4_copyFrom_24 {a0 : Nat} {a1 : Nat} (X : CX p s m args meth c cX4_copyFrom 3 RX4 D dA ad lo n A) (hr : meth.sig.returnType = none) (h0 : tSt lo n a0) (h1 : tSt lo n a1) : ∀ (k : Nat) (x2 : Int32) (M : MM) (R : MM), f_X4_copyFrom_24 a0 a1 k x2 M = some R → AR p l e 3 82 s m args below meth c D dA ad lo n 3 A none R 24 [(0, .ref a0), (1, .ref a1), (2, .int x2)] [] M := by
  intro k
  induction k with
  | zero => intro _ _ R h; exact none_some h
  | succ k ih =>
    intro x2 M R h
    unfold f_X4_copyFrom_24 at h
    refine AW.iload_n (k0 := 2) (pc' := 25) X rfl rfl dX4_copyFrom_24 rfl ?_
    refine AW.aload_n (k0 := 1) (pc' := 26) X rfl rfl dX4_copyFrom_25 rfl ?_
    refine AW.gX4 (v := .int (M a1 3)) (pc' := 29) X h1 3 (by decide) rfl mf_X4_72 rfl dX4_copyFrom_26 rfl ?_
    refine AW.icmp_ge (pc' := 32) (tgt := 53) X dX4_copyFrom_29 rfl rfl (fun q1 => ?_) (fun q1 => ?_)
    · replace h := itep q1 h
      refine AW.aload_n (k0 := 0) (pc' := 54) X rfl rfl dX4_copyFrom_53 rfl ?_
      refine AW.aload_n (k0 := 1) (pc' := 55) X rfl rfl dX4_copyFrom_54 rfl ?_
      refine AW.gX4 (v := .int (M a1 3)) (pc' := 58) X h1 3 (by decide) rfl mf_X4_72 rfl dX4_copyFrom_55 rfl ?_
      refine AW.pX4 (pc' := 61) X h0 3 (by decide) rfl mf_X4_72 rfl rfl (by simp [fsS, upd]) (Nat.le_of_ble_eq_true rfl) dX4_copyFrom_58 rfl ?_
      refine AW.aload_n (k0 := 1) (pc' := 62) X rfl rfl dX4_copyFrom_61 rfl ?_
      refine AW.gX4 (v := .ref (a1 + 7)) (pc' := 65) X h1 4 (by decide) rfl mf_X4_31 rfl dX4_copyFrom_62 rfl ?_
      refine AW.aload_n (k0 := 0) (pc' := 66) X rfl rfl dX4_copyFrom_65 rfl ?_
      refine AW.gX4 (v := .ref (a0 + 7)) (pc' := 69) X h0 4 (by decide) rfl mf_X4_31 rfl dX4_copyFrom_66 rfl ?_
      obtain ⟨v2, c2, h⟩ := Option.bind_eq_some_iff.mp h
      refine AW.callN (As := [.ref (a1 + 7), .ref (a0 + 7)]) (rest := []) (rv := none) (M' := v2) (pc' := 72) X (ok_X6_copyRow (rS7 h1) (rS7 h0) c2) yv_X6_copyRow mn_X4_55 ⟨by decide, by decide, by decide, by decide⟩ rfl (Nat.le_of_ble_eq_true rfl) rfl rfl dX4_copyFrom_69 rfl ?_
      refine AW.aload_n (k0 := 1) (pc' := 73) X rfl rfl dX4_copyFrom_72 rfl ?_
      refine AW.gX4 (v := .ref (a1 + 8)) (pc' := 76) X h1 5 (by decide) rfl mf_X4_35 rfl dX4_copyFrom_73 rfl ?_
      refine AW.aload_n (k0 := 0) (pc' := 77) X rfl rfl dX4_copyFrom_76 rfl ?_
      refine AW.gX4 (v := .ref (a0 + 8)) (pc' := 80) X h0 5 (by decide) rfl mf_X4_35 rfl dX4_copyFrom_77 rfl ?_
      obtain ⟨v3, c3, h⟩ := Option.bind_eq_some_iff.mp h
      refine AW.callN (As := [.ref (a1 + 8), .ref (a0 + 8)]) (rest := []) (rv := none) (M' := v3) (pc' := 83) X (ok_X6_copyRow (rS8 h1) (rS8 h0) c3) yv_X6_copyRow mn_X4_55 ⟨by decide, by decide, by decide, by decide⟩ rfl (Nat.le_of_ble_eq_true rfl) rfl rfl dX4_copyFrom_80 rfl ?_
      refine AW.aload_n (k0 := 1) (pc' := 84) X rfl rfl dX4_copyFrom_83 rfl ?_
      refine AW.gX4 (v := .ref (a1 + 9)) (pc' := 87) X h1 6 (by decide) rfl mf_X4_38 rfl dX4_copyFrom_84 rfl ?_
      refine AW.aload_n (k0 := 0) (pc' := 88) X rfl rfl dX4_copyFrom_87 rfl ?_
      refine AW.gX4 (v := .ref (a0 + 9)) (pc' := 91) X h0 6 (by decide) rfl mf_X4_38 rfl dX4_copyFrom_88 rfl ?_
      obtain ⟨v4, c4, h⟩ := Option.bind_eq_some_iff.mp h
      refine AW.callN (As := [.ref (a1 + 9), .ref (a0 + 9)]) (rest := []) (rv := none) (M' := v4) (pc' := 94) X (ok_X6_copyRow (rS9 h1) (rS9 h0) c4) yv_X6_copyRow mn_X4_55 ⟨by decide, by decide, by decide, by decide⟩ rfl (Nat.le_of_ble_eq_true rfl) rfl rfl dX4_copyFrom_91 rfl ?_
      refine AW.aload_n (k0 := 1) (pc' := 95) X rfl rfl dX4_copyFrom_94 rfl ?_
      refine AW.gX4 (v := .ref (a1 + 10)) (pc' := 98) X h1 7 (by decide) rfl mf_X4_41 rfl dX4_copyFrom_95 rfl ?_
      refine AW.aload_n (k0 := 0) (pc' := 99) X rfl rfl dX4_copyFrom_98 rfl ?_
      refine AW.gX4 (v := .ref (a0 + 10)) (pc' := 102) X h0 7 (by decide) rfl mf_X4_41 rfl dX4_copyFrom_99 rfl ?_
      obtain ⟨v5, c5, h⟩ := Option.bind_eq_some_iff.mp h
      refine AW.callN (As := [.ref (a1 + 10), .ref (a0 + 10)]) (rest := []) (rv := none) (M' := v5) (pc' := 105) X (ok_X6_copyRow (rS10 h1) (rS10 h0) c5) yv_X6_copyRow mn_X4_55 ⟨by decide, by decide, by decide, by decide⟩ rfl (Nat.le_of_ble_eq_true rfl) rfl rfl dX4_copyFrom_102 rfl ?_
      refine AW.aload_n (k0 := 0) (pc' := 106) X rfl rfl dX4_copyFrom_105 rfl ?_
      refine AW.aload_n (k0 := 1) (pc' := 107) X rfl rfl dX4_copyFrom_106 rfl ?_
      refine AW.gX4 (v := .int (v5 a1 8)) (pc' := 110) X h1 8 (by decide) rfl mf_X4_44 rfl dX4_copyFrom_107 rfl ?_
      refine AW.pX4 (pc' := 113) X h0 8 (by decide) rfl mf_X4_44 rfl rfl (by simp [fsS, upd]) (Nat.le_of_ble_eq_true rfl) dX4_copyFrom_110 rfl ?_
      refine AW.aload_n (k0 := 0) (pc' := 114) X rfl rfl dX4_copyFrom_113 rfl ?_
      refine AW.aload_n (k0 := 1) (pc' := 115) X rfl rfl dX4_copyFrom_114 rfl ?_
      refine AW.gX4 (v := .int ((ms v5 a0 8 (v5 a1 8)) a1 9)) (pc' := 118) X h1 9 (by decide) rfl mf_X4_114 rfl dX4_copyFrom_115 rfl ?_
      refine AW.pX4 (pc' := 121) X h0 9 (by decide) rfl mf_X4_114 rfl rfl (by simp [fsS, upd]) (Nat.le_of_ble_eq_true rfl) dX4_copyFrom_118 rfl ?_
      refine AW.aload_n (k0 := 0) (pc' := 122) X rfl rfl dX4_copyFrom_121 rfl ?_
      refine AW.aload_n (k0 := 1) (pc' := 123) X rfl rfl dX4_copyFrom_122 rfl ?_
      refine AW.gX4 (v := .int ((ms (ms v5 a0 8 (v5 a1 8)) a0 9 ((ms v5 a0 8 (v5 a1 8)) a1 9)) a1 10)) (pc' := 126) X h1 10 (by decide) rfl mf_X4_141 rfl dX4_copyFrom_123 rfl ?_
      refine AW.pX4 (pc' := 129) X h0 10 (by decide) rfl mf_X4_141 rfl rfl (by simp [fsS, upd]) (Nat.le_of_ble_eq_true rfl) dX4_copyFrom_126 rfl ?_
      refine AW.aload_n (k0 := 0) (pc' := 130) X rfl rfl dX4_copyFrom_129 rfl ?_
      refine AW.aload_n (k0 := 1) (pc' := 131) X rfl rfl dX4_copyFrom_130 rfl ?_
      refine AW.gX4 (v := .int (bz (nz ((ms (ms (ms v5 a0 8 (v5 a1 8)) a0 9 ((ms v5 a0 8 (v5 a1 8)) a1 9)) a0 10 ((ms (ms v5 a0 8 (v5 a1 8)) a0 9 ((ms v5 a0 8 (v5 a1 8)) a1 9)) a1 10)) a1 11)))) (pc' := 134) X h1 11 (by decide) rfl mf_X4_86 rfl dX4_copyFrom_131 rfl ?_
      refine AW.zX4 (b := (nz ((ms (ms (ms v5 a0 8 (v5 a1 8)) a0 9 ((ms v5 a0 8 (v5 a1 8)) a1 9)) a0 10 ((ms (ms v5 a0 8 (v5 a1 8)) a0 9 ((ms v5 a0 8 (v5 a1 8)) a1 9)) a1 10)) a1 11))) (pc' := 137) X h0 11 (by decide) rfl mf_X4_86 rfl rfl (by simp [fsS, upd, nz_bz]) (Nat.le_of_ble_eq_true rfl) dX4_copyFrom_134 rfl ?_
      refine AW.aload_n (k0 := 0) (pc' := 138) X rfl rfl dX4_copyFrom_137 rfl ?_
      refine AW.aload_n (k0 := 1) (pc' := 139) X rfl rfl dX4_copyFrom_138 rfl ?_
      refine AW.gX4 (v := .int ((ms (ms (ms (ms v5 a0 8 (v5 a1 8)) a0 9 ((ms v5 a0 8 (v5 a1 8)) a1 9)) a0 10 ((ms (ms v5 a0 8 (v5 a1 8)) a0 9 ((ms v5 a0 8 (v5 a1 8)) a1 9)) a1 10)) a0 11 (bz (nz ((ms (ms (ms v5 a0 8 (v5 a1 8)) a0 9 ((ms v5 a0 8 (v5 a1 8)) a1 9)) a0 10 ((ms (ms v5 a0 8 (v5 a1 8)) a0 9 ((ms v5 a0 8 (v5 a1 8)) a1 9)) a1 10)) a1 11)))) a1 12)) (pc' := 142) X h1 12 (by decide) rfl mf_X4_90 rfl dX4_copyFrom_139 rfl ?_
      refine AW.pX4 (pc' := 145) X h0 12 (by decide) rfl mf_X4_90 rfl rfl (by simp [fsS, upd]) (Nat.le_of_ble_eq_true rfl) dX4_copyFrom_142 rfl ?_
      refine AW.aload_n (k0 := 0) (pc' := 146) X rfl rfl dX4_copyFrom_145 rfl ?_
      refine AW.aload_n (k0 := 1) (pc' := 147) X rfl rfl dX4_copyFrom_146 rfl ?_
      refine AW.gX4 (v := .int ((ms (ms (ms (ms (ms v5 a0 8 (v5 a1 8)) a0 9 ((ms v5 a0 8 (v5 a1 8)) a1 9)) a0 10 ((ms (ms v5 a0 8 (v5 a1 8)) a0 9 ((ms v5 a0 8 (v5 a1 8)) a1 9)) a1 10)) a0 11 (bz (nz ((ms (ms (ms v5 a0 8 (v5 a1 8)) a0 9 ((ms v5 a0 8 (v5 a1 8)) a1 9)) a0 10 ((ms (ms v5 a0 8 (v5 a1 8)) a0 9 ((ms v5 a0 8 (v5 a1 8)) a1 9)) a1 10)) a1 11)))) a0 12 ((ms (ms (ms (ms v5 a0 8 (v5 a1 8)) a0 9 ((ms v5 a0 8 (v5 a1 8)) a1 9)) a0 10 ((ms (ms v5 a0 8 (v5 a1 8)) a0 9 ((ms v5 a0 8 (v5 a1 8)) a1 9)) a1 10)) a0 11 (bz (nz ((ms (ms (ms v5 a0 8 (v5 a1 8)) a0 9 ((ms v5 a0 8 (v5 a1 8)) a1 9)) a0 10 ((ms (ms v5 a0 8 (v5 a1 8)) a0 9 ((ms v5 a0 8 (v5 a1 8)) a1 9)) a1 10)) a1 11)))) a1 12)) a1 13)) (pc' := 150) X h1 13 (by decide) rfl mf_X4_93 rfl dX4_copyFrom_147 rfl ?_
      refine AW.pX4 (pc' := 153) X h0 13 (by decide) rfl mf_X4_93 rfl rfl (by simp [fsS, upd]) (Nat.le_of_ble_eq_true rfl) dX4_copyFrom_150 rfl ?_
      refine AW.aload_n (k0 := 0) (pc' := 154) X rfl rfl dX4_copyFrom_153 rfl ?_
      refine AW.aload_n (k0 := 1) (pc' := 155) X rfl rfl dX4_copyFrom_154 rfl ?_
      refine AW.gX4 (v := .int ((ms (ms (ms (ms (ms (ms v5 a0 8 (v5 a1 8)) a0 9 ((ms v5 a0 8 (v5 a1 8)) a1 9)) a0 10 ((ms (ms v5 a0 8 (v5 a1 8)) a0 9 ((ms v5 a0 8 (v5 a1 8)) a1 9)) a1 10)) a0 11 (bz (nz ((ms (ms (ms v5 a0 8 (v5 a1 8)) a0 9 ((ms v5 a0 8 (v5 a1 8)) a1 9)) a0 10 ((ms (ms v5 a0 8 (v5 a1 8)) a0 9 ((ms v5 a0 8 (v5 a1 8)) a1 9)) a1 10)) a1 11)))) a0 12 ((ms (ms (ms (ms v5 a0 8 (v5 a1 8)) a0 9 ((ms v5 a0 8 (v5 a1 8)) a1 9)) a0 10 ((ms (ms v5 a0 8 (v5 a1 8)) a0 9 ((ms v5 a0 8 (v5 a1 8)) a1 9)) a1 10)) a0 11 (bz (nz ((ms (ms (ms v5 a0 8 (v5 a1 8)) a0 9 ((ms v5 a0 8 (v5 a1 8)) a1 9)) a0 10 ((ms (ms v5 a0 8 (v5 a1 8)) a0 9 ((ms v5 a0 8 (v5 a1 8)) a1 9)) a1 10)) a1 11)))) a1 12)) a0 13 ((ms (ms (ms (ms (ms v5 a0 8 (v5 a1 8)) a0 9 ((ms v5 a0 8 (v5 a1 8)) a1 9)) a0 10 ((ms (ms v5 a0 8 (v5 a1 8)) a0 9 ((ms v5 a0 8 (v5 a1 8)) a1 9)) a1 10)) a0 11 (bz (nz ((ms (ms (ms v5 a0 8 (v5 a1 8)) a0 9 ((ms v5 a0 8 (v5 a1 8)) a1 9)) a0 10 ((ms (ms v5 a0 8 (v5 a1 8)) a0 9 ((ms v5 a0 8 (v5 a1 8)) a1 9)) a1 10)) a1 11)))) a0 12 ((ms (ms (ms (ms v5 a0 8 (v5 a1 8)) a0 9 ((ms v5 a0 8 (v5 a1 8)) a1 9)) a0 10 ((ms (ms v5 a0 8 (v5 a1 8)) a0 9 ((ms v5 a0 8 (v5 a1 8)) a1 9)) a1 10)) a0 11 (bz (nz ((ms (ms (ms v5 a0 8 (v5 a1 8)) a0 9 ((ms v5 a0 8 (v5 a1 8)) a1 9)) a0 10 ((ms (ms v5 a0 8 (v5 a1 8)) a0 9 ((ms v5 a0 8 (v5 a1 8)) a1 9)) a1 10)) a1 11)))) a1 12)) a1 13)) a1 14)) (pc' := 158) X h1 14 (by decide) rfl mf_X4_96 rfl dX4_copyFrom_155 rfl ?_
      refine AW.pX4 (pc' := 161) X h0 14 (by decide) rfl mf_X4_96 rfl rfl (by simp [fsS, upd]) (Nat.le_of_ble_eq_true rfl) dX4_copyFrom_158 rfl ?_
      refine AW.aload_n (k0 := 0) (pc' := 162) X rfl rfl dX4_copyFrom_161 rfl ?_
      refine AW.aload_n (k0 := 1) (pc' := 163) X rfl rfl dX4_copyFrom_162 rfl ?_
      refine AW.gX4 (v := .int ((ms (ms (ms (ms (ms (ms (ms v5 a0 8 (v5 a1 8)) a0 9 ((ms v5 a0 8 (v5 a1 8)) a1 9)) a0 10 ((ms (ms v5 a0 8 (v5 a1 8)) a0 9 ((ms v5 a0 8 (v5 a1 8)) a1 9)) a1 10)) a0 11 (bz (nz ((ms (ms (ms v5 a0 8 (v5 a1 8)) a0 9 ((ms v5 a0 8 (v5 a1 8)) a1 9)) a0 10 ((ms (ms v5 a0 8 (v5 a1 8)) a0 9 ((ms v5 a0 8 (v5 a1 8)) a1 9)) a1 10)) a1 11)))) a0 12 ((ms (ms (ms (ms v5 a0 8 (v5 a1 8)) a0 9 ((ms v5 a0 8 (v5 a1 8)) a1 9)) a0 10 ((ms (ms v5 a0 8 (v5 a1 8)) a0 9 ((ms v5 a0 8 (v5 a1 8)) a1 9)) a1 10)) a0 11 (bz (nz ((ms (ms (ms v5 a0 8 (v5 a1 8)) a0 9 ((ms v5 a0 8 (v5 a1 8)) a1 9)) a0 10 ((ms (ms v5 a0 8 (v5 a1 8)) a0 9 ((ms v5 a0 8 (v5 a1 8)) a1 9)) a1 10)) a1 11)))) a1 12)) a0 13 ((ms (ms (ms (ms (ms v5 a0 8 (v5 a1 8)) a0 9 ((ms v5 a0 8 (v5 a1 8)) a1 9)) a0 10 ((ms (ms v5 a0 8 (v5 a1 8)) a0 9 ((ms v5 a0 8 (v5 a1 8)) a1 9)) a1 10)) a0 11 (bz (nz ((ms (ms (ms v5 a0 8 (v5 a1 8)) a0 9 ((ms v5 a0 8 (v5 a1 8)) a1 9)) a0 10 ((ms (ms v5 a0 8 (v5 a1 8)) a0 9 ((ms v5 a0 8 (v5 a1 8)) a1 9)) a1 10)) a1 11)))) a0 12 ((ms (ms (ms (ms v5 a0 8 (v5 a1 8)) a0 9 ((ms v5 a0 8 (v5 a1 8)) a1 9)) a0 10 ((ms (ms v5 a0 8 (v5 a1 8)) a0 9 ((ms v5 a0 8 (v5 a1 8)) a1 9)) a1 10)) a0 11 (bz (nz ((ms (ms (ms v5 a0 8 (v5 a1 8)) a0 9 ((ms v5 a0 8 (v5 a1 8)) a1 9)) a0 10 ((ms (ms v5 a0 8 (v5 a1 8)) a0 9 ((ms v5 a0 8 (v5 a1 8)) a1 9)) a1 10)) a1 11)))) a1 12)) a1 13)) a0 14 ((ms (ms (ms (ms (ms (ms v5 a0 8 (v5 a1 8)) a0 9 ((ms v5 a0 8 (v5 a1 8)) a1 9)) a0 10 ((ms (ms v5 a0 8 (v5 a1 8)) a0 9 ((ms v5 a0 8 (v5 a1 8)) a1 9)) a1 10)) a0 11 (bz (nz ((ms (ms (ms v5 a0 8 (v5 a1 8)) a0 9 ((ms v5 a0 8 (v5 a1 8)) a1 9)) a0 10 ((ms (ms v5 a0 8 (v5 a1 8)) a0 9 ((ms v5 a0 8 (v5 a1 8)) a1 9)) a1 10)) a1 11)))) a0 12 ((ms (ms (ms (ms v5 a0 8 (v5 a1 8)) a0 9 ((ms v5 a0 8 (v5 a1 8)) a1 9)) a0 10 ((ms (ms v5 a0 8 (v5 a1 8)) a0 9 ((ms v5 a0 8 (v5 a1 8)) a1 9)) a1 10)) a0 11 (bz (nz ((ms (ms (ms v5 a0 8 (v5 a1 8)) a0 9 ((ms v5 a0 8 (v5 a1 8)) a1 9)) a0 10 ((ms (ms v5 a0 8 (v5 a1 8)) a0 9 ((ms v5 a0 8 (v5 a1 8)) a1 9)) a1 10)) a1 11)))) a1 12)) a0 13 ((ms (ms (ms (ms (ms v5 a0 8 (v5 a1 8)) a0 9 ((ms v5 a0 8 (v5 a1 8)) a1 9)) a0 10 ((ms (ms v5 a0 8 (v5 a1 8)) a0 9 ((ms v5 a0 8 (v5 a1 8)) a1 9)) a1 10)) a0 11 (bz (nz ((ms (ms (ms v5 a0 8 (v5 a1 8)) a0 9 ((ms v5 a0 8 (v5 a1 8)) a1 9)) a0 10 ((ms (ms v5 a0 8 (v5 a1 8)) a0 9 ((ms v5 a0 8 (v5 a1 8)) a1 9)) a1 10)) a1 11)))) a0 12 ((ms (ms (ms (ms v5 a0 8 (v5 a1 8)) a0 9 ((ms v5 a0 8 (v5 a1 8)) a1 9)) a0 10 ((ms (ms v5 a0 8 (v5 a1 8)) a0 9 ((ms v5 a0 8 (v5 a1 8)) a1 9)) a1 10)) a0 11 (bz (nz ((ms (ms (ms v5 a0 8 (v5 a1 8)) a0 9 ((ms v5 a0 8 (v5 a1 8)) a1 9)) a0 10 ((ms (ms v5 a0 8 (v5 a1 8)) a0 9 ((ms v5 a0 8 (v5 a1 8)) a1 9)) a1 10)) a1 11)))) a1 12)) a1 13)) a1 14)) a1 15)) (pc' := 166) X h1 15 (by decide) rfl mf_X4_99 rfl dX4_copyFrom_163 rfl ?_
      refine AW.pX4 (pc' := 169) X h0 15 (by decide) rfl mf_X4_99 rfl rfl (by simp [fsS, upd]) (Nat.le_of_ble_eq_true rfl) dX4_copyFrom_166 rfl ?_
      refine AW.aload_n (k0 := 0) (pc' := 170) X rfl rfl dX4_copyFrom_169 rfl ?_
      refine AW.aload_n (k0 := 1) (pc' := 171) X rfl rfl dX4_copyFrom_170 rfl ?_
      refine AW.gX4 (v := .int ((ms (ms (ms (ms (ms (ms (ms (ms v5 a0 8 (v5 a1 8)) a0 9 ((ms v5 a0 8 (v5 a1 8)) a1 9)) a0 10 ((ms (ms v5 a0 8 (v5 a1 8)) a0 9 ((ms v5 a0 8 (v5 a1 8)) a1 9)) a1 10)) a0 11 (bz (nz ((ms (ms (ms v5 a0 8 (v5 a1 8)) a0 9 ((ms v5 a0 8 (v5 a1 8)) a1 9)) a0 10 ((ms (ms v5 a0 8 (v5 a1 8)) a0 9 ((ms v5 a0 8 (v5 a1 8)) a1 9)) a1 10)) a1 11)))) a0 12 ((ms (ms (ms (ms v5 a0 8 (v5 a1 8)) a0 9 ((ms v5 a0 8 (v5 a1 8)) a1 9)) a0 10 ((ms (ms v5 a0 8 (v5 a1 8)) a0 9 ((ms v5 a0 8 (v5 a1 8)) a1 9)) a1 10)) a0 11 (bz (nz ((ms (ms (ms v5 a0 8 (v5 a1 8)) a0 9 ((ms v5 a0 8 (v5 a1 8)) a1 9)) a0 10 ((ms (ms v5 a0 8 (v5 a1 8)) a0 9 ((ms v5 a0 8 (v5 a1 8)) a1 9)) a1 10)) a1 11)))) a1 12)) a0 13 ((ms (ms (ms (ms (ms v5 a0 8 (v5 a1 8)) a0 9 ((ms v5 a0 8 (v5 a1 8)) a1 9)) a0 10 ((ms (ms v5 a0 8 (v5 a1 8)) a0 9 ((ms v5 a0 8 (v5 a1 8)) a1 9)) a1 10)) a0 11 (bz (nz ((ms (ms (ms v5 a0 8 (v5 a1 8)) a0 9 ((ms v5 a0 8 (v5 a1 8)) a1 9)) a0 10 ((ms (ms v5 a0 8 (v5 a1 8)) a0 9 ((ms v5 a0 8 (v5 a1 8)) a1 9)) a1 10)) a1 11)))) a0 12 ((ms (ms (ms (ms v5 a0 8 (v5 a1 8)) a0 9 ((ms v5 a0 8 (v5 a1 8)) a1 9)) a0 10 ((ms (ms v5 a0 8 (v5 a1 8)) a0 9 ((ms v5 a0 8 (v5 a1 8)) a1 9)) a1 10)) a0 11 (bz (nz ((ms (ms (ms v5 a0 8 (v5 a1 8)) a0 9 ((ms v5 a0 8 (v5 a1 8)) a1 9)) a0 10 ((ms (ms v5 a0 8 (v5 a1 8)) a0 9 ((ms v5 a0 8 (v5 a1 8)) a1 9)) a1 10)) a1 11)))) a1 12)) a1 13)) a0 14 ((ms (ms (ms (ms (ms (ms v5 a0 8 (v5 a1 8)) a0 9 ((ms v5 a0 8 (v5 a1 8)) a1 9)) a0 10 ((ms (ms v5 a0 8 (v5 a1 8)) a0 9 ((ms v5 a0 8 (v5 a1 8)) a1 9)) a1 10)) a0 11 (bz (nz ((ms (ms (ms v5 a0 8 (v5 a1 8)) a0 9 ((ms v5 a0 8 (v5 a1 8)) a1 9)) a0 10 ((ms (ms v5 a0 8 (v5 a1 8)) a0 9 ((ms v5 a0 8 (v5 a1 8)) a1 9)) a1 10)) a1 11)))) a0 12 ((ms (ms (ms (ms v5 a0 8 (v5 a1 8)) a0 9 ((ms v5 a0 8 (v5 a1 8)) a1 9)) a0 10 ((ms (ms v5 a0 8 (v5 a1 8)) a0 9 ((ms v5 a0 8 (v5 a1 8)) a1 9)) a1 10)) a0 11 (bz (nz ((ms (ms (ms v5 a0 8 (v5 a1 8)) a0 9 ((ms v5 a0 8 (v5 a1 8)) a1 9)) a0 10 ((ms (ms v5 a0 8 (v5 a1 8)) a0 9 ((ms v5 a0 8 (v5 a1 8)) a1 9)) a1 10)) a1 11)))) a1 12)) a0 13 ((ms (ms (ms (ms (ms v5 a0 8 (v5 a1 8)) a0 9 ((ms v5 a0 8 (v5 a1 8)) a1 9)) a0 10 ((ms (ms v5 a0 8 (v5 a1 8)) a0 9 ((ms v5 a0 8 (v5 a1 8)) a1 9)) a1 10)) a0 11 (bz (nz ((ms (ms (ms v5 a0 8 (v5 a1 8)) a0 9 ((ms v5 a0 8 (v5 a1 8)) a1 9)) a0 10 ((ms (ms v5 a0 8 (v5 a1 8)) a0 9 ((ms v5 a0 8 (v5 a1 8)) a1 9)) a1 10)) a1 11)))) a0 12 ((ms (ms (ms (ms v5 a0 8 (v5 a1 8)) a0 9 ((ms v5 a0 8 (v5 a1 8)) a1 9)) a0 10 ((ms (ms v5 a0 8 (v5 a1 8)) a0 9 ((ms v5 a0 8 (v5 a1 8)) a1 9)) a1 10)) a0 11 (bz (nz ((ms (ms (ms v5 a0 8 (v5 a1 8)) a0 9 ((ms v5 a0 8 (v5 a1 8)) a1 9)) a0 10 ((ms (ms v5 a0 8 (v5 a1 8)) a0 9 ((ms v5 a0 8 (v5 a1 8)) a1 9)) a1 10)) a1 11)))) a1 12)) a1 13)) a1 14)) a0 15 ((ms (ms (ms (ms (ms (ms (ms v5 a0 8 (v5 a1 8)) a0 9 ((ms v5 a0 8 (v5 a1 8)) a1 9)) a0 10 ((ms (ms v5 a0 8 (v5 a1 8)) a0 9 ((ms v5 a0 8 (v5 a1 8)) a1 9)) a1 10)) a0 11 (bz (nz ((ms (ms (ms v5 a0 8 (v5 a1 8)) a0 9 ((ms v5 a0 8 (v5 a1 8)) a1 9)) a0 10 ((ms (ms v5 a0 8 (v5 a1 8)) a0 9 ((ms v5 a0 8 (v5 a1 8)) a1 9)) a1 10)) a1 11)))) a0 12 ((ms (ms (ms (ms v5 a0 8 (v5 a1 8)) a0 9 ((ms v5 a0 8 (v5 a1 8)) a1 9)) a0 10 ((ms (ms v5 a0 8 (v5 a1 8)) a0 9 ((ms v5 a0 8 (v5 a1 8)) a1 9)) a1 10)) a0 11 (bz (nz ((ms (ms (ms v5 a0 8 (v5 a1 8)) a0 9 ((ms v5 a0 8 (v5 a1 8)) a1 9)) a0 10 ((ms (ms v5 a0 8 (v5 a1 8)) a0 9 ((ms v5 a0 8 (v5 a1 8)) a1 9)) a1 10)) a1 11)))) a1 12)) a0 13 ((ms (ms (ms (ms (ms v5 a0 8 (v5 a1 8)) a0 9 ((ms v5 a0 8 (v5 a1 8)) a1 9)) a0 10 ((ms (ms v5 a0 8 (v5 a1 8)) a0 9 ((ms v5 a0 8 (v5 a1 8)) a1 9)) a1 10)) a0 11 (bz (nz ((ms (ms (ms v5 a0 8 (v5 a1 8)) a0 9 ((ms v5 a0 8 (v5 a1 8)) a1 9)) a0 10 ((ms (ms v5 a0 8 (v5 a1 8)) a0 9 ((ms v5 a0 8 (v5 a1 8)) a1 9)) a1 10)) a1 11)))) a0 12 ((ms (ms (ms (ms v5 a0 8 (v5 a1 8)) a0 9 ((ms v5 a0 8 (v5 a1 8)) a1 9)) a0 10 ((ms (ms v5 a0 8 (v5 a1 8)) a0 9 ((ms v5 a0 8 (v5 a1 8)) a1 9)) a1 10)) a0 11 (bz (nz ((ms (ms (ms v5 a0 8 (v5 a1 8)) a0 9 ((ms v5 a0 8 (v5 a1 8)) a1 9)) a0 10 ((ms (ms v5 a0 8 (v5 a1 8)) a0 9 ((ms v5 a0 8 (v5 a1 8)) a1 9)) a1 10)) a1 11)))) a1 12)) a1 13)) a0 14 ((ms (ms (ms (ms (ms (ms v5 a0 8 (v5 a1 8)) a0 9 ((ms v5 a0 8 (v5 a1 8)) a1 9)) a0 10 ((ms (ms v5 a0 8 (v5 a1 8)) a0 9 ((ms v5 a0 8 (v5 a1 8)) a1 9)) a1 10)) a0 11 (bz (nz ((ms (ms (ms v5 a0 8 (v5 a1 8)) a0 9 ((ms v5 a0 8 (v5 a1 8)) a1 9)) a0 10 ((ms (ms v5 a0 8 (v5 a1 8)) a0 9 ((ms v5 a0 8 (v5 a1 8)) a1 9)) a1 10)) a1 11)))) a0 12 ((ms (ms (ms (ms v5 a0 8 (v5 a1 8)) a0 9 ((ms v5 a0 8 (v5 a1 8)) a1 9)) a0 10 ((ms (ms v5 a0 8 (v5 a1 8)) a0 9 ((ms v5 a0 8 (v5 a1 8)) a1 9)) a1 10)) a0 11 (bz (nz ((ms (ms (ms v5 a0 8 (v5 a1 8)) a0 9 ((ms v5 a0 8 (v5 a1 8)) a1 9)) a0 10 ((ms (ms v5 a0 8 (v5 a1 8)) a0 9 ((ms v5 a0 8 (v5 a1 8)) a1 9)) a1 10)) a1 11)))) a1 12)) a0 13 ((ms (ms (ms (ms (ms v5 a0 8 (v5 a1 8)) a0 9 ((ms v5 a0 8 (v5 a1 8)) a1 9)) a0 10 ((ms (ms v5 a0 8 (v5 a1 8)) a0 9 ((ms v5 a0 8 (v5 a1 8)) a1 9)) a1 10)) a0 11 (bz (nz ((ms (ms (ms v5 a0 8 (v5 a1 8)) a0 9 ((ms v5 a0 8 (v5 a1 8)) a1 9)) a0 10 ((ms (ms v5 a0 8 (v5 a1 8)) a0 9 ((ms v5 a0 8 (v5 a1 8)) a1 9)) a1 10)) a1 11)))) a0 12 ((ms (ms (ms (ms v5 a0 8 (v5 a1 8)) a0 9 ((ms v5 a0 8 (v5 a1 8)) a1 9)) a0 10 ((ms (ms v5 a0 8 (v5 a1 8)) a0 9 ((ms v5 a0 8 (v5 a1 8)) a1 9)) a1 10)) a0 11 (bz (nz ((ms (ms (ms v5 a0 8 (v5 a1 8)) a0 9 ((ms v5 a0 8 (v5 a1 8)) a1 9)) a0 10 ((ms (ms v5 a0 8 (v5 a1 8)) a0 9 ((ms v5 a0 8 (v5 a1 8)) a1 9)) a1 10)) a1 11)))) a1 12)) a1 13)) a1 14)) a1 15)) a1 16)) (pc' := 174) X h1 16 (by decide) rfl mf_X4_48 rfl dX4_copyFrom_171 rfl ?_
      refine AW.pX4 (pc' := 177) X h0 16 (by decide) rfl mf_X4_48 rfl rfl (by simp [fsS, upd]) (Nat.le_of_ble_eq_true rfl) dX4_copyFrom_174 rfl ?_
      replace h := Option.some.inj h
      subst h
      exact AW.vret X hr dX4_copyFrom_177
    · replace h := iten q1 h
      refine AW.aload_n (k0 := 0) (pc' := 33) X rfl rfl dX4_copyFrom_32 rfl ?_
      refine AW.gX4 (v := .ref (a0 + 6)) (pc' := 36) X h0 2 (by decide) rfl mf_X4_27 rfl dX4_copyFrom_33 rfl ?_
      refine AW.iload_n (k0 := 2) (pc' := 37) X rfl rfl dX4_copyFrom_36 rfl ?_
      obtain ⟨g6, h⟩ := gd_some h
      refine AW.aldC (pc' := 38) X (rS6 h0) (inb_vp g6) dX4_copyFrom_37 rfl ?_
      refine AW.aload_n (k0 := 1) (pc' := 39) X rfl rfl dX4_copyFrom_38 rfl ?_
      refine AW.gX4 (v := .ref (a1 + 6)) (pc' := 42) X h1 2 (by decide) rfl mf_X4_27 rfl dX4_copyFrom_39 rfl ?_
      refine AW.iload_n (k0 := 2) (pc' := 43) X rfl rfl dX4_copyFrom_42 rfl ?_
      obtain ⟨g7, h⟩ := gd_some h
      refine AW.aldC (pc' := 44) X (rS6 h1) (inb_vp g7) dX4_copyFrom_43 rfl ?_
      obtain ⟨v8, c8, h⟩ := Option.bind_eq_some_iff.mp h
      refine AW.callV (As := [.ref ((a1 + 6) + 5 + 9 * (ix x2))]) (rest := []) (rv := none) (M' := v8) (pc' := 47) X (ok_X0_copyFrom (rCA (rS6 h0) (inb_lt g6)) (rCA (rS6 h1) (inb_lt g7)) c8) yv_X0_copyFrom (rCA (rS6 h0) (inb_lt g6)).1 (rCA (rS6 h0) (inb_lt g6)).2.1 (cC (rCA (rS6 h0) (inb_lt g6)) dA ad _) rfl rfl ml_X4_238 ⟨by decide, by decide, by decide, by decide⟩ rfl (Nat.le_of_ble_eq_true rfl) rfl rfl dX4_copyFrom_44 rfl ?_
      refine AW.iinc (k0 := 2) (v := (x2 + 1)) (y := 1) (ls' := [(2, .int (x2 + 1)), (0, .ref a0), (1, .ref a1)]) (pc' := 50) X rfl rfl rfl (by decide) rfl dX4_copyFrom_47 rfl ?_
      refine AW.goto (pc' := 24) X dX4_copyFrom_50 rfl ?_
      refine AW.sub (ls' := [(0, .ref a0), (1, .ref a1), (2, .int (x2 + 1))]) [1, 2, 0] rfl ?_
      exact ih (x2 + 1) v8 R h
set_option maxHeartbeats 4000000 in
set_option maxRecDepth 100000 in
theorem ok_X4_copyFrom {lo n : Nat} {a0 : Nat} {a1 : Nat} {M : MM} {R : MM} (h0 : tSt lo n a0) (h1 : tSt lo n a1) (h : f_X4_copyFrom a0 a1 M = some R) : MC yX4_copyFrom cX4_copyFrom 3 none 3 82 lo n [.ref a0, .ref a1] M none R := by
  refine MC.of (ls0 := [(0, .ref a0), (1, .ref a1)]) (by decide) rfl (fun _ => Nat.le_of_ble_eq_true rfl) (fun p l e s m args below meth c D dA ad A X hr => ?_)
  replace X : CX p s m args meth c cX4_copyFrom 3 RX4 D dA ad lo n A := X
  unfold f_X4_copyFrom at h
  refine AW.aload_n (k0 := 0) (pc' := 1) X rfl rfl dX4_copyFrom_0 rfl ?_
  refine AW.gX4 (v := .ref (a0 + 1)) (pc' := 4) X h0 0 (by decide) rfl mf_X4_12 rfl dX4_copyFrom_1 rfl ?_
  refine AW.aload_n (k0 := 1) (pc' := 5) X rfl rfl dX4_copyFrom_4 rfl ?_
  refine AW.gX4 (v := .ref (a1 + 1)) (pc' := 8) X h1 0 (by decide) rfl mf_X4_12 rfl dX4_copyFrom_5 rfl ?_
  obtain ⟨v1, c1, h⟩ := Option.bind_eq_some_iff.mp h
  refine AW.callV (As := [.ref (a1 + 1)]) (rest := []) (rv := none) (M' := v1) (pc' := 11) X (ok_X2_copyFrom (rS1 h0) (rS1 h1) c1) yv_X2_copyFrom (rS1 h0).1 (rS1 h0).2.1 (cL (rS1 h0) dA ad _) rfl rfl ml_X4_231 ⟨by decide, by decide, by decide, by decide⟩ rfl (Nat.le_of_ble_eq_true rfl) rfl rfl dX4_copyFrom_8 rfl ?_
  refine AW.aload_n (k0 := 0) (pc' := 12) X rfl rfl dX4_copyFrom_11 rfl ?_
  refine AW.gX4 (v := .ref (a0 + 3)) (pc' := 15) X h0 1 (by decide) rfl mf_X4_21 rfl dX4_copyFrom_12 rfl ?_
  refine AW.aload_n (k0 := 1) (pc' := 16) X rfl rfl dX4_copyFrom_15 rfl ?_
  refine AW.gX4 (v := .ref (a1 + 3)) (pc' := 19) X h1 1 (by decide) rfl mf_X4_21 rfl dX4_copyFrom_16 rfl ?_
  obtain ⟨v2, c2, h⟩ := Option.bind_eq_some_iff.mp h
  refine AW.callV (As := [.ref (a1 + 3)]) (rest := []) (rv := none) (M' := v2) (pc' := 22) X (ok_X3_copyFrom (rS3 h0) (rS3 h1) c2) yv_X3_copyFrom (rS3 h0).1 (rS3 h0).2.1 (cP (rS3 h0) dA ad _) rfl rfl ml_X4_235 ⟨by decide, by decide, by decide, by decide⟩ rfl (Nat.le_of_ble_eq_true rfl) rfl rfl dX4_copyFrom_19 rfl ?_
  refine AW.iconst (v := 0) (pc' := 23) X rfl dX4_copyFrom_22 rfl ?_
  refine AW.istore_n (ls' := [(2, .int 0), (0, .ref a0), (1, .ref a1)]) (pc' := 24) X rfl (by decide) rfl dX4_copyFrom_23 rfl ?_
  refine AW.sub (ls' := [(0, .ref a0), (1, .ref a1), (2, .int 0)]) [1, 2, 0] rfl ?_
  exact ok_X4_copyFrom_24 X hr h0 h1 FU 0 v2 R h
end OK
