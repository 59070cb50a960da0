/-! each method does what its function says: by program, a row an instruction -/
section OK
variable {p : Program} {l : Launch} {e : Env} {s : State} {m : MethodId} {args : Array Value} {below : List Frame} {meth : Method} {c : Code} {D : va_G} {dA : Nat → ClassId} {ad : Nat → Nat} {lo n : Nat} {A : Nat → Prop}
set_option maxHeartbeats 4000000 in
set_option maxRecDepth 100000 in
theorem ok_X1_note {lo n : Nat} {a0 : Nat} {a1 : Nat} {M : MM} {R : MM} (h0 : tHi lo n a0) (h1 : tSt lo n a1) (h : f_X1_note a0 a1 M = some R) : MC yX1_note cX1_note 2 none 4 104 lo n [.ref a0, .ref a1] M none R := by
  refine MC.of (ls0 := [(0, .ref a0), (1, .ref a1)]) (by decide) rfl (fun _ => Nat.le_of_ble_eq_true rfl) (fun p l e s m args below meth c D dA ad A X hr => ?_)
  replace X : CX p s m args meth c cX1_note 2 RX1 D dA ad lo n A := X
  unfold f_X1_note at h
  refine AW.aload_n (k0 := 0) (pc' := 1) X rfl rfl dX1_note_0 rfl ?_
  refine AW.gX1 (v := .ref (a0 + 1)) (pc' := 4) X h0 0 (by decide) rfl mf_X1_13 rfl dX1_note_1 rfl ?_
  refine AW.aload_n (k0 := 0) (pc' := 5) X rfl rfl dX1_note_4 rfl ?_
  refine AW.gX1 (v := .int (M a0 1)) (pc' := 8) X h0 1 (by decide) rfl mf_X1_18 rfl dX1_note_5 rfl ?_
  obtain ⟨g1, h⟩ := gd_some h
  refine AW.aldS (pc' := 9) X (rH1 h0) (inb_vp g1) dX1_note_8 rfl ?_
  refine AW.aload_n (k0 := 1) (pc' := 10) X rfl rfl dX1_note_9 rfl ?_
  obtain ⟨v2, c2, h⟩ := Option.bind_eq_some_iff.mp h
  refine AW.callV (As := [.ref a1]) (rest := []) (rv := none) (M' := v2) (pc' := 13) X (ok_X4_copyFrom (rSA (rH1 h0) (inb_lt g1)) h1 c2) yv_X4_copyFrom (rSA (rH1 h0) (inb_lt g1)).1 (rSA (rH1 h0) (inb_lt g1)).2.1 (cS (rSA (rH1 h0) (inb_lt g1)) dA ad _) rfl rfl ml_X1_22 ⟨by decide, by decide, by decide, by decide⟩ rfl (Nat.le_of_ble_eq_true rfl) rfl rfl dX1_note_10 rfl ?_
  replace h := Option.some.inj h
  subst h
  exact AW.vret X hr dX1_note_13
set_option maxHeartbeats 4000000 in
set_option maxRecDepth 100000 in
theorem ok_X1_keepNoted {lo n : Nat} {a0 : Nat} {M : MM} {R : MM} (h0 : tHi lo n a0) (h : f_X1_keepNoted a0 M = some R) : MC yX1_keepNoted cX1_keepNoted 1 none 1 21 lo n [.ref a0] M none R := by
  refine MC.of (ls0 := [(0, .ref a0)]) (by decide) rfl (fun _ => Nat.le_of_ble_eq_true rfl) (fun p l e s m args below meth c D dA ad A X hr => ?_)
  replace X : CX p s m args meth c cX1_keepNoted 1 RX1 D dA ad lo n A := X
  unfold f_X1_keepNoted at h
  refine AW.aload_n (k0 := 0) (pc' := 1) X rfl rfl dX1_keepNoted_0 rfl ?_
  refine AW.aload_n (k0 := 0) (pc' := 2) X rfl rfl dX1_keepNoted_1 rfl ?_
  refine AW.gX1 (v := .int (M a0 1)) (pc' := 5) X h0 1 (by decide) rfl mf_X1_18 rfl dX1_keepNoted_2 rfl ?_
  refine AW.iconst (v := 1) (pc' := 6) X rfl dX1_keepNoted_5 rfl ?_
  refine AW.iadd (pc' := 7) X dX1_keepNoted_6 rfl ?_
  refine AW.bipush (v := 6) (pc' := 9) X rfl dX1_keepNoted_7 rfl ?_
  refine AW.irem (pc' := 10) X (by decide) dX1_keepNoted_9 rfl ?_
  refine AW.pX1 (pc' := 13) X h0 1 (by decide) rfl mf_X1_18 rfl rfl (by simp [fsH, upd]) (Nat.le_of_ble_eq_true rfl) dX1_keepNoted_10 rfl ?_
  refine AW.aload_n (k0 := 0) (pc' := 14) X rfl rfl dX1_keepNoted_13 rfl ?_
  refine AW.aload_n (k0 := 0) (pc' := 15) X rfl rfl dX1_keepNoted_14 rfl ?_
  refine AW.gX1 (v := .int ((ms M a0 1 (((M a0 1) + 1) - ((M a0 1) + 1) / 6 * 6)) a0 2)) (pc' := 18) X h0 2 (by decide) rfl mf_X1_26 rfl dX1_keepNoted_15 rfl ?_
  refine AW.iconst (v := 1) (pc' := 19) X rfl dX1_keepNoted_18 rfl ?_
  refine AW.iadd (pc' := 20) X dX1_keepNoted_19 rfl ?_
  refine AW.iconst (v := 5) (pc' := 21) X rfl dX1_keepNoted_20 rfl ?_
  refine AW.mmin (pc' := 24) X ⟨by decide, by decide, by decide, by decide⟩ (Nat.le_of_ble_eq_true rfl) ml_X1_29 dX1_keepNoted_21 rfl ?_
  refine AW.pX1 (pc' := 27) X h0 2 (by decide) rfl mf_X1_26 rfl rfl (by simp [fsH, upd]) (Nat.le_of_ble_eq_true rfl) dX1_keepNoted_24 rfl ?_
  replace h := Option.some.inj h
  subst h
  exact AW.vret X hr dX1_keepNoted_27
set_option maxHeartbeats 4000000 in
set_option maxRecDepth 100000 in
theorem ok_X1_takeBack {lo n : Nat} {a0 : Nat} {a1 : Nat} {M : MM} {R : (Int32 × MM)} (h0 : tHi lo n a0) (h1 : tSt lo n a1) (h : f_X1_takeBack a0 a1 M = some R) : MC yX1_takeBack cX1_takeBack 2 (some .int) 4 104 lo n [.ref a0, .ref a1] M (some (.int R.1)) R.2 := by
  refine MC.of (ls0 := [(0, .ref a0), (1, .ref a1)]) (by decide) rfl (fun _ => Nat.le_of_ble_eq_true rfl) (fun p l e s m args below meth c D dA ad A X hr => ?_)
  replace X : CX p s m args meth c cX1_takeBack 2 RX1 D dA ad lo n A := X
  unfold f_X1_takeBack at h
  refine AW.aload_n (k0 := 0) (pc' := 1) X rfl rfl dX1_takeBack_0 rfl ?_
  refine AW.gX1 (v := .int (M a0 2)) (pc' := 4) X h0 2 (by decide) rfl mf_X1_26 rfl dX1_takeBack_1 rfl ?_
  refine AW.if_ne (pc' := 7) (tgt := 10) X dX1_takeBack_4 rfl rfl (fun q1 => ?_) (fun q1 => ?_)
  · replace h := iten q1 h
    refine AW.aload_n (k0 := 0) (pc' := 11) X rfl rfl dX1_takeBack_10 rfl ?_
    refine AW.aload_n (k0 := 0) (pc' := 12) X rfl rfl dX1_takeBack_11 rfl ?_
    refine AW.gX1 (v := .int (M a0 1)) (pc' := 15) X h0 1 (by decide) rfl mf_X1_18 rfl dX1_takeBack_12 rfl ?_
    refine AW.bipush (v := 6) (pc' := 17) X rfl dX1_takeBack_15 rfl ?_
    refine AW.iadd (pc' := 18) X dX1_takeBack_17 rfl ?_
    refine AW.iconst (v := 1) (pc' := 19) X rfl dX1_takeBack_18 rfl ?_
    refine AW.isub (pc' := 20) X dX1_takeBack_19 rfl ?_
    refine AW.bipush (v := 6) (pc' := 22) X rfl dX1_takeBack_20 rfl ?_
    refine AW.irem (pc' := 23) X (by decide) dX1_takeBack_22 rfl ?_
    refine AW.pX1 (pc' := 26) X h0 1 (by decide) rfl mf_X1_18 rfl rfl (by simp [fsH, upd]) (Nat.le_of_ble_eq_true rfl) dX1_takeBack_23 rfl ?_
    refine AW.aload_n (k0 := 0) (pc' := 27) X rfl rfl dX1_takeBack_26 rfl ?_
    refine AW.dup (pc' := 28) X rfl dX1_takeBack_27 rfl ?_
    refine AW.gX1 (v := .int ((ms M a0 1 ((((M a0 1) + 6) - 1) - (((M a0 1) + 6) - 1) / 6 * 6)) a0 2)) (pc' := 31) X h0 2 (by decide) rfl mf_X1_26 rfl dX1_takeBack_28 rfl ?_
    refine AW.iconst (v := 1) (pc' := 32) X rfl dX1_takeBack_31 rfl ?_
    refine AW.isub (pc' := 33) X dX1_takeBack_32 rfl ?_
    refine AW.pX1 (pc' := 36) X h0 2 (by decide) rfl mf_X1_26 rfl rfl (by simp [fsH, upd]) (Nat.le_of_ble_eq_true rfl) dX1_takeBack_33 rfl ?_
    refine AW.aload_n (k0 := 1) (pc' := 37) X rfl rfl dX1_takeBack_36 rfl ?_
    refine AW.aload_n (k0 := 0) (pc' := 38) X rfl rfl dX1_takeBack_37 rfl ?_
    refine AW.gX1 (v := .ref (a0 + 1)) (pc' := 41) X h0 0 (by decide) rfl mf_X1_13 rfl dX1_takeBack_38 rfl ?_
    refine AW.aload_n (k0 := 0) (pc' := 42) X rfl rfl dX1_takeBack_41 rfl ?_
    refine AW.gX1 (v := .int ((ms (ms M a0 1 ((((M a0 1) + 6) - 1) - (((M a0 1) + 6) - 1) / 6 * 6)) a0 2 (((ms M a0 1 ((((M a0 1) + 6) - 1) - (((M a0 1) + 6) - 1) / 6 * 6)) a0 2) - 1)) a0 1)) (pc' := 45) X h0 1 (by decide) rfl mf_X1_18 rfl dX1_takeBack_42 rfl ?_
    obtain ⟨g3, h⟩ := gd_some h
    refine AW.aldS (pc' := 46) X (rH1 h0) (inb_vp g3) dX1_takeBack_45 rfl ?_
    obtain ⟨v4, c4, h⟩ := Option.bind_eq_some_iff.mp h
    refine AW.callV (As := [.ref (if (a0 + 1) = 652 then 260 + 65 * (ix ((ms (ms M a0 1 ((((M a0 1) + 6) - 1) - (((M a0 1) + 6) - 1) / 6 * 6)) a0 2 (((ms M a0 1 ((((M a0 1) + 6) - 1) - (((M a0 1) + 6) - 1) / 6 * 6)) a0 2) - 1)) a0 1)) else 130 + 65 * (ix ((ms (ms M a0 1 ((((M a0 1) + 6) - 1) - (((M a0 1) + 6) - 1) / 6 * 6)) a0 2 (((ms M a0 1 ((((M a0 1) + 6) - 1) - (((M a0 1) + 6) - 1) / 6 * 6)) a0 2) - 1)) a0 1)))]) (rest := []) (rv := none) (M' := v4) (pc' := 49) X (ok_X4_copyFrom h1 (rSA (rH1 h0) (inb_lt g3)) c4) yv_X4_copyFrom h1.1 h1.2.1 (cS h1 dA ad _) rfl rfl ml_X1_22 ⟨by decide, by decide, by decide, by decide⟩ rfl (Nat.le_of_ble_eq_true rfl) rfl rfl dX1_takeBack_46 rfl ?_
    refine AW.aload_n (k0 := 0) (pc' := 50) X rfl rfl dX1_takeBack_49 rfl ?_
    refine AW.gX1 (v := .int (v4 a0 2)) (pc' := 53) X h0 2 (by decide) rfl mf_X1_26 rfl dX1_takeBack_50 rfl ?_
    replace h := Option.some.inj h
    subst h
    exact AW.iret X hr dX1_takeBack_53
  · replace h := itep q1 h
    refine AW.bipush (v := (-3)) (pc' := 9) X rfl dX1_takeBack_7 rfl ?_
    replace h := Option.some.inj h
    subst h
    exact AW.iret X hr dX1_takeBack_9
set_option maxHeartbeats 4000000 in
set_option maxRecDepth 100000 in
theorem ok_X2_above {lo n : Nat} {x0 : Int32} {x1 : Int32} {M : MM} {R : Int32}  (h : f_X2_above x0 x1 M = some R) : MC yX2_above cX2_above 2 (some .int) 1 21 lo n [.int x0, .int x1] M (some (.int R)) M := by
  refine MC.of (ls0 := [(0, .int x0), (1, .int x1)]) (by decide) rfl (fun _ => Nat.le_of_ble_eq_true rfl) (fun p l e s m args below meth c D dA ad A X hr => ?_)
  replace X : CX p s m args meth c cX2_above 2 RX2 D dA ad lo n A := X
  unfold f_X2_above at h
  refine AW.iload_n (k0 := 0) (pc' := 1) X rfl rfl dX2_above_0 rfl ?_
  refine AW.iconst (v := 1) (pc' := 2) X rfl dX2_above_1 rfl ?_
  refine AW.iload_n (k0 := 0) (pc' := 3) X rfl rfl dX2_above_2 rfl ?_
  refine AW.iload_n (k0 := 1) (pc' := 4) X rfl rfl dX2_above_3 rfl ?_
  refine AW.imul (pc' := 5) X dX2_above_4 rfl ?_
  refine AW.sipush (v := 1000) (pc' := 8) X rfl dX2_above_5 rfl ?_
  refine AW.idiv (pc' := 9) X (by decide) dX2_above_8 rfl ?_
  refine AW.mmax (pc' := 12) X ⟨by decide, by decide, by decide, by decide⟩ (Nat.le_of_ble_eq_true rfl) ml_X2_19 dX2_above_9 rfl ?_
  refine AW.iadd (pc' := 13) X dX2_above_12 rfl ?_
  replace h := Option.some.inj h
  subst h
  exact AW.iret X hr dX2_above_13
set_option maxHeartbeats 4000000 in
set_option maxRecDepth 100000 in
theorem ok_X2_countOf_31 {M : MM} (X : CX p s m args meth c cX2_countOf 5 RX2 D dA ad lo n A) (hr : meth.sig.returnType = (some .int)) : ∀ (x3 : Int32) (R : Int32), f_X2_countOf_31 M x3 = some R → AR p l e 2 42 s m args below meth c D dA ad lo n 5 A (some (.int R)) M 31 [(3, .int x3)] [] M := by
  intro x3 R h
  unfold f_X2_countOf_31 at h
  refine AW.iload_n (k0 := 0) (pc' := 32) X rfl rfl dX2_countOf_31 rfl ?_
  replace h := Option.some.inj h
  subst h
  exact AW.iret X hr dX2_countOf_32
set_option maxHeartbeats 4000000 in
set_option maxRecDepth 100000 in
theorem ok_X2_countOf_5 {M : MM} (X : CX p s m args meth c cX2_countOf 5 RX2 D dA ad lo n A) (hr : meth.sig.returnType = (some .int)) : ∀ (k : Nat) (x1 : Int32) (x2 : Int32) (x3 : Int32) (x4 : Int32) (R : Int32), f_X2_countOf_5 M k x1 x2 x3 x4 = some R → AR p l e 2 42 s m args below meth c D dA ad lo n 5 A (some (.int R)) M 5 [(1, .int x1), (2, .int x2), (3, .int x3), (4, .int x4)] [] M := by
  intro k
  induction k with
  | zero => intro _ _ _ _ R h; exact none_some h
  | succ k ih =>
    intro x1 x2 x3 x4 R h
    unfold f_X2_countOf_5 at h
    refine AW.iload_n (k0 := 2) (pc' := 6) X rfl rfl dX2_countOf_5 rfl ?_
    refine AW.bipush (v := 100) (pc' := 8) X rfl dX2_countOf_6 rfl ?_
    refine AW.icmp_gt (pc' := 11) (tgt := 31) X dX2_countOf_8 rfl rfl (fun q1 => ?_) (fun q1 => ?_)
    · replace h := itep q1 h
      refine AW.sub (ls' := [(3, .int x3)]) [2] rfl ?_
      exact ok_X2_countOf_31 X hr x3 R h
    · replace h := iten q1 h
      refine AW.iload (k0 := 3) (pc' := 13) X rfl dX2_countOf_11 rfl ?_
      refine AW.iload_n (k0 := 0) (pc' := 14) X rfl rfl dX2_countOf_13 rfl ?_
      refine AW.icmp_gt (pc' := 17) (tgt := 31) X dX2_countOf_14 rfl rfl (fun q2 => ?_) (fun q2 => ?_)
      · replace h := itep q2 h
        refine AW.sub (ls' := [(3, .int x3)]) [2] rfl ?_
        exact ok_X2_countOf_31 X hr x3 R h
      · replace h := iten q2 h
        refine AW.iinc (k0 := 2) (v := (x3 + 1)) (y := 1) (ls' := [(3, .int (x3 + 1)), (1, .int x1), (2, .int x2), (4, .int x4)]) (pc' := 20) X rfl rfl rfl (by decide) rfl dX2_countOf_17 rfl ?_
        refine AW.iload (k0 := 3) (pc' := 22) X rfl dX2_countOf_20 rfl ?_
        refine AW.iload_n (k0 := 2) (pc' := 23) X rfl rfl dX2_countOf_22 rfl ?_
        obtain ⟨v3, c3, h⟩ := Option.bind_eq_some_iff.mp h
        refine AW.callS (As := [.int x4, .int x2]) (rest := []) (rv := (some (.int v3))) (M' := M) (pc' := 26) X (ok_X2_above c3) yv_X2_above ml_X2_15 ⟨by decide, by decide, by decide, by decide⟩ rfl (Nat.le_of_ble_eq_true rfl) rfl rfl dX2_countOf_23 rfl ?_
        refine AW.istore (ls' := [(4, .int v3), (3, .int (x3 + 1)), (1, .int x1), (2, .int x2)]) (pc' := 28) X (by decide) rfl dX2_countOf_26 rfl ?_
        refine AW.goto (pc' := 5) X dX2_countOf_28 rfl ?_
        refine AW.sub (ls' := [(1, .int x1), (2, .int x2), (3, .int (x3 + 1)), (4, .int v3)]) [2, 3, 1, 0] rfl ?_
        exact ih x1 x2 (x3 + 1) v3 R h
set_option maxHeartbeats 4000000 in
set_option maxRecDepth 100000 in
theorem ok_X2_countOf {lo n : Nat} {x0 : Int32} {x1 : Int32} {x2 : Int32} {M : MM} {R : Int32}  (h : f_X2_countOf x0 x1 x2 M = some R) : MC yX2_countOf cX2_countOf 5 (some .int) 2 42 lo n [.int x0, .int x1, .int x2] M (some (.int R)) M := by
  refine MC.of (ls0 := [(0, .int x0), (1, .int x1), (2, .int x2)]) (by decide) rfl (fun _ => Nat.le_of_ble_eq_true rfl) (fun p l e s m args below meth c D dA ad A X hr => ?_)
  replace X : CX p s m args meth c cX2_countOf 5 RX2 D dA ad lo n A := X
  unfold f_X2_countOf at h
  refine AW.iconst (v := 0) (pc' := 1) X rfl dX2_countOf_0 rfl ?_
  refine AW.istore_n (ls' := [(3, .int 0), (0, .int x0), (1, .int x1), (2, .int x2)]) (pc' := 2) X rfl (by decide) rfl dX2_countOf_1 rfl ?_
  refine AW.iload_n (k0 := 1) (pc' := 3) X rfl rfl dX2_countOf_2 rfl ?_
  refine AW.istore (ls' := [(4, .int x0), (3, .int 0), (0, .int x0), (1, .int x1), (2, .int x2)]) (pc' := 5) X (by decide) rfl dX2_countOf_3 rfl ?_
  refine AW.sub (ls' := [(1, .int x1), (2, .int x2), (3, .int 0), (4, .int x0)]) [3, 4, 1, 0] rfl ?_
  exact ok_X2_countOf_5 X hr FU x1 x2 0 x0 R h
set_option maxHeartbeats 4000000 in
set_option maxRecDepth 100000 in
theorem ok_X2_lay_16 {a0 : Nat} (X : CX p s m args meth c cX2_lay 6 RX2 D dA ad lo n A) (hr : meth.sig.returnType = none) (h0 : tLn lo n a0) : ∀ (k : Nat) (x2 : Int32) (x4 : Int32) (x5 : Int32) (M : MM) (R : MM), f_X2_lay_16 a0 k x2 x4 x5 M = some R → AR p l e 2 42 s m args below meth c D dA ad lo n 6 A none R 16 [(0, .ref a0), (2, .int x2), (4, .int x4), (5, .int x5)] [] M := by
  intro k
  induction k with
  | zero => intro _ _ _ _ R h; exact none_some h
  | succ k ih =>
    intro x2 x4 x5 M R h
    unfold f_X2_lay_16 at h
    refine AW.iload (k0 := 3) (pc' := 18) X rfl dX2_lay_16 rfl ?_
    refine AW.aload_n (k0 := 0) (pc' := 19) X rfl rfl dX2_lay_18 rfl ?_
    refine AW.gX2 (v := .int (M a0 1)) (pc' := 22) X h0 1 (by decide) rfl mf_X2_27 rfl dX2_lay_19 rfl ?_
    refine AW.icmp_ge (pc' := 25) (tgt := 48) X dX2_lay_22 rfl rfl (fun q1 => ?_) (fun q1 => ?_)
    · replace h := itep q1 h
      replace h := Option.some.inj h
      subst h
      exact AW.vret X hr dX2_lay_48
    · replace h := iten q1 h
      refine AW.aload_n (k0 := 0) (pc' := 26) X rfl rfl dX2_lay_25 rfl ?_
      refine AW.gX2 (v := .ref (a0 + 1)) (pc' := 29) X h0 0 (by decide) rfl mf_X2_9 rfl dX2_lay_26 rfl ?_
      refine AW.iload (k0 := 3) (pc' := 31) X rfl dX2_lay_29 rfl ?_
      refine AW.iload (k0 := 2) (pc' := 33) X rfl dX2_lay_31 rfl ?_
      obtain ⟨g2, h⟩ := gd_some h
      refine AW.iast (pc' := 34) X (rL1 h0) (inb_vp g2) dX2_lay_33 rfl ?_
      refine AW.iload (k0 := 2) (pc' := 36) X rfl dX2_lay_34 rfl ?_
      refine AW.iload_n (k0 := 1) (pc' := 37) X rfl rfl dX2_lay_36 rfl ?_
      obtain ⟨v3, c3, h⟩ := Option.bind_eq_some_iff.mp h
      refine AW.callS (As := [.int x4, .int x2]) (rest := []) (rv := (some (.int v3))) (M' := (ms M (a0 + 1) (ix x5) x4)) (pc' := 40) X (ok_X2_above c3) yv_X2_above ml_X2_15 ⟨by decide, by decide, by decide, by decide⟩ rfl (Nat.le_of_ble_eq_true rfl) rfl rfl dX2_lay_37 rfl ?_
      refine AW.istore (ls' := [(4, .int v3), (0, .ref a0), (2, .int x2), (5, .int x5)]) (pc' := 42) X (by decide) rfl dX2_lay_40 rfl ?_
      refine AW.iinc (k0 := 3) (v := (x5 + 1)) (y := 1) (ls' := [(5, .int (x5 + 1)), (4, .int v3), (0, .ref a0), (2, .int x2)]) (pc' := 45) X rfl rfl rfl (by decide) rfl dX2_lay_42 rfl ?_
      refine AW.goto (pc' := 16) X dX2_lay_45 rfl ?_
      refine AW.sub (ls' := [(0, .ref a0), (2, .int x2), (4, .int v3), (5, .int (x5 + 1))]) [2, 3, 1, 0] rfl ?_
      exact ih x2 v3 (x5 + 1) (ms M (a0 + 1) (ix x5) x4) R h
set_option maxHeartbeats 4000000 in
set_option maxRecDepth 100000 in
theorem ok_X2_lay {lo n : Nat} {a0 : Nat} {x1 : Int32} {x2 : Int32} {x3 : Int32} {M : MM} {R : MM} (h0 : tLn lo n a0) (h : f_X2_lay a0 x1 x2 x3 M = some R) : MC yX2_lay cX2_lay 6 none 2 42 lo n [.ref a0, .int x1, .int x2, .int x3] M none R := by
  refine MC.of (ls0 := [(0, .ref a0), (1, .int x1), (2, .int x2), (3, .int x3)]) (by decide) rfl (fun _ => Nat.le_of_ble_eq_true rfl) (fun p l e s m args below meth c D dA ad A X hr => ?_)
  replace X : CX p s m args meth c cX2_lay 6 RX2 D dA ad lo n A := X
  unfold f_X2_lay at h
  refine AW.aload_n (k0 := 0) (pc' := 1) X rfl rfl dX2_lay_0 rfl ?_
  refine AW.iload_n (k0 := 3) (pc' := 2) X rfl rfl dX2_lay_1 rfl ?_
  refine AW.bipush (v := 100) (pc' := 4) X rfl dX2_lay_2 rfl ?_
  refine AW.mmin (pc' := 7) X ⟨by decide, by decide, by decide, by decide⟩ (Nat.le_of_ble_eq_true rfl) ml_X2_24 dX2_lay_4 rfl ?_
  refine AW.pX2 (pc' := 10) X h0 1 (by decide) rfl mf_X2_27 rfl rfl (by simp [fsL, upd]) (Nat.le_of_ble_eq_true rfl) dX2_lay_7 rfl ?_
  refine AW.iload_n (k0 := 1) (pc' := 11) X rfl rfl dX2_lay_10 rfl ?_
  refine AW.istore (ls' := [(4, .int x1), (0, .ref a0), (1, .int x1), (2, .int x2), (3, .int x3)]) (pc' := 13) X (by decide) rfl dX2_lay_11 rfl ?_
  refine AW.iconst (v := 0) (pc' := 14) X rfl dX2_lay_13 rfl ?_
  refine AW.istore (ls' := [(5, .int 0), (4, .int x1), (0, .ref a0), (1, .int x1), (2, .int x2), (3, .int x3)]) (pc' := 16) X (by decide) rfl dX2_lay_14 rfl ?_
  refine AW.sub (ls' := [(0, .ref a0), (2, .int x2), (4, .int x1), (5, .int 0)]) [2, 4, 1, 0] rfl ?_
  exact ok_X2_lay_16 X hr h0 FU x2 x1 0 (ms M a0 1 (if 100 < x3 then 100 else x3)) R h
set_option maxHeartbeats 4000000 in
set_option maxRecDepth 100000 in
theorem ok_X3_placeOf_26 {a0 : Nat} {M : MM} (X : CX p s m args meth c cX3_placeOf 3 RX3 D dA ad lo n A) (hr : meth.sig.returnType = (some .int)) (h0 : tPf lo n a0) : ∀ (x2 : Int32) (R : Int32), f_X3_placeOf_26 a0 M x2 = some R → AR p l e 0 0 s m args below meth c D dA ad lo n 3 A (some (.int R)) M 26 [(2, .int x2)] [] M := by
  intro x2 R h
  unfold f_X3_placeOf_26 at h
  refine AW.iload_n (k0 := 0) (pc' := 27) X rfl rfl dX3_placeOf_26 rfl ?_
  replace h := Option.some.inj h
  subst h
  exact AW.iret X hr dX3_placeOf_27
set_option maxHeartbeats 4000000 in
set_option maxRecDepth 100000 in
theorem ok_X3_placeOf_2 {a0 : Nat} {M : MM} (X : CX p s m args meth c cX3_placeOf 3 RX3 D dA ad lo n A) (hr : meth.sig.returnType = (some .int)) (h0 : tPf lo n a0) : ∀ (k : Nat) (x1 : Int32) (x2 : Int32) (R : Int32), f_X3_placeOf_2 a0 M k x1 x2 = some R → AR p l e 0 0 s m args below meth c D dA ad lo n 3 A (some (.int R)) M 2 [(0, .ref a0), (1, .int x1), (2, .int x2)] [] M := by
  intro k
  induction k with
  | zero => intro _ _ R h; exact none_some h
  | succ k ih =>
    intro x1 x2 R h
    unfold f_X3_placeOf_2 at h
    refine AW.iload_n (k0 := 2) (pc' := 3) X rfl rfl dX3_placeOf_2 rfl ?_
    refine AW.aload_n (k0 := 0) (pc' := 4) X rfl rfl dX3_placeOf_3 rfl ?_
    refine AW.gX3 (v := .int (M a0 2)) (pc' := 7) X h0 2 (by decide) rfl mf_X3_22 rfl dX3_placeOf_4 rfl ?_
    refine AW.icmp_ge (pc' := 10) (tgt := 26) X dX3_placeOf_7 rfl rfl (fun q1 => ?_) (fun q1 => ?_)
    · replace h := itep q1 h
      refine AW.sub (ls' := [(2, .int x2)]) [2] rfl ?_
      exact ok_X3_placeOf_26 X hr h0 x2 R h
    · replace h := iten q1 h
      refine AW.aload_n (k0 := 0) (pc' := 11) X rfl rfl dX3_placeOf_10 rfl ?_
      refine AW.gX3 (v := .ref (a0 + 1)) (pc' := 14) X h0 0 (by decide) rfl mf_X3_9 rfl dX3_placeOf_11 rfl ?_
      refine AW.iload_n (k0 := 2) (pc' := 15) X rfl rfl dX3_placeOf_14 rfl ?_
      obtain ⟨g2, h⟩ := gd_some h
      refine AW.iald (pc' := 16) X (rP1 h0) (inb_vp g2) dX3_placeOf_15 rfl ?_
      refine AW.iload_n (k0 := 1) (pc' := 17) X rfl rfl dX3_placeOf_16 rfl ?_
      refine AW.icmp_ge (pc' := 20) (tgt := 26) X dX3_placeOf_17 rfl rfl (fun q3 => ?_) (fun q3 => ?_)
      · replace h := itep q3 h
        refine AW.sub (ls' := [(2, .int x2)]) [2] rfl ?_
        exact ok_X3_placeOf_26 X hr h0 x2 R h
      · replace h := iten q3 h
        refine AW.iinc (k0 := 2) (v := (x2 + 1)) (y := 1) (ls' := [(2, .int (x2 + 1)), (0, .ref a0), (1, .int x1)]) (pc' := 23) X rfl rfl rfl (by decide) rfl dX3_placeOf_20 rfl ?_
        refine AW.goto (pc' := 2) X dX3_placeOf_23 rfl ?_
        refine AW.sub (ls' := [(0, .ref a0), (1, .int x1), (2, .int (x2 + 1))]) [1, 2, 0] rfl ?_
        exact ih x1 (x2 + 1) R h
set_option maxHeartbeats 4000000 in
set_option maxRecDepth 100000 in
theorem ok_X3_placeOf {lo n : Nat} {a0 : Nat} {x1 : Int32} {M : MM} {R : Int32} (h0 : tPf lo n a0) (h : f_X3_placeOf a0 x1 M = some R) : MC yX3_placeOf cX3_placeOf 3 (some .int) 0 0 lo n [.ref a0, .int x1] M (some (.int R)) M := by
  refine MC.of (ls0 := [(0, .ref a0), (1, .int x1)]) (by decide) rfl (fun _ => Nat.le_of_ble_eq_true rfl) (fun p l e s m args below meth c D dA ad A X hr => ?_)
  replace X : CX p s m args meth c cX3_placeOf 3 RX3 D dA ad lo n A := X
  unfold f_X3_placeOf at h
  refine AW.iconst (v := 0) (pc' := 1) X rfl dX3_placeOf_0 rfl ?_
  refine AW.istore_n (ls' := [(2, .int 0), (0, .ref a0), (1, .int x1)]) (pc' := 2) X rfl (by decide) rfl dX3_placeOf_1 rfl ?_
  refine AW.sub (ls' := [(0, .ref a0), (1, .int x1), (2, .int 0)]) [1, 2, 0] rfl ?_
  exact ok_X3_placeOf_2 X hr h0 FU x1 0 R h
set_option maxHeartbeats 4000000 in
set_option maxRecDepth 100000 in
theorem ok_X3_put_54 {a0 : Nat} (X : CX p s m args meth c cX3_put 5 RX3 D dA ad lo n A) (hr : meth.sig.returnType = (some .int)) (h0 : tPf lo n a0) : ∀ (k : Nat) (x1 : Int32) (x2 : Int32) (x3 : Int32) (x4 : Int32) (M : MM) (R : (Int32 × MM)), f_X3_put_54 a0 k x1 x2 x3 x4 M = some R → AR p l e 1 22 s m args below meth c D dA ad lo n 5 A (some (.int R.1)) R.2 54 [(0, .ref a0), (1, .int x1), (2, .int x2), (3, .int x3), (4, .int x4)] [] M := by
  intro k
  induction k with
  | zero => intro _ _ _ _ _ R h; exact none_some h
  | succ k ih =>
    intro x1 x2 x3 x4 M R h
    unfold f_X3_put_54 at h
    refine AW.iload (k0 := 4) (pc' := 56) X rfl dX3_put_54 rfl ?_
    refine AW.iload_n (k0 := 3) (pc' := 57) X rfl rfl dX3_put_56 rfl ?_
    refine AW.icmp_le (pc' := 60) (tgt := 98) X dX3_put_57 rfl rfl (fun q1 => ?_) (fun q1 => ?_)
    · replace h := itep q1 h
      refine AW.aload_n (k0 := 0) (pc' := 99) X rfl rfl dX3_put_98 rfl ?_
      refine AW.gX3 (v := .ref (a0 + 1)) (pc' := 102) X h0 0 (by decide) rfl mf_X3_9 rfl dX3_put_99 rfl ?_
      refine AW.iload_n (k0 := 3) (pc' := 103) X rfl rfl dX3_put_102 rfl ?_
      refine AW.iload_n (k0 := 1) (pc' := 104) X rfl rfl dX3_put_103 rfl ?_
      obtain ⟨g2, h⟩ := gd_some h
      refine AW.iast (pc' := 105) X (rP1 h0) (inb_vp g2) dX3_put_104 rfl ?_
      refine AW.aload_n (k0 := 0) (pc' := 106) X rfl rfl dX3_put_105 rfl ?_
      refine AW.gX3 (v := .ref (a0 + 2)) (pc' := 109) X h0 1 (by decide) rfl mf_X3_15 rfl dX3_put_106 rfl ?_
      refine AW.iload_n (k0 := 3) (pc' := 110) X rfl rfl dX3_put_109 rfl ?_
      refine AW.iload_n (k0 := 2) (pc' := 111) X rfl rfl dX3_put_110 rfl ?_
      obtain ⟨g3, h⟩ := gd_some h
      refine AW.iast (pc' := 112) X (rP2 h0) (inb_vp g3) dX3_put_111 rfl ?_
      refine AW.aload_n (k0 := 0) (pc' := 113) X rfl rfl dX3_put_112 rfl ?_
      refine AW.dup (pc' := 114) X rfl dX3_put_113 rfl ?_
      refine AW.gX3 (v := .int ((ms (ms M (a0 + 1) (ix x3) x1) (a0 + 2) (ix x3) x2) a0 2)) (pc' := 117) X h0 2 (by decide) rfl mf_X3_22 rfl dX3_put_114 rfl ?_
      refine AW.iconst (v := 1) (pc' := 118) X rfl dX3_put_117 rfl ?_
      refine AW.iadd (pc' := 119) X dX3_put_118 rfl ?_
      refine AW.pX3 (pc' := 122) X h0 2 (by decide) rfl mf_X3_22 rfl rfl (by simp [fsP, upd]) (Nat.le_of_ble_eq_true rfl) dX3_put_119 rfl ?_
      refine AW.aload_n (k0 := 0) (pc' := 123) X rfl rfl dX3_put_122 rfl ?_
      refine AW.gX3 (v := .int ((ms (ms (ms M (a0 + 1) (ix x3) x1) (a0 + 2) (ix x3) x2) a0 2 (((ms (ms M (a0 + 1) (ix x3) x1) (a0 + 2) (ix x3) x2) a0 2) + 1)) a0 2)) (pc' := 126) X h0 2 (by decide) rfl mf_X3_22 rfl dX3_put_123 rfl ?_
      replace h := Option.some.inj h
      subst h
      exact AW.iret X hr dX3_put_126
    · replace h := iten q1 h
      refine AW.aload_n (k0 := 0) (pc' := 61) X rfl rfl dX3_put_60 rfl ?_
      refine AW.gX3 (v := .ref (a0 + 1)) (pc' := 64) X h0 0 (by decide) rfl mf_X3_9 rfl dX3_put_61 rfl ?_
      refine AW.iload (k0 := 4) (pc' := 66) X rfl dX3_put_64 rfl ?_
      refine AW.aload_n (k0 := 0) (pc' := 67) X rfl rfl dX3_put_66 rfl ?_
      refine AW.gX3 (v := .ref (a0 + 1)) (pc' := 70) X h0 0 (by decide) rfl mf_X3_9 rfl dX3_put_67 rfl ?_
      refine AW.iload (k0 := 4) (pc' := 72) X rfl dX3_put_70 rfl ?_
      refine AW.iconst (v := 1) (pc' := 73) X rfl dX3_put_72 rfl ?_
      refine AW.isub (pc' := 74) X dX3_put_73 rfl ?_
      obtain ⟨g4, h⟩ := gd_some h
      refine AW.iald (pc' := 75) X (rP1 h0) (inb_vp g4) dX3_put_74 rfl ?_
      obtain ⟨g5, h⟩ := gd_some h
      refine AW.iast (pc' := 76) X (rP1 h0) (inb_vp g5) dX3_put_75 rfl ?_
      refine AW.aload_n (k0 := 0) (pc' := 77) X rfl rfl dX3_put_76 rfl ?_
      refine AW.gX3 (v := .ref (a0 + 2)) (pc' := 80) X h0 1 (by decide) rfl mf_X3_15 rfl dX3_put_77 rfl ?_
      refine AW.iload (k0 := 4) (pc' := 82) X rfl dX3_put_80 rfl ?_
      refine AW.aload_n (k0 := 0) (pc' := 83) X rfl rfl dX3_put_82 rfl ?_
      refine AW.gX3 (v := .ref (a0 + 2)) (pc' := 86) X h0 1 (by decide) rfl mf_X3_15 rfl dX3_put_83 rfl ?_
      refine AW.iload (k0 := 4) (pc' := 88) X rfl dX3_put_86 rfl ?_
      refine AW.iconst (v := 1) (pc' := 89) X rfl dX3_put_88 rfl ?_
      refine AW.isub (pc' := 90) X dX3_put_89 rfl ?_
      obtain ⟨g6, h⟩ := gd_some h
      refine AW.iald (pc' := 91) X (rP2 h0) (inb_vp g6) dX3_put_90 rfl ?_
      obtain ⟨g7, h⟩ := gd_some h
      refine AW.iast (pc' := 92) X (rP2 h0) (inb_vp g7) dX3_put_91 rfl ?_
      refine AW.iinc (k0 := 4) (v := (x4 + (-1))) (y := (-1)) (ls' := [(4, .int (x4 + (-1))), (0, .ref a0), (1, .int x1), (2, .int x2), (3, .int x3)]) (pc' := 95) X rfl rfl rfl (by decide) rfl dX3_put_92 rfl ?_
      refine AW.goto (pc' := 54) X dX3_put_95 rfl ?_
      refine AW.sub (ls' := [(0, .ref a0), (1, .int x1), (2, .int x2), (3, .int x3), (4, .int (x4 + (-1)))]) [1, 2, 3, 4, 0] rfl ?_
      exact ih x1 x2 x3 (x4 + (-1)) (ms (ms M (a0 + 1) (ix x4) (M (a0 + 1) (ix (x4 - 1)))) (a0 + 2) (ix x4) ((ms M (a0 + 1) (ix x4) (M (a0 + 1) (ix (x4 - 1)))) (a0 + 2) (ix (x4 - 1)))) R h
set_option maxHeartbeats 4000000 in
set_option maxRecDepth 100000 in
theorem ok_X3_put_36 {a0 : Nat} (X : CX p s m args meth c cX3_put 5 RX3 D dA ad lo n A) (hr : meth.sig.returnType = (some .int)) (h0 : tPf lo n a0) : ∀ (x1 : Int32) (x2 : Int32) (x3 : Int32) (M : MM) (R : (Int32 × MM)), f_X3_put_36 a0 x1 x2 x3 M = some R → AR p l e 1 22 s m args below meth c D dA ad lo n 5 A (some (.int R.1)) R.2 36 [(0, .ref a0), (1, .int x1), (2, .int x2), (3, .int x3)] [] M := by
  intro x1 x2 x3 M R h
  unfold f_X3_put_36 at h
  refine AW.aload_n (k0 := 0) (pc' := 37) X rfl rfl dX3_put_36 rfl ?_
  refine AW.gX3 (v := .int (M a0 2)) (pc' := 40) X h0 2 (by decide) rfl mf_X3_22 rfl dX3_put_37 rfl ?_
  refine AW.bipush (v := 8) (pc' := 42) X rfl dX3_put_40 rfl ?_
  refine AW.icmp_lt (pc' := 45) (tgt := 48) X dX3_put_42 rfl rfl (fun q1 => ?_) (fun q1 => ?_)
  · replace h := itep q1 h
    refine AW.aload_n (k0 := 0) (pc' := 49) X rfl rfl dX3_put_48 rfl ?_
    refine AW.gX3 (v := .int (M a0 2)) (pc' := 52) X h0 2 (by decide) rfl mf_X3_22 rfl dX3_put_49 rfl ?_
    refine AW.istore (ls' := [(4, .int (M a0 2)), (0, .ref a0), (1, .int x1), (2, .int x2), (3, .int x3)]) (pc' := 54) X (by decide) rfl dX3_put_52 rfl ?_
    refine AW.sub (ls' := [(0, .ref a0), (1, .int x1), (2, .int x2), (3, .int x3), (4, .int (M a0 2))]) [1, 2, 3, 4, 0] rfl ?_
    exact ok_X3_put_54 X hr h0 FU x1 x2 x3 (M a0 2) M R h
  · replace h := iten q1 h
    refine AW.bipush (v := (-4)) (pc' := 47) X rfl dX3_put_45 rfl ?_
    replace h := Option.some.inj h
    subst h
    exact AW.iret X hr dX3_put_47
set_option maxHeartbeats 4000000 in
set_option maxRecDepth 100000 in
theorem ok_X3_put {lo n : Nat} {a0 : Nat} {x1 : Int32} {x2 : Int32} {M : MM} {R : (Int32 × MM)} (h0 : tPf lo n a0) (h : f_X3_put a0 x1 x2 M = some R) : MC yX3_put cX3_put 5 (some .int) 1 22 lo n [.ref a0, .int x1, .int x2] M (some (.int R.1)) R.2 := by
  refine MC.of (ls0 := [(0, .ref a0), (1, .int x1), (2, .int x2)]) (by decide) rfl (fun _ => Nat.le_of_ble_eq_true rfl) (fun p l e s m args below meth c D dA ad A X hr => ?_)
  replace X : CX p s m args meth c cX3_put 5 RX3 D dA ad lo n A := X
  unfold f_X3_put at h
  refine AW.aload_n (k0 := 0) (pc' := 1) X rfl rfl dX3_put_0 rfl ?_
  refine AW.iload_n (k0 := 1) (pc' := 2) X rfl rfl dX3_put_1 rfl ?_
  obtain ⟨v1, c1, h⟩ := Option.bind_eq_some_iff.mp h
  refine AW.callV (As := [.int x1]) (rest := []) (rv := (some (.int v1))) (M' := M) (pc' := 5) X (ok_X3_placeOf h0 c1) yv_X3_placeOf h0.1 h0.2.1 (cP h0 dA ad _) rfl rfl ml_X3_18 ⟨by decide, by decide, by decide, by decide⟩ rfl (Nat.le_of_ble_eq_true rfl) rfl rfl dX3_put_2 rfl ?_
  refine AW.istore_n (ls' := [(3, .int v1), (0, .ref a0), (1, .int x1), (2, .int x2)]) (pc' := 6) X rfl (by decide) rfl dX3_put_5 rfl ?_
  refine AW.iload_n (k0 := 0) (pc' := 7) X rfl rfl dX3_put_6 rfl ?_
  refine AW.aload_n (k0 := 1) (pc' := 8) X rfl rfl dX3_put_7 rfl ?_
  refine AW.gX3 (v := .int (M a0 2)) (pc' := 11) X h0 2 (by decide) rfl mf_X3_22 rfl dX3_put_8 rfl ?_
  refine AW.icmp_ge (pc' := 14) (tgt := 36) X dX3_put_11 rfl rfl (fun q2 => ?_) (fun q2 => ?_)
  · replace h := itep q2 h
    refine AW.sub (ls' := [(0, .ref a0), (1, .int x1), (2, .int x2), (3, .int v1)]) [1, 2, 3, 0] rfl ?_
    exact ok_X3_put_36 X hr h0 x1 x2 v1 M R h
  · replace h := iten q2 h
    refine AW.aload_n (k0 := 1) (pc' := 15) X rfl rfl dX3_put_14 rfl ?_
    refine AW.gX3 (v := .ref (a0 + 1)) (pc' := 18) X h0 0 (by decide) rfl mf_X3_9 rfl dX3_put_15 rfl ?_
    refine AW.iload_n (k0 := 0) (pc' := 19) X rfl rfl dX3_put_18 rfl ?_
    obtain ⟨g3, h⟩ := gd_some h
    refine AW.iald (pc' := 20) X (rP1 h0) (inb_vp g3) dX3_put_19 rfl ?_
    refine AW.iload_n (k0 := 2) (pc' := 21) X rfl rfl dX3_put_20 rfl ?_
    refine AW.icmp_ne (pc' := 24) (tgt := 36) X dX3_put_21 rfl rfl (fun q4 => ?_) (fun q4 => ?_)
    · replace h := iten q4 h
      refine AW.sub (ls' := [(0, .ref a0), (1, .int x1), (2, .int x2), (3, .int v1)]) [1, 2, 3, 0] rfl ?_
      exact ok_X3_put_36 X hr h0 x1 x2 v1 M R h
    · replace h := itep q4 h
      refine AW.aload_n (k0 := 1) (pc' := 25) X rfl rfl dX3_put_24 rfl ?_
      refine AW.gX3 (v := .ref (a0 + 2)) (pc' := 28) X h0 1 (by decide) rfl mf_X3_15 rfl dX3_put_25 rfl ?_
      refine AW.iload_n (k0 := 0) (pc' := 29) X rfl rfl dX3_put_28 rfl ?_
      refine AW.iload_n (k0 := 3) (pc' := 30) X rfl rfl dX3_put_29 rfl ?_
      obtain ⟨g5, h⟩ := gd_some h
      refine AW.iast (pc' := 31) X (rP2 h0) (inb_vp g5) dX3_put_30 rfl ?_
      refine AW.aload_n (k0 := 1) (pc' := 32) X rfl rfl dX3_put_31 rfl ?_
      refine AW.gX3 (v := .int ((ms M (a0 + 2) (ix v1) x2) a0 2)) (pc' := 35) X h0 2 (by decide) rfl mf_X3_22 rfl dX3_put_32 rfl ?_
      replace h := Option.some.inj h
      subst h
      exact AW.iret X hr dX3_put_35
set_option maxHeartbeats 4000000 in
set_option maxRecDepth 100000 in
theorem ok_X3_between_59 {a0 : Nat} {M : MM} (X : CX p s m args meth c cX3_between 7 RX3 D dA ad lo n A) (hr : meth.sig.returnType = (some .int)) (h0 : tPf lo n a0) : ∀ (s0 : Int32) (R : Int32), f_X3_between_59 a0 M s0 = some R → AR p l e 0 0 s m args below meth c D dA ad lo n 7 A (some (.int R)) M 59 [] [.int s0] M := by
  intro s0 R h
  unfold f_X3_between_59 at h
  replace h := Option.some.inj h
  subst h
  exact AW.iret X hr dX3_between_59
set_option maxHeartbeats 4000000 in
set_option maxRecDepth 100000 in
theorem ok_X3_between {lo n : Nat} {a0 : Nat} {x1 : Int32} {x2 : Int32} {x3 : Int32} {M : MM} {R : Int32} (h0 : tPf lo n a0) (h : f_X3_between a0 x1 x2 x3 M = some R) : MC yX3_between cX3_between 7 (some .int) 0 0 lo n [.ref a0, .int x1, .int x2, .int x3] M (some (.int R)) M := by
  refine MC.of (ls0 := [(0, .ref a0), (1, .int x1), (2, .int x2), (3, .int x3)]) (by decide) rfl (fun _ => Nat.le_of_ble_eq_true rfl) (fun p l e s m args below meth c D dA ad A X hr => ?_)
  replace X : CX p s m args meth c cX3_between 7 RX3 D dA ad lo n A := X
  unfold f_X3_between at h
  refine AW.iload_n (k0 := 3) (pc' := 1) X rfl rfl dX3_between_0 rfl ?_
  refine AW.aload_n (k0 := 0) (pc' := 2) X rfl rfl dX3_between_1 rfl ?_
  refine AW.gX3 (v := .ref (a0 + 1)) (pc' := 5) X h0 0 (by decide) rfl mf_X3_9 rfl dX3_between_2 rfl ?_
  refine AW.iload_n (k0 := 1) (pc' := 6) X rfl rfl dX3_between_5 rfl ?_
  obtain ⟨g1, h⟩ := gd_some h
  refine AW.iald (pc' := 7) X (rP1 h0) (inb_vp g1) dX3_between_6 rfl ?_
  refine AW.isub (pc' := 8) X dX3_between_7 rfl ?_
  refine AW.istore (ls' := [(4, .int (x3 - (M (a0 + 1) (ix x1)))), (0, .ref a0), (1, .int x1), (2, .int x2), (3, .int x3)]) (pc' := 10) X (by decide) rfl dX3_between_8 rfl ?_
  refine AW.aload_n (k0 := 1) (pc' := 11) X rfl rfl dX3_between_10 rfl ?_
  refine AW.gX3 (v := .ref (a0 + 1)) (pc' := 14) X h0 0 (by decide) rfl mf_X3_9 rfl dX3_between_11 rfl ?_
  refine AW.iload_n (k0 := 3) (pc' := 15) X rfl rfl dX3_between_14 rfl ?_
  obtain ⟨g2, h⟩ := gd_some h
  refine AW.iald (pc' := 16) X (rP1 h0) (inb_vp g2) dX3_between_15 rfl ?_
  refine AW.iload_n (k0 := 4) (pc' := 17) X rfl rfl dX3_between_16 rfl ?_
  refine AW.isub (pc' := 18) X dX3_between_17 rfl ?_
  refine AW.istore (ls' := [(5, .int ((M (a0 + 1) (ix x2)) - x3)), (4, .int (x3 - (M (a0 + 1) (ix x1)))), (0, .ref a0), (1, .int x1), (2, .int x2), (3, .int x3)]) (pc' := 20) X (by decide) rfl dX3_between_18 rfl ?_
  refine AW.iload (k0 := 1) (pc' := 22) X rfl dX3_between_20 rfl ?_
  refine AW.iload (k0 := 0) (pc' := 24) X rfl dX3_between_22 rfl ?_
  refine AW.iadd (pc' := 25) X dX3_between_24 rfl ?_
  refine AW.istore (ls' := [(6, .int ((x3 - (M (a0 + 1) (ix x1))) + ((M (a0 + 1) (ix x2)) - x3))), (5, .int ((M (a0 + 1) (ix x2)) - x3)), (4, .int (x3 - (M (a0 + 1) (ix x1)))), (0, .ref a0), (1, .int x1), (2, .int x2), (3, .int x3)]) (pc' := 27) X (by decide) rfl dX3_between_25 rfl ?_
  refine AW.iload (k0 := 0) (pc' := 29) X rfl dX3_between_27 rfl ?_
  refine AW.if_le (pc' := 32) (tgt := 57) X dX3_between_29 rfl rfl (fun q3 => ?_) (fun q3 => ?_)
  · replace h := itep q3 h
    refine AW.bipush (v := (-6)) (pc' := 59) X rfl dX3_between_57 rfl ?_
    refine AW.sub (ls' := []) [] rfl ?_
    exact ok_X3_between_59 X hr h0 (-6) R h
  · replace h := iten q3 h
    refine AW.aload_n (k0 := 3) (pc' := 33) X rfl rfl dX3_between_32 rfl ?_
    refine AW.gX3 (v := .ref (a0 + 2)) (pc' := 36) X h0 1 (by decide) rfl mf_X3_15 rfl dX3_between_33 rfl ?_
    refine AW.iload_n (k0 := 4) (pc' := 37) X rfl rfl dX3_between_36 rfl ?_
    obtain ⟨g4, h⟩ := gd_some h
    refine AW.iald (pc' := 38) X (rP2 h0) (inb_vp g4) dX3_between_37 rfl ?_
    refine AW.iload (k0 := 1) (pc' := 40) X rfl dX3_between_38 rfl ?_
    refine AW.imul (pc' := 41) X dX3_between_40 rfl ?_
    refine AW.aload_n (k0 := 3) (pc' := 42) X rfl rfl dX3_between_41 rfl ?_
    refine AW.gX3 (v := .ref (a0 + 2)) (pc' := 45) X h0 1 (by decide) rfl mf_X3_15 rfl dX3_between_42 rfl ?_
    refine AW.iload_n (k0 := 5) (pc' := 46) X rfl rfl dX3_between_45 rfl ?_
    obtain ⟨g5, h⟩ := gd_some h
    refine AW.iald (pc' := 47) X (rP2 h0) (inb_vp g5) dX3_between_46 rfl ?_
    refine AW.iload (k0 := 2) (pc' := 49) X rfl dX3_between_47 rfl ?_
    refine AW.imul (pc' := 50) X dX3_between_49 rfl ?_
    refine AW.iadd (pc' := 51) X dX3_between_50 rfl ?_
    refine AW.iload (k0 := 0) (pc' := 53) X rfl dX3_between_51 rfl ?_
    obtain ⟨g6, h⟩ := gd_some h
    refine AW.idiv (pc' := 54) X (nz_ne g6) dX3_between_53 rfl ?_
    refine AW.goto (pc' := 59) X dX3_between_54 rfl ?_
    refine AW.sub (ls' := []) [] rfl ?_
    exact ok_X3_between_59 X hr h0 ((((M (a0 + 2) (ix x1)) * ((M (a0 + 1) (ix x2)) - x3)) + ((M (a0 + 2) (ix x2)) * (x3 - (M (a0 + 1) (ix x1))))) / ((x3 - (M (a0 + 1) (ix x1))) + ((M (a0 + 1) (ix x2)) - x3))) R h
set_option maxHeartbeats 4000000 in
set_option maxRecDepth 100000 in
theorem ok_X3_targetAt_50 {a0 : Nat} {M : MM} (X : CX p s m args meth c cX3_targetAt 3 RX3 D dA ad lo n A) (hr : meth.sig.returnType = (some .int)) (h0 : tPf lo n a0) : ∀ (x2 : Int32) (R : Int32), f_X3_targetAt_50 a0 M x2 = some R → AR p l e 1 26 s m args below meth c D dA ad lo n 3 A (some (.int R)) M 50 [(0, .ref a0), (2, .int x2)] [] M := by
  intro x2 R h
  unfold f_X3_targetAt_50 at h
  refine AW.aload_n (k0 := 0) (pc' := 51) X rfl rfl dX3_targetAt_50 rfl ?_
  refine AW.gX3 (v := .ref (a0 + 2)) (pc' := 54) X h0 1 (by decide) rfl mf_X3_15 rfl dX3_targetAt_51 rfl ?_
  refine AW.iload_n (k0 := 1) (pc' := 55) X rfl rfl dX3_targetAt_54 rfl ?_
  obtain ⟨g1, h⟩ := gd_some h
  refine AW.iald (pc' := 56) X (rP2 h0) (inb_vp g1) dX3_targetAt_55 rfl ?_
  replace h := Option.some.inj h
  subst h
  exact AW.iret X hr dX3_targetAt_56
set_option maxHeartbeats 4000000 in
set_option maxRecDepth 100000 in
theorem ok_X3_targetAt {lo n : Nat} {a0 : Nat} {x1 : Int32} {M : MM} {R : Int32} (h0 : tPf lo n a0) (h : f_X3_targetAt a0 x1 M = some R) : MC yX3_targetAt cX3_targetAt 3 (some .int) 1 26 lo n [.ref a0, .int x1] M (some (.int R)) M := by
  refine MC.of (ls0 := [(0, .ref a0), (1, .int x1)]) (by decide) rfl (fun _ => Nat.le_of_ble_eq_true rfl) (fun p l e s m args below meth c D dA ad A X hr => ?_)
  replace X : CX p s m args meth c cX3_targetAt 3 RX3 D dA ad lo n A := X
  unfold f_X3_targetAt at h
  refine AW.aload_n (k0 := 0) (pc' := 1) X rfl rfl dX3_targetAt_0 rfl ?_
  refine AW.gX3 (v := .int (M a0 2)) (pc' := 4) X h0 2 (by decide) rfl mf_X3_22 rfl dX3_targetAt_1 rfl ?_
  refine AW.if_ne (pc' := 7) (tgt := 10) X dX3_targetAt_4 rfl rfl (fun q1 => ?_) (fun q1 => ?_)
  · replace h := iten q1 h
    refine AW.aload_n (k0 := 0) (pc' := 11) X rfl rfl dX3_targetAt_10 rfl ?_
    refine AW.iload_n (k0 := 1) (pc' := 12) X rfl rfl dX3_targetAt_11 rfl ?_
    obtain ⟨v2, c2, h⟩ := Option.bind_eq_some_iff.mp h
    refine AW.callV (As := [.int x1]) (rest := []) (rv := (some (.int v2))) (M' := M) (pc' := 15) X (ok_X3_placeOf h0 c2) yv_X3_placeOf h0.1 h0.2.1 (cP h0 dA ad _) rfl rfl ml_X3_18 ⟨by decide, by decide, by decide, by decide⟩ rfl (Nat.le_of_ble_eq_true rfl) rfl rfl dX3_targetAt_12 rfl ?_
    refine AW.istore_n (ls' := [(2, .int v2), (0, .ref a0), (1, .int x1)]) (pc' := 16) X rfl (by decide) rfl dX3_targetAt_15 rfl ?_
    refine AW.iload_n (k0 := 0) (pc' := 17) X rfl rfl dX3_targetAt_16 rfl ?_
    refine AW.aload_n (k0 := 1) (pc' := 18) X rfl rfl dX3_targetAt_17 rfl ?_
    refine AW.gX3 (v := .int (M a0 2)) (pc' := 21) X h0 2 (by decide) rfl mf_X3_22 rfl dX3_targetAt_18 rfl ?_
    refine AW.icmp_ne (pc' := 24) (tgt := 36) X dX3_targetAt_21 rfl rfl (fun q3 => ?_) (fun q3 => ?_)
    · replace h := iten q3 h
      refine AW.iload_n (k0 := 0) (pc' := 37) X rfl rfl dX3_targetAt_36 rfl ?_
      refine AW.if_eq (pc' := 40) (tgt := 50) X dX3_targetAt_37 rfl rfl (fun q4 => ?_) (fun q4 => ?_)
      · replace h := itep q4 h
        refine AW.sub (ls' := [(0, .ref a0), (2, .int v2)]) [1, 0] rfl ?_
        exact ok_X3_targetAt_50 X hr h0 v2 R h
      · replace h := iten q4 h
        refine AW.aload_n (k0 := 1) (pc' := 41) X rfl rfl dX3_targetAt_40 rfl ?_
        refine AW.gX3 (v := .ref (a0 + 1)) (pc' := 44) X h0 0 (by decide) rfl mf_X3_9 rfl dX3_targetAt_41 rfl ?_
        refine AW.iload_n (k0 := 0) (pc' := 45) X rfl rfl dX3_targetAt_44 rfl ?_
        obtain ⟨g5, h⟩ := gd_some h
        refine AW.iald (pc' := 46) X (rP1 h0) (inb_vp g5) dX3_targetAt_45 rfl ?_
        refine AW.iload_n (k0 := 2) (pc' := 47) X rfl rfl dX3_targetAt_46 rfl ?_
        refine AW.icmp_ne (pc' := 50) (tgt := 57) X dX3_targetAt_47 rfl rfl (fun q6 => ?_) (fun q6 => ?_)
        · replace h := iten q6 h
          refine AW.aload_n (k0 := 1) (pc' := 58) X rfl rfl dX3_targetAt_57 rfl ?_
          refine AW.iload_n (k0 := 0) (pc' := 59) X rfl rfl dX3_targetAt_58 rfl ?_
          refine AW.iconst (v := 1) (pc' := 60) X rfl dX3_targetAt_59 rfl ?_
          refine AW.isub (pc' := 61) X dX3_targetAt_60 rfl ?_
          refine AW.iload_n (k0 := 0) (pc' := 62) X rfl rfl dX3_targetAt_61 rfl ?_
          refine AW.iload_n (k0 := 2) (pc' := 63) X rfl rfl dX3_targetAt_62 rfl ?_
          obtain ⟨v7, c7, h⟩ := Option.bind_eq_some_iff.mp h
          refine AW.callV (As := [.int (v2 - 1), .int v2, .int x1]) (rest := []) (rv := (some (.int v7))) (M' := M) (pc' := 66) X (ok_X3_between h0 c7) yv_X3_between h0.1 h0.2.1 (cP h0 dA ad _) rfl rfl ml_X3_26 ⟨by decide, by decide, by decide, by decide⟩ rfl (Nat.le_of_ble_eq_true rfl) rfl rfl dX3_targetAt_63 rfl ?_
          replace h := Option.some.inj h
          subst h
          exact AW.iret X hr dX3_targetAt_66
        · replace h := itep q6 h
          refine AW.sub (ls' := [(0, .ref a0), (2, .int v2)]) [1, 0] rfl ?_
          exact ok_X3_targetAt_50 X hr h0 v2 R h
    · replace h := itep q3 h
      refine AW.aload_n (k0 := 1) (pc' := 25) X rfl rfl dX3_targetAt_24 rfl ?_
      refine AW.gX3 (v := .ref (a0 + 2)) (pc' := 28) X h0 1 (by decide) rfl mf_X3_15 rfl dX3_targetAt_25 rfl ?_
      refine AW.aload_n (k0 := 1) (pc' := 29) X rfl rfl dX3_targetAt_28 rfl ?_
      refine AW.gX3 (v := .int (M a0 2)) (pc' := 32) X h0 2 (by decide) rfl mf_X3_22 rfl dX3_targetAt_29 rfl ?_
      refine AW.iconst (v := 1) (pc' := 33) X rfl dX3_targetAt_32 rfl ?_
      refine AW.isub (pc' := 34) X dX3_targetAt_33 rfl ?_
      obtain ⟨g8, h⟩ := gd_some h
      refine AW.iald (pc' := 35) X (rP2 h0) (inb_vp g8) dX3_targetAt_34 rfl ?_
      replace h := Option.some.inj h
      subst h
      exact AW.iret X hr dX3_targetAt_35
  · replace h := itep q1 h
    refine AW.bipush (v := (-6)) (pc' := 9) X rfl dX3_targetAt_7 rfl ?_
    replace h := Option.some.inj h
    subst h
    exact AW.iret X hr dX3_targetAt_9
set_option maxHeartbeats 4000000 in
set_option maxRecDepth 100000 in
theorem ok_X4_hasLine {lo n : Nat} {a0 : Nat} {x1 : Int32} {M : MM} {R : Bool} (h0 : tSt lo n a0) (h : f_X4_hasLine a0 x1 M = some R) : MC yX4_hasLine cX4_hasLine 2 (some .boolean) 1 22 lo n [.ref a0, .int x1] M (some (.int (bz R))) M := by
  refine MC.of (ls0 := [(0, .ref a0), (1, .int x1)]) (by decide) rfl (fun _ => Nat.le_of_ble_eq_true rfl) (fun p l e s m args below meth c D dA ad A X hr => ?_)
  replace X : CX p s m args meth c cX4_hasLine 2 RX4 D dA ad lo n A := X
  unfold f_X4_hasLine at h
  refine AW.iload_n (k0 := 1) (pc' := 1) X rfl rfl dX4_hasLine_0 rfl ?_
  refine AW.iconst (v := 0) (pc' := 2) X rfl dX4_hasLine_1 rfl ?_
  refine AW.aload_n (k0 := 0) (pc' := 3) X rfl rfl dX4_hasLine_2 rfl ?_
  refine AW.gX4 (v := .ref (a0 + 1)) (pc' := 6) X h0 0 (by decide) rfl mf_X4_12 rfl dX4_hasLine_3 rfl ?_
  refine AW.gX2 (v := .int (M (a0 + 1) 1)) (pc' := 9) X (rS1 h0) 1 (by decide) rfl mf_X4_65 rfl dX4_hasLine_6 rfl ?_
  refine AW.iconst (v := 1) (pc' := 10) X rfl dX4_hasLine_9 rfl ?_
  refine AW.isub (pc' := 11) X dX4_hasLine_10 rfl ?_
  obtain ⟨v1, c1, h⟩ := Option.bind_eq_some_iff.mp h
  refine AW.callN (As := [.int x1, .int 0, .int ((M (a0 + 1) 1) - 1)]) (rest := []) (rv := (some (.int (bz v1)))) (M' := M) (pc' := 14) X (ok_X6_isWithin c1) yv_X6_isWithin mn_X4_68 ⟨by decide, by decide, by decide, by decide⟩ rfl (Nat.le_of_ble_eq_true rfl) rfl rfl dX4_hasLine_11 rfl ?_
  replace h := Option.some.inj h
  subst h
  exact AW.zret (b := v1) X hr dX4_hasLine_14
set_option maxHeartbeats 4000000 in
set_option maxRecDepth 100000 in
theorem ok_X4_hasChannel {lo n : Nat} {a0 : Nat} {x1 : Int32} {M : MM} {R : Bool} (h0 : tSt lo n a0) (h : f_X4_hasChannel a0 x1 M = some R) : MC yX4_hasChannel cX4_hasChannel 2 (some .boolean) 1 22 lo n [.ref a0, .int x1] M (some (.int (bz R))) M := by
  refine MC.of (ls0 := [(0, .ref a0), (1, .int x1)]) (by decide) rfl (fun _ => Nat.le_of_ble_eq_true rfl) (fun p l e s m args below meth c D dA ad A X hr => ?_)
  replace X : CX p s m args meth c cX4_hasChannel 2 RX4 D dA ad lo n A := X
  unfold f_X4_hasChannel at h
  refine AW.iload_n (k0 := 1) (pc' := 1) X rfl rfl dX4_hasChannel_0 rfl ?_
  refine AW.iconst (v := 0) (pc' := 2) X rfl dX4_hasChannel_1 rfl ?_
  refine AW.aload_n (k0 := 0) (pc' := 3) X rfl rfl dX4_hasChannel_2 rfl ?_
  refine AW.gX4 (v := .int (M a0 3)) (pc' := 6) X h0 3 (by decide) rfl mf_X4_72 rfl dX4_hasChannel_3 rfl ?_
  refine AW.iconst (v := 1) (pc' := 7) X rfl dX4_hasChannel_6 rfl ?_
  refine AW.isub (pc' := 8) X dX4_hasChannel_7 rfl ?_
  obtain ⟨v1, c1, h⟩ := Option.bind_eq_some_iff.mp h
  refine AW.callN (As := [.int x1, .int 0, .int ((M a0 3) - 1)]) (rest := []) (rv := (some (.int (bz v1)))) (M' := M) (pc' := 11) X (ok_X6_isWithin c1) yv_X6_isWithin mn_X4_68 ⟨by decide, by decide, by decide, by decide⟩ rfl (Nat.le_of_ble_eq_true rfl) rfl rfl dX4_hasChannel_8 rfl ?_
  replace h := Option.some.inj h
  subst h
  exact AW.zret (b := v1) X hr dX4_hasChannel_11
set_option maxHeartbeats 4000000 in
set_option maxRecDepth 100000 in
theorem ok_X4_measures_21 {a0 : Nat} {M : MM} (X : CX p s m args meth c cX4_measures 1 RX4 D dA ad lo n A) (hr : meth.sig.returnType = (some .boolean)) (h0 : tSt lo n a0) : ∀ (sb0 : Bool) (R : Bool), f_X4_measures_21 a0 M sb0 = some R → AR p l e 0 0 s m args below meth c D dA ad lo n 1 A (some (.int (bz R))) M 21 [] [.int (bz sb0)] M := by
  intro sb0 R h
  unfold f_X4_measures_21 at h
  replace h := Option.some.inj h
  subst h
  exact AW.zret (b := sb0) X hr dX4_measures_21
set_option maxHeartbeats 4000000 in
set_option maxRecDepth 100000 in
theorem ok_X4_measures_16 {a0 : Nat} {M : MM} (X : CX p s m args meth c cX4_measures 1 RX4 D dA ad lo n A) (hr : meth.sig.returnType = (some .boolean)) (h0 : tSt lo n a0) : ∀  (R : Bool), f_X4_measures_16 a0 M  = some R → AR p l e 0 0 s m args below meth c D dA ad lo n 1 A (some (.int (bz R))) M 16 [] [] M := by
  intro  R h
  unfold f_X4_measures_16 at h
  refine AW.iconst (v := 1) (pc' := 17) X rfl dX4_measures_16 rfl ?_
  refine AW.goto (pc' := 21) X dX4_measures_17 rfl ?_
  exact ok_X4_measures_21 X hr h0 true R h
set_option maxHeartbeats 4000000 in
set_option maxRecDepth 100000 in
theorem ok_X4_measures {lo n : Nat} {a0 : Nat} {M : MM} {R : Bool} (h0 : tSt lo n a0) (h : f_X4_measures a0 M = some R) : MC yX4_measures cX4_measures 1 (some .boolean) 0 0 lo n [.ref a0] M (some (.int (bz R))) M := by
  refine MC.of (ls0 := [(0, .ref a0)]) (by decide) rfl (fun _ => Nat.le_of_ble_eq_true rfl) (fun p l e s m args below meth c D dA ad A X hr => ?_)
  replace X : CX p s m args meth c cX4_measures 1 RX4 D dA ad lo n A := X
  unfold f_X4_measures at h
  refine AW.aload_n (k0 := 0) (pc' := 1) X rfl rfl dX4_measures_0 rfl ?_
  refine AW.gX4 (v := .int (M a0 8)) (pc' := 4) X h0 8 (by decide) rfl mf_X4_44 rfl dX4_measures_1 rfl ?_
  refine AW.iconst (v := 1) (pc' := 5) X rfl dX4_measures_4 rfl ?_
  refine AW.icmp_eq (pc' := 8) (tgt := 16) X dX4_measures_5 rfl rfl (fun q1 => ?_) (fun q1 => ?_)
  · replace h := itep q1 h
    refine AW.sub (ls' := []) [] rfl ?_
    exact ok_X4_measures_16 X hr h0 R h
  · replace h := iten q1 h
    refine AW.aload_n (k0 := 0) (pc' := 9) X rfl rfl dX4_measures_8 rfl ?_
    refine AW.gX4 (v := .int (M a0 8)) (pc' := 12) X h0 8 (by decide) rfl mf_X4_44 rfl dX4_measures_9 rfl ?_
    refine AW.iconst (v := 2) (pc' := 13) X rfl dX4_measures_12 rfl ?_
    refine AW.icmp_ne (pc' := 16) (tgt := 20) X dX4_measures_13 rfl rfl (fun q2 => ?_) (fun q2 => ?_)
    · replace h := iten q2 h
      refine AW.iconst (v := 0) (pc' := 21) X rfl dX4_measures_20 rfl ?_
      refine AW.sub (ls' := []) [] rfl ?_
      exact ok_X4_measures_21 X hr h0 false R h
    · replace h := itep q2 h
      refine AW.sub (ls' := []) [] rfl ?_
      exact ok_X4_measures_16 X hr h0 R h
set_option maxHeartbeats 4000000 in
set_option maxRecDepth 100000 in
theorem ok_X4_rests_20 {a0 : Nat} {M : MM} (X : CX p s m args meth c cX4_rests 1 RX4 D dA ad lo n A) (hr : meth.sig.returnType = (some .boolean)) (h0 : tSt lo n a0) : ∀ (sb0 : Bool) (R : Bool), f_X4_rests_20 a0 M sb0 = some R → AR p l e 1 20 s m args below meth c D dA ad lo n 1 A (some (.int (bz R))) M 20 [] [.int (bz sb0)] M := by
  intro sb0 R h
  unfold f_X4_rests_20 at h
  replace h := Option.some.inj h
  subst h
  exact AW.zret (b := sb0) X hr dX4_rests_20
set_option maxHeartbeats 4000000 in
set_option maxRecDepth 100000 in
theorem ok_X4_rests_19 {a0 : Nat} {M : MM} (X : CX p s m args meth c cX4_rests 1 RX4 D dA ad lo n A) (hr : meth.sig.returnType = (some .boolean)) (h0 : tSt lo n a0) : ∀  (R : Bool), f_X4_rests_19 a0 M  = some R → AR p l e 1 20 s m args below meth c D dA ad lo n 1 A (some (.int (bz R))) M 19 [] [] M := by
  intro  R h
  unfold f_X4_rests_19 at h
  refine AW.iconst (v := 0) (pc' := 20) X rfl dX4_rests_19 rfl ?_
  exact ok_X4_rests_20 X hr h0 false R h
set_option maxHeartbeats 4000000 in
set_option maxRecDepth 100000 in
theorem ok_X4_rests {lo n : Nat} {a0 : Nat} {M : MM} {R : Bool} (h0 : tSt lo n a0) (h : f_X4_rests a0 M = some R) : MC yX4_rests cX4_rests 1 (some .boolean) 1 20 lo n [.ref a0] M (some (.int (bz R))) M := by
  refine MC.of (ls0 := [(0, .ref a0)]) (by decide) rfl (fun _ => Nat.le_of_ble_eq_true rfl) (fun p l e s m args below meth c D dA ad A X hr => ?_)
  replace X : CX p s m args meth c cX4_rests 1 RX4 D dA ad lo n A := X
  unfold f_X4_rests at h
  refine AW.aload_n (k0 := 0) (pc' := 1) X rfl rfl dX4_rests_0 rfl ?_
  obtain ⟨v1, c1, h⟩ := Option.bind_eq_some_iff.mp h
  refine AW.callV (As := []) (rest := []) (rv := (some (.int (bz v1)))) (M' := M) (pc' := 4) X (ok_X4_measures h0 c1) yv_X4_measures h0.1 h0.2.1 (cS h0 dA ad _) rfl rfl ml_X4_75 ⟨by decide, by decide, by decide, by decide⟩ rfl (Nat.le_of_ble_eq_true rfl) rfl rfl dX4_rests_1 rfl ?_
  refine AW.if_ne (pc' := 7) (tgt := 19) X dX4_rests_4 rfl rfl (fun q2 => ?_) (fun q2 => ?_)
  · replace h := iten q2 h
    refine AW.sub (ls' := []) [] rfl ?_
    exact ok_X4_rests_19 X hr h0 R h
  · replace h := itep q2 h
    refine AW.aload_n (k0 := 0) (pc' := 8) X rfl rfl dX4_rests_7 rfl ?_
    refine AW.gX4 (v := .int (M a0 8)) (pc' := 11) X h0 8 (by decide) rfl mf_X4_44 rfl dX4_rests_8 rfl ?_
    refine AW.iconst (v := 3) (pc' := 12) X rfl dX4_rests_11 rfl ?_
    refine AW.icmp_eq (pc' := 15) (tgt := 19) X dX4_rests_12 rfl rfl (fun q3 => ?_) (fun q3 => ?_)
    · replace h := itep q3 h
      refine AW.sub (ls' := []) [] rfl ?_
      exact ok_X4_rests_19 X hr h0 R h
    · replace h := iten q3 h
      refine AW.iconst (v := 1) (pc' := 16) X rfl dX4_rests_15 rfl ?_
      refine AW.goto (pc' := 20) X dX4_rests_16 rfl ?_
      refine AW.sub (ls' := []) [] rfl ?_
      exact ok_X4_rests_20 X hr h0 true R h
set_option maxHeartbeats 4000000 in
set_option maxRecDepth 100000 in
theorem ok_X4_forgetRun_2 {a0 : Nat} (X : CX p s m args meth c cX4_forgetRun 2 RX4 D dA ad lo n A) (hr : meth.sig.returnType = none) (h0 : tSt lo n a0) : ∀ (k : Nat) (x1 : Int32) (M : MM) (R : MM), f_X4_forgetRun_2 a0 k x1 M = some R → AR p l e 2 43 s m args below meth c D dA ad lo n 2 A none R 2 [(0, .ref a0), (1, .int x1)] [] M := by
  intro k
  induction k with
  | zero => intro _ _ R h; exact none_some h
  | succ k ih =>
    intro x1 M R h
    unfold f_X4_forgetRun_2 at h
    refine AW.iload_n (k0 := 1) (pc' := 3) X rfl rfl dX4_forgetRun_2 rfl ?_
    refine AW.aload_n (k0 := 0) (pc' := 4) X rfl rfl dX4_forgetRun_3 rfl ?_
    refine AW.gX4 (v := .int (M a0 3)) (pc' := 7) X h0 3 (by decide) rfl mf_X4_72 rfl dX4_forgetRun_4 rfl ?_
    refine AW.icmp_ge (pc' := 10) (tgt := 25) X dX4_forgetRun_7 rfl rfl (fun q1 => ?_) (fun q1 => ?_)
    · replace h := itep q1 h
      refine AW.aload_n (k0 := 0) (pc' := 26) X rfl rfl dX4_forgetRun_25 rfl ?_
      refine AW.gX4 (v := .ref (a0 + 9)) (pc' := 29) X h0 6 (by decide) rfl mf_X4_38 rfl dX4_forgetRun_26 rfl ?_
      refine AW.bipush (v := (-6)) (pc' := 31) X rfl dX4_forgetRun_29 rfl ?_
      obtain ⟨v2, c2, h⟩ := Option.bind_eq_some_iff.mp h
      refine AW.callS (As := [.ref (a0 + 9), .int (-6)]) (rest := []) (rv := none) (M' := v2) (pc' := 34) X (ok_J7_fill_53178 (rS9 h0) c2) yv_J7_fill_53178 ml_X4_80 ⟨by decide, by decide, by decide, by decide⟩ rfl (Nat.le_of_ble_eq_true rfl) rfl rfl dX4_forgetRun_31 rfl ?_
      refine AW.aload_n (k0 := 0) (pc' := 35) X rfl rfl dX4_forgetRun_34 rfl ?_
      refine AW.gX4 (v := .ref (a0 + 10)) (pc' := 38) X h0 7 (by decide) rfl mf_X4_41 rfl dX4_forgetRun_35 rfl ?_
      refine AW.bipush (v := (-6)) (pc' := 40) X rfl dX4_forgetRun_38 rfl ?_
      obtain ⟨v3, c3, h⟩ := Option.bind_eq_some_iff.mp h
      refine AW.callS (As := [.ref (a0 + 10), .int (-6)]) (rest := []) (rv := none) (M' := v3) (pc' := 43) X (ok_J7_fill_53178 (rS10 h0) c3) yv_J7_fill_53178 ml_X4_80 ⟨by decide, by decide, by decide, by decide⟩ rfl (Nat.le_of_ble_eq_true rfl) rfl rfl dX4_forgetRun_40 rfl ?_
      refine AW.aload_n (k0 := 0) (pc' := 44) X rfl rfl dX4_forgetRun_43 rfl ?_
      refine AW.iconst (v := 1) (pc' := 45) X rfl dX4_forgetRun_44 rfl ?_
      refine AW.zX4 (b := true) (pc' := 48) X h0 11 (by decide) rfl mf_X4_86 rfl rfl (by simp [fsS, upd, nz_bz]) (Nat.le_of_ble_eq_true rfl) dX4_forgetRun_45 rfl ?_
      refine AW.aload_n (k0 := 0) (pc' := 49) X rfl rfl dX4_forgetRun_48 rfl ?_
      refine AW.iconst (v := 0) (pc' := 50) X rfl dX4_forgetRun_49 rfl ?_
      refine AW.pX4 (pc' := 53) X h0 12 (by decide) rfl mf_X4_90 rfl rfl (by simp [fsS, upd]) (Nat.le_of_ble_eq_true rfl) dX4_forgetRun_50 rfl ?_
      refine AW.aload_n (k0 := 0) (pc' := 54) X rfl rfl dX4_forgetRun_53 rfl ?_
      refine AW.iconst (v := 0) (pc' := 55) X rfl dX4_forgetRun_54 rfl ?_
      refine AW.pX4 (pc' := 58) X h0 13 (by decide) rfl mf_X4_93 rfl rfl (by simp [fsS, upd]) (Nat.le_of_ble_eq_true rfl) dX4_forgetRun_55 rfl ?_
      refine AW.aload_n (k0 := 0) (pc' := 59) X rfl rfl dX4_forgetRun_58 rfl ?_
      refine AW.bipush (v := (-6)) (pc' := 61) X rfl dX4_forgetRun_59 rfl ?_
      refine AW.pX4 (pc' := 64) X h0 14 (by decide) rfl mf_X4_96 rfl rfl (by simp [fsS, upd]) (Nat.le_of_ble_eq_true rfl) dX4_forgetRun_61 rfl ?_
      refine AW.aload_n (k0 := 0) (pc' := 65) X rfl rfl dX4_forgetRun_64 rfl ?_
      refine AW.bipush (v := (-6)) (pc' := 67) X rfl dX4_forgetRun_65 rfl ?_
      refine AW.pX4 (pc' := 70) X h0 15 (by decide) rfl mf_X4_99 rfl rfl (by simp [fsS, upd]) (Nat.le_of_ble_eq_true rfl) dX4_forgetRun_67 rfl ?_
      replace h := Option.some.inj h
      subst h
      exact AW.vret X hr dX4_forgetRun_70
    · replace h := iten q1 h
      refine AW.aload_n (k0 := 0) (pc' := 11) X rfl rfl dX4_forgetRun_10 rfl ?_
      refine AW.gX4 (v := .ref (a0 + 6)) (pc' := 14) X h0 2 (by decide) rfl mf_X4_27 rfl dX4_forgetRun_11 rfl ?_
      refine AW.iload_n (k0 := 1) (pc' := 15) X rfl rfl dX4_forgetRun_14 rfl ?_
      obtain ⟨g4, h⟩ := gd_some h
      refine AW.aldC (pc' := 16) X (rS6 h0) (inb_vp g4) dX4_forgetRun_15 rfl ?_
      obtain ⟨v5, c5, h⟩ := Option.bind_eq_some_iff.mp h
      refine AW.callV (As := []) (rest := []) (rv := none) (M' := v5) (pc' := 19) X (ok_X0_forgetRun (rCA (rS6 h0) (inb_lt g4)) c5) yv_X0_forgetRun (rCA (rS6 h0) (inb_lt g4)).1 (rCA (rS6 h0) (inb_lt g4)).2.1 (cC (rCA (rS6 h0) (inb_lt g4)) dA ad _) rfl rfl ml_X4_79 ⟨by decide, by decide, by decide, by decide⟩ rfl (Nat.le_of_ble_eq_true rfl) rfl rfl dX4_forgetRun_16 rfl ?_
      refine AW.iinc (k0 := 1) (v := (x1 + 1)) (y := 1) (ls' := [(1, .int (x1 + 1)), (0, .ref a0)]) (pc' := 22) X rfl rfl rfl (by decide) rfl dX4_forgetRun_19 rfl ?_
      refine AW.goto (pc' := 2) X dX4_forgetRun_22 rfl ?_
      refine AW.sub (ls' := [(0, .ref a0), (1, .int (x1 + 1))]) [1, 0] rfl ?_
      exact ih (x1 + 1) v5 R h
set_option maxHeartbeats 4000000 in
set_option maxRecDepth 100000 in
theorem ok_X4_forgetRun {lo n : Nat} {a0 : Nat} {M : MM} {R : MM} (h0 : tSt lo n a0) (h : f_X4_forgetRun a0 M = some R) : MC yX4_forgetRun cX4_forgetRun 2 none 2 43 lo n [.ref a0] M none R := by
  refine MC.of (ls0 := [(0, .ref a0)]) (by decide) rfl (fun _ => Nat.le_of_ble_eq_true rfl) (fun p l e s m args below meth c D dA ad A X hr => ?_)
  replace X : CX p s m args meth c cX4_forgetRun 2 RX4 D dA ad lo n A := X
  unfold f_X4_forgetRun at h
  refine AW.iconst (v := 0) (pc' := 1) X rfl dX4_forgetRun_0 rfl ?_
  refine AW.istore_n (ls' := [(1, .int 0), (0, .ref a0)]) (pc' := 2) X rfl (by decide) rfl dX4_forgetRun_1 rfl ?_
  refine AW.sub (ls' := [(0, .ref a0), (1, .int 0)]) [1, 0] rfl ?_
  exact ok_X4_forgetRun_2 X hr h0 FU 0 M R h
set_option maxHeartbeats 4000000 in
set_option maxRecDepth 100000 in
theorem ok_X4_forgetGains_2 {a0 : Nat} (X : CX p s m args meth c cX4_forgetGains 2 RX4 D dA ad lo n A) (hr : meth.sig.returnType = none) (h0 : tSt lo n a0) : ∀ (k : Nat) (x1 : Int32) (M : MM) (R : MM), f_X4_forgetGains_2 a0 k x1 M = some R → AR p l e 2 43 s m args below meth c D dA ad lo n 2 A none R 2 [(0, .ref a0), (1, .int x1)] [] M := by
  intro k
  induction k with
  | zero => intro _ _ R h; exact none_some h
  | succ k ih =>
    intro x1 M R h
    unfold f_X4_forgetGains_2 at h
    refine AW.iload_n (k0 := 1) (pc' := 3) X rfl rfl dX4_forgetGains_2 rfl ?_
    refine AW.aload_n (k0 := 0) (pc' := 4) X rfl rfl dX4_forgetGains_3 rfl ?_
    refine AW.gX4 (v := .int (M a0 3)) (pc' := 7) X h0 3 (by decide) rfl mf_X4_72 rfl dX4_forgetGains_4 rfl ?_
    refine AW.icmp_ge (pc' := 10) (tgt := 25) X dX4_forgetGains_7 rfl rfl (fun q1 => ?_) (fun q1 => ?_)
    · replace h := itep q1 h
      refine AW.aload_n (k0 := 0) (pc' := 26) X rfl rfl dX4_forgetGains_25 rfl ?_
      refine AW.gX4 (v := .ref (a0 + 8)) (pc' := 29) X h0 5 (by decide) rfl mf_X4_35 rfl dX4_forgetGains_26 rfl ?_
      refine AW.bipush (v := (-6)) (pc' := 31) X rfl dX4_forgetGains_29 rfl ?_
      obtain ⟨v2, c2, h⟩ := Option.bind_eq_some_iff.mp h
      refine AW.callS (As := [.ref (a0 + 8), .int (-6)]) (rest := []) (rv := none) (M' := v2) (pc' := 34) X (ok_J7_fill_53178 (rS8 h0) c2) yv_J7_fill_53178 ml_X4_80 ⟨by decide, by decide, by decide, by decide⟩ rfl (Nat.le_of_ble_eq_true rfl) rfl rfl dX4_forgetGains_31 rfl ?_
      replace h := Option.some.inj h
      subst h
      exact AW.vret X hr dX4_forgetGains_34
    · replace h := iten q1 h
      refine AW.aload_n (k0 := 0) (pc' := 11) X rfl rfl dX4_forgetGains_10 rfl ?_
      refine AW.gX4 (v := .ref (a0 + 6)) (pc' := 14) X h0 2 (by decide) rfl mf_X4_27 rfl dX4_forgetGains_11 rfl ?_
      refine AW.iload_n (k0 := 1) (pc' := 15) X rfl rfl dX4_forgetGains_14 rfl ?_
      obtain ⟨g3, h⟩ := gd_some h
      refine AW.aldC (pc' := 16) X (rS6 h0) (inb_vp g3) dX4_forgetGains_15 rfl ?_
      obtain ⟨v4, c4, h⟩ := Option.bind_eq_some_iff.mp h
      refine AW.callV (As := []) (rest := []) (rv := none) (M' := v4) (pc' := 19) X (ok_X0_forgetGains (rCA (rS6 h0) (inb_lt g3)) c4) yv_X0_forgetGains (rCA (rS6 h0) (inb_lt g3)).1 (rCA (rS6 h0) (inb_lt g3)).2.1 (cC (rCA (rS6 h0) (inb_lt g3)) dA ad _) rfl rfl ml_X4_102 ⟨by decide, by decide, by decide, by decide⟩ rfl (Nat.le_of_ble_eq_true rfl) rfl rfl dX4_forgetGains_16 rfl ?_
      refine AW.iinc (k0 := 1) (v := (x1 + 1)) (y := 1) (ls' := [(1, .int (x1 + 1)), (0, .ref a0)]) (pc' := 22) X rfl rfl rfl (by decide) rfl dX4_forgetGains_19 rfl ?_
      refine AW.goto (pc' := 2) X dX4_forgetGains_22 rfl ?_
      refine AW.sub (ls' := [(0, .ref a0), (1, .int (x1 + 1))]) [1, 0] rfl ?_
      exact ih (x1 + 1) v4 R h
set_option maxHeartbeats 4000000 in
set_option maxRecDepth 100000 in
theorem ok_X4_forgetGains {lo n : Nat} {a0 : Nat} {M : MM} {R : MM} (h0 : tSt lo n a0) (h : f_X4_forgetGains a0 M = some R) : MC yX4_forgetGains cX4_forgetGains 2 none 2 43 lo n [.ref a0] M none R := by
  refine MC.of (ls0 := [(0, .ref a0)]) (by decide) rfl (fun _ => Nat.le_of_ble_eq_true rfl) (fun p l e s m args below meth c D dA ad A X hr => ?_)
  replace X : CX p s m args meth c cX4_forgetGains 2 RX4 D dA ad lo n A := X
  unfold f_X4_forgetGains at h
  refine AW.iconst (v := 0) (pc' := 1) X rfl dX4_forgetGains_0 rfl ?_
  refine AW.istore_n (ls' := [(1, .int 0), (0, .ref a0)]) (pc' := 2) X rfl (by decide) rfl dX4_forgetGains_1 rfl ?_
  refine AW.sub (ls' := [(0, .ref a0), (1, .int 0)]) [1, 0] rfl ?_
  exact ok_X4_forgetGains_2 X hr h0 FU 0 M R h
set_option maxHeartbeats 4000000 in
set_option maxRecDepth 100000 in
theorem ok_X4_layLines_34 {a0 : Nat} (X : CX p s m args meth c cX4_layLines 5 RX4 D dA ad lo n A) (hr : meth.sig.returnType = (some .int)) (h0 : tSt lo n a0) : ∀ (M : MM) (R : (Int32 × MM)), f_X4_layLines_34 a0 M = some R → AR p l e 3 67 s m args below meth c D dA ad lo n 5 A (some (.int R.1)) R.2 34 [] [] M := by
  intro M R h
  unfold f_X4_layLines_34 at h
  refine AW.bipush (v := (-2)) (pc' := 36) X rfl dX4_layLines_34 rfl ?_
  replace h := Option.some.inj h
  subst h
  exact AW.iret X hr dX4_layLines_36
set_option maxHeartbeats 4000000 in
set_option maxRecDepth 100000 in
theorem ok_X4_layLines {lo n : Nat} {a0 : Nat} {x1 : Int32} {x2 : Int32} {x3 : Int32} {M : MM} {R : (Int32 × MM)} (h0 : tSt lo n a0) (h : f_X4_layLines a0 x1 x2 x3 M = some R) : MC yX4_layLines cX4_layLines 5 (some .int) 3 67 lo n [.ref a0, .int x1, .int x2, .int x3] M (some (.int R.1)) R.2 := by
  refine MC.of (ls0 := [(0, .ref a0), (1, .int x1), (2, .int x2), (3, .int x3)]) (by decide) rfl (fun _ => Nat.le_of_ble_eq_true rfl) (fun p l e s m args below meth c D dA ad A X hr => ?_)
  replace X : CX p s m args meth c cX4_layLines 5 RX4 D dA ad lo n A := X
  unfold f_X4_layLines at h
  refine AW.iload_n (k0 := 1) (pc' := 1) X rfl rfl dX4_layLines_0 rfl ?_
  refine AW.iconst (v := 5) (pc' := 2) X rfl dX4_layLines_1 rfl ?_
  refine AW.sipush (v := 1000) (pc' := 5) X rfl dX4_layLines_2 rfl ?_
  obtain ⟨v1, c1, h⟩ := Option.bind_eq_some_iff.mp h
  refine AW.callN (As := [.int x1, .int 5, .int 1000]) (rest := []) (rv := (some (.int (bz v1)))) (M' := M) (pc' := 8) X (ok_X6_isWithin c1) yv_X6_isWithin mn_X4_68 ⟨by decide, by decide, by decide, by decide⟩ rfl (Nat.le_of_ble_eq_true rfl) rfl rfl dX4_layLines_5 rfl ?_
  refine AW.if_eq (pc' := 11) (tgt := 34) X dX4_layLines_8 rfl rfl (fun q2 => ?_) (fun q2 => ?_)
  · replace h := itep q2 h
    refine AW.sub (ls' := []) [] rfl ?_
    exact ok_X4_layLines_34 X hr h0 M R h
  · replace h := iten q2 h
    refine AW.iload_n (k0 := 2) (pc' := 12) X rfl rfl dX4_layLines_11 rfl ?_
    refine AW.iload_n (k0 := 1) (pc' := 13) X rfl rfl dX4_layLines_12 rfl ?_
    refine AW.sipush (v := 2000) (pc' := 16) X rfl dX4_layLines_13 rfl ?_
    obtain ⟨v3, c3, h⟩ := Option.bind_eq_some_iff.mp h
    refine AW.callN (As := [.int x2, .int x1, .int 2000]) (rest := []) (rv := (some (.int (bz v3)))) (M' := M) (pc' := 19) X (ok_X6_isWithin c3) yv_X6_isWithin mn_X4_68 ⟨by decide, by decide, by decide, by decide⟩ rfl (Nat.le_of_ble_eq_true rfl) rfl rfl dX4_layLines_16 rfl ?_
    refine AW.if_eq (pc' := 22) (tgt := 34) X dX4_layLines_19 rfl rfl (fun q4 => ?_) (fun q4 => ?_)
    · replace h := itep q4 h
      refine AW.sub (ls' := []) [] rfl ?_
      exact ok_X4_layLines_34 X hr h0 M R h
    · replace h := iten q4 h
      refine AW.iload_n (k0 := 3) (pc' := 23) X rfl rfl dX4_layLines_22 rfl ?_
      refine AW.bipush (v := 10) (pc' := 25) X rfl dX4_layLines_23 rfl ?_
      refine AW.sipush (v := 1000) (pc' := 28) X rfl dX4_layLines_25 rfl ?_
      obtain ⟨v5, c5, h⟩ := Option.bind_eq_some_iff.mp h
      refine AW.callN (As := [.int x3, .int 10, .int 1000]) (rest := []) (rv := (some (.int (bz v5)))) (M' := M) (pc' := 31) X (ok_X6_isWithin c5) yv_X6_isWithin mn_X4_68 ⟨by decide, by decide, by decide, by decide⟩ rfl (Nat.le_of_ble_eq_true rfl) rfl rfl dX4_layLines_28 rfl ?_
      refine AW.if_ne (pc' := 34) (tgt := 37) X dX4_layLines_31 rfl rfl (fun q6 => ?_) (fun q6 => ?_)
      · replace h := iten q6 h
        refine AW.aload_n (k0 := 0) (pc' := 38) X rfl rfl dX4_layLines_37 rfl ?_
        obtain ⟨v7, c7, h⟩ := Option.bind_eq_some_iff.mp h
        refine AW.callV (As := []) (rest := []) (rv := (some (.int (bz v7)))) (M' := M) (pc' := 41) X (ok_X4_rests h0 c7) yv_X4_rests h0.1 h0.2.1 (cS h0 dA ad _) rfl rfl ml_X4_103 ⟨by decide, by decide, by decide, by decide⟩ rfl (Nat.le_of_ble_eq_true rfl) rfl rfl dX4_layLines_38 rfl ?_
        refine AW.if_ne (pc' := 44) (tgt := 47) X dX4_layLines_41 rfl rfl (fun q8 => ?_) (fun q8 => ?_)
        · replace h := iten q8 h
          refine AW.iload_n (k0 := 1) (pc' := 48) X rfl rfl dX4_layLines_47 rfl ?_
          refine AW.iload_n (k0 := 2) (pc' := 49) X rfl rfl dX4_layLines_48 rfl ?_
          refine AW.iload_n (k0 := 3) (pc' := 50) X rfl rfl dX4_layLines_49 rfl ?_
          obtain ⟨v9, c9, h⟩ := Option.bind_eq_some_iff.mp h
          refine AW.callS (As := [.int x1, .int x2, .int x3]) (rest := []) (rv := (some (.int v9))) (M' := M) (pc' := 53) X (ok_X2_countOf c9) yv_X2_countOf ml_X4_106 ⟨by decide, by decide, by decide, by decide⟩ rfl (Nat.le_of_ble_eq_true rfl) rfl rfl dX4_layLines_50 rfl ?_
          refine AW.istore (ls' := [(4, .int v9), (0, .ref a0), (1, .int x1), (2, .int x2), (3, .int x3)]) (pc' := 55) X (by decide) rfl dX4_layLines_53 rfl ?_
          refine AW.iload (k0 := 0) (pc' := 57) X rfl dX4_layLines_55 rfl ?_
          refine AW.bipush (v := 100) (pc' := 59) X rfl dX4_layLines_57 rfl ?_
          refine AW.icmp_le (pc' := 62) (tgt := 65) X dX4_layLines_59 rfl rfl (fun q10 => ?_) (fun q10 => ?_)
          · replace h := itep q10 h
            refine AW.aload_n (k0 := 1) (pc' := 66) X rfl rfl dX4_layLines_65 rfl ?_
            refine AW.gX4 (v := .ref (a0 + 1)) (pc' := 69) X h0 0 (by decide) rfl mf_X4_12 rfl dX4_layLines_66 rfl ?_
            refine AW.iload_n (k0 := 2) (pc' := 70) X rfl rfl dX4_layLines_69 rfl ?_
            refine AW.iload_n (k0 := 4) (pc' := 71) X rfl rfl dX4_layLines_70 rfl ?_
            refine AW.iload (k0 := 0) (pc' := 73) X rfl dX4_layLines_71 rfl ?_
            obtain ⟨v11, c11, h⟩ := Option.bind_eq_some_iff.mp h
            refine AW.callV (As := [.int x1, .int x3, .int v9]) (rest := []) (rv := none) (M' := v11) (pc' := 76) X (ok_X2_lay (rS1 h0) c11) yv_X2_lay (rS1 h0).1 (rS1 h0).2.1 (cL (rS1 h0) dA ad _) rfl rfl ml_X4_110 ⟨by decide, by decide, by decide, by decide⟩ rfl (Nat.le_of_ble_eq_true rfl) rfl rfl dX4_layLines_73 rfl ?_
            refine AW.aload_n (k0 := 1) (pc' := 77) X rfl rfl dX4_layLines_76 rfl ?_
            obtain ⟨v12, c12, h⟩ := Option.bind_eq_some_iff.mp h
            refine AW.callV (As := []) (rest := []) (rv := none) (M' := v12) (pc' := 80) X (ok_X4_forgetRun h0 c12) yv_X4_forgetRun h0.1 h0.2.1 (cS h0 dA ad _) rfl rfl ml_X4_59 ⟨by decide, by decide, by decide, by decide⟩ rfl (Nat.le_of_ble_eq_true rfl) rfl rfl dX4_layLines_77 rfl ?_
            refine AW.aload_n (k0 := 1) (pc' := 81) X rfl rfl dX4_layLines_80 rfl ?_
            obtain ⟨v13, c13, h⟩ := Option.bind_eq_some_iff.mp h
            refine AW.callV (As := []) (rest := []) (rv := none) (M' := v13) (pc' := 84) X (ok_X4_forgetGains h0 c13) yv_X4_forgetGains h0.1 h0.2.1 (cS h0 dA ad _) rfl rfl ml_X4_62 ⟨by decide, by decide, by decide, by decide⟩ rfl (Nat.le_of_ble_eq_true rfl) rfl rfl dX4_layLines_81 rfl ?_
            refine AW.aload_n (k0 := 1) (pc' := 85) X rfl rfl dX4_layLines_84 rfl ?_
            refine AW.iconst (v := 0) (pc' := 86) X rfl dX4_layLines_85 rfl ?_
            refine AW.pX4 (pc' := 89) X h0 8 (by decide) rfl mf_X4_44 rfl rfl (by simp [fsS, upd]) (Nat.le_of_ble_eq_true rfl) dX4_layLines_86 rfl ?_
            refine AW.aload_n (k0 := 1) (pc' := 90) X rfl rfl dX4_layLines_89 rfl ?_
            refine AW.iconst (v := 0) (pc' := 91) X rfl dX4_layLines_90 rfl ?_
            refine AW.pX4 (pc' := 94) X h0 9 (by decide) rfl mf_X4_114 rfl rfl (by simp [fsS, upd]) (Nat.le_of_ble_eq_true rfl) dX4_layLines_91 rfl ?_
            refine AW.iload (k0 := 0) (pc' := 96) X rfl dX4_layLines_94 rfl ?_
            replace h := Option.some.inj h
            subst h
            exact AW.iret X hr dX4_layLines_96
          · replace h := iten q10 h
            refine AW.bipush (v := (-4)) (pc' := 64) X rfl dX4_layLines_62 rfl ?_
            replace h := Option.some.inj h
            subst h
            exact AW.iret X hr dX4_layLines_64
        · replace h := itep q8 h
          refine AW.bipush (v := (-3)) (pc' := 46) X rfl dX4_layLines_44 rfl ?_
          replace h := Option.some.inj h
          subst h
          exact AW.iret X hr dX4_layLines_46
      · replace h := itep q6 h
        refine AW.sub (ls' := []) [] rfl ?_
        exact ok_X4_layLines_34 X hr h0 M R h
set_option maxHeartbeats 4000000 in
set_option maxRecDepth 100000 in
theorem ok_X4_putPoint_17 {a0 : Nat} (X : CX p s m args meth c cX4_putPoint 3 RX4 D dA ad lo n A) (hr : meth.sig.returnType = (some .int)) (h0 : tSt lo n a0) : ∀ (M : MM) (R : (Int32 × MM)), f_X4_putPoint_17 a0 M = some R → AR p l e 2 46 s m args below meth c D dA ad lo n 3 A (some (.int R.1)) R.2 17 [] [] M := by
  intro M R h
  unfold f_X4_putPoint_17 at h
  refine AW.bipush (v := (-2)) (pc' := 19) X rfl dX4_putPoint_17 rfl ?_
  replace h := Option.some.inj h
  subst h
  exact AW.iret X hr dX4_putPoint_19
set_option maxHeartbeats 4000000 in
set_option maxRecDepth 100000 in
theorem ok_X4_putPoint {lo n : Nat} {a0 : Nat} {x1 : Int32} {x2 : Int32} {M : MM} {R : (Int32 × MM)} (h0 : tSt lo n a0) (h : f_X4_putPoint a0 x1 x2 M = some R) : MC yX4_putPoint cX4_putPoint 3 (some .int) 2 46 lo n [.ref a0, .int x1, .int x2] M (some (.int R.1)) R.2 := by
  refine MC.of (ls0 := [(0, .ref a0), (1, .int x1), (2, .int x2)]) (by decide) rfl (fun _ => Nat.le_of_ble_eq_true rfl) (fun p l e s m args below meth c D dA ad A X hr => ?_)
  replace X : CX p s m args meth c cX4_putPoint 3 RX4 D dA ad lo n A := X
  unfold f_X4_putPoint at h
  refine AW.iload_n (k0 := 1) (pc' := 1) X rfl rfl dX4_putPoint_0 rfl ?_
  obtain ⟨v1, c1, h⟩ := Option.bind_eq_some_iff.mp h
  refine AW.callN (As := [.int x1]) (rest := []) (rv := (some (.int (bz v1)))) (M' := M) (pc' := 4) X (ok_X6_isFrequency c1) yv_X6_isFrequency mn_X4_117 ⟨by decide, by decide, by decide, by decide⟩ rfl (Nat.le_of_ble_eq_true rfl) rfl rfl dX4_putPoint_1 rfl ?_
  refine AW.if_eq (pc' := 7) (tgt := 17) X dX4_putPoint_4 rfl rfl (fun q2 => ?_) (fun q2 => ?_)
  · replace h := itep q2 h
    refine AW.sub (ls' := []) [] rfl ?_
    exact ok_X4_putPoint_17 X hr h0 M R h
  · replace h := iten q2 h
    refine AW.iload_n (k0 := 2) (pc' := 8) X rfl rfl dX4_putPoint_7 rfl ?_
    refine AW.iconst (v := 1) (pc' := 9) X rfl dX4_putPoint_8 rfl ?_
    refine AW.ldc (pc' := 11) X mk_X4_121 dX4_putPoint_9 rfl ?_
    obtain ⟨v3, c3, h⟩ := Option.bind_eq_some_iff.mp h
    refine AW.callN (As := [.int x2, .int 1, .int 50000]) (rest := []) (rv := (some (.int (bz v3)))) (M' := M) (pc' := 14) X (ok_X6_isWithin c3) yv_X6_isWithin mn_X4_68 ⟨by decide, by decide, by decide, by decide⟩ rfl (Nat.le_of_ble_eq_true rfl) rfl rfl dX4_putPoint_11 rfl ?_
    refine AW.if_ne (pc' := 17) (tgt := 20) X dX4_putPoint_14 rfl rfl (fun q4 => ?_) (fun q4 => ?_)
    · replace h := iten q4 h
      refine AW.aload_n (k0 := 0) (pc' := 21) X rfl rfl dX4_putPoint_20 rfl ?_
      obtain ⟨v5, c5, h⟩ := Option.bind_eq_some_iff.mp h
      refine AW.callV (As := []) (rest := []) (rv := (some (.int (bz v5)))) (M' := M) (pc' := 24) X (ok_X4_rests h0 c5) yv_X4_rests h0.1 h0.2.1 (cS h0 dA ad _) rfl rfl ml_X4_103 ⟨by decide, by decide, by decide, by decide⟩ rfl (Nat.le_of_ble_eq_true rfl) rfl rfl dX4_putPoint_21 rfl ?_
      refine AW.if_ne (pc' := 27) (tgt := 30) X dX4_putPoint_24 rfl rfl (fun q6 => ?_) (fun q6 => ?_)
      · replace h := iten q6 h
        refine AW.aload_n (k0 := 0) (pc' := 31) X rfl rfl dX4_putPoint_30 rfl ?_
        refine AW.gX4 (v := .ref (a0 + 3)) (pc' := 34) X h0 1 (by decide) rfl mf_X4_21 rfl dX4_putPoint_31 rfl ?_
        refine AW.iload_n (k0 := 1) (pc' := 35) X rfl rfl dX4_putPoint_34 rfl ?_
        refine AW.iload_n (k0 := 2) (pc' := 36) X rfl rfl dX4_putPoint_35 rfl ?_
        obtain ⟨v7, c7, h⟩ := Option.bind_eq_some_iff.mp h
        refine AW.callV (As := [.int x1, .int x2]) (rest := []) (rv := (some (.int v7.1))) (M' := v7.2) (pc' := 39) X (ok_X3_put (rS3 h0) c7) yv_X3_put (rS3 h0).1 (rS3 h0).2.1 (cP (rS3 h0) dA ad _) rfl rfl ml_X4_122 ⟨by decide, by decide, by decide, by decide⟩ rfl (Nat.le_of_ble_eq_true rfl) rfl rfl dX4_putPoint_36 rfl ?_
        replace h := Option.some.inj h
        subst h
        exact AW.iret X hr dX4_putPoint_39
      · replace h := itep q6 h
        refine AW.bipush (v := (-3)) (pc' := 29) X rfl dX4_putPoint_27 rfl ?_
        replace h := Option.some.inj h
        subst h
        exact AW.iret X hr dX4_putPoint_29
    · replace h := itep q4 h
      refine AW.sub (ls' := []) [] rfl ?_
      exact ok_X4_putPoint_17 X hr h0 M R h
set_option maxHeartbeats 4000000 in
set_option maxRecDepth 100000 in
theorem ok_X4_joinChannel_21 {a0 : Nat} (X : CX p s m args meth c cX4_joinChannel 4 RX4 D dA ad lo n A) (hr : meth.sig.returnType = (some .int)) (h0 : tSt lo n a0) : ∀ (M : MM) (R : (Int32 × MM)), f_X4_joinChannel_21 a0 M = some R → AR p l e 3 66 s m args below meth c D dA ad lo n 4 A (some (.int R.1)) R.2 21 [] [] M := by
  intro M R h
  unfold f_X4_joinChannel_21 at h
  refine AW.bipush (v := (-2)) (pc' := 23) X rfl dX4_joinChannel_21 rfl ?_
  replace h := Option.some.inj h
  subst h
  exact AW.iret X hr dX4_joinChannel_23
set_option maxHeartbeats 4000000 in
set_option maxRecDepth 100000 in
theorem ok_X4_joinChannel {lo n : Nat} {a0 : Nat} {b1 : Bool} {x2 : Int32} {x3 : Int32} {M : MM} {R : (Int32 × MM)} (h0 : tSt lo n a0) (h : f_X4_joinChannel a0 b1 x2 x3 M = some R) : MC yX4_joinChannel cX4_joinChannel 4 (some .int) 3 66 lo n [.ref a0, .int (bz b1), .int x2, .int x3] M (some (.int R.1)) R.2 := by
  refine MC.of (ls0 := [(0, .ref a0), (1, .int (bz b1)), (2, .int x2), (3, .int x3)]) (by decide) rfl (fun _ => Nat.le_of_ble_eq_true rfl) (fun p l e s m args below meth c D dA ad A X hr => ?_)
  replace X : CX p s m args meth c cX4_joinChannel 4 RX4 D dA ad lo n A := X
  unfold f_X4_joinChannel at h
  refine AW.iload_n (k0 := 2) (pc' := 1) X rfl rfl dX4_joinChannel_0 rfl ?_
  refine AW.iconst (v := 0) (pc' := 2) X rfl dX4_joinChannel_1 rfl ?_
  refine AW.sipush (v := 5000) (pc' := 5) X rfl dX4_joinChannel_2 rfl ?_
  obtain ⟨v1, c1, h⟩ := Option.bind_eq_some_iff.mp h
  refine AW.callN (As := [.int x2, .int 0, .int 5000]) (rest := []) (rv := (some (.int (bz v1)))) (M' := M) (pc' := 8) X (ok_X6_isWithin c1) yv_X6_isWithin mn_X4_68 ⟨by decide, by decide, by decide, by decide⟩ rfl (Nat.le_of_ble_eq_true rfl) rfl rfl dX4_joinChannel_5 rfl ?_
  refine AW.if_eq (pc' := 11) (tgt := 21) X dX4_joinChannel_8 rfl rfl (fun q2 => ?_) (fun q2 => ?_)
  · replace h := itep q2 h
    refine AW.sub (ls' := []) [] rfl ?_
    exact ok_X4_joinChannel_21 X hr h0 M R h
  · replace h := iten q2 h
    refine AW.iload_n (k0 := 3) (pc' := 12) X rfl rfl dX4_joinChannel_11 rfl ?_
    refine AW.iconst (v := 1) (pc' := 13) X rfl dX4_joinChannel_12 rfl ?_
    refine AW.ldc (pc' := 15) X mk_X4_126 dX4_joinChannel_13 rfl ?_
    obtain ⟨v3, c3, h⟩ := Option.bind_eq_some_iff.mp h
    refine AW.callN (As := [.int x3, .int 1, .int 200000]) (rest := []) (rv := (some (.int (bz v3)))) (M' := M) (pc' := 18) X (ok_X6_isWithin c3) yv_X6_isWithin mn_X4_68 ⟨by decide, by decide, by decide, by decide⟩ rfl (Nat.le_of_ble_eq_true rfl) rfl rfl dX4_joinChannel_15 rfl ?_
    refine AW.if_ne (pc' := 21) (tgt := 24) X dX4_joinChannel_18 rfl rfl (fun q4 => ?_) (fun q4 => ?_)
    · replace h := iten q4 h
      refine AW.aload_n (k0 := 0) (pc' := 25) X rfl rfl dX4_joinChannel_24 rfl ?_
      obtain ⟨v5, c5, h⟩ := Option.bind_eq_some_iff.mp h
      refine AW.callV (As := []) (rest := []) (rv := (some (.int (bz v5)))) (M' := M) (pc' := 28) X (ok_X4_rests h0 c5) yv_X4_rests h0.1 h0.2.1 (cS h0 dA ad _) rfl rfl ml_X4_103 ⟨by decide, by decide, by decide, by decide⟩ rfl (Nat.le_of_ble_eq_true rfl) rfl rfl dX4_joinChannel_25 rfl ?_
      refine AW.if_ne (pc' := 31) (tgt := 34) X dX4_joinChannel_28 rfl rfl (fun q6 => ?_) (fun q6 => ?_)
      · replace h := iten q6 h
        refine AW.aload_n (k0 := 0) (pc' := 35) X rfl rfl dX4_joinChannel_34 rfl ?_
        refine AW.gX4 (v := .int (M a0 3)) (pc' := 38) X h0 3 (by decide) rfl mf_X4_72 rfl dX4_joinChannel_35 rfl ?_
        refine AW.bipush (v := 6) (pc' := 40) X rfl dX4_joinChannel_38 rfl ?_
        refine AW.icmp_lt (pc' := 43) (tgt := 46) X dX4_joinChannel_40 rfl rfl (fun q7 => ?_) (fun q7 => ?_)
        · replace h := itep q7 h
          refine AW.aload_n (k0 := 0) (pc' := 47) X rfl rfl dX4_joinChannel_46 rfl ?_
          refine AW.gX4 (v := .ref (a0 + 6)) (pc' := 50) X h0 2 (by decide) rfl mf_X4_27 rfl dX4_joinChannel_47 rfl ?_
          refine AW.aload_n (k0 := 0) (pc' := 51) X rfl rfl dX4_joinChannel_50 rfl ?_
          refine AW.gX4 (v := .int (M a0 3)) (pc' := 54) X h0 3 (by decide) rfl mf_X4_72 rfl dX4_joinChannel_51 rfl ?_
          obtain ⟨g8, h⟩ := gd_some h
          refine AW.aldC (pc' := 55) X (rS6 h0) (inb_vp g8) dX4_joinChannel_54 rfl ?_
          refine AW.iload_n (k0 := 1) (pc' := 56) X rfl rfl dX4_joinChannel_55 rfl ?_
          refine AW.iload_n (k0 := 2) (pc' := 57) X rfl rfl dX4_joinChannel_56 rfl ?_
          refine AW.iload_n (k0 := 3) (pc' := 58) X rfl rfl dX4_joinChannel_57 rfl ?_
          obtain ⟨v9, c9, h⟩ := Option.bind_eq_some_iff.mp h
          refine AW.callV (As := [.int (bz b1), .int x2, .int x3]) (rest := []) (rv := none) (M' := v9) (pc' := 61) X (ok_X0_become (rCA (rS6 h0) (inb_lt g8)) c9) yv_X0_become (rCA (rS6 h0) (inb_lt g8)).1 (rCA (rS6 h0) (inb_lt g8)).2.1 (cC (rCA (rS6 h0) (inb_lt g8)) dA ad _) rfl rfl ml_X4_127 ⟨by decide, by decide, by decide, by decide⟩ rfl (Nat.le_of_ble_eq_true rfl) rfl rfl dX4_joinChannel_58 rfl ?_
          refine AW.aload_n (k0 := 0) (pc' := 62) X rfl rfl dX4_joinChannel_61 rfl ?_
          refine AW.dup (pc' := 63) X rfl dX4_joinChannel_62 rfl ?_
          refine AW.gX4 (v := .int (v9 a0 3)) (pc' := 66) X h0 3 (by decide) rfl mf_X4_72 rfl dX4_joinChannel_63 rfl ?_
          refine AW.iconst (v := 1) (pc' := 67) X rfl dX4_joinChannel_66 rfl ?_
          refine AW.iadd (pc' := 68) X dX4_joinChannel_67 rfl ?_
          refine AW.pX4 (pc' := 71) X h0 3 (by decide) rfl mf_X4_72 rfl rfl (by simp [fsS, upd]) (Nat.le_of_ble_eq_true rfl) dX4_joinChannel_68 rfl ?_
          refine AW.aload_n (k0 := 0) (pc' := 72) X rfl rfl dX4_joinChannel_71 rfl ?_
          refine AW.gX4 (v := .int ((ms v9 a0 3 ((v9 a0 3) + 1)) a0 3)) (pc' := 75) X h0 3 (by decide) rfl mf_X4_72 rfl dX4_joinChannel_72 rfl ?_
          refine AW.iconst (v := 1) (pc' := 76) X rfl dX4_joinChannel_75 rfl ?_
          refine AW.isub (pc' := 77) X dX4_joinChannel_76 rfl ?_
          replace h := Option.some.inj h
          subst h
          exact AW.iret X hr dX4_joinChannel_77
        · replace h := iten q7 h
          refine AW.bipush (v := (-4)) (pc' := 45) X rfl dX4_joinChannel_43 rfl ?_
          replace h := Option.some.inj h
          subst h
          exact AW.iret X hr dX4_joinChannel_45
      · replace h := itep q6 h
        refine AW.bipush (v := (-3)) (pc' := 33) X rfl dX4_joinChannel_31 rfl ?_
        replace h := Option.some.inj h
        subst h
        exact AW.iret X hr dX4_joinChannel_33
    · replace h := itep q4 h
      refine AW.sub (ls' := []) [] rfl ?_
      exact ok_X4_joinChannel_21 X hr h0 M R h
set_option maxHeartbeats 4000000 in
set_option maxRecDepth 100000 in
theorem ok_X4_changeSetting {lo n : Nat} {a0 : Nat} {x1 : Int32} {x2 : Int32} {M : MM} {R : (Int32 × MM)} (h0 : tSt lo n a0) (h : f_X4_changeSetting a0 x1 x2 M = some R) : MC yX4_changeSetting cX4_changeSetting 4 (some .int) 1 22 lo n [.ref a0, .int x1, .int x2] M (some (.int R.1)) R.2 := by
  refine MC.of (ls0 := [(0, .ref a0), (1, .int x1), (2, .int x2)]) (by decide) rfl (fun _ => Nat.le_of_ble_eq_true rfl) (fun p l e s m args below meth c D dA ad A X hr => ?_)
  replace X : CX p s m args meth c cX4_changeSetting 4 RX4 D dA ad lo n A := X
  unfold f_X4_changeSetting at h
  refine AW.iload_n (k0 := 1) (pc' := 1) X rfl rfl dX4_changeSetting_0 rfl ?_
  refine AW.iconst (v := 0) (pc' := 2) X rfl dX4_changeSetting_1 rfl ?_
  refine AW.iconst (v := 5) (pc' := 3) X rfl dX4_changeSetting_2 rfl ?_
  obtain ⟨v1, c1, h⟩ := Option.bind_eq_some_iff.mp h
  refine AW.callN (As := [.int x1, .int 0, .int 5]) (rest := []) (rv := (some (.int (bz v1)))) (M' := M) (pc' := 6) X (ok_X6_isWithin c1) yv_X6_isWithin mn_X4_68 ⟨by decide, by decide, by decide, by decide⟩ rfl (Nat.le_of_ble_eq_true rfl) rfl rfl dX4_changeSetting_3 rfl ?_
  refine AW.if_ne (pc' := 9) (tgt := 11) X dX4_changeSetting_6 rfl rfl (fun q2 => ?_) (fun q2 => ?_)
  · replace h := iten q2 h
    refine AW.iload_n (k0 := 2) (pc' := 12) X rfl rfl dX4_changeSetting_11 rfl ?_
    refine AW.gsL (pc' := 15) X mn_X4_131 dX4_changeSetting_12 rfl ?_
    refine AW.iload_n (k0 := 1) (pc' := 16) X rfl rfl dX4_changeSetting_15 rfl ?_
    obtain ⟨g3, h⟩ := gd_some h
    refine AW.gsLi (pc' := 17) X (inb_vp g3) dX4_changeSetting_16 rfl ?_
    refine AW.gsG (pc' := 20) X mn_X4_134 dX4_changeSetting_17 rfl ?_
    refine AW.iload_n (k0 := 1) (pc' := 21) X rfl rfl dX4_changeSetting_20 rfl ?_
    obtain ⟨g4, h⟩ := gd_some h
    refine AW.gsGi (pc' := 22) X (inb_vp g4) dX4_changeSetting_21 rfl ?_
    obtain ⟨v5, c5, h⟩ := Option.bind_eq_some_iff.mp h
    refine AW.callN (As := [.int x2, .int (sLE (ix x1)), .int (sGR (ix x1))]) (rest := []) (rv := (some (.int (bz v5)))) (M' := M) (pc' := 25) X (ok_X6_isWithin c5) yv_X6_isWithin mn_X4_68 ⟨by decide, by decide, by decide, by decide⟩ rfl (Nat.le_of_ble_eq_true rfl) rfl rfl dX4_changeSetting_22 rfl ?_
    refine AW.if_ne (pc' := 28) (tgt := 31) X dX4_changeSetting_25 rfl rfl (fun q6 => ?_) (fun q6 => ?_)
    · replace h := iten q6 h
      refine AW.aload_n (k0 := 0) (pc' := 32) X rfl rfl dX4_changeSetting_31 rfl ?_
      refine AW.gX4 (v := .ref (a0 + 7)) (pc' := 35) X h0 4 (by decide) rfl mf_X4_31 rfl dX4_changeSetting_32 rfl ?_
      refine AW.iload_n (k0 := 1) (pc' := 36) X rfl rfl dX4_changeSetting_35 rfl ?_
      obtain ⟨g7, h⟩ := gd_some h
      refine AW.iald (pc' := 37) X (rS7 h0) (inb_vp g7) dX4_changeSetting_36 rfl ?_
      refine AW.istore_n (ls' := [(3, .int (M (a0 + 7) (ix x1))), (0, .ref a0), (1, .int x1), (2, .int x2)]) (pc' := 38) X rfl (by decide) rfl dX4_changeSetting_37 rfl ?_
      refine AW.aload_n (k0 := 1) (pc' := 39) X rfl rfl dX4_changeSetting_38 rfl ?_
      refine AW.gX4 (v := .ref (a0 + 7)) (pc' := 42) X h0 4 (by decide) rfl mf_X4_31 rfl dX4_changeSetting_39 rfl ?_
      refine AW.iload_n (k0 := 2) (pc' := 43) X rfl rfl dX4_changeSetting_42 rfl ?_
      refine AW.iload_n (k0 := 3) (pc' := 44) X rfl rfl dX4_changeSetting_43 rfl ?_
      obtain ⟨g8, h⟩ := gd_some h
      refine AW.iast (pc' := 45) X (rS7 h0) (inb_vp g8) dX4_changeSetting_44 rfl ?_
      refine AW.iload_n (k0 := 0) (pc' := 46) X rfl rfl dX4_changeSetting_45 rfl ?_
      replace h := Option.some.inj h
      subst h
      exact AW.iret X hr dX4_changeSetting_46
    · replace h := itep q6 h
      refine AW.bipush (v := (-2)) (pc' := 30) X rfl dX4_changeSetting_28 rfl ?_
      replace h := Option.some.inj h
      subst h
      exact AW.iret X hr dX4_changeSetting_30
  · replace h := itep q2 h
    refine AW.iconst (v := (-1)) (pc' := 10) X rfl dX4_changeSetting_9 rfl ?_
    replace h := Option.some.inj h
    subst h
    exact AW.iret X hr dX4_changeSetting_10
set_option maxHeartbeats 4000000 in
set_option maxRecDepth 100000 in
theorem ok_X4_reasonToRefuse_35 {a0 : Nat} {M : MM} (X : CX p s m args meth c cX4_reasonToRefuse 2 RX4 D dA ad lo n A) (hr : meth.sig.returnType = (some .int)) (h0 : tSt lo n a0) : ∀ (k : Nat) (x1 : Int32) (R : Int32), f_X4_reasonToRefuse_35 a0 M k x1 = some R → AR p l e 2 40 s m args below meth c D dA ad lo n 2 A (some (.int R)) M 35 [(0, .ref a0), (1, .int x1)] [] M := by
  intro k
  induction k with
  | zero => intro _ R h; exact none_some h
  | succ k ih =>
    intro x1 R h
    unfold f_X4_reasonToRefuse_35 at h
    refine AW.iload_n (k0 := 1) (pc' := 36) X rfl rfl dX4_reasonToRefuse_35 rfl ?_
    refine AW.aload_n (k0 := 0) (pc' := 37) X rfl rfl dX4_reasonToRefuse_36 rfl ?_
    refine AW.gX4 (v := .int (M a0 3)) (pc' := 40) X h0 3 (by decide) rfl mf_X4_72 rfl dX4_reasonToRefuse_37 rfl ?_
    refine AW.icmp_ge (pc' := 43) (tgt := 63) X dX4_reasonToRefuse_40 rfl rfl (fun q1 => ?_) (fun q1 => ?_)
    · replace h := itep q1 h
      refine AW.iconst (v := 4) (pc' := 64) X rfl dX4_reasonToRefuse_63 rfl ?_
      replace h := Option.some.inj h
      subst h
      exact AW.iret X hr dX4_reasonToRefuse_64
    · replace h := iten q1 h
      refine AW.aload_n (k0 := 0) (pc' := 44) X rfl rfl dX4_reasonToRefuse_43 rfl ?_
      refine AW.gX4 (v := .ref (a0 + 6)) (pc' := 47) X h0 2 (by decide) rfl mf_X4_27 rfl dX4_reasonToRefuse_44 rfl ?_
      refine AW.iload_n (k0 := 1) (pc' := 48) X rfl rfl dX4_reasonToRefuse_47 rfl ?_
      obtain ⟨g2, h⟩ := gd_some h
      refine AW.aldC (pc' := 49) X (rS6 h0) (inb_vp g2) dX4_reasonToRefuse_48 rfl ?_
      refine AW.gX0 (v := .int (bz (nz (M ((a0 + 6) + 5 + 9 * (ix x1)) 0)))) (pc' := 52) X (rCA (rS6 h0) (inb_lt g2)) 0 (by decide) rfl mf_X4_145 rfl dX4_reasonToRefuse_49 rfl ?_
      refine AW.if_eq (pc' := 55) (tgt := 57) X dX4_reasonToRefuse_52 rfl rfl (fun q3 => ?_) (fun q3 => ?_)
      · replace h := itep q3 h
        refine AW.iinc (k0 := 1) (v := (x1 + 1)) (y := 1) (ls' := [(1, .int (x1 + 1)), (0, .ref a0)]) (pc' := 60) X rfl rfl rfl (by decide) rfl dX4_reasonToRefuse_57 rfl ?_
        refine AW.goto (pc' := 35) X dX4_reasonToRefuse_60 rfl ?_
        refine AW.sub (ls' := [(0, .ref a0), (1, .int (x1 + 1))]) [1, 0] rfl ?_
        exact ih (x1 + 1) R h
      · replace h := iten q3 h
        refine AW.iconst (v := 0) (pc' := 56) X rfl dX4_reasonToRefuse_55 rfl ?_
        replace h := Option.some.inj h
        subst h
        exact AW.iret X hr dX4_reasonToRefuse_56
set_option maxHeartbeats 4000000 in
set_option maxRecDepth 100000 in
theorem ok_X4_reasonToRefuse {lo n : Nat} {a0 : Nat} {M : MM} {R : Int32} (h0 : tSt lo n a0) (h : f_X4_reasonToRefuse a0 M = some R) : MC yX4_reasonToRefuse cX4_reasonToRefuse 2 (some .int) 2 40 lo n [.ref a0] M (some (.int R)) M := by
  refine MC.of (ls0 := [(0, .ref a0)]) (by decide) rfl (fun _ => Nat.le_of_ble_eq_true rfl) (fun p l e s m args below meth c D dA ad A X hr => ?_)
  replace X : CX p s m args meth c cX4_reasonToRefuse 2 RX4 D dA ad lo n A := X
  unfold f_X4_reasonToRefuse at h
  refine AW.aload_n (k0 := 0) (pc' := 1) X rfl rfl dX4_reasonToRefuse_0 rfl ?_
  obtain ⟨v1, c1, h⟩ := Option.bind_eq_some_iff.mp h
  refine AW.callV (As := []) (rest := []) (rv := (some (.int (bz v1)))) (M' := M) (pc' := 4) X (ok_X4_rests h0 c1) yv_X4_rests h0.1 h0.2.1 (cS h0 dA ad _) rfl rfl ml_X4_103 ⟨by decide, by decide, by decide, by decide⟩ rfl (Nat.le_of_ble_eq_true rfl) rfl rfl dX4_reasonToRefuse_1 rfl ?_
  refine AW.if_ne (pc' := 7) (tgt := 9) X dX4_reasonToRefuse_4 rfl rfl (fun q2 => ?_) (fun q2 => ?_)
  · replace h := iten q2 h
    refine AW.aload_n (k0 := 0) (pc' := 10) X rfl rfl dX4_reasonToRefuse_9 rfl ?_
    refine AW.gX4 (v := .ref (a0 + 1)) (pc' := 13) X h0 0 (by decide) rfl mf_X4_12 rfl dX4_reasonToRefuse_10 rfl ?_
    refine AW.gX2 (v := .int (M (a0 + 1) 1)) (pc' := 16) X (rS1 h0) 1 (by decide) rfl mf_X4_65 rfl dX4_reasonToRefuse_13 rfl ?_
    refine AW.if_ne (pc' := 19) (tgt := 21) X dX4_reasonToRefuse_16 rfl rfl (fun q3 => ?_) (fun q3 => ?_)
    · replace h := iten q3 h
      refine AW.aload_n (k0 := 0) (pc' := 22) X rfl rfl dX4_reasonToRefuse_21 rfl ?_
      refine AW.gX4 (v := .ref (a0 + 3)) (pc' := 25) X h0 1 (by decide) rfl mf_X4_21 rfl dX4_reasonToRefuse_22 rfl ?_
      refine AW.gX3 (v := .int (M (a0 + 3) 2)) (pc' := 28) X (rS3 h0) 2 (by decide) rfl mf_X4_144 rfl dX4_reasonToRefuse_25 rfl ?_
      refine AW.if_ne (pc' := 31) (tgt := 33) X dX4_reasonToRefuse_28 rfl rfl (fun q4 => ?_) (fun q4 => ?_)
      · replace h := iten q4 h
        refine AW.iconst (v := 0) (pc' := 34) X rfl dX4_reasonToRefuse_33 rfl ?_
        refine AW.istore_n (ls' := [(1, .int 0), (0, .ref a0)]) (pc' := 35) X rfl (by decide) rfl dX4_reasonToRefuse_34 rfl ?_
        refine AW.sub (ls' := [(0, .ref a0), (1, .int 0)]) [1, 0] rfl ?_
        exact ok_X4_reasonToRefuse_35 X hr h0 FU 0 R h
      · replace h := itep q4 h
        refine AW.iconst (v := 3) (pc' := 32) X rfl dX4_reasonToRefuse_31 rfl ?_
        replace h := Option.some.inj h
        subst h
        exact AW.iret X hr dX4_reasonToRefuse_32
    · replace h := itep q3 h
      refine AW.iconst (v := 2) (pc' := 20) X rfl dX4_reasonToRefuse_19 rfl ?_
      replace h := Option.some.inj h
      subst h
      exact AW.iret X hr dX4_reasonToRefuse_20
  · replace h := itep q2 h
    refine AW.iconst (v := 1) (pc' := 8) X rfl dX4_reasonToRefuse_7 rfl ?_
    replace h := Option.some.inj h
    subst h
    exact AW.iret X hr dX4_reasonToRefuse_8
set_option maxHeartbeats 4000000 in
set_option maxRecDepth 100000 in
theorem ok_X4_begin {lo n : Nat} {a0 : Nat} {x1 : Int32} {M : MM} {R : (Int32 × MM)} (h0 : tSt lo n a0) (h : f_X4_begin a0 x1 M = some R) : MC yX4_begin cX4_begin 2 (some .int) 3 64 lo n [.ref a0, .int x1] M (some (.int R.1)) R.2 := by
  refine MC.of (ls0 := [(0, .ref a0), (1, .int x1)]) (by decide) rfl (fun _ => Nat.le_of_ble_eq_true rfl) (fun p l e s m args below meth c D dA ad A X hr => ?_)
  replace X : CX p s m args meth c cX4_begin 2 RX4 D dA ad lo n A := X
  unfold f_X4_begin at h
  refine AW.iload_n (k0 := 1) (pc' := 1) X rfl rfl dX4_begin_0 rfl ?_
  refine AW.iconst (v := 1) (pc' := 2) X rfl dX4_begin_1 rfl ?_
  refine AW.sipush (v := 1000) (pc' := 5) X rfl dX4_begin_2 rfl ?_
  obtain ⟨v1, c1, h⟩ := Option.bind_eq_some_iff.mp h
  refine AW.callN (As := [.int x1, .int 1, .int 1000]) (rest := []) (rv := (some (.int (bz v1)))) (M' := M) (pc' := 8) X (ok_X6_isWithin c1) yv_X6_isWithin mn_X4_68 ⟨by decide, by decide, by decide, by decide⟩ rfl (Nat.le_of_ble_eq_true rfl) rfl rfl dX4_begin_5 rfl ?_
  refine AW.if_ne (pc' := 11) (tgt := 14) X dX4_begin_8 rfl rfl (fun q2 => ?_) (fun q2 => ?_)
  · replace h := iten q2 h
    refine AW.aload_n (k0 := 0) (pc' := 15) X rfl rfl dX4_begin_14 rfl ?_
    refine AW.aload_n (k0 := 0) (pc' := 16) X rfl rfl dX4_begin_15 rfl ?_
    obtain ⟨v3, c3, h⟩ := Option.bind_eq_some_iff.mp h
    refine AW.callV (As := []) (rest := [.ref a0]) (rv := (some (.int v3))) (M' := M) (pc' := 19) X (ok_X4_reasonToRefuse h0 c3) yv_X4_reasonToRefuse h0.1 h0.2.1 (cS h0 dA ad _) rfl rfl ml_X4_137 ⟨by decide, by decide, by decide, by decide⟩ rfl (Nat.le_of_ble_eq_true rfl) rfl rfl dX4_begin_16 rfl ?_
    refine AW.pX4 (pc' := 22) X h0 16 (by decide) rfl mf_X4_48 rfl rfl (by simp [fsS, upd]) (Nat.le_of_ble_eq_true rfl) dX4_begin_19 rfl ?_
    refine AW.aload_n (k0 := 0) (pc' := 23) X rfl rfl dX4_begin_22 rfl ?_
    refine AW.gX4 (v := .int ((ms M a0 16 v3) a0 16)) (pc' := 26) X h0 16 (by decide) rfl mf_X4_48 rfl dX4_begin_23 rfl ?_
    refine AW.if_eq (pc' := 29) (tgt := 32) X dX4_begin_26 rfl rfl (fun q4 => ?_) (fun q4 => ?_)
    · replace h := itep q4 h
      refine AW.aload_n (k0 := 0) (pc' := 33) X rfl rfl dX4_begin_32 rfl ?_
      obtain ⟨v5, c5, h⟩ := Option.bind_eq_some_iff.mp h
      refine AW.callV (As := []) (rest := []) (rv := none) (M' := v5) (pc' := 36) X (ok_X4_forgetRun h0 c5) yv_X4_forgetRun h0.1 h0.2.1 (cS h0 dA ad _) rfl rfl ml_X4_59 ⟨by decide, by decide, by decide, by decide⟩ rfl (Nat.le_of_ble_eq_true rfl) rfl rfl dX4_begin_33 rfl ?_
      refine AW.aload_n (k0 := 0) (pc' := 37) X rfl rfl dX4_begin_36 rfl ?_
      refine AW.iconst (v := 1) (pc' := 38) X rfl dX4_begin_37 rfl ?_
      refine AW.pX4 (pc' := 41) X h0 8 (by decide) rfl mf_X4_44 rfl rfl (by simp [fsS, upd]) (Nat.le_of_ble_eq_true rfl) dX4_begin_38 rfl ?_
      refine AW.aload_n (k0 := 0) (pc' := 42) X rfl rfl dX4_begin_41 rfl ?_
      refine AW.iconst (v := 0) (pc' := 43) X rfl dX4_begin_42 rfl ?_
      refine AW.pX4 (pc' := 46) X h0 9 (by decide) rfl mf_X4_114 rfl rfl (by simp [fsS, upd]) (Nat.le_of_ble_eq_true rfl) dX4_begin_43 rfl ?_
      refine AW.aload_n (k0 := 0) (pc' := 47) X rfl rfl dX4_begin_46 rfl ?_
      refine AW.iload_n (k0 := 1) (pc' := 48) X rfl rfl dX4_begin_47 rfl ?_
      refine AW.pX4 (pc' := 51) X h0 10 (by decide) rfl mf_X4_141 rfl rfl (by simp [fsS, upd]) (Nat.le_of_ble_eq_true rfl) dX4_begin_48 rfl ?_
      refine AW.aload_n (k0 := 0) (pc' := 52) X rfl rfl dX4_begin_51 rfl ?_
      refine AW.gX4 (v := .ref (a0 + 9)) (pc' := 55) X h0 6 (by decide) rfl mf_X4_38 rfl dX4_begin_52 rfl ?_
      refine AW.iconst (v := 0) (pc' := 56) X rfl dX4_begin_55 rfl ?_
      refine AW.iload_n (k0 := 1) (pc' := 57) X rfl rfl dX4_begin_56 rfl ?_
      obtain ⟨g6, h⟩ := gd_some h
      refine AW.iast (pc' := 58) X (rS9 h0) (inb_vp g6) dX4_begin_57 rfl ?_
      refine AW.aload_n (k0 := 0) (pc' := 59) X rfl rfl dX4_begin_58 rfl ?_
      refine AW.gX4 (v := .ref (a0 + 1)) (pc' := 62) X h0 0 (by decide) rfl mf_X4_12 rfl dX4_begin_59 rfl ?_
      refine AW.gX2 (v := .int ((ms (ms (ms (ms v5 a0 8 1) a0 9 0) a0 10 x1) (a0 + 9) (ix 0) x1) (a0 + 1) 1)) (pc' := 65) X (rS1 h0) 1 (by decide) rfl mf_X4_65 rfl dX4_begin_62 rfl ?_
      replace h := Option.some.inj h
      subst h
      exact AW.iret X hr dX4_begin_65
    · replace h := iten q4 h
      refine AW.bipush (v := (-5)) (pc' := 31) X rfl dX4_begin_29 rfl ?_
      replace h := Option.some.inj h
      subst h
      exact AW.iret X hr dX4_begin_31
  · replace h := itep q2 h
    refine AW.bipush (v := (-2)) (pc' := 13) X rfl dX4_begin_11 rfl ?_
    replace h := Option.some.inj h
    subst h
    exact AW.iret X hr dX4_begin_13
set_option maxHeartbeats 4000000 in
set_option maxRecDepth 100000 in
theorem ok_X4_holdOrGoOn_29 {a0 : Nat} (X : CX p s m args meth c cX4_holdOrGoOn 2 RX4 D dA ad lo n A) (hr : meth.sig.returnType = (some .int)) (h0 : tSt lo n a0) : ∀ (s0 : Int32) (M : MM) (R : (Int32 × MM)), f_X4_holdOrGoOn_29 a0 s0 M = some R → AR p l e 0 0 s m args below meth c D dA ad lo n 2 A (some (.int R.1)) R.2 29 [(0, .ref a0)] [.int s0, .ref a0] M := by
  intro s0 M R h
  unfold f_X4_holdOrGoOn_29 at h
  refine AW.pX4 (pc' := 32) X h0 8 (by decide) rfl mf_X4_44 rfl rfl (by simp [fsS, upd]) (Nat.le_of_ble_eq_true rfl) dX4_holdOrGoOn_29 rfl ?_
  refine AW.aload_n (k0 := 0) (pc' := 33) X rfl rfl dX4_holdOrGoOn_32 rfl ?_
  refine AW.gX4 (v := .int ((ms M a0 8 s0) a0 9)) (pc' := 36) X h0 9 (by decide) rfl mf_X4_114 rfl dX4_holdOrGoOn_33 rfl ?_
  replace h := Option.some.inj h
  subst h
  exact AW.iret X hr dX4_holdOrGoOn_36
set_option maxHeartbeats 4000000 in
set_option maxRecDepth 100000 in
theorem ok_X4_holdOrGoOn_13 {a0 : Nat} (X : CX p s m args meth c cX4_holdOrGoOn 2 RX4 D dA ad lo n A) (hr : meth.sig.returnType = (some .int)) (h0 : tSt lo n a0) : ∀ (b1 : Bool) (s0 : Int32) (s1 : Int32) (M : MM) (R : (Int32 × MM)), f_X4_holdOrGoOn_13 a0 b1 s0 s1 M = some R → AR p l e 0 0 s m args below meth c D dA ad lo n 2 A (some (.int R.1)) R.2 13 [(0, .ref a0), (1, .int (bz b1))] [.int s0, .int s1] M := by
  intro b1 s0 s1 M R h
  unfold f_X4_holdOrGoOn_13 at h
  refine AW.icmp_eq (pc' := 16) (tgt := 19) X dX4_holdOrGoOn_13 rfl rfl (fun q1 => ?_) (fun q1 => ?_)
  · replace h := itep q1 h
    refine AW.aload_n (k0 := 0) (pc' := 20) X rfl rfl dX4_holdOrGoOn_19 rfl ?_
    refine AW.iload_n (k0 := 1) (pc' := 21) X rfl rfl dX4_holdOrGoOn_20 rfl ?_
    refine AW.if_eq (pc' := 24) (tgt := 28) X dX4_holdOrGoOn_21 rfl rfl (fun q2 => ?_) (fun q2 => ?_)
    · replace h := itep q2 h
      refine AW.iconst (v := 1) (pc' := 29) X rfl dX4_holdOrGoOn_28 rfl ?_
      refine AW.sub (ls' := [(0, .ref a0)]) [0] rfl ?_
      exact ok_X4_holdOrGoOn_29 X hr h0 1 M R h
    · replace h := iten q2 h
      refine AW.iconst (v := 2) (pc' := 25) X rfl dX4_holdOrGoOn_24 rfl ?_
      refine AW.goto (pc' := 29) X dX4_holdOrGoOn_25 rfl ?_
      refine AW.sub (ls' := [(0, .ref a0)]) [0] rfl ?_
      exact ok_X4_holdOrGoOn_29 X hr h0 2 M R h
  · replace h := iten q1 h
    refine AW.bipush (v := (-3)) (pc' := 18) X rfl dX4_holdOrGoOn_16 rfl ?_
    replace h := Option.some.inj h
    subst h
    exact AW.iret X hr dX4_holdOrGoOn_18
set_option maxHeartbeats 4000000 in
set_option maxRecDepth 100000 in
theorem ok_X4_holdOrGoOn {lo n : Nat} {a0 : Nat} {b1 : Bool} {M : MM} {R : (Int32 × MM)} (h0 : tSt lo n a0) (h : f_X4_holdOrGoOn a0 b1 M = some R) : MC yX4_holdOrGoOn cX4_holdOrGoOn 2 (some .int) 0 0 lo n [.ref a0, .int (bz b1)] M (some (.int R.1)) R.2 := by
  refine MC.of (ls0 := [(0, .ref a0), (1, .int (bz b1))]) (by decide) rfl (fun _ => Nat.le_of_ble_eq_true rfl) (fun p l e s m args below meth c D dA ad A X hr => ?_)
  replace X : CX p s m args meth c cX4_holdOrGoOn 2 RX4 D dA ad lo n A := X
  unfold f_X4_holdOrGoOn at h
  refine AW.aload_n (k0 := 0) (pc' := 1) X rfl rfl dX4_holdOrGoOn_0 rfl ?_
  refine AW.gX4 (v := .int (M a0 8)) (pc' := 4) X h0 8 (by decide) rfl mf_X4_44 rfl dX4_holdOrGoOn_1 rfl ?_
  refine AW.iload_n (k0 := 1) (pc' := 5) X rfl rfl dX4_holdOrGoOn_4 rfl ?_
  refine AW.if_eq (pc' := 8) (tgt := 12) X dX4_holdOrGoOn_5 rfl rfl (fun q1 => ?_) (fun q1 => ?_)
  · replace h := itep q1 h
    refine AW.iconst (v := 2) (pc' := 13) X rfl dX4_holdOrGoOn_12 rfl ?_
    exact ok_X4_holdOrGoOn_13 X hr h0 b1 2 (M a0 8) M R h
  · replace h := iten q1 h
    refine AW.iconst (v := 1) (pc' := 9) X rfl dX4_holdOrGoOn_8 rfl ?_
    refine AW.goto (pc' := 13) X dX4_holdOrGoOn_9 rfl ?_
    exact ok_X4_holdOrGoOn_13 X hr h0 b1 1 (M a0 8) M R h
set_option maxHeartbeats 4000000 in
set_option maxRecDepth 100000 in
theorem ok_X4_beginAbort {lo n : Nat} {a0 : Nat} {x1 : Int32} {M : MM} {R : MM} (h0 : tSt lo n a0) (h : f_X4_beginAbort a0 x1 M = some R) : MC yX4_beginAbort cX4_beginAbort 2 none 0 0 lo n [.ref a0, .int x1] M none R := by
  refine MC.of (ls0 := [(0, .ref a0), (1, .int x1)]) (by decide) rfl (fun _ => Nat.le_of_ble_eq_true rfl) (fun p l e s m args below meth c D dA ad A X hr => ?_)
  replace X : CX p s m args meth c cX4_beginAbort 2 RX4 D dA ad lo n A := X
  unfold f_X4_beginAbort at h
  refine AW.aload_n (k0 := 0) (pc' := 1) X rfl rfl dX4_beginAbort_0 rfl ?_
  refine AW.iconst (v := 3) (pc' := 2) X rfl dX4_beginAbort_1 rfl ?_
  refine AW.pX4 (pc' := 5) X h0 8 (by decide) rfl mf_X4_44 rfl rfl (by simp [fsS, upd]) (Nat.le_of_ble_eq_true rfl) dX4_beginAbort_2 rfl ?_
  refine AW.aload_n (k0 := 0) (pc' := 6) X rfl rfl dX4_beginAbort_5 rfl ?_
  refine AW.iload_n (k0 := 1) (pc' := 7) X rfl rfl dX4_beginAbort_6 rfl ?_
  refine AW.pX4 (pc' := 10) X h0 14 (by decide) rfl mf_X4_96 rfl rfl (by simp [fsS, upd]) (Nat.le_of_ble_eq_true rfl) dX4_beginAbort_7 rfl ?_
  refine AW.aload_n (k0 := 0) (pc' := 11) X rfl rfl dX4_beginAbort_10 rfl ?_
  refine AW.aload_n (k0 := 0) (pc' := 12) X rfl rfl dX4_beginAbort_11 rfl ?_
  refine AW.gX4 (v := .int ((ms (ms M a0 8 3) a0 14 x1) a0 9)) (pc' := 15) X h0 9 (by decide) rfl mf_X4_114 rfl dX4_beginAbort_12 rfl ?_
  refine AW.pX4 (pc' := 18) X h0 15 (by decide) rfl mf_X4_99 rfl rfl (by simp [fsS, upd]) (Nat.le_of_ble_eq_true rfl) dX4_beginAbort_15 rfl ?_
  replace h := Option.some.inj h
  subst h
  exact AW.vret X hr dX4_beginAbort_18
set_option maxHeartbeats 4000000 in
set_option maxRecDepth 100000 in
theorem ok_X4_abortByHand {lo n : Nat} {a0 : Nat} {M : MM} {R : (Int32 × MM)} (h0 : tSt lo n a0) (h : f_X4_abortByHand a0 M = some R) : MC yX4_abortByHand cX4_abortByHand 1 (some .int) 1 21 lo n [.ref a0] M (some (.int R.1)) R.2 := by
  refine MC.of (ls0 := [(0, .ref a0)]) (by decide) rfl (fun _ => Nat.le_of_ble_eq_true rfl) (fun p l e s m args below meth c D dA ad A X hr => ?_)
  replace X : CX p s m args meth c cX4_abortByHand 1 RX4 D dA ad lo n A := X
  unfold f_X4_abortByHand at h
  refine AW.aload_n (k0 := 0) (pc' := 1) X rfl rfl dX4_abortByHand_0 rfl ?_
  obtain ⟨v1, c1, h⟩ := Option.bind_eq_some_iff.mp h
  refine AW.callV (As := []) (rest := []) (rv := (some (.int (bz v1)))) (M' := M) (pc' := 4) X (ok_X4_measures h0 c1) yv_X4_measures h0.1 h0.2.1 (cS h0 dA ad _) rfl rfl ml_X4_75 ⟨by decide, by decide, by decide, by decide⟩ rfl (Nat.le_of_ble_eq_true rfl) rfl rfl dX4_abortByHand_1 rfl ?_
  refine AW.if_ne (pc' := 7) (tgt := 10) X dX4_abortByHand_4 rfl rfl (fun q2 => ?_) (fun q2 => ?_)
  · replace h := iten q2 h
    refine AW.aload_n (k0 := 0) (pc' := 11) X rfl rfl dX4_abortByHand_10 rfl ?_
    refine AW.bipush (v := (-6)) (pc' := 13) X rfl dX4_abortByHand_11 rfl ?_
    obtain ⟨v3, c3, h⟩ := Option.bind_eq_some_iff.mp h
    refine AW.callV (As := [.int (-6)]) (rest := []) (rv := none) (M' := v3) (pc' := 16) X (ok_X4_beginAbort h0 c3) yv_X4_beginAbort h0.1 h0.2.1 (cS h0 dA ad _) rfl rfl ml_X4_148 ⟨by decide, by decide, by decide, by decide⟩ rfl (Nat.le_of_ble_eq_true rfl) rfl rfl dX4_abortByHand_13 rfl ?_
    refine AW.aload_n (k0 := 0) (pc' := 17) X rfl rfl dX4_abortByHand_16 rfl ?_
    refine AW.gX4 (v := .int (v3 a0 9)) (pc' := 20) X h0 9 (by decide) rfl mf_X4_114 rfl dX4_abortByHand_17 rfl ?_
    replace h := Option.some.inj h
    subst h
    exact AW.iret X hr dX4_abortByHand_20
  · replace h := itep q2 h
    refine AW.bipush (v := (-3)) (pc' := 9) X rfl dX4_abortByHand_7 rfl ?_
    replace h := Option.some.inj h
    subst h
    exact AW.iret X hr dX4_abortByHand_9
set_option maxHeartbeats 4000000 in
set_option maxRecDepth 100000 in
theorem ok_X4_rampDown_30 {a0 : Nat} (X : CX p s m args meth c cX4_rampDown 1 RX4 D dA ad lo n A) (hr : meth.sig.returnType = none) (h0 : tSt lo n a0) : ∀ (M : MM) (R : MM), f_X4_rampDown_30 a0 M = some R → AR p l e 0 0 s m args below meth c D dA ad lo n 1 A none R 30 [] [] M := by
  intro M R h
  unfold f_X4_rampDown_30 at h
  replace h := Option.some.inj h
  subst h
  exact AW.vret X hr dX4_rampDown_30
set_option maxHeartbeats 4000000 in
set_option maxRecDepth 100000 in
theorem ok_X4_rampDown {lo n : Nat} {a0 : Nat} {M : MM} {R : MM} (h0 : tSt lo n a0) (h : f_X4_rampDown a0 M = some R) : MC yX4_rampDown cX4_rampDown 1 none 0 0 lo n [.ref a0] M none R := by
  refine MC.of (ls0 := [(0, .ref a0)]) (by decide) rfl (fun _ => Nat.le_of_ble_eq_true rfl) (fun p l e s m args below meth c D dA ad A X hr => ?_)
  replace X : CX p s m args meth c cX4_rampDown 1 RX4 D dA ad lo n A := X
  unfold f_X4_rampDown at h
  refine AW.aload_n (k0 := 0) (pc' := 1) X rfl rfl dX4_rampDown_0 rfl ?_
  refine AW.aload_n (k0 := 0) (pc' := 2) X rfl rfl dX4_rampDown_1 rfl ?_
  refine AW.gX4 (v := .int (M a0 10)) (pc' := 5) X h0 10 (by decide) rfl mf_X4_141 rfl dX4_rampDown_2 rfl ?_
  refine AW.aload_n (k0 := 0) (pc' := 6) X rfl rfl dX4_rampDown_5 rfl ?_
  refine AW.gX4 (v := .ref (a0 + 7)) (pc' := 9) X h0 4 (by decide) rfl mf_X4_31 rfl dX4_rampDown_6 rfl ?_
  refine AW.iconst (v := 4) (pc' := 10) X rfl dX4_rampDown_9 rfl ?_
  obtain ⟨g1, h⟩ := gd_some h
  refine AW.iald (pc' := 11) X (rS7 h0) (inb_vp g1) dX4_rampDown_10 rfl ?_
  refine AW.imul (pc' := 12) X dX4_rampDown_11 rfl ?_
  refine AW.bipush (v := 100) (pc' := 14) X rfl dX4_rampDown_12 rfl ?_
  refine AW.idiv (pc' := 15) X (by decide) dX4_rampDown_14 rfl ?_
  refine AW.pX4 (pc' := 18) X h0 10 (by decide) rfl mf_X4_141 rfl rfl (by simp [fsS, upd]) (Nat.le_of_ble_eq_true rfl) dX4_rampDown_15 rfl ?_
  refine AW.aload_n (k0 := 0) (pc' := 19) X rfl rfl dX4_rampDown_18 rfl ?_
  refine AW.gX4 (v := .int ((ms M a0 10 (((M a0 10) * (M (a0 + 7) (ix 4))) / 100)) a0 10)) (pc' := 22) X h0 10 (by decide) rfl mf_X4_141 rfl dX4_rampDown_19 rfl ?_
  refine AW.if_ne (pc' := 25) (tgt := 30) X dX4_rampDown_22 rfl rfl (fun q3 => ?_) (fun q3 => ?_)
  · replace h := iten q3 h
    refine AW.sub (ls' := []) [] rfl ?_
    exact ok_X4_rampDown_30 X hr h0 (ms M a0 10 (((M a0 10) * (M (a0 + 7) (ix 4))) / 100)) R h
  · replace h := itep q3 h
    refine AW.aload_n (k0 := 0) (pc' := 26) X rfl rfl dX4_rampDown_25 rfl ?_
    refine AW.iconst (v := 4) (pc' := 27) X rfl dX4_rampDown_26 rfl ?_
    refine AW.pX4 (pc' := 30) X h0 8 (by decide) rfl mf_X4_44 rfl rfl (by simp [fsS, upd]) (Nat.le_of_ble_eq_true rfl) dX4_rampDown_27 rfl ?_
    refine AW.sub (ls' := []) [] rfl ?_
    exact ok_X4_rampDown_30 X hr h0 (ms (ms M a0 10 (((M a0 10) * (M (a0 + 7) (ix 4))) / 100)) a0 8 4) R h
set_option maxHeartbeats 4000000 in
set_option maxRecDepth 100000 in
theorem ok_X4_controlLevel_79 {a0 : Nat} {M : MM} (X : CX p s m args meth c cX4_controlLevel 7 RX4 D dA ad lo n A) (hr : meth.sig.returnType = (some .int)) (h0 : tSt lo n a0) {rec12 : Int32 → Int32 → Int32 → Int32 → Int32 → Option Int32} (hrec12 : ∀ (x1 : Int32) (x2 : Int32) (x3 : Int32) (x4 : Int32) (x5 : Int32) (R : Int32), rec12 x1 x2 x3 x4 x5 = some R → AR p l e 1 21 s m args below meth c D dA ad lo n 7 A (some (.int R)) M 12 [(0, .ref a0), (1, .int x1), (2, .int x2), (3, .int x3), (4, .int x4), (5, .int x5)] [] M) : ∀ (x1 : Int32) (x2 : Int32) (x3 : Int32) (x4 : Int32) (x5 : Int32) (R : Int32), f_X4_controlLevel_79 a0 M rec12 x1 x2 x3 x4 x5 = some R → AR p l e 1 21 s m args below meth c D dA ad lo n 7 A (some (.int R)) M 79 [(0, .ref a0), (1, .int x1), (2, .int x2), (3, .int x3), (4, .int x4), (5, .int x5)] [] M := by
  intro x1 x2 x3 x4 x5 R h
  unfold f_X4_controlLevel_79 at h
  refine AW.iinc (k0 := 5) (v := (x5 + 1)) (y := 1) (ls' := [(5, .int (x5 + 1)), (0, .ref a0), (1, .int x1), (2, .int x2), (3, .int x3), (4, .int x4)]) (pc' := 82) X rfl rfl rfl (by decide) rfl dX4_controlLevel_79 rfl ?_
  refine AW.goto (pc' := 12) X dX4_controlLevel_82 rfl ?_
  refine AW.sub (ls' := [(0, .ref a0), (1, .int x1), (2, .int x2), (3, .int x3), (4, .int x4), (5, .int (x5 + 1))]) [1, 2, 3, 4, 5, 0] rfl ?_
  exact hrec12 x1 x2 x3 x4 (x5 + 1) R h
set_option maxHeartbeats 4000000 in
set_option maxRecDepth 100000 in
theorem ok_X4_controlLevel_74 {a0 : Nat} {M : MM} (X : CX p s m args meth c cX4_controlLevel 7 RX4 D dA ad lo n A) (hr : meth.sig.returnType = (some .int)) (h0 : tSt lo n a0) {rec12 : Int32 → Int32 → Int32 → Int32 → Int32 → Option Int32} (hrec12 : ∀ (x1 : Int32) (x2 : Int32) (x3 : Int32) (x4 : Int32) (x5 : Int32) (R : Int32), rec12 x1 x2 x3 x4 x5 = some R → AR p l e 1 21 s m args below meth c D dA ad lo n 7 A (some (.int R)) M 12 [(0, .ref a0), (1, .int x1), (2, .int x2), (3, .int x3), (4, .int x4), (5, .int x5)] [] M) : ∀ (x1 : Int32) (x2 : Int32) (x3 : Int32) (x5 : Int32) (s0 : Int32) (R : Int32), f_X4_controlLevel_74 a0 M rec12 x1 x2 x3 x5 s0 = some R → AR p l e 1 21 s m args below meth c D dA ad lo n 7 A (some (.int R)) M 74 [(0, .ref a0), (1, .int x1), (2, .int x2), (3, .int x3), (5, .int x5)] [.int s0] M := by
  intro x1 x2 x3 x5 s0 R h
  unfold f_X4_controlLevel_74 at h
  refine AW.istore (ls' := [(4, .int s0), (0, .ref a0), (1, .int x1), (2, .int x2), (3, .int x3), (5, .int x5)]) (pc' := 76) X (by decide) rfl dX4_controlLevel_74 rfl ?_
  refine AW.iinc (k0 := 2) (v := (x1 + 1)) (y := 1) (ls' := [(1, .int (x1 + 1)), (4, .int s0), (0, .ref a0), (2, .int x2), (3, .int x3), (5, .int x5)]) (pc' := 79) X rfl rfl rfl (by decide) rfl dX4_controlLevel_76 rfl ?_
  refine AW.sub (ls' := [(0, .ref a0), (1, .int (x1 + 1)), (2, .int x2), (3, .int x3), (4, .int s0), (5, .int x5)]) [2, 0, 3, 4, 1, 5] rfl ?_
  exact ok_X4_controlLevel_79 X hr h0 hrec12 (x1 + 1) x2 x3 s0 x5 R h
set_option maxHeartbeats 4000000 in
set_option maxRecDepth 100000 in
theorem ok_X4_controlLevel_121 {a0 : Nat} {M : MM} (X : CX p s m args meth c cX4_controlLevel 7 RX4 D dA ad lo n A) (hr : meth.sig.returnType = (some .int)) (h0 : tSt lo n a0) : ∀ (s0 : Int32) (R : Int32), f_X4_controlLevel_121 a0 M s0 = some R → AR p l e 1 21 s m args below meth c D dA ad lo n 7 A (some (.int R)) M 121 [] [.int s0] M := by
  intro s0 R h
  unfold f_X4_controlLevel_121 at h
  replace h := Option.some.inj h
  subst h
  exact AW.iret X hr dX4_controlLevel_121
set_option maxHeartbeats 4000000 in
set_option maxRecDepth 100000 in
theorem ok_X4_controlLevel_12 {a0 : Nat} {M : MM} (X : CX p s m args meth c cX4_controlLevel 7 RX4 D dA ad lo n A) (hr : meth.sig.returnType = (some .int)) (h0 : tSt lo n a0) : ∀ (k : Nat) (x1 : Int32) (x2 : Int32) (x3 : Int32) (x4 : Int32) (x5 : Int32) (R : Int32), f_X4_controlLevel_12 a0 M k x1 x2 x3 x4 x5 = some R → AR p l e 1 21 s m args below meth c D dA ad lo n 7 A (some (.int R)) M 12 [(0, .ref a0), (1, .int x1), (2, .int x2), (3, .int x3), (4, .int x4), (5, .int x5)] [] M := by
  intro k
  induction k with
  | zero => intro _ _ _ _ _ R h; exact none_some h
  | succ k ih =>
    intro x1 x2 x3 x4 x5 R h
    unfold f_X4_controlLevel_12 at h
    refine AW.iload (k0 := 5) (pc' := 14) X rfl dX4_controlLevel_12 rfl ?_
    refine AW.aload_n (k0 := 0) (pc' := 15) X rfl rfl dX4_controlLevel_14 rfl ?_
    refine AW.gX4 (v := .int (M a0 3)) (pc' := 18) X h0 3 (by decide) rfl mf_X4_72 rfl dX4_controlLevel_15 rfl ?_
    refine AW.icmp_ge (pc' := 21) (tgt := 85) X dX4_controlLevel_18 rfl rfl (fun q1 => ?_) (fun q1 => ?_)
    · replace h := itep q1 h
      refine AW.aload_n (k0 := 0) (pc' := 86) X rfl rfl dX4_controlLevel_85 rfl ?_
      refine AW.gX4 (v := .ref (a0 + 7)) (pc' := 89) X h0 4 (by decide) rfl mf_X4_31 rfl dX4_controlLevel_86 rfl ?_
      refine AW.iconst (v := 0) (pc' := 90) X rfl dX4_controlLevel_89 rfl ?_
      obtain ⟨g2, h⟩ := gd_some h
      refine AW.iald (pc' := 91) X (rS7 h0) (inb_vp g2) dX4_controlLevel_90 rfl ?_
      refine AW.iconst (v := 1) (pc' := 92) X rfl dX4_controlLevel_91 rfl ?_
      refine AW.icmp_ne (pc' := 95) (tgt := 97) X dX4_controlLevel_92 rfl rfl (fun q3 => ?_) (fun q3 => ?_)
      · replace h := iten q3 h
        refine AW.aload_n (k0 := 0) (pc' := 98) X rfl rfl dX4_controlLevel_97 rfl ?_
        refine AW.gX4 (v := .ref (a0 + 7)) (pc' := 101) X h0 4 (by decide) rfl mf_X4_31 rfl dX4_controlLevel_98 rfl ?_
        refine AW.iconst (v := 0) (pc' := 102) X rfl dX4_controlLevel_101 rfl ?_
        obtain ⟨g4, h⟩ := gd_some h
        refine AW.iald (pc' := 103) X (rS7 h0) (inb_vp g4) dX4_controlLevel_102 rfl ?_
        refine AW.iconst (v := 2) (pc' := 104) X rfl dX4_controlLevel_103 rfl ?_
        refine AW.icmp_ne (pc' := 107) (tgt := 110) X dX4_controlLevel_104 rfl rfl (fun q5 => ?_) (fun q5 => ?_)
        · replace h := iten q5 h
          refine AW.iload_n (k0 := 1) (pc' := 111) X rfl rfl dX4_controlLevel_110 rfl ?_
          refine AW.if_le (pc' := 114) (tgt := 120) X dX4_controlLevel_111 rfl rfl (fun q6 => ?_) (fun q6 => ?_)
          · replace h := itep q6 h
            refine AW.iconst (v := 0) (pc' := 121) X rfl dX4_controlLevel_120 rfl ?_
            refine AW.sub (ls' := []) [] rfl ?_
            exact ok_X4_controlLevel_121 X hr h0 0 R h
          · replace h := iten q6 h
            refine AW.iload_n (k0 := 2) (pc' := 115) X rfl rfl dX4_controlLevel_114 rfl ?_
            refine AW.iload_n (k0 := 1) (pc' := 116) X rfl rfl dX4_controlLevel_115 rfl ?_
            obtain ⟨g7, h⟩ := gd_some h
            refine AW.idiv (pc' := 117) X (nz_ne g7) dX4_controlLevel_116 rfl ?_
            refine AW.goto (pc' := 121) X dX4_controlLevel_117 rfl ?_
            refine AW.sub (ls' := []) [] rfl ?_
            exact ok_X4_controlLevel_121 X hr h0 (x2 / x1) R h
        · replace h := itep q5 h
          refine AW.iload (k0 := 4) (pc' := 109) X rfl dX4_controlLevel_107 rfl ?_
          replace h := Option.some.inj h
          subst h
          exact AW.iret X hr dX4_controlLevel_109
      · replace h := itep q3 h
        refine AW.iload_n (k0 := 3) (pc' := 96) X rfl rfl dX4_controlLevel_95 rfl ?_
        replace h := Option.some.inj h
        subst h
        exact AW.iret X hr dX4_controlLevel_96
    · replace h := iten q1 h
      refine AW.aload_n (k0 := 0) (pc' := 22) X rfl rfl dX4_controlLevel_21 rfl ?_
      refine AW.gX4 (v := .ref (a0 + 6)) (pc' := 25) X h0 2 (by decide) rfl mf_X4_27 rfl dX4_controlLevel_22 rfl ?_
      refine AW.iload (k0 := 5) (pc' := 27) X rfl dX4_controlLevel_25 rfl ?_
      obtain ⟨g8, h⟩ := gd_some h
      refine AW.aldC (pc' := 28) X (rS6 h0) (inb_vp g8) dX4_controlLevel_27 rfl ?_
      refine AW.gX0 (v := .int (bz (nz (M ((a0 + 6) + 5 + 9 * (ix x5)) 0)))) (pc' := 31) X (rCA (rS6 h0) (inb_lt g8)) 0 (by decide) rfl mf_X4_145 rfl dX4_controlLevel_28 rfl ?_
      refine AW.if_eq (pc' := 34) (tgt := 79) X dX4_controlLevel_31 rfl rfl (fun q9 => ?_) (fun q9 => ?_)
      · replace h := itep q9 h
        exact ok_X4_controlLevel_79 X hr h0 ih x1 x2 x3 x4 x5 R h
      · replace h := iten q9 h
        refine AW.aload_n (k0 := 0) (pc' := 35) X rfl rfl dX4_controlLevel_34 rfl ?_
        refine AW.gX4 (v := .ref (a0 + 6)) (pc' := 38) X h0 2 (by decide) rfl mf_X4_27 rfl dX4_controlLevel_35 rfl ?_
        refine AW.iload (k0 := 5) (pc' := 40) X rfl dX4_controlLevel_38 rfl ?_
        obtain ⟨g10, h⟩ := gd_some h
        refine AW.aldC (pc' := 41) X (rS6 h0) (inb_vp g10) dX4_controlLevel_40 rfl ?_
        refine AW.gX0 (v := .int (M ((a0 + 6) + 5 + 9 * (ix x5)) 12)) (pc' := 44) X (rCA (rS6 h0) (inb_lt g10)) 12 (by decide) rfl mf_X4_191 rfl dX4_controlLevel_41 rfl ?_
        refine AW.istore (ls' := [(6, .int (M ((a0 + 6) + 5 + 9 * (ix x5)) 12)), (0, .ref a0), (1, .int x1), (2, .int x2), (3, .int x3), (4, .int x4), (5, .int x5)]) (pc' := 46) X (by decide) rfl dX4_controlLevel_44 rfl ?_
        refine AW.iload_n (k0 := 3) (pc' := 47) X rfl rfl dX4_controlLevel_46 rfl ?_
        refine AW.iload (k0 := 0) (pc' := 49) X rfl dX4_controlLevel_47 rfl ?_
        refine AW.iadd (pc' := 50) X dX4_controlLevel_49 rfl ?_
        refine AW.istore_n (ls' := [(2, .int (x2 + (M ((a0 + 6) + 5 + 9 * (ix x5)) 12))), (6, .int (M ((a0 + 6) + 5 + 9 * (ix x5)) 12)), (0, .ref a0), (1, .int x1), (3, .int x3), (4, .int x4), (5, .int x5)]) (pc' := 51) X rfl (by decide) rfl dX4_controlLevel_50 rfl ?_
        refine AW.iload_n (k0 := 4) (pc' := 52) X rfl rfl dX4_controlLevel_51 rfl ?_
        refine AW.iload (k0 := 1) (pc' := 54) X rfl dX4_controlLevel_52 rfl ?_
        refine AW.mmax (pc' := 57) X ⟨by decide, by decide, by decide, by decide⟩ (Nat.le_of_ble_eq_true rfl) ml_X4_194 dX4_controlLevel_54 rfl ?_
        refine AW.istore_n (ls' := [(3, .int (if x3 < (M ((a0 + 6) + 5 + 9 * (ix x5)) 12) then (M ((a0 + 6) + 5 + 9 * (ix x5)) 12) else x3)), (2, .int (x2 + (M ((a0 + 6) + 5 + 9 * (ix x5)) 12))), (6, .int (M ((a0 + 6) + 5 + 9 * (ix x5)) 12)), (0, .ref a0), (1, .int x1), (4, .int x4), (5, .int x5)]) (pc' := 58) X rfl (by decide) rfl dX4_controlLevel_57 rfl ?_
        refine AW.iload_n (k0 := 4) (pc' := 59) X rfl rfl dX4_controlLevel_58 rfl ?_
        refine AW.if_ne (pc' := 62) (tgt := 67) X dX4_controlLevel_59 rfl rfl (fun q11 => ?_) (fun q11 => ?_)
        · replace h := iten q11 h
          refine AW.iload (k0 := 5) (pc' := 69) X rfl dX4_controlLevel_67 rfl ?_
          refine AW.iload (k0 := 2) (pc' := 71) X rfl dX4_controlLevel_69 rfl ?_
          refine AW.mmin (pc' := 74) X ⟨by decide, by decide, by decide, by decide⟩ (Nat.le_of_ble_eq_true rfl) ml_X4_199 dX4_controlLevel_71 rfl ?_
          refine AW.sub (ls' := [(0, .ref a0), (1, .int x1), (2, .int (x2 + (M ((a0 + 6) + 5 + 9 * (ix x5)) 12))), (3, .int (if x3 < (M ((a0 + 6) + 5 + 9 * (ix x5)) 12) then (M ((a0 + 6) + 5 + 9 * (ix x5)) 12) else x3)), (5, .int x5)]) [3, 4, 1, 0, 6] rfl ?_
          exact ok_X4_controlLevel_74 X hr h0 ih x1 (x2 + (M ((a0 + 6) + 5 + 9 * (ix x5)) 12)) (if x3 < (M ((a0 + 6) + 5 + 9 * (ix x5)) 12) then (M ((a0 + 6) + 5 + 9 * (ix x5)) 12) else x3) x5 (if (M ((a0 + 6) + 5 + 9 * (ix x5)) 12) < x4 then (M ((a0 + 6) + 5 + 9 * (ix x5)) 12) else x4) R h
        · replace h := itep q11 h
          refine AW.iload (k0 := 2) (pc' := 64) X rfl dX4_controlLevel_62 rfl ?_
          refine AW.goto (pc' := 74) X dX4_controlLevel_64 rfl ?_
          refine AW.sub (ls' := [(0, .ref a0), (1, .int x1), (2, .int (x2 + (M ((a0 + 6) + 5 + 9 * (ix x5)) 12))), (3, .int (if x3 < (M ((a0 + 6) + 5 + 9 * (ix x5)) 12) then (M ((a0 + 6) + 5 + 9 * (ix x5)) 12) else x3)), (5, .int x5)]) [3, 4, 1, 0, 6] rfl ?_
          exact ok_X4_controlLevel_74 X hr h0 ih x1 (x2 + (M ((a0 + 6) + 5 + 9 * (ix x5)) 12)) (if x3 < (M ((a0 + 6) + 5 + 9 * (ix x5)) 12) then (M ((a0 + 6) + 5 + 9 * (ix x5)) 12) else x3) x5 (M ((a0 + 6) + 5 + 9 * (ix x5)) 12) R h
set_option maxHeartbeats 4000000 in
set_option maxRecDepth 100000 in
theorem ok_X4_controlLevel {lo n : Nat} {a0 : Nat} {M : MM} {R : Int32} (h0 : tSt lo n a0) (h : f_X4_controlLevel a0 M = some R) : MC yX4_controlLevel cX4_controlLevel 7 (some .int) 1 21 lo n [.ref a0] M (some (.int R)) M := by
  refine MC.of (ls0 := [(0, .ref a0)]) (by decide) rfl (fun _ => Nat.le_of_ble_eq_true rfl) (fun p l e s m args below meth c D dA ad A X hr => ?_)
  replace X : CX p s m args meth c cX4_controlLevel 7 RX4 D dA ad lo n A := X
  unfold f_X4_controlLevel at h
  refine AW.iconst (v := 0) (pc' := 1) X rfl dX4_controlLevel_0 rfl ?_
  refine AW.istore_n (ls' := [(1, .int 0), (0, .ref a0)]) (pc' := 2) X rfl (by decide) rfl dX4_controlLevel_1 rfl ?_
  refine AW.iconst (v := 0) (pc' := 3) X rfl dX4_controlLevel_2 rfl ?_
  refine AW.istore_n (ls' := [(2, .int 0), (1, .int 0), (0, .ref a0)]) (pc' := 4) X rfl (by decide) rfl dX4_controlLevel_3 rfl ?_
  refine AW.iconst (v := 0) (pc' := 5) X rfl dX4_controlLevel_4 rfl ?_
  refine AW.istore_n (ls' := [(3, .int 0), (2, .int 0), (1, .int 0), (0, .ref a0)]) (pc' := 6) X rfl (by decide) rfl dX4_controlLevel_5 rfl ?_
  refine AW.iconst (v := 0) (pc' := 7) X rfl dX4_controlLevel_6 rfl ?_
  refine AW.istore (ls' := [(4, .int 0), (3, .int 0), (2, .int 0), (1, .int 0), (0, .ref a0)]) (pc' := 9) X (by decide) rfl dX4_controlLevel_7 rfl ?_
  refine AW.iconst (v := 0) (pc' := 10) X rfl dX4_controlLevel_9 rfl ?_
  refine AW.istore (ls' := [(5, .int 0), (4, .int 0), (3, .int 0), (2, .int 0), (1, .int 0), (0, .ref a0)]) (pc' := 12) X (by decide) rfl dX4_controlLevel_10 rfl ?_
  refine AW.sub (ls' := [(0, .ref a0), (1, .int 0), (2, .int 0), (3, .int 0), (4, .int 0), (5, .int 0)]) [5, 4, 3, 2, 1, 0] rfl ?_
  exact ok_X4_controlLevel_12 X hr h0 FU 0 0 0 0 0 R h
set_option maxHeartbeats 4000000 in
set_option maxRecDepth 100000 in
theorem ok_X4_measureLevels_9 {a0 : Nat} (X : CX p s m args meth c cX4_measureLevels 5 RX4 D dA ad lo n A) (hr : meth.sig.returnType = (some .int)) (h0 : tSt lo n a0) : ∀ (k : Nat) (x1 : Int32) (x2 : Int32) (x3 : Int32) (M : MM) (R : (Int32 × MM)), f_X4_measureLevels_9 a0 k x1 x2 x3 M = some R → AR p l e 2 54 s m args below meth c D dA ad lo n 5 A (some (.int R.1)) R.2 9 [(0, .ref a0), (1, .int x1), (2, .int x2), (3, .int x3)] [] M := by
  intro k
  induction k with
  | zero => intro _ _ _ _ R h; exact none_some h
  | succ k ih =>
    intro x1 x2 x3 M R h
    unfold f_X4_measureLevels_9 at h
    refine AW.iload_n (k0 := 3) (pc' := 10) X rfl rfl dX4_measureLevels_9 rfl ?_
    refine AW.aload_n (k0 := 0) (pc' := 11) X rfl rfl dX4_measureLevels_10 rfl ?_
    refine AW.gX4 (v := .int (M a0 3)) (pc' := 14) X h0 3 (by decide) rfl mf_X4_72 rfl dX4_measureLevels_11 rfl ?_
    refine AW.icmp_ge (pc' := 17) (tgt := 42) X dX4_measureLevels_14 rfl rfl (fun q1 => ?_) (fun q1 => ?_)
    · replace h := itep q1 h
      refine AW.aload_n (k0 := 0) (pc' := 43) X rfl rfl dX4_measureLevels_42 rfl ?_
      obtain ⟨v2, c2, h⟩ := Option.bind_eq_some_iff.mp h
      refine AW.callV (As := []) (rest := []) (rv := (some (.int v2))) (M' := M) (pc' := 46) X (ok_X4_controlLevel h0 c2) yv_X4_controlLevel h0.1 h0.2.1 (cS h0 dA ad _) rfl rfl ml_X4_182 ⟨by decide, by decide, by decide, by decide⟩ rfl (Nat.le_of_ble_eq_true rfl) rfl rfl dX4_measureLevels_43 rfl ?_
      refine AW.istore_n (ls' := [(3, .int v2), (0, .ref a0), (1, .int x1), (2, .int x2)]) (pc' := 47) X rfl (by decide) rfl dX4_measureLevels_46 rfl ?_
      refine AW.iload_n (k0 := 0) (pc' := 48) X rfl rfl dX4_measureLevels_47 rfl ?_
      refine AW.aload_n (k0 := 1) (pc' := 49) X rfl rfl dX4_measureLevels_48 rfl ?_
      refine AW.gX4 (v := .int (M a0 10)) (pc' := 52) X h0 10 (by decide) rfl mf_X4_141 rfl dX4_measureLevels_49 rfl ?_
      obtain ⟨v3, c3, h⟩ := Option.bind_eq_some_iff.mp h
      refine AW.callN (As := [.int v2, .int (M a0 10)]) (rest := []) (rv := (some (.int v3))) (M' := M) (pc' := 55) X (ok_X6_measuredGain c3) yv_X6_measuredGain mn_X4_185 ⟨by decide, by decide, by decide, by decide⟩ rfl (Nat.le_of_ble_eq_true rfl) rfl rfl dX4_measureLevels_52 rfl ?_
      refine AW.istore (ls' := [(4, .int v3), (3, .int v2), (0, .ref a0), (1, .int x1), (2, .int x2)]) (pc' := 57) X (by decide) rfl dX4_measureLevels_55 rfl ?_
      refine AW.aload_n (k0 := 2) (pc' := 58) X rfl rfl dX4_measureLevels_57 rfl ?_
      refine AW.gX4 (v := .ref (a0 + 8)) (pc' := 61) X h0 5 (by decide) rfl mf_X4_35 rfl dX4_measureLevels_58 rfl ?_
      refine AW.aload_n (k0 := 2) (pc' := 62) X rfl rfl dX4_measureLevels_61 rfl ?_
      refine AW.gX4 (v := .int (M a0 9)) (pc' := 65) X h0 9 (by decide) rfl mf_X4_114 rfl dX4_measureLevels_62 rfl ?_
      refine AW.aload_n (k0 := 2) (pc' := 66) X rfl rfl dX4_measureLevels_65 rfl ?_
      refine AW.gX4 (v := .ref (a0 + 8)) (pc' := 69) X h0 5 (by decide) rfl mf_X4_35 rfl dX4_measureLevels_66 rfl ?_
      refine AW.aload_n (k0 := 2) (pc' := 70) X rfl rfl dX4_measureLevels_69 rfl ?_
      refine AW.gX4 (v := .int (M a0 9)) (pc' := 73) X h0 9 (by decide) rfl mf_X4_114 rfl dX4_measureLevels_70 rfl ?_
      obtain ⟨g4, h⟩ := gd_some h
      refine AW.iald (pc' := 74) X (rS8 h0) (inb_vp g4) dX4_measureLevels_73 rfl ?_
      refine AW.iload (k0 := 0) (pc' := 76) X rfl dX4_measureLevels_74 rfl ?_
      refine AW.iload_n (k0 := 4) (pc' := 77) X rfl rfl dX4_measureLevels_76 rfl ?_
      obtain ⟨v5, c5, h⟩ := Option.bind_eq_some_iff.mp h
      refine AW.callN (As := [.int (M (a0 + 8) (ix (M a0 9))), .int v3, .int x2]) (rest := [.int (M a0 9), .ref (a0 + 8)]) (rv := (some (.int v5))) (M' := M) (pc' := 80) X (ok_X6_averagedGain c5) yv_X6_averagedGain mn_X4_188 ⟨by decide, by decide, by decide, by decide⟩ rfl (Nat.le_of_ble_eq_true rfl) rfl rfl dX4_measureLevels_77 rfl ?_
      obtain ⟨g6, h⟩ := gd_some h
      refine AW.iast (pc' := 81) X (rS8 h0) (inb_vp g6) dX4_measureLevels_80 rfl ?_
      refine AW.iload_n (k0 := 1) (pc' := 82) X rfl rfl dX4_measureLevels_81 rfl ?_
      replace h := Option.some.inj h
      subst h
      exact AW.iret X hr dX4_measureLevels_82
    · replace h := iten q1 h
      refine AW.aload_n (k0 := 0) (pc' := 18) X rfl rfl dX4_measureLevels_17 rfl ?_
      refine AW.gX4 (v := .ref (a0 + 6)) (pc' := 21) X h0 2 (by decide) rfl mf_X4_27 rfl dX4_measureLevels_18 rfl ?_
      refine AW.iload_n (k0 := 3) (pc' := 22) X rfl rfl dX4_measureLevels_21 rfl ?_
      obtain ⟨g7, h⟩ := gd_some h
      refine AW.aldC (pc' := 23) X (rS6 h0) (inb_vp g7) dX4_measureLevels_22 rfl ?_
      refine AW.aload_n (k0 := 0) (pc' := 24) X rfl rfl dX4_measureLevels_23 rfl ?_
      refine AW.gX4 (v := .int (M a0 9)) (pc' := 27) X h0 9 (by decide) rfl mf_X4_114 rfl dX4_measureLevels_24 rfl ?_
      refine AW.iload_n (k0 := 1) (pc' := 28) X rfl rfl dX4_measureLevels_27 rfl ?_
      refine AW.aload_n (k0 := 0) (pc' := 29) X rfl rfl dX4_measureLevels_28 rfl ?_
      refine AW.gX4 (v := .int (M a0 10)) (pc' := 32) X h0 10 (by decide) rfl mf_X4_141 rfl dX4_measureLevels_29 rfl ?_
      refine AW.iload_n (k0 := 2) (pc' := 33) X rfl rfl dX4_measureLevels_32 rfl ?_
      obtain ⟨v8, c8, h⟩ := Option.bind_eq_some_iff.mp h
      refine AW.callV (As := [.int (M a0 9), .int x1, .int (M a0 10), .int x2]) (rest := []) (rv := none) (M' := v8) (pc' := 36) X (ok_X0_measure (rCA (rS6 h0) (inb_lt g7)) c8) yv_X0_measure (rCA (rS6 h0) (inb_lt g7)).1 (rCA (rS6 h0) (inb_lt g7)).2.1 (cC (rCA (rS6 h0) (inb_lt g7)) dA ad _) rfl rfl ml_X4_178 ⟨by decide, by decide, by decide, by decide⟩ rfl (Nat.le_of_ble_eq_true rfl) rfl rfl dX4_measureLevels_33 rfl ?_
      refine AW.iinc (k0 := 3) (v := (x3 + 1)) (y := 1) (ls' := [(3, .int (x3 + 1)), (0, .ref a0), (1, .int x1), (2, .int x2)]) (pc' := 39) X rfl rfl rfl (by decide) rfl dX4_measureLevels_36 rfl ?_
      refine AW.goto (pc' := 9) X dX4_measureLevels_39 rfl ?_
      refine AW.sub (ls' := [(0, .ref a0), (1, .int x1), (2, .int x2), (3, .int (x3 + 1))]) [1, 2, 3, 0] rfl ?_
      exact ih x1 x2 (x3 + 1) v8 R h
set_option maxHeartbeats 4000000 in
set_option maxRecDepth 100000 in
theorem ok_X4_measureLevels {lo n : Nat} {a0 : Nat} {x1 : Int32} {M : MM} {R : (Int32 × MM)} (h0 : tSt lo n a0) (h : f_X4_measureLevels a0 x1 M = some R) : MC yX4_measureLevels cX4_measureLevels 5 (some .int) 2 54 lo n [.ref a0, .int x1] M (some (.int R.1)) R.2 := by
  refine MC.of (ls0 := [(0, .ref a0), (1, .int x1)]) (by decide) rfl (fun _ => Nat.le_of_ble_eq_true rfl) (fun p l e s m args below meth c D dA ad A X hr => ?_)
  replace X : CX p s m args meth c cX4_measureLevels 5 RX4 D dA ad lo n A := X
  unfold f_X4_measureLevels at h
  refine AW.aload_n (k0 := 0) (pc' := 1) X rfl rfl dX4_measureLevels_0 rfl ?_
  refine AW.gX4 (v := .ref (a0 + 7)) (pc' := 4) X h0 4 (by decide) rfl mf_X4_31 rfl dX4_measureLevels_1 rfl ?_
  refine AW.iconst (v := 1) (pc' := 5) X rfl dX4_measureLevels_4 rfl ?_
  obtain ⟨g1, h⟩ := gd_some h
  refine AW.iald (pc' := 6) X (rS7 h0) (inb_vp g1) dX4_measureLevels_5 rfl ?_
  refine AW.istore_n (ls' := [(2, .int (M (a0 + 7) (ix 1))), (0, .ref a0), (1, .int x1)]) (pc' := 7) X rfl (by decide) rfl dX4_measureLevels_6 rfl ?_
  refine AW.iconst (v := 0) (pc' := 8) X rfl dX4_measureLevels_7 rfl ?_
  refine AW.istore_n (ls' := [(3, .int 0), (2, .int (M (a0 + 7) (ix 1))), (0, .ref a0), (1, .int x1)]) (pc' := 9) X rfl (by decide) rfl dX4_measureLevels_8 rfl ?_
  refine AW.sub (ls' := [(0, .ref a0), (1, .int x1), (2, .int (M (a0 + 7) (ix 1))), (3, .int 0)]) [2, 3, 1, 0] rfl ?_
  exact ok_X4_measureLevels_9 X hr h0 FU x1 (M (a0 + 7) (ix 1)) 0 M R h
set_option maxHeartbeats 4000000 in
set_option maxRecDepth 100000 in
theorem ok_X4_countLoop_61 {a0 : Nat} (X : CX p s m args meth c cX4_countLoop 5 RX4 D dA ad lo n A) (hr : meth.sig.returnType = (some .int)) (h0 : tSt lo n a0) {rec5 : Int32 → Int32 → Int32 → MM → Option (Int32 × MM)} (hrec5 : ∀ (x1 : Int32) (x2 : Int32) (x3 : Int32) (M : MM) (R : (Int32 × MM)), rec5 x1 x2 x3 M = some R → AR p l e 2 47 s m args below meth c D dA ad lo n 5 A (some (.int R.1)) R.2 5 [(0, .ref a0), (1, .int x1), (2, .int x2), (3, .int x3)] [] M) : ∀ (x1 : Int32) (x2 : Int32) (x3 : Int32) (M : MM) (R : (Int32 × MM)), f_X4_countLoop_61 a0 rec5 x1 x2 x3 M = some R → AR p l e 2 47 s m args below meth c D dA ad lo n 5 A (some (.int R.1)) R.2 61 [(0, .ref a0), (1, .int x1), (2, .int x2), (3, .int x3)] [] M := by
  intro x1 x2 x3 M R h
  unfold f_X4_countLoop_61 at h
  refine AW.iinc (k0 := 3) (v := (x3 + 1)) (y := 1) (ls' := [(3, .int (x3 + 1)), (0, .ref a0), (1, .int x1), (2, .int x2)]) (pc' := 64) X rfl rfl rfl (by decide) rfl dX4_countLoop_61 rfl ?_
  refine AW.goto (pc' := 5) X dX4_countLoop_64 rfl ?_
  refine AW.sub (ls' := [(0, .ref a0), (1, .int x1), (2, .int x2), (3, .int (x3 + 1))]) [1, 2, 3, 0] rfl ?_
  exact hrec5 x1 x2 (x3 + 1) M R h
set_option maxHeartbeats 4000000 in
set_option maxRecDepth 100000 in
theorem ok_X4_countLoop_46 {a0 : Nat} (X : CX p s m args meth c cX4_countLoop 5 RX4 D dA ad lo n A) (hr : meth.sig.returnType = (some .int)) (h0 : tSt lo n a0) {rec5 : Int32 → Int32 → Int32 → MM → Option (Int32 × MM)} (hrec5 : ∀ (x1 : Int32) (x2 : Int32) (x3 : Int32) (M : MM) (R : (Int32 × MM)), rec5 x1 x2 x3 M = some R → AR p l e 2 47 s m args below meth c D dA ad lo n 5 A (some (.int R.1)) R.2 5 [(0, .ref a0), (1, .int x1), (2, .int x2), (3, .int x3)] [] M) : ∀ (x1 : Int32) (x2 : Int32) (x3 : Int32) (sb0 : Bool) (M : MM) (R : (Int32 × MM)), f_X4_countLoop_46 a0 rec5 x1 x2 x3 sb0 M = some R → AR p l e 2 47 s m args below meth c D dA ad lo n 5 A (some (.int R.1)) R.2 46 [(0, .ref a0), (1, .int x1), (2, .int x2), (3, .int x3)] [.int (bz sb0)] M := by
  intro x1 x2 x3 sb0 M R h
  unfold f_X4_countLoop_46 at h
  refine AW.istore (ls' := [(4, .int (bz sb0)), (0, .ref a0), (1, .int x1), (2, .int x2), (3, .int x3)]) (pc' := 48) X (by decide) rfl dX4_countLoop_46 rfl ?_
  refine AW.iload (k0 := 0) (pc' := 50) X rfl dX4_countLoop_48 rfl ?_
  refine AW.if_eq (pc' := 53) (tgt := 61) X dX4_countLoop_50 rfl rfl (fun q1 => ?_) (fun q1 => ?_)
  · replace h := itep q1 h
    refine AW.sub (ls' := [(0, .ref a0), (1, .int x1), (2, .int x2), (3, .int x3)]) [1, 2, 3, 4] rfl ?_
    exact ok_X4_countLoop_61 X hr h0 hrec5 x1 x2 x3 M R h
  · replace h := iten q1 h
    refine AW.iload_n (k0 := 3) (pc' := 54) X rfl rfl dX4_countLoop_53 rfl ?_
    refine AW.bipush (v := (-6)) (pc' := 56) X rfl dX4_countLoop_54 rfl ?_
    refine AW.icmp_ne (pc' := 59) (tgt := 61) X dX4_countLoop_56 rfl rfl (fun q2 => ?_) (fun q2 => ?_)
    · replace h := iten q2 h
      refine AW.sub (ls' := [(0, .ref a0), (1, .int x1), (2, .int x2), (3, .int x3)]) [1, 2, 3, 4] rfl ?_
      exact ok_X4_countLoop_61 X hr h0 hrec5 x1 x2 x3 M R h
    · replace h := itep q2 h
      refine AW.iload_n (k0 := 4) (pc' := 60) X rfl rfl dX4_countLoop_59 rfl ?_
      refine AW.istore_n (ls' := [(2, .int x3), (4, .int (bz sb0)), (0, .ref a0), (1, .int x1), (3, .int x3)]) (pc' := 61) X rfl (by decide) rfl dX4_countLoop_60 rfl ?_
      refine AW.sub (ls' := [(0, .ref a0), (1, .int x1), (2, .int x3), (3, .int x3)]) [2, 3, 0, 4] rfl ?_
      exact ok_X4_countLoop_61 X hr h0 hrec5 x1 x3 x3 M R h
set_option maxHeartbeats 4000000 in
set_option maxRecDepth 100000 in
theorem ok_X4_countLoop_5 {a0 : Nat} (X : CX p s m args meth c cX4_countLoop 5 RX4 D dA ad lo n A) (hr : meth.sig.returnType = (some .int)) (h0 : tSt lo n a0) : ∀ (k : Nat) (x1 : Int32) (x2 : Int32) (x3 : Int32) (M : MM) (R : (Int32 × MM)), f_X4_countLoop_5 a0 k x1 x2 x3 M = some R → AR p l e 2 47 s m args below meth c D dA ad lo n 5 A (some (.int R.1)) R.2 5 [(0, .ref a0), (1, .int x1), (2, .int x2), (3, .int x3)] [] M := by
  intro k
  induction k with
  | zero => intro _ _ _ _ R h; exact none_some h
  | succ k ih =>
    intro x1 x2 x3 M R h
    unfold f_X4_countLoop_5 at h
    refine AW.iload_n (k0 := 3) (pc' := 6) X rfl rfl dX4_countLoop_5 rfl ?_
    refine AW.aload_n (k0 := 0) (pc' := 7) X rfl rfl dX4_countLoop_6 rfl ?_
    refine AW.gX4 (v := .int (M a0 3)) (pc' := 10) X h0 3 (by decide) rfl mf_X4_72 rfl dX4_countLoop_7 rfl ?_
    refine AW.icmp_ge (pc' := 13) (tgt := 67) X dX4_countLoop_10 rfl rfl (fun q1 => ?_) (fun q1 => ?_)
    · replace h := itep q1 h
      refine AW.iload_n (k0 := 2) (pc' := 68) X rfl rfl dX4_countLoop_67 rfl ?_
      replace h := Option.some.inj h
      subst h
      exact AW.iret X hr dX4_countLoop_68
    · replace h := iten q1 h
      refine AW.aload_n (k0 := 0) (pc' := 14) X rfl rfl dX4_countLoop_13 rfl ?_
      refine AW.gX4 (v := .ref (a0 + 6)) (pc' := 17) X h0 2 (by decide) rfl mf_X4_27 rfl dX4_countLoop_14 rfl ?_
      refine AW.iload_n (k0 := 3) (pc' := 18) X rfl rfl dX4_countLoop_17 rfl ?_
      obtain ⟨g2, h⟩ := gd_some h
      refine AW.aldC (pc' := 19) X (rS6 h0) (inb_vp g2) dX4_countLoop_18 rfl ?_
      refine AW.iload_n (k0 := 1) (pc' := 20) X rfl rfl dX4_countLoop_19 rfl ?_
      obtain ⟨v3, c3, h⟩ := Option.bind_eq_some_iff.mp h
      refine AW.callV (As := [.int x1]) (rest := []) (rv := none) (M' := v3) (pc' := 23) X (ok_X0_countLoop (rCA (rS6 h0) (inb_lt g2)) c3) yv_X0_countLoop (rCA (rS6 h0) (inb_lt g2)).1 (rCA (rS6 h0) (inb_lt g2)).2.1 (cC (rCA (rS6 h0) (inb_lt g2)) dA ad _) rfl rfl ml_X4_202 ⟨by decide, by decide, by decide, by decide⟩ rfl (Nat.le_of_ble_eq_true rfl) rfl rfl dX4_countLoop_20 rfl ?_
      refine AW.aload_n (k0 := 0) (pc' := 24) X rfl rfl dX4_countLoop_23 rfl ?_
      refine AW.gX4 (v := .ref (a0 + 6)) (pc' := 27) X h0 2 (by decide) rfl mf_X4_27 rfl dX4_countLoop_24 rfl ?_
      refine AW.iload_n (k0 := 3) (pc' := 28) X rfl rfl dX4_countLoop_27 rfl ?_
      obtain ⟨g4, h⟩ := gd_some h
      refine AW.aldC (pc' := 29) X (rS6 h0) (inb_vp g4) dX4_countLoop_28 rfl ?_
      refine AW.gX0 (v := .int (v3 ((a0 + 6) + 5 + 9 * (ix x3)) 17)) (pc' := 32) X (rCA (rS6 h0) (inb_lt g4)) 17 (by decide) rfl mf_X4_204 rfl dX4_countLoop_29 rfl ?_
      refine AW.aload_n (k0 := 0) (pc' := 33) X rfl rfl dX4_countLoop_32 rfl ?_
      refine AW.gX4 (v := .ref (a0 + 7)) (pc' := 36) X h0 4 (by decide) rfl mf_X4_31 rfl dX4_countLoop_33 rfl ?_
      refine AW.iconst (v := 2) (pc' := 37) X rfl dX4_countLoop_36 rfl ?_
      obtain ⟨g5, h⟩ := gd_some h
      refine AW.iald (pc' := 38) X (rS7 h0) (inb_vp g5) dX4_countLoop_37 rfl ?_
      refine AW.icmp_lt (pc' := 41) (tgt := 45) X dX4_countLoop_38 rfl rfl (fun q6 => ?_) (fun q6 => ?_)
      · replace h := itep q6 h
        refine AW.iconst (v := 0) (pc' := 46) X rfl dX4_countLoop_45 rfl ?_
        exact ok_X4_countLoop_46 X hr h0 ih x1 x2 x3 false v3 R h
      · replace h := iten q6 h
        refine AW.iconst (v := 1) (pc' := 42) X rfl dX4_countLoop_41 rfl ?_
        refine AW.goto (pc' := 46) X dX4_countLoop_42 rfl ?_
        exact ok_X4_countLoop_46 X hr h0 ih x1 x2 x3 true v3 R h
set_option maxHeartbeats 4000000 in
set_option maxRecDepth 100000 in
theorem ok_X4_countLoop {lo n : Nat} {a0 : Nat} {x1 : Int32} {M : MM} {R : (Int32 × MM)} (h0 : tSt lo n a0) (h : f_X4_countLoop a0 x1 M = some R) : MC yX4_countLoop cX4_countLoop 5 (some .int) 2 47 lo n [.ref a0, .int x1] M (some (.int R.1)) R.2 := by
  refine MC.of (ls0 := [(0, .ref a0), (1, .int x1)]) (by decide) rfl (fun _ => Nat.le_of_ble_eq_true rfl) (fun p l e s m args below meth c D dA ad A X hr => ?_)
  replace X : CX p s m args meth c cX4_countLoop 5 RX4 D dA ad lo n A := X
  unfold f_X4_countLoop at h
  refine AW.bipush (v := (-6)) (pc' := 2) X rfl dX4_countLoop_0 rfl ?_
  refine AW.istore_n (ls' := [(2, .int (-6)), (0, .ref a0), (1, .int x1)]) (pc' := 3) X rfl (by decide) rfl dX4_countLoop_2 rfl ?_
  refine AW.iconst (v := 0) (pc' := 4) X rfl dX4_countLoop_3 rfl ?_
  refine AW.istore_n (ls' := [(3, .int 0), (2, .int (-6)), (0, .ref a0), (1, .int x1)]) (pc' := 5) X rfl (by decide) rfl dX4_countLoop_4 rfl ?_
  refine AW.sub (ls' := [(0, .ref a0), (1, .int x1), (2, .int (-6)), (3, .int 0)]) [2, 3, 1, 0] rfl ?_
  exact ok_X4_countLoop_5 X hr h0 FU x1 (-6) 0 M R h
end OK
