/-! each method does what its function says: by program, a row an instruction -/
section OK
variable {p : Program} {l : Launch} {e : Env} {s : State} {m : MethodId} {args : Array Value} {below : List Frame} {meth : Method} {c : Code} {D : va_G} {dA : Nat → ClassId} {ad : Nat → Nat} {lo n : Nat} {A : Nat → Prop}
set_option maxHeartbeats 4000000 in
set_option maxRecDepth 100000 in
theorem ok_X4_lineAhead_22 {a0 : Nat} {M : MM} (X : CX p s m args meth c cX4_lineAhead 1 RX4 D dA ad lo n A) (hr : meth.sig.returnType = (some .int)) (h0 : tSt lo n a0) : ∀ (s0 : Int32) (R : Int32), f_X4_lineAhead_22 a0 M s0 = some R → AR p l e 0 0 s m args below meth c D dA ad lo n 1 A (some (.int R)) M 22 [] [.int s0] M := by
  intro s0 R h
  unfold f_X4_lineAhead_22 at h
  replace h := Option.some.inj h
  subst h
  exact AW.iret X hr dX4_lineAhead_22
set_option maxHeartbeats 4000000 in
set_option maxRecDepth 100000 in
theorem ok_X4_lineAhead {lo n : Nat} {a0 : Nat} {M : MM} {R : Int32} (h0 : tSt lo n a0) (h : f_X4_lineAhead a0 M = some R) : MC yX4_lineAhead cX4_lineAhead 1 (some .int) 0 0 lo n [.ref a0] M (some (.int R)) M := by
  refine MC.of (ls0 := [(0, .ref a0)]) (by decide) rfl (fun _ => Nat.le_of_ble_eq_true rfl) (fun p l e s m args below meth c D dA ad A X hr => ?_)
  replace X : CX p s m args meth c cX4_lineAhead 1 RX4 D dA ad lo n A := X
  unfold f_X4_lineAhead at h
  refine AW.aload_n (k0 := 0) (pc' := 1) X rfl rfl dX4_lineAhead_0 rfl ?_
  refine AW.gX4 (v := .int (bz (nz (M a0 11)))) (pc' := 4) X h0 11 (by decide) rfl mf_X4_86 rfl dX4_lineAhead_1 rfl ?_
  refine AW.if_eq (pc' := 7) (tgt := 16) X dX4_lineAhead_4 rfl rfl (fun q1 => ?_) (fun q1 => ?_)
  · replace h := itep q1 h
    refine AW.aload_n (k0 := 0) (pc' := 17) X rfl rfl dX4_lineAhead_16 rfl ?_
    refine AW.gX4 (v := .int (M a0 9)) (pc' := 20) X h0 9 (by decide) rfl mf_X4_114 rfl dX4_lineAhead_17 rfl ?_
    refine AW.iconst (v := 1) (pc' := 21) X rfl dX4_lineAhead_20 rfl ?_
    refine AW.isub (pc' := 22) X dX4_lineAhead_21 rfl ?_
    refine AW.sub (ls' := []) [] rfl ?_
    exact ok_X4_lineAhead_22 X hr h0 ((M a0 9) - 1) R h
  · replace h := iten q1 h
    refine AW.aload_n (k0 := 0) (pc' := 8) X rfl rfl dX4_lineAhead_7 rfl ?_
    refine AW.gX4 (v := .int (M a0 9)) (pc' := 11) X h0 9 (by decide) rfl mf_X4_114 rfl dX4_lineAhead_8 rfl ?_
    refine AW.iconst (v := 1) (pc' := 12) X rfl dX4_lineAhead_11 rfl ?_
    refine AW.iadd (pc' := 13) X dX4_lineAhead_12 rfl ?_
    refine AW.goto (pc' := 22) X dX4_lineAhead_13 rfl ?_
    refine AW.sub (ls' := []) [] rfl ?_
    exact ok_X4_lineAhead_22 X hr h0 ((M a0 9) + 1) R h
set_option maxHeartbeats 4000000 in
set_option maxRecDepth 100000 in
theorem ok_X4_nextLine_78 {a0 : Nat} (X : CX p s m args meth c cX4_nextLine 3 RX4 D dA ad lo n A) (hr : meth.sig.returnType = (some .int)) (h0 : tSt lo n a0) : ∀ (s0 : Int32) (M : MM) (R : (Int32 × MM)), f_X4_nextLine_78 a0 s0 M = some R → AR p l e 2 43 s m args below meth c D dA ad lo n 3 A (some (.int R.1)) R.2 78 [] [.int s0] M := by
  intro s0 M R h
  unfold f_X4_nextLine_78 at h
  replace h := Option.some.inj h
  subst h
  exact AW.iret X hr dX4_nextLine_78
set_option maxHeartbeats 4000000 in
set_option maxRecDepth 100000 in
theorem ok_X4_nextLine_54 {a0 : Nat} (X : CX p s m args meth c cX4_nextLine 3 RX4 D dA ad lo n A) (hr : meth.sig.returnType = (some .int)) (h0 : tSt lo n a0) : ∀ (sb0 : Bool) (M : MM) (R : (Int32 × MM)), f_X4_nextLine_54 a0 sb0 M = some R → AR p l e 2 43 s m args below meth c D dA ad lo n 3 A (some (.int R.1)) R.2 54 [(0, .ref a0)] [.int (bz sb0), .ref a0] M := by
  intro sb0 M R h
  unfold f_X4_nextLine_54 at h
  refine AW.zX4 (b := sb0) (pc' := 57) X h0 11 (by decide) rfl mf_X4_86 rfl rfl (by simp [fsS, upd, nz_bz]) (Nat.le_of_ble_eq_true rfl) dX4_nextLine_54 rfl ?_
  refine AW.aload_n (k0 := 0) (pc' := 58) X rfl rfl dX4_nextLine_57 rfl ?_
  obtain ⟨v1, c1, h⟩ := Option.bind_eq_some_iff.mp h
  refine AW.callV (As := []) (rest := []) (rv := (some (.int v1))) (M' := (ms M a0 11 (bz sb0))) (pc' := 61) X (ok_X4_lineAhead h0 c1) yv_X4_lineAhead h0.1 h0.2.1 (cS h0 dA ad _) rfl rfl ml_X4_207 ⟨by decide, by decide, by decide, by decide⟩ rfl (Nat.le_of_ble_eq_true rfl) rfl rfl dX4_nextLine_58 rfl ?_
  refine AW.istore_n (ls' := [(2, .int v1), (0, .ref a0)]) (pc' := 62) X rfl (by decide) rfl dX4_nextLine_61 rfl ?_
  refine AW.aload_n (k0 := 1) (pc' := 63) X rfl rfl dX4_nextLine_62 rfl ?_
  refine AW.iload_n (k0 := 0) (pc' := 64) X rfl rfl dX4_nextLine_63 rfl ?_
  obtain ⟨v2, c2, h⟩ := Option.bind_eq_some_iff.mp h
  refine AW.callV (As := [.int v1]) (rest := []) (rv := (some (.int (bz v2)))) (M' := (ms M a0 11 (bz sb0))) (pc' := 67) X (ok_X4_hasLine h0 c2) yv_X4_hasLine h0.1 h0.2.1 (cS h0 dA ad _) rfl rfl ml_X4_158 ⟨by decide, by decide, by decide, by decide⟩ rfl (Nat.le_of_ble_eq_true rfl) rfl rfl dX4_nextLine_64 rfl ?_
  refine AW.if_eq (pc' := 70) (tgt := 74) X dX4_nextLine_67 rfl rfl (fun q3 => ?_) (fun q3 => ?_)
  · replace h := itep q3 h
    refine AW.aload_n (k0 := 1) (pc' := 75) X rfl rfl dX4_nextLine_74 rfl ?_
    refine AW.gX4 (v := .int ((ms M a0 11 (bz sb0)) a0 9)) (pc' := 78) X h0 9 (by decide) rfl mf_X4_114 rfl dX4_nextLine_75 rfl ?_
    refine AW.sub (ls' := []) [] rfl ?_
    exact ok_X4_nextLine_78 X hr h0 ((ms M a0 11 (bz sb0)) a0 9) (ms M a0 11 (bz sb0)) R h
  · replace h := iten q3 h
    refine AW.iload_n (k0 := 0) (pc' := 71) X rfl rfl dX4_nextLine_70 rfl ?_
    refine AW.goto (pc' := 78) X dX4_nextLine_71 rfl ?_
    refine AW.sub (ls' := []) [] rfl ?_
    exact ok_X4_nextLine_78 X hr h0 v1 (ms M a0 11 (bz sb0)) R h
set_option maxHeartbeats 4000000 in
set_option maxRecDepth 100000 in
theorem ok_X4_nextLine {lo n : Nat} {a0 : Nat} {M : MM} {R : (Int32 × MM)} (h0 : tSt lo n a0) (h : f_X4_nextLine a0 M = some R) : MC yX4_nextLine cX4_nextLine 3 (some .int) 2 43 lo n [.ref a0] M (some (.int R.1)) R.2 := by
  refine MC.of (ls0 := [(0, .ref a0)]) (by decide) rfl (fun _ => Nat.le_of_ble_eq_true rfl) (fun p l e s m args below meth c D dA ad A X hr => ?_)
  replace X : CX p s m args meth c cX4_nextLine 3 RX4 D dA ad lo n A := X
  unfold f_X4_nextLine at h
  refine AW.aload_n (k0 := 0) (pc' := 1) X rfl rfl dX4_nextLine_0 rfl ?_
  obtain ⟨v1, c1, h⟩ := Option.bind_eq_some_iff.mp h
  refine AW.callV (As := []) (rest := []) (rv := (some (.int v1))) (M' := M) (pc' := 4) X (ok_X4_lineAhead h0 c1) yv_X4_lineAhead h0.1 h0.2.1 (cS h0 dA ad _) rfl rfl ml_X4_207 ⟨by decide, by decide, by decide, by decide⟩ rfl (Nat.le_of_ble_eq_true rfl) rfl rfl dX4_nextLine_1 rfl ?_
  refine AW.istore_n (ls' := [(1, .int v1), (0, .ref a0)]) (pc' := 5) X rfl (by decide) rfl dX4_nextLine_4 rfl ?_
  refine AW.aload_n (k0 := 1) (pc' := 6) X rfl rfl dX4_nextLine_5 rfl ?_
  refine AW.iload_n (k0 := 0) (pc' := 7) X rfl rfl dX4_nextLine_6 rfl ?_
  obtain ⟨v2, c2, h⟩ := Option.bind_eq_some_iff.mp h
  refine AW.callV (As := [.int v1]) (rest := []) (rv := (some (.int (bz v2)))) (M' := M) (pc' := 10) X (ok_X4_hasLine h0 c2) yv_X4_hasLine h0.1 h0.2.1 (cS h0 dA ad _) rfl rfl ml_X4_158 ⟨by decide, by decide, by decide, by decide⟩ rfl (Nat.le_of_ble_eq_true rfl) rfl rfl dX4_nextLine_7 rfl ?_
  refine AW.if_eq (pc' := 13) (tgt := 15) X dX4_nextLine_10 rfl rfl (fun q3 => ?_) (fun q3 => ?_)
  · replace h := itep q3 h
    refine AW.aload_n (k0 := 1) (pc' := 16) X rfl rfl dX4_nextLine_15 rfl ?_
    refine AW.dup (pc' := 17) X rfl dX4_nextLine_16 rfl ?_
    refine AW.gX4 (v := .int (M a0 12)) (pc' := 20) X h0 12 (by decide) rfl mf_X4_90 rfl dX4_nextLine_17 rfl ?_
    refine AW.iconst (v := 1) (pc' := 21) X rfl dX4_nextLine_20 rfl ?_
    refine AW.iadd (pc' := 22) X dX4_nextLine_21 rfl ?_
    refine AW.pX4 (pc' := 25) X h0 12 (by decide) rfl mf_X4_90 rfl rfl (by simp [fsS, upd]) (Nat.le_of_ble_eq_true rfl) dX4_nextLine_22 rfl ?_
    refine AW.aload_n (k0 := 1) (pc' := 26) X rfl rfl dX4_nextLine_25 rfl ?_
    refine AW.gX4 (v := .int ((ms M a0 12 ((M a0 12) + 1)) a0 12)) (pc' := 29) X h0 12 (by decide) rfl mf_X4_90 rfl dX4_nextLine_26 rfl ?_
    refine AW.aload_n (k0 := 1) (pc' := 30) X rfl rfl dX4_nextLine_29 rfl ?_
    refine AW.gX4 (v := .ref (a0 + 7)) (pc' := 33) X h0 4 (by decide) rfl mf_X4_31 rfl dX4_nextLine_30 rfl ?_
    refine AW.iconst (v := 5) (pc' := 34) X rfl dX4_nextLine_33 rfl ?_
    obtain ⟨g4, h⟩ := gd_some h
    refine AW.iald (pc' := 35) X (rS7 h0) (inb_vp g4) dX4_nextLine_34 rfl ?_
    refine AW.icmp_lt (pc' := 38) (tgt := 41) X dX4_nextLine_35 rfl rfl (fun q5 => ?_) (fun q5 => ?_)
    · replace h := itep q5 h
      refine AW.aload_n (k0 := 1) (pc' := 42) X rfl rfl dX4_nextLine_41 rfl ?_
      refine AW.aload_n (k0 := 1) (pc' := 43) X rfl rfl dX4_nextLine_42 rfl ?_
      refine AW.gX4 (v := .int (bz (nz ((ms M a0 12 ((M a0 12) + 1)) a0 11)))) (pc' := 46) X h0 11 (by decide) rfl mf_X4_86 rfl dX4_nextLine_43 rfl ?_
      refine AW.if_ne (pc' := 49) (tgt := 53) X dX4_nextLine_46 rfl rfl (fun q6 => ?_) (fun q6 => ?_)
      · replace h := iten q6 h
        refine AW.iconst (v := 0) (pc' := 54) X rfl dX4_nextLine_53 rfl ?_
        refine AW.sub (ls' := [(0, .ref a0)]) [1] rfl ?_
        exact ok_X4_nextLine_54 X hr h0 false (ms M a0 12 ((M a0 12) + 1)) R h
      · replace h := itep q6 h
        refine AW.iconst (v := 1) (pc' := 50) X rfl dX4_nextLine_49 rfl ?_
        refine AW.goto (pc' := 54) X dX4_nextLine_50 rfl ?_
        refine AW.sub (ls' := [(0, .ref a0)]) [1] rfl ?_
        exact ok_X4_nextLine_54 X hr h0 true (ms M a0 12 ((M a0 12) + 1)) R h
    · replace h := iten q5 h
      refine AW.bipush (v := (-6)) (pc' := 40) X rfl dX4_nextLine_38 rfl ?_
      replace h := Option.some.inj h
      subst h
      exact AW.iret X hr dX4_nextLine_40
  · replace h := iten q3 h
    refine AW.iload_n (k0 := 0) (pc' := 14) X rfl rfl dX4_nextLine_13 rfl ?_
    replace h := Option.some.inj h
    subst h
    exact AW.iret X hr dX4_nextLine_14
set_option maxHeartbeats 4000000 in
set_option maxRecDepth 100000 in
theorem ok_X4_wantedDrive {lo n : Nat} {a0 : Nat} {x1 : Int32} {x2 : Int32} {x3 : Int32} {M : MM} {R : Int64} (h0 : tSt lo n a0) (h : f_X4_wantedDrive a0 x1 x2 x3 M = some R) : MC yX4_wantedDrive cX4_wantedDrive 5 (some .long) 0 0 lo n [.ref a0, .int x1, .int x2, .int x3] M (some (.long R)) M := by
  refine MC.of (ls0 := [(0, .ref a0), (1, .int x1), (2, .int x2), (3, .int x3)]) (by decide) rfl (fun _ => Nat.le_of_ble_eq_true rfl) (fun p l e s m args below meth c D dA ad A X hr => ?_)
  replace X : CX p s m args meth c cX4_wantedDrive 5 RX4 D dA ad lo n A := X
  unfold f_X4_wantedDrive at h
  refine AW.aload_n (k0 := 0) (pc' := 1) X rfl rfl dX4_wantedDrive_0 rfl ?_
  refine AW.gX4 (v := .ref (a0 + 8)) (pc' := 4) X h0 5 (by decide) rfl mf_X4_35 rfl dX4_wantedDrive_1 rfl ?_
  refine AW.iload_n (k0 := 1) (pc' := 5) X rfl rfl dX4_wantedDrive_4 rfl ?_
  obtain ⟨g1, h⟩ := gd_some h
  refine AW.iald (pc' := 6) X (rS8 h0) (inb_vp g1) dX4_wantedDrive_5 rfl ?_
  refine AW.istore (ls' := [(4, .int (M (a0 + 8) (ix x1))), (0, .ref a0), (1, .int x1), (2, .int x2), (3, .int x3)]) (pc' := 8) X (by decide) rfl dX4_wantedDrive_6 rfl ?_
  refine AW.iload (k0 := 0) (pc' := 10) X rfl dX4_wantedDrive_8 rfl ?_
  refine AW.if_le (pc' := 13) (tgt := 24) X dX4_wantedDrive_10 rfl rfl (fun q2 => ?_) (fun q2 => ?_)
  · replace h := itep q2 h
    refine AW.iload_n (k0 := 4) (pc' := 25) X rfl rfl dX4_wantedDrive_24 rfl ?_
    refine AW.if_le (pc' := 28) (tgt := 40) X dX4_wantedDrive_25 rfl rfl (fun q3 => ?_) (fun q3 => ?_)
    · replace h := itep q3 h
      refine AW.ldc2 (pc' := 43) X mk_X4_229 dX4_wantedDrive_40 rfl ?_
      refine AW.aload_n (k0 := 1) (pc' := 44) X rfl rfl dX4_wantedDrive_43 rfl ?_
      refine AW.gX4 (v := .int (M a0 10)) (pc' := 47) X h0 10 (by decide) rfl mf_X4_141 rfl dX4_wantedDrive_44 rfl ?_
      refine AW.i2l (pc' := 48) X dX4_wantedDrive_47 rfl ?_
      refine AW.lmul (pc' := 49) X dX4_wantedDrive_48 rfl ?_
      replace h := Option.some.inj h
      subst h
      exact AW.lret X hr dX4_wantedDrive_49
    · replace h := iten q3 h
      refine AW.aload_n (k0 := 1) (pc' := 29) X rfl rfl dX4_wantedDrive_28 rfl ?_
      refine AW.gX4 (v := .int (M a0 10)) (pc' := 32) X h0 10 (by decide) rfl mf_X4_141 rfl dX4_wantedDrive_29 rfl ?_
      refine AW.i2l (pc' := 33) X dX4_wantedDrive_32 rfl ?_
      refine AW.iload_n (k0 := 3) (pc' := 34) X rfl rfl dX4_wantedDrive_33 rfl ?_
      refine AW.i2l (pc' := 35) X dX4_wantedDrive_34 rfl ?_
      refine AW.lmul (pc' := 36) X dX4_wantedDrive_35 rfl ?_
      refine AW.iload_n (k0 := 4) (pc' := 37) X rfl rfl dX4_wantedDrive_36 rfl ?_
      refine AW.i2l (pc' := 38) X dX4_wantedDrive_37 rfl ?_
      obtain ⟨g4, h⟩ := gd_some h
      refine AW.ldiv (pc' := 39) X (nzl_ne g4) dX4_wantedDrive_38 rfl ?_
      replace h := Option.some.inj h
      subst h
      exact AW.lret X hr dX4_wantedDrive_39
  · replace h := iten q2 h
    refine AW.iload_n (k0 := 3) (pc' := 14) X rfl rfl dX4_wantedDrive_13 rfl ?_
    refine AW.i2l (pc' := 15) X dX4_wantedDrive_14 rfl ?_
    refine AW.ldc2 (pc' := 18) X mk_X4_227 dX4_wantedDrive_15 rfl ?_
    refine AW.lmul (pc' := 19) X dX4_wantedDrive_18 rfl ?_
    refine AW.iload (k0 := 0) (pc' := 21) X rfl dX4_wantedDrive_19 rfl ?_
    refine AW.i2l (pc' := 22) X dX4_wantedDrive_21 rfl ?_
    obtain ⟨g5, h⟩ := gd_some h
    refine AW.ldiv (pc' := 23) X (nzl_ne g5) dX4_wantedDrive_22 rfl ?_
    replace h := Option.some.inj h
    subst h
    exact AW.lret X hr dX4_wantedDrive_23
set_option maxHeartbeats 4000000 in
set_option maxRecDepth 100000 in
theorem ok_X4_goTo_129 {a0 : Nat} (X : CX p s m args meth c cX4_goTo 9 RX4 D dA ad lo n A) (hr : meth.sig.returnType = none) (h0 : tSt lo n a0) {rec81 : Int32 → Int32 → Int64 → Int32 → Int32 → MM → Option MM} (hrec81 : ∀ (x1 : Int32) (x3 : Int32) (y4 : Int64) (x6 : Int32) (x7 : Int32) (M : MM) (R : MM), rec81 x1 x3 y4 x6 x7 M = some R → AR p l e 2 48 s m args below meth c D dA ad lo n 9 A none R 81 [(0, .ref a0), (1, .int x1), (3, .int x3), (4, .long (y4)), (6, .int x6), (7, .int x7)] [] M) : ∀ (x1 : Int32) (x3 : Int32) (y4 : Int64) (x6 : Int32) (x7 : Int32) (M : MM) (R : MM), f_X4_goTo_129 a0 rec81 x1 x3 y4 x6 x7 M = some R → AR p l e 2 48 s m args below meth c D dA ad lo n 9 A none R 129 [(0, .ref a0), (1, .int x1), (3, .int x3), (4, .long (y4)), (6, .int x6), (7, .int x7)] [] M := by
  intro x1 x3 y4 x6 x7 M R h
  unfold f_X4_goTo_129 at h
  refine AW.iinc (k0 := 5) (v := (x7 + 1)) (y := 1) (ls' := [(7, .int (x7 + 1)), (0, .ref a0), (1, .int x1), (3, .int x3), (4, .long (y4)), (6, .int x6)]) (pc' := 132) X rfl rfl rfl (by decide) rfl dX4_goTo_129 rfl ?_
  refine AW.goto (pc' := 81) X dX4_goTo_132 rfl ?_
  refine AW.sub (ls' := [(0, .ref a0), (1, .int x1), (3, .int x3), (4, .long (y4)), (6, .int x6), (7, .int (x7 + 1))]) [1, 2, 3, 4, 5, 0] rfl ?_
  exact hrec81 x1 x3 y4 x6 (x7 + 1) M R h
set_option maxHeartbeats 4000000 in
set_option maxRecDepth 100000 in
theorem ok_X4_goTo_81 {a0 : Nat} (X : CX p s m args meth c cX4_goTo 9 RX4 D dA ad lo n A) (hr : meth.sig.returnType = none) (h0 : tSt lo n a0) : ∀ (k : Nat) (x1 : Int32) (x3 : Int32) (y4 : Int64) (x6 : Int32) (x7 : Int32) (M : MM) (R : MM), f_X4_goTo_81 a0 k x1 x3 y4 x6 x7 M = some R → AR p l e 2 48 s m args below meth c D dA ad lo n 9 A none R 81 [(0, .ref a0), (1, .int x1), (3, .int x3), (4, .long (y4)), (6, .int x6), (7, .int x7)] [] M := by
  intro k
  induction k with
  | zero => intro _ _ _ _ _ _ R h; exact none_some h
  | succ k ih =>
    intro x1 x3 y4 x6 x7 M R h
    unfold f_X4_goTo_81 at h
    refine AW.iload (k0 := 5) (pc' := 83) X rfl dX4_goTo_81 rfl ?_
    refine AW.aload_n (k0 := 0) (pc' := 84) X rfl rfl dX4_goTo_83 rfl ?_
    refine AW.gX4 (v := .int (M a0 3)) (pc' := 87) X h0 3 (by decide) rfl mf_X4_72 rfl dX4_goTo_84 rfl ?_
    refine AW.icmp_ge (pc' := 90) (tgt := 135) X dX4_goTo_87 rfl rfl (fun q1 => ?_) (fun q1 => ?_)
    · replace h := itep q1 h
      refine AW.aload_n (k0 := 0) (pc' := 136) X rfl rfl dX4_goTo_135 rfl ?_
      refine AW.lconst (v := 1) (pc' := 137) X rfl dX4_goTo_136 rfl ?_
      refine AW.lload (k0 := 3) (pc' := 139) X rfl dX4_goTo_137 rfl ?_
      refine AW.ldc2 (pc' := 142) X mk_X4_225 dX4_goTo_139 rfl ?_
      refine AW.mminL (pc' := 145) X ⟨by decide, by decide, by decide, by decide⟩ (Nat.le_of_ble_eq_true rfl) ml_X4_220 dX4_goTo_142 rfl ?_
      refine AW.mmaxL (pc' := 148) X ⟨by decide, by decide, by decide, by decide⟩ (Nat.le_of_ble_eq_true rfl) ml_X4_217 dX4_goTo_145 rfl ?_
      refine AW.l2i (pc' := 149) X dX4_goTo_148 rfl ?_
      refine AW.pX4 (pc' := 152) X h0 10 (by decide) rfl mf_X4_141 rfl rfl (by simp [fsS, upd]) (Nat.le_of_ble_eq_true rfl) dX4_goTo_149 rfl ?_
      refine AW.aload_n (k0 := 0) (pc' := 153) X rfl rfl dX4_goTo_152 rfl ?_
      refine AW.iload_n (k0 := 1) (pc' := 154) X rfl rfl dX4_goTo_153 rfl ?_
      refine AW.pX4 (pc' := 157) X h0 9 (by decide) rfl mf_X4_114 rfl rfl (by simp [fsS, upd]) (Nat.le_of_ble_eq_true rfl) dX4_goTo_154 rfl ?_
      refine AW.aload_n (k0 := 0) (pc' := 158) X rfl rfl dX4_goTo_157 rfl ?_
      refine AW.gX4 (v := .ref (a0 + 9)) (pc' := 161) X h0 6 (by decide) rfl mf_X4_38 rfl dX4_goTo_158 rfl ?_
      refine AW.aload_n (k0 := 0) (pc' := 162) X rfl rfl dX4_goTo_161 rfl ?_
      refine AW.gX4 (v := .int ((ms (ms M a0 10 (Int64.toInt32 (if (if 100000 < y4 then 100000 else y4) < 1 then 1 else (if 100000 < y4 then 100000 else y4)))) a0 9 x1) a0 9)) (pc' := 165) X h0 9 (by decide) rfl mf_X4_114 rfl dX4_goTo_162 rfl ?_
      refine AW.aload_n (k0 := 0) (pc' := 166) X rfl rfl dX4_goTo_165 rfl ?_
      refine AW.gX4 (v := .int ((ms (ms M a0 10 (Int64.toInt32 (if (if 100000 < y4 then 100000 else y4) < 1 then 1 else (if 100000 < y4 then 100000 else y4)))) a0 9 x1) a0 10)) (pc' := 169) X h0 10 (by decide) rfl mf_X4_141 rfl dX4_goTo_166 rfl ?_
      obtain ⟨g2, h⟩ := gd_some h
      refine AW.iast (pc' := 170) X (rS9 h0) (inb_vp g2) dX4_goTo_169 rfl ?_
      refine AW.aload_n (k0 := 0) (pc' := 171) X rfl rfl dX4_goTo_170 rfl ?_
      refine AW.gX4 (v := .ref (a0 + 10)) (pc' := 174) X h0 7 (by decide) rfl mf_X4_41 rfl dX4_goTo_171 rfl ?_
      refine AW.aload_n (k0 := 0) (pc' := 175) X rfl rfl dX4_goTo_174 rfl ?_
      refine AW.gX4 (v := .int ((ms (ms (ms M a0 10 (Int64.toInt32 (if (if 100000 < y4 then 100000 else y4) < 1 then 1 else (if 100000 < y4 then 100000 else y4)))) a0 9 x1) (a0 + 9) (ix ((ms (ms M a0 10 (Int64.toInt32 (if (if 100000 < y4 then 100000 else y4) < 1 then 1 else (if 100000 < y4 then 100000 else y4)))) a0 9 x1) a0 9)) ((ms (ms M a0 10 (Int64.toInt32 (if (if 100000 < y4 then 100000 else y4) < 1 then 1 else (if 100000 < y4 then 100000 else y4)))) a0 9 x1) a0 10)) a0 9)) (pc' := 178) X h0 9 (by decide) rfl mf_X4_114 rfl dX4_goTo_175 rfl ?_
      refine AW.iload (k0 := 4) (pc' := 180) X rfl dX4_goTo_178 rfl ?_
      obtain ⟨g3, h⟩ := gd_some h
      refine AW.iast (pc' := 181) X (rS10 h0) (inb_vp g3) dX4_goTo_180 rfl ?_
      replace h := Option.some.inj h
      subst h
      exact AW.vret X hr dX4_goTo_181
    · replace h := iten q1 h
      refine AW.aload_n (k0 := 0) (pc' := 91) X rfl rfl dX4_goTo_90 rfl ?_
      refine AW.gX4 (v := .ref (a0 + 6)) (pc' := 94) X h0 2 (by decide) rfl mf_X4_27 rfl dX4_goTo_91 rfl ?_
      refine AW.iload (k0 := 5) (pc' := 96) X rfl dX4_goTo_94 rfl ?_
      obtain ⟨g4, h⟩ := gd_some h
      refine AW.aldC (pc' := 97) X (rS6 h0) (inb_vp g4) dX4_goTo_96 rfl ?_
      refine AW.iload_n (k0 := 1) (pc' := 98) X rfl rfl dX4_goTo_97 rfl ?_
      refine AW.iload_n (k0 := 2) (pc' := 99) X rfl rfl dX4_goTo_98 rfl ?_
      obtain ⟨v5, c5, h⟩ := Option.bind_eq_some_iff.mp h
      refine AW.callV (As := [.int x1, .int x3]) (rest := []) (rv := (some (.int v5))) (M' := M) (pc' := 102) X (ok_X0_notchedDrive (rCA (rS6 h0) (inb_lt g4)) c5) yv_X0_notchedDrive (rCA (rS6 h0) (inb_lt g4)).1 (rCA (rS6 h0) (inb_lt g4)).2.1 (cC (rCA (rS6 h0) (inb_lt g4)) dA ad _) rfl rfl ml_X4_222 ⟨by decide, by decide, by decide, by decide⟩ rfl (Nat.le_of_ble_eq_true rfl) rfl rfl dX4_goTo_99 rfl ?_
      refine AW.istore (ls' := [(8, .int v5), (0, .ref a0), (1, .int x1), (3, .int x3), (4, .long (y4)), (6, .int x6), (7, .int x7)]) (pc' := 104) X (by decide) rfl dX4_goTo_102 rfl ?_
      refine AW.iload (k0 := 0) (pc' := 106) X rfl dX4_goTo_104 rfl ?_
      refine AW.bipush (v := (-6)) (pc' := 108) X rfl dX4_goTo_106 rfl ?_
      refine AW.icmp_eq (pc' := 111) (tgt := 129) X dX4_goTo_108 rfl rfl (fun q6 => ?_) (fun q6 => ?_)
      · replace h := itep q6 h
        refine AW.sub (ls' := [(0, .ref a0), (1, .int x1), (3, .int x3), (4, .long (y4)), (6, .int x6), (7, .int x7)]) [1, 2, 3, 4, 5, 6] rfl ?_
        exact ok_X4_goTo_129 X hr h0 ih x1 x3 y4 x6 x7 M R h
      · replace h := iten q6 h
        refine AW.lload (k0 := 4) (pc' := 113) X rfl dX4_goTo_111 rfl ?_
        refine AW.iload (k0 := 0) (pc' := 115) X rfl dX4_goTo_113 rfl ?_
        refine AW.i2l (pc' := 116) X dX4_goTo_115 rfl ?_
        refine AW.lcmp (pc' := 117) X dX4_goTo_116 rfl ?_
        refine AW.if_le (pc' := 120) (tgt := 129) X dX4_goTo_117 rfl rfl (fun q7 => ?_) (fun q7 => ?_)
        · replace h := itep q7 h
          refine AW.sub (ls' := [(0, .ref a0), (1, .int x1), (3, .int x3), (4, .long (y4)), (6, .int x6), (7, .int x7)]) [1, 2, 3, 4, 5, 6] rfl ?_
          exact ok_X4_goTo_129 X hr h0 ih x1 x3 y4 x6 x7 M R h
        · replace h := iten q7 h
          refine AW.iload (k0 := 0) (pc' := 122) X rfl dX4_goTo_120 rfl ?_
          refine AW.i2l (pc' := 123) X dX4_goTo_122 rfl ?_
          refine AW.lstore (ls' := [(4, .long ((Int32.toInt64 v5))), (8, .int v5), (0, .ref a0), (1, .int x1), (3, .int x3), (6, .int x6), (7, .int x7)]) (pc' := 125) X (by decide) rfl dX4_goTo_123 rfl ?_
          refine AW.iload (k0 := 6) (pc' := 127) X rfl dX4_goTo_125 rfl ?_
          refine AW.istore (ls' := [(6, .int x7), (4, .long ((Int32.toInt64 v5))), (8, .int v5), (0, .ref a0), (1, .int x1), (3, .int x3), (7, .int x7)]) (pc' := 129) X (by decide) rfl dX4_goTo_127 rfl ?_
          refine AW.sub (ls' := [(0, .ref a0), (1, .int x1), (3, .int x3), (4, .long ((Int32.toInt64 v5))), (6, .int x7), (7, .int x7)]) [3, 4, 5, 1, 0, 6] rfl ?_
          exact ok_X4_goTo_129 X hr h0 ih x1 x3 (Int32.toInt64 v5) x7 x7 M R h
set_option maxHeartbeats 4000000 in
set_option maxRecDepth 100000 in
theorem ok_X4_goTo {lo n : Nat} {a0 : Nat} {x1 : Int32} {x2 : Int32} {M : MM} {R : MM} (h0 : tSt lo n a0) (h : f_X4_goTo a0 x1 x2 M = some R) : MC yX4_goTo cX4_goTo 9 none 2 48 lo n [.ref a0, .int x1, .int x2] M none R := by
  refine MC.of (ls0 := [(0, .ref a0), (1, .int x1), (2, .int x2)]) (by decide) rfl (fun _ => Nat.le_of_ble_eq_true rfl) (fun p l e s m args below meth c D dA ad A X hr => ?_)
  replace X : CX p s m args meth c cX4_goTo 9 RX4 D dA ad lo n A := X
  unfold f_X4_goTo at h
  refine AW.aload_n (k0 := 0) (pc' := 1) X rfl rfl dX4_goTo_0 rfl ?_
  refine AW.gX4 (v := .ref (a0 + 1)) (pc' := 4) X h0 0 (by decide) rfl mf_X4_12 rfl dX4_goTo_1 rfl ?_
  refine AW.gX2 (v := .ref ((a0 + 1) + 1)) (pc' := 7) X (rS1 h0) 0 (by decide) rfl mf_X4_161 rfl dX4_goTo_4 rfl ?_
  refine AW.iload_n (k0 := 1) (pc' := 8) X rfl rfl dX4_goTo_7 rfl ?_
  obtain ⟨g1, h⟩ := gd_some h
  refine AW.iald (pc' := 9) X (rL1 (rS1 h0)) (inb_vp g1) dX4_goTo_8 rfl ?_
  refine AW.istore_n (ls' := [(3, .int (M ((a0 + 1) + 1) (ix x1))), (0, .ref a0), (1, .int x1), (2, .int x2)]) (pc' := 10) X rfl (by decide) rfl dX4_goTo_9 rfl ?_
  refine AW.aload_n (k0 := 1) (pc' := 11) X rfl rfl dX4_goTo_10 rfl ?_
  refine AW.iload_n (k0 := 2) (pc' := 12) X rfl rfl dX4_goTo_11 rfl ?_
  refine AW.aload_n (k0 := 1) (pc' := 13) X rfl rfl dX4_goTo_12 rfl ?_
  refine AW.gX4 (v := .ref (a0 + 3)) (pc' := 16) X h0 1 (by decide) rfl mf_X4_21 rfl dX4_goTo_13 rfl ?_
  refine AW.iload_n (k0 := 0) (pc' := 17) X rfl rfl dX4_goTo_16 rfl ?_
  obtain ⟨v2, c2, h⟩ := Option.bind_eq_some_iff.mp h
  refine AW.callV (As := [.int (M ((a0 + 1) + 1) (ix x1))]) (rest := [.int x1, .ref a0]) (rv := (some (.int v2))) (M' := M) (pc' := 20) X (ok_X3_targetAt (rS3 h0) c2) yv_X3_targetAt (rS3 h0).1 (rS3 h0).2.1 (cP (rS3 h0) dA ad _) rfl rfl ml_X4_210 ⟨by decide, by decide, by decide, by decide⟩ rfl (Nat.le_of_ble_eq_true rfl) rfl rfl dX4_goTo_17 rfl ?_
  refine AW.iload_n (k0 := 3) (pc' := 21) X rfl rfl dX4_goTo_20 rfl ?_
  obtain ⟨v3, c3, h⟩ := Option.bind_eq_some_iff.mp h
  refine AW.callV (As := [.int x1, .int v2, .int x2]) (rest := []) (rv := (some (.long v3))) (M' := M) (pc' := 24) X (ok_X4_wantedDrive h0 c3) yv_X4_wantedDrive h0.1 h0.2.1 (cS h0 dA ad _) rfl rfl ml_X4_213 ⟨by decide, by decide, by decide, by decide⟩ rfl (Nat.le_of_ble_eq_true rfl) rfl rfl dX4_goTo_21 rfl ?_
  refine AW.lstore (ls' := [(4, .long (v3)), (3, .int (M ((a0 + 1) + 1) (ix x1))), (0, .ref a0), (1, .int x1), (2, .int x2)]) (pc' := 26) X (by decide) rfl dX4_goTo_24 rfl ?_
  refine AW.lload (k0 := 0) (pc' := 28) X rfl dX4_goTo_26 rfl ?_
  refine AW.aload_n (k0 := 2) (pc' := 29) X rfl rfl dX4_goTo_28 rfl ?_
  refine AW.gX4 (v := .int (M a0 10)) (pc' := 32) X h0 10 (by decide) rfl mf_X4_141 rfl dX4_goTo_29 rfl ?_
  refine AW.aload_n (k0 := 2) (pc' := 33) X rfl rfl dX4_goTo_32 rfl ?_
  refine AW.gX4 (v := .int (M a0 10)) (pc' := 36) X h0 10 (by decide) rfl mf_X4_141 rfl dX4_goTo_33 rfl ?_
  refine AW.iconst (v := 2) (pc' := 37) X rfl dX4_goTo_36 rfl ?_
  refine AW.idiv (pc' := 38) X (by decide) dX4_goTo_37 rfl ?_
  refine AW.isub (pc' := 39) X dX4_goTo_38 rfl ?_
  refine AW.i2l (pc' := 40) X dX4_goTo_39 rfl ?_
  refine AW.mmaxL (pc' := 43) X ⟨by decide, by decide, by decide, by decide⟩ (Nat.le_of_ble_eq_true rfl) ml_X4_217 dX4_goTo_40 rfl ?_
  refine AW.lstore (ls' := [(4, .long ((if (Int32.toInt64 ((M a0 10) - ((M a0 10) / 2))) < v3 then v3 else (Int32.toInt64 ((M a0 10) - ((M a0 10) / 2)))))), (3, .int (M ((a0 + 1) + 1) (ix x1))), (0, .ref a0), (1, .int x1), (2, .int x2)]) (pc' := 45) X (by decide) rfl dX4_goTo_43 rfl ?_
  refine AW.lload (k0 := 0) (pc' := 47) X rfl dX4_goTo_45 rfl ?_
  refine AW.aload_n (k0 := 2) (pc' := 48) X rfl rfl dX4_goTo_47 rfl ?_
  refine AW.gX4 (v := .int (M a0 10)) (pc' := 51) X h0 10 (by decide) rfl mf_X4_141 rfl dX4_goTo_48 rfl ?_
  refine AW.aload_n (k0 := 2) (pc' := 52) X rfl rfl dX4_goTo_51 rfl ?_
  refine AW.gX4 (v := .int (M a0 10)) (pc' := 55) X h0 10 (by decide) rfl mf_X4_141 rfl dX4_goTo_52 rfl ?_
  refine AW.aload_n (k0 := 2) (pc' := 56) X rfl rfl dX4_goTo_55 rfl ?_
  refine AW.gX4 (v := .ref (a0 + 7)) (pc' := 59) X h0 4 (by decide) rfl mf_X4_31 rfl dX4_goTo_56 rfl ?_
  refine AW.iconst (v := 3) (pc' := 60) X rfl dX4_goTo_59 rfl ?_
  obtain ⟨g5, h⟩ := gd_some h
  refine AW.iald (pc' := 61) X (rS7 h0) (inb_vp g5) dX4_goTo_60 rfl ?_
  refine AW.imul (pc' := 62) X dX4_goTo_61 rfl ?_
  refine AW.bipush (v := 100) (pc' := 64) X rfl dX4_goTo_62 rfl ?_
  refine AW.idiv (pc' := 65) X (by decide) dX4_goTo_64 rfl ?_
  refine AW.iadd (pc' := 66) X dX4_goTo_65 rfl ?_
  refine AW.iconst (v := 1) (pc' := 67) X rfl dX4_goTo_66 rfl ?_
  refine AW.iadd (pc' := 68) X dX4_goTo_67 rfl ?_
  refine AW.i2l (pc' := 69) X dX4_goTo_68 rfl ?_
  refine AW.mminL (pc' := 72) X ⟨by decide, by decide, by decide, by decide⟩ (Nat.le_of_ble_eq_true rfl) ml_X4_220 dX4_goTo_69 rfl ?_
  refine AW.lstore (ls' := [(4, .long ((if (Int32.toInt64 (((M a0 10) + (((M a0 10) * (M (a0 + 7) (ix 3))) / 100)) + 1)) < (if (Int32.toInt64 ((M a0 10) - ((M a0 10) / 2))) < v3 then v3 else (Int32.toInt64 ((M a0 10) - ((M a0 10) / 2)))) then (Int32.toInt64 (((M a0 10) + (((M a0 10) * (M (a0 + 7) (ix 3))) / 100)) + 1)) else (if (Int32.toInt64 ((M a0 10) - ((M a0 10) / 2))) < v3 then v3 else (Int32.toInt64 ((M a0 10) - ((M a0 10) / 2))))))), (3, .int (M ((a0 + 1) + 1) (ix x1))), (0, .ref a0), (1, .int x1), (2, .int x2)]) (pc' := 74) X (by decide) rfl dX4_goTo_72 rfl ?_
  refine AW.bipush (v := (-6)) (pc' := 76) X rfl dX4_goTo_74 rfl ?_
  refine AW.istore (ls' := [(6, .int (-6)), (4, .long ((if (Int32.toInt64 (((M a0 10) + (((M a0 10) * (M (a0 + 7) (ix 3))) / 100)) + 1)) < (if (Int32.toInt64 ((M a0 10) - ((M a0 10) / 2))) < v3 then v3 else (Int32.toInt64 ((M a0 10) - ((M a0 10) / 2)))) then (Int32.toInt64 (((M a0 10) + (((M a0 10) * (M (a0 + 7) (ix 3))) / 100)) + 1)) else (if (Int32.toInt64 ((M a0 10) - ((M a0 10) / 2))) < v3 then v3 else (Int32.toInt64 ((M a0 10) - ((M a0 10) / 2))))))), (3, .int (M ((a0 + 1) + 1) (ix x1))), (0, .ref a0), (1, .int x1), (2, .int x2)]) (pc' := 78) X (by decide) rfl dX4_goTo_76 rfl ?_
  refine AW.iconst (v := 0) (pc' := 79) X rfl dX4_goTo_78 rfl ?_
  refine AW.istore (ls' := [(7, .int 0), (6, .int (-6)), (4, .long ((if (Int32.toInt64 (((M a0 10) + (((M a0 10) * (M (a0 + 7) (ix 3))) / 100)) + 1)) < (if (Int32.toInt64 ((M a0 10) - ((M a0 10) / 2))) < v3 then v3 else (Int32.toInt64 ((M a0 10) - ((M a0 10) / 2)))) then (Int32.toInt64 (((M a0 10) + (((M a0 10) * (M (a0 + 7) (ix 3))) / 100)) + 1)) else (if (Int32.toInt64 ((M a0 10) - ((M a0 10) / 2))) < v3 then v3 else (Int32.toInt64 ((M a0 10) - ((M a0 10) / 2))))))), (3, .int (M ((a0 + 1) + 1) (ix x1))), (0, .ref a0), (1, .int x1), (2, .int x2)]) (pc' := 81) X (by decide) rfl dX4_goTo_79 rfl ?_
  refine AW.sub (ls' := [(0, .ref a0), (1, .int x1), (3, .int (M ((a0 + 1) + 1) (ix x1))), (4, .long ((if (Int32.toInt64 (((M a0 10) + (((M a0 10) * (M (a0 + 7) (ix 3))) / 100)) + 1)) < (if (Int32.toInt64 ((M a0 10) - ((M a0 10) / 2))) < v3 then v3 else (Int32.toInt64 ((M a0 10) - ((M a0 10) / 2)))) then (Int32.toInt64 (((M a0 10) + (((M a0 10) * (M (a0 + 7) (ix 3))) / 100)) + 1)) else (if (Int32.toInt64 ((M a0 10) - ((M a0 10) / 2))) < v3 then v3 else (Int32.toInt64 ((M a0 10) - ((M a0 10) / 2))))))), (6, .int (-6)), (7, .int 0)]) [4, 5, 3, 2, 1, 0] rfl ?_
  exact ok_X4_goTo_81 X hr h0 FU x1 (M ((a0 + 1) + 1) (ix x1)) (if (Int32.toInt64 (((M a0 10) + (((M a0 10) * (M (a0 + 7) (ix 3))) / 100)) + 1)) < (if (Int32.toInt64 ((M a0 10) - ((M a0 10) / 2))) < v3 then v3 else (Int32.toInt64 ((M a0 10) - ((M a0 10) / 2)))) then (Int32.toInt64 (((M a0 10) + (((M a0 10) * (M (a0 + 7) (ix 3))) / 100)) + 1)) else (if (Int32.toInt64 ((M a0 10) - ((M a0 10) / 2))) < v3 then v3 else (Int32.toInt64 ((M a0 10) - ((M a0 10) / 2))))) (-6) 0 M R h
set_option maxHeartbeats 4000000 in
set_option maxRecDepth 100000 in
theorem ok_X4_doLoop_91 {a0 : Nat} (X : CX p s m args meth c cX4_doLoop 5 RX4 D dA ad lo n A) (hr : meth.sig.returnType = none) (h0 : tSt lo n a0) : ∀ (x2 : Int32) (s0 : Int32) (M : MM) (R : MM), f_X4_doLoop_91 a0 x2 s0 M = some R → AR p l e 3 78 s m args below meth c D dA ad lo n 5 A none R 91 [(0, .ref a0), (2, .int x2)] [.int s0] M := by
  intro x2 s0 M R h
  unfold f_X4_doLoop_91 at h
  refine AW.istore (ls' := [(4, .int s0), (0, .ref a0), (2, .int x2)]) (pc' := 93) X (by decide) rfl dX4_doLoop_91 rfl ?_
  refine AW.iload (k0 := 0) (pc' := 95) X rfl dX4_doLoop_93 rfl ?_
  refine AW.bipush (v := (-6)) (pc' := 97) X rfl dX4_doLoop_95 rfl ?_
  refine AW.icmp_ne (pc' := 100) (tgt := 111) X dX4_doLoop_97 rfl rfl (fun q1 => ?_) (fun q1 => ?_)
  · replace h := iten q1 h
    refine AW.aload_n (k0 := 1) (pc' := 112) X rfl rfl dX4_doLoop_111 rfl ?_
    refine AW.iload (k0 := 0) (pc' := 114) X rfl dX4_doLoop_112 rfl ?_
    refine AW.iload_n (k0 := 2) (pc' := 115) X rfl rfl dX4_doLoop_114 rfl ?_
    obtain ⟨v2, c2, h⟩ := Option.bind_eq_some_iff.mp h
    refine AW.callV (As := [.int s0, .int x2]) (rest := []) (rv := none) (M' := v2) (pc' := 118) X (ok_X4_goTo h0 c2) yv_X4_goTo h0.1 h0.2.1 (cS h0 dA ad _) rfl rfl ml_X4_174 ⟨by decide, by decide, by decide, by decide⟩ rfl (Nat.le_of_ble_eq_true rfl) rfl rfl dX4_doLoop_115 rfl ?_
    replace h := Option.some.inj h
    subst h
    exact AW.vret X hr dX4_doLoop_118
  · replace h := itep q1 h
    refine AW.aload_n (k0 := 1) (pc' := 101) X rfl rfl dX4_doLoop_100 rfl ?_
    refine AW.iconst (v := 5) (pc' := 102) X rfl dX4_doLoop_101 rfl ?_
    refine AW.pX4 (pc' := 105) X h0 8 (by decide) rfl mf_X4_44 rfl rfl (by simp [fsS, upd]) (Nat.le_of_ble_eq_true rfl) dX4_doLoop_102 rfl ?_
    refine AW.aload_n (k0 := 1) (pc' := 106) X rfl rfl dX4_doLoop_105 rfl ?_
    refine AW.iconst (v := 0) (pc' := 107) X rfl dX4_doLoop_106 rfl ?_
    refine AW.pX4 (pc' := 110) X h0 10 (by decide) rfl mf_X4_141 rfl rfl (by simp [fsS, upd]) (Nat.le_of_ble_eq_true rfl) dX4_doLoop_107 rfl ?_
    replace h := Option.some.inj h
    subst h
    exact AW.vret X hr dX4_doLoop_110
set_option maxHeartbeats 4000000 in
set_option maxRecDepth 100000 in
theorem ok_X4_doLoop {lo n : Nat} {a0 : Nat} {M : MM} {R : MM} (h0 : tSt lo n a0) (h : f_X4_doLoop a0 M = some R) : MC yX4_doLoop cX4_doLoop 5 none 3 78 lo n [.ref a0] M none R := by
  refine MC.of (ls0 := [(0, .ref a0)]) (by decide) rfl (fun _ => Nat.le_of_ble_eq_true rfl) (fun p l e s m args below meth c D dA ad A X hr => ?_)
  replace X : CX p s m args meth c cX4_doLoop 5 RX4 D dA ad lo n A := X
  unfold f_X4_doLoop at h
  refine AW.aload_n (k0 := 0) (pc' := 1) X rfl rfl dX4_doLoop_0 rfl ?_
  refine AW.dup (pc' := 2) X rfl dX4_doLoop_1 rfl ?_
  refine AW.gX4 (v := .int (M a0 13)) (pc' := 5) X h0 13 (by decide) rfl mf_X4_93 rfl dX4_doLoop_2 rfl ?_
  refine AW.iconst (v := 1) (pc' := 6) X rfl dX4_doLoop_5 rfl ?_
  refine AW.iadd (pc' := 7) X dX4_doLoop_6 rfl ?_
  refine AW.pX4 (pc' := 10) X h0 13 (by decide) rfl mf_X4_93 rfl rfl (by simp [fsS, upd]) (Nat.le_of_ble_eq_true rfl) dX4_doLoop_7 rfl ?_
  refine AW.aload_n (k0 := 0) (pc' := 11) X rfl rfl dX4_doLoop_10 rfl ?_
  refine AW.gX4 (v := .int ((ms M a0 13 ((M a0 13) + 1)) a0 8)) (pc' := 14) X h0 8 (by decide) rfl mf_X4_44 rfl dX4_doLoop_11 rfl ?_
  refine AW.iconst (v := 3) (pc' := 15) X rfl dX4_doLoop_14 rfl ?_
  refine AW.icmp_ne (pc' := 18) (tgt := 23) X dX4_doLoop_15 rfl rfl (fun q1 => ?_) (fun q1 => ?_)
  · replace h := iten q1 h
    refine AW.aload_n (k0 := 0) (pc' := 24) X rfl rfl dX4_doLoop_23 rfl ?_
    refine AW.aload_n (k0 := 0) (pc' := 25) X rfl rfl dX4_doLoop_24 rfl ?_
    refine AW.gX4 (v := .int ((ms M a0 13 ((M a0 13) + 1)) a0 9)) (pc' := 28) X h0 9 (by decide) rfl mf_X4_114 rfl dX4_doLoop_25 rfl ?_
    obtain ⟨v2, c2, h⟩ := Option.bind_eq_some_iff.mp h
    refine AW.callV (As := [.int ((ms M a0 13 ((M a0 13) + 1)) a0 9)]) (rest := []) (rv := (some (.int (bz v2)))) (M' := (ms M a0 13 ((M a0 13) + 1))) (pc' := 31) X (ok_X4_hasLine h0 c2) yv_X4_hasLine h0.1 h0.2.1 (cS h0 dA ad _) rfl rfl ml_X4_158 ⟨by decide, by decide, by decide, by decide⟩ rfl (Nat.le_of_ble_eq_true rfl) rfl rfl dX4_doLoop_28 rfl ?_
    refine AW.if_ne (pc' := 34) (tgt := 35) X dX4_doLoop_31 rfl rfl (fun q3 => ?_) (fun q3 => ?_)
    · replace h := iten q3 h
      refine AW.aload_n (k0 := 0) (pc' := 36) X rfl rfl dX4_doLoop_35 rfl ?_
      refine AW.gX4 (v := .ref (a0 + 1)) (pc' := 39) X h0 0 (by decide) rfl mf_X4_12 rfl dX4_doLoop_36 rfl ?_
      refine AW.gX2 (v := .ref ((a0 + 1) + 1)) (pc' := 42) X (rS1 h0) 0 (by decide) rfl mf_X4_161 rfl dX4_doLoop_39 rfl ?_
      refine AW.aload_n (k0 := 0) (pc' := 43) X rfl rfl dX4_doLoop_42 rfl ?_
      refine AW.gX4 (v := .int ((ms M a0 13 ((M a0 13) + 1)) a0 9)) (pc' := 46) X h0 9 (by decide) rfl mf_X4_114 rfl dX4_doLoop_43 rfl ?_
      obtain ⟨g4, h⟩ := gd_some h
      refine AW.iald (pc' := 47) X (rL1 (rS1 h0)) (inb_vp g4) dX4_doLoop_46 rfl ?_
      refine AW.istore_n (ls' := [(1, .int ((ms M a0 13 ((M a0 13) + 1)) ((a0 + 1) + 1) (ix ((ms M a0 13 ((M a0 13) + 1)) a0 9)))), (0, .ref a0)]) (pc' := 48) X rfl (by decide) rfl dX4_doLoop_47 rfl ?_
      refine AW.aload_n (k0 := 1) (pc' := 49) X rfl rfl dX4_doLoop_48 rfl ?_
      refine AW.iload_n (k0 := 0) (pc' := 50) X rfl rfl dX4_doLoop_49 rfl ?_
      obtain ⟨v5, c5, h⟩ := Option.bind_eq_some_iff.mp h
      refine AW.callV (As := [.int ((ms M a0 13 ((M a0 13) + 1)) ((a0 + 1) + 1) (ix ((ms M a0 13 ((M a0 13) + 1)) a0 9)))]) (rest := []) (rv := (some (.int v5.1))) (M' := v5.2) (pc' := 53) X (ok_X4_measureLevels h0 c5) yv_X4_measureLevels h0.1 h0.2.1 (cS h0 dA ad _) rfl rfl ml_X4_164 ⟨by decide, by decide, by decide, by decide⟩ rfl (Nat.le_of_ble_eq_true rfl) rfl rfl dX4_doLoop_50 rfl ?_
      refine AW.istore_n (ls' := [(2, .int (v5.1)), (1, .int ((ms M a0 13 ((M a0 13) + 1)) ((a0 + 1) + 1) (ix ((ms M a0 13 ((M a0 13) + 1)) a0 9)))), (0, .ref a0)]) (pc' := 54) X rfl (by decide) rfl dX4_doLoop_53 rfl ?_
      refine AW.aload_n (k0 := 2) (pc' := 55) X rfl rfl dX4_doLoop_54 rfl ?_
      refine AW.iload_n (k0 := 1) (pc' := 56) X rfl rfl dX4_doLoop_55 rfl ?_
      obtain ⟨v6, c6, h⟩ := Option.bind_eq_some_iff.mp h
      refine AW.callV (As := [.int ((ms M a0 13 ((M a0 13) + 1)) ((a0 + 1) + 1) (ix ((ms M a0 13 ((M a0 13) + 1)) a0 9)))]) (rest := []) (rv := (some (.int v6.1))) (M' := v6.2) (pc' := 59) X (ok_X4_countLoop h0 c6) yv_X4_countLoop h0.1 h0.2.1 (cS h0 dA ad _) rfl rfl ml_X4_168 ⟨by decide, by decide, by decide, by decide⟩ rfl (Nat.le_of_ble_eq_true rfl) rfl rfl dX4_doLoop_56 rfl ?_
      refine AW.istore_n (ls' := [(3, .int (v6.1)), (2, .int (v5.1)), (1, .int ((ms M a0 13 ((M a0 13) + 1)) ((a0 + 1) + 1) (ix ((ms M a0 13 ((M a0 13) + 1)) a0 9)))), (0, .ref a0)]) (pc' := 60) X rfl (by decide) rfl dX4_doLoop_59 rfl ?_
      refine AW.iload_n (k0 := 0) (pc' := 61) X rfl rfl dX4_doLoop_60 rfl ?_
      refine AW.bipush (v := (-6)) (pc' := 63) X rfl dX4_doLoop_61 rfl ?_
      refine AW.icmp_eq (pc' := 66) (tgt := 72) X dX4_doLoop_63 rfl rfl (fun q7 => ?_) (fun q7 => ?_)
      · replace h := itep q7 h
        refine AW.aload_n (k0 := 3) (pc' := 73) X rfl rfl dX4_doLoop_72 rfl ?_
        refine AW.gX4 (v := .int (v6.2 a0 8)) (pc' := 76) X h0 8 (by decide) rfl mf_X4_44 rfl dX4_doLoop_73 rfl ?_
        refine AW.iconst (v := 2) (pc' := 77) X rfl dX4_doLoop_76 rfl ?_
        refine AW.icmp_ne (pc' := 80) (tgt := 87) X dX4_doLoop_77 rfl rfl (fun q8 => ?_) (fun q8 => ?_)
        · replace h := iten q8 h
          refine AW.aload_n (k0 := 3) (pc' := 88) X rfl rfl dX4_doLoop_87 rfl ?_
          obtain ⟨v9, c9, h⟩ := Option.bind_eq_some_iff.mp h
          refine AW.callV (As := []) (rest := []) (rv := (some (.int v9.1))) (M' := v9.2) (pc' := 91) X (ok_X4_nextLine h0 c9) yv_X4_nextLine h0.1 h0.2.1 (cS h0 dA ad _) rfl rfl ml_X4_171 ⟨by decide, by decide, by decide, by decide⟩ rfl (Nat.le_of_ble_eq_true rfl) rfl rfl dX4_doLoop_88 rfl ?_
          refine AW.sub (ls' := [(0, .ref a0), (2, .int (v5.1))]) [3, 1] rfl ?_
          exact ok_X4_doLoop_91 X hr h0 v5.1 v9.1 v9.2 R h
        · replace h := itep q8 h
          refine AW.aload_n (k0 := 3) (pc' := 81) X rfl rfl dX4_doLoop_80 rfl ?_
          refine AW.gX4 (v := .int (v6.2 a0 9)) (pc' := 84) X h0 9 (by decide) rfl mf_X4_114 rfl dX4_doLoop_81 rfl ?_
          refine AW.goto (pc' := 91) X dX4_doLoop_84 rfl ?_
          refine AW.sub (ls' := [(0, .ref a0), (2, .int (v5.1))]) [3, 1] rfl ?_
          exact ok_X4_doLoop_91 X hr h0 v5.1 (v6.2 a0 9) v6.2 R h
      · replace h := iten q7 h
        refine AW.aload_n (k0 := 3) (pc' := 67) X rfl rfl dX4_doLoop_66 rfl ?_
        refine AW.iload_n (k0 := 0) (pc' := 68) X rfl rfl dX4_doLoop_67 rfl ?_
        obtain ⟨v10, c10, h⟩ := Option.bind_eq_some_iff.mp h
        refine AW.callV (As := [.int (v6.1)]) (rest := []) (rv := none) (M' := v10) (pc' := 71) X (ok_X4_beginAbort h0 c10) yv_X4_beginAbort h0.1 h0.2.1 (cS h0 dA ad _) rfl rfl ml_X4_148 ⟨by decide, by decide, by decide, by decide⟩ rfl (Nat.le_of_ble_eq_true rfl) rfl rfl dX4_doLoop_68 rfl ?_
        replace h := Option.some.inj h
        subst h
        exact AW.vret X hr dX4_doLoop_71
    · replace h := itep q3 h
      replace h := Option.some.inj h
      subst h
      exact AW.vret X hr dX4_doLoop_34
  · replace h := itep q1 h
    refine AW.aload_n (k0 := 0) (pc' := 19) X rfl rfl dX4_doLoop_18 rfl ?_
    obtain ⟨v11, c11, h⟩ := Option.bind_eq_some_iff.mp h
    refine AW.callV (As := []) (rest := []) (rv := none) (M' := v11) (pc' := 22) X (ok_X4_rampDown h0 c11) yv_X4_rampDown h0.1 h0.2.1 (cS h0 dA ad _) rfl rfl ml_X4_155 ⟨by decide, by decide, by decide, by decide⟩ rfl (Nat.le_of_ble_eq_true rfl) rfl rfl dX4_doLoop_19 rfl ?_
    replace h := Option.some.inj h
    subst h
    exact AW.vret X hr dX4_doLoop_22
set_option maxHeartbeats 4000000 in
set_option maxRecDepth 100000 in
theorem ok_X4_doLoops_47 {a0 : Nat} (X : CX p s m args meth c cX4_doLoops 3 RX4 D dA ad lo n A) (hr : meth.sig.returnType = (some .int)) (h0 : tSt lo n a0) : ∀ (x2 : Int32) (M : MM) (R : (Int32 × MM)), f_X4_doLoops_47 a0 x2 M = some R → AR p l e 4 102 s m args below meth c D dA ad lo n 3 A (some (.int R.1)) R.2 47 [(2, .int x2)] [] M := by
  intro x2 M R h
  unfold f_X4_doLoops_47 at h
  refine AW.iload_n (k0 := 0) (pc' := 48) X rfl rfl dX4_doLoops_47 rfl ?_
  replace h := Option.some.inj h
  subst h
  exact AW.iret X hr dX4_doLoops_48
set_option maxHeartbeats 4000000 in
set_option maxRecDepth 100000 in
theorem ok_X4_doLoops_25 {a0 : Nat} (X : CX p s m args meth c cX4_doLoops 3 RX4 D dA ad lo n A) (hr : meth.sig.returnType = (some .int)) (h0 : tSt lo n a0) : ∀ (k : Nat) (x1 : Int32) (x2 : Int32) (M : MM) (R : (Int32 × MM)), f_X4_doLoops_25 a0 k x1 x2 M = some R → AR p l e 4 102 s m args below meth c D dA ad lo n 3 A (some (.int R.1)) R.2 25 [(0, .ref a0), (1, .int x1), (2, .int x2)] [] M := by
  intro k
  induction k with
  | zero => intro _ _ _ R h; exact none_some h
  | succ k ih =>
    intro x1 x2 M R h
    unfold f_X4_doLoops_25 at h
    refine AW.iload_n (k0 := 2) (pc' := 26) X rfl rfl dX4_doLoops_25 rfl ?_
    refine AW.iload_n (k0 := 1) (pc' := 27) X rfl rfl dX4_doLoops_26 rfl ?_
    refine AW.icmp_ge (pc' := 30) (tgt := 47) X dX4_doLoops_27 rfl rfl (fun q1 => ?_) (fun q1 => ?_)
    · replace h := itep q1 h
      refine AW.sub (ls' := [(2, .int x2)]) [2] rfl ?_
      exact ok_X4_doLoops_47 X hr h0 x2 M R h
    · replace h := iten q1 h
      refine AW.aload_n (k0 := 0) (pc' := 31) X rfl rfl dX4_doLoops_30 rfl ?_
      obtain ⟨v2, c2, h⟩ := Option.bind_eq_some_iff.mp h
      refine AW.callV (As := []) (rest := []) (rv := (some (.int (bz v2)))) (M' := M) (pc' := 34) X (ok_X4_rests h0 c2) yv_X4_rests h0.1 h0.2.1 (cS h0 dA ad _) rfl rfl ml_X4_103 ⟨by decide, by decide, by decide, by decide⟩ rfl (Nat.le_of_ble_eq_true rfl) rfl rfl dX4_doLoops_31 rfl ?_
      refine AW.if_ne (pc' := 37) (tgt := 47) X dX4_doLoops_34 rfl rfl (fun q3 => ?_) (fun q3 => ?_)
      · replace h := iten q3 h
        refine AW.sub (ls' := [(2, .int x2)]) [2] rfl ?_
        exact ok_X4_doLoops_47 X hr h0 x2 M R h
      · replace h := itep q3 h
        refine AW.aload_n (k0 := 0) (pc' := 38) X rfl rfl dX4_doLoops_37 rfl ?_
        obtain ⟨v4, c4, h⟩ := Option.bind_eq_some_iff.mp h
        refine AW.callV (As := []) (rest := []) (rv := none) (M' := v4) (pc' := 41) X (ok_X4_doLoop h0 c4) yv_X4_doLoop h0.1 h0.2.1 (cS h0 dA ad _) rfl rfl ml_X4_152 ⟨by decide, by decide, by decide, by decide⟩ rfl (Nat.le_of_ble_eq_true rfl) rfl rfl dX4_doLoops_38 rfl ?_
        refine AW.iinc (k0 := 2) (v := (x2 + 1)) (y := 1) (ls' := [(2, .int (x2 + 1)), (0, .ref a0), (1, .int x1)]) (pc' := 44) X rfl rfl rfl (by decide) rfl dX4_doLoops_41 rfl ?_
        refine AW.goto (pc' := 25) X dX4_doLoops_44 rfl ?_
        refine AW.sub (ls' := [(0, .ref a0), (1, .int x1), (2, .int (x2 + 1))]) [1, 2, 0] rfl ?_
        exact ih x1 (x2 + 1) v4 R h
set_option maxHeartbeats 4000000 in
set_option maxRecDepth 100000 in
theorem ok_X4_doLoops {lo n : Nat} {a0 : Nat} {x1 : Int32} {M : MM} {R : (Int32 × MM)} (h0 : tSt lo n a0) (h : f_X4_doLoops a0 x1 M = some R) : MC yX4_doLoops cX4_doLoops 3 (some .int) 4 102 lo n [.ref a0, .int x1] M (some (.int R.1)) R.2 := by
  refine MC.of (ls0 := [(0, .ref a0), (1, .int x1)]) (by decide) rfl (fun _ => Nat.le_of_ble_eq_true rfl) (fun p l e s m args below meth c D dA ad A X hr => ?_)
  replace X : CX p s m args meth c cX4_doLoops 3 RX4 D dA ad lo n A := X
  unfold f_X4_doLoops at h
  refine AW.iload_n (k0 := 1) (pc' := 1) X rfl rfl dX4_doLoops_0 rfl ?_
  refine AW.iconst (v := 1) (pc' := 2) X rfl dX4_doLoops_1 rfl ?_
  refine AW.bipush (v := 50) (pc' := 4) X rfl dX4_doLoops_2 rfl ?_
  obtain ⟨v1, c1, h⟩ := Option.bind_eq_some_iff.mp h
  refine AW.callN (As := [.int x1, .int 1, .int 50]) (rest := []) (rv := (some (.int (bz v1)))) (M' := M) (pc' := 7) X (ok_X6_isWithin c1) yv_X6_isWithin mn_X4_68 ⟨by decide, by decide, by decide, by decide⟩ rfl (Nat.le_of_ble_eq_true rfl) rfl rfl dX4_doLoops_4 rfl ?_
  refine AW.if_ne (pc' := 10) (tgt := 13) X dX4_doLoops_7 rfl rfl (fun q2 => ?_) (fun q2 => ?_)
  · replace h := iten q2 h
    refine AW.aload_n (k0 := 0) (pc' := 14) X rfl rfl dX4_doLoops_13 rfl ?_
    obtain ⟨v3, c3, h⟩ := Option.bind_eq_some_iff.mp h
    refine AW.callV (As := []) (rest := []) (rv := (some (.int (bz v3)))) (M' := M) (pc' := 17) X (ok_X4_rests h0 c3) yv_X4_rests h0.1 h0.2.1 (cS h0 dA ad _) rfl rfl ml_X4_103 ⟨by decide, by decide, by decide, by decide⟩ rfl (Nat.le_of_ble_eq_true rfl) rfl rfl dX4_doLoops_14 rfl ?_
    refine AW.if_eq (pc' := 20) (tgt := 23) X dX4_doLoops_17 rfl rfl (fun q4 => ?_) (fun q4 => ?_)
    · replace h := itep q4 h
      refine AW.iconst (v := 0) (pc' := 24) X rfl dX4_doLoops_23 rfl ?_
      refine AW.istore_n (ls' := [(2, .int 0), (0, .ref a0), (1, .int x1)]) (pc' := 25) X rfl (by decide) rfl dX4_doLoops_24 rfl ?_
      refine AW.sub (ls' := [(0, .ref a0), (1, .int x1), (2, .int 0)]) [1, 2, 0] rfl ?_
      exact ok_X4_doLoops_25 X hr h0 FU x1 0 M R h
    · replace h := iten q4 h
      refine AW.bipush (v := (-3)) (pc' := 22) X rfl dX4_doLoops_20 rfl ?_
      replace h := Option.some.inj h
      subst h
      exact AW.iret X hr dX4_doLoops_22
  · replace h := itep q2 h
    refine AW.bipush (v := (-2)) (pc' := 12) X rfl dX4_doLoops_10 rfl ?_
    replace h := Option.some.inj h
    subst h
    exact AW.iret X hr dX4_doLoops_12
set_option maxHeartbeats 4000000 in
set_option maxRecDepth 100000 in
theorem ok_X4_totalOf_81 {a0 : Nat} {M : MM} (X : CX p s m args meth c cX4_totalOf 2 RX4 D dA ad lo n A) (hr : meth.sig.returnType = (some .int)) (h0 : tSt lo n a0) : ∀ (s0 : Int32) (R : Int32), f_X4_totalOf_81 a0 M s0 = some R → AR p l e 0 0 s m args below meth c D dA ad lo n 2 A (some (.int R)) M 81 [] [.int s0] M := by
  intro s0 R h
  unfold f_X4_totalOf_81 at h
  replace h := Option.some.inj h
  subst h
  exact AW.iret X hr dX4_totalOf_81
set_option maxHeartbeats 4000000 in
set_option maxRecDepth 100000 in
theorem ok_X4_totalOf_125 {a0 : Nat} {M : MM} (X : CX p s m args meth c cX4_totalOf 2 RX4 D dA ad lo n A) (hr : meth.sig.returnType = (some .int)) (h0 : tSt lo n a0) : ∀ (sb0 : Bool) (R : Int32), f_X4_totalOf_125 a0 M sb0 = some R → AR p l e 0 0 s m args below meth c D dA ad lo n 2 A (some (.int R)) M 125 [] [.int (bz sb0)] M := by
  intro sb0 R h
  unfold f_X4_totalOf_125 at h
  replace h := Option.some.inj h
  subst h
  exact AW.iret X hr dX4_totalOf_125
set_option maxHeartbeats 4000000 in
set_option maxRecDepth 100000 in
theorem ok_X4_totalOf {lo n : Nat} {a0 : Nat} {x1 : Int32} {M : MM} {R : Int32} (h0 : tSt lo n a0) (h : f_X4_totalOf a0 x1 M = some R) : MC yX4_totalOf cX4_totalOf 2 (some .int) 0 0 lo n [.ref a0, .int x1] M (some (.int R)) M := by
  refine MC.of (ls0 := [(0, .ref a0), (1, .int x1)]) (by decide) rfl (fun _ => Nat.le_of_ble_eq_true rfl) (fun p l e s m args below meth c D dA ad A X hr => ?_)
  replace X : CX p s m args meth c cX4_totalOf 2 RX4 D dA ad lo n A := X
  unfold f_X4_totalOf at h
  refine AW.iload_n (k0 := 1) (pc' := 1) X rfl rfl dX4_totalOf_0 rfl ?_
  by_cases q1 : x1 = 0
  · replace h := itep q1 h
    refine AW.tin (pc' := 60) X dX4_totalOf_1 (by rw [q1]; decide) (by rw [q1]; decide) (by rw [q1] <;> rfl) rfl ?_
    refine AW.aload_n (k0 := 0) (pc' := 61) X rfl rfl dX4_totalOf_60 rfl ?_
    refine AW.gX4 (v := .int (M a0 8)) (pc' := 64) X h0 8 (by decide) rfl mf_X4_44 rfl dX4_totalOf_61 rfl ?_
    replace h := Option.some.inj h
    subst h
    exact AW.iret X hr dX4_totalOf_64
  · replace h := iten q1 h
    by_cases q2 : x1 = 1
    · replace h := itep q2 h
      refine AW.tin (pc' := 65) X dX4_totalOf_1 (by rw [q2]; decide) (by rw [q2]; decide) (by rw [q2] <;> rfl) rfl ?_
      refine AW.aload_n (k0 := 0) (pc' := 66) X rfl rfl dX4_totalOf_65 rfl ?_
      refine AW.gX4 (v := .int (M a0 8)) (pc' := 69) X h0 8 (by decide) rfl mf_X4_44 rfl dX4_totalOf_66 rfl ?_
      refine AW.if_ne (pc' := 72) (tgt := 77) X dX4_totalOf_69 rfl rfl (fun q3 => ?_) (fun q3 => ?_)
      · replace h := iten q3 h
        refine AW.aload_n (k0 := 0) (pc' := 78) X rfl rfl dX4_totalOf_77 rfl ?_
        refine AW.gX4 (v := .int (M a0 9)) (pc' := 81) X h0 9 (by decide) rfl mf_X4_114 rfl dX4_totalOf_78 rfl ?_
        refine AW.sub (ls' := []) [] rfl ?_
        exact ok_X4_totalOf_81 X hr h0 (M a0 9) R h
      · replace h := itep q3 h
        refine AW.bipush (v := (-6)) (pc' := 74) X rfl dX4_totalOf_72 rfl ?_
        refine AW.goto (pc' := 81) X dX4_totalOf_74 rfl ?_
        refine AW.sub (ls' := []) [] rfl ?_
        exact ok_X4_totalOf_81 X hr h0 (-6) R h
    · replace h := iten q2 h
      by_cases q4 : x1 = 2
      · replace h := itep q4 h
        refine AW.tin (pc' := 82) X dX4_totalOf_1 (by rw [q4]; decide) (by rw [q4]; decide) (by rw [q4] <;> rfl) rfl ?_
        refine AW.aload_n (k0 := 0) (pc' := 83) X rfl rfl dX4_totalOf_82 rfl ?_
        refine AW.gX4 (v := .int (M a0 10)) (pc' := 86) X h0 10 (by decide) rfl mf_X4_141 rfl dX4_totalOf_83 rfl ?_
        replace h := Option.some.inj h
        subst h
        exact AW.iret X hr dX4_totalOf_86
      · replace h := iten q4 h
        by_cases q5 : x1 = 3
        · replace h := itep q5 h
          refine AW.tin (pc' := 87) X dX4_totalOf_1 (by rw [q5]; decide) (by rw [q5]; decide) (by rw [q5] <;> rfl) rfl ?_
          refine AW.aload_n (k0 := 0) (pc' := 88) X rfl rfl dX4_totalOf_87 rfl ?_
          refine AW.gX4 (v := .ref (a0 + 1)) (pc' := 91) X h0 0 (by decide) rfl mf_X4_12 rfl dX4_totalOf_88 rfl ?_
          refine AW.gX2 (v := .int (M (a0 + 1) 1)) (pc' := 94) X (rS1 h0) 1 (by decide) rfl mf_X4_65 rfl dX4_totalOf_91 rfl ?_
          replace h := Option.some.inj h
          subst h
          exact AW.iret X hr dX4_totalOf_94
        · replace h := iten q5 h
          by_cases q6 : x1 = 4
          · replace h := itep q6 h
            refine AW.tin (pc' := 95) X dX4_totalOf_1 (by rw [q6]; decide) (by rw [q6]; decide) (by rw [q6] <;> rfl) rfl ?_
            refine AW.aload_n (k0 := 0) (pc' := 96) X rfl rfl dX4_totalOf_95 rfl ?_
            refine AW.gX4 (v := .ref (a0 + 3)) (pc' := 99) X h0 1 (by decide) rfl mf_X4_21 rfl dX4_totalOf_96 rfl ?_
            refine AW.gX3 (v := .int (M (a0 + 3) 2)) (pc' := 102) X (rS3 h0) 2 (by decide) rfl mf_X4_144 rfl dX4_totalOf_99 rfl ?_
            replace h := Option.some.inj h
            subst h
            exact AW.iret X hr dX4_totalOf_102
          · replace h := iten q6 h
            by_cases q7 : x1 = 5
            · replace h := itep q7 h
              refine AW.tin (pc' := 103) X dX4_totalOf_1 (by rw [q7]; decide) (by rw [q7]; decide) (by rw [q7] <;> rfl) rfl ?_
              refine AW.aload_n (k0 := 0) (pc' := 104) X rfl rfl dX4_totalOf_103 rfl ?_
              refine AW.gX4 (v := .int (M a0 3)) (pc' := 107) X h0 3 (by decide) rfl mf_X4_72 rfl dX4_totalOf_104 rfl ?_
              replace h := Option.some.inj h
              subst h
              exact AW.iret X hr dX4_totalOf_107
            · replace h := iten q7 h
              by_cases q8 : x1 = 6
              · replace h := itep q8 h
                refine AW.tin (pc' := 108) X dX4_totalOf_1 (by rw [q8]; decide) (by rw [q8]; decide) (by rw [q8] <;> rfl) rfl ?_
                refine AW.aload_n (k0 := 0) (pc' := 109) X rfl rfl dX4_totalOf_108 rfl ?_
                refine AW.gX4 (v := .int (M a0 12)) (pc' := 112) X h0 12 (by decide) rfl mf_X4_90 rfl dX4_totalOf_109 rfl ?_
                replace h := Option.some.inj h
                subst h
                exact AW.iret X hr dX4_totalOf_112
              · replace h := iten q8 h
                by_cases q9 : x1 = 7
                · replace h := itep q9 h
                  refine AW.tin (pc' := 113) X dX4_totalOf_1 (by rw [q9]; decide) (by rw [q9]; decide) (by rw [q9] <;> rfl) rfl ?_
                  refine AW.aload_n (k0 := 0) (pc' := 114) X rfl rfl dX4_totalOf_113 rfl ?_
                  refine AW.gX4 (v := .int (bz (nz (M a0 11)))) (pc' := 117) X h0 11 (by decide) rfl mf_X4_86 rfl dX4_totalOf_114 rfl ?_
                  refine AW.if_eq (pc' := 120) (tgt := 124) X dX4_totalOf_117 rfl rfl (fun q10 => ?_) (fun q10 => ?_)
                  · replace h := itep q10 h
                    refine AW.iconst (v := 0) (pc' := 125) X rfl dX4_totalOf_124 rfl ?_
                    refine AW.sub (ls' := []) [] rfl ?_
                    exact ok_X4_totalOf_125 X hr h0 false R h
                  · replace h := iten q10 h
                    refine AW.iconst (v := 1) (pc' := 121) X rfl dX4_totalOf_120 rfl ?_
                    refine AW.goto (pc' := 125) X dX4_totalOf_121 rfl ?_
                    refine AW.sub (ls' := []) [] rfl ?_
                    exact ok_X4_totalOf_125 X hr h0 true R h
                · replace h := iten q9 h
                  by_cases q11 : x1 = 8
                  · replace h := itep q11 h
                    refine AW.tin (pc' := 126) X dX4_totalOf_1 (by rw [q11]; decide) (by rw [q11]; decide) (by rw [q11] <;> rfl) rfl ?_
                    refine AW.aload_n (k0 := 0) (pc' := 127) X rfl rfl dX4_totalOf_126 rfl ?_
                    refine AW.gX4 (v := .int (M a0 13)) (pc' := 130) X h0 13 (by decide) rfl mf_X4_93 rfl dX4_totalOf_127 rfl ?_
                    replace h := Option.some.inj h
                    subst h
                    exact AW.iret X hr dX4_totalOf_130
                  · replace h := iten q11 h
                    by_cases q12 : x1 = 9
                    · replace h := itep q12 h
                      refine AW.tin (pc' := 131) X dX4_totalOf_1 (by rw [q12]; decide) (by rw [q12]; decide) (by rw [q12] <;> rfl) rfl ?_
                      refine AW.aload_n (k0 := 0) (pc' := 132) X rfl rfl dX4_totalOf_131 rfl ?_
                      refine AW.gX4 (v := .int (M a0 14)) (pc' := 135) X h0 14 (by decide) rfl mf_X4_96 rfl dX4_totalOf_132 rfl ?_
                      replace h := Option.some.inj h
                      subst h
                      exact AW.iret X hr dX4_totalOf_135
                    · replace h := iten q12 h
                      by_cases q13 : x1 = 10
                      · replace h := itep q13 h
                        refine AW.tin (pc' := 136) X dX4_totalOf_1 (by rw [q13]; decide) (by rw [q13]; decide) (by rw [q13] <;> rfl) rfl ?_
                        refine AW.aload_n (k0 := 0) (pc' := 137) X rfl rfl dX4_totalOf_136 rfl ?_
                        refine AW.gX4 (v := .int (M a0 15)) (pc' := 140) X h0 15 (by decide) rfl mf_X4_99 rfl dX4_totalOf_137 rfl ?_
                        replace h := Option.some.inj h
                        subst h
                        exact AW.iret X hr dX4_totalOf_140
                      · replace h := iten q13 h
                        have w0 := lv_neT q1 (by decide : (0 : Int32).toInt = 0)
                        have w1 := lv_neT q2 (by decide : (1 : Int32).toInt = 1)
                        have w2 := lv_neT q4 (by decide : (2 : Int32).toInt = 2)
                        have w3 := lv_neT q5 (by decide : (3 : Int32).toInt = 3)
                        have w4 := lv_neT q6 (by decide : (4 : Int32).toInt = 4)
                        have w5 := lv_neT q7 (by decide : (5 : Int32).toInt = 5)
                        have w6 := lv_neT q8 (by decide : (6 : Int32).toInt = 6)
                        have w7 := lv_neT q9 (by decide : (7 : Int32).toInt = 7)
                        have w8 := lv_neT q11 (by decide : (8 : Int32).toInt = 8)
                        have w9 := lv_neT q12 (by decide : (9 : Int32).toInt = 9)
                        have w10 := lv_neT q13 (by decide : (10 : Int32).toInt = 10)
                        refine AW.tout (pc' := 141) X dX4_totalOf_1 (by omega) rfl ?_
                        refine AW.aload_n (k0 := 0) (pc' := 142) X rfl rfl dX4_totalOf_141 rfl ?_
                        refine AW.gX4 (v := .int (M a0 16)) (pc' := 145) X h0 16 (by decide) rfl mf_X4_48 rfl dX4_totalOf_142 rfl ?_
                        replace h := Option.some.inj h
                        subst h
                        exact AW.iret X hr dX4_totalOf_145
set_option maxHeartbeats 4000000 in
set_option maxRecDepth 100000 in
theorem ok_X5_add {lo n : Nat} {a0 : Nat} {x1 : Int32} {M : MM} {R : (Int32 × MM)} (h0 : tTx lo n a0) (h : f_X5_add a0 x1 M = some R) : MC yX5_add cX5_add 2 (some .int) 1 22 lo n [.ref a0, .int x1] M (some (.int R.1)) R.2 := by
  refine MC.of (ls0 := [(0, .ref a0), (1, .int x1)]) (by decide) rfl (fun _ => Nat.le_of_ble_eq_true rfl) (fun p l e s m args below meth c D dA ad A X hr => ?_)
  replace X : CX p s m args meth c cX5_add 2 RX5 D dA ad lo n A := X
  unfold f_X5_add at h
  refine AW.iload_n (k0 := 1) (pc' := 1) X rfl rfl dX5_add_0 rfl ?_
  refine AW.bipush (v := 32) (pc' := 3) X rfl dX5_add_1 rfl ?_
  refine AW.bipush (v := 126) (pc' := 5) X rfl dX5_add_3 rfl ?_
  obtain ⟨v1, c1, h⟩ := Option.bind_eq_some_iff.mp h
  refine AW.callN (As := [.int x1, .int 32, .int 126]) (rest := []) (rv := (some (.int (bz v1)))) (M' := M) (pc' := 8) X (ok_X6_isWithin c1) yv_X6_isWithin mn_X5_15 ⟨by decide, by decide, by decide, by decide⟩ rfl (Nat.le_of_ble_eq_true rfl) rfl rfl dX5_add_5 rfl ?_
  refine AW.if_ne (pc' := 11) (tgt := 14) X dX5_add_8 rfl rfl (fun q2 => ?_) (fun q2 => ?_)
  · replace h := iten q2 h
    refine AW.aload_n (k0 := 0) (pc' := 15) X rfl rfl dX5_add_14 rfl ?_
    refine AW.gX5 (v := .int (M a0 1)) (pc' := 18) X h0 1 (by decide) rfl mf_X5_19 rfl dX5_add_15 rfl ?_
    refine AW.bipush (v := 80) (pc' := 20) X rfl dX5_add_18 rfl ?_
    refine AW.icmp_lt (pc' := 23) (tgt := 26) X dX5_add_20 rfl rfl (fun q3 => ?_) (fun q3 => ?_)
    · replace h := itep q3 h
      refine AW.aload_n (k0 := 0) (pc' := 27) X rfl rfl dX5_add_26 rfl ?_
      refine AW.gX5 (v := .ref (a0 + 1)) (pc' := 30) X h0 0 (by decide) rfl mf_X5_9 rfl dX5_add_27 rfl ?_
      refine AW.aload_n (k0 := 0) (pc' := 31) X rfl rfl dX5_add_30 rfl ?_
      refine AW.gX5 (v := .int (M a0 1)) (pc' := 34) X h0 1 (by decide) rfl mf_X5_19 rfl dX5_add_31 rfl ?_
      refine AW.iload_n (k0 := 1) (pc' := 35) X rfl rfl dX5_add_34 rfl ?_
      obtain ⟨g4, h⟩ := gd_some h
      refine AW.iast (pc' := 36) X (rT1 h0) (inb_vp g4) dX5_add_35 rfl ?_
      refine AW.aload_n (k0 := 0) (pc' := 37) X rfl rfl dX5_add_36 rfl ?_
      refine AW.dup (pc' := 38) X rfl dX5_add_37 rfl ?_
      refine AW.gX5 (v := .int ((ms M (a0 + 1) (ix (M a0 1)) x1) a0 1)) (pc' := 41) X h0 1 (by decide) rfl mf_X5_19 rfl dX5_add_38 rfl ?_
      refine AW.iconst (v := 1) (pc' := 42) X rfl dX5_add_41 rfl ?_
      refine AW.iadd (pc' := 43) X dX5_add_42 rfl ?_
      refine AW.pX5 (pc' := 46) X h0 1 (by decide) rfl mf_X5_19 rfl rfl (by simp [fsT, upd]) (Nat.le_of_ble_eq_true rfl) dX5_add_43 rfl ?_
      refine AW.aload_n (k0 := 0) (pc' := 47) X rfl rfl dX5_add_46 rfl ?_
      refine AW.gX5 (v := .int ((ms (ms M (a0 + 1) (ix (M a0 1)) x1) a0 1 (((ms M (a0 + 1) (ix (M a0 1)) x1) a0 1) + 1)) a0 1)) (pc' := 50) X h0 1 (by decide) rfl mf_X5_19 rfl dX5_add_47 rfl ?_
      replace h := Option.some.inj h
      subst h
      exact AW.iret X hr dX5_add_50
    · replace h := iten q3 h
      refine AW.bipush (v := (-4)) (pc' := 25) X rfl dX5_add_23 rfl ?_
      replace h := Option.some.inj h
      subst h
      exact AW.iret X hr dX5_add_25
  · replace h := itep q2 h
    refine AW.bipush (v := (-2)) (pc' := 13) X rfl dX5_add_11 rfl ?_
    replace h := Option.some.inj h
    subst h
    exact AW.iret X hr dX5_add_13
set_option maxHeartbeats 4000000 in
set_option maxRecDepth 100000 in
theorem ok_X5_rewind {lo n : Nat} {a0 : Nat} {M : MM} {R : MM} (h0 : tTx lo n a0) (h : f_X5_rewind a0 M = some R) : MC yX5_rewind cX5_rewind 1 none 0 0 lo n [.ref a0] M none R := by
  refine MC.of (ls0 := [(0, .ref a0)]) (by decide) rfl (fun _ => Nat.le_of_ble_eq_true rfl) (fun p l e s m args below meth c D dA ad A X hr => ?_)
  replace X : CX p s m args meth c cX5_rewind 1 RX5 D dA ad lo n A := X
  unfold f_X5_rewind at h
  refine AW.aload_n (k0 := 0) (pc' := 1) X rfl rfl dX5_rewind_0 rfl ?_
  refine AW.iconst (v := 0) (pc' := 2) X rfl dX5_rewind_1 rfl ?_
  refine AW.pX5 (pc' := 5) X h0 2 (by decide) rfl mf_X5_23 rfl rfl (by simp [fsT, upd]) (Nat.le_of_ble_eq_true rfl) dX5_rewind_2 rfl ?_
  replace h := Option.some.inj h
  subst h
  exact AW.vret X hr dX5_rewind_5
set_option maxHeartbeats 4000000 in
set_option maxRecDepth 100000 in
theorem ok_X5_here_31 {a0 : Nat} {M : MM} (X : CX p s m args meth c cX5_here 1 RX5 D dA ad lo n A) (hr : meth.sig.returnType = (some .int)) (h0 : tTx lo n a0) : ∀ (s0 : Int32) (R : Int32), f_X5_here_31 a0 M s0 = some R → AR p l e 1 22 s m args below meth c D dA ad lo n 1 A (some (.int R)) M 31 [] [.int s0] M := by
  intro s0 R h
  unfold f_X5_here_31 at h
  replace h := Option.some.inj h
  subst h
  exact AW.iret X hr dX5_here_31
set_option maxHeartbeats 4000000 in
set_option maxRecDepth 100000 in
theorem ok_X5_here {lo n : Nat} {a0 : Nat} {M : MM} {R : Int32} (h0 : tTx lo n a0) (h : f_X5_here a0 M = some R) : MC yX5_here cX5_here 1 (some .int) 1 22 lo n [.ref a0] M (some (.int R)) M := by
  refine MC.of (ls0 := [(0, .ref a0)]) (by decide) rfl (fun _ => Nat.le_of_ble_eq_true rfl) (fun p l e s m args below meth c D dA ad A X hr => ?_)
  replace X : CX p s m args meth c cX5_here 1 RX5 D dA ad lo n A := X
  unfold f_X5_here at h
  refine AW.aload_n (k0 := 0) (pc' := 1) X rfl rfl dX5_here_0 rfl ?_
  refine AW.gX5 (v := .int (M a0 2)) (pc' := 4) X h0 2 (by decide) rfl mf_X5_23 rfl dX5_here_1 rfl ?_
  refine AW.iconst (v := 0) (pc' := 5) X rfl dX5_here_4 rfl ?_
  refine AW.aload_n (k0 := 0) (pc' := 6) X rfl rfl dX5_here_5 rfl ?_
  refine AW.gX5 (v := .int (M a0 1)) (pc' := 9) X h0 1 (by decide) rfl mf_X5_19 rfl dX5_here_6 rfl ?_
  refine AW.iconst (v := 1) (pc' := 10) X rfl dX5_here_9 rfl ?_
  refine AW.isub (pc' := 11) X dX5_here_10 rfl ?_
  obtain ⟨v1, c1, h⟩ := Option.bind_eq_some_iff.mp h
  refine AW.callN (As := [.int (M a0 2), .int 0, .int ((M a0 1) - 1)]) (rest := []) (rv := (some (.int (bz v1)))) (M' := M) (pc' := 14) X (ok_X6_isWithin c1) yv_X6_isWithin mn_X5_15 ⟨by decide, by decide, by decide, by decide⟩ rfl (Nat.le_of_ble_eq_true rfl) rfl rfl dX5_here_11 rfl ?_
  refine AW.if_eq (pc' := 17) (tgt := 29) X dX5_here_14 rfl rfl (fun q2 => ?_) (fun q2 => ?_)
  · replace h := itep q2 h
    refine AW.bipush (v := (-6)) (pc' := 31) X rfl dX5_here_29 rfl ?_
    refine AW.sub (ls' := []) [] rfl ?_
    exact ok_X5_here_31 X hr h0 (-6) R h
  · replace h := iten q2 h
    refine AW.aload_n (k0 := 0) (pc' := 18) X rfl rfl dX5_here_17 rfl ?_
    refine AW.gX5 (v := .ref (a0 + 1)) (pc' := 21) X h0 0 (by decide) rfl mf_X5_9 rfl dX5_here_18 rfl ?_
    refine AW.aload_n (k0 := 0) (pc' := 22) X rfl rfl dX5_here_21 rfl ?_
    refine AW.gX5 (v := .int (M a0 2)) (pc' := 25) X h0 2 (by decide) rfl mf_X5_23 rfl dX5_here_22 rfl ?_
    obtain ⟨g3, h⟩ := gd_some h
    refine AW.iald (pc' := 26) X (rT1 h0) (inb_vp g3) dX5_here_25 rfl ?_
    refine AW.goto (pc' := 31) X dX5_here_26 rfl ?_
    refine AW.sub (ls' := []) [] rfl ?_
    exact ok_X5_here_31 X hr h0 (M (a0 + 1) (ix (M a0 2))) R h
set_option maxHeartbeats 4000000 in
set_option maxRecDepth 100000 in
theorem ok_X5_readNumber_45 {a0 : Nat} (X : CX p s m args meth c cX5_readNumber 5 RX5 D dA ad lo n A) (hr : meth.sig.returnType = (some .boolean)) (h0 : tTx lo n a0) {rec13 : Int32 → Int32 → Int32 → Int32 → MM → Option (Bool × MM)} (hrec13 : ∀ (x1 : Int32) (x2 : Int32) (x3 : Int32) (x4 : Int32) (M : MM) (R : (Bool × MM)), rec13 x1 x2 x3 x4 M = some R → AR p l e 2 42 s m args below meth c D dA ad lo n 5 A (some (.int (bz R.1))) R.2 13 [(0, .ref a0), (1, .int x1), (2, .int x2), (3, .int x3), (4, .int x4)] [] M) : ∀ (x1 : Int32) (x2 : Int32) (x3 : Int32) (x4 : Int32) (M : MM) (R : (Bool × MM)), f_X5_readNumber_45 a0 rec13 x1 x2 x3 x4 M = some R → AR p l e 2 42 s m args below meth c D dA ad lo n 5 A (some (.int (bz R.1))) R.2 45 [(0, .ref a0), (1, .int x1), (2, .int x2), (3, .int x3), (4, .int x4)] [] M := by
  intro x1 x2 x3 x4 M R h
  unfold f_X5_readNumber_45 at h
  refine AW.aload_n (k0 := 0) (pc' := 46) X rfl rfl dX5_readNumber_45 rfl ?_
  refine AW.aload_n (k0 := 0) (pc' := 47) X rfl rfl dX5_readNumber_46 rfl ?_
  refine AW.gX5 (v := .int (M a0 4)) (pc' := 50) X h0 4 (by decide) rfl mf_X5_54 rfl dX5_readNumber_47 rfl ?_
  refine AW.bipush (v := 10) (pc' := 52) X rfl dX5_readNumber_50 rfl ?_
  refine AW.imul (pc' := 53) X dX5_readNumber_52 rfl ?_
  refine AW.aload_n (k0 := 0) (pc' := 54) X rfl rfl dX5_readNumber_53 rfl ?_
  obtain ⟨v1, c1, h⟩ := Option.bind_eq_some_iff.mp h
  refine AW.callV (As := []) (rest := [.int ((M a0 4) * 10), .ref a0]) (rv := (some (.int v1))) (M' := M) (pc' := 57) X (ok_X5_here h0 c1) yv_X5_here h0.1 h0.2.1 (cT h0 dA ad _) rfl rfl ml_X5_33 ⟨by decide, by decide, by decide, by decide⟩ rfl (Nat.le_of_ble_eq_true rfl) rfl rfl dX5_readNumber_54 rfl ?_
  refine AW.iadd (pc' := 58) X dX5_readNumber_57 rfl ?_
  refine AW.bipush (v := 48) (pc' := 60) X rfl dX5_readNumber_58 rfl ?_
  refine AW.isub (pc' := 61) X dX5_readNumber_60 rfl ?_
  refine AW.pX5 (pc' := 64) X h0 4 (by decide) rfl mf_X5_54 rfl rfl (by simp [fsT, upd]) (Nat.le_of_ble_eq_true rfl) dX5_readNumber_61 rfl ?_
  refine AW.iinc (k0 := 4) (v := (x4 + 1)) (y := 1) (ls' := [(4, .int (x4 + 1)), (0, .ref a0), (1, .int x1), (2, .int x2), (3, .int x3)]) (pc' := 67) X rfl rfl rfl (by decide) rfl dX5_readNumber_64 rfl ?_
  refine AW.aload_n (k0 := 1) (pc' := 68) X rfl rfl dX5_readNumber_67 rfl ?_
  refine AW.dup (pc' := 69) X rfl dX5_readNumber_68 rfl ?_
  refine AW.gX5 (v := .int ((ms M a0 4 ((((M a0 4) * 10) + v1) - 48)) a0 2)) (pc' := 72) X h0 2 (by decide) rfl mf_X5_23 rfl dX5_readNumber_69 rfl ?_
  refine AW.iconst (v := 1) (pc' := 73) X rfl dX5_readNumber_72 rfl ?_
  refine AW.iadd (pc' := 74) X dX5_readNumber_73 rfl ?_
  refine AW.pX5 (pc' := 77) X h0 2 (by decide) rfl mf_X5_23 rfl rfl (by simp [fsT, upd]) (Nat.le_of_ble_eq_true rfl) dX5_readNumber_74 rfl ?_
  refine AW.goto (pc' := 13) X dX5_readNumber_77 rfl ?_
  refine AW.sub (ls' := [(0, .ref a0), (1, .int x1), (2, .int x2), (3, .int x3), (4, .int (x4 + 1))]) [1, 2, 3, 4, 0] rfl ?_
  exact hrec13 x1 x2 x3 (x4 + 1) (ms (ms M a0 4 ((((M a0 4) * 10) + v1) - 48)) a0 2 (((ms M a0 4 ((((M a0 4) * 10) + v1) - 48)) a0 2) + 1)) R h
set_option maxHeartbeats 4000000 in
set_option maxRecDepth 100000 in
theorem ok_X5_readNumber_80 {a0 : Nat} (X : CX p s m args meth c cX5_readNumber 5 RX5 D dA ad lo n A) (hr : meth.sig.returnType = (some .boolean)) (h0 : tTx lo n a0) : ∀ (x1 : Int32) (x2 : Int32) (x3 : Int32) (x4 : Int32) (M : MM) (R : (Bool × MM)), f_X5_readNumber_80 a0 x1 x2 x3 x4 M = some R → AR p l e 2 42 s m args below meth c D dA ad lo n 5 A (some (.int (bz R.1))) R.2 80 [(0, .ref a0), (1, .int x1), (2, .int x2), (3, .int x3), (4, .int x4)] [] M := by
  intro x1 x2 x3 x4 M R h
  unfold f_X5_readNumber_80 at h
  refine AW.iload (k0 := 4) (pc' := 82) X rfl dX5_readNumber_80 rfl ?_
  refine AW.if_ne (pc' := 85) (tgt := 87) X dX5_readNumber_82 rfl rfl (fun q1 => ?_) (fun q1 => ?_)
  · replace h := iten q1 h
    refine AW.aload_n (k0 := 0) (pc' := 88) X rfl rfl dX5_readNumber_87 rfl ?_
    refine AW.gX5 (v := .int (M a0 4)) (pc' := 91) X h0 4 (by decide) rfl mf_X5_54 rfl dX5_readNumber_88 rfl ?_
    refine AW.iload_n (k0 := 1) (pc' := 92) X rfl rfl dX5_readNumber_91 rfl ?_
    refine AW.iload_n (k0 := 2) (pc' := 93) X rfl rfl dX5_readNumber_92 rfl ?_
    obtain ⟨v2, c2, h⟩ := Option.bind_eq_some_iff.mp h
    refine AW.callN (As := [.int (M a0 4), .int x1, .int x2]) (rest := []) (rv := (some (.int (bz v2)))) (M' := M) (pc' := 96) X (ok_X6_isWithin c2) yv_X6_isWithin mn_X5_15 ⟨by decide, by decide, by decide, by decide⟩ rfl (Nat.le_of_ble_eq_true rfl) rfl rfl dX5_readNumber_93 rfl ?_
    refine AW.if_ne (pc' := 99) (tgt := 106) X dX5_readNumber_96 rfl rfl (fun q3 => ?_) (fun q3 => ?_)
    · replace h := iten q3 h
      refine AW.iconst (v := 1) (pc' := 107) X rfl dX5_readNumber_106 rfl ?_
      replace h := Option.some.inj h
      subst h
      exact AW.zret (b := true) X hr dX5_readNumber_107
    · replace h := itep q3 h
      refine AW.aload_n (k0 := 0) (pc' := 100) X rfl rfl dX5_readNumber_99 rfl ?_
      refine AW.iload_n (k0 := 3) (pc' := 101) X rfl rfl dX5_readNumber_100 rfl ?_
      refine AW.pX5 (pc' := 104) X h0 2 (by decide) rfl mf_X5_23 rfl rfl (by simp [fsT, upd]) (Nat.le_of_ble_eq_true rfl) dX5_readNumber_101 rfl ?_
      refine AW.iconst (v := 0) (pc' := 105) X rfl dX5_readNumber_104 rfl ?_
      replace h := Option.some.inj h
      subst h
      exact AW.zret (b := false) X hr dX5_readNumber_105
  · replace h := itep q1 h
    refine AW.iconst (v := 0) (pc' := 86) X rfl dX5_readNumber_85 rfl ?_
    replace h := Option.some.inj h
    subst h
    exact AW.zret (b := false) X hr dX5_readNumber_86
set_option maxHeartbeats 4000000 in
set_option maxRecDepth 100000 in
theorem ok_X5_readNumber_13 {a0 : Nat} (X : CX p s m args meth c cX5_readNumber 5 RX5 D dA ad lo n A) (hr : meth.sig.returnType = (some .boolean)) (h0 : tTx lo n a0) : ∀ (k : Nat) (x1 : Int32) (x2 : Int32) (x3 : Int32) (x4 : Int32) (M : MM) (R : (Bool × MM)), f_X5_readNumber_13 a0 k x1 x2 x3 x4 M = some R → AR p l e 2 42 s m args below meth c D dA ad lo n 5 A (some (.int (bz R.1))) R.2 13 [(0, .ref a0), (1, .int x1), (2, .int x2), (3, .int x3), (4, .int x4)] [] M := by
  intro k
  induction k with
  | zero => intro _ _ _ _ _ R h; exact none_some h
  | succ k ih =>
    intro x1 x2 x3 x4 M R h
    unfold f_X5_readNumber_13 at h
    refine AW.iload (k0 := 4) (pc' := 15) X rfl dX5_readNumber_13 rfl ?_
    refine AW.iconst (v := 3) (pc' := 16) X rfl dX5_readNumber_15 rfl ?_
    refine AW.icmp_ge (pc' := 19) (tgt := 80) X dX5_readNumber_16 rfl rfl (fun q1 => ?_) (fun q1 => ?_)
    · replace h := itep q1 h
      exact ok_X5_readNumber_80 X hr h0 x1 x2 x3 x4 M R h
    · replace h := iten q1 h
      refine AW.aload_n (k0 := 0) (pc' := 20) X rfl rfl dX5_readNumber_19 rfl ?_
      obtain ⟨v2, c2, h⟩ := Option.bind_eq_some_iff.mp h
      refine AW.callV (As := []) (rest := []) (rv := (some (.int v2))) (M' := M) (pc' := 23) X (ok_X5_here h0 c2) yv_X5_here h0.1 h0.2.1 (cT h0 dA ad _) rfl rfl ml_X5_33 ⟨by decide, by decide, by decide, by decide⟩ rfl (Nat.le_of_ble_eq_true rfl) rfl rfl dX5_readNumber_20 rfl ?_
      refine AW.bipush (v := 48) (pc' := 25) X rfl dX5_readNumber_23 rfl ?_
      refine AW.bipush (v := 57) (pc' := 27) X rfl dX5_readNumber_25 rfl ?_
      obtain ⟨v3, c3, h⟩ := Option.bind_eq_some_iff.mp h
      refine AW.callN (As := [.int v2, .int 48, .int 57]) (rest := []) (rv := (some (.int (bz v3)))) (M' := M) (pc' := 30) X (ok_X6_isWithin c3) yv_X6_isWithin mn_X5_15 ⟨by decide, by decide, by decide, by decide⟩ rfl (Nat.le_of_ble_eq_true rfl) rfl rfl dX5_readNumber_27 rfl ?_
      refine AW.if_eq (pc' := 33) (tgt := 80) X dX5_readNumber_30 rfl rfl (fun q4 => ?_) (fun q4 => ?_)
      · replace h := itep q4 h
        exact ok_X5_readNumber_80 X hr h0 x1 x2 x3 x4 M R h
      · replace h := iten q4 h
        refine AW.iload (k0 := 4) (pc' := 35) X rfl dX5_readNumber_33 rfl ?_
        refine AW.if_le (pc' := 38) (tgt := 45) X dX5_readNumber_35 rfl rfl (fun q5 => ?_) (fun q5 => ?_)
        · replace h := itep q5 h
          exact ok_X5_readNumber_45 X hr h0 ih x1 x2 x3 x4 M R h
        · replace h := iten q5 h
          refine AW.aload_n (k0 := 0) (pc' := 39) X rfl rfl dX5_readNumber_38 rfl ?_
          refine AW.gX5 (v := .int (M a0 4)) (pc' := 42) X h0 4 (by decide) rfl mf_X5_54 rfl dX5_readNumber_39 rfl ?_
          refine AW.if_eq (pc' := 45) (tgt := 80) X dX5_readNumber_42 rfl rfl (fun q6 => ?_) (fun q6 => ?_)
          · replace h := itep q6 h
            exact ok_X5_readNumber_80 X hr h0 x1 x2 x3 x4 M R h
          · replace h := iten q6 h
            exact ok_X5_readNumber_45 X hr h0 ih x1 x2 x3 x4 M R h
set_option maxHeartbeats 4000000 in
set_option maxRecDepth 100000 in
theorem ok_X5_readNumber {lo n : Nat} {a0 : Nat} {x1 : Int32} {x2 : Int32} {M : MM} {R : (Bool × MM)} (h0 : tTx lo n a0) (h : f_X5_readNumber a0 x1 x2 M = some R) : MC yX5_readNumber cX5_readNumber 5 (some .boolean) 2 42 lo n [.ref a0, .int x1, .int x2] M (some (.int (bz R.1))) R.2 := by
  refine MC.of (ls0 := [(0, .ref a0), (1, .int x1), (2, .int x2)]) (by decide) rfl (fun _ => Nat.le_of_ble_eq_true rfl) (fun p l e s m args below meth c D dA ad A X hr => ?_)
  replace X : CX p s m args meth c cX5_readNumber 5 RX5 D dA ad lo n A := X
  unfold f_X5_readNumber at h
  refine AW.aload_n (k0 := 0) (pc' := 1) X rfl rfl dX5_readNumber_0 rfl ?_
  refine AW.gX5 (v := .int (M a0 2)) (pc' := 4) X h0 2 (by decide) rfl mf_X5_23 rfl dX5_readNumber_1 rfl ?_
  refine AW.istore_n (ls' := [(3, .int (M a0 2)), (0, .ref a0), (1, .int x1), (2, .int x2)]) (pc' := 5) X rfl (by decide) rfl dX5_readNumber_4 rfl ?_
  refine AW.iconst (v := 0) (pc' := 6) X rfl dX5_readNumber_5 rfl ?_
  refine AW.istore (ls' := [(4, .int 0), (3, .int (M a0 2)), (0, .ref a0), (1, .int x1), (2, .int x2)]) (pc' := 8) X (by decide) rfl dX5_readNumber_6 rfl ?_
  refine AW.aload_n (k0 := 2) (pc' := 9) X rfl rfl dX5_readNumber_8 rfl ?_
  refine AW.iconst (v := 0) (pc' := 10) X rfl dX5_readNumber_9 rfl ?_
  refine AW.pX5 (pc' := 13) X h0 4 (by decide) rfl mf_X5_54 rfl rfl (by simp [fsT, upd]) (Nat.le_of_ble_eq_true rfl) dX5_readNumber_10 rfl ?_
  refine AW.sub (ls' := [(0, .ref a0), (1, .int x1), (2, .int x2), (3, .int (M a0 2)), (4, .int 0)]) [2, 3, 4, 1, 0] rfl ?_
  exact ok_X5_readNumber_13 X hr h0 FU x1 x2 (M a0 2) 0 (ms M a0 4 0) R h
set_option maxHeartbeats 4000000 in
set_option maxRecDepth 100000 in
theorem ok_X5_readFirst {lo n : Nat} {a0 : Nat} {x1 : Int32} {x2 : Int32} {M : MM} {R : (Bool × MM)} (h0 : tTx lo n a0) (h : f_X5_readFirst a0 x1 x2 M = some R) : MC yX5_readFirst cX5_readFirst 4 (some .boolean) 3 66 lo n [.ref a0, .int x1, .int x2] M (some (.int (bz R.1))) R.2 := by
  refine MC.of (ls0 := [(0, .ref a0), (1, .int x1), (2, .int x2)]) (by decide) rfl (fun _ => Nat.le_of_ble_eq_true rfl) (fun p l e s m args below meth c D dA ad A X hr => ?_)
  replace X : CX p s m args meth c cX5_readFirst 4 RX5 D dA ad lo n A := X
  unfold f_X5_readFirst at h
  refine AW.aload_n (k0 := 0) (pc' := 1) X rfl rfl dX5_readFirst_0 rfl ?_
  refine AW.iload_n (k0 := 1) (pc' := 2) X rfl rfl dX5_readFirst_1 rfl ?_
  refine AW.iload_n (k0 := 2) (pc' := 3) X rfl rfl dX5_readFirst_2 rfl ?_
  obtain ⟨v1, c1, h⟩ := Option.bind_eq_some_iff.mp h
  refine AW.callV (As := [.int x1, .int x2]) (rest := []) (rv := (some (.int (bz v1.1)))) (M' := v1.2) (pc' := 6) X (ok_X5_readNumber h0 c1) yv_X5_readNumber h0.1 h0.2.1 (cT h0 dA ad _) rfl rfl ml_X5_51 ⟨by decide, by decide, by decide, by decide⟩ rfl (Nat.le_of_ble_eq_true rfl) rfl rfl dX5_readFirst_3 rfl ?_
  refine AW.istore_n (ls' := [(3, .int (bz v1.1)), (0, .ref a0), (1, .int x1), (2, .int x2)]) (pc' := 7) X rfl (by decide) rfl dX5_readFirst_6 rfl ?_
  refine AW.aload_n (k0 := 1) (pc' := 8) X rfl rfl dX5_readFirst_7 rfl ?_
  refine AW.aload_n (k0 := 1) (pc' := 9) X rfl rfl dX5_readFirst_8 rfl ?_
  refine AW.gX5 (v := .int (v1.2 a0 4)) (pc' := 12) X h0 4 (by decide) rfl mf_X5_54 rfl dX5_readFirst_9 rfl ?_
  refine AW.pX5 (pc' := 15) X h0 5 (by decide) rfl mf_X5_57 rfl rfl (by simp [fsT, upd]) (Nat.le_of_ble_eq_true rfl) dX5_readFirst_12 rfl ?_
  refine AW.iload_n (k0 := 0) (pc' := 16) X rfl rfl dX5_readFirst_15 rfl ?_
  replace h := Option.some.inj h
  subst h
  exact AW.zret (b := v1.1) X hr dX5_readFirst_16
set_option maxHeartbeats 4000000 in
set_option maxRecDepth 100000 in
theorem ok_X5_readSign {lo n : Nat} {a0 : Nat} {x1 : Int32} {M : MM} {R : (Bool × MM)} (h0 : tTx lo n a0) (h : f_X5_readSign a0 x1 M = some R) : MC yX5_readSign cX5_readSign 2 (some .boolean) 2 42 lo n [.ref a0, .int x1] M (some (.int (bz R.1))) R.2 := by
  refine MC.of (ls0 := [(0, .ref a0), (1, .int x1)]) (by decide) rfl (fun _ => Nat.le_of_ble_eq_true rfl) (fun p l e s m args below meth c D dA ad A X hr => ?_)
  replace X : CX p s m args meth c cX5_readSign 2 RX5 D dA ad lo n A := X
  unfold f_X5_readSign at h
  refine AW.aload_n (k0 := 0) (pc' := 1) X rfl rfl dX5_readSign_0 rfl ?_
  obtain ⟨v1, c1, h⟩ := Option.bind_eq_some_iff.mp h
  refine AW.callV (As := []) (rest := []) (rv := (some (.int v1))) (M' := M) (pc' := 4) X (ok_X5_here h0 c1) yv_X5_here h0.1 h0.2.1 (cT h0 dA ad _) rfl rfl ml_X5_33 ⟨by decide, by decide, by decide, by decide⟩ rfl (Nat.le_of_ble_eq_true rfl) rfl rfl dX5_readSign_1 rfl ?_
  refine AW.iload_n (k0 := 1) (pc' := 5) X rfl rfl dX5_readSign_4 rfl ?_
  refine AW.icmp_eq (pc' := 8) (tgt := 10) X dX5_readSign_5 rfl rfl (fun q2 => ?_) (fun q2 => ?_)
  · replace h := itep q2 h
    refine AW.aload_n (k0 := 0) (pc' := 11) X rfl rfl dX5_readSign_10 rfl ?_
    refine AW.dup (pc' := 12) X rfl dX5_readSign_11 rfl ?_
    refine AW.gX5 (v := .int (M a0 2)) (pc' := 15) X h0 2 (by decide) rfl mf_X5_23 rfl dX5_readSign_12 rfl ?_
    refine AW.iconst (v := 1) (pc' := 16) X rfl dX5_readSign_15 rfl ?_
    refine AW.iadd (pc' := 17) X dX5_readSign_16 rfl ?_
    refine AW.pX5 (pc' := 20) X h0 2 (by decide) rfl mf_X5_23 rfl rfl (by simp [fsT, upd]) (Nat.le_of_ble_eq_true rfl) dX5_readSign_17 rfl ?_
    refine AW.iconst (v := 1) (pc' := 21) X rfl dX5_readSign_20 rfl ?_
    replace h := Option.some.inj h
    subst h
    exact AW.zret (b := true) X hr dX5_readSign_21
  · replace h := iten q2 h
    refine AW.iconst (v := 0) (pc' := 9) X rfl dX5_readSign_8 rfl ?_
    replace h := Option.some.inj h
    subst h
    exact AW.zret (b := false) X hr dX5_readSign_9
set_option maxHeartbeats 4000000 in
set_option maxRecDepth 100000 in
theorem ok_X5_readSecond {lo n : Nat} {a0 : Nat} {x1 : Int32} {x2 : Int32} {M : MM} {R : (Bool × MM)} (h0 : tTx lo n a0) (h : f_X5_readSecond a0 x1 x2 M = some R) : MC yX5_readSecond cX5_readSecond 4 (some .boolean) 3 66 lo n [.ref a0, .int x1, .int x2] M (some (.int (bz R.1))) R.2 := by
  refine MC.of (ls0 := [(0, .ref a0), (1, .int x1), (2, .int x2)]) (by decide) rfl (fun _ => Nat.le_of_ble_eq_true rfl) (fun p l e s m args below meth c D dA ad A X hr => ?_)
  replace X : CX p s m args meth c cX5_readSecond 4 RX5 D dA ad lo n A := X
  unfold f_X5_readSecond at h
  refine AW.aload_n (k0 := 0) (pc' := 1) X rfl rfl dX5_readSecond_0 rfl ?_
  refine AW.iload_n (k0 := 1) (pc' := 2) X rfl rfl dX5_readSecond_1 rfl ?_
  refine AW.iload_n (k0 := 2) (pc' := 3) X rfl rfl dX5_readSecond_2 rfl ?_
  obtain ⟨v1, c1, h⟩ := Option.bind_eq_some_iff.mp h
  refine AW.callV (As := [.int x1, .int x2]) (rest := []) (rv := (some (.int (bz v1.1)))) (M' := v1.2) (pc' := 6) X (ok_X5_readNumber h0 c1) yv_X5_readNumber h0.1 h0.2.1 (cT h0 dA ad _) rfl rfl ml_X5_51 ⟨by decide, by decide, by decide, by decide⟩ rfl (Nat.le_of_ble_eq_true rfl) rfl rfl dX5_readSecond_3 rfl ?_
  refine AW.istore_n (ls' := [(3, .int (bz v1.1)), (0, .ref a0), (1, .int x1), (2, .int x2)]) (pc' := 7) X rfl (by decide) rfl dX5_readSecond_6 rfl ?_
  refine AW.aload_n (k0 := 1) (pc' := 8) X rfl rfl dX5_readSecond_7 rfl ?_
  refine AW.aload_n (k0 := 1) (pc' := 9) X rfl rfl dX5_readSecond_8 rfl ?_
  refine AW.gX5 (v := .int (v1.2 a0 4)) (pc' := 12) X h0 4 (by decide) rfl mf_X5_54 rfl dX5_readSecond_9 rfl ?_
  refine AW.pX5 (pc' := 15) X h0 6 (by decide) rfl mf_X5_60 rfl rfl (by simp [fsT, upd]) (Nat.le_of_ble_eq_true rfl) dX5_readSecond_12 rfl ?_
  refine AW.iload_n (k0 := 0) (pc' := 16) X rfl rfl dX5_readSecond_15 rfl ?_
  replace h := Option.some.inj h
  subst h
  exact AW.zret (b := v1.1) X hr dX5_readSecond_16
set_option maxHeartbeats 4000000 in
set_option maxRecDepth 100000 in
theorem ok_X5_readAct_107 {a0 : Nat} (X : CX p s m args meth c cX5_readAct 1 RX5 D dA ad lo n A) (hr : meth.sig.returnType = (some .boolean)) (h0 : tTx lo n a0) : ∀ (sb0 : Bool) (M : MM) (R : (Bool × MM)), f_X5_readAct_107 a0 sb0 M = some R → AR p l e 4 89 s m args below meth c D dA ad lo n 1 A (some (.int (bz R.1))) R.2 107 [] [.int (bz sb0)] M := by
  intro sb0 M R h
  unfold f_X5_readAct_107 at h
  replace h := Option.some.inj h
  subst h
  exact AW.zret (b := sb0) X hr dX5_readAct_107
set_option maxHeartbeats 4000000 in
set_option maxRecDepth 100000 in
theorem ok_X5_readAct_106 {a0 : Nat} (X : CX p s m args meth c cX5_readAct 1 RX5 D dA ad lo n A) (hr : meth.sig.returnType = (some .boolean)) (h0 : tTx lo n a0) : ∀ (M : MM) (R : (Bool × MM)), f_X5_readAct_106 a0 M = some R → AR p l e 4 89 s m args below meth c D dA ad lo n 1 A (some (.int (bz R.1))) R.2 106 [] [] M := by
  intro M R h
  unfold f_X5_readAct_106 at h
  refine AW.iconst (v := 0) (pc' := 107) X rfl dX5_readAct_106 rfl ?_
  exact ok_X5_readAct_107 X hr h0 false M R h
set_option maxHeartbeats 4000000 in
set_option maxRecDepth 100000 in
theorem ok_X5_readAct_142 {a0 : Nat} (X : CX p s m args meth c cX5_readAct 1 RX5 D dA ad lo n A) (hr : meth.sig.returnType = (some .boolean)) (h0 : tTx lo n a0) : ∀ (sb0 : Bool) (M : MM) (R : (Bool × MM)), f_X5_readAct_142 a0 sb0 M = some R → AR p l e 4 89 s m args below meth c D dA ad lo n 1 A (some (.int (bz R.1))) R.2 142 [] [.int (bz sb0)] M := by
  intro sb0 M R h
  unfold f_X5_readAct_142 at h
  replace h := Option.some.inj h
  subst h
  exact AW.zret (b := sb0) X hr dX5_readAct_142
set_option maxHeartbeats 4000000 in
set_option maxRecDepth 100000 in
theorem ok_X5_readAct_141 {a0 : Nat} (X : CX p s m args meth c cX5_readAct 1 RX5 D dA ad lo n A) (hr : meth.sig.returnType = (some .boolean)) (h0 : tTx lo n a0) : ∀ (M : MM) (R : (Bool × MM)), f_X5_readAct_141 a0 M = some R → AR p l e 4 89 s m args below meth c D dA ad lo n 1 A (some (.int (bz R.1))) R.2 141 [] [] M := by
  intro M R h
  unfold f_X5_readAct_141 at h
  refine AW.iconst (v := 0) (pc' := 142) X rfl dX5_readAct_141 rfl ?_
  exact ok_X5_readAct_142 X hr h0 false M R h
set_option maxHeartbeats 4000000 in
set_option maxRecDepth 100000 in
theorem ok_X5_readAct_143 {a0 : Nat} (X : CX p s m args meth c cX5_readAct 1 RX5 D dA ad lo n A) (hr : meth.sig.returnType = (some .boolean)) (h0 : tTx lo n a0) : ∀ (M : MM) (R : (Bool × MM)), f_X5_readAct_143 a0 M = some R → AR p l e 4 89 s m args below meth c D dA ad lo n 1 A (some (.int (bz R.1))) R.2 143 [(0, .ref a0)] [] M := by
  intro M R h
  unfold f_X5_readAct_143 at h
  refine AW.aload_n (k0 := 0) (pc' := 144) X rfl rfl dX5_readAct_143 rfl ?_
  refine AW.dup (pc' := 145) X rfl dX5_readAct_144 rfl ?_
  refine AW.gX5 (v := .int (M a0 2)) (pc' := 148) X h0 2 (by decide) rfl mf_X5_23 rfl dX5_readAct_145 rfl ?_
  refine AW.iconst (v := 1) (pc' := 149) X rfl dX5_readAct_148 rfl ?_
  refine AW.iadd (pc' := 150) X dX5_readAct_149 rfl ?_
  refine AW.pX5 (pc' := 153) X h0 2 (by decide) rfl mf_X5_23 rfl rfl (by simp [fsT, upd]) (Nat.le_of_ble_eq_true rfl) dX5_readAct_150 rfl ?_
  refine AW.aload_n (k0 := 0) (pc' := 154) X rfl rfl dX5_readAct_153 rfl ?_
  refine AW.bipush (v := 59) (pc' := 156) X rfl dX5_readAct_154 rfl ?_
  obtain ⟨v1, c1, h⟩ := Option.bind_eq_some_iff.mp h
  refine AW.callV (As := [.int 59]) (rest := []) (rv := (some (.int (bz v1.1)))) (M' := v1.2) (pc' := 159) X (ok_X5_readSign h0 c1) yv_X5_readSign h0.1 h0.2.1 (cT h0 dA ad _) rfl rfl ml_X5_44 ⟨by decide, by decide, by decide, by decide⟩ rfl (Nat.le_of_ble_eq_true rfl) rfl rfl dX5_readAct_156 rfl ?_
  replace h := Option.some.inj h
  subst h
  exact AW.zret (b := v1.1) X hr dX5_readAct_159
set_option maxHeartbeats 4000000 in
set_option maxRecDepth 100000 in
theorem ok_X5_readAct_212 {a0 : Nat} (X : CX p s m args meth c cX5_readAct 1 RX5 D dA ad lo n A) (hr : meth.sig.returnType = (some .boolean)) (h0 : tTx lo n a0) : ∀ (sb0 : Bool) (M : MM) (R : (Bool × MM)), f_X5_readAct_212 a0 sb0 M = some R → AR p l e 4 89 s m args below meth c D dA ad lo n 1 A (some (.int (bz R.1))) R.2 212 [] [.int (bz sb0)] M := by
  intro sb0 M R h
  unfold f_X5_readAct_212 at h
  replace h := Option.some.inj h
  subst h
  exact AW.zret (b := sb0) X hr dX5_readAct_212
set_option maxHeartbeats 4000000 in
set_option maxRecDepth 100000 in
theorem ok_X5_readAct_211 {a0 : Nat} (X : CX p s m args meth c cX5_readAct 1 RX5 D dA ad lo n A) (hr : meth.sig.returnType = (some .boolean)) (h0 : tTx lo n a0) : ∀ (M : MM) (R : (Bool × MM)), f_X5_readAct_211 a0 M = some R → AR p l e 4 89 s m args below meth c D dA ad lo n 1 A (some (.int (bz R.1))) R.2 211 [] [] M := by
  intro M R h
  unfold f_X5_readAct_211 at h
  refine AW.iconst (v := 0) (pc' := 212) X rfl dX5_readAct_211 rfl ?_
  exact ok_X5_readAct_212 X hr h0 false M R h
set_option maxHeartbeats 4000000 in
set_option maxRecDepth 100000 in
theorem ok_X5_readAct {lo n : Nat} {a0 : Nat} {M : MM} {R : (Bool × MM)} (h0 : tTx lo n a0) (h : f_X5_readAct a0 M = some R) : MC yX5_readAct cX5_readAct 1 (some .boolean) 4 89 lo n [.ref a0] M (some (.int (bz R.1))) R.2 := by
  refine MC.of (ls0 := [(0, .ref a0)]) (by decide) rfl (fun _ => Nat.le_of_ble_eq_true rfl) (fun p l e s m args below meth c D dA ad A X hr => ?_)
  replace X : CX p s m args meth c cX5_readAct 1 RX5 D dA ad lo n A := X
  unfold f_X5_readAct at h
  refine AW.aload_n (k0 := 0) (pc' := 1) X rfl rfl dX5_readAct_0 rfl ?_
  refine AW.aload_n (k0 := 0) (pc' := 2) X rfl rfl dX5_readAct_1 rfl ?_
  obtain ⟨v1, c1, h⟩ := Option.bind_eq_some_iff.mp h
  refine AW.callV (As := []) (rest := [.ref a0]) (rv := (some (.int v1))) (M' := M) (pc' := 5) X (ok_X5_here h0 c1) yv_X5_here h0.1 h0.2.1 (cT h0 dA ad _) rfl rfl ml_X5_33 ⟨by decide, by decide, by decide, by decide⟩ rfl (Nat.le_of_ble_eq_true rfl) rfl rfl dX5_readAct_2 rfl ?_
  refine AW.pX5 (pc' := 8) X h0 3 (by decide) rfl mf_X5_37 rfl rfl (by simp [fsT, upd]) (Nat.le_of_ble_eq_true rfl) dX5_readAct_5 rfl ?_
  refine AW.aload_n (k0 := 0) (pc' := 9) X rfl rfl dX5_readAct_8 rfl ?_
  refine AW.gX5 (v := .int ((ms M a0 3 v1) a0 3)) (pc' := 12) X h0 3 (by decide) rfl mf_X5_37 rfl dX5_readAct_9 rfl ?_
  by_cases q2 : ((ms M a0 3 v1) a0 3) = 99
  · replace h := itep q2 h
    refine AW.lookup (pc' := 160) X dX5_readAct_12 (by decide) (by rw [q2] <;> rfl) rfl ?_
    refine AW.aload_n (k0 := 0) (pc' := 161) X rfl rfl dX5_readAct_160 rfl ?_
    refine AW.dup (pc' := 162) X rfl dX5_readAct_161 rfl ?_
    refine AW.gX5 (v := .int ((ms M a0 3 v1) a0 2)) (pc' := 165) X h0 2 (by decide) rfl mf_X5_23 rfl dX5_readAct_162 rfl ?_
    refine AW.iconst (v := 1) (pc' := 166) X rfl dX5_readAct_165 rfl ?_
    refine AW.iadd (pc' := 167) X dX5_readAct_166 rfl ?_
    refine AW.pX5 (pc' := 170) X h0 2 (by decide) rfl mf_X5_23 rfl rfl (by simp [fsT, upd]) (Nat.le_of_ble_eq_true rfl) dX5_readAct_167 rfl ?_
    refine AW.aload_n (k0 := 0) (pc' := 171) X rfl rfl dX5_readAct_170 rfl ?_
    refine AW.iconst (v := 0) (pc' := 172) X rfl dX5_readAct_171 rfl ?_
    refine AW.iconst (v := 5) (pc' := 173) X rfl dX5_readAct_172 rfl ?_
    obtain ⟨v3, c3, h⟩ := Option.bind_eq_some_iff.mp h
    refine AW.callV (As := [.int 0, .int 5]) (rest := []) (rv := (some (.int (bz v3.1)))) (M' := v3.2) (pc' := 176) X (ok_X5_readFirst h0 c3) yv_X5_readFirst h0.1 h0.2.1 (cT h0 dA ad _) rfl rfl ml_X5_40 ⟨by decide, by decide, by decide, by decide⟩ rfl (Nat.le_of_ble_eq_true rfl) rfl rfl dX5_readAct_173 rfl ?_
    refine AW.if_eq (pc' := 179) (tgt := 211) X dX5_readAct_176 rfl rfl (fun q4 => ?_) (fun q4 => ?_)
    · replace h := itep q4 h
      refine AW.sub (ls' := []) [] rfl ?_
      exact ok_X5_readAct_211 X hr h0 v3.2 R h
    · replace h := iten q4 h
      refine AW.aload_n (k0 := 0) (pc' := 180) X rfl rfl dX5_readAct_179 rfl ?_
      refine AW.bipush (v := 61) (pc' := 182) X rfl dX5_readAct_180 rfl ?_
      obtain ⟨v5, c5, h⟩ := Option.bind_eq_some_iff.mp h
      refine AW.callV (As := [.int 61]) (rest := []) (rv := (some (.int (bz v5.1)))) (M' := v5.2) (pc' := 185) X (ok_X5_readSign h0 c5) yv_X5_readSign h0.1 h0.2.1 (cT h0 dA ad _) rfl rfl ml_X5_44 ⟨by decide, by decide, by decide, by decide⟩ rfl (Nat.le_of_ble_eq_true rfl) rfl rfl dX5_readAct_182 rfl ?_
      refine AW.if_eq (pc' := 188) (tgt := 211) X dX5_readAct_185 rfl rfl (fun q6 => ?_) (fun q6 => ?_)
      · replace h := itep q6 h
        refine AW.sub (ls' := []) [] rfl ?_
        exact ok_X5_readAct_211 X hr h0 v5.2 R h
      · replace h := iten q6 h
        refine AW.aload_n (k0 := 0) (pc' := 189) X rfl rfl dX5_readAct_188 rfl ?_
        refine AW.iconst (v := 0) (pc' := 190) X rfl dX5_readAct_189 rfl ?_
        refine AW.bipush (v := 100) (pc' := 192) X rfl dX5_readAct_190 rfl ?_
        obtain ⟨v7, c7, h⟩ := Option.bind_eq_some_iff.mp h
        refine AW.callV (As := [.int 0, .int 100]) (rest := []) (rv := (some (.int (bz v7.1)))) (M' := v7.2) (pc' := 195) X (ok_X5_readSecond h0 c7) yv_X5_readSecond h0.1 h0.2.1 (cT h0 dA ad _) rfl rfl ml_X5_48 ⟨by decide, by decide, by decide, by decide⟩ rfl (Nat.le_of_ble_eq_true rfl) rfl rfl dX5_readAct_192 rfl ?_
        refine AW.if_eq (pc' := 198) (tgt := 211) X dX5_readAct_195 rfl rfl (fun q8 => ?_) (fun q8 => ?_)
        · replace h := itep q8 h
          refine AW.sub (ls' := []) [] rfl ?_
          exact ok_X5_readAct_211 X hr h0 v7.2 R h
        · replace h := iten q8 h
          refine AW.aload_n (k0 := 0) (pc' := 199) X rfl rfl dX5_readAct_198 rfl ?_
          refine AW.bipush (v := 59) (pc' := 201) X rfl dX5_readAct_199 rfl ?_
          obtain ⟨v9, c9, h⟩ := Option.bind_eq_some_iff.mp h
          refine AW.callV (As := [.int 59]) (rest := []) (rv := (some (.int (bz v9.1)))) (M' := v9.2) (pc' := 204) X (ok_X5_readSign h0 c9) yv_X5_readSign h0.1 h0.2.1 (cT h0 dA ad _) rfl rfl ml_X5_44 ⟨by decide, by decide, by decide, by decide⟩ rfl (Nat.le_of_ble_eq_true rfl) rfl rfl dX5_readAct_201 rfl ?_
          refine AW.if_eq (pc' := 207) (tgt := 211) X dX5_readAct_204 rfl rfl (fun q10 => ?_) (fun q10 => ?_)
          · replace h := itep q10 h
            refine AW.sub (ls' := []) [] rfl ?_
            exact ok_X5_readAct_211 X hr h0 v9.2 R h
          · replace h := iten q10 h
            refine AW.iconst (v := 1) (pc' := 208) X rfl dX5_readAct_207 rfl ?_
            refine AW.goto (pc' := 212) X dX5_readAct_208 rfl ?_
            refine AW.sub (ls' := []) [] rfl ?_
            exact ok_X5_readAct_212 X hr h0 true v9.2 R h
  · replace h := iten q2 h
    by_cases q11 : ((ms M a0 3 v1) a0 3) = 103
    · replace h := itep q11 h
      refine AW.lookup (pc' := 72) X dX5_readAct_12 (by decide) (by rw [q11] <;> rfl) rfl ?_
      refine AW.aload_n (k0 := 0) (pc' := 73) X rfl rfl dX5_readAct_72 rfl ?_
      refine AW.dup (pc' := 74) X rfl dX5_readAct_73 rfl ?_
      refine AW.gX5 (v := .int ((ms M a0 3 v1) a0 2)) (pc' := 77) X h0 2 (by decide) rfl mf_X5_23 rfl dX5_readAct_74 rfl ?_
      refine AW.iconst (v := 1) (pc' := 78) X rfl dX5_readAct_77 rfl ?_
      refine AW.iadd (pc' := 79) X dX5_readAct_78 rfl ?_
      refine AW.pX5 (pc' := 82) X h0 2 (by decide) rfl mf_X5_23 rfl rfl (by simp [fsT, upd]) (Nat.le_of_ble_eq_true rfl) dX5_readAct_79 rfl ?_
      refine AW.aload_n (k0 := 0) (pc' := 83) X rfl rfl dX5_readAct_82 rfl ?_
      refine AW.iconst (v := 1) (pc' := 84) X rfl dX5_readAct_83 rfl ?_
      refine AW.sipush (v := 999) (pc' := 87) X rfl dX5_readAct_84 rfl ?_
      obtain ⟨v12, c12, h⟩ := Option.bind_eq_some_iff.mp h
      refine AW.callV (As := [.int 1, .int 999]) (rest := []) (rv := (some (.int (bz v12.1)))) (M' := v12.2) (pc' := 90) X (ok_X5_readFirst h0 c12) yv_X5_readFirst h0.1 h0.2.1 (cT h0 dA ad _) rfl rfl ml_X5_40 ⟨by decide, by decide, by decide, by decide⟩ rfl (Nat.le_of_ble_eq_true rfl) rfl rfl dX5_readAct_87 rfl ?_
      refine AW.if_eq (pc' := 93) (tgt := 106) X dX5_readAct_90 rfl rfl (fun q13 => ?_) (fun q13 => ?_)
      · replace h := itep q13 h
        refine AW.sub (ls' := []) [] rfl ?_
        exact ok_X5_readAct_106 X hr h0 v12.2 R h
      · replace h := iten q13 h
        refine AW.aload_n (k0 := 0) (pc' := 94) X rfl rfl dX5_readAct_93 rfl ?_
        refine AW.bipush (v := 59) (pc' := 96) X rfl dX5_readAct_94 rfl ?_
        obtain ⟨v14, c14, h⟩ := Option.bind_eq_some_iff.mp h
        refine AW.callV (As := [.int 59]) (rest := []) (rv := (some (.int (bz v14.1)))) (M' := v14.2) (pc' := 99) X (ok_X5_readSign h0 c14) yv_X5_readSign h0.1 h0.2.1 (cT h0 dA ad _) rfl rfl ml_X5_44 ⟨by decide, by decide, by decide, by decide⟩ rfl (Nat.le_of_ble_eq_true rfl) rfl rfl dX5_readAct_96 rfl ?_
        refine AW.if_eq (pc' := 102) (tgt := 106) X dX5_readAct_99 rfl rfl (fun q15 => ?_) (fun q15 => ?_)
        · replace h := itep q15 h
          refine AW.sub (ls' := []) [] rfl ?_
          exact ok_X5_readAct_106 X hr h0 v14.2 R h
        · replace h := iten q15 h
          refine AW.iconst (v := 1) (pc' := 103) X rfl dX5_readAct_102 rfl ?_
          refine AW.goto (pc' := 107) X dX5_readAct_103 rfl ?_
          refine AW.sub (ls' := []) [] rfl ?_
          exact ok_X5_readAct_107 X hr h0 true v14.2 R h
    · replace h := iten q11 h
      by_cases q16 : ((ms M a0 3 v1) a0 3) = 104
      · replace h := itep q16 h
        refine AW.lookup (pc' := 143) X dX5_readAct_12 (by decide) (by rw [q16] <;> rfl) rfl ?_
        exact ok_X5_readAct_143 X hr h0 (ms M a0 3 v1) R h
      · replace h := iten q16 h
        by_cases q17 : ((ms M a0 3 v1) a0 3) = 114
        · replace h := itep q17 h
          refine AW.lookup (pc' := 143) X dX5_readAct_12 (by decide) (by rw [q17] <;> rfl) rfl ?_
          exact ok_X5_readAct_143 X hr h0 (ms M a0 3 v1) R h
        · replace h := iten q17 h
          by_cases q18 : ((ms M a0 3 v1) a0 3) = 115
          · replace h := itep q18 h
            refine AW.lookup (pc' := 108) X dX5_readAct_12 (by decide) (by rw [q18] <;> rfl) rfl ?_
            refine AW.aload_n (k0 := 0) (pc' := 109) X rfl rfl dX5_readAct_108 rfl ?_
            refine AW.dup (pc' := 110) X rfl dX5_readAct_109 rfl ?_
            refine AW.gX5 (v := .int ((ms M a0 3 v1) a0 2)) (pc' := 113) X h0 2 (by decide) rfl mf_X5_23 rfl dX5_readAct_110 rfl ?_
            refine AW.iconst (v := 1) (pc' := 114) X rfl dX5_readAct_113 rfl ?_
            refine AW.iadd (pc' := 115) X dX5_readAct_114 rfl ?_
            refine AW.pX5 (pc' := 118) X h0 2 (by decide) rfl mf_X5_23 rfl rfl (by simp [fsT, upd]) (Nat.le_of_ble_eq_true rfl) dX5_readAct_115 rfl ?_
            refine AW.aload_n (k0 := 0) (pc' := 119) X rfl rfl dX5_readAct_118 rfl ?_
            refine AW.iconst (v := 1) (pc' := 120) X rfl dX5_readAct_119 rfl ?_
            refine AW.bipush (v := 50) (pc' := 122) X rfl dX5_readAct_120 rfl ?_
            obtain ⟨v19, c19, h⟩ := Option.bind_eq_some_iff.mp h
            refine AW.callV (As := [.int 1, .int 50]) (rest := []) (rv := (some (.int (bz v19.1)))) (M' := v19.2) (pc' := 125) X (ok_X5_readFirst h0 c19) yv_X5_readFirst h0.1 h0.2.1 (cT h0 dA ad _) rfl rfl ml_X5_40 ⟨by decide, by decide, by decide, by decide⟩ rfl (Nat.le_of_ble_eq_true rfl) rfl rfl dX5_readAct_122 rfl ?_
            refine AW.if_eq (pc' := 128) (tgt := 141) X dX5_readAct_125 rfl rfl (fun q20 => ?_) (fun q20 => ?_)
            · replace h := itep q20 h
              refine AW.sub (ls' := []) [] rfl ?_
              exact ok_X5_readAct_141 X hr h0 v19.2 R h
            · replace h := iten q20 h
              refine AW.aload_n (k0 := 0) (pc' := 129) X rfl rfl dX5_readAct_128 rfl ?_
              refine AW.bipush (v := 59) (pc' := 131) X rfl dX5_readAct_129 rfl ?_
              obtain ⟨v21, c21, h⟩ := Option.bind_eq_some_iff.mp h
              refine AW.callV (As := [.int 59]) (rest := []) (rv := (some (.int (bz v21.1)))) (M' := v21.2) (pc' := 134) X (ok_X5_readSign h0 c21) yv_X5_readSign h0.1 h0.2.1 (cT h0 dA ad _) rfl rfl ml_X5_44 ⟨by decide, by decide, by decide, by decide⟩ rfl (Nat.le_of_ble_eq_true rfl) rfl rfl dX5_readAct_131 rfl ?_
              refine AW.if_eq (pc' := 137) (tgt := 141) X dX5_readAct_134 rfl rfl (fun q22 => ?_) (fun q22 => ?_)
              · replace h := itep q22 h
                refine AW.sub (ls' := []) [] rfl ?_
                exact ok_X5_readAct_141 X hr h0 v21.2 R h
              · replace h := iten q22 h
                refine AW.iconst (v := 1) (pc' := 138) X rfl dX5_readAct_137 rfl ?_
                refine AW.goto (pc' := 142) X dX5_readAct_138 rfl ?_
                refine AW.sub (ls' := []) [] rfl ?_
                exact ok_X5_readAct_142 X hr h0 true v21.2 R h
          · replace h := iten q18 h
            by_cases q23 : ((ms M a0 3 v1) a0 3) = 120
            · replace h := itep q23 h
              refine AW.lookup (pc' := 143) X dX5_readAct_12 (by decide) (by rw [q23] <;> rfl) rfl ?_
              exact ok_X5_readAct_143 X hr h0 (ms M a0 3 v1) R h
            · replace h := iten q23 h
              refine AW.lookup (pc' := 213) X dX5_readAct_12 (by decide) (by rw [lv_osw q2 (by decide : (99 : Int32).toInt = 99), lv_osw q11 (by decide : (103 : Int32).toInt = 103), lv_osw q16 (by decide : (104 : Int32).toInt = 104), lv_osw q17 (by decide : (114 : Int32).toInt = 114), lv_osw q18 (by decide : (115 : Int32).toInt = 115), lv_osw q23 (by decide : (120 : Int32).toInt = 120)] <;> rfl) rfl ?_
              refine AW.iconst (v := 0) (pc' := 214) X rfl dX5_readAct_213 rfl ?_
              replace h := Option.some.inj h
              subst h
              exact AW.zret (b := false) X hr dX5_readAct_214
set_option maxHeartbeats 4000000 in
set_option maxRecDepth 100000 in
theorem ok_X5_findFault_41 {a0 : Nat} (X : CX p s m args meth c cX5_findFault 2 RX5 D dA ad lo n A) (hr : meth.sig.returnType = (some .int)) (h0 : tTx lo n a0) : ∀ (M : MM) (R : (Int32 × MM)), f_X5_findFault_41 a0 M = some R → AR p l e 5 109 s m args below meth c D dA ad lo n 2 A (some (.int R.1)) R.2 41 [] [] M := by
  intro M R h
  unfold f_X5_findFault_41 at h
  refine AW.bipush (v := (-6)) (pc' := 43) X rfl dX5_findFault_41 rfl ?_
  replace h := Option.some.inj h
  subst h
  exact AW.iret X hr dX5_findFault_43
set_option maxHeartbeats 4000000 in
set_option maxRecDepth 100000 in
theorem ok_X5_findFault_6 {a0 : Nat} (X : CX p s m args meth c cX5_findFault 2 RX5 D dA ad lo n A) (hr : meth.sig.returnType = (some .int)) (h0 : tTx lo n a0) : ∀ (k : Nat) (x1 : Int32) (M : MM) (R : (Int32 × MM)), f_X5_findFault_6 a0 k x1 M = some R → AR p l e 5 109 s m args below meth c D dA ad lo n 2 A (some (.int R.1)) R.2 6 [(0, .ref a0), (1, .int x1)] [] M := by
  intro k
  induction k with
  | zero => intro _ _ R h; exact none_some h
  | succ k ih =>
    intro x1 M R h
    unfold f_X5_findFault_6 at h
    refine AW.iload_n (k0 := 1) (pc' := 7) X rfl rfl dX5_findFault_6 rfl ?_
    refine AW.bipush (v := 80) (pc' := 9) X rfl dX5_findFault_7 rfl ?_
    refine AW.icmp_ge (pc' := 12) (tgt := 41) X dX5_findFault_9 rfl rfl (fun q1 => ?_) (fun q1 => ?_)
    · replace h := itep q1 h
      refine AW.sub (ls' := []) [] rfl ?_
      exact ok_X5_findFault_41 X hr h0 M R h
    · replace h := iten q1 h
      refine AW.aload_n (k0 := 0) (pc' := 13) X rfl rfl dX5_findFault_12 rfl ?_
      refine AW.gX5 (v := .int (M a0 2)) (pc' := 16) X h0 2 (by decide) rfl mf_X5_23 rfl dX5_findFault_13 rfl ?_
      refine AW.aload_n (k0 := 0) (pc' := 17) X rfl rfl dX5_findFault_16 rfl ?_
      refine AW.gX5 (v := .int (M a0 1)) (pc' := 20) X h0 1 (by decide) rfl mf_X5_19 rfl dX5_findFault_17 rfl ?_
      refine AW.icmp_ge (pc' := 23) (tgt := 41) X dX5_findFault_20 rfl rfl (fun q2 => ?_) (fun q2 => ?_)
      · replace h := itep q2 h
        refine AW.sub (ls' := []) [] rfl ?_
        exact ok_X5_findFault_41 X hr h0 M R h
      · replace h := iten q2 h
        refine AW.aload_n (k0 := 0) (pc' := 24) X rfl rfl dX5_findFault_23 rfl ?_
        obtain ⟨v3, c3, h⟩ := Option.bind_eq_some_iff.mp h
        refine AW.callV (As := []) (rest := []) (rv := (some (.int (bz v3.1)))) (M' := v3.2) (pc' := 27) X (ok_X5_readAct h0 c3) yv_X5_readAct h0.1 h0.2.1 (cT h0 dA ad _) rfl rfl ml_X5_29 ⟨by decide, by decide, by decide, by decide⟩ rfl (Nat.le_of_ble_eq_true rfl) rfl rfl dX5_findFault_24 rfl ?_
        refine AW.if_ne (pc' := 30) (tgt := 35) X dX5_findFault_27 rfl rfl (fun q4 => ?_) (fun q4 => ?_)
        · replace h := iten q4 h
          refine AW.iinc (k0 := 1) (v := (x1 + 1)) (y := 1) (ls' := [(1, .int (x1 + 1)), (0, .ref a0)]) (pc' := 38) X rfl rfl rfl (by decide) rfl dX5_findFault_35 rfl ?_
          refine AW.goto (pc' := 6) X dX5_findFault_38 rfl ?_
          refine AW.sub (ls' := [(0, .ref a0), (1, .int (x1 + 1))]) [1, 0] rfl ?_
          exact ih (x1 + 1) v3.2 R h
        · replace h := itep q4 h
          refine AW.aload_n (k0 := 0) (pc' := 31) X rfl rfl dX5_findFault_30 rfl ?_
          refine AW.gX5 (v := .int (v3.2 a0 2)) (pc' := 34) X h0 2 (by decide) rfl mf_X5_23 rfl dX5_findFault_31 rfl ?_
          replace h := Option.some.inj h
          subst h
          exact AW.iret X hr dX5_findFault_34
set_option maxHeartbeats 4000000 in
set_option maxRecDepth 100000 in
theorem ok_X5_findFault {lo n : Nat} {a0 : Nat} {M : MM} {R : (Int32 × MM)} (h0 : tTx lo n a0) (h : f_X5_findFault a0 M = some R) : MC yX5_findFault cX5_findFault 2 (some .int) 5 109 lo n [.ref a0] M (some (.int R.1)) R.2 := by
  refine MC.of (ls0 := [(0, .ref a0)]) (by decide) rfl (fun _ => Nat.le_of_ble_eq_true rfl) (fun p l e s m args below meth c D dA ad A X hr => ?_)
  replace X : CX p s m args meth c cX5_findFault 2 RX5 D dA ad lo n A := X
  unfold f_X5_findFault at h
  refine AW.aload_n (k0 := 0) (pc' := 1) X rfl rfl dX5_findFault_0 rfl ?_
  obtain ⟨v1, c1, h⟩ := Option.bind_eq_some_iff.mp h
  refine AW.callV (As := []) (rest := []) (rv := none) (M' := v1) (pc' := 4) X (ok_X5_rewind h0 c1) yv_X5_rewind h0.1 h0.2.1 (cT h0 dA ad _) rfl rfl ml_X5_26 ⟨by decide, by decide, by decide, by decide⟩ rfl (Nat.le_of_ble_eq_true rfl) rfl rfl dX5_findFault_1 rfl ?_
  refine AW.iconst (v := 0) (pc' := 5) X rfl dX5_findFault_4 rfl ?_
  refine AW.istore_n (ls' := [(1, .int 0), (0, .ref a0)]) (pc' := 6) X rfl (by decide) rfl dX5_findFault_5 rfl ?_
  refine AW.sub (ls' := [(0, .ref a0), (1, .int 0)]) [1, 0] rfl ?_
  exact ok_X5_findFault_6 X hr h0 FU 0 v1 R h
set_option maxHeartbeats 4000000 in
set_option maxRecDepth 100000 in
theorem ok_X6_recorded_11 {a0 : Nat} (X : CX p s m args meth c cX6_recorded 2 RX6 D dA ad lo n A) (hr : meth.sig.returnType = (some .int)) (h0 : tSS lo n a0) : ∀ (x1 : Int32) (M : MM) (R : (Int32 × MM)), f_X6_recorded_11 a0 x1 M = some R → AR p l e 2 41 s m args below meth c D dA ad lo n 2 A (some (.int R.1)) R.2 11 [(1, .int x1)] [] M := by
  intro x1 M R h
  unfold f_X6_recorded_11 at h
  refine AW.iload_n (k0 := 0) (pc' := 12) X rfl rfl dX6_recorded_11 rfl ?_
  replace h := Option.some.inj h
  subst h
  exact AW.iret X hr dX6_recorded_12
set_option maxHeartbeats 4000000 in
set_option maxRecDepth 100000 in
theorem ok_X6_recorded {lo n : Nat} {a0 : Nat} {x1 : Int32} {M : MM} {R : (Int32 × MM)} (h0 : tSS lo n a0) (h : f_X6_recorded a0 x1 M = some R) : MC yX6_recorded cX6_recorded 2 (some .int) 2 41 lo n [.ref a0, .int x1] M (some (.int R.1)) R.2 := by
  refine MC.of (ls0 := [(0, .ref a0), (1, .int x1)]) (by decide) rfl (fun _ => Nat.le_of_ble_eq_true rfl) (fun p l e s m args below meth c D dA ad A X hr => ?_)
  replace X : CX p s m args meth c cX6_recorded 2 RX6 D dA ad lo n A := X
  unfold f_X6_recorded at h
  refine AW.iload_n (k0 := 1) (pc' := 1) X rfl rfl dX6_recorded_0 rfl ?_
  refine AW.if_lt (pc' := 4) (tgt := 11) X dX6_recorded_1 rfl rfl (fun q1 => ?_) (fun q1 => ?_)
  · replace h := itep q1 h
    refine AW.sub (ls' := [(1, .int x1)]) [1] rfl ?_
    exact ok_X6_recorded_11 X hr h0 x1 M R h
  · replace h := iten q1 h
    refine AW.aload_n (k0 := 0) (pc' := 5) X rfl rfl dX6_recorded_4 rfl ?_
    refine AW.gX6 (v := .ref 651) (pc' := 8) X h0 2 (by decide) rfl mf_X6_22 rfl dX6_recorded_5 rfl ?_
    obtain ⟨v2, c2, h⟩ := Option.bind_eq_some_iff.mp h
    refine AW.callV (As := []) (rest := []) (rv := none) (M' := v2) (pc' := 11) X (ok_X1_keepNoted (rX2 h0) c2) yv_X1_keepNoted ((rX2 h0)).1.1 ((rX2 h0)).1.2.1 (cH (rX2 h0) dA ad _) rfl rfl ml_X6_141 ⟨by decide, by decide, by decide, by decide⟩ rfl (Nat.le_of_ble_eq_true rfl) rfl rfl dX6_recorded_8 rfl ?_
    refine AW.sub (ls' := [(1, .int x1)]) [1] rfl ?_
    exact ok_X6_recorded_11 X hr h0 x1 v2 R h
set_option maxHeartbeats 4000000 in
set_option maxRecDepth 100000 in
theorem ok_X6_setLines {lo n : Nat} {a0 : Nat} {x1 : Int32} {x2 : Int32} {x3 : Int32} {M : MM} {R : (Int32 × MM)} (h0 : tSS lo n a0) (h : f_X6_setLines a0 x1 x2 x3 M = some R) : MC yX6_setLines cX6_setLines 4 (some .int) 5 125 lo n [.ref a0, .int x1, .int x2, .int x3] M (some (.int R.1)) R.2 := by
  refine MC.of (ls0 := [(0, .ref a0), (1, .int x1), (2, .int x2), (3, .int x3)]) (by decide) rfl (fun _ => Nat.le_of_ble_eq_true rfl) (fun p l e s m args below meth c D dA ad A X hr => ?_)
  replace X : CX p s m args meth c cX6_setLines 4 RX6 D dA ad lo n A := X
  unfold f_X6_setLines at h
  refine AW.aload_n (k0 := 0) (pc' := 1) X rfl rfl dX6_setLines_0 rfl ?_
  refine AW.gX6 (v := .ref 651) (pc' := 4) X h0 2 (by decide) rfl mf_X6_22 rfl dX6_setLines_1 rfl ?_
  refine AW.aload_n (k0 := 0) (pc' := 5) X rfl rfl dX6_setLines_4 rfl ?_
  refine AW.gX6 (v := .ref 0) (pc' := 8) X h0 0 (by decide) rfl mf_X6_10 rfl dX6_setLines_5 rfl ?_
  obtain ⟨v1, c1, h⟩ := Option.bind_eq_some_iff.mp h
  refine AW.callV (As := [.ref 0]) (rest := []) (rv := none) (M' := v1) (pc' := 11) X (ok_X1_note (rX2 h0) (rX0 h0) c1) yv_X1_note ((rX2 h0)).1.1 ((rX2 h0)).1.2.1 (cH (rX2 h0) dA ad _) rfl rfl ml_X6_41 ⟨by decide, by decide, by decide, by decide⟩ rfl (Nat.le_of_ble_eq_true rfl) rfl rfl dX6_setLines_8 rfl ?_
  refine AW.aload_n (k0 := 0) (pc' := 12) X rfl rfl dX6_setLines_11 rfl ?_
  refine AW.aload_n (k0 := 0) (pc' := 13) X rfl rfl dX6_setLines_12 rfl ?_
  refine AW.gX6 (v := .ref 0) (pc' := 16) X h0 0 (by decide) rfl mf_X6_10 rfl dX6_setLines_13 rfl ?_
  refine AW.iload_n (k0 := 1) (pc' := 17) X rfl rfl dX6_setLines_16 rfl ?_
  refine AW.iload_n (k0 := 2) (pc' := 18) X rfl rfl dX6_setLines_17 rfl ?_
  refine AW.iload_n (k0 := 3) (pc' := 19) X rfl rfl dX6_setLines_18 rfl ?_
  obtain ⟨v2, c2, h⟩ := Option.bind_eq_some_iff.mp h
  refine AW.callV (As := [.int x1, .int x2, .int x3]) (rest := [.ref a0]) (rv := (some (.int v2.1))) (M' := v2.2) (pc' := 22) X (ok_X4_layLines (rX0 h0) c2) yv_X4_layLines (rX0 h0).1 (rX0 h0).2.1 (cS (rX0 h0) dA ad _) rfl rfl ml_X6_45 ⟨by decide, by decide, by decide, by decide⟩ rfl (Nat.le_of_ble_eq_true rfl) rfl rfl dX6_setLines_19 rfl ?_
  obtain ⟨v3, c3, h⟩ := Option.bind_eq_some_iff.mp h
  refine AW.callV (As := [.int (v2.1)]) (rest := []) (rv := (some (.int v3.1))) (M' := v3.2) (pc' := 25) X (ok_X6_recorded h0 c3) yv_X6_recorded (h0).1.1 (h0).1.2.1 (cX h0 dA ad _) rfl rfl ml_X6_49 ⟨by decide, by decide, by decide, by decide⟩ rfl (Nat.le_of_ble_eq_true rfl) rfl rfl dX6_setLines_22 rfl ?_
  replace h := Option.some.inj h
  subst h
  exact AW.iret X hr dX6_setLines_25
set_option maxHeartbeats 4000000 in
set_option maxRecDepth 100000 in
theorem ok_X6_setPoint {lo n : Nat} {a0 : Nat} {x1 : Int32} {x2 : Int32} {M : MM} {R : (Int32 × MM)} (h0 : tSS lo n a0) (h : f_X6_setPoint a0 x1 x2 M = some R) : MC yX6_setPoint cX6_setPoint 3 (some .int) 5 125 lo n [.ref a0, .int x1, .int x2] M (some (.int R.1)) R.2 := by
  refine MC.of (ls0 := [(0, .ref a0), (1, .int x1), (2, .int x2)]) (by decide) rfl (fun _ => Nat.le_of_ble_eq_true rfl) (fun p l e s m args below meth c D dA ad A X hr => ?_)
  replace X : CX p s m args meth c cX6_setPoint 3 RX6 D dA ad lo n A := X
  unfold f_X6_setPoint at h
  refine AW.aload_n (k0 := 0) (pc' := 1) X rfl rfl dX6_setPoint_0 rfl ?_
  refine AW.gX6 (v := .ref 651) (pc' := 4) X h0 2 (by decide) rfl mf_X6_22 rfl dX6_setPoint_1 rfl ?_
  refine AW.aload_n (k0 := 0) (pc' := 5) X rfl rfl dX6_setPoint_4 rfl ?_
  refine AW.gX6 (v := .ref 0) (pc' := 8) X h0 0 (by decide) rfl mf_X6_10 rfl dX6_setPoint_5 rfl ?_
  obtain ⟨v1, c1, h⟩ := Option.bind_eq_some_iff.mp h
  refine AW.callV (As := [.ref 0]) (rest := []) (rv := none) (M' := v1) (pc' := 11) X (ok_X1_note (rX2 h0) (rX0 h0) c1) yv_X1_note ((rX2 h0)).1.1 ((rX2 h0)).1.2.1 (cH (rX2 h0) dA ad _) rfl rfl ml_X6_41 ⟨by decide, by decide, by decide, by decide⟩ rfl (Nat.le_of_ble_eq_true rfl) rfl rfl dX6_setPoint_8 rfl ?_
  refine AW.aload_n (k0 := 0) (pc' := 12) X rfl rfl dX6_setPoint_11 rfl ?_
  refine AW.aload_n (k0 := 0) (pc' := 13) X rfl rfl dX6_setPoint_12 rfl ?_
  refine AW.gX6 (v := .ref 0) (pc' := 16) X h0 0 (by decide) rfl mf_X6_10 rfl dX6_setPoint_13 rfl ?_
  refine AW.iload_n (k0 := 1) (pc' := 17) X rfl rfl dX6_setPoint_16 rfl ?_
  refine AW.iload_n (k0 := 2) (pc' := 18) X rfl rfl dX6_setPoint_17 rfl ?_
  obtain ⟨v2, c2, h⟩ := Option.bind_eq_some_iff.mp h
  refine AW.callV (As := [.int x1, .int x2]) (rest := [.ref a0]) (rv := (some (.int v2.1))) (M' := v2.2) (pc' := 21) X (ok_X4_putPoint (rX0 h0) c2) yv_X4_putPoint (rX0 h0).1 (rX0 h0).2.1 (cS (rX0 h0) dA ad _) rfl rfl ml_X6_53 ⟨by decide, by decide, by decide, by decide⟩ rfl (Nat.le_of_ble_eq_true rfl) rfl rfl dX6_setPoint_18 rfl ?_
  obtain ⟨v3, c3, h⟩ := Option.bind_eq_some_iff.mp h
  refine AW.callV (As := [.int (v2.1)]) (rest := []) (rv := (some (.int v3.1))) (M' := v3.2) (pc' := 24) X (ok_X6_recorded h0 c3) yv_X6_recorded (h0).1.1 (h0).1.2.1 (cX h0 dA ad _) rfl rfl ml_X6_49 ⟨by decide, by decide, by decide, by decide⟩ rfl (Nat.le_of_ble_eq_true rfl) rfl rfl dX6_setPoint_21 rfl ?_
  replace h := Option.some.inj h
  subst h
  exact AW.iret X hr dX6_setPoint_24
set_option maxHeartbeats 4000000 in
set_option maxRecDepth 100000 in
theorem ok_X6_addChannel {lo n : Nat} {a0 : Nat} {b1 : Bool} {x2 : Int32} {x3 : Int32} {M : MM} {R : (Int32 × MM)} (h0 : tSS lo n a0) (h : f_X6_addChannel a0 b1 x2 x3 M = some R) : MC yX6_addChannel cX6_addChannel 4 (some .int) 5 125 lo n [.ref a0, .int (bz b1), .int x2, .int x3] M (some (.int R.1)) R.2 := by
  refine MC.of (ls0 := [(0, .ref a0), (1, .int (bz b1)), (2, .int x2), (3, .int x3)]) (by decide) rfl (fun _ => Nat.le_of_ble_eq_true rfl) (fun p l e s m args below meth c D dA ad A X hr => ?_)
  replace X : CX p s m args meth c cX6_addChannel 4 RX6 D dA ad lo n A := X
  unfold f_X6_addChannel at h
  refine AW.aload_n (k0 := 0) (pc' := 1) X rfl rfl dX6_addChannel_0 rfl ?_
  refine AW.gX6 (v := .ref 651) (pc' := 4) X h0 2 (by decide) rfl mf_X6_22 rfl dX6_addChannel_1 rfl ?_
  refine AW.aload_n (k0 := 0) (pc' := 5) X rfl rfl dX6_addChannel_4 rfl ?_
  refine AW.gX6 (v := .ref 0) (pc' := 8) X h0 0 (by decide) rfl mf_X6_10 rfl dX6_addChannel_5 rfl ?_
  obtain ⟨v1, c1, h⟩ := Option.bind_eq_some_iff.mp h
  refine AW.callV (As := [.ref 0]) (rest := []) (rv := none) (M' := v1) (pc' := 11) X (ok_X1_note (rX2 h0) (rX0 h0) c1) yv_X1_note ((rX2 h0)).1.1 ((rX2 h0)).1.2.1 (cH (rX2 h0) dA ad _) rfl rfl ml_X6_41 ⟨by decide, by decide, by decide, by decide⟩ rfl (Nat.le_of_ble_eq_true rfl) rfl rfl dX6_addChannel_8 rfl ?_
  refine AW.aload_n (k0 := 0) (pc' := 12) X rfl rfl dX6_addChannel_11 rfl ?_
  refine AW.aload_n (k0 := 0) (pc' := 13) X rfl rfl dX6_addChannel_12 rfl ?_
  refine AW.gX6 (v := .ref 0) (pc' := 16) X h0 0 (by decide) rfl mf_X6_10 rfl dX6_addChannel_13 rfl ?_
  refine AW.iload_n (k0 := 1) (pc' := 17) X rfl rfl dX6_addChannel_16 rfl ?_
  refine AW.iload_n (k0 := 2) (pc' := 18) X rfl rfl dX6_addChannel_17 rfl ?_
  refine AW.iload_n (k0 := 3) (pc' := 19) X rfl rfl dX6_addChannel_18 rfl ?_
  obtain ⟨v2, c2, h⟩ := Option.bind_eq_some_iff.mp h
  refine AW.callV (As := [.int (bz b1), .int x2, .int x3]) (rest := [.ref a0]) (rv := (some (.int v2.1))) (M' := v2.2) (pc' := 22) X (ok_X4_joinChannel (rX0 h0) c2) yv_X4_joinChannel (rX0 h0).1 (rX0 h0).2.1 (cS (rX0 h0) dA ad _) rfl rfl ml_X6_57 ⟨by decide, by decide, by decide, by decide⟩ rfl (Nat.le_of_ble_eq_true rfl) rfl rfl dX6_addChannel_19 rfl ?_
  obtain ⟨v3, c3, h⟩ := Option.bind_eq_some_iff.mp h
  refine AW.callV (As := [.int (v2.1)]) (rest := []) (rv := (some (.int v3.1))) (M' := v3.2) (pc' := 25) X (ok_X6_recorded h0 c3) yv_X6_recorded (h0).1.1 (h0).1.2.1 (cX h0 dA ad _) rfl rfl ml_X6_49 ⟨by decide, by decide, by decide, by decide⟩ rfl (Nat.le_of_ble_eq_true rfl) rfl rfl dX6_addChannel_22 rfl ?_
  replace h := Option.some.inj h
  subst h
  exact AW.iret X hr dX6_addChannel_25
set_option maxHeartbeats 4000000 in
set_option maxRecDepth 100000 in
theorem ok_X6_setMode {lo n : Nat} {a0 : Nat} {x1 : Int32} {x2 : Int32} {x3 : Int32} {x4 : Int32} {x5 : Int32} {M : MM} {R : (Int32 × MM)} (h0 : tSS lo n a0) (h : f_X6_setMode a0 x1 x2 x3 x4 x5 M = some R) : MC yX6_setMode cX6_setMode 6 (some .int) 5 125 lo n [.ref a0, .int x1, .int x2, .int x3, .int x4, .int x5] M (some (.int R.1)) R.2 := by
  refine MC.of (ls0 := [(0, .ref a0), (1, .int x1), (2, .int x2), (3, .int x3), (4, .int x4), (5, .int x5)]) (by decide) rfl (fun _ => Nat.le_of_ble_eq_true rfl) (fun p l e s m args below meth c D dA ad A X hr => ?_)
  replace X : CX p s m args meth c cX6_setMode 6 RX6 D dA ad lo n A := X
  unfold f_X6_setMode at h
  refine AW.aload_n (k0 := 0) (pc' := 1) X rfl rfl dX6_setMode_0 rfl ?_
  refine AW.gX6 (v := .ref 0) (pc' := 4) X h0 0 (by decide) rfl mf_X6_10 rfl dX6_setMode_1 rfl ?_
  refine AW.iload_n (k0 := 1) (pc' := 5) X rfl rfl dX6_setMode_4 rfl ?_
  obtain ⟨v1, c1, h⟩ := Option.bind_eq_some_iff.mp h
  refine AW.callV (As := [.int x1]) (rest := []) (rv := (some (.int (bz v1)))) (M' := M) (pc' := 8) X (ok_X4_hasChannel (rX0 h0) c1) yv_X4_hasChannel (rX0 h0).1 (rX0 h0).2.1 (cS (rX0 h0) dA ad _) rfl rfl ml_X6_61 ⟨by decide, by decide, by decide, by decide⟩ rfl (Nat.le_of_ble_eq_true rfl) rfl rfl dX6_setMode_5 rfl ?_
  refine AW.if_ne (pc' := 11) (tgt := 13) X dX6_setMode_8 rfl rfl (fun q2 => ?_) (fun q2 => ?_)
  · replace h := iten q2 h
    refine AW.aload_n (k0 := 0) (pc' := 14) X rfl rfl dX6_setMode_13 rfl ?_
    refine AW.gX6 (v := .ref 651) (pc' := 17) X h0 2 (by decide) rfl mf_X6_22 rfl dX6_setMode_14 rfl ?_
    refine AW.aload_n (k0 := 0) (pc' := 18) X rfl rfl dX6_setMode_17 rfl ?_
    refine AW.gX6 (v := .ref 0) (pc' := 21) X h0 0 (by decide) rfl mf_X6_10 rfl dX6_setMode_18 rfl ?_
    obtain ⟨v3, c3, h⟩ := Option.bind_eq_some_iff.mp h
    refine AW.callV (As := [.ref 0]) (rest := []) (rv := none) (M' := v3) (pc' := 24) X (ok_X1_note (rX2 h0) (rX0 h0) c3) yv_X1_note ((rX2 h0)).1.1 ((rX2 h0)).1.2.1 (cH (rX2 h0) dA ad _) rfl rfl ml_X6_41 ⟨by decide, by decide, by decide, by decide⟩ rfl (Nat.le_of_ble_eq_true rfl) rfl rfl dX6_setMode_21 rfl ?_
    refine AW.aload_n (k0 := 0) (pc' := 25) X rfl rfl dX6_setMode_24 rfl ?_
    refine AW.aload_n (k0 := 0) (pc' := 26) X rfl rfl dX6_setMode_25 rfl ?_
    refine AW.gX6 (v := .ref 0) (pc' := 29) X h0 0 (by decide) rfl mf_X6_10 rfl dX6_setMode_26 rfl ?_
    refine AW.gX4 (v := .ref (0 + 6)) (pc' := 32) X (rX0 h0) 2 (by decide) rfl mf_X6_65 rfl dX6_setMode_29 rfl ?_
    refine AW.iload_n (k0 := 1) (pc' := 33) X rfl rfl dX6_setMode_32 rfl ?_
    obtain ⟨g4, h⟩ := gd_some h
    refine AW.aldC (pc' := 34) X (rS6 (rX0 h0)) (inb_vp g4) dX6_setMode_33 rfl ?_
    refine AW.iload_n (k0 := 2) (pc' := 35) X rfl rfl dX6_setMode_34 rfl ?_
    refine AW.iload_n (k0 := 3) (pc' := 36) X rfl rfl dX6_setMode_35 rfl ?_
    refine AW.iload (k0 := 4) (pc' := 38) X rfl dX6_setMode_36 rfl ?_
    refine AW.iload (k0 := 5) (pc' := 40) X rfl dX6_setMode_38 rfl ?_
    obtain ⟨v5, c5, h⟩ := Option.bind_eq_some_iff.mp h
    refine AW.callV (As := [.int x2, .int x3, .int x4, .int x5]) (rest := [.ref a0]) (rv := (some (.int v5.1))) (M' := v5.2) (pc' := 43) X (ok_X0_putMode (rCA (rS6 (rX0 h0)) (inb_lt g4)) c5) yv_X0_putMode (rCA (rS6 (rX0 h0)) (inb_lt g4)).1 (rCA (rS6 (rX0 h0)) (inb_lt g4)).2.1 (cC (rCA (rS6 (rX0 h0)) (inb_lt g4)) dA ad _) rfl rfl ml_X6_69 ⟨by decide, by decide, by decide, by decide⟩ rfl (Nat.le_of_ble_eq_true rfl) rfl rfl dX6_setMode_40 rfl ?_
    obtain ⟨v6, c6, h⟩ := Option.bind_eq_some_iff.mp h
    refine AW.callV (As := [.int (v5.1)]) (rest := []) (rv := (some (.int v6.1))) (M' := v6.2) (pc' := 46) X (ok_X6_recorded h0 c6) yv_X6_recorded (h0).1.1 (h0).1.2.1 (cX h0 dA ad _) rfl rfl ml_X6_49 ⟨by decide, by decide, by decide, by decide⟩ rfl (Nat.le_of_ble_eq_true rfl) rfl rfl dX6_setMode_43 rfl ?_
    replace h := Option.some.inj h
    subst h
    exact AW.iret X hr dX6_setMode_46
  · replace h := itep q2 h
    refine AW.iconst (v := (-1)) (pc' := 12) X rfl dX6_setMode_11 rfl ?_
    replace h := Option.some.inj h
    subst h
    exact AW.iret X hr dX6_setMode_12
set_option maxHeartbeats 4000000 in
set_option maxRecDepth 100000 in
theorem ok_X6_addNotch {lo n : Nat} {a0 : Nat} {x1 : Int32} {x2 : Int32} {x3 : Int32} {x4 : Int32} {M : MM} {R : (Int32 × MM)} (h0 : tSS lo n a0) (h : f_X6_addNotch a0 x1 x2 x3 x4 M = some R) : MC yX6_addNotch cX6_addNotch 5 (some .int) 5 125 lo n [.ref a0, .int x1, .int x2, .int x3, .int x4] M (some (.int R.1)) R.2 := by
  refine MC.of (ls0 := [(0, .ref a0), (1, .int x1), (2, .int x2), (3, .int x3), (4, .int x4)]) (by decide) rfl (fun _ => Nat.le_of_ble_eq_true rfl) (fun p l e s m args below meth c D dA ad A X hr => ?_)
  replace X : CX p s m args meth c cX6_addNotch 5 RX6 D dA ad lo n A := X
  unfold f_X6_addNotch at h
  refine AW.aload_n (k0 := 0) (pc' := 1) X rfl rfl dX6_addNotch_0 rfl ?_
  refine AW.gX6 (v := .ref 0) (pc' := 4) X h0 0 (by decide) rfl mf_X6_10 rfl dX6_addNotch_1 rfl ?_
  refine AW.iload_n (k0 := 1) (pc' := 5) X rfl rfl dX6_addNotch_4 rfl ?_
  obtain ⟨v1, c1, h⟩ := Option.bind_eq_some_iff.mp h
  refine AW.callV (As := [.int x1]) (rest := []) (rv := (some (.int (bz v1)))) (M' := M) (pc' := 8) X (ok_X4_hasChannel (rX0 h0) c1) yv_X4_hasChannel (rX0 h0).1 (rX0 h0).2.1 (cS (rX0 h0) dA ad _) rfl rfl ml_X6_61 ⟨by decide, by decide, by decide, by decide⟩ rfl (Nat.le_of_ble_eq_true rfl) rfl rfl dX6_addNotch_5 rfl ?_
  refine AW.if_ne (pc' := 11) (tgt := 13) X dX6_addNotch_8 rfl rfl (fun q2 => ?_) (fun q2 => ?_)
  · replace h := iten q2 h
    refine AW.aload_n (k0 := 0) (pc' := 14) X rfl rfl dX6_addNotch_13 rfl ?_
    refine AW.gX6 (v := .ref 651) (pc' := 17) X h0 2 (by decide) rfl mf_X6_22 rfl dX6_addNotch_14 rfl ?_
    refine AW.aload_n (k0 := 0) (pc' := 18) X rfl rfl dX6_addNotch_17 rfl ?_
    refine AW.gX6 (v := .ref 0) (pc' := 21) X h0 0 (by decide) rfl mf_X6_10 rfl dX6_addNotch_18 rfl ?_
    obtain ⟨v3, c3, h⟩ := Option.bind_eq_some_iff.mp h
    refine AW.callV (As := [.ref 0]) (rest := []) (rv := none) (M' := v3) (pc' := 24) X (ok_X1_note (rX2 h0) (rX0 h0) c3) yv_X1_note ((rX2 h0)).1.1 ((rX2 h0)).1.2.1 (cH (rX2 h0) dA ad _) rfl rfl ml_X6_41 ⟨by decide, by decide, by decide, by decide⟩ rfl (Nat.le_of_ble_eq_true rfl) rfl rfl dX6_addNotch_21 rfl ?_
    refine AW.aload_n (k0 := 0) (pc' := 25) X rfl rfl dX6_addNotch_24 rfl ?_
    refine AW.aload_n (k0 := 0) (pc' := 26) X rfl rfl dX6_addNotch_25 rfl ?_
    refine AW.gX6 (v := .ref 0) (pc' := 29) X h0 0 (by decide) rfl mf_X6_10 rfl dX6_addNotch_26 rfl ?_
    refine AW.gX4 (v := .ref (0 + 6)) (pc' := 32) X (rX0 h0) 2 (by decide) rfl mf_X6_65 rfl dX6_addNotch_29 rfl ?_
    refine AW.iload_n (k0 := 1) (pc' := 33) X rfl rfl dX6_addNotch_32 rfl ?_
    obtain ⟨g4, h⟩ := gd_some h
    refine AW.aldC (pc' := 34) X (rS6 (rX0 h0)) (inb_vp g4) dX6_addNotch_33 rfl ?_
    refine AW.iload_n (k0 := 2) (pc' := 35) X rfl rfl dX6_addNotch_34 rfl ?_
    refine AW.iload_n (k0 := 3) (pc' := 36) X rfl rfl dX6_addNotch_35 rfl ?_
    refine AW.iload (k0 := 4) (pc' := 38) X rfl dX6_addNotch_36 rfl ?_
    obtain ⟨v5, c5, h⟩ := Option.bind_eq_some_iff.mp h
    refine AW.callV (As := [.int x2, .int x3, .int x4]) (rest := [.ref a0]) (rv := (some (.int v5.1))) (M' := v5.2) (pc' := 41) X (ok_X0_putNotch (rCA (rS6 (rX0 h0)) (inb_lt g4)) c5) yv_X0_putNotch (rCA (rS6 (rX0 h0)) (inb_lt g4)).1 (rCA (rS6 (rX0 h0)) (inb_lt g4)).2.1 (cC (rCA (rS6 (rX0 h0)) (inb_lt g4)) dA ad _) rfl rfl ml_X6_75 ⟨by decide, by decide, by decide, by decide⟩ rfl (Nat.le_of_ble_eq_true rfl) rfl rfl dX6_addNotch_38 rfl ?_
    obtain ⟨v6, c6, h⟩ := Option.bind_eq_some_iff.mp h
    refine AW.callV (As := [.int (v5.1)]) (rest := []) (rv := (some (.int v6.1))) (M' := v6.2) (pc' := 44) X (ok_X6_recorded h0 c6) yv_X6_recorded (h0).1.1 (h0).1.2.1 (cX h0 dA ad _) rfl rfl ml_X6_49 ⟨by decide, by decide, by decide, by decide⟩ rfl (Nat.le_of_ble_eq_true rfl) rfl rfl dX6_addNotch_41 rfl ?_
    replace h := Option.some.inj h
    subst h
    exact AW.iret X hr dX6_addNotch_44
  · replace h := itep q2 h
    refine AW.iconst (v := (-1)) (pc' := 12) X rfl dX6_addNotch_11 rfl ?_
    replace h := Option.some.inj h
    subst h
    exact AW.iret X hr dX6_addNotch_12
set_option maxHeartbeats 4000000 in
set_option maxRecDepth 100000 in
theorem ok_X6_set {lo n : Nat} {a0 : Nat} {x1 : Int32} {x2 : Int32} {M : MM} {R : (Int32 × MM)} (h0 : tSS lo n a0) (h : f_X6_set a0 x1 x2 M = some R) : MC yX6_set cX6_set 3 (some .int) 5 125 lo n [.ref a0, .int x1, .int x2] M (some (.int R.1)) R.2 := by
  refine MC.of (ls0 := [(0, .ref a0), (1, .int x1), (2, .int x2)]) (by decide) rfl (fun _ => Nat.le_of_ble_eq_true rfl) (fun p l e s m args below meth c D dA ad A X hr => ?_)
  replace X : CX p s m args meth c cX6_set 3 RX6 D dA ad lo n A := X
  unfold f_X6_set at h
  refine AW.aload_n (k0 := 0) (pc' := 1) X rfl rfl dX6_set_0 rfl ?_
  refine AW.gX6 (v := .ref 651) (pc' := 4) X h0 2 (by decide) rfl mf_X6_22 rfl dX6_set_1 rfl ?_
  refine AW.aload_n (k0 := 0) (pc' := 5) X rfl rfl dX6_set_4 rfl ?_
  refine AW.gX6 (v := .ref 0) (pc' := 8) X h0 0 (by decide) rfl mf_X6_10 rfl dX6_set_5 rfl ?_
  obtain ⟨v1, c1, h⟩ := Option.bind_eq_some_iff.mp h
  refine AW.callV (As := [.ref 0]) (rest := []) (rv := none) (M' := v1) (pc' := 11) X (ok_X1_note (rX2 h0) (rX0 h0) c1) yv_X1_note ((rX2 h0)).1.1 ((rX2 h0)).1.2.1 (cH (rX2 h0) dA ad _) rfl rfl ml_X6_41 ⟨by decide, by decide, by decide, by decide⟩ rfl (Nat.le_of_ble_eq_true rfl) rfl rfl dX6_set_8 rfl ?_
  refine AW.aload_n (k0 := 0) (pc' := 12) X rfl rfl dX6_set_11 rfl ?_
  refine AW.aload_n (k0 := 0) (pc' := 13) X rfl rfl dX6_set_12 rfl ?_
  refine AW.gX6 (v := .ref 0) (pc' := 16) X h0 0 (by decide) rfl mf_X6_10 rfl dX6_set_13 rfl ?_
  refine AW.iload_n (k0 := 1) (pc' := 17) X rfl rfl dX6_set_16 rfl ?_
  refine AW.iload_n (k0 := 2) (pc' := 18) X rfl rfl dX6_set_17 rfl ?_
  obtain ⟨v2, c2, h⟩ := Option.bind_eq_some_iff.mp h
  refine AW.callV (As := [.int x1, .int x2]) (rest := [.ref a0]) (rv := (some (.int v2.1))) (M' := v2.2) (pc' := 21) X (ok_X4_changeSetting (rX0 h0) c2) yv_X4_changeSetting (rX0 h0).1 (rX0 h0).2.1 (cS (rX0 h0) dA ad _) rfl rfl ml_X6_78 ⟨by decide, by decide, by decide, by decide⟩ rfl (Nat.le_of_ble_eq_true rfl) rfl rfl dX6_set_18 rfl ?_
  obtain ⟨v3, c3, h⟩ := Option.bind_eq_some_iff.mp h
  refine AW.callV (As := [.int (v2.1)]) (rest := []) (rv := (some (.int v3.1))) (M' := v3.2) (pc' := 24) X (ok_X6_recorded h0 c3) yv_X6_recorded (h0).1.1 (h0).1.2.1 (cX h0 dA ad _) rfl rfl ml_X6_49 ⟨by decide, by decide, by decide, by decide⟩ rfl (Nat.le_of_ble_eq_true rfl) rfl rfl dX6_set_21 rfl ?_
  replace h := Option.some.inj h
  subst h
  exact AW.iret X hr dX6_set_24
set_option maxHeartbeats 4000000 in
set_option maxRecDepth 100000 in
theorem ok_X6_start {lo n : Nat} {a0 : Nat} {x1 : Int32} {M : MM} {R : (Int32 × MM)} (h0 : tSS lo n a0) (h : f_X6_start a0 x1 M = some R) : MC yX6_start cX6_start 2 (some .int) 5 125 lo n [.ref a0, .int x1] M (some (.int R.1)) R.2 := by
  refine MC.of (ls0 := [(0, .ref a0), (1, .int x1)]) (by decide) rfl (fun _ => Nat.le_of_ble_eq_true rfl) (fun p l e s m args below meth c D dA ad A X hr => ?_)
  replace X : CX p s m args meth c cX6_start 2 RX6 D dA ad lo n A := X
  unfold f_X6_start at h
  refine AW.aload_n (k0 := 0) (pc' := 1) X rfl rfl dX6_start_0 rfl ?_
  refine AW.gX6 (v := .ref 651) (pc' := 4) X h0 2 (by decide) rfl mf_X6_22 rfl dX6_start_1 rfl ?_
  refine AW.aload_n (k0 := 0) (pc' := 5) X rfl rfl dX6_start_4 rfl ?_
  refine AW.gX6 (v := .ref 0) (pc' := 8) X h0 0 (by decide) rfl mf_X6_10 rfl dX6_start_5 rfl ?_
  obtain ⟨v1, c1, h⟩ := Option.bind_eq_some_iff.mp h
  refine AW.callV (As := [.ref 0]) (rest := []) (rv := none) (M' := v1) (pc' := 11) X (ok_X1_note (rX2 h0) (rX0 h0) c1) yv_X1_note ((rX2 h0)).1.1 ((rX2 h0)).1.2.1 (cH (rX2 h0) dA ad _) rfl rfl ml_X6_41 ⟨by decide, by decide, by decide, by decide⟩ rfl (Nat.le_of_ble_eq_true rfl) rfl rfl dX6_start_8 rfl ?_
  refine AW.aload_n (k0 := 0) (pc' := 12) X rfl rfl dX6_start_11 rfl ?_
  refine AW.aload_n (k0 := 0) (pc' := 13) X rfl rfl dX6_start_12 rfl ?_
  refine AW.gX6 (v := .ref 0) (pc' := 16) X h0 0 (by decide) rfl mf_X6_10 rfl dX6_start_13 rfl ?_
  refine AW.iload_n (k0 := 1) (pc' := 17) X rfl rfl dX6_start_16 rfl ?_
  obtain ⟨v2, c2, h⟩ := Option.bind_eq_some_iff.mp h
  refine AW.callV (As := [.int x1]) (rest := [.ref a0]) (rv := (some (.int v2.1))) (M' := v2.2) (pc' := 20) X (ok_X4_begin (rX0 h0) c2) yv_X4_begin (rX0 h0).1 (rX0 h0).2.1 (cS (rX0 h0) dA ad _) rfl rfl ml_X6_81 ⟨by decide, by decide, by decide, by decide⟩ rfl (Nat.le_of_ble_eq_true rfl) rfl rfl dX6_start_17 rfl ?_
  obtain ⟨v3, c3, h⟩ := Option.bind_eq_some_iff.mp h
  refine AW.callV (As := [.int (v2.1)]) (rest := []) (rv := (some (.int v3.1))) (M' := v3.2) (pc' := 23) X (ok_X6_recorded h0 c3) yv_X6_recorded (h0).1.1 (h0).1.2.1 (cX h0 dA ad _) rfl rfl ml_X6_49 ⟨by decide, by decide, by decide, by decide⟩ rfl (Nat.le_of_ble_eq_true rfl) rfl rfl dX6_start_20 rfl ?_
  replace h := Option.some.inj h
  subst h
  exact AW.iret X hr dX6_start_23
set_option maxHeartbeats 4000000 in
set_option maxRecDepth 100000 in
theorem ok_X6_step {lo n : Nat} {a0 : Nat} {x1 : Int32} {M : MM} {R : (Int32 × MM)} (h0 : tSS lo n a0) (h : f_X6_step a0 x1 M = some R) : MC yX6_step cX6_step 2 (some .int) 5 125 lo n [.ref a0, .int x1] M (some (.int R.1)) R.2 := by
  refine MC.of (ls0 := [(0, .ref a0), (1, .int x1)]) (by decide) rfl (fun _ => Nat.le_of_ble_eq_true rfl) (fun p l e s m args below meth c D dA ad A X hr => ?_)
  replace X : CX p s m args meth c cX6_step 2 RX6 D dA ad lo n A := X
  unfold f_X6_step at h
  refine AW.aload_n (k0 := 0) (pc' := 1) X rfl rfl dX6_step_0 rfl ?_
  refine AW.gX6 (v := .ref 651) (pc' := 4) X h0 2 (by decide) rfl mf_X6_22 rfl dX6_step_1 rfl ?_
  refine AW.aload_n (k0 := 0) (pc' := 5) X rfl rfl dX6_step_4 rfl ?_
  refine AW.gX6 (v := .ref 0) (pc' := 8) X h0 0 (by decide) rfl mf_X6_10 rfl dX6_step_5 rfl ?_
  obtain ⟨v1, c1, h⟩ := Option.bind_eq_some_iff.mp h
  refine AW.callV (As := [.ref 0]) (rest := []) (rv := none) (M' := v1) (pc' := 11) X (ok_X1_note (rX2 h0) (rX0 h0) c1) yv_X1_note ((rX2 h0)).1.1 ((rX2 h0)).1.2.1 (cH (rX2 h0) dA ad _) rfl rfl ml_X6_41 ⟨by decide, by decide, by decide, by decide⟩ rfl (Nat.le_of_ble_eq_true rfl) rfl rfl dX6_step_8 rfl ?_
  refine AW.aload_n (k0 := 0) (pc' := 12) X rfl rfl dX6_step_11 rfl ?_
  refine AW.aload_n (k0 := 0) (pc' := 13) X rfl rfl dX6_step_12 rfl ?_
  refine AW.gX6 (v := .ref 0) (pc' := 16) X h0 0 (by decide) rfl mf_X6_10 rfl dX6_step_13 rfl ?_
  refine AW.iload_n (k0 := 1) (pc' := 17) X rfl rfl dX6_step_16 rfl ?_
  obtain ⟨v2, c2, h⟩ := Option.bind_eq_some_iff.mp h
  refine AW.callV (As := [.int x1]) (rest := [.ref a0]) (rv := (some (.int v2.1))) (M' := v2.2) (pc' := 20) X (ok_X4_doLoops (rX0 h0) c2) yv_X4_doLoops (rX0 h0).1 (rX0 h0).2.1 (cS (rX0 h0) dA ad _) rfl rfl ml_X6_84 ⟨by decide, by decide, by decide, by decide⟩ rfl (Nat.le_of_ble_eq_true rfl) rfl rfl dX6_step_17 rfl ?_
  obtain ⟨v3, c3, h⟩ := Option.bind_eq_some_iff.mp h
  refine AW.callV (As := [.int (v2.1)]) (rest := []) (rv := (some (.int v3.1))) (M' := v3.2) (pc' := 23) X (ok_X6_recorded h0 c3) yv_X6_recorded (h0).1.1 (h0).1.2.1 (cX h0 dA ad _) rfl rfl ml_X6_49 ⟨by decide, by decide, by decide, by decide⟩ rfl (Nat.le_of_ble_eq_true rfl) rfl rfl dX6_step_20 rfl ?_
  replace h := Option.some.inj h
  subst h
  exact AW.iret X hr dX6_step_23
set_option maxHeartbeats 4000000 in
set_option maxRecDepth 100000 in
theorem ok_X6_hold {lo n : Nat} {a0 : Nat} {b1 : Bool} {M : MM} {R : (Int32 × MM)} (h0 : tSS lo n a0) (h : f_X6_hold a0 b1 M = some R) : MC yX6_hold cX6_hold 2 (some .int) 5 125 lo n [.ref a0, .int (bz b1)] M (some (.int R.1)) R.2 := by
  refine MC.of (ls0 := [(0, .ref a0), (1, .int (bz b1))]) (by decide) rfl (fun _ => Nat.le_of_ble_eq_true rfl) (fun p l e s m args below meth c D dA ad A X hr => ?_)
  replace X : CX p s m args meth c cX6_hold 2 RX6 D dA ad lo n A := X
  unfold f_X6_hold at h
  refine AW.aload_n (k0 := 0) (pc' := 1) X rfl rfl dX6_hold_0 rfl ?_
  refine AW.gX6 (v := .ref 651) (pc' := 4) X h0 2 (by decide) rfl mf_X6_22 rfl dX6_hold_1 rfl ?_
  refine AW.aload_n (k0 := 0) (pc' := 5) X rfl rfl dX6_hold_4 rfl ?_
  refine AW.gX6 (v := .ref 0) (pc' := 8) X h0 0 (by decide) rfl mf_X6_10 rfl dX6_hold_5 rfl ?_
  obtain ⟨v1, c1, h⟩ := Option.bind_eq_some_iff.mp h
  refine AW.callV (As := [.ref 0]) (rest := []) (rv := none) (M' := v1) (pc' := 11) X (ok_X1_note (rX2 h0) (rX0 h0) c1) yv_X1_note ((rX2 h0)).1.1 ((rX2 h0)).1.2.1 (cH (rX2 h0) dA ad _) rfl rfl ml_X6_41 ⟨by decide, by decide, by decide, by decide⟩ rfl (Nat.le_of_ble_eq_true rfl) rfl rfl dX6_hold_8 rfl ?_
  refine AW.aload_n (k0 := 0) (pc' := 12) X rfl rfl dX6_hold_11 rfl ?_
  refine AW.aload_n (k0 := 0) (pc' := 13) X rfl rfl dX6_hold_12 rfl ?_
  refine AW.gX6 (v := .ref 0) (pc' := 16) X h0 0 (by decide) rfl mf_X6_10 rfl dX6_hold_13 rfl ?_
  refine AW.iload_n (k0 := 1) (pc' := 17) X rfl rfl dX6_hold_16 rfl ?_
  obtain ⟨v2, c2, h⟩ := Option.bind_eq_some_iff.mp h
  refine AW.callV (As := [.int (bz b1)]) (rest := [.ref a0]) (rv := (some (.int v2.1))) (M' := v2.2) (pc' := 20) X (ok_X4_holdOrGoOn (rX0 h0) c2) yv_X4_holdOrGoOn (rX0 h0).1 (rX0 h0).2.1 (cS (rX0 h0) dA ad _) rfl rfl ml_X6_87 ⟨by decide, by decide, by decide, by decide⟩ rfl (Nat.le_of_ble_eq_true rfl) rfl rfl dX6_hold_17 rfl ?_
  obtain ⟨v3, c3, h⟩ := Option.bind_eq_some_iff.mp h
  refine AW.callV (As := [.int (v2.1)]) (rest := []) (rv := (some (.int v3.1))) (M' := v3.2) (pc' := 23) X (ok_X6_recorded h0 c3) yv_X6_recorded (h0).1.1 (h0).1.2.1 (cX h0 dA ad _) rfl rfl ml_X6_49 ⟨by decide, by decide, by decide, by decide⟩ rfl (Nat.le_of_ble_eq_true rfl) rfl rfl dX6_hold_20 rfl ?_
  replace h := Option.some.inj h
  subst h
  exact AW.iret X hr dX6_hold_23
set_option maxHeartbeats 4000000 in
set_option maxRecDepth 100000 in
theorem ok_X6_abort {lo n : Nat} {a0 : Nat} {M : MM} {R : (Int32 × MM)} (h0 : tSS lo n a0) (h : f_X6_abort a0 M = some R) : MC yX6_abort cX6_abort 1 (some .int) 5 125 lo n [.ref a0] M (some (.int R.1)) R.2 := by
  refine MC.of (ls0 := [(0, .ref a0)]) (by decide) rfl (fun _ => Nat.le_of_ble_eq_true rfl) (fun p l e s m args below meth c D dA ad A X hr => ?_)
  replace X : CX p s m args meth c cX6_abort 1 RX6 D dA ad lo n A := X
  unfold f_X6_abort at h
  refine AW.aload_n (k0 := 0) (pc' := 1) X rfl rfl dX6_abort_0 rfl ?_
  refine AW.gX6 (v := .ref 651) (pc' := 4) X h0 2 (by decide) rfl mf_X6_22 rfl dX6_abort_1 rfl ?_
  refine AW.aload_n (k0 := 0) (pc' := 5) X rfl rfl dX6_abort_4 rfl ?_
  refine AW.gX6 (v := .ref 0) (pc' := 8) X h0 0 (by decide) rfl mf_X6_10 rfl dX6_abort_5 rfl ?_
  obtain ⟨v1, c1, h⟩ := Option.bind_eq_some_iff.mp h
  refine AW.callV (As := [.ref 0]) (rest := []) (rv := none) (M' := v1) (pc' := 11) X (ok_X1_note (rX2 h0) (rX0 h0) c1) yv_X1_note ((rX2 h0)).1.1 ((rX2 h0)).1.2.1 (cH (rX2 h0) dA ad _) rfl rfl ml_X6_41 ⟨by decide, by decide, by decide, by decide⟩ rfl (Nat.le_of_ble_eq_true rfl) rfl rfl dX6_abort_8 rfl ?_
  refine AW.aload_n (k0 := 0) (pc' := 12) X rfl rfl dX6_abort_11 rfl ?_
  refine AW.aload_n (k0 := 0) (pc' := 13) X rfl rfl dX6_abort_12 rfl ?_
  refine AW.gX6 (v := .ref 0) (pc' := 16) X h0 0 (by decide) rfl mf_X6_10 rfl dX6_abort_13 rfl ?_
  obtain ⟨v2, c2, h⟩ := Option.bind_eq_some_iff.mp h
  refine AW.callV (As := []) (rest := [.ref a0]) (rv := (some (.int v2.1))) (M' := v2.2) (pc' := 19) X (ok_X4_abortByHand (rX0 h0) c2) yv_X4_abortByHand (rX0 h0).1 (rX0 h0).2.1 (cS (rX0 h0) dA ad _) rfl rfl ml_X6_91 ⟨by decide, by decide, by decide, by decide⟩ rfl (Nat.le_of_ble_eq_true rfl) rfl rfl dX6_abort_16 rfl ?_
  obtain ⟨v3, c3, h⟩ := Option.bind_eq_some_iff.mp h
  refine AW.callV (As := [.int (v2.1)]) (rest := []) (rv := (some (.int v3.1))) (M' := v3.2) (pc' := 22) X (ok_X6_recorded h0 c3) yv_X6_recorded (h0).1.1 (h0).1.2.1 (cX h0 dA ad _) rfl rfl ml_X6_49 ⟨by decide, by decide, by decide, by decide⟩ rfl (Nat.le_of_ble_eq_true rfl) rfl rfl dX6_abort_19 rfl ?_
  replace h := Option.some.inj h
  subst h
  exact AW.iret X hr dX6_abort_22
set_option maxHeartbeats 4000000 in
set_option maxRecDepth 100000 in
theorem ok_X6_append {lo n : Nat} {a0 : Nat} {x1 : Int32} {M : MM} {R : (Int32 × MM)} (h0 : tSS lo n a0) (h : f_X6_append a0 x1 M = some R) : MC yX6_append cX6_append 2 (some .int) 2 43 lo n [.ref a0, .int x1] M (some (.int R.1)) R.2 := by
  refine MC.of (ls0 := [(0, .ref a0), (1, .int x1)]) (by decide) rfl (fun _ => Nat.le_of_ble_eq_true rfl) (fun p l e s m args below meth c D dA ad A X hr => ?_)
  replace X : CX p s m args meth c cX6_append 2 RX6 D dA ad lo n A := X
  unfold f_X6_append at h
  refine AW.aload_n (k0 := 0) (pc' := 1) X rfl rfl dX6_append_0 rfl ?_
  refine AW.gX6 (v := .ref 655) (pc' := 4) X h0 5 (by decide) rfl mf_X6_37 rfl dX6_append_1 rfl ?_
  refine AW.iload_n (k0 := 1) (pc' := 5) X rfl rfl dX6_append_4 rfl ?_
  obtain ⟨v1, c1, h⟩ := Option.bind_eq_some_iff.mp h
  refine AW.callV (As := [.int x1]) (rest := []) (rv := (some (.int v1.1))) (M' := v1.2) (pc' := 8) X (ok_X5_add (rX5 h0) c1) yv_X5_add (rX5 h0).1 (rX5 h0).2.1 (cT (rX5 h0) dA ad _) rfl rfl ml_X6_95 ⟨by decide, by decide, by decide, by decide⟩ rfl (Nat.le_of_ble_eq_true rfl) rfl rfl dX6_append_5 rfl ?_
  replace h := Option.some.inj h
  subst h
  exact AW.iret X hr dX6_append_8
set_option maxHeartbeats 4000000 in
set_option maxRecDepth 100000 in
theorem ok_X6_clearText {lo n : Nat} {a0 : Nat} {M : MM} {R : (Int32 × MM)} (h0 : tSS lo n a0) (h : f_X6_clearText a0 M = some R) : MC yX6_clearText cX6_clearText 2 (some .int) 0 0 lo n [.ref a0] M (some (.int R.1)) R.2 := by
  refine MC.of (ls0 := [(0, .ref a0)]) (by decide) rfl (fun _ => Nat.le_of_ble_eq_true rfl) (fun p l e s m args below meth c D dA ad A X hr => ?_)
  replace X : CX p s m args meth c cX6_clearText 2 RX6 D dA ad lo n A := X
  unfold f_X6_clearText at h
  refine AW.aload_n (k0 := 0) (pc' := 1) X rfl rfl dX6_clearText_0 rfl ?_
  refine AW.gX6 (v := .ref 655) (pc' := 4) X h0 5 (by decide) rfl mf_X6_37 rfl dX6_clearText_1 rfl ?_
  refine AW.gX5 (v := .int (M 655 1)) (pc' := 7) X (rX5 h0) 1 (by decide) rfl mf_X6_98 rfl dX6_clearText_4 rfl ?_
  refine AW.istore_n (ls' := [(1, .int (M 655 1)), (0, .ref a0)]) (pc' := 8) X rfl (by decide) rfl dX6_clearText_7 rfl ?_
  refine AW.aload_n (k0 := 1) (pc' := 9) X rfl rfl dX6_clearText_8 rfl ?_
  refine AW.gX6 (v := .ref 655) (pc' := 12) X h0 5 (by decide) rfl mf_X6_37 rfl dX6_clearText_9 rfl ?_
  refine AW.iconst (v := 0) (pc' := 13) X rfl dX6_clearText_12 rfl ?_
  refine AW.pX5 (pc' := 16) X (rX5 h0) 1 (by decide) rfl mf_X6_98 rfl rfl (by simp [fsT, upd]) (Nat.le_of_ble_eq_true rfl) dX6_clearText_13 rfl ?_
  refine AW.iload_n (k0 := 0) (pc' := 17) X rfl rfl dX6_clearText_16 rfl ?_
  replace h := Option.some.inj h
  subst h
  exact AW.iret X hr dX6_clearText_17
end OK
