/-! each method does what its function says: by program, a row an instruction -/
section OK
variable {p : Program} {l : Launch} {e : Env} {s : State} {m : MethodId} {args : Array Value} {below : List Frame} {meth : Method} {c : Code} {D : va_G} {dA : Nat → ClassId} {ad : Nat → Nat} {lo n : Nat} {A : Nat → Prop}
set_option maxHeartbeats 4000000 in
set_option maxRecDepth 100000 in
theorem ok_X6_faultPosition {lo n : Nat} {a0 : Nat} {M : MM} {R : (Int32 × MM)} (h0 : tSS lo n a0) (h : f_X6_faultPosition a0 M = some R) : MC yX6_faultPosition cX6_faultPosition 1 (some .int) 6 130 lo n [.ref a0] M (some (.int R.1)) R.2 := by
  refine MC.of (ls0 := [(0, .ref a0)]) (by decide) rfl (fun _ => Nat.le_of_ble_eq_true rfl) (fun p l e s m args below meth c D dA ad A X hr => ?_)
  replace X : CX p s m args meth c cX6_faultPosition 1 RX6 D dA ad lo n A := X
  unfold f_X6_faultPosition at h
  refine AW.aload_n (k0 := 0) (pc' := 1) X rfl rfl dX6_faultPosition_0 rfl ?_
  refine AW.gX6 (v := .ref 655) (pc' := 4) X h0 5 (by decide) rfl mf_X6_37 rfl dX6_faultPosition_1 rfl ?_
  obtain ⟨v1, c1, h⟩ := Option.bind_eq_some_iff.mp h
  refine AW.callV (As := []) (rest := []) (rv := (some (.int v1.1))) (M' := v1.2) (pc' := 7) X (ok_X5_findFault (rX5 h0) c1) yv_X5_findFault (rX5 h0).1 (rX5 h0).2.1 (cT (rX5 h0) dA ad _) rfl rfl ml_X6_102 ⟨by decide, by decide, by decide, by decide⟩ rfl (Nat.le_of_ble_eq_true rfl) rfl rfl dX6_faultPosition_4 rfl ?_
  replace h := Option.some.inj h
  subst h
  exact AW.iret X hr dX6_faultPosition_7
set_option maxHeartbeats 4000000 in
set_option maxRecDepth 100000 in
theorem ok_X6_carryOutAct {lo n : Nat} {a0 : Nat} {M : MM} {R : (Int32 × MM)} (h0 : tSS lo n a0) (h : f_X6_carryOutAct a0 M = some R) : MC yX6_carryOutAct cX6_carryOutAct 1 (some .int) 5 124 lo n [.ref a0] M (some (.int R.1)) R.2 := by
  refine MC.of (ls0 := [(0, .ref a0)]) (by decide) rfl (fun _ => Nat.le_of_ble_eq_true rfl) (fun p l e s m args below meth c D dA ad A X hr => ?_)
  replace X : CX p s m args meth c cX6_carryOutAct 1 RX6 D dA ad lo n A := X
  unfold f_X6_carryOutAct at h
  refine AW.aload_n (k0 := 0) (pc' := 1) X rfl rfl dX6_carryOutAct_0 rfl ?_
  refine AW.gX6 (v := .ref 655) (pc' := 4) X h0 5 (by decide) rfl mf_X6_37 rfl dX6_carryOutAct_1 rfl ?_
  refine AW.gX5 (v := .int (M 655 3)) (pc' := 7) X (rX5 h0) 3 (by decide) rfl mf_X6_115 rfl dX6_carryOutAct_4 rfl ?_
  by_cases q1 : (M 655 3) = 103
  · replace h := itep q1 h
    refine AW.lookup (pc' := 56) X dX6_carryOutAct_7 (by decide) (by rw [q1] <;> rfl) rfl ?_
    refine AW.aload_n (k0 := 0) (pc' := 57) X rfl rfl dX6_carryOutAct_56 rfl ?_
    refine AW.gX6 (v := .ref 0) (pc' := 60) X h0 0 (by decide) rfl mf_X6_10 rfl dX6_carryOutAct_57 rfl ?_
    refine AW.aload_n (k0 := 0) (pc' := 61) X rfl rfl dX6_carryOutAct_60 rfl ?_
    refine AW.gX6 (v := .ref 655) (pc' := 64) X h0 5 (by decide) rfl mf_X6_37 rfl dX6_carryOutAct_61 rfl ?_
    refine AW.gX5 (v := .int (M 655 5)) (pc' := 67) X (rX5 h0) 5 (by decide) rfl mf_X6_118 rfl dX6_carryOutAct_64 rfl ?_
    obtain ⟨v2, c2, h⟩ := Option.bind_eq_some_iff.mp h
    refine AW.callV (As := [.int (M 655 5)]) (rest := []) (rv := (some (.int v2.1))) (M' := v2.2) (pc' := 70) X (ok_X4_begin (rX0 h0) c2) yv_X4_begin (rX0 h0).1 (rX0 h0).2.1 (cS (rX0 h0) dA ad _) rfl rfl ml_X6_81 ⟨by decide, by decide, by decide, by decide⟩ rfl (Nat.le_of_ble_eq_true rfl) rfl rfl dX6_carryOutAct_67 rfl ?_
    replace h := Option.some.inj h
    subst h
    exact AW.iret X hr dX6_carryOutAct_70
  · replace h := iten q1 h
    by_cases q3 : (M 655 3) = 104
    · replace h := itep q3 h
      refine AW.lookup (pc' := 86) X dX6_carryOutAct_7 (by decide) (by rw [q3] <;> rfl) rfl ?_
      refine AW.aload_n (k0 := 0) (pc' := 87) X rfl rfl dX6_carryOutAct_86 rfl ?_
      refine AW.gX6 (v := .ref 0) (pc' := 90) X h0 0 (by decide) rfl mf_X6_10 rfl dX6_carryOutAct_87 rfl ?_
      refine AW.iconst (v := 1) (pc' := 91) X rfl dX6_carryOutAct_90 rfl ?_
      obtain ⟨v4, c4, h⟩ := Option.bind_eq_some_iff.mp h
      refine AW.callV (As := [.int 1]) (rest := []) (rv := (some (.int v4.1))) (M' := v4.2) (pc' := 94) X (ok_X4_holdOrGoOn (rX0 h0) c4) yv_X4_holdOrGoOn (rX0 h0).1 (rX0 h0).2.1 (cS (rX0 h0) dA ad _) rfl rfl ml_X6_87 ⟨by decide, by decide, by decide, by decide⟩ rfl (Nat.le_of_ble_eq_true rfl) rfl rfl dX6_carryOutAct_91 rfl ?_
      replace h := Option.some.inj h
      subst h
      exact AW.iret X hr dX6_carryOutAct_94
    · replace h := iten q3 h
      by_cases q5 : (M 655 3) = 114
      · replace h := itep q5 h
        refine AW.lookup (pc' := 95) X dX6_carryOutAct_7 (by decide) (by rw [q5] <;> rfl) rfl ?_
        refine AW.aload_n (k0 := 0) (pc' := 96) X rfl rfl dX6_carryOutAct_95 rfl ?_
        refine AW.gX6 (v := .ref 0) (pc' := 99) X h0 0 (by decide) rfl mf_X6_10 rfl dX6_carryOutAct_96 rfl ?_
        refine AW.iconst (v := 0) (pc' := 100) X rfl dX6_carryOutAct_99 rfl ?_
        obtain ⟨v6, c6, h⟩ := Option.bind_eq_some_iff.mp h
        refine AW.callV (As := [.int 0]) (rest := []) (rv := (some (.int v6.1))) (M' := v6.2) (pc' := 103) X (ok_X4_holdOrGoOn (rX0 h0) c6) yv_X4_holdOrGoOn (rX0 h0).1 (rX0 h0).2.1 (cS (rX0 h0) dA ad _) rfl rfl ml_X6_87 ⟨by decide, by decide, by decide, by decide⟩ rfl (Nat.le_of_ble_eq_true rfl) rfl rfl dX6_carryOutAct_100 rfl ?_
        replace h := Option.some.inj h
        subst h
        exact AW.iret X hr dX6_carryOutAct_103
      · replace h := iten q5 h
        by_cases q7 : (M 655 3) = 115
        · replace h := itep q7 h
          refine AW.lookup (pc' := 71) X dX6_carryOutAct_7 (by decide) (by rw [q7] <;> rfl) rfl ?_
          refine AW.aload_n (k0 := 0) (pc' := 72) X rfl rfl dX6_carryOutAct_71 rfl ?_
          refine AW.gX6 (v := .ref 0) (pc' := 75) X h0 0 (by decide) rfl mf_X6_10 rfl dX6_carryOutAct_72 rfl ?_
          refine AW.aload_n (k0 := 0) (pc' := 76) X rfl rfl dX6_carryOutAct_75 rfl ?_
          refine AW.gX6 (v := .ref 655) (pc' := 79) X h0 5 (by decide) rfl mf_X6_37 rfl dX6_carryOutAct_76 rfl ?_
          refine AW.gX5 (v := .int (M 655 5)) (pc' := 82) X (rX5 h0) 5 (by decide) rfl mf_X6_118 rfl dX6_carryOutAct_79 rfl ?_
          obtain ⟨v8, c8, h⟩ := Option.bind_eq_some_iff.mp h
          refine AW.callV (As := [.int (M 655 5)]) (rest := []) (rv := (some (.int v8.1))) (M' := v8.2) (pc' := 85) X (ok_X4_doLoops (rX0 h0) c8) yv_X4_doLoops (rX0 h0).1 (rX0 h0).2.1 (cS (rX0 h0) dA ad _) rfl rfl ml_X6_84 ⟨by decide, by decide, by decide, by decide⟩ rfl (Nat.le_of_ble_eq_true rfl) rfl rfl dX6_carryOutAct_82 rfl ?_
          replace h := Option.some.inj h
          subst h
          exact AW.iret X hr dX6_carryOutAct_85
        · replace h := iten q7 h
          by_cases q9 : (M 655 3) = 120
          · replace h := itep q9 h
            refine AW.lookup (pc' := 104) X dX6_carryOutAct_7 (by decide) (by rw [q9] <;> rfl) rfl ?_
            refine AW.aload_n (k0 := 0) (pc' := 105) X rfl rfl dX6_carryOutAct_104 rfl ?_
            refine AW.gX6 (v := .ref 0) (pc' := 108) X h0 0 (by decide) rfl mf_X6_10 rfl dX6_carryOutAct_105 rfl ?_
            obtain ⟨v10, c10, h⟩ := Option.bind_eq_some_iff.mp h
            refine AW.callV (As := []) (rest := []) (rv := (some (.int v10.1))) (M' := v10.2) (pc' := 111) X (ok_X4_abortByHand (rX0 h0) c10) yv_X4_abortByHand (rX0 h0).1 (rX0 h0).2.1 (cS (rX0 h0) dA ad _) rfl rfl ml_X6_91 ⟨by decide, by decide, by decide, by decide⟩ rfl (Nat.le_of_ble_eq_true rfl) rfl rfl dX6_carryOutAct_108 rfl ?_
            replace h := Option.some.inj h
            subst h
            exact AW.iret X hr dX6_carryOutAct_111
          · replace h := iten q9 h
            refine AW.lookup (pc' := 112) X dX6_carryOutAct_7 (by decide) (by rw [lv_osw q1 (by decide : (103 : Int32).toInt = 103), lv_osw q3 (by decide : (104 : Int32).toInt = 104), lv_osw q5 (by decide : (114 : Int32).toInt = 114), lv_osw q7 (by decide : (115 : Int32).toInt = 115), lv_osw q9 (by decide : (120 : Int32).toInt = 120)] <;> rfl) rfl ?_
            refine AW.aload_n (k0 := 0) (pc' := 113) X rfl rfl dX6_carryOutAct_112 rfl ?_
            refine AW.gX6 (v := .ref 0) (pc' := 116) X h0 0 (by decide) rfl mf_X6_10 rfl dX6_carryOutAct_113 rfl ?_
            refine AW.aload_n (k0 := 0) (pc' := 117) X rfl rfl dX6_carryOutAct_116 rfl ?_
            refine AW.gX6 (v := .ref 655) (pc' := 120) X h0 5 (by decide) rfl mf_X6_37 rfl dX6_carryOutAct_117 rfl ?_
            refine AW.gX5 (v := .int (M 655 5)) (pc' := 123) X (rX5 h0) 5 (by decide) rfl mf_X6_118 rfl dX6_carryOutAct_120 rfl ?_
            refine AW.aload_n (k0 := 0) (pc' := 124) X rfl rfl dX6_carryOutAct_123 rfl ?_
            refine AW.gX6 (v := .ref 655) (pc' := 127) X h0 5 (by decide) rfl mf_X6_37 rfl dX6_carryOutAct_124 rfl ?_
            refine AW.gX5 (v := .int (M 655 6)) (pc' := 130) X (rX5 h0) 6 (by decide) rfl mf_X6_121 rfl dX6_carryOutAct_127 rfl ?_
            obtain ⟨v11, c11, h⟩ := Option.bind_eq_some_iff.mp h
            refine AW.callV (As := [.int (M 655 5), .int (M 655 6)]) (rest := []) (rv := (some (.int v11.1))) (M' := v11.2) (pc' := 133) X (ok_X4_changeSetting (rX0 h0) c11) yv_X4_changeSetting (rX0 h0).1 (rX0 h0).2.1 (cS (rX0 h0) dA ad _) rfl rfl ml_X6_78 ⟨by decide, by decide, by decide, by decide⟩ rfl (Nat.le_of_ble_eq_true rfl) rfl rfl dX6_carryOutAct_130 rfl ?_
            replace h := Option.some.inj h
            subst h
            exact AW.iret X hr dX6_carryOutAct_133
set_option maxHeartbeats 4000000 in
set_option maxRecDepth 100000 in
theorem ok_X6_run_64 {a0 : Nat} (X : CX p s m args meth c cX6_run 2 RX6 D dA ad lo n A) (hr : meth.sig.returnType = (some .int)) (h0 : tSS lo n a0) : ∀ (x1 : Int32) (M : MM) (R : (Int32 × MM)), f_X6_run_64 a0 x1 M = some R → AR p l e 6 144 s m args below meth c D dA ad lo n 2 A (some (.int R.1)) R.2 64 [(0, .ref a0), (1, .int x1)] [] M := by
  intro x1 M R h
  unfold f_X6_run_64 at h
  refine AW.aload_n (k0 := 0) (pc' := 65) X rfl rfl dX6_run_64 rfl ?_
  refine AW.iload_n (k0 := 1) (pc' := 66) X rfl rfl dX6_run_65 rfl ?_
  obtain ⟨v1, c1, h⟩ := Option.bind_eq_some_iff.mp h
  refine AW.callV (As := [.int x1]) (rest := []) (rv := (some (.int v1.1))) (M' := v1.2) (pc' := 69) X (ok_X6_recorded h0 c1) yv_X6_recorded (h0).1.1 (h0).1.2.1 (cX h0 dA ad _) rfl rfl ml_X6_49 ⟨by decide, by decide, by decide, by decide⟩ rfl (Nat.le_of_ble_eq_true rfl) rfl rfl dX6_run_66 rfl ?_
  replace h := Option.some.inj h
  subst h
  exact AW.iret X hr dX6_run_69
set_option maxHeartbeats 4000000 in
set_option maxRecDepth 100000 in
theorem ok_X6_run_35 {a0 : Nat} (X : CX p s m args meth c cX6_run 2 RX6 D dA ad lo n A) (hr : meth.sig.returnType = (some .int)) (h0 : tSS lo n a0) : ∀ (k : Nat) (x1 : Int32) (M : MM) (R : (Int32 × MM)), f_X6_run_35 a0 k x1 M = some R → AR p l e 6 144 s m args below meth c D dA ad lo n 2 A (some (.int R.1)) R.2 35 [(0, .ref a0), (1, .int x1)] [] M := by
  intro k
  induction k with
  | zero => intro _ _ R h; exact none_some h
  | succ k ih =>
    intro x1 M R h
    unfold f_X6_run_35 at h
    refine AW.iload_n (k0 := 1) (pc' := 36) X rfl rfl dX6_run_35 rfl ?_
    refine AW.bipush (v := 80) (pc' := 38) X rfl dX6_run_36 rfl ?_
    refine AW.icmp_ge (pc' := 41) (tgt := 64) X dX6_run_38 rfl rfl (fun q1 => ?_) (fun q1 => ?_)
    · replace h := itep q1 h
      exact ok_X6_run_64 X hr h0 x1 M R h
    · replace h := iten q1 h
      refine AW.aload_n (k0 := 0) (pc' := 42) X rfl rfl dX6_run_41 rfl ?_
      refine AW.gX6 (v := .ref 655) (pc' := 45) X h0 5 (by decide) rfl mf_X6_37 rfl dX6_run_42 rfl ?_
      obtain ⟨v2, c2, h⟩ := Option.bind_eq_some_iff.mp h
      refine AW.callV (As := []) (rest := []) (rv := (some (.int (bz v2.1)))) (M' := v2.2) (pc' := 48) X (ok_X5_readAct (rX5 h0) c2) yv_X5_readAct (rX5 h0).1 (rX5 h0).2.1 (cT (rX5 h0) dA ad _) rfl rfl ml_X6_108 ⟨by decide, by decide, by decide, by decide⟩ rfl (Nat.le_of_ble_eq_true rfl) rfl rfl dX6_run_45 rfl ?_
      refine AW.if_eq (pc' := 51) (tgt := 64) X dX6_run_48 rfl rfl (fun q3 => ?_) (fun q3 => ?_)
      · replace h := itep q3 h
        exact ok_X6_run_64 X hr h0 x1 v2.2 R h
      · replace h := iten q3 h
        refine AW.aload_n (k0 := 0) (pc' := 52) X rfl rfl dX6_run_51 rfl ?_
        obtain ⟨v4, c4, h⟩ := Option.bind_eq_some_iff.mp h
        refine AW.callV (As := []) (rest := []) (rv := (some (.int v4.1))) (M' := v4.2) (pc' := 55) X (ok_X6_carryOutAct h0 c4) yv_X6_carryOutAct (h0).1.1 (h0).1.2.1 (cX h0 dA ad _) rfl rfl ml_X6_112 ⟨by decide, by decide, by decide, by decide⟩ rfl (Nat.le_of_ble_eq_true rfl) rfl rfl dX6_run_52 rfl ?_
        refine AW.if_lt (pc' := 58) (tgt := 64) X dX6_run_55 rfl rfl (fun q5 => ?_) (fun q5 => ?_)
        · replace h := itep q5 h
          exact ok_X6_run_64 X hr h0 x1 v4.2 R h
        · replace h := iten q5 h
          refine AW.iinc (k0 := 1) (v := (x1 + 1)) (y := 1) (ls' := [(1, .int (x1 + 1)), (0, .ref a0)]) (pc' := 61) X rfl rfl rfl (by decide) rfl dX6_run_58 rfl ?_
          refine AW.goto (pc' := 35) X dX6_run_61 rfl ?_
          refine AW.sub (ls' := [(0, .ref a0), (1, .int (x1 + 1))]) [1, 0] rfl ?_
          exact ih (x1 + 1) v4.2 R h
set_option maxHeartbeats 4000000 in
set_option maxRecDepth 100000 in
theorem ok_X6_run {lo n : Nat} {a0 : Nat} {M : MM} {R : (Int32 × MM)} (h0 : tSS lo n a0) (h : f_X6_run a0 M = some R) : MC yX6_run cX6_run 2 (some .int) 6 144 lo n [.ref a0] M (some (.int R.1)) R.2 := by
  refine MC.of (ls0 := [(0, .ref a0)]) (by decide) rfl (fun _ => Nat.le_of_ble_eq_true rfl) (fun p l e s m args below meth c D dA ad A X hr => ?_)
  replace X : CX p s m args meth c cX6_run 2 RX6 D dA ad lo n A := X
  unfold f_X6_run at h
  refine AW.aload_n (k0 := 0) (pc' := 1) X rfl rfl dX6_run_0 rfl ?_
  refine AW.gX6 (v := .ref 655) (pc' := 4) X h0 5 (by decide) rfl mf_X6_37 rfl dX6_run_1 rfl ?_
  obtain ⟨v1, c1, h⟩ := Option.bind_eq_some_iff.mp h
  refine AW.callV (As := []) (rest := []) (rv := (some (.int v1.1))) (M' := v1.2) (pc' := 7) X (ok_X5_findFault (rX5 h0) c1) yv_X5_findFault (rX5 h0).1 (rX5 h0).2.1 (cT (rX5 h0) dA ad _) rfl rfl ml_X6_102 ⟨by decide, by decide, by decide, by decide⟩ rfl (Nat.le_of_ble_eq_true rfl) rfl rfl dX6_run_4 rfl ?_
  refine AW.bipush (v := (-6)) (pc' := 9) X rfl dX6_run_7 rfl ?_
  refine AW.icmp_eq (pc' := 12) (tgt := 15) X dX6_run_9 rfl rfl (fun q2 => ?_) (fun q2 => ?_)
  · replace h := itep q2 h
    refine AW.aload_n (k0 := 0) (pc' := 16) X rfl rfl dX6_run_15 rfl ?_
    refine AW.gX6 (v := .ref 651) (pc' := 19) X h0 2 (by decide) rfl mf_X6_22 rfl dX6_run_16 rfl ?_
    refine AW.aload_n (k0 := 0) (pc' := 20) X rfl rfl dX6_run_19 rfl ?_
    refine AW.gX6 (v := .ref 0) (pc' := 23) X h0 0 (by decide) rfl mf_X6_10 rfl dX6_run_20 rfl ?_
    obtain ⟨v3, c3, h⟩ := Option.bind_eq_some_iff.mp h
    refine AW.callV (As := [.ref 0]) (rest := []) (rv := none) (M' := v3) (pc' := 26) X (ok_X1_note (rX2 h0) (rX0 h0) c3) yv_X1_note ((rX2 h0)).1.1 ((rX2 h0)).1.2.1 (cH (rX2 h0) dA ad _) rfl rfl ml_X6_41 ⟨by decide, by decide, by decide, by decide⟩ rfl (Nat.le_of_ble_eq_true rfl) rfl rfl dX6_run_23 rfl ?_
    refine AW.aload_n (k0 := 0) (pc' := 27) X rfl rfl dX6_run_26 rfl ?_
    refine AW.gX6 (v := .ref 655) (pc' := 30) X h0 5 (by decide) rfl mf_X6_37 rfl dX6_run_27 rfl ?_
    obtain ⟨v4, c4, h⟩ := Option.bind_eq_some_iff.mp h
    refine AW.callV (As := []) (rest := []) (rv := none) (M' := v4) (pc' := 33) X (ok_X5_rewind (rX5 h0) c4) yv_X5_rewind (rX5 h0).1 (rX5 h0).2.1 (cT (rX5 h0) dA ad _) rfl rfl ml_X6_105 ⟨by decide, by decide, by decide, by decide⟩ rfl (Nat.le_of_ble_eq_true rfl) rfl rfl dX6_run_30 rfl ?_
    refine AW.iconst (v := 0) (pc' := 34) X rfl dX6_run_33 rfl ?_
    refine AW.istore_n (ls' := [(1, .int 0), (0, .ref a0)]) (pc' := 35) X rfl (by decide) rfl dX6_run_34 rfl ?_
    refine AW.sub (ls' := [(0, .ref a0), (1, .int 0)]) [1, 0] rfl ?_
    exact ok_X6_run_35 X hr h0 FU 0 v4 R h
  · replace h := iten q2 h
    refine AW.bipush (v := (-3)) (pc' := 14) X rfl dX6_run_12 rfl ?_
    replace h := Option.some.inj h
    subst h
    exact AW.iret X hr dX6_run_14
set_option maxHeartbeats 4000000 in
set_option maxRecDepth 100000 in
theorem ok_X6_undo {lo n : Nat} {a0 : Nat} {M : MM} {R : (Int32 × MM)} (h0 : tSS lo n a0) (h : f_X6_undo a0 M = some R) : MC yX6_undo cX6_undo 1 (some .int) 5 125 lo n [.ref a0] M (some (.int R.1)) R.2 := by
  refine MC.of (ls0 := [(0, .ref a0)]) (by decide) rfl (fun _ => Nat.le_of_ble_eq_true rfl) (fun p l e s m args below meth c D dA ad A X hr => ?_)
  replace X : CX p s m args meth c cX6_undo 1 RX6 D dA ad lo n A := X
  unfold f_X6_undo at h
  refine AW.aload_n (k0 := 0) (pc' := 1) X rfl rfl dX6_undo_0 rfl ?_
  refine AW.gX6 (v := .ref 651) (pc' := 4) X h0 2 (by decide) rfl mf_X6_22 rfl dX6_undo_1 rfl ?_
  refine AW.aload_n (k0 := 0) (pc' := 5) X rfl rfl dX6_undo_4 rfl ?_
  refine AW.gX6 (v := .ref 0) (pc' := 8) X h0 0 (by decide) rfl mf_X6_10 rfl dX6_undo_5 rfl ?_
  obtain ⟨v1, c1, h⟩ := Option.bind_eq_some_iff.mp h
  refine AW.callV (As := [.ref 0]) (rest := []) (rv := (some (.int v1.1))) (M' := v1.2) (pc' := 11) X (ok_X1_takeBack (rX2 h0) (rX0 h0) c1) yv_X1_takeBack ((rX2 h0)).1.1 ((rX2 h0)).1.2.1 (cH (rX2 h0) dA ad _) rfl rfl ml_X6_124 ⟨by decide, by decide, by decide, by decide⟩ rfl (Nat.le_of_ble_eq_true rfl) rfl rfl dX6_undo_8 rfl ?_
  replace h := Option.some.inj h
  subst h
  exact AW.iret X hr dX6_undo_11
set_option maxHeartbeats 4000000 in
set_option maxRecDepth 100000 in
theorem ok_X6_isSlot {lo n : Nat} {x0 : Int32} {M : MM} {R : Bool}  (h : f_X6_isSlot x0 M = some R) : MC yX6_isSlot cX6_isSlot 1 (some .boolean) 1 22 lo n [.int x0] M (some (.int (bz R))) M := by
  refine MC.of (ls0 := [(0, .int x0)]) (by decide) rfl (fun _ => Nat.le_of_ble_eq_true rfl) (fun p l e s m args below meth c D dA ad A X hr => ?_)
  replace X : CX p s m args meth c cX6_isSlot 1 RX6 D dA ad lo n A := X
  unfold f_X6_isSlot at h
  refine AW.iload_n (k0 := 0) (pc' := 1) X rfl rfl dX6_isSlot_0 rfl ?_
  refine AW.iconst (v := 0) (pc' := 2) X rfl dX6_isSlot_1 rfl ?_
  refine AW.iconst (v := 1) (pc' := 3) X rfl dX6_isSlot_2 rfl ?_
  obtain ⟨v1, c1, h⟩ := Option.bind_eq_some_iff.mp h
  refine AW.callS (As := [.int x0, .int 0, .int 1]) (rest := []) (rv := (some (.int (bz v1)))) (M' := M) (pc' := 6) X (ok_X6_isWithin c1) yv_X6_isWithin ml_X6_137 ⟨by decide, by decide, by decide, by decide⟩ rfl (Nat.le_of_ble_eq_true rfl) rfl rfl dX6_isSlot_3 rfl ?_
  replace h := Option.some.inj h
  subst h
  exact AW.zret (b := v1) X hr dX6_isSlot_6
set_option maxHeartbeats 4000000 in
set_option maxRecDepth 100000 in
theorem ok_X6_save {lo n : Nat} {a0 : Nat} {x1 : Int32} {M : MM} {R : (Int32 × MM)} (h0 : tSS lo n a0) (h : f_X6_save a0 x1 M = some R) : MC yX6_save cX6_save 2 (some .int) 4 104 lo n [.ref a0, .int x1] M (some (.int R.1)) R.2 := by
  refine MC.of (ls0 := [(0, .ref a0), (1, .int x1)]) (by decide) rfl (fun _ => Nat.le_of_ble_eq_true rfl) (fun p l e s m args below meth c D dA ad A X hr => ?_)
  replace X : CX p s m args meth c cX6_save 2 RX6 D dA ad lo n A := X
  unfold f_X6_save at h
  refine AW.iload_n (k0 := 1) (pc' := 1) X rfl rfl dX6_save_0 rfl ?_
  obtain ⟨v1, c1, h⟩ := Option.bind_eq_some_iff.mp h
  refine AW.callS (As := [.int x1]) (rest := []) (rv := (some (.int (bz v1)))) (M' := M) (pc' := 4) X (ok_X6_isSlot c1) yv_X6_isSlot ml_X6_128 ⟨by decide, by decide, by decide, by decide⟩ rfl (Nat.le_of_ble_eq_true rfl) rfl rfl dX6_save_1 rfl ?_
  refine AW.if_ne (pc' := 7) (tgt := 9) X dX6_save_4 rfl rfl (fun q2 => ?_) (fun q2 => ?_)
  · replace h := iten q2 h
    refine AW.aload_n (k0 := 0) (pc' := 10) X rfl rfl dX6_save_9 rfl ?_
    refine AW.gX6 (v := .ref 653) (pc' := 13) X h0 3 (by decide) rfl mf_X6_26 rfl dX6_save_10 rfl ?_
    refine AW.iload_n (k0 := 1) (pc' := 14) X rfl rfl dX6_save_13 rfl ?_
    obtain ⟨g3, h⟩ := gd_some h
    refine AW.aldS (pc' := 15) X (rX3 h0) (inb_vp g3) dX6_save_14 rfl ?_
    refine AW.aload_n (k0 := 0) (pc' := 16) X rfl rfl dX6_save_15 rfl ?_
    refine AW.gX6 (v := .ref 0) (pc' := 19) X h0 0 (by decide) rfl mf_X6_10 rfl dX6_save_16 rfl ?_
    obtain ⟨v4, c4, h⟩ := Option.bind_eq_some_iff.mp h
    refine AW.callV (As := [.ref 0]) (rest := []) (rv := none) (M' := v4) (pc' := 22) X (ok_X4_copyFrom (rSA (rX3 h0) (inb_lt g3)) (rX0 h0) c4) yv_X4_copyFrom (rSA (rX3 h0) (inb_lt g3)).1 (rSA (rX3 h0) (inb_lt g3)).2.1 (cS (rSA (rX3 h0) (inb_lt g3)) dA ad _) rfl rfl ml_X6_131 ⟨by decide, by decide, by decide, by decide⟩ rfl (Nat.le_of_ble_eq_true rfl) rfl rfl dX6_save_19 rfl ?_
    refine AW.aload_n (k0 := 0) (pc' := 23) X rfl rfl dX6_save_22 rfl ?_
    refine AW.gX6 (v := .ref 654) (pc' := 26) X h0 4 (by decide) rfl mf_X6_30 rfl dX6_save_23 rfl ?_
    refine AW.iload_n (k0 := 1) (pc' := 27) X rfl rfl dX6_save_26 rfl ?_
    refine AW.iconst (v := 1) (pc' := 28) X rfl dX6_save_27 rfl ?_
    obtain ⟨g5, h⟩ := gd_some h
    refine AW.zast (b := true) (pc' := 29) X (rX4 h0) (inb_vp g5) dX6_save_28 rfl ?_
    refine AW.aload_n (k0 := 0) (pc' := 30) X rfl rfl dX6_save_29 rfl ?_
    refine AW.gX6 (v := .ref 0) (pc' := 33) X h0 0 (by decide) rfl mf_X6_10 rfl dX6_save_30 rfl ?_
    refine AW.gX4 (v := .int ((ms v4 654 (ix x1) (bz true)) 0 8)) (pc' := 36) X (rX0 h0) 8 (by decide) rfl mf_X6_134 rfl dX6_save_33 rfl ?_
    replace h := Option.some.inj h
    subst h
    exact AW.iret X hr dX6_save_36
  · replace h := itep q2 h
    refine AW.iconst (v := (-1)) (pc' := 8) X rfl dX6_save_7 rfl ?_
    replace h := Option.some.inj h
    subst h
    exact AW.iret X hr dX6_save_8
set_option maxHeartbeats 4000000 in
set_option maxRecDepth 100000 in
theorem ok_X6_restore {lo n : Nat} {a0 : Nat} {x1 : Int32} {M : MM} {R : (Int32 × MM)} (h0 : tSS lo n a0) (h : f_X6_restore a0 x1 M = some R) : MC yX6_restore cX6_restore 2 (some .int) 5 125 lo n [.ref a0, .int x1] M (some (.int R.1)) R.2 := by
  refine MC.of (ls0 := [(0, .ref a0), (1, .int x1)]) (by decide) rfl (fun _ => Nat.le_of_ble_eq_true rfl) (fun p l e s m args below meth c D dA ad A X hr => ?_)
  replace X : CX p s m args meth c cX6_restore 2 RX6 D dA ad lo n A := X
  unfold f_X6_restore at h
  refine AW.iload_n (k0 := 1) (pc' := 1) X rfl rfl dX6_restore_0 rfl ?_
  obtain ⟨v1, c1, h⟩ := Option.bind_eq_some_iff.mp h
  refine AW.callS (As := [.int x1]) (rest := []) (rv := (some (.int (bz v1)))) (M' := M) (pc' := 4) X (ok_X6_isSlot c1) yv_X6_isSlot ml_X6_128 ⟨by decide, by decide, by decide, by decide⟩ rfl (Nat.le_of_ble_eq_true rfl) rfl rfl dX6_restore_1 rfl ?_
  refine AW.if_ne (pc' := 7) (tgt := 9) X dX6_restore_4 rfl rfl (fun q2 => ?_) (fun q2 => ?_)
  · replace h := iten q2 h
    refine AW.aload_n (k0 := 0) (pc' := 10) X rfl rfl dX6_restore_9 rfl ?_
    refine AW.gX6 (v := .ref 654) (pc' := 13) X h0 4 (by decide) rfl mf_X6_30 rfl dX6_restore_10 rfl ?_
    refine AW.iload_n (k0 := 1) (pc' := 14) X rfl rfl dX6_restore_13 rfl ?_
    obtain ⟨g3, h⟩ := gd_some h
    refine AW.zald (pc' := 15) X (rX4 h0) (inb_vp g3) dX6_restore_14 rfl ?_
    refine AW.if_ne (pc' := 18) (tgt := 21) X dX6_restore_15 rfl rfl (fun q4 => ?_) (fun q4 => ?_)
    · replace h := iten q4 h
      refine AW.aload_n (k0 := 0) (pc' := 22) X rfl rfl dX6_restore_21 rfl ?_
      refine AW.gX6 (v := .ref 651) (pc' := 25) X h0 2 (by decide) rfl mf_X6_22 rfl dX6_restore_22 rfl ?_
      refine AW.aload_n (k0 := 0) (pc' := 26) X rfl rfl dX6_restore_25 rfl ?_
      refine AW.gX6 (v := .ref 0) (pc' := 29) X h0 0 (by decide) rfl mf_X6_10 rfl dX6_restore_26 rfl ?_
      obtain ⟨v5, c5, h⟩ := Option.bind_eq_some_iff.mp h
      refine AW.callV (As := [.ref 0]) (rest := []) (rv := none) (M' := v5) (pc' := 32) X (ok_X1_note (rX2 h0) (rX0 h0) c5) yv_X1_note ((rX2 h0)).1.1 ((rX2 h0)).1.2.1 (cH (rX2 h0) dA ad _) rfl rfl ml_X6_41 ⟨by decide, by decide, by decide, by decide⟩ rfl (Nat.le_of_ble_eq_true rfl) rfl rfl dX6_restore_29 rfl ?_
      refine AW.aload_n (k0 := 0) (pc' := 33) X rfl rfl dX6_restore_32 rfl ?_
      refine AW.gX6 (v := .ref 0) (pc' := 36) X h0 0 (by decide) rfl mf_X6_10 rfl dX6_restore_33 rfl ?_
      refine AW.aload_n (k0 := 0) (pc' := 37) X rfl rfl dX6_restore_36 rfl ?_
      refine AW.gX6 (v := .ref 653) (pc' := 40) X h0 3 (by decide) rfl mf_X6_26 rfl dX6_restore_37 rfl ?_
      refine AW.iload_n (k0 := 1) (pc' := 41) X rfl rfl dX6_restore_40 rfl ?_
      obtain ⟨g6, h⟩ := gd_some h
      refine AW.aldS (pc' := 42) X (rX3 h0) (inb_vp g6) dX6_restore_41 rfl ?_
      obtain ⟨v7, c7, h⟩ := Option.bind_eq_some_iff.mp h
      refine AW.callV (As := [.ref (if 653 = 652 then 260 + 65 * (ix x1) else 130 + 65 * (ix x1))]) (rest := []) (rv := none) (M' := v7) (pc' := 45) X (ok_X4_copyFrom (rX0 h0) (rSA (rX3 h0) (inb_lt g6)) c7) yv_X4_copyFrom (rX0 h0).1 (rX0 h0).2.1 (cS (rX0 h0) dA ad _) rfl rfl ml_X6_131 ⟨by decide, by decide, by decide, by decide⟩ rfl (Nat.le_of_ble_eq_true rfl) rfl rfl dX6_restore_42 rfl ?_
      refine AW.aload_n (k0 := 0) (pc' := 46) X rfl rfl dX6_restore_45 rfl ?_
      refine AW.aload_n (k0 := 0) (pc' := 47) X rfl rfl dX6_restore_46 rfl ?_
      refine AW.gX6 (v := .ref 0) (pc' := 50) X h0 0 (by decide) rfl mf_X6_10 rfl dX6_restore_47 rfl ?_
      refine AW.gX4 (v := .int (v7 0 8)) (pc' := 53) X (rX0 h0) 8 (by decide) rfl mf_X6_134 rfl dX6_restore_50 rfl ?_
      obtain ⟨v8, c8, h⟩ := Option.bind_eq_some_iff.mp h
      refine AW.callV (As := [.int (v7 0 8)]) (rest := []) (rv := (some (.int v8.1))) (M' := v8.2) (pc' := 56) X (ok_X6_recorded h0 c8) yv_X6_recorded (h0).1.1 (h0).1.2.1 (cX h0 dA ad _) rfl rfl ml_X6_49 ⟨by decide, by decide, by decide, by decide⟩ rfl (Nat.le_of_ble_eq_true rfl) rfl rfl dX6_restore_53 rfl ?_
      replace h := Option.some.inj h
      subst h
      exact AW.iret X hr dX6_restore_56
    · replace h := itep q4 h
      refine AW.bipush (v := (-3)) (pc' := 20) X rfl dX6_restore_18 rfl ?_
      replace h := Option.some.inj h
      subst h
      exact AW.iret X hr dX6_restore_20
  · replace h := itep q2 h
    refine AW.iconst (v := (-1)) (pc' := 8) X rfl dX6_restore_7 rfl ?_
    replace h := Option.some.inj h
    subst h
    exact AW.iret X hr dX6_restore_8
set_option maxHeartbeats 4000000 in
set_option maxRecDepth 100000 in
theorem ok_X6_lookAtLine_18 {a0 : Nat} {a1 : Nat} {L1 : Nat} {M : MM} (X : CX p s m args meth c cX6_lookAtLine 3 RX6 D dA ad lo n A) (hr : meth.sig.returnType = (some .int)) (h0 : tSS lo n a0) (h1 : tIA lo n L1 a1) : ∀ (s0 : Int32) (R : Int32), f_X6_lookAtLine_18 a0 a1 L1 M s0 = some R → AR p l e 2 43 s m args below meth c D dA ad lo n 3 A (some (.int R)) M 18 [] [.int s0] M := by
  intro s0 R h
  unfold f_X6_lookAtLine_18 at h
  replace h := Option.some.inj h
  subst h
  exact AW.iret X hr dX6_lookAtLine_18
set_option maxHeartbeats 4000000 in
set_option maxRecDepth 100000 in
theorem ok_X6_lookAtLine {lo n : Nat} {a0 : Nat} {a1 : Nat} {L1 : Nat} {x2 : Int32} {M : MM} {R : Int32} (h0 : tSS lo n a0) (h1 : tIA lo n L1 a1) (h : f_X6_lookAtLine a0 a1 L1 x2 M = some R) : MC yX6_lookAtLine cX6_lookAtLine 3 (some .int) 2 43 lo n [.ref a0, .ref a1, .int x2] M (some (.int R)) M := by
  refine MC.of (ls0 := [(0, .ref a0), (1, .ref a1), (2, .int x2)]) (by decide) rfl (fun _ => Nat.le_of_ble_eq_true rfl) (fun p l e s m args below meth c D dA ad A X hr => ?_)
  replace X : CX p s m args meth c cX6_lookAtLine 3 RX6 D dA ad lo n A := X
  unfold f_X6_lookAtLine at h
  refine AW.aload_n (k0 := 0) (pc' := 1) X rfl rfl dX6_lookAtLine_0 rfl ?_
  refine AW.gX6 (v := .ref 0) (pc' := 4) X h0 0 (by decide) rfl mf_X6_10 rfl dX6_lookAtLine_1 rfl ?_
  refine AW.iload_n (k0 := 2) (pc' := 5) X rfl rfl dX6_lookAtLine_4 rfl ?_
  obtain ⟨v1, c1, h⟩ := Option.bind_eq_some_iff.mp h
  refine AW.callV (As := [.int x2]) (rest := []) (rv := (some (.int (bz v1)))) (M' := M) (pc' := 8) X (ok_X4_hasLine (rX0 h0) c1) yv_X4_hasLine (rX0 h0).1 (rX0 h0).2.1 (cS (rX0 h0) dA ad _) rfl rfl ml_X6_207 ⟨by decide, by decide, by decide, by decide⟩ rfl (Nat.le_of_ble_eq_true rfl) rfl rfl dX6_lookAtLine_5 rfl ?_
  refine AW.if_eq (pc' := 11) (tgt := 17) X dX6_lookAtLine_8 rfl rfl (fun q2 => ?_) (fun q2 => ?_)
  · replace h := itep q2 h
    refine AW.iconst (v := (-1)) (pc' := 18) X rfl dX6_lookAtLine_17 rfl ?_
    refine AW.sub (ls' := []) [] rfl ?_
    exact ok_X6_lookAtLine_18 X hr h0 h1 (-1) R h
  · replace h := iten q2 h
    refine AW.aload_n (k0 := 1) (pc' := 12) X rfl rfl dX6_lookAtLine_11 rfl ?_
    refine AW.iload_n (k0 := 2) (pc' := 13) X rfl rfl dX6_lookAtLine_12 rfl ?_
    obtain ⟨g3, h⟩ := gd_some h
    refine AW.iald (pc' := 14) X h1 (inb_vp g3) dX6_lookAtLine_13 rfl ?_
    refine AW.goto (pc' := 18) X dX6_lookAtLine_14 rfl ?_
    refine AW.sub (ls' := []) [] rfl ?_
    exact ok_X6_lookAtLine_18 X hr h0 h1 (M a1 (ix x2)) R h
set_option maxHeartbeats 4000000 in
set_option maxRecDepth 100000 in
theorem ok_X6_frequency {lo n : Nat} {a0 : Nat} {x1 : Int32} {M : MM} {R : Int32} (h0 : tSS lo n a0) (h : f_X6_frequency a0 x1 M = some R) : MC yX6_frequency cX6_frequency 2 (some .int) 3 65 lo n [.ref a0, .int x1] M (some (.int R)) M := by
  refine MC.of (ls0 := [(0, .ref a0), (1, .int x1)]) (by decide) rfl (fun _ => Nat.le_of_ble_eq_true rfl) (fun p l e s m args below meth c D dA ad A X hr => ?_)
  replace X : CX p s m args meth c cX6_frequency 2 RX6 D dA ad lo n A := X
  unfold f_X6_frequency at h
  refine AW.aload_n (k0 := 0) (pc' := 1) X rfl rfl dX6_frequency_0 rfl ?_
  refine AW.aload_n (k0 := 0) (pc' := 2) X rfl rfl dX6_frequency_1 rfl ?_
  refine AW.gX6 (v := .ref 0) (pc' := 5) X h0 0 (by decide) rfl mf_X6_10 rfl dX6_frequency_2 rfl ?_
  refine AW.gX4 (v := .ref (0 + 1)) (pc' := 8) X (rX0 h0) 0 (by decide) rfl mf_X6_144 rfl dX6_frequency_5 rfl ?_
  refine AW.gX2 (v := .ref ((0 + 1) + 1)) (pc' := 11) X (rS1 (rX0 h0)) 0 (by decide) rfl mf_X6_148 rfl dX6_frequency_8 rfl ?_
  refine AW.iload_n (k0 := 1) (pc' := 12) X rfl rfl dX6_frequency_11 rfl ?_
  obtain ⟨v1, c1, h⟩ := Option.bind_eq_some_iff.mp h
  refine AW.callV (As := [.ref ((0 + 1) + 1), .int x1]) (rest := []) (rv := (some (.int v1))) (M' := M) (pc' := 15) X (ok_X6_lookAtLine h0 (rL1 (rS1 (rX0 h0))) c1) yv_X6_lookAtLine (h0).1.1 (h0).1.2.1 (cX h0 dA ad _) rfl rfl ml_X6_154 ⟨by decide, by decide, by decide, by decide⟩ rfl (Nat.le_of_ble_eq_true rfl) rfl rfl dX6_frequency_12 rfl ?_
  replace h := Option.some.inj h
  subst h
  exact AW.iret X hr dX6_frequency_15
set_option maxHeartbeats 4000000 in
set_option maxRecDepth 100000 in
theorem ok_X6_target {lo n : Nat} {a0 : Nat} {x1 : Int32} {M : MM} {R : Int32} (h0 : tSS lo n a0) (h : f_X6_target a0 x1 M = some R) : MC yX6_target cX6_target 2 (some .int) 2 48 lo n [.ref a0, .int x1] M (some (.int R)) M := by
  refine MC.of (ls0 := [(0, .ref a0), (1, .int x1)]) (by decide) rfl (fun _ => Nat.le_of_ble_eq_true rfl) (fun p l e s m args below meth c D dA ad A X hr => ?_)
  replace X : CX p s m args meth c cX6_target 2 RX6 D dA ad lo n A := X
  unfold f_X6_target at h
  refine AW.iload_n (k0 := 1) (pc' := 1) X rfl rfl dX6_target_0 rfl ?_
  obtain ⟨v1, c1, h⟩ := Option.bind_eq_some_iff.mp h
  refine AW.callS (As := [.int x1]) (rest := []) (rv := (some (.int (bz v1)))) (M' := M) (pc' := 4) X (ok_X6_isFrequency c1) yv_X6_isFrequency ml_X6_158 ⟨by decide, by decide, by decide, by decide⟩ rfl (Nat.le_of_ble_eq_true rfl) rfl rfl dX6_target_1 rfl ?_
  refine AW.if_ne (pc' := 7) (tgt := 10) X dX6_target_4 rfl rfl (fun q2 => ?_) (fun q2 => ?_)
  · replace h := iten q2 h
    refine AW.aload_n (k0 := 0) (pc' := 11) X rfl rfl dX6_target_10 rfl ?_
    refine AW.gX6 (v := .ref 0) (pc' := 14) X h0 0 (by decide) rfl mf_X6_10 rfl dX6_target_11 rfl ?_
    refine AW.gX4 (v := .ref (0 + 3)) (pc' := 17) X (rX0 h0) 1 (by decide) rfl mf_X6_161 rfl dX6_target_14 rfl ?_
    refine AW.iload_n (k0 := 1) (pc' := 18) X rfl rfl dX6_target_17 rfl ?_
    obtain ⟨v3, c3, h⟩ := Option.bind_eq_some_iff.mp h
    refine AW.callV (As := [.int x1]) (rest := []) (rv := (some (.int v3))) (M' := M) (pc' := 21) X (ok_X3_targetAt (rS3 (rX0 h0)) c3) yv_X3_targetAt (rS3 (rX0 h0)).1 (rS3 (rX0 h0)).2.1 (cP (rS3 (rX0 h0)) dA ad _) rfl rfl ml_X6_165 ⟨by decide, by decide, by decide, by decide⟩ rfl (Nat.le_of_ble_eq_true rfl) rfl rfl dX6_target_18 rfl ?_
    replace h := Option.some.inj h
    subst h
    exact AW.iret X hr dX6_target_21
  · replace h := itep q2 h
    refine AW.bipush (v := (-2)) (pc' := 9) X rfl dX6_target_7 rfl ?_
    replace h := Option.some.inj h
    subst h
    exact AW.iret X hr dX6_target_9
set_option maxHeartbeats 4000000 in
set_option maxRecDepth 100000 in
theorem ok_X6_gain {lo n : Nat} {a0 : Nat} {x1 : Int32} {x2 : Int32} {M : MM} {R : Int32} (h0 : tSS lo n a0) (h : f_X6_gain a0 x1 x2 M = some R) : MC yX6_gain cX6_gain 3 (some .int) 2 43 lo n [.ref a0, .int x1, .int x2] M (some (.int R)) M := by
  refine MC.of (ls0 := [(0, .ref a0), (1, .int x1), (2, .int x2)]) (by decide) rfl (fun _ => Nat.le_of_ble_eq_true rfl) (fun p l e s m args below meth c D dA ad A X hr => ?_)
  replace X : CX p s m args meth c cX6_gain 3 RX6 D dA ad lo n A := X
  unfold f_X6_gain at h
  refine AW.aload_n (k0 := 0) (pc' := 1) X rfl rfl dX6_gain_0 rfl ?_
  refine AW.gX6 (v := .ref 0) (pc' := 4) X h0 0 (by decide) rfl mf_X6_10 rfl dX6_gain_1 rfl ?_
  refine AW.iload_n (k0 := 1) (pc' := 5) X rfl rfl dX6_gain_4 rfl ?_
  obtain ⟨v1, c1, h⟩ := Option.bind_eq_some_iff.mp h
  refine AW.callV (As := [.int x1]) (rest := []) (rv := (some (.int (bz v1)))) (M' := M) (pc' := 8) X (ok_X4_hasChannel (rX0 h0) c1) yv_X4_hasChannel (rX0 h0).1 (rX0 h0).2.1 (cS (rX0 h0) dA ad _) rfl rfl ml_X6_61 ⟨by decide, by decide, by decide, by decide⟩ rfl (Nat.le_of_ble_eq_true rfl) rfl rfl dX6_gain_5 rfl ?_
  refine AW.if_ne (pc' := 11) (tgt := 13) X dX6_gain_8 rfl rfl (fun q2 => ?_) (fun q2 => ?_)
  · replace h := iten q2 h
    refine AW.iload_n (k0 := 2) (pc' := 14) X rfl rfl dX6_gain_13 rfl ?_
    obtain ⟨v3, c3, h⟩ := Option.bind_eq_some_iff.mp h
    refine AW.callS (As := [.int x2]) (rest := []) (rv := (some (.int (bz v3)))) (M' := M) (pc' := 17) X (ok_X6_isFrequency c3) yv_X6_isFrequency ml_X6_158 ⟨by decide, by decide, by decide, by decide⟩ rfl (Nat.le_of_ble_eq_true rfl) rfl rfl dX6_gain_14 rfl ?_
    refine AW.if_ne (pc' := 20) (tgt := 23) X dX6_gain_17 rfl rfl (fun q4 => ?_) (fun q4 => ?_)
    · replace h := iten q4 h
      refine AW.aload_n (k0 := 0) (pc' := 24) X rfl rfl dX6_gain_23 rfl ?_
      refine AW.gX6 (v := .ref 0) (pc' := 27) X h0 0 (by decide) rfl mf_X6_10 rfl dX6_gain_24 rfl ?_
      refine AW.gX4 (v := .ref (0 + 6)) (pc' := 30) X (rX0 h0) 2 (by decide) rfl mf_X6_65 rfl dX6_gain_27 rfl ?_
      refine AW.iload_n (k0 := 1) (pc' := 31) X rfl rfl dX6_gain_30 rfl ?_
      obtain ⟨g5, h⟩ := gd_some h
      refine AW.aldC (pc' := 32) X (rS6 (rX0 h0)) (inb_vp g5) dX6_gain_31 rfl ?_
      refine AW.iload_n (k0 := 2) (pc' := 33) X rfl rfl dX6_gain_32 rfl ?_
      obtain ⟨v6, c6, h⟩ := Option.bind_eq_some_iff.mp h
      refine AW.callV (As := [.int x2]) (rest := []) (rv := (some (.int v6))) (M' := M) (pc' := 36) X (ok_X0_gainAt (rCA (rS6 (rX0 h0)) (inb_lt g5)) c6) yv_X0_gainAt (rCA (rS6 (rX0 h0)) (inb_lt g5)).1 (rCA (rS6 (rX0 h0)) (inb_lt g5)).2.1 (cC (rCA (rS6 (rX0 h0)) (inb_lt g5)) dA ad _) rfl rfl ml_X6_170 ⟨by decide, by decide, by decide, by decide⟩ rfl (Nat.le_of_ble_eq_true rfl) rfl rfl dX6_gain_33 rfl ?_
      replace h := Option.some.inj h
      subst h
      exact AW.iret X hr dX6_gain_36
    · replace h := itep q4 h
      refine AW.bipush (v := (-2)) (pc' := 22) X rfl dX6_gain_20 rfl ?_
      replace h := Option.some.inj h
      subst h
      exact AW.iret X hr dX6_gain_22
  · replace h := itep q2 h
    refine AW.iconst (v := (-1)) (pc' := 12) X rfl dX6_gain_11 rfl ?_
    replace h := Option.some.inj h
    subst h
    exact AW.iret X hr dX6_gain_12
set_option maxHeartbeats 4000000 in
set_option maxRecDepth 100000 in
theorem ok_X6_limit {lo n : Nat} {a0 : Nat} {x1 : Int32} {x2 : Int32} {M : MM} {R : Int32} (h0 : tSS lo n a0) (h : f_X6_limit a0 x1 x2 M = some R) : MC yX6_limit cX6_limit 3 (some .int) 2 43 lo n [.ref a0, .int x1, .int x2] M (some (.int R)) M := by
  refine MC.of (ls0 := [(0, .ref a0), (1, .int x1), (2, .int x2)]) (by decide) rfl (fun _ => Nat.le_of_ble_eq_true rfl) (fun p l e s m args below meth c D dA ad A X hr => ?_)
  replace X : CX p s m args meth c cX6_limit 3 RX6 D dA ad lo n A := X
  unfold f_X6_limit at h
  refine AW.aload_n (k0 := 0) (pc' := 1) X rfl rfl dX6_limit_0 rfl ?_
  refine AW.gX6 (v := .ref 0) (pc' := 4) X h0 0 (by decide) rfl mf_X6_10 rfl dX6_limit_1 rfl ?_
  refine AW.iload_n (k0 := 1) (pc' := 5) X rfl rfl dX6_limit_4 rfl ?_
  obtain ⟨v1, c1, h⟩ := Option.bind_eq_some_iff.mp h
  refine AW.callV (As := [.int x1]) (rest := []) (rv := (some (.int (bz v1)))) (M' := M) (pc' := 8) X (ok_X4_hasChannel (rX0 h0) c1) yv_X4_hasChannel (rX0 h0).1 (rX0 h0).2.1 (cS (rX0 h0) dA ad _) rfl rfl ml_X6_61 ⟨by decide, by decide, by decide, by decide⟩ rfl (Nat.le_of_ble_eq_true rfl) rfl rfl dX6_limit_5 rfl ?_
  refine AW.if_ne (pc' := 11) (tgt := 13) X dX6_limit_8 rfl rfl (fun q2 => ?_) (fun q2 => ?_)
  · replace h := iten q2 h
    refine AW.iload_n (k0 := 2) (pc' := 14) X rfl rfl dX6_limit_13 rfl ?_
    obtain ⟨v3, c3, h⟩ := Option.bind_eq_some_iff.mp h
    refine AW.callS (As := [.int x2]) (rest := []) (rv := (some (.int (bz v3)))) (M' := M) (pc' := 17) X (ok_X6_isFrequency c3) yv_X6_isFrequency ml_X6_158 ⟨by decide, by decide, by decide, by decide⟩ rfl (Nat.le_of_ble_eq_true rfl) rfl rfl dX6_limit_14 rfl ?_
    refine AW.if_ne (pc' := 20) (tgt := 23) X dX6_limit_17 rfl rfl (fun q4 => ?_) (fun q4 => ?_)
    · replace h := iten q4 h
      refine AW.aload_n (k0 := 0) (pc' := 24) X rfl rfl dX6_limit_23 rfl ?_
      refine AW.gX6 (v := .ref 0) (pc' := 27) X h0 0 (by decide) rfl mf_X6_10 rfl dX6_limit_24 rfl ?_
      refine AW.gX4 (v := .ref (0 + 6)) (pc' := 30) X (rX0 h0) 2 (by decide) rfl mf_X6_65 rfl dX6_limit_27 rfl ?_
      refine AW.iload_n (k0 := 1) (pc' := 31) X rfl rfl dX6_limit_30 rfl ?_
      obtain ⟨g5, h⟩ := gd_some h
      refine AW.aldC (pc' := 32) X (rS6 (rX0 h0)) (inb_vp g5) dX6_limit_31 rfl ?_
      refine AW.iload_n (k0 := 2) (pc' := 33) X rfl rfl dX6_limit_32 rfl ?_
      obtain ⟨v6, c6, h⟩ := Option.bind_eq_some_iff.mp h
      refine AW.callV (As := [.int x2]) (rest := []) (rv := (some (.int v6))) (M' := M) (pc' := 36) X (ok_X0_limitAt (rCA (rS6 (rX0 h0)) (inb_lt g5)) c6) yv_X0_limitAt (rCA (rS6 (rX0 h0)) (inb_lt g5)).1 (rCA (rS6 (rX0 h0)) (inb_lt g5)).2.1 (cC (rCA (rS6 (rX0 h0)) (inb_lt g5)) dA ad _) rfl rfl ml_X6_173 ⟨by decide, by decide, by decide, by decide⟩ rfl (Nat.le_of_ble_eq_true rfl) rfl rfl dX6_limit_33 rfl ?_
      replace h := Option.some.inj h
      subst h
      exact AW.iret X hr dX6_limit_36
    · replace h := itep q4 h
      refine AW.bipush (v := (-2)) (pc' := 22) X rfl dX6_limit_20 rfl ?_
      replace h := Option.some.inj h
      subst h
      exact AW.iret X hr dX6_limit_22
  · replace h := itep q2 h
    refine AW.iconst (v := (-1)) (pc' := 12) X rfl dX6_limit_11 rfl ?_
    replace h := Option.some.inj h
    subst h
    exact AW.iret X hr dX6_limit_12
set_option maxHeartbeats 4000000 in
set_option maxRecDepth 100000 in
theorem ok_X6_channel {lo n : Nat} {a0 : Nat} {x1 : Int32} {x2 : Int32} {M : MM} {R : Int32} (h0 : tSS lo n a0) (h : f_X6_channel a0 x1 x2 M = some R) : MC yX6_channel cX6_channel 3 (some .int) 2 43 lo n [.ref a0, .int x1, .int x2] M (some (.int R)) M := by
  refine MC.of (ls0 := [(0, .ref a0), (1, .int x1), (2, .int x2)]) (by decide) rfl (fun _ => Nat.le_of_ble_eq_true rfl) (fun p l e s m args below meth c D dA ad A X hr => ?_)
  replace X : CX p s m args meth c cX6_channel 3 RX6 D dA ad lo n A := X
  unfold f_X6_channel at h
  refine AW.aload_n (k0 := 0) (pc' := 1) X rfl rfl dX6_channel_0 rfl ?_
  refine AW.gX6 (v := .ref 0) (pc' := 4) X h0 0 (by decide) rfl mf_X6_10 rfl dX6_channel_1 rfl ?_
  refine AW.iload_n (k0 := 1) (pc' := 5) X rfl rfl dX6_channel_4 rfl ?_
  obtain ⟨v1, c1, h⟩ := Option.bind_eq_some_iff.mp h
  refine AW.callV (As := [.int x1]) (rest := []) (rv := (some (.int (bz v1)))) (M' := M) (pc' := 8) X (ok_X4_hasChannel (rX0 h0) c1) yv_X4_hasChannel (rX0 h0).1 (rX0 h0).2.1 (cS (rX0 h0) dA ad _) rfl rfl ml_X6_61 ⟨by decide, by decide, by decide, by decide⟩ rfl (Nat.le_of_ble_eq_true rfl) rfl rfl dX6_channel_5 rfl ?_
  refine AW.if_ne (pc' := 11) (tgt := 13) X dX6_channel_8 rfl rfl (fun q2 => ?_) (fun q2 => ?_)
  · replace h := iten q2 h
    refine AW.iload_n (k0 := 2) (pc' := 14) X rfl rfl dX6_channel_13 rfl ?_
    refine AW.iconst (v := 0) (pc' := 15) X rfl dX6_channel_14 rfl ?_
    refine AW.bipush (v := 7) (pc' := 17) X rfl dX6_channel_15 rfl ?_
    obtain ⟨v3, c3, h⟩ := Option.bind_eq_some_iff.mp h
    refine AW.callS (As := [.int x2, .int 0, .int 7]) (rest := []) (rv := (some (.int (bz v3)))) (M' := M) (pc' := 20) X (ok_X6_isWithin c3) yv_X6_isWithin ml_X6_137 ⟨by decide, by decide, by decide, by decide⟩ rfl (Nat.le_of_ble_eq_true rfl) rfl rfl dX6_channel_17 rfl ?_
    refine AW.if_ne (pc' := 23) (tgt := 26) X dX6_channel_20 rfl rfl (fun q4 => ?_) (fun q4 => ?_)
    · replace h := iten q4 h
      refine AW.aload_n (k0 := 0) (pc' := 27) X rfl rfl dX6_channel_26 rfl ?_
      refine AW.gX6 (v := .ref 0) (pc' := 30) X h0 0 (by decide) rfl mf_X6_10 rfl dX6_channel_27 rfl ?_
      refine AW.gX4 (v := .ref (0 + 6)) (pc' := 33) X (rX0 h0) 2 (by decide) rfl mf_X6_65 rfl dX6_channel_30 rfl ?_
      refine AW.iload_n (k0 := 1) (pc' := 34) X rfl rfl dX6_channel_33 rfl ?_
      obtain ⟨g5, h⟩ := gd_some h
      refine AW.aldC (pc' := 35) X (rS6 (rX0 h0)) (inb_vp g5) dX6_channel_34 rfl ?_
      refine AW.iload_n (k0 := 2) (pc' := 36) X rfl rfl dX6_channel_35 rfl ?_
      obtain ⟨v6, c6, h⟩ := Option.bind_eq_some_iff.mp h
      refine AW.callV (As := [.int x2]) (rest := []) (rv := (some (.int v6))) (M' := M) (pc' := 39) X (ok_X0_propertyOf (rCA (rS6 (rX0 h0)) (inb_lt g5)) c6) yv_X0_propertyOf (rCA (rS6 (rX0 h0)) (inb_lt g5)).1 (rCA (rS6 (rX0 h0)) (inb_lt g5)).2.1 (cC (rCA (rS6 (rX0 h0)) (inb_lt g5)) dA ad _) rfl rfl ml_X6_176 ⟨by decide, by decide, by decide, by decide⟩ rfl (Nat.le_of_ble_eq_true rfl) rfl rfl dX6_channel_36 rfl ?_
      replace h := Option.some.inj h
      subst h
      exact AW.iret X hr dX6_channel_39
    · replace h := itep q4 h
      refine AW.bipush (v := (-2)) (pc' := 25) X rfl dX6_channel_23 rfl ?_
      replace h := Option.some.inj h
      subst h
      exact AW.iret X hr dX6_channel_25
  · replace h := itep q2 h
    refine AW.iconst (v := (-1)) (pc' := 12) X rfl dX6_channel_11 rfl ?_
    replace h := Option.some.inj h
    subst h
    exact AW.iret X hr dX6_channel_12
set_option maxHeartbeats 4000000 in
set_option maxRecDepth 100000 in
theorem ok_X6_level {lo n : Nat} {a0 : Nat} {x1 : Int32} {x2 : Int32} {M : MM} {R : Int32} (h0 : tSS lo n a0) (h : f_X6_level a0 x1 x2 M = some R) : MC yX6_level cX6_level 3 (some .int) 3 65 lo n [.ref a0, .int x1, .int x2] M (some (.int R)) M := by
  refine MC.of (ls0 := [(0, .ref a0), (1, .int x1), (2, .int x2)]) (by decide) rfl (fun _ => Nat.le_of_ble_eq_true rfl) (fun p l e s m args below meth c D dA ad A X hr => ?_)
  replace X : CX p s m args meth c cX6_level 3 RX6 D dA ad lo n A := X
  unfold f_X6_level at h
  refine AW.aload_n (k0 := 0) (pc' := 1) X rfl rfl dX6_level_0 rfl ?_
  refine AW.gX6 (v := .ref 0) (pc' := 4) X h0 0 (by decide) rfl mf_X6_10 rfl dX6_level_1 rfl ?_
  refine AW.iload_n (k0 := 2) (pc' := 5) X rfl rfl dX6_level_4 rfl ?_
  obtain ⟨v1, c1, h⟩ := Option.bind_eq_some_iff.mp h
  refine AW.callV (As := [.int x2]) (rest := []) (rv := (some (.int (bz v1)))) (M' := M) (pc' := 8) X (ok_X4_hasChannel (rX0 h0) c1) yv_X4_hasChannel (rX0 h0).1 (rX0 h0).2.1 (cS (rX0 h0) dA ad _) rfl rfl ml_X6_61 ⟨by decide, by decide, by decide, by decide⟩ rfl (Nat.le_of_ble_eq_true rfl) rfl rfl dX6_level_5 rfl ?_
  refine AW.if_ne (pc' := 11) (tgt := 13) X dX6_level_8 rfl rfl (fun q2 => ?_) (fun q2 => ?_)
  · replace h := iten q2 h
    refine AW.aload_n (k0 := 0) (pc' := 14) X rfl rfl dX6_level_13 rfl ?_
    refine AW.aload_n (k0 := 0) (pc' := 15) X rfl rfl dX6_level_14 rfl ?_
    refine AW.gX6 (v := .ref 0) (pc' := 18) X h0 0 (by decide) rfl mf_X6_10 rfl dX6_level_15 rfl ?_
    refine AW.gX4 (v := .ref (0 + 6)) (pc' := 21) X (rX0 h0) 2 (by decide) rfl mf_X6_65 rfl dX6_level_18 rfl ?_
    refine AW.iload_n (k0 := 2) (pc' := 22) X rfl rfl dX6_level_21 rfl ?_
    obtain ⟨g3, h⟩ := gd_some h
    refine AW.aldC (pc' := 23) X (rS6 (rX0 h0)) (inb_vp g3) dX6_level_22 rfl ?_
    refine AW.gX0 (v := .ref (((0 + 6) + 5 + 9 * (ix x2)) + 7)) (pc' := 26) X (rCA (rS6 (rX0 h0)) (inb_lt g3)) 10 (by decide) rfl mf_X6_179 rfl dX6_level_23 rfl ?_
    refine AW.iload_n (k0 := 1) (pc' := 27) X rfl rfl dX6_level_26 rfl ?_
    obtain ⟨v4, c4, h⟩ := Option.bind_eq_some_iff.mp h
    refine AW.callV (As := [.ref (((0 + 6) + 5 + 9 * (ix x2)) + 7), .int x1]) (rest := []) (rv := (some (.int v4))) (M' := M) (pc' := 30) X (ok_X6_lookAtLine h0 (rC7 (rCA (rS6 (rX0 h0)) (inb_lt g3))) c4) yv_X6_lookAtLine (h0).1.1 (h0).1.2.1 (cX h0 dA ad _) rfl rfl ml_X6_154 ⟨by decide, by decide, by decide, by decide⟩ rfl (Nat.le_of_ble_eq_true rfl) rfl rfl dX6_level_27 rfl ?_
    replace h := Option.some.inj h
    subst h
    exact AW.iret X hr dX6_level_30
  · replace h := itep q2 h
    refine AW.iconst (v := (-1)) (pc' := 12) X rfl dX6_level_11 rfl ?_
    replace h := Option.some.inj h
    subst h
    exact AW.iret X hr dX6_level_12
set_option maxHeartbeats 4000000 in
set_option maxRecDepth 100000 in
theorem ok_X6_averaged {lo n : Nat} {a0 : Nat} {x1 : Int32} {x2 : Int32} {M : MM} {R : Int32} (h0 : tSS lo n a0) (h : f_X6_averaged a0 x1 x2 M = some R) : MC yX6_averaged cX6_averaged 3 (some .int) 3 65 lo n [.ref a0, .int x1, .int x2] M (some (.int R)) M := by
  refine MC.of (ls0 := [(0, .ref a0), (1, .int x1), (2, .int x2)]) (by decide) rfl (fun _ => Nat.le_of_ble_eq_true rfl) (fun p l e s m args below meth c D dA ad A X hr => ?_)
  replace X : CX p s m args meth c cX6_averaged 3 RX6 D dA ad lo n A := X
  unfold f_X6_averaged at h
  refine AW.aload_n (k0 := 0) (pc' := 1) X rfl rfl dX6_averaged_0 rfl ?_
  refine AW.gX6 (v := .ref 0) (pc' := 4) X h0 0 (by decide) rfl mf_X6_10 rfl dX6_averaged_1 rfl ?_
  refine AW.iload_n (k0 := 2) (pc' := 5) X rfl rfl dX6_averaged_4 rfl ?_
  obtain ⟨v1, c1, h⟩ := Option.bind_eq_some_iff.mp h
  refine AW.callV (As := [.int x2]) (rest := []) (rv := (some (.int (bz v1)))) (M' := M) (pc' := 8) X (ok_X4_hasChannel (rX0 h0) c1) yv_X4_hasChannel (rX0 h0).1 (rX0 h0).2.1 (cS (rX0 h0) dA ad _) rfl rfl ml_X6_61 ⟨by decide, by decide, by decide, by decide⟩ rfl (Nat.le_of_ble_eq_true rfl) rfl rfl dX6_averaged_5 rfl ?_
  refine AW.if_ne (pc' := 11) (tgt := 13) X dX6_averaged_8 rfl rfl (fun q2 => ?_) (fun q2 => ?_)
  · replace h := iten q2 h
    refine AW.aload_n (k0 := 0) (pc' := 14) X rfl rfl dX6_averaged_13 rfl ?_
    refine AW.aload_n (k0 := 0) (pc' := 15) X rfl rfl dX6_averaged_14 rfl ?_
    refine AW.gX6 (v := .ref 0) (pc' := 18) X h0 0 (by decide) rfl mf_X6_10 rfl dX6_averaged_15 rfl ?_
    refine AW.gX4 (v := .ref (0 + 6)) (pc' := 21) X (rX0 h0) 2 (by decide) rfl mf_X6_65 rfl dX6_averaged_18 rfl ?_
    refine AW.iload_n (k0 := 2) (pc' := 22) X rfl rfl dX6_averaged_21 rfl ?_
    obtain ⟨g3, h⟩ := gd_some h
    refine AW.aldC (pc' := 23) X (rS6 (rX0 h0)) (inb_vp g3) dX6_averaged_22 rfl ?_
    refine AW.gX0 (v := .ref (((0 + 6) + 5 + 9 * (ix x2)) + 8)) (pc' := 26) X (rCA (rS6 (rX0 h0)) (inb_lt g3)) 11 (by decide) rfl mf_X6_182 rfl dX6_averaged_23 rfl ?_
    refine AW.iload_n (k0 := 1) (pc' := 27) X rfl rfl dX6_averaged_26 rfl ?_
    obtain ⟨v4, c4, h⟩ := Option.bind_eq_some_iff.mp h
    refine AW.callV (As := [.ref (((0 + 6) + 5 + 9 * (ix x2)) + 8), .int x1]) (rest := []) (rv := (some (.int v4))) (M' := M) (pc' := 30) X (ok_X6_lookAtLine h0 (rC8 (rCA (rS6 (rX0 h0)) (inb_lt g3))) c4) yv_X6_lookAtLine (h0).1.1 (h0).1.2.1 (cX h0 dA ad _) rfl rfl ml_X6_154 ⟨by decide, by decide, by decide, by decide⟩ rfl (Nat.le_of_ble_eq_true rfl) rfl rfl dX6_averaged_27 rfl ?_
    replace h := Option.some.inj h
    subst h
    exact AW.iret X hr dX6_averaged_30
  · replace h := itep q2 h
    refine AW.iconst (v := (-1)) (pc' := 12) X rfl dX6_averaged_11 rfl ?_
    replace h := Option.some.inj h
    subst h
    exact AW.iret X hr dX6_averaged_12
set_option maxHeartbeats 4000000 in
set_option maxRecDepth 100000 in
theorem ok_X6_controlGain {lo n : Nat} {a0 : Nat} {x1 : Int32} {M : MM} {R : Int32} (h0 : tSS lo n a0) (h : f_X6_controlGain a0 x1 M = some R) : MC yX6_controlGain cX6_controlGain 2 (some .int) 3 65 lo n [.ref a0, .int x1] M (some (.int R)) M := by
  refine MC.of (ls0 := [(0, .ref a0), (1, .int x1)]) (by decide) rfl (fun _ => Nat.le_of_ble_eq_true rfl) (fun p l e s m args below meth c D dA ad A X hr => ?_)
  replace X : CX p s m args meth c cX6_controlGain 2 RX6 D dA ad lo n A := X
  unfold f_X6_controlGain at h
  refine AW.aload_n (k0 := 0) (pc' := 1) X rfl rfl dX6_controlGain_0 rfl ?_
  refine AW.aload_n (k0 := 0) (pc' := 2) X rfl rfl dX6_controlGain_1 rfl ?_
  refine AW.gX6 (v := .ref 0) (pc' := 5) X h0 0 (by decide) rfl mf_X6_10 rfl dX6_controlGain_2 rfl ?_
  refine AW.gX4 (v := .ref (0 + 8)) (pc' := 8) X (rX0 h0) 5 (by decide) rfl mf_X6_185 rfl dX6_controlGain_5 rfl ?_
  refine AW.iload_n (k0 := 1) (pc' := 9) X rfl rfl dX6_controlGain_8 rfl ?_
  obtain ⟨v1, c1, h⟩ := Option.bind_eq_some_iff.mp h
  refine AW.callV (As := [.ref (0 + 8), .int x1]) (rest := []) (rv := (some (.int v1))) (M' := M) (pc' := 12) X (ok_X6_lookAtLine h0 (rS8 (rX0 h0)) c1) yv_X6_lookAtLine (h0).1.1 (h0).1.2.1 (cX h0 dA ad _) rfl rfl ml_X6_154 ⟨by decide, by decide, by decide, by decide⟩ rfl (Nat.le_of_ble_eq_true rfl) rfl rfl dX6_controlGain_9 rfl ?_
  replace h := Option.some.inj h
  subst h
  exact AW.iret X hr dX6_controlGain_12
set_option maxHeartbeats 4000000 in
set_option maxRecDepth 100000 in
theorem ok_X6_driveAt {lo n : Nat} {a0 : Nat} {x1 : Int32} {M : MM} {R : Int32} (h0 : tSS lo n a0) (h : f_X6_driveAt a0 x1 M = some R) : MC yX6_driveAt cX6_driveAt 2 (some .int) 3 65 lo n [.ref a0, .int x1] M (some (.int R)) M := by
  refine MC.of (ls0 := [(0, .ref a0), (1, .int x1)]) (by decide) rfl (fun _ => Nat.le_of_ble_eq_true rfl) (fun p l e s m args below meth c D dA ad A X hr => ?_)
  replace X : CX p s m args meth c cX6_driveAt 2 RX6 D dA ad lo n A := X
  unfold f_X6_driveAt at h
  refine AW.aload_n (k0 := 0) (pc' := 1) X rfl rfl dX6_driveAt_0 rfl ?_
  refine AW.aload_n (k0 := 0) (pc' := 2) X rfl rfl dX6_driveAt_1 rfl ?_
  refine AW.gX6 (v := .ref 0) (pc' := 5) X h0 0 (by decide) rfl mf_X6_10 rfl dX6_driveAt_2 rfl ?_
  refine AW.gX4 (v := .ref (0 + 9)) (pc' := 8) X (rX0 h0) 6 (by decide) rfl mf_X6_188 rfl dX6_driveAt_5 rfl ?_
  refine AW.iload_n (k0 := 1) (pc' := 9) X rfl rfl dX6_driveAt_8 rfl ?_
  obtain ⟨v1, c1, h⟩ := Option.bind_eq_some_iff.mp h
  refine AW.callV (As := [.ref (0 + 9), .int x1]) (rest := []) (rv := (some (.int v1))) (M' := M) (pc' := 12) X (ok_X6_lookAtLine h0 (rS9 (rX0 h0)) c1) yv_X6_lookAtLine (h0).1.1 (h0).1.2.1 (cX h0 dA ad _) rfl rfl ml_X6_154 ⟨by decide, by decide, by decide, by decide⟩ rfl (Nat.le_of_ble_eq_true rfl) rfl rfl dX6_driveAt_9 rfl ?_
  replace h := Option.some.inj h
  subst h
  exact AW.iret X hr dX6_driveAt_12
set_option maxHeartbeats 4000000 in
set_option maxRecDepth 100000 in
theorem ok_X6_notchedBy {lo n : Nat} {a0 : Nat} {x1 : Int32} {M : MM} {R : Int32} (h0 : tSS lo n a0) (h : f_X6_notchedBy a0 x1 M = some R) : MC yX6_notchedBy cX6_notchedBy 2 (some .int) 3 65 lo n [.ref a0, .int x1] M (some (.int R)) M := by
  refine MC.of (ls0 := [(0, .ref a0), (1, .int x1)]) (by decide) rfl (fun _ => Nat.le_of_ble_eq_true rfl) (fun p l e s m args below meth c D dA ad A X hr => ?_)
  replace X : CX p s m args meth c cX6_notchedBy 2 RX6 D dA ad lo n A := X
  unfold f_X6_notchedBy at h
  refine AW.aload_n (k0 := 0) (pc' := 1) X rfl rfl dX6_notchedBy_0 rfl ?_
  refine AW.aload_n (k0 := 0) (pc' := 2) X rfl rfl dX6_notchedBy_1 rfl ?_
  refine AW.gX6 (v := .ref 0) (pc' := 5) X h0 0 (by decide) rfl mf_X6_10 rfl dX6_notchedBy_2 rfl ?_
  refine AW.gX4 (v := .ref (0 + 10)) (pc' := 8) X (rX0 h0) 7 (by decide) rfl mf_X6_191 rfl dX6_notchedBy_5 rfl ?_
  refine AW.iload_n (k0 := 1) (pc' := 9) X rfl rfl dX6_notchedBy_8 rfl ?_
  obtain ⟨v1, c1, h⟩ := Option.bind_eq_some_iff.mp h
  refine AW.callV (As := [.ref (0 + 10), .int x1]) (rest := []) (rv := (some (.int v1))) (M' := M) (pc' := 12) X (ok_X6_lookAtLine h0 (rS10 (rX0 h0)) c1) yv_X6_lookAtLine (h0).1.1 (h0).1.2.1 (cX h0 dA ad _) rfl rfl ml_X6_154 ⟨by decide, by decide, by decide, by decide⟩ rfl (Nat.le_of_ble_eq_true rfl) rfl rfl dX6_notchedBy_9 rfl ?_
  replace h := Option.some.inj h
  subst h
  exact AW.iret X hr dX6_notchedBy_12
set_option maxHeartbeats 4000000 in
set_option maxRecDepth 100000 in
theorem ok_X6_resonance {lo n : Nat} {a0 : Nat} {x1 : Int32} {x2 : Int32} {M : MM} {R : Int32} (h0 : tSS lo n a0) (h : f_X6_resonance a0 x1 x2 M = some R) : MC yX6_resonance cX6_resonance 3 (some .int) 5 115 lo n [.ref a0, .int x1, .int x2] M (some (.int R)) M := by
  refine MC.of (ls0 := [(0, .ref a0), (1, .int x1), (2, .int x2)]) (by decide) rfl (fun _ => Nat.le_of_ble_eq_true rfl) (fun p l e s m args below meth c D dA ad A X hr => ?_)
  replace X : CX p s m args meth c cX6_resonance 3 RX6 D dA ad lo n A := X
  unfold f_X6_resonance at h
  refine AW.aload_n (k0 := 0) (pc' := 1) X rfl rfl dX6_resonance_0 rfl ?_
  refine AW.gX6 (v := .ref 0) (pc' := 4) X h0 0 (by decide) rfl mf_X6_10 rfl dX6_resonance_1 rfl ?_
  refine AW.iload_n (k0 := 1) (pc' := 5) X rfl rfl dX6_resonance_4 rfl ?_
  obtain ⟨v1, c1, h⟩ := Option.bind_eq_some_iff.mp h
  refine AW.callV (As := [.int x1]) (rest := []) (rv := (some (.int (bz v1)))) (M' := M) (pc' := 8) X (ok_X4_hasChannel (rX0 h0) c1) yv_X4_hasChannel (rX0 h0).1 (rX0 h0).2.1 (cS (rX0 h0) dA ad _) rfl rfl ml_X6_61 ⟨by decide, by decide, by decide, by decide⟩ rfl (Nat.le_of_ble_eq_true rfl) rfl rfl dX6_resonance_5 rfl ?_
  refine AW.if_ne (pc' := 11) (tgt := 13) X dX6_resonance_8 rfl rfl (fun q2 => ?_) (fun q2 => ?_)
  · replace h := iten q2 h
    refine AW.iload_n (k0 := 2) (pc' := 14) X rfl rfl dX6_resonance_13 rfl ?_
    refine AW.if_ge (pc' := 17) (tgt := 20) X dX6_resonance_14 rfl rfl (fun q3 => ?_) (fun q3 => ?_)
    · replace h := itep q3 h
      refine AW.aload_n (k0 := 0) (pc' := 21) X rfl rfl dX6_resonance_20 rfl ?_
      refine AW.gX6 (v := .ref 0) (pc' := 24) X h0 0 (by decide) rfl mf_X6_10 rfl dX6_resonance_21 rfl ?_
      refine AW.gX4 (v := .ref (0 + 6)) (pc' := 27) X (rX0 h0) 2 (by decide) rfl mf_X6_65 rfl dX6_resonance_24 rfl ?_
      refine AW.iload_n (k0 := 1) (pc' := 28) X rfl rfl dX6_resonance_27 rfl ?_
      obtain ⟨g4, h⟩ := gd_some h
      refine AW.aldC (pc' := 29) X (rS6 (rX0 h0)) (inb_vp g4) dX6_resonance_28 rfl ?_
      refine AW.iload_n (k0 := 2) (pc' := 30) X rfl rfl dX6_resonance_29 rfl ?_
      refine AW.aload_n (k0 := 0) (pc' := 31) X rfl rfl dX6_resonance_30 rfl ?_
      refine AW.gX6 (v := .ref 0) (pc' := 34) X h0 0 (by decide) rfl mf_X6_10 rfl dX6_resonance_31 rfl ?_
      refine AW.gX4 (v := .ref (0 + 1)) (pc' := 37) X (rX0 h0) 0 (by decide) rfl mf_X6_144 rfl dX6_resonance_34 rfl ?_
      refine AW.gX2 (v := .int (M (0 + 1) 1)) (pc' := 40) X (rS1 (rX0 h0)) 1 (by decide) rfl mf_X6_194 rfl dX6_resonance_37 rfl ?_
      obtain ⟨v5, c5, h⟩ := Option.bind_eq_some_iff.mp h
      refine AW.callV (As := [.int x2, .int (M (0 + 1) 1)]) (rest := []) (rv := (some (.int v5))) (M' := M) (pc' := 43) X (ok_X0_resonanceAt (rCA (rS6 (rX0 h0)) (inb_lt g4)) c5) yv_X0_resonanceAt (rCA (rS6 (rX0 h0)) (inb_lt g4)).1 (rCA (rS6 (rX0 h0)) (inb_lt g4)).2.1 (cC (rCA (rS6 (rX0 h0)) (inb_lt g4)) dA ad _) rfl rfl ml_X6_197 ⟨by decide, by decide, by decide, by decide⟩ rfl (Nat.le_of_ble_eq_true rfl) rfl rfl dX6_resonance_40 rfl ?_
      replace h := Option.some.inj h
      subst h
      exact AW.iret X hr dX6_resonance_43
    · replace h := iten q3 h
      refine AW.bipush (v := (-2)) (pc' := 19) X rfl dX6_resonance_17 rfl ?_
      replace h := Option.some.inj h
      subst h
      exact AW.iret X hr dX6_resonance_19
  · replace h := itep q2 h
    refine AW.iconst (v := (-1)) (pc' := 12) X rfl dX6_resonance_11 rfl ?_
    replace h := Option.some.inj h
    subst h
    exact AW.iret X hr dX6_resonance_12
set_option maxHeartbeats 4000000 in
set_option maxRecDepth 100000 in
theorem ok_X6_total {lo n : Nat} {a0 : Nat} {x1 : Int32} {M : MM} {R : Int32} (h0 : tSS lo n a0) (h : f_X6_total a0 x1 M = some R) : MC yX6_total cX6_total 2 (some .int) 1 22 lo n [.ref a0, .int x1] M (some (.int R)) M := by
  refine MC.of (ls0 := [(0, .ref a0), (1, .int x1)]) (by decide) rfl (fun _ => Nat.le_of_ble_eq_true rfl) (fun p l e s m args below meth c D dA ad A X hr => ?_)
  replace X : CX p s m args meth c cX6_total 2 RX6 D dA ad lo n A := X
  unfold f_X6_total at h
  refine AW.iload_n (k0 := 1) (pc' := 1) X rfl rfl dX6_total_0 rfl ?_
  refine AW.iconst (v := 0) (pc' := 2) X rfl dX6_total_1 rfl ?_
  refine AW.bipush (v := 19) (pc' := 4) X rfl dX6_total_2 rfl ?_
  obtain ⟨v1, c1, h⟩ := Option.bind_eq_some_iff.mp h
  refine AW.callS (As := [.int x1, .int 0, .int 19]) (rest := []) (rv := (some (.int (bz v1)))) (M' := M) (pc' := 7) X (ok_X6_isWithin c1) yv_X6_isWithin ml_X6_137 ⟨by decide, by decide, by decide, by decide⟩ rfl (Nat.le_of_ble_eq_true rfl) rfl rfl dX6_total_4 rfl ?_
  refine AW.if_ne (pc' := 10) (tgt := 13) X dX6_total_7 rfl rfl (fun q2 => ?_) (fun q2 => ?_)
  · replace h := iten q2 h
    refine AW.iload_n (k0 := 1) (pc' := 14) X rfl rfl dX6_total_13 rfl ?_
    refine AW.bipush (v := 14) (pc' := 16) X rfl dX6_total_14 rfl ?_
    refine AW.icmp_lt (pc' := 19) (tgt := 32) X dX6_total_16 rfl rfl (fun q3 => ?_) (fun q3 => ?_)
    · replace h := itep q3 h
      refine AW.iload_n (k0 := 1) (pc' := 33) X rfl rfl dX6_total_32 rfl ?_
      refine AW.bipush (v := 12) (pc' := 35) X rfl dX6_total_33 rfl ?_
      refine AW.icmp_ne (pc' := 38) (tgt := 46) X dX6_total_35 rfl rfl (fun q4 => ?_) (fun q4 => ?_)
      · replace h := iten q4 h
        refine AW.iload_n (k0 := 1) (pc' := 47) X rfl rfl dX6_total_46 rfl ?_
        refine AW.bipush (v := 13) (pc' := 49) X rfl dX6_total_47 rfl ?_
        refine AW.icmp_ne (pc' := 52) (tgt := 60) X dX6_total_49 rfl rfl (fun q5 => ?_) (fun q5 => ?_)
        · replace h := iten q5 h
          refine AW.aload_n (k0 := 0) (pc' := 61) X rfl rfl dX6_total_60 rfl ?_
          refine AW.gX6 (v := .ref 0) (pc' := 64) X h0 0 (by decide) rfl mf_X6_10 rfl dX6_total_61 rfl ?_
          refine AW.iload_n (k0 := 1) (pc' := 65) X rfl rfl dX6_total_64 rfl ?_
          obtain ⟨v6, c6, h⟩ := Option.bind_eq_some_iff.mp h
          refine AW.callV (As := [.int x1]) (rest := []) (rv := (some (.int v6))) (M' := M) (pc' := 68) X (ok_X4_totalOf (rX0 h0) c6) yv_X4_totalOf (rX0 h0).1 (rX0 h0).2.1 (cS (rX0 h0) dA ad _) rfl rfl ml_X6_204 ⟨by decide, by decide, by decide, by decide⟩ rfl (Nat.le_of_ble_eq_true rfl) rfl rfl dX6_total_65 rfl ?_
          replace h := Option.some.inj h
          subst h
          exact AW.iret X hr dX6_total_68
        · replace h := itep q5 h
          refine AW.aload_n (k0 := 0) (pc' := 53) X rfl rfl dX6_total_52 rfl ?_
          refine AW.gX6 (v := .ref 655) (pc' := 56) X h0 5 (by decide) rfl mf_X6_37 rfl dX6_total_53 rfl ?_
          refine AW.gX5 (v := .int (M 655 1)) (pc' := 59) X (rX5 h0) 1 (by decide) rfl mf_X6_98 rfl dX6_total_56 rfl ?_
          replace h := Option.some.inj h
          subst h
          exact AW.iret X hr dX6_total_59
      · replace h := itep q4 h
        refine AW.aload_n (k0 := 0) (pc' := 39) X rfl rfl dX6_total_38 rfl ?_
        refine AW.gX6 (v := .ref 651) (pc' := 42) X h0 2 (by decide) rfl mf_X6_22 rfl dX6_total_39 rfl ?_
        refine AW.gX1 (v := .int (M 651 2)) (pc' := 45) X (rX2 h0) 2 (by decide) rfl mf_X6_203 rfl dX6_total_42 rfl ?_
        replace h := Option.some.inj h
        subst h
        exact AW.iret X hr dX6_total_45
    · replace h := iten q3 h
      refine AW.aload_n (k0 := 0) (pc' := 20) X rfl rfl dX6_total_19 rfl ?_
      refine AW.gX6 (v := .ref 0) (pc' := 23) X h0 0 (by decide) rfl mf_X6_10 rfl dX6_total_20 rfl ?_
      refine AW.gX4 (v := .ref (0 + 7)) (pc' := 26) X (rX0 h0) 4 (by decide) rfl mf_X6_200 rfl dX6_total_23 rfl ?_
      refine AW.iload_n (k0 := 1) (pc' := 27) X rfl rfl dX6_total_26 rfl ?_
      refine AW.bipush (v := 14) (pc' := 29) X rfl dX6_total_27 rfl ?_
      refine AW.isub (pc' := 30) X dX6_total_29 rfl ?_
      obtain ⟨g7, h⟩ := gd_some h
      refine AW.iald (pc' := 31) X (rS7 (rX0 h0)) (inb_vp g7) dX6_total_30 rfl ?_
      replace h := Option.some.inj h
      subst h
      exact AW.iret X hr dX6_total_31
  · replace h := itep q2 h
    refine AW.bipush (v := (-2)) (pc' := 12) X rfl dX6_total_10 rfl ?_
    replace h := Option.some.inj h
    subst h
    exact AW.iret X hr dX6_total_12
set_option maxHeartbeats 4000000 in
set_option maxRecDepth 100000 in
theorem ok_X6_loopsLeft_59 {a0 : Nat} (X : CX p s m args meth c cX6_loopsLeft 2 RX6 D dA ad lo n A) (hr : meth.sig.returnType = (some .int)) (h0 : tSS lo n a0) : ∀ (s0 : Int32) (M : MM) (R : (Int32 × MM)), f_X6_loopsLeft_59 a0 s0 M = some R → AR p l e 4 104 s m args below meth c D dA ad lo n 2 A (some (.int R.1)) R.2 59 [] [.int s0] M := by
  intro s0 M R h
  unfold f_X6_loopsLeft_59 at h
  replace h := Option.some.inj h
  subst h
  exact AW.iret X hr dX6_loopsLeft_59
set_option maxHeartbeats 4000000 in
set_option maxRecDepth 100000 in
theorem ok_X6_loopsLeft_43 {a0 : Nat} (X : CX p s m args meth c cX6_loopsLeft 2 RX6 D dA ad lo n A) (hr : meth.sig.returnType = (some .int)) (h0 : tSS lo n a0) : ∀ (x1 : Int32) (M : MM) (R : (Int32 × MM)), f_X6_loopsLeft_43 a0 x1 M = some R → AR p l e 4 104 s m args below meth c D dA ad lo n 2 A (some (.int R.1)) R.2 43 [(0, .ref a0), (1, .int x1)] [] M := by
  intro x1 M R h
  unfold f_X6_loopsLeft_43 at h
  refine AW.aload_n (k0 := 0) (pc' := 44) X rfl rfl dX6_loopsLeft_43 rfl ?_
  refine AW.gX6 (v := .ref 65) (pc' := 47) X h0 1 (by decide) rfl mf_X6_16 rfl dX6_loopsLeft_44 rfl ?_
  obtain ⟨v1, c1, h⟩ := Option.bind_eq_some_iff.mp h
  refine AW.callV (As := []) (rest := []) (rv := (some (.int (bz v1)))) (M' := M) (pc' := 50) X (ok_X4_rests (rX1 h0) c1) yv_X4_rests (rX1 h0).1 (rX1 h0).2.1 (cS (rX1 h0) dA ad _) rfl rfl ml_X6_210 ⟨by decide, by decide, by decide, by decide⟩ rfl (Nat.le_of_ble_eq_true rfl) rfl rfl dX6_loopsLeft_47 rfl ?_
  refine AW.if_eq (pc' := 53) (tgt := 57) X dX6_loopsLeft_50 rfl rfl (fun q2 => ?_) (fun q2 => ?_)
  · replace h := itep q2 h
    refine AW.bipush (v := (-6)) (pc' := 59) X rfl dX6_loopsLeft_57 rfl ?_
    refine AW.sub (ls' := []) [] rfl ?_
    exact ok_X6_loopsLeft_59 X hr h0 (-6) M R h
  · replace h := iten q2 h
    refine AW.iload_n (k0 := 1) (pc' := 54) X rfl rfl dX6_loopsLeft_53 rfl ?_
    refine AW.goto (pc' := 59) X dX6_loopsLeft_54 rfl ?_
    refine AW.sub (ls' := []) [] rfl ?_
    exact ok_X6_loopsLeft_59 X hr h0 x1 M R h
set_option maxHeartbeats 4000000 in
set_option maxRecDepth 100000 in
theorem ok_X6_loopsLeft_13 {a0 : Nat} (X : CX p s m args meth c cX6_loopsLeft 2 RX6 D dA ad lo n A) (hr : meth.sig.returnType = (some .int)) (h0 : tSS lo n a0) : ∀ (k : Nat) (x1 : Int32) (M : MM) (R : (Int32 × MM)), f_X6_loopsLeft_13 a0 k x1 M = some R → AR p l e 4 104 s m args below meth c D dA ad lo n 2 A (some (.int R.1)) R.2 13 [(0, .ref a0), (1, .int x1)] [] M := by
  intro k
  induction k with
  | zero => intro _ _ R h; exact none_some h
  | succ k ih =>
    intro x1 M R h
    unfold f_X6_loopsLeft_13 at h
    refine AW.iload_n (k0 := 1) (pc' := 14) X rfl rfl dX6_loopsLeft_13 rfl ?_
    refine AW.sipush (v := 500) (pc' := 17) X rfl dX6_loopsLeft_14 rfl ?_
    refine AW.icmp_ge (pc' := 20) (tgt := 43) X dX6_loopsLeft_17 rfl rfl (fun q1 => ?_) (fun q1 => ?_)
    · replace h := itep q1 h
      exact ok_X6_loopsLeft_43 X hr h0 x1 M R h
    · replace h := iten q1 h
      refine AW.aload_n (k0 := 0) (pc' := 21) X rfl rfl dX6_loopsLeft_20 rfl ?_
      refine AW.gX6 (v := .ref 65) (pc' := 24) X h0 1 (by decide) rfl mf_X6_16 rfl dX6_loopsLeft_21 rfl ?_
      obtain ⟨v2, c2, h⟩ := Option.bind_eq_some_iff.mp h
      refine AW.callV (As := []) (rest := []) (rv := (some (.int (bz v2)))) (M' := M) (pc' := 27) X (ok_X4_rests (rX1 h0) c2) yv_X4_rests (rX1 h0).1 (rX1 h0).2.1 (cS (rX1 h0) dA ad _) rfl rfl ml_X6_210 ⟨by decide, by decide, by decide, by decide⟩ rfl (Nat.le_of_ble_eq_true rfl) rfl rfl dX6_loopsLeft_24 rfl ?_
      refine AW.if_ne (pc' := 30) (tgt := 43) X dX6_loopsLeft_27 rfl rfl (fun q3 => ?_) (fun q3 => ?_)
      · replace h := iten q3 h
        exact ok_X6_loopsLeft_43 X hr h0 x1 M R h
      · replace h := itep q3 h
        refine AW.aload_n (k0 := 0) (pc' := 31) X rfl rfl dX6_loopsLeft_30 rfl ?_
        refine AW.gX6 (v := .ref 65) (pc' := 34) X h0 1 (by decide) rfl mf_X6_16 rfl dX6_loopsLeft_31 rfl ?_
        obtain ⟨v4, c4, h⟩ := Option.bind_eq_some_iff.mp h
        refine AW.callV (As := []) (rest := []) (rv := none) (M' := v4) (pc' := 37) X (ok_X4_doLoop (rX1 h0) c4) yv_X4_doLoop (rX1 h0).1 (rX1 h0).2.1 (cS (rX1 h0) dA ad _) rfl rfl ml_X6_213 ⟨by decide, by decide, by decide, by decide⟩ rfl (Nat.le_of_ble_eq_true rfl) rfl rfl dX6_loopsLeft_34 rfl ?_
        refine AW.iinc (k0 := 1) (v := (x1 + 1)) (y := 1) (ls' := [(1, .int (x1 + 1)), (0, .ref a0)]) (pc' := 40) X rfl rfl rfl (by decide) rfl dX6_loopsLeft_37 rfl ?_
        refine AW.goto (pc' := 13) X dX6_loopsLeft_40 rfl ?_
        refine AW.sub (ls' := [(0, .ref a0), (1, .int (x1 + 1))]) [1, 0] rfl ?_
        exact ih (x1 + 1) v4 R h
set_option maxHeartbeats 4000000 in
set_option maxRecDepth 100000 in
theorem ok_X6_loopsLeft {lo n : Nat} {a0 : Nat} {M : MM} {R : (Int32 × MM)} (h0 : tSS lo n a0) (h : f_X6_loopsLeft a0 M = some R) : MC yX6_loopsLeft cX6_loopsLeft 2 (some .int) 4 104 lo n [.ref a0] M (some (.int R.1)) R.2 := by
  refine MC.of (ls0 := [(0, .ref a0)]) (by decide) rfl (fun _ => Nat.le_of_ble_eq_true rfl) (fun p l e s m args below meth c D dA ad A X hr => ?_)
  replace X : CX p s m args meth c cX6_loopsLeft 2 RX6 D dA ad lo n A := X
  unfold f_X6_loopsLeft at h
  refine AW.aload_n (k0 := 0) (pc' := 1) X rfl rfl dX6_loopsLeft_0 rfl ?_
  refine AW.gX6 (v := .ref 65) (pc' := 4) X h0 1 (by decide) rfl mf_X6_16 rfl dX6_loopsLeft_1 rfl ?_
  refine AW.aload_n (k0 := 0) (pc' := 5) X rfl rfl dX6_loopsLeft_4 rfl ?_
  refine AW.gX6 (v := .ref 0) (pc' := 8) X h0 0 (by decide) rfl mf_X6_10 rfl dX6_loopsLeft_5 rfl ?_
  obtain ⟨v1, c1, h⟩ := Option.bind_eq_some_iff.mp h
  refine AW.callV (As := [.ref 0]) (rest := []) (rv := none) (M' := v1) (pc' := 11) X (ok_X4_copyFrom (rX1 h0) (rX0 h0) c1) yv_X4_copyFrom (rX1 h0).1 (rX1 h0).2.1 (cS (rX1 h0) dA ad _) rfl rfl ml_X6_131 ⟨by decide, by decide, by decide, by decide⟩ rfl (Nat.le_of_ble_eq_true rfl) rfl rfl dX6_loopsLeft_8 rfl ?_
  refine AW.iconst (v := 0) (pc' := 12) X rfl dX6_loopsLeft_11 rfl ?_
  refine AW.istore_n (ls' := [(1, .int 0), (0, .ref a0)]) (pc' := 13) X rfl (by decide) rfl dX6_loopsLeft_12 rfl ?_
  refine AW.sub (ls' := [(0, .ref a0), (1, .int 0)]) [1, 0] rfl ?_
  exact ok_X6_loopsLeft_13 X hr h0 FU 0 v1 R h
set_option maxHeartbeats 4000000 in
set_option maxRecDepth 100000 in
theorem ok_X6_wouldAbort_68 {a0 : Nat} (X : CX p s m args meth c cX6_wouldAbort 3 RX6 D dA ad lo n A) (hr : meth.sig.returnType = (some .int)) (h0 : tSS lo n a0) : ∀ (M : MM) (R : (Int32 × MM)), f_X6_wouldAbort_68 a0 M = some R → AR p l e 4 104 s m args below meth c D dA ad lo n 3 A (some (.int R.1)) R.2 68 [(0, .ref a0)] [] M := by
  intro M R h
  unfold f_X6_wouldAbort_68 at h
  refine AW.aload_n (k0 := 0) (pc' := 69) X rfl rfl dX6_wouldAbort_68 rfl ?_
  refine AW.gX6 (v := .ref 65) (pc' := 72) X h0 1 (by decide) rfl mf_X6_16 rfl dX6_wouldAbort_69 rfl ?_
  refine AW.gX4 (v := .int (M 65 14)) (pc' := 75) X (rX1 h0) 14 (by decide) rfl mf_X6_219 rfl dX6_wouldAbort_72 rfl ?_
  replace h := Option.some.inj h
  subst h
  exact AW.iret X hr dX6_wouldAbort_75
set_option maxHeartbeats 4000000 in
set_option maxRecDepth 100000 in
theorem ok_X6_wouldAbort_40 {a0 : Nat} (X : CX p s m args meth c cX6_wouldAbort 3 RX6 D dA ad lo n A) (hr : meth.sig.returnType = (some .int)) (h0 : tSS lo n a0) : ∀ (k : Nat) (x1 : Int32) (x2 : Int32) (M : MM) (R : (Int32 × MM)), f_X6_wouldAbort_40 a0 k x1 x2 M = some R → AR p l e 4 104 s m args below meth c D dA ad lo n 3 A (some (.int R.1)) R.2 40 [(0, .ref a0), (1, .int x1), (2, .int x2)] [] M := by
  intro k
  induction k with
  | zero => intro _ _ _ R h; exact none_some h
  | succ k ih =>
    intro x1 x2 M R h
    unfold f_X6_wouldAbort_40 at h
    refine AW.iload_n (k0 := 2) (pc' := 41) X rfl rfl dX6_wouldAbort_40 rfl ?_
    refine AW.iload_n (k0 := 1) (pc' := 42) X rfl rfl dX6_wouldAbort_41 rfl ?_
    refine AW.icmp_ge (pc' := 45) (tgt := 68) X dX6_wouldAbort_42 rfl rfl (fun q1 => ?_) (fun q1 => ?_)
    · replace h := itep q1 h
      refine AW.sub (ls' := [(0, .ref a0)]) [0] rfl ?_
      exact ok_X6_wouldAbort_68 X hr h0 M R h
    · replace h := iten q1 h
      refine AW.aload_n (k0 := 0) (pc' := 46) X rfl rfl dX6_wouldAbort_45 rfl ?_
      refine AW.gX6 (v := .ref 65) (pc' := 49) X h0 1 (by decide) rfl mf_X6_16 rfl dX6_wouldAbort_46 rfl ?_
      obtain ⟨v2, c2, h⟩ := Option.bind_eq_some_iff.mp h
      refine AW.callV (As := []) (rest := []) (rv := (some (.int (bz v2)))) (M' := M) (pc' := 52) X (ok_X4_measures (rX1 h0) c2) yv_X4_measures (rX1 h0).1 (rX1 h0).2.1 (cS (rX1 h0) dA ad _) rfl rfl ml_X6_216 ⟨by decide, by decide, by decide, by decide⟩ rfl (Nat.le_of_ble_eq_true rfl) rfl rfl dX6_wouldAbort_49 rfl ?_
      refine AW.if_eq (pc' := 55) (tgt := 68) X dX6_wouldAbort_52 rfl rfl (fun q3 => ?_) (fun q3 => ?_)
      · replace h := itep q3 h
        refine AW.sub (ls' := [(0, .ref a0)]) [0] rfl ?_
        exact ok_X6_wouldAbort_68 X hr h0 M R h
      · replace h := iten q3 h
        refine AW.aload_n (k0 := 0) (pc' := 56) X rfl rfl dX6_wouldAbort_55 rfl ?_
        refine AW.gX6 (v := .ref 65) (pc' := 59) X h0 1 (by decide) rfl mf_X6_16 rfl dX6_wouldAbort_56 rfl ?_
        obtain ⟨v4, c4, h⟩ := Option.bind_eq_some_iff.mp h
        refine AW.callV (As := []) (rest := []) (rv := none) (M' := v4) (pc' := 62) X (ok_X4_doLoop (rX1 h0) c4) yv_X4_doLoop (rX1 h0).1 (rX1 h0).2.1 (cS (rX1 h0) dA ad _) rfl rfl ml_X6_213 ⟨by decide, by decide, by decide, by decide⟩ rfl (Nat.le_of_ble_eq_true rfl) rfl rfl dX6_wouldAbort_59 rfl ?_
        refine AW.iinc (k0 := 2) (v := (x2 + 1)) (y := 1) (ls' := [(2, .int (x2 + 1)), (0, .ref a0), (1, .int x1)]) (pc' := 65) X rfl rfl rfl (by decide) rfl dX6_wouldAbort_62 rfl ?_
        refine AW.goto (pc' := 40) X dX6_wouldAbort_65 rfl ?_
        refine AW.sub (ls' := [(0, .ref a0), (1, .int x1), (2, .int (x2 + 1))]) [1, 2, 0] rfl ?_
        exact ih x1 (x2 + 1) v4 R h
set_option maxHeartbeats 4000000 in
set_option maxRecDepth 100000 in
theorem ok_X6_wouldAbort {lo n : Nat} {a0 : Nat} {x1 : Int32} {M : MM} {R : (Int32 × MM)} (h0 : tSS lo n a0) (h : f_X6_wouldAbort a0 x1 M = some R) : MC yX6_wouldAbort cX6_wouldAbort 3 (some .int) 4 104 lo n [.ref a0, .int x1] M (some (.int R.1)) R.2 := by
  refine MC.of (ls0 := [(0, .ref a0), (1, .int x1)]) (by decide) rfl (fun _ => Nat.le_of_ble_eq_true rfl) (fun p l e s m args below meth c D dA ad A X hr => ?_)
  replace X : CX p s m args meth c cX6_wouldAbort 3 RX6 D dA ad lo n A := X
  unfold f_X6_wouldAbort at h
  refine AW.iload_n (k0 := 1) (pc' := 1) X rfl rfl dX6_wouldAbort_0 rfl ?_
  refine AW.iconst (v := 1) (pc' := 2) X rfl dX6_wouldAbort_1 rfl ?_
  refine AW.sipush (v := 300) (pc' := 5) X rfl dX6_wouldAbort_2 rfl ?_
  obtain ⟨v1, c1, h⟩ := Option.bind_eq_some_iff.mp h
  refine AW.callS (As := [.int x1, .int 1, .int 300]) (rest := []) (rv := (some (.int (bz v1)))) (M' := M) (pc' := 8) X (ok_X6_isWithin c1) yv_X6_isWithin ml_X6_137 ⟨by decide, by decide, by decide, by decide⟩ rfl (Nat.le_of_ble_eq_true rfl) rfl rfl dX6_wouldAbort_5 rfl ?_
  refine AW.if_ne (pc' := 11) (tgt := 14) X dX6_wouldAbort_8 rfl rfl (fun q2 => ?_) (fun q2 => ?_)
  · replace h := iten q2 h
    refine AW.aload_n (k0 := 0) (pc' := 15) X rfl rfl dX6_wouldAbort_14 rfl ?_
    refine AW.gX6 (v := .ref 0) (pc' := 18) X h0 0 (by decide) rfl mf_X6_10 rfl dX6_wouldAbort_15 rfl ?_
    obtain ⟨v3, c3, h⟩ := Option.bind_eq_some_iff.mp h
    refine AW.callV (As := []) (rest := []) (rv := (some (.int (bz v3)))) (M' := M) (pc' := 21) X (ok_X4_measures (rX0 h0) c3) yv_X4_measures (rX0 h0).1 (rX0 h0).2.1 (cS (rX0 h0) dA ad _) rfl rfl ml_X6_216 ⟨by decide, by decide, by decide, by decide⟩ rfl (Nat.le_of_ble_eq_true rfl) rfl rfl dX6_wouldAbort_18 rfl ?_
    refine AW.if_ne (pc' := 24) (tgt := 27) X dX6_wouldAbort_21 rfl rfl (fun q4 => ?_) (fun q4 => ?_)
    · replace h := iten q4 h
      refine AW.aload_n (k0 := 0) (pc' := 28) X rfl rfl dX6_wouldAbort_27 rfl ?_
      refine AW.gX6 (v := .ref 65) (pc' := 31) X h0 1 (by decide) rfl mf_X6_16 rfl dX6_wouldAbort_28 rfl ?_
      refine AW.aload_n (k0 := 0) (pc' := 32) X rfl rfl dX6_wouldAbort_31 rfl ?_
      refine AW.gX6 (v := .ref 0) (pc' := 35) X h0 0 (by decide) rfl mf_X6_10 rfl dX6_wouldAbort_32 rfl ?_
      obtain ⟨v5, c5, h⟩ := Option.bind_eq_some_iff.mp h
      refine AW.callV (As := [.ref 0]) (rest := []) (rv := none) (M' := v5) (pc' := 38) X (ok_X4_copyFrom (rX1 h0) (rX0 h0) c5) yv_X4_copyFrom (rX1 h0).1 (rX1 h0).2.1 (cS (rX1 h0) dA ad _) rfl rfl ml_X6_131 ⟨by decide, by decide, by decide, by decide⟩ rfl (Nat.le_of_ble_eq_true rfl) rfl rfl dX6_wouldAbort_35 rfl ?_
      refine AW.iconst (v := 0) (pc' := 39) X rfl dX6_wouldAbort_38 rfl ?_
      refine AW.istore_n (ls' := [(2, .int 0), (0, .ref a0), (1, .int x1)]) (pc' := 40) X rfl (by decide) rfl dX6_wouldAbort_39 rfl ?_
      refine AW.sub (ls' := [(0, .ref a0), (1, .int x1), (2, .int 0)]) [1, 2, 0] rfl ?_
      exact ok_X6_wouldAbort_40 X hr h0 FU x1 0 v5 R h
    · replace h := itep q4 h
      refine AW.bipush (v := (-6)) (pc' := 26) X rfl dX6_wouldAbort_24 rfl ?_
      replace h := Option.some.inj h
      subst h
      exact AW.iret X hr dX6_wouldAbort_26
  · replace h := itep q2 h
    refine AW.bipush (v := (-2)) (pc' := 13) X rfl dX6_wouldAbort_11 rfl ?_
    replace h := Option.some.inj h
    subst h
    exact AW.iret X hr dX6_wouldAbort_13
set_option maxHeartbeats 4000000 in
set_option maxRecDepth 100000 in
theorem ok_X6_highest_90 {a0 : Nat} (X : CX p s m args meth c cX6_highest 5 RX6 D dA ad lo n A) (hr : meth.sig.returnType = (some .int)) (h0 : tSS lo n a0) : ∀ (x3 : Int32) (M : MM) (R : (Int32 × MM)), f_X6_highest_90 a0 x3 M = some R → AR p l e 4 104 s m args below meth c D dA ad lo n 5 A (some (.int R.1)) R.2 90 [(3, .int x3)] [] M := by
  intro x3 M R h
  unfold f_X6_highest_90 at h
  refine AW.iload_n (k0 := 0) (pc' := 91) X rfl rfl dX6_highest_90 rfl ?_
  replace h := Option.some.inj h
  subst h
  exact AW.iret X hr dX6_highest_91
set_option maxHeartbeats 4000000 in
set_option maxRecDepth 100000 in
theorem ok_X6_highest_44 {a0 : Nat} (X : CX p s m args meth c cX6_highest 5 RX6 D dA ad lo n A) (hr : meth.sig.returnType = (some .int)) (h0 : tSS lo n a0) : ∀ (k : Nat) (x1 : Int32) (x2 : Int32) (x3 : Int32) (x4 : Int32) (M : MM) (R : (Int32 × MM)), f_X6_highest_44 a0 k x1 x2 x3 x4 M = some R → AR p l e 4 104 s m args below meth c D dA ad lo n 5 A (some (.int R.1)) R.2 44 [(0, .ref a0), (1, .int x1), (2, .int x2), (3, .int x3), (4, .int x4)] [] M := by
  intro k
  induction k with
  | zero => intro _ _ _ _ _ R h; exact none_some h
  | succ k ih =>
    intro x1 x2 x3 x4 M R h
    unfold f_X6_highest_44 at h
    refine AW.iload (k0 := 4) (pc' := 46) X rfl dX6_highest_44 rfl ?_
    refine AW.iload_n (k0 := 2) (pc' := 47) X rfl rfl dX6_highest_46 rfl ?_
    refine AW.icmp_ge (pc' := 50) (tgt := 90) X dX6_highest_47 rfl rfl (fun q1 => ?_) (fun q1 => ?_)
    · replace h := itep q1 h
      refine AW.sub (ls' := [(3, .int x3)]) [3] rfl ?_
      exact ok_X6_highest_90 X hr h0 x3 M R h
    · replace h := iten q1 h
      refine AW.aload_n (k0 := 0) (pc' := 51) X rfl rfl dX6_highest_50 rfl ?_
      refine AW.gX6 (v := .ref 65) (pc' := 54) X h0 1 (by decide) rfl mf_X6_16 rfl dX6_highest_51 rfl ?_
      obtain ⟨v2, c2, h⟩ := Option.bind_eq_some_iff.mp h
      refine AW.callV (As := []) (rest := []) (rv := (some (.int (bz v2)))) (M' := M) (pc' := 57) X (ok_X4_measures (rX1 h0) c2) yv_X4_measures (rX1 h0).1 (rX1 h0).2.1 (cS (rX1 h0) dA ad _) rfl rfl ml_X6_216 ⟨by decide, by decide, by decide, by decide⟩ rfl (Nat.le_of_ble_eq_true rfl) rfl rfl dX6_highest_54 rfl ?_
      refine AW.if_eq (pc' := 60) (tgt := 90) X dX6_highest_57 rfl rfl (fun q3 => ?_) (fun q3 => ?_)
      · replace h := itep q3 h
        refine AW.sub (ls' := [(3, .int x3)]) [3] rfl ?_
        exact ok_X6_highest_90 X hr h0 x3 M R h
      · replace h := iten q3 h
        refine AW.aload_n (k0 := 0) (pc' := 61) X rfl rfl dX6_highest_60 rfl ?_
        refine AW.gX6 (v := .ref 65) (pc' := 64) X h0 1 (by decide) rfl mf_X6_16 rfl dX6_highest_61 rfl ?_
        obtain ⟨v4, c4, h⟩ := Option.bind_eq_some_iff.mp h
        refine AW.callV (As := []) (rest := []) (rv := none) (M' := v4) (pc' := 67) X (ok_X4_doLoop (rX1 h0) c4) yv_X4_doLoop (rX1 h0).1 (rX1 h0).2.1 (cS (rX1 h0) dA ad _) rfl rfl ml_X6_213 ⟨by decide, by decide, by decide, by decide⟩ rfl (Nat.le_of_ble_eq_true rfl) rfl rfl dX6_highest_64 rfl ?_
        refine AW.iload_n (k0 := 3) (pc' := 68) X rfl rfl dX6_highest_67 rfl ?_
        refine AW.aload_n (k0 := 0) (pc' := 69) X rfl rfl dX6_highest_68 rfl ?_
        refine AW.gX6 (v := .ref 65) (pc' := 72) X h0 1 (by decide) rfl mf_X6_16 rfl dX6_highest_69 rfl ?_
        refine AW.gX4 (v := .ref (65 + 6)) (pc' := 75) X (rX1 h0) 2 (by decide) rfl mf_X6_65 rfl dX6_highest_72 rfl ?_
        refine AW.iload_n (k0 := 1) (pc' := 76) X rfl rfl dX6_highest_75 rfl ?_
        obtain ⟨g5, h⟩ := gd_some h
        refine AW.aldC (pc' := 77) X (rS6 (rX1 h0)) (inb_vp g5) dX6_highest_76 rfl ?_
        refine AW.gX0 (v := .int (v4 ((65 + 6) + 5 + 9 * (ix x1)) 12)) (pc' := 80) X (rCA (rS6 (rX1 h0)) (inb_lt g5)) 12 (by decide) rfl mf_X6_222 rfl dX6_highest_77 rfl ?_
        refine AW.mmax (pc' := 83) X ⟨by decide, by decide, by decide, by decide⟩ (Nat.le_of_ble_eq_true rfl) ml_X6_225 dX6_highest_80 rfl ?_
        refine AW.istore_n (ls' := [(3, .int (if x3 < (v4 ((65 + 6) + 5 + 9 * (ix x1)) 12) then (v4 ((65 + 6) + 5 + 9 * (ix x1)) 12) else x3)), (0, .ref a0), (1, .int x1), (2, .int x2), (4, .int x4)]) (pc' := 84) X rfl (by decide) rfl dX6_highest_83 rfl ?_
        refine AW.iinc (k0 := 4) (v := (x4 + 1)) (y := 1) (ls' := [(4, .int (x4 + 1)), (3, .int (if x3 < (v4 ((65 + 6) + 5 + 9 * (ix x1)) 12) then (v4 ((65 + 6) + 5 + 9 * (ix x1)) 12) else x3)), (0, .ref a0), (1, .int x1), (2, .int x2)]) (pc' := 87) X rfl rfl rfl (by decide) rfl dX6_highest_84 rfl ?_
        refine AW.goto (pc' := 44) X dX6_highest_87 rfl ?_
        refine AW.sub (ls' := [(0, .ref a0), (1, .int x1), (2, .int x2), (3, .int (if x3 < (v4 ((65 + 6) + 5 + 9 * (ix x1)) 12) then (v4 ((65 + 6) + 5 + 9 * (ix x1)) 12) else x3)), (4, .int (x4 + 1))]) [2, 3, 4, 1, 0] rfl ?_
        exact ih x1 x2 (if x3 < (v4 ((65 + 6) + 5 + 9 * (ix x1)) 12) then (v4 ((65 + 6) + 5 + 9 * (ix x1)) 12) else x3) (x4 + 1) v4 R h
set_option maxHeartbeats 4000000 in
set_option maxRecDepth 100000 in
theorem ok_X6_highest {lo n : Nat} {a0 : Nat} {x1 : Int32} {x2 : Int32} {M : MM} {R : (Int32 × MM)} (h0 : tSS lo n a0) (h : f_X6_highest a0 x1 x2 M = some R) : MC yX6_highest cX6_highest 5 (some .int) 4 104 lo n [.ref a0, .int x1, .int x2] M (some (.int R.1)) R.2 := by
  refine MC.of (ls0 := [(0, .ref a0), (1, .int x1), (2, .int x2)]) (by decide) rfl (fun _ => Nat.le_of_ble_eq_true rfl) (fun p l e s m args below meth c D dA ad A X hr => ?_)
  replace X : CX p s m args meth c cX6_highest 5 RX6 D dA ad lo n A := X
  unfold f_X6_highest at h
  refine AW.aload_n (k0 := 0) (pc' := 1) X rfl rfl dX6_highest_0 rfl ?_
  refine AW.gX6 (v := .ref 0) (pc' := 4) X h0 0 (by decide) rfl mf_X6_10 rfl dX6_highest_1 rfl ?_
  refine AW.iload_n (k0 := 1) (pc' := 5) X rfl rfl dX6_highest_4 rfl ?_
  obtain ⟨v1, c1, h⟩ := Option.bind_eq_some_iff.mp h
  refine AW.callV (As := [.int x1]) (rest := []) (rv := (some (.int (bz v1)))) (M' := M) (pc' := 8) X (ok_X4_hasChannel (rX0 h0) c1) yv_X4_hasChannel (rX0 h0).1 (rX0 h0).2.1 (cS (rX0 h0) dA ad _) rfl rfl ml_X6_61 ⟨by decide, by decide, by decide, by decide⟩ rfl (Nat.le_of_ble_eq_true rfl) rfl rfl dX6_highest_5 rfl ?_
  refine AW.if_ne (pc' := 11) (tgt := 13) X dX6_highest_8 rfl rfl (fun q2 => ?_) (fun q2 => ?_)
  · replace h := iten q2 h
    refine AW.iload_n (k0 := 2) (pc' := 14) X rfl rfl dX6_highest_13 rfl ?_
    refine AW.iconst (v := 1) (pc' := 15) X rfl dX6_highest_14 rfl ?_
    refine AW.sipush (v := 300) (pc' := 18) X rfl dX6_highest_15 rfl ?_
    obtain ⟨v3, c3, h⟩ := Option.bind_eq_some_iff.mp h
    refine AW.callS (As := [.int x2, .int 1, .int 300]) (rest := []) (rv := (some (.int (bz v3)))) (M' := M) (pc' := 21) X (ok_X6_isWithin c3) yv_X6_isWithin ml_X6_137 ⟨by decide, by decide, by decide, by decide⟩ rfl (Nat.le_of_ble_eq_true rfl) rfl rfl dX6_highest_18 rfl ?_
    refine AW.if_ne (pc' := 24) (tgt := 27) X dX6_highest_21 rfl rfl (fun q4 => ?_) (fun q4 => ?_)
    · replace h := iten q4 h
      refine AW.aload_n (k0 := 0) (pc' := 28) X rfl rfl dX6_highest_27 rfl ?_
      refine AW.gX6 (v := .ref 65) (pc' := 31) X h0 1 (by decide) rfl mf_X6_16 rfl dX6_highest_28 rfl ?_
      refine AW.aload_n (k0 := 0) (pc' := 32) X rfl rfl dX6_highest_31 rfl ?_
      refine AW.gX6 (v := .ref 0) (pc' := 35) X h0 0 (by decide) rfl mf_X6_10 rfl dX6_highest_32 rfl ?_
      obtain ⟨v5, c5, h⟩ := Option.bind_eq_some_iff.mp h
      refine AW.callV (As := [.ref 0]) (rest := []) (rv := none) (M' := v5) (pc' := 38) X (ok_X4_copyFrom (rX1 h0) (rX0 h0) c5) yv_X4_copyFrom (rX1 h0).1 (rX1 h0).2.1 (cS (rX1 h0) dA ad _) rfl rfl ml_X6_131 ⟨by decide, by decide, by decide, by decide⟩ rfl (Nat.le_of_ble_eq_true rfl) rfl rfl dX6_highest_35 rfl ?_
      refine AW.bipush (v := (-6)) (pc' := 40) X rfl dX6_highest_38 rfl ?_
      refine AW.istore_n (ls' := [(3, .int (-6)), (0, .ref a0), (1, .int x1), (2, .int x2)]) (pc' := 41) X rfl (by decide) rfl dX6_highest_40 rfl ?_
      refine AW.iconst (v := 0) (pc' := 42) X rfl dX6_highest_41 rfl ?_
      refine AW.istore (ls' := [(4, .int 0), (3, .int (-6)), (0, .ref a0), (1, .int x1), (2, .int x2)]) (pc' := 44) X (by decide) rfl dX6_highest_42 rfl ?_
      refine AW.sub (ls' := [(0, .ref a0), (1, .int x1), (2, .int x2), (3, .int (-6)), (4, .int 0)]) [2, 3, 4, 1, 0] rfl ?_
      exact ok_X6_highest_44 X hr h0 FU x1 x2 (-6) 0 v5 R h
    · replace h := itep q4 h
      refine AW.bipush (v := (-2)) (pc' := 26) X rfl dX6_highest_24 rfl ?_
      replace h := Option.some.inj h
      subst h
      exact AW.iret X hr dX6_highest_26
  · replace h := itep q2 h
    refine AW.iconst (v := (-1)) (pc' := 12) X rfl dX6_highest_11 rfl ?_
    replace h := Option.some.inj h
    subst h
    exact AW.iret X hr dX6_highest_12
set_option maxHeartbeats 4000000 in
set_option maxRecDepth 100000 in
theorem ok_L_cell_24 {xs : Nat → Int32} {L : Nat} {M : MM} (X : CX p s m args meth c cL_cell 2 RL D dA ad lo n A) (hr : meth.sig.returnType = (some .int)) (hC : SCX ad L xs) : ∀ (s0 : Int32) (R : Int32), f_L_cell_24 xs L M s0 = some R → AR p l e 0 0 s m args below meth c D dA ad lo n 2 A (some (.int R)) M 24 [] [.int s0] M := by
  intro s0 R h
  unfold f_L_cell_24 at h
  replace h := Option.some.inj h
  subst h
  exact AW.iret X hr dL_cell_24
set_option maxHeartbeats 4000000 in
set_option maxRecDepth 100000 in
theorem ok_L_cell {ad : Nat → Nat} {lo n : Nat} {xs : Nat → Int32} {L : Nat} {x1 : Int32} {M : MM} {R : Int32} (hC : SCX ad L xs) (h : f_L_cell xs L x1 M = some R) : MCa ad yL_cell cL_cell 2 (some .int) 0 0 lo n [.ref 1003, .int x1] M (some (.int R)) M := by
  refine MCa.of (ls0 := [(0, .ref 1003), (1, .int x1)]) (by decide) rfl (fun _ => Nat.le_of_ble_eq_true rfl) (fun p l e s m args below meth c D dA A X hr => ?_)
  replace X : CX p s m args meth c cL_cell 2 RL D dA ad lo n A := X
  unfold f_L_cell at h
  refine AW.iload_n (k0 := 1) (pc' := 1) X rfl rfl dL_cell_0 rfl ?_
  refine AW.aload_n (k0 := 0) (pc' := 2) X rfl rfl dL_cell_1 rfl ?_
  refine AW.slen (pc' := 3) X hC dL_cell_2 rfl ?_
  refine AW.icmp_ge (pc' := 6) (tgt := 12) X dL_cell_3 rfl rfl (fun q1 => ?_) (fun q1 => ?_)
  · replace h := itep q1 h
    refine AW.sipush (v := 7919) (pc' := 15) X rfl dL_cell_12 rfl ?_
    refine AW.iload_n (k0 := 1) (pc' := 16) X rfl rfl dL_cell_15 rfl ?_
    refine AW.iconst (v := 3) (pc' := 17) X rfl dL_cell_16 rfl ?_
    refine AW.iadd (pc' := 18) X dL_cell_17 rfl ?_
    refine AW.imul (pc' := 19) X dL_cell_18 rfl ?_
    refine AW.iload_n (k0 := 1) (pc' := 20) X rfl rfl dL_cell_19 rfl ?_
    refine AW.bipush (v := 11) (pc' := 22) X rfl dL_cell_20 rfl ?_
    refine AW.iadd (pc' := 23) X dL_cell_22 rfl ?_
    refine AW.imul (pc' := 24) X dL_cell_23 rfl ?_
    refine AW.sub (ls' := []) [] rfl ?_
    exact ok_L_cell_24 X hr hC ((7919 * (x1 + 3)) * (x1 + 11)) R h
  · replace h := iten q1 h
    refine AW.aload_n (k0 := 0) (pc' := 7) X rfl rfl dL_cell_6 rfl ?_
    refine AW.iload_n (k0 := 1) (pc' := 8) X rfl rfl dL_cell_7 rfl ?_
    obtain ⟨g2, h⟩ := gd_some h
    refine AW.sld (pc' := 9) X hC (inb_vp g2) dL_cell_8 rfl ?_
    refine AW.goto (pc' := 24) X dL_cell_9 rfl ?_
    refine AW.sub (ls' := []) [] rfl ?_
    exact ok_L_cell_24 X hr hC (xs (ix x1)) R h
set_option maxHeartbeats 4000000 in
set_option maxRecDepth 100000 in
theorem ok_L_low {lo n : Nat} {x0 : Int32} {x1 : Int32} {M : MM} {R : Int32}  (h : f_L_low x0 x1 M = some R) : MC yL_low cL_low 2 (some .int) 0 0 lo n [.int x0, .int x1] M (some (.int R)) M := by
  refine MC.of (ls0 := [(0, .int x0), (1, .int x1)]) (by decide) rfl (fun _ => Nat.le_of_ble_eq_true rfl) (fun p l e s m args below meth c D dA ad A X hr => ?_)
  replace X : CX p s m args meth c cL_low 2 RL D dA ad lo n A := X
  unfold f_L_low at h
  refine AW.iload_n (k0 := 0) (pc' := 1) X rfl rfl dL_low_0 rfl ?_
  refine AW.ldc (pc' := 3) X mk_L_7 dL_low_1 rfl ?_
  refine AW.iand (pc' := 4) X dL_low_3 rfl ?_
  refine AW.iload_n (k0 := 1) (pc' := 5) X rfl rfl dL_low_4 rfl ?_
  obtain ⟨g1, h⟩ := gd_some h
  refine AW.irem (pc' := 6) X (nz_ne g1) dL_low_5 rfl ?_
  replace h := Option.some.inj h
  subst h
  exact AW.iret X hr dL_low_6
set_option maxHeartbeats 4000000 in
set_option maxRecDepth 100000 in
theorem ok_L_rests_22 {a0 : Nat} {M : MM} (X : CX p s m args meth c cL_rests 1 RL D dA ad lo n A) (hr : meth.sig.returnType = (some .boolean)) (h0 : tSS lo n a0) : ∀ (sb0 : Bool) (R : Bool), f_L_rests_22 a0 M sb0 = some R → AR p l e 2 43 s m args below meth c D dA ad lo n 1 A (some (.int (bz R))) M 22 [] [.int (bz sb0)] M := by
  intro sb0 R h
  unfold f_L_rests_22 at h
  replace h := Option.some.inj h
  subst h
  exact AW.zret (b := sb0) X hr dL_rests_22
set_option maxHeartbeats 4000000 in
set_option maxRecDepth 100000 in
theorem ok_L_rests_17 {a0 : Nat} {M : MM} (X : CX p s m args meth c cL_rests 1 RL D dA ad lo n A) (hr : meth.sig.returnType = (some .boolean)) (h0 : tSS lo n a0) : ∀  (R : Bool), f_L_rests_17 a0 M  = some R → AR p l e 2 43 s m args below meth c D dA ad lo n 1 A (some (.int (bz R))) M 17 [] [] M := by
  intro  R h
  unfold f_L_rests_17 at h
  refine AW.iconst (v := 1) (pc' := 18) X rfl dL_rests_17 rfl ?_
  refine AW.goto (pc' := 22) X dL_rests_18 rfl ?_
  exact ok_L_rests_22 X hr h0 true R h
set_option maxHeartbeats 4000000 in
set_option maxRecDepth 100000 in
theorem ok_L_rests {lo n : Nat} {a0 : Nat} {M : MM} {R : Bool} (h0 : tSS lo n a0) (h : f_L_rests a0 M = some R) : MC yL_rests cL_rests 1 (some .boolean) 2 43 lo n [.ref a0] M (some (.int (bz R))) M := by
  refine MC.of (ls0 := [(0, .ref a0)]) (by decide) rfl (fun _ => Nat.le_of_ble_eq_true rfl) (fun p l e s m args below meth c D dA ad A X hr => ?_)
  replace X : CX p s m args meth c cL_rests 1 RL D dA ad lo n A := X
  unfold f_L_rests at h
  refine AW.aload_n (k0 := 0) (pc' := 1) X rfl rfl dL_rests_0 rfl ?_
  refine AW.iconst (v := 0) (pc' := 2) X rfl dL_rests_1 rfl ?_
  obtain ⟨v1, c1, h⟩ := Option.bind_eq_some_iff.mp h
  refine AW.callV (As := [.int 0]) (rest := []) (rv := (some (.int v1))) (M' := M) (pc' := 5) X (ok_X6_total h0 c1) yv_X6_total (h0).1.1 (h0).1.2.1 (cX h0 dA ad _) rfl rfl ml_L_8 ⟨by decide, by decide, by decide, by decide⟩ rfl (Nat.le_of_ble_eq_true rfl) rfl rfl dL_rests_2 rfl ?_
  refine AW.if_eq (pc' := 8) (tgt := 17) X dL_rests_5 rfl rfl (fun q2 => ?_) (fun q2 => ?_)
  · replace h := itep q2 h
    refine AW.sub (ls' := []) [] rfl ?_
    exact ok_L_rests_17 X hr h0 R h
  · replace h := iten q2 h
    refine AW.aload_n (k0 := 0) (pc' := 9) X rfl rfl dL_rests_8 rfl ?_
    refine AW.iconst (v := 0) (pc' := 10) X rfl dL_rests_9 rfl ?_
    obtain ⟨v3, c3, h⟩ := Option.bind_eq_some_iff.mp h
    refine AW.callV (As := [.int 0]) (rest := []) (rv := (some (.int v3))) (M' := M) (pc' := 13) X (ok_X6_total h0 c3) yv_X6_total (h0).1.1 (h0).1.2.1 (cX h0 dA ad _) rfl rfl ml_L_8 ⟨by decide, by decide, by decide, by decide⟩ rfl (Nat.le_of_ble_eq_true rfl) rfl rfl dL_rests_10 rfl ?_
    refine AW.iconst (v := 3) (pc' := 14) X rfl dL_rests_13 rfl ?_
    refine AW.icmp_le (pc' := 17) (tgt := 21) X dL_rests_14 rfl rfl (fun q4 => ?_) (fun q4 => ?_)
    · replace h := itep q4 h
      refine AW.iconst (v := 0) (pc' := 22) X rfl dL_rests_21 rfl ?_
      refine AW.sub (ls' := []) [] rfl ?_
      exact ok_L_rests_22 X hr h0 false R h
    · replace h := iten q4 h
      refine AW.sub (ls' := []) [] rfl ?_
      exact ok_L_rests_17 X hr h0 R h
set_option maxHeartbeats 4000000 in
set_option maxRecDepth 100000 in
theorem ok_L_rules_102 {a0 : Nat} (X : CX p s m args meth c cL_rules 9 RL D dA ad lo n A) (hr : meth.sig.returnType = (some .boolean)) (h0 : tSS lo n a0) : ∀ (M : MM) (R : (Bool × MM)), f_L_rules_102 a0 M = some R → AR p l e 6 137 s m args below meth c D dA ad lo n 9 A (some (.int (bz R.1))) R.2 102 [] [] M := by
  intro M R h
  unfold f_L_rules_102 at h
  refine AW.iconst (v := 0) (pc' := 103) X rfl dL_rules_102 rfl ?_
  replace h := Option.some.inj h
  subst h
  exact AW.zret (b := false) X hr dL_rules_103
set_option maxHeartbeats 4000000 in
set_option maxRecDepth 100000 in
theorem ok_L_rules_188 {a0 : Nat} (X : CX p s m args meth c cL_rules 9 RL D dA ad lo n A) (hr : meth.sig.returnType = (some .boolean)) (h0 : tSS lo n a0) : ∀ (M : MM) (R : (Bool × MM)), f_L_rules_188 a0 M = some R → AR p l e 6 137 s m args below meth c D dA ad lo n 9 A (some (.int (bz R.1))) R.2 188 [] [] M := by
  intro M R h
  unfold f_L_rules_188 at h
  refine AW.iconst (v := 0) (pc' := 189) X rfl dL_rules_188 rfl ?_
  replace h := Option.some.inj h
  subst h
  exact AW.zret (b := false) X hr dL_rules_189
set_option maxHeartbeats 4000000 in
set_option maxRecDepth 100000 in
theorem ok_L_rules_225 {a0 : Nat} (X : CX p s m args meth c cL_rules 9 RL D dA ad lo n A) (hr : meth.sig.returnType = (some .boolean)) (h0 : tSS lo n a0) : ∀ (M : MM) (R : (Bool × MM)), f_L_rules_225 a0 M = some R → AR p l e 6 137 s m args below meth c D dA ad lo n 9 A (some (.int (bz R.1))) R.2 225 [] [] M := by
  intro M R h
  unfold f_L_rules_225 at h
  refine AW.iconst (v := 0) (pc' := 226) X rfl dL_rules_225 rfl ?_
  replace h := Option.some.inj h
  subst h
  exact AW.zret (b := false) X hr dL_rules_226
set_option maxHeartbeats 4000000 in
set_option maxRecDepth 100000 in
theorem ok_L_rules_227 {a0 : Nat} (X : CX p s m args meth c cL_rules 9 RL D dA ad lo n A) (hr : meth.sig.returnType = (some .boolean)) (h0 : tSS lo n a0) {rec107 : Int32 → Int32 → MM → Option (Bool × MM)} (hrec107 : ∀ (x4 : Int32) (x5 : Int32) (M : MM) (R : (Bool × MM)), rec107 x4 x5 M = some R → AR p l e 6 137 s m args below meth c D dA ad lo n 9 A (some (.int (bz R.1))) R.2 107 [(0, .ref a0), (4, .int x4), (5, .int x5)] [] M) : ∀ (x4 : Int32) (x5 : Int32) (M : MM) (R : (Bool × MM)), f_L_rules_227 a0 rec107 x4 x5 M = some R → AR p l e 6 137 s m args below meth c D dA ad lo n 9 A (some (.int (bz R.1))) R.2 227 [(0, .ref a0), (4, .int x4), (5, .int x5)] [] M := by
  intro x4 x5 M R h
  unfold f_L_rules_227 at h
  refine AW.iinc (k0 := 2) (v := (x5 + 1)) (y := 1) (ls' := [(5, .int (x5 + 1)), (0, .ref a0), (4, .int x4)]) (pc' := 230) X rfl rfl rfl (by decide) rfl dL_rules_227 rfl ?_
  refine AW.goto (pc' := 107) X dL_rules_230 rfl ?_
  refine AW.sub (ls' := [(0, .ref a0), (4, .int x4), (5, .int (x5 + 1))]) [1, 2, 0] rfl ?_
  exact hrec107 x4 (x5 + 1) M R h
set_option maxHeartbeats 4000000 in
set_option maxRecDepth 100000 in
theorem ok_L_rules_190 {a0 : Nat} (X : CX p s m args meth c cL_rules 9 RL D dA ad lo n A) (hr : meth.sig.returnType = (some .boolean)) (h0 : tSS lo n a0) {rec107 : Int32 → Int32 → MM → Option (Bool × MM)} (hrec107 : ∀ (x4 : Int32) (x5 : Int32) (M : MM) (R : (Bool × MM)), rec107 x4 x5 M = some R → AR p l e 6 137 s m args below meth c D dA ad lo n 9 A (some (.int (bz R.1))) R.2 107 [(0, .ref a0), (4, .int x4), (5, .int x5)] [] M) : ∀ (x4 : Int32) (x5 : Int32) (M : MM) (R : (Bool × MM)), f_L_rules_190 a0 rec107 x4 x5 M = some R → AR p l e 6 137 s m args below meth c D dA ad lo n 9 A (some (.int (bz R.1))) R.2 190 [(0, .ref a0), (4, .int x4), (5, .int x5)] [] M := by
  intro x4 x5 M R h
  unfold f_L_rules_190 at h
  refine AW.aload_n (k0 := 0) (pc' := 191) X rfl rfl dL_rules_190 rfl ?_
  refine AW.iload (k0 := 2) (pc' := 193) X rfl dL_rules_191 rfl ?_
  obtain ⟨v1, c1, h⟩ := Option.bind_eq_some_iff.mp h
  refine AW.callV (As := [.int x5]) (rest := []) (rv := (some (.int v1))) (M' := M) (pc' := 196) X (ok_X6_notchedBy h0 c1) yv_X6_notchedBy (h0).1.1 (h0).1.2.1 (cX h0 dA ad _) rfl rfl ml_L_34 ⟨by decide, by decide, by decide, by decide⟩ rfl (Nat.le_of_ble_eq_true rfl) rfl rfl dL_rules_193 rfl ?_
  refine AW.istore (ls' := [(6, .int v1), (0, .ref a0), (4, .int x4), (5, .int x5)]) (pc' := 198) X (by decide) rfl dL_rules_196 rfl ?_
  refine AW.iload (k0 := 0) (pc' := 200) X rfl dL_rules_198 rfl ?_
  refine AW.bipush (v := (-6)) (pc' := 202) X rfl dL_rules_200 rfl ?_
  refine AW.icmp_eq (pc' := 205) (tgt := 227) X dL_rules_202 rfl rfl (fun q2 => ?_) (fun q2 => ?_)
  · replace h := itep q2 h
    refine AW.sub (ls' := [(0, .ref a0), (4, .int x4), (5, .int x5)]) [1, 2, 3] rfl ?_
    exact ok_L_rules_227 X hr h0 hrec107 x4 x5 M R h
  · replace h := iten q2 h
    refine AW.iload (k0 := 0) (pc' := 207) X rfl dL_rules_205 rfl ?_
    refine AW.if_lt (pc' := 210) (tgt := 225) X dL_rules_207 rfl rfl (fun q3 => ?_) (fun q3 => ?_)
    · replace h := itep q3 h
      refine AW.sub (ls' := []) [] rfl ?_
      exact ok_L_rules_225 X hr h0 M R h
    · replace h := iten q3 h
      refine AW.aload_n (k0 := 1) (pc' := 211) X rfl rfl dL_rules_210 rfl ?_
      refine AW.iload (k0 := 0) (pc' := 213) X rfl dL_rules_211 rfl ?_
      refine AW.aload_n (k0 := 1) (pc' := 214) X rfl rfl dL_rules_213 rfl ?_
      refine AW.iload (k0 := 3) (pc' := 216) X rfl dL_rules_214 rfl ?_
      obtain ⟨v4, c4, h⟩ := Option.bind_eq_some_iff.mp h
      refine AW.callV (As := [.int x5]) (rest := [.int v1, .ref a0]) (rv := (some (.int v4))) (M' := M) (pc' := 219) X (ok_X6_frequency h0 c4) yv_X6_frequency (h0).1.1 (h0).1.2.1 (cX h0 dA ad _) rfl rfl ml_L_25 ⟨by decide, by decide, by decide, by decide⟩ rfl (Nat.le_of_ble_eq_true rfl) rfl rfl dL_rules_216 rfl ?_
      obtain ⟨v5, c5, h⟩ := Option.bind_eq_some_iff.mp h
      refine AW.callV (As := [.int v1, .int v4]) (rest := []) (rv := (some (.int v5))) (M' := M) (pc' := 222) X (ok_X6_limit h0 c5) yv_X6_limit (h0).1.1 (h0).1.2.1 (cX h0 dA ad _) rfl rfl ml_L_37 ⟨by decide, by decide, by decide, by decide⟩ rfl (Nat.le_of_ble_eq_true rfl) rfl rfl dL_rules_219 rfl ?_
      refine AW.if_ge (pc' := 225) (tgt := 227) X dL_rules_222 rfl rfl (fun q6 => ?_) (fun q6 => ?_)
      · replace h := itep q6 h
        refine AW.sub (ls' := [(0, .ref a0), (4, .int x4), (5, .int x5)]) [1, 2, 3] rfl ?_
        exact ok_L_rules_227 X hr h0 hrec107 x4 x5 M R h
      · replace h := iten q6 h
        refine AW.sub (ls' := []) [] rfl ?_
        exact ok_L_rules_225 X hr h0 M R h
set_option maxHeartbeats 4000000 in
set_option maxRecDepth 100000 in
theorem ok_L_rules_156 {a0 : Nat} (X : CX p s m args meth c cL_rules 9 RL D dA ad lo n A) (hr : meth.sig.returnType = (some .boolean)) (h0 : tSS lo n a0) {rec107 : Int32 → Int32 → MM → Option (Bool × MM)} (hrec107 : ∀ (x4 : Int32) (x5 : Int32) (M : MM) (R : (Bool × MM)), rec107 x4 x5 M = some R → AR p l e 6 137 s m args below meth c D dA ad lo n 9 A (some (.int (bz R.1))) R.2 107 [(0, .ref a0), (4, .int x4), (5, .int x5)] [] M) : ∀ (x4 : Int32) (x5 : Int32) (M : MM) (R : (Bool × MM)), f_L_rules_156 a0 rec107 x4 x5 M = some R → AR p l e 6 137 s m args below meth c D dA ad lo n 9 A (some (.int (bz R.1))) R.2 156 [(0, .ref a0), (4, .int x4), (5, .int x5)] [] M := by
  intro x4 x5 M R h
  unfold f_L_rules_156 at h
  refine AW.aload_n (k0 := 0) (pc' := 157) X rfl rfl dL_rules_156 rfl ?_
  refine AW.iload (k0 := 2) (pc' := 159) X rfl dL_rules_157 rfl ?_
  obtain ⟨v1, c1, h⟩ := Option.bind_eq_some_iff.mp h
  refine AW.callV (As := [.int x5]) (rest := []) (rv := (some (.int v1))) (M' := M) (pc' := 162) X (ok_X6_driveAt h0 c1) yv_X6_driveAt (h0).1.1 (h0).1.2.1 (cX h0 dA ad _) rfl rfl ml_L_31 ⟨by decide, by decide, by decide, by decide⟩ rfl (Nat.le_of_ble_eq_true rfl) rfl rfl dL_rules_159 rfl ?_
  refine AW.bipush (v := (-6)) (pc' := 164) X rfl dL_rules_162 rfl ?_
  refine AW.icmp_eq (pc' := 167) (tgt := 190) X dL_rules_164 rfl rfl (fun q2 => ?_) (fun q2 => ?_)
  · replace h := itep q2 h
    exact ok_L_rules_190 X hr h0 hrec107 x4 x5 M R h
  · replace h := iten q2 h
    refine AW.aload_n (k0 := 0) (pc' := 168) X rfl rfl dL_rules_167 rfl ?_
    refine AW.iload (k0 := 2) (pc' := 170) X rfl dL_rules_168 rfl ?_
    obtain ⟨v3, c3, h⟩ := Option.bind_eq_some_iff.mp h
    refine AW.callV (As := [.int x5]) (rest := []) (rv := (some (.int v3))) (M' := M) (pc' := 173) X (ok_X6_driveAt h0 c3) yv_X6_driveAt (h0).1.1 (h0).1.2.1 (cX h0 dA ad _) rfl rfl ml_L_31 ⟨by decide, by decide, by decide, by decide⟩ rfl (Nat.le_of_ble_eq_true rfl) rfl rfl dL_rules_170 rfl ?_
    refine AW.iconst (v := 1) (pc' := 174) X rfl dL_rules_173 rfl ?_
    refine AW.icmp_lt (pc' := 177) (tgt := 188) X dL_rules_174 rfl rfl (fun q4 => ?_) (fun q4 => ?_)
    · replace h := itep q4 h
      refine AW.sub (ls' := []) [] rfl ?_
      exact ok_L_rules_188 X hr h0 M R h
    · replace h := iten q4 h
      refine AW.aload_n (k0 := 0) (pc' := 178) X rfl rfl dL_rules_177 rfl ?_
      refine AW.iload (k0 := 2) (pc' := 180) X rfl dL_rules_178 rfl ?_
      obtain ⟨v5, c5, h⟩ := Option.bind_eq_some_iff.mp h
      refine AW.callV (As := [.int x5]) (rest := []) (rv := (some (.int v5))) (M' := M) (pc' := 183) X (ok_X6_driveAt h0 c5) yv_X6_driveAt (h0).1.1 (h0).1.2.1 (cX h0 dA ad _) rfl rfl ml_L_31 ⟨by decide, by decide, by decide, by decide⟩ rfl (Nat.le_of_ble_eq_true rfl) rfl rfl dL_rules_180 rfl ?_
      refine AW.ldc (pc' := 185) X mk_L_14 dL_rules_183 rfl ?_
      refine AW.icmp_le (pc' := 188) (tgt := 190) X dL_rules_185 rfl rfl (fun q6 => ?_) (fun q6 => ?_)
      · replace h := itep q6 h
        exact ok_L_rules_190 X hr h0 hrec107 x4 x5 M R h
      · replace h := iten q6 h
        refine AW.sub (ls' := []) [] rfl ?_
        exact ok_L_rules_188 X hr h0 M R h
set_option maxHeartbeats 4000000 in
set_option maxRecDepth 100000 in
theorem ok_L_rules_136 {a0 : Nat} (X : CX p s m args meth c cL_rules 9 RL D dA ad lo n A) (hr : meth.sig.returnType = (some .boolean)) (h0 : tSS lo n a0) {rec107 : Int32 → Int32 → MM → Option (Bool × MM)} (hrec107 : ∀ (x4 : Int32) (x5 : Int32) (M : MM) (R : (Bool × MM)), rec107 x4 x5 M = some R → AR p l e 6 137 s m args below meth c D dA ad lo n 9 A (some (.int (bz R.1))) R.2 107 [(0, .ref a0), (4, .int x4), (5, .int x5)] [] M) : ∀ (x4 : Int32) (x5 : Int32) (M : MM) (R : (Bool × MM)), f_L_rules_136 a0 rec107 x4 x5 M = some R → AR p l e 6 137 s m args below meth c D dA ad lo n 9 A (some (.int (bz R.1))) R.2 136 [(0, .ref a0), (4, .int x4), (5, .int x5)] [] M := by
  intro x4 x5 M R h
  unfold f_L_rules_136 at h
  refine AW.aload_n (k0 := 0) (pc' := 137) X rfl rfl dL_rules_136 rfl ?_
  refine AW.iload (k0 := 2) (pc' := 139) X rfl dL_rules_137 rfl ?_
  obtain ⟨v1, c1, h⟩ := Option.bind_eq_some_iff.mp h
  refine AW.callV (As := [.int x5]) (rest := []) (rv := (some (.int v1))) (M' := M) (pc' := 142) X (ok_X6_controlGain h0 c1) yv_X6_controlGain (h0).1.1 (h0).1.2.1 (cX h0 dA ad _) rfl rfl ml_L_28 ⟨by decide, by decide, by decide, by decide⟩ rfl (Nat.le_of_ble_eq_true rfl) rfl rfl dL_rules_139 rfl ?_
  refine AW.if_ge (pc' := 145) (tgt := 156) X dL_rules_142 rfl rfl (fun q2 => ?_) (fun q2 => ?_)
  · replace h := itep q2 h
    exact ok_L_rules_156 X hr h0 hrec107 x4 x5 M R h
  · replace h := iten q2 h
    refine AW.aload_n (k0 := 0) (pc' := 146) X rfl rfl dL_rules_145 rfl ?_
    refine AW.iload (k0 := 2) (pc' := 148) X rfl dL_rules_146 rfl ?_
    obtain ⟨v3, c3, h⟩ := Option.bind_eq_some_iff.mp h
    refine AW.callV (As := [.int x5]) (rest := []) (rv := (some (.int v3))) (M' := M) (pc' := 151) X (ok_X6_controlGain h0 c3) yv_X6_controlGain (h0).1.1 (h0).1.2.1 (cX h0 dA ad _) rfl rfl ml_L_28 ⟨by decide, by decide, by decide, by decide⟩ rfl (Nat.le_of_ble_eq_true rfl) rfl rfl dL_rules_148 rfl ?_
    refine AW.bipush (v := (-6)) (pc' := 153) X rfl dL_rules_151 rfl ?_
    refine AW.icmp_ne (pc' := 156) (tgt := 188) X dL_rules_153 rfl rfl (fun q4 => ?_) (fun q4 => ?_)
    · replace h := iten q4 h
      refine AW.sub (ls' := []) [] rfl ?_
      exact ok_L_rules_188 X hr h0 M R h
    · replace h := itep q4 h
      exact ok_L_rules_156 X hr h0 hrec107 x4 x5 M R h
set_option maxHeartbeats 4000000 in
set_option maxRecDepth 100000 in
theorem ok_L_rules_313 {a0 : Nat} (X : CX p s m args meth c cL_rules 9 RL D dA ad lo n A) (hr : meth.sig.returnType = (some .boolean)) (h0 : tSS lo n a0) : ∀ (M : MM) (R : (Bool × MM)), f_L_rules_313 a0 M = some R → AR p l e 6 137 s m args below meth c D dA ad lo n 9 A (some (.int (bz R.1))) R.2 313 [] [] M := by
  intro M R h
  unfold f_L_rules_313 at h
  refine AW.iconst (v := 0) (pc' := 314) X rfl dL_rules_313 rfl ?_
  replace h := Option.some.inj h
  subst h
  exact AW.zret (b := false) X hr dL_rules_314
set_option maxHeartbeats 4000000 in
set_option maxRecDepth 100000 in
theorem ok_L_rules_374 {a0 : Nat} (X : CX p s m args meth c cL_rules 9 RL D dA ad lo n A) (hr : meth.sig.returnType = (some .boolean)) (h0 : tSS lo n a0) {rec236 : Int32 → Int32 → MM → Option (Bool × MM)} (hrec236 : ∀ (x4 : Int32) (x5 : Int32) (M : MM) (R : (Bool × MM)), rec236 x4 x5 M = some R → AR p l e 6 137 s m args below meth c D dA ad lo n 9 A (some (.int (bz R.1))) R.2 236 [(0, .ref a0), (4, .int x4), (5, .int x5)] [] M) {rec327 : Int32 → Int32 → Int32 → Int32 → MM → Option (Bool × MM)} (hrec327 : ∀ (x4 : Int32) (x5 : Int32) (x6 : Int32) (x7 : Int32) (M : MM) (R : (Bool × MM)), rec327 x4 x5 x6 x7 M = some R → AR p l e 6 137 s m args below meth c D dA ad lo n 9 A (some (.int (bz R.1))) R.2 327 [(0, .ref a0), (4, .int x4), (5, .int x5), (6, .int x6), (7, .int x7)] [] M) : ∀ (x4 : Int32) (x5 : Int32) (x7 : Int32) (x8 : Int32) (M : MM) (R : (Bool × MM)), f_L_rules_374 a0 rec236 rec327 x4 x5 x7 x8 M = some R → AR p l e 6 137 s m args below meth c D dA ad lo n 9 A (some (.int (bz R.1))) R.2 374 [(0, .ref a0), (4, .int x4), (5, .int x5), (7, .int x7), (8, .int x8)] [] M := by
  intro x4 x5 x7 x8 M R h
  unfold f_L_rules_374 at h
  refine AW.iload (k0 := 4) (pc' := 376) X rfl dL_rules_374 rfl ?_
  refine AW.istore (ls' := [(6, .int x8), (0, .ref a0), (4, .int x4), (5, .int x5), (7, .int x7), (8, .int x8)]) (pc' := 378) X (by decide) rfl dL_rules_376 rfl ?_
  refine AW.iinc (k0 := 4) (v := (x7 + 1)) (y := 1) (ls' := [(7, .int (x7 + 1)), (6, .int x8), (0, .ref a0), (4, .int x4), (5, .int x5), (8, .int x8)]) (pc' := 381) X rfl rfl rfl (by decide) rfl dL_rules_378 rfl ?_
  refine AW.goto (pc' := 327) X dL_rules_381 rfl ?_
  refine AW.sub (ls' := [(0, .ref a0), (4, .int x4), (5, .int x5), (6, .int x8), (7, .int (x7 + 1))]) [2, 3, 4, 1, 0] rfl ?_
  exact hrec327 x4 x5 x8 (x7 + 1) M R h
set_option maxHeartbeats 4000000 in
set_option maxRecDepth 100000 in
theorem ok_L_rules_384 {a0 : Nat} (X : CX p s m args meth c cL_rules 9 RL D dA ad lo n A) (hr : meth.sig.returnType = (some .boolean)) (h0 : tSS lo n a0) {rec236 : Int32 → Int32 → MM → Option (Bool × MM)} (hrec236 : ∀ (x4 : Int32) (x5 : Int32) (M : MM) (R : (Bool × MM)), rec236 x4 x5 M = some R → AR p l e 6 137 s m args below meth c D dA ad lo n 9 A (some (.int (bz R.1))) R.2 236 [(0, .ref a0), (4, .int x4), (5, .int x5)] [] M) : ∀ (x4 : Int32) (x5 : Int32) (M : MM) (R : (Bool × MM)), f_L_rules_384 a0 rec236 x4 x5 M = some R → AR p l e 6 137 s m args below meth c D dA ad lo n 9 A (some (.int (bz R.1))) R.2 384 [(0, .ref a0), (4, .int x4), (5, .int x5)] [] M := by
  intro x4 x5 M R h
  unfold f_L_rules_384 at h
  refine AW.iinc (k0 := 2) (v := (x5 + 1)) (y := 1) (ls' := [(5, .int (x5 + 1)), (0, .ref a0), (4, .int x4)]) (pc' := 387) X rfl rfl rfl (by decide) rfl dL_rules_384 rfl ?_
  refine AW.goto (pc' := 236) X dL_rules_387 rfl ?_
  refine AW.sub (ls' := [(0, .ref a0), (4, .int x4), (5, .int (x5 + 1))]) [1, 2, 0] rfl ?_
  exact hrec236 x4 (x5 + 1) M R h
set_option maxHeartbeats 4000000 in
set_option maxRecDepth 100000 in
theorem ok_L_rules_327 {a0 : Nat} (X : CX p s m args meth c cL_rules 9 RL D dA ad lo n A) (hr : meth.sig.returnType = (some .boolean)) (h0 : tSS lo n a0) {rec236 : Int32 → Int32 → MM → Option (Bool × MM)} (hrec236 : ∀ (x4 : Int32) (x5 : Int32) (M : MM) (R : (Bool × MM)), rec236 x4 x5 M = some R → AR p l e 6 137 s m args below meth c D dA ad lo n 9 A (some (.int (bz R.1))) R.2 236 [(0, .ref a0), (4, .int x4), (5, .int x5)] [] M) : ∀ (k : Nat) (x4 : Int32) (x5 : Int32) (x6 : Int32) (x7 : Int32) (M : MM) (R : (Bool × MM)), f_L_rules_327 a0 rec236 k x4 x5 x6 x7 M = some R → AR p l e 6 137 s m args below meth c D dA ad lo n 9 A (some (.int (bz R.1))) R.2 327 [(0, .ref a0), (4, .int x4), (5, .int x5), (6, .int x6), (7, .int x7)] [] M := by
  intro k
  induction k with
  | zero => intro _ _ _ _ _ R h; exact none_some h
  | succ k ih =>
    intro x4 x5 x6 x7 M R h
    unfold f_L_rules_327 at h
    refine AW.iload (k0 := 3) (pc' := 329) X rfl dL_rules_327 rfl ?_
    refine AW.if_lt (pc' := 332) (tgt := 384) X dL_rules_329 rfl rfl (fun q1 => ?_) (fun q1 => ?_)
    · replace h := itep q1 h
      refine AW.sub (ls' := [(0, .ref a0), (4, .int x4), (5, .int x5)]) [0, 1, 2] rfl ?_
      exact ok_L_rules_384 X hr h0 hrec236 x4 x5 M R h
    · replace h := iten q1 h
      refine AW.iload (k0 := 4) (pc' := 334) X rfl dL_rules_332 rfl ?_
      refine AW.iconst (v := 4) (pc' := 335) X rfl dL_rules_334 rfl ?_
      refine AW.icmp_ge (pc' := 338) (tgt := 384) X dL_rules_335 rfl rfl (fun q2 => ?_) (fun q2 => ?_)
      · replace h := itep q2 h
        refine AW.sub (ls' := [(0, .ref a0), (4, .int x4), (5, .int x5)]) [0, 1, 2] rfl ?_
        exact ok_L_rules_384 X hr h0 hrec236 x4 x5 M R h
      · replace h := iten q2 h
        refine AW.aload_n (k0 := 0) (pc' := 339) X rfl rfl dL_rules_338 rfl ?_
        refine AW.iload (k0 := 2) (pc' := 341) X rfl dL_rules_339 rfl ?_
        refine AW.iload (k0 := 4) (pc' := 343) X rfl dL_rules_341 rfl ?_
        obtain ⟨v3, c3, h⟩ := Option.bind_eq_some_iff.mp h
        refine AW.callV (As := [.int x5, .int x7]) (rest := []) (rv := (some (.int v3))) (M' := M) (pc' := 346) X (ok_X6_resonance h0 c3) yv_X6_resonance (h0).1.1 (h0).1.2.1 (cX h0 dA ad _) rfl rfl ml_L_44 ⟨by decide, by decide, by decide, by decide⟩ rfl (Nat.le_of_ble_eq_true rfl) rfl rfl dL_rules_343 rfl ?_
        refine AW.istore (ls' := [(8, .int v3), (0, .ref a0), (4, .int x4), (5, .int x5), (6, .int x6), (7, .int x7)]) (pc' := 348) X (by decide) rfl dL_rules_346 rfl ?_
        refine AW.iload (k0 := 0) (pc' := 350) X rfl dL_rules_348 rfl ?_
        refine AW.if_lt (pc' := 353) (tgt := 374) X dL_rules_350 rfl rfl (fun q4 => ?_) (fun q4 => ?_)
        · replace h := itep q4 h
          refine AW.sub (ls' := [(0, .ref a0), (4, .int x4), (5, .int x5), (7, .int x7), (8, .int v3)]) [1, 2, 3, 5, 0] rfl ?_
          exact ok_L_rules_374 X hr h0 hrec236 ih x4 x5 x7 v3 M R h
        · replace h := iten q4 h
          refine AW.aload_n (k0 := 1) (pc' := 354) X rfl rfl dL_rules_353 rfl ?_
          refine AW.iload (k0 := 0) (pc' := 356) X rfl dL_rules_354 rfl ?_
          refine AW.iload (k0 := 3) (pc' := 358) X rfl dL_rules_356 rfl ?_
          obtain ⟨v5, c5, h⟩ := Option.bind_eq_some_iff.mp h
          refine AW.callV (As := [.int v3, .int x5]) (rest := []) (rv := (some (.int v5))) (M' := M) (pc' := 361) X (ok_X6_averaged h0 c5) yv_X6_averaged (h0).1.1 (h0).1.2.1 (cX h0 dA ad _) rfl rfl ml_L_47 ⟨by decide, by decide, by decide, by decide⟩ rfl (Nat.le_of_ble_eq_true rfl) rfl rfl dL_rules_358 rfl ?_
          refine AW.aload_n (k0 := 1) (pc' := 362) X rfl rfl dL_rules_361 rfl ?_
          refine AW.iload (k0 := 4) (pc' := 364) X rfl dL_rules_362 rfl ?_
          refine AW.iload (k0 := 3) (pc' := 366) X rfl dL_rules_364 rfl ?_
          obtain ⟨v6, c6, h⟩ := Option.bind_eq_some_iff.mp h
          refine AW.callV (As := [.int x6, .int x5]) (rest := [.int v5]) (rv := (some (.int v6))) (M' := M) (pc' := 369) X (ok_X6_averaged h0 c6) yv_X6_averaged (h0).1.1 (h0).1.2.1 (cX h0 dA ad _) rfl rfl ml_L_47 ⟨by decide, by decide, by decide, by decide⟩ rfl (Nat.le_of_ble_eq_true rfl) rfl rfl dL_rules_366 rfl ?_
          refine AW.icmp_le (pc' := 372) (tgt := 374) X dL_rules_369 rfl rfl (fun q7 => ?_) (fun q7 => ?_)
          · replace h := itep q7 h
            refine AW.sub (ls' := [(0, .ref a0), (4, .int x4), (5, .int x5), (7, .int x7), (8, .int v3)]) [1, 2, 3, 5, 0] rfl ?_
            exact ok_L_rules_374 X hr h0 hrec236 ih x4 x5 x7 v3 M R h
          · replace h := iten q7 h
            refine AW.iconst (v := 0) (pc' := 373) X rfl dL_rules_372 rfl ?_
            replace h := Option.some.inj h
            subst h
            exact AW.zret (b := false) X hr dL_rules_373
set_option maxHeartbeats 4000000 in
set_option maxRecDepth 100000 in
theorem ok_L_rules_310 {a0 : Nat} (X : CX p s m args meth c cL_rules 9 RL D dA ad lo n A) (hr : meth.sig.returnType = (some .boolean)) (h0 : tSS lo n a0) {rec236 : Int32 → Int32 → MM → Option (Bool × MM)} (hrec236 : ∀ (x4 : Int32) (x5 : Int32) (M : MM) (R : (Bool × MM)), rec236 x4 x5 M = some R → AR p l e 6 137 s m args below meth c D dA ad lo n 9 A (some (.int (bz R.1))) R.2 236 [(0, .ref a0), (4, .int x4), (5, .int x5)] [] M) : ∀ (x4 : Int32) (x5 : Int32) (sb0 : Bool) (sb1 : Bool) (M : MM) (R : (Bool × MM)), f_L_rules_310 a0 rec236 x4 x5 sb0 sb1 M = some R → AR p l e 6 137 s m args below meth c D dA ad lo n 9 A (some (.int (bz R.1))) R.2 310 [(0, .ref a0), (4, .int x4), (5, .int x5)] [.int (bz sb0), .int (bz sb1)] M := by
  intro x4 x5 sb0 sb1 M R h
  unfold f_L_rules_310 at h
  refine AW.icmp_eq (pc' := 313) (tgt := 315) X dL_rules_310 rfl rfl (fun q1 => ?_) (fun q1 => ?_)
  · replace h := itep q1 h
    refine AW.aload_n (k0 := 0) (pc' := 316) X rfl rfl dL_rules_315 rfl ?_
    refine AW.iload (k0 := 2) (pc' := 318) X rfl dL_rules_316 rfl ?_
    refine AW.iconst (v := 0) (pc' := 319) X rfl dL_rules_318 rfl ?_
    obtain ⟨v2, c2, h⟩ := Option.bind_eq_some_iff.mp h
    refine AW.callV (As := [.int x5, .int 0]) (rest := []) (rv := (some (.int v2))) (M' := M) (pc' := 322) X (ok_X6_resonance h0 c2) yv_X6_resonance (h0).1.1 (h0).1.2.1 (cX h0 dA ad _) rfl rfl ml_L_44 ⟨by decide, by decide, by decide, by decide⟩ rfl (Nat.le_of_ble_eq_true rfl) rfl rfl dL_rules_319 rfl ?_
    refine AW.istore (ls' := [(6, .int v2), (0, .ref a0), (4, .int x4), (5, .int x5)]) (pc' := 324) X (by decide) rfl dL_rules_322 rfl ?_
    refine AW.iconst (v := 1) (pc' := 325) X rfl dL_rules_324 rfl ?_
    refine AW.istore (ls' := [(7, .int 1), (6, .int v2), (0, .ref a0), (4, .int x4), (5, .int x5)]) (pc' := 327) X (by decide) rfl dL_rules_325 rfl ?_
    refine AW.sub (ls' := [(0, .ref a0), (4, .int x4), (5, .int x5), (6, .int v2), (7, .int 1)]) [2, 3, 4, 1, 0] rfl ?_
    exact ok_L_rules_327 X hr h0 hrec236 FU x4 x5 v2 1 M R h
  · replace h := iten q1 h
    refine AW.sub (ls' := []) [] rfl ?_
    exact ok_L_rules_313 X hr h0 M R h
set_option maxHeartbeats 4000000 in
set_option maxRecDepth 100000 in
theorem ok_L_rules_294 {a0 : Nat} (X : CX p s m args meth c cL_rules 9 RL D dA ad lo n A) (hr : meth.sig.returnType = (some .boolean)) (h0 : tSS lo n a0) {rec236 : Int32 → Int32 → MM → Option (Bool × MM)} (hrec236 : ∀ (x4 : Int32) (x5 : Int32) (M : MM) (R : (Bool × MM)), rec236 x4 x5 M = some R → AR p l e 6 137 s m args below meth c D dA ad lo n 9 A (some (.int (bz R.1))) R.2 236 [(0, .ref a0), (4, .int x4), (5, .int x5)] [] M) : ∀ (x4 : Int32) (x5 : Int32) (sb0 : Bool) (M : MM) (R : (Bool × MM)), f_L_rules_294 a0 rec236 x4 x5 sb0 M = some R → AR p l e 6 137 s m args below meth c D dA ad lo n 9 A (some (.int (bz R.1))) R.2 294 [(0, .ref a0), (4, .int x4), (5, .int x5)] [.int (bz sb0)] M := by
  intro x4 x5 sb0 M R h
  unfold f_L_rules_294 at h
  refine AW.aload_n (k0 := 0) (pc' := 295) X rfl rfl dL_rules_294 rfl ?_
  refine AW.iload (k0 := 2) (pc' := 297) X rfl dL_rules_295 rfl ?_
  refine AW.bipush (v := 6) (pc' := 299) X rfl dL_rules_297 rfl ?_
  obtain ⟨v1, c1, h⟩ := Option.bind_eq_some_iff.mp h
  refine AW.callV (As := [.int x5, .int 6]) (rest := [.int (bz sb0)]) (rv := (some (.int v1))) (M' := M) (pc' := 302) X (ok_X6_channel h0 c1) yv_X6_channel (h0).1.1 (h0).1.2.1 (cX h0 dA ad _) rfl rfl ml_L_41 ⟨by decide, by decide, by decide, by decide⟩ rfl (Nat.le_of_ble_eq_true rfl) rfl rfl dL_rules_299 rfl ?_
  refine AW.if_ne (pc' := 305) (tgt := 309) X dL_rules_302 rfl rfl (fun q2 => ?_) (fun q2 => ?_)
  · replace h := iten q2 h
    refine AW.iconst (v := 0) (pc' := 310) X rfl dL_rules_309 rfl ?_
    exact ok_L_rules_310 X hr h0 hrec236 x4 x5 false sb0 M R h
  · replace h := itep q2 h
    refine AW.iconst (v := 1) (pc' := 306) X rfl dL_rules_305 rfl ?_
    refine AW.goto (pc' := 310) X dL_rules_306 rfl ?_
    exact ok_L_rules_310 X hr h0 hrec236 x4 x5 true sb0 M R h
set_option maxHeartbeats 4000000 in
set_option maxRecDepth 100000 in
theorem ok_L_rules_419 {a0 : Nat} (X : CX p s m args meth c cL_rules 9 RL D dA ad lo n A) (hr : meth.sig.returnType = (some .boolean)) (h0 : tSS lo n a0) : ∀ (sb0 : Bool) (M : MM) (R : (Bool × MM)), f_L_rules_419 a0 sb0 M = some R → AR p l e 6 137 s m args below meth c D dA ad lo n 9 A (some (.int (bz R.1))) R.2 419 [] [.int (bz sb0)] M := by
  intro sb0 M R h
  unfold f_L_rules_419 at h
  replace h := Option.some.inj h
  subst h
  exact AW.zret (b := sb0) X hr dL_rules_419
set_option maxHeartbeats 4000000 in
set_option maxRecDepth 100000 in
theorem ok_L_rules_418 {a0 : Nat} (X : CX p s m args meth c cL_rules 9 RL D dA ad lo n A) (hr : meth.sig.returnType = (some .boolean)) (h0 : tSS lo n a0) : ∀ (M : MM) (R : (Bool × MM)), f_L_rules_418 a0 M = some R → AR p l e 6 137 s m args below meth c D dA ad lo n 9 A (some (.int (bz R.1))) R.2 418 [] [] M := by
  intro M R h
  unfold f_L_rules_418 at h
  refine AW.iconst (v := 0) (pc' := 419) X rfl dL_rules_418 rfl ?_
  exact ok_L_rules_419 X hr h0 false M R h
set_option maxHeartbeats 4000000 in
set_option maxRecDepth 100000 in
theorem ok_L_rules_236 {a0 : Nat} (X : CX p s m args meth c cL_rules 9 RL D dA ad lo n A) (hr : meth.sig.returnType = (some .boolean)) (h0 : tSS lo n a0) : ∀ (k : Nat) (x4 : Int32) (x5 : Int32) (M : MM) (R : (Bool × MM)), f_L_rules_236 a0 k x4 x5 M = some R → AR p l e 6 137 s m args below meth c D dA ad lo n 9 A (some (.int (bz R.1))) R.2 236 [(0, .ref a0), (4, .int x4), (5, .int x5)] [] M := by
  intro k
  induction k with
  | zero => intro _ _ _ R h; exact none_some h
  | succ k ih =>
    intro x4 x5 M R h
    unfold f_L_rules_236 at h
    refine AW.iload (k0 := 2) (pc' := 238) X rfl dL_rules_236 rfl ?_
    refine AW.aload_n (k0 := 0) (pc' := 239) X rfl rfl dL_rules_238 rfl ?_
    refine AW.iconst (v := 5) (pc' := 240) X rfl dL_rules_239 rfl ?_
    obtain ⟨v1, c1, h⟩ := Option.bind_eq_some_iff.mp h
    refine AW.callV (As := [.int 5]) (rest := [.int x5]) (rv := (some (.int v1))) (M' := M) (pc' := 243) X (ok_X6_total h0 c1) yv_X6_total (h0).1.1 (h0).1.2.1 (cX h0 dA ad _) rfl rfl ml_L_8 ⟨by decide, by decide, by decide, by decide⟩ rfl (Nat.le_of_ble_eq_true rfl) rfl rfl dL_rules_240 rfl ?_
    refine AW.icmp_ge (pc' := 246) (tgt := 390) X dL_rules_243 rfl rfl (fun q2 => ?_) (fun q2 => ?_)
    · replace h := itep q2 h
      refine AW.aload_n (k0 := 0) (pc' := 391) X rfl rfl dL_rules_390 rfl ?_
      refine AW.iload (k0 := 1) (pc' := 393) X rfl dL_rules_391 rfl ?_
      obtain ⟨v3, c3, h⟩ := Option.bind_eq_some_iff.mp h
      refine AW.callV (As := [.int x4]) (rest := []) (rv := (some (.int v3))) (M' := M) (pc' := 396) X (ok_X6_frequency h0 c3) yv_X6_frequency (h0).1.1 (h0).1.2.1 (cX h0 dA ad _) rfl rfl ml_L_25 ⟨by decide, by decide, by decide, by decide⟩ rfl (Nat.le_of_ble_eq_true rfl) rfl rfl dL_rules_393 rfl ?_
      refine AW.iconst (v := (-1)) (pc' := 397) X rfl dL_rules_396 rfl ?_
      refine AW.icmp_ne (pc' := 400) (tgt := 418) X dL_rules_397 rfl rfl (fun q4 => ?_) (fun q4 => ?_)
      · replace h := iten q4 h
        refine AW.sub (ls' := []) [] rfl ?_
        exact ok_L_rules_418 X hr h0 M R h
      · replace h := itep q4 h
        refine AW.aload_n (k0 := 0) (pc' := 401) X rfl rfl dL_rules_400 rfl ?_
        refine AW.aload_n (k0 := 0) (pc' := 402) X rfl rfl dL_rules_401 rfl ?_
        refine AW.iconst (v := 5) (pc' := 403) X rfl dL_rules_402 rfl ?_
        obtain ⟨v5, c5, h⟩ := Option.bind_eq_some_iff.mp h
        refine AW.callV (As := [.int 5]) (rest := [.ref a0]) (rv := (some (.int v5))) (M' := M) (pc' := 406) X (ok_X6_total h0 c5) yv_X6_total (h0).1.1 (h0).1.2.1 (cX h0 dA ad _) rfl rfl ml_L_8 ⟨by decide, by decide, by decide, by decide⟩ rfl (Nat.le_of_ble_eq_true rfl) rfl rfl dL_rules_403 rfl ?_
        refine AW.iconst (v := 0) (pc' := 407) X rfl dL_rules_406 rfl ?_
        obtain ⟨v6, c6, h⟩ := Option.bind_eq_some_iff.mp h
        refine AW.callV (As := [.int v5, .int 0]) (rest := []) (rv := (some (.int v6))) (M' := M) (pc' := 410) X (ok_X6_channel h0 c6) yv_X6_channel (h0).1.1 (h0).1.2.1 (cX h0 dA ad _) rfl rfl ml_L_41 ⟨by decide, by decide, by decide, by decide⟩ rfl (Nat.le_of_ble_eq_true rfl) rfl rfl dL_rules_407 rfl ?_
        refine AW.iconst (v := (-1)) (pc' := 411) X rfl dL_rules_410 rfl ?_
        refine AW.icmp_ne (pc' := 414) (tgt := 418) X dL_rules_411 rfl rfl (fun q7 => ?_) (fun q7 => ?_)
        · replace h := iten q7 h
          refine AW.sub (ls' := []) [] rfl ?_
          exact ok_L_rules_418 X hr h0 M R h
        · replace h := itep q7 h
          refine AW.iconst (v := 1) (pc' := 415) X rfl dL_rules_414 rfl ?_
          refine AW.goto (pc' := 419) X dL_rules_415 rfl ?_
          refine AW.sub (ls' := []) [] rfl ?_
          exact ok_L_rules_419 X hr h0 true M R h
    · replace h := iten q2 h
      refine AW.aload_n (k0 := 0) (pc' := 247) X rfl rfl dL_rules_246 rfl ?_
      refine AW.iload (k0 := 2) (pc' := 249) X rfl dL_rules_247 rfl ?_
      refine AW.iconst (v := 4) (pc' := 250) X rfl dL_rules_249 rfl ?_
      obtain ⟨v8, c8, h⟩ := Option.bind_eq_some_iff.mp h
      refine AW.callV (As := [.int x5, .int 4]) (rest := []) (rv := (some (.int v8))) (M' := M) (pc' := 253) X (ok_X6_channel h0 c8) yv_X6_channel (h0).1.1 (h0).1.2.1 (cX h0 dA ad _) rfl rfl ml_L_41 ⟨by decide, by decide, by decide, by decide⟩ rfl (Nat.le_of_ble_eq_true rfl) rfl rfl dL_rules_250 rfl ?_
      refine AW.aload_n (k0 := 0) (pc' := 254) X rfl rfl dL_rules_253 rfl ?_
      refine AW.iload (k0 := 2) (pc' := 256) X rfl dL_rules_254 rfl ?_
      refine AW.iconst (v := 5) (pc' := 257) X rfl dL_rules_256 rfl ?_
      obtain ⟨v9, c9, h⟩ := Option.bind_eq_some_iff.mp h
      refine AW.callV (As := [.int x5, .int 5]) (rest := [.int v8]) (rv := (some (.int v9))) (M' := M) (pc' := 260) X (ok_X6_channel h0 c9) yv_X6_channel (h0).1.1 (h0).1.2.1 (cX h0 dA ad _) rfl rfl ml_L_41 ⟨by decide, by decide, by decide, by decide⟩ rfl (Nat.le_of_ble_eq_true rfl) rfl rfl dL_rules_257 rfl ?_
      refine AW.icmp_gt (pc' := 263) (tgt := 313) X dL_rules_260 rfl rfl (fun q10 => ?_) (fun q10 => ?_)
      · replace h := itep q10 h
        refine AW.sub (ls' := []) [] rfl ?_
        exact ok_L_rules_313 X hr h0 M R h
      · replace h := iten q10 h
        refine AW.aload_n (k0 := 0) (pc' := 264) X rfl rfl dL_rules_263 rfl ?_
        refine AW.iload (k0 := 2) (pc' := 266) X rfl dL_rules_264 rfl ?_
        refine AW.iconst (v := 5) (pc' := 267) X rfl dL_rules_266 rfl ?_
        obtain ⟨v11, c11, h⟩ := Option.bind_eq_some_iff.mp h
        refine AW.callV (As := [.int x5, .int 5]) (rest := []) (rv := (some (.int v11))) (M' := M) (pc' := 270) X (ok_X6_channel h0 c11) yv_X6_channel (h0).1.1 (h0).1.2.1 (cX h0 dA ad _) rfl rfl ml_L_41 ⟨by decide, by decide, by decide, by decide⟩ rfl (Nat.le_of_ble_eq_true rfl) rfl rfl dL_rules_267 rfl ?_
        refine AW.aload_n (k0 := 0) (pc' := 271) X rfl rfl dL_rules_270 rfl ?_
        refine AW.bipush (v := 8) (pc' := 273) X rfl dL_rules_271 rfl ?_
        obtain ⟨v12, c12, h⟩ := Option.bind_eq_some_iff.mp h
        refine AW.callV (As := [.int 8]) (rest := [.int v11]) (rv := (some (.int v12))) (M' := M) (pc' := 276) X (ok_X6_total h0 c12) yv_X6_total (h0).1.1 (h0).1.2.1 (cX h0 dA ad _) rfl rfl ml_L_8 ⟨by decide, by decide, by decide, by decide⟩ rfl (Nat.le_of_ble_eq_true rfl) rfl rfl dL_rules_273 rfl ?_
        refine AW.icmp_gt (pc' := 279) (tgt := 313) X dL_rules_276 rfl rfl (fun q13 => ?_) (fun q13 => ?_)
        · replace h := itep q13 h
          refine AW.sub (ls' := []) [] rfl ?_
          exact ok_L_rules_313 X hr h0 M R h
        · replace h := iten q13 h
          refine AW.aload_n (k0 := 0) (pc' := 280) X rfl rfl dL_rules_279 rfl ?_
          refine AW.iload (k0 := 2) (pc' := 282) X rfl dL_rules_280 rfl ?_
          refine AW.iconst (v := 5) (pc' := 283) X rfl dL_rules_282 rfl ?_
          obtain ⟨v14, c14, h⟩ := Option.bind_eq_some_iff.mp h
          refine AW.callV (As := [.int x5, .int 5]) (rest := []) (rv := (some (.int v14))) (M' := M) (pc' := 286) X (ok_X6_channel h0 c14) yv_X6_channel (h0).1.1 (h0).1.2.1 (cX h0 dA ad _) rfl rfl ml_L_41 ⟨by decide, by decide, by decide, by decide⟩ rfl (Nat.le_of_ble_eq_true rfl) rfl rfl dL_rules_283 rfl ?_
          refine AW.if_ne (pc' := 289) (tgt := 293) X dL_rules_286 rfl rfl (fun q15 => ?_) (fun q15 => ?_)
          · replace h := iten q15 h
            refine AW.iconst (v := 0) (pc' := 294) X rfl dL_rules_293 rfl ?_
            exact ok_L_rules_294 X hr h0 ih x4 x5 false M R h
          · replace h := itep q15 h
            refine AW.iconst (v := 1) (pc' := 290) X rfl dL_rules_289 rfl ?_
            refine AW.goto (pc' := 294) X dL_rules_290 rfl ?_
            exact ok_L_rules_294 X hr h0 ih x4 x5 true M R h
set_option maxHeartbeats 4000000 in
set_option maxRecDepth 100000 in
theorem ok_L_rules_107 {a0 : Nat} (X : CX p s m args meth c cL_rules 9 RL D dA ad lo n A) (hr : meth.sig.returnType = (some .boolean)) (h0 : tSS lo n a0) : ∀ (k : Nat) (x4 : Int32) (x5 : Int32) (M : MM) (R : (Bool × MM)), f_L_rules_107 a0 k x4 x5 M = some R → AR p l e 6 137 s m args below meth c D dA ad lo n 9 A (some (.int (bz R.1))) R.2 107 [(0, .ref a0), (4, .int x4), (5, .int x5)] [] M := by
  intro k
  induction k with
  | zero => intro _ _ _ R h; exact none_some h
  | succ k ih =>
    intro x4 x5 M R h
    unfold f_L_rules_107 at h
    refine AW.iload (k0 := 2) (pc' := 109) X rfl dL_rules_107 rfl ?_
    refine AW.iload (k0 := 1) (pc' := 111) X rfl dL_rules_109 rfl ?_
    refine AW.icmp_ge (pc' := 114) (tgt := 233) X dL_rules_111 rfl rfl (fun q1 => ?_) (fun q1 => ?_)
    · replace h := itep q1 h
      refine AW.iconst (v := 0) (pc' := 234) X rfl dL_rules_233 rfl ?_
      refine AW.istore (ls' := [(5, .int 0), (0, .ref a0), (4, .int x4)]) (pc' := 236) X (by decide) rfl dL_rules_234 rfl ?_
      refine AW.sub (ls' := [(0, .ref a0), (4, .int x4), (5, .int 0)]) [1, 2, 0] rfl ?_
      exact ok_L_rules_236 X hr h0 FU x4 0 M R h
    · replace h := iten q1 h
      refine AW.iload (k0 := 2) (pc' := 116) X rfl dL_rules_114 rfl ?_
      refine AW.if_le (pc' := 119) (tgt := 136) X dL_rules_116 rfl rfl (fun q2 => ?_) (fun q2 => ?_)
      · replace h := itep q2 h
        exact ok_L_rules_136 X hr h0 ih x4 x5 M R h
      · replace h := iten q2 h
        refine AW.aload_n (k0 := 0) (pc' := 120) X rfl rfl dL_rules_119 rfl ?_
        refine AW.iload (k0 := 2) (pc' := 122) X rfl dL_rules_120 rfl ?_
        obtain ⟨v3, c3, h⟩ := Option.bind_eq_some_iff.mp h
        refine AW.callV (As := [.int x5]) (rest := []) (rv := (some (.int v3))) (M' := M) (pc' := 125) X (ok_X6_frequency h0 c3) yv_X6_frequency (h0).1.1 (h0).1.2.1 (cX h0 dA ad _) rfl rfl ml_L_25 ⟨by decide, by decide, by decide, by decide⟩ rfl (Nat.le_of_ble_eq_true rfl) rfl rfl dL_rules_122 rfl ?_
        refine AW.aload_n (k0 := 0) (pc' := 126) X rfl rfl dL_rules_125 rfl ?_
        refine AW.iload (k0 := 2) (pc' := 128) X rfl dL_rules_126 rfl ?_
        refine AW.iconst (v := 1) (pc' := 129) X rfl dL_rules_128 rfl ?_
        refine AW.isub (pc' := 130) X dL_rules_129 rfl ?_
        obtain ⟨v4, c4, h⟩ := Option.bind_eq_some_iff.mp h
        refine AW.callV (As := [.int (x5 - 1)]) (rest := [.int v3]) (rv := (some (.int v4))) (M' := M) (pc' := 133) X (ok_X6_frequency h0 c4) yv_X6_frequency (h0).1.1 (h0).1.2.1 (cX h0 dA ad _) rfl rfl ml_L_25 ⟨by decide, by decide, by decide, by decide⟩ rfl (Nat.le_of_ble_eq_true rfl) rfl rfl dL_rules_130 rfl ?_
        refine AW.icmp_le (pc' := 136) (tgt := 188) X dL_rules_133 rfl rfl (fun q5 => ?_) (fun q5 => ?_)
        · replace h := itep q5 h
          refine AW.sub (ls' := []) [] rfl ?_
          exact ok_L_rules_188 X hr h0 M R h
        · replace h := iten q5 h
          exact ok_L_rules_136 X hr h0 ih x4 x5 M R h
set_option maxHeartbeats 4000000 in
set_option maxRecDepth 100000 in
theorem ok_L_rules_99 {a0 : Nat} (X : CX p s m args meth c cL_rules 9 RL D dA ad lo n A) (hr : meth.sig.returnType = (some .boolean)) (h0 : tSS lo n a0) : ∀ (x4 : Int32) (sb0 : Bool) (sb1 : Bool) (M : MM) (R : (Bool × MM)), f_L_rules_99 a0 x4 sb0 sb1 M = some R → AR p l e 6 137 s m args below meth c D dA ad lo n 9 A (some (.int (bz R.1))) R.2 99 [(0, .ref a0), (4, .int x4)] [.int (bz sb0), .int (bz sb1)] M := by
  intro x4 sb0 sb1 M R h
  unfold f_L_rules_99 at h
  refine AW.icmp_eq (pc' := 102) (tgt := 104) X dL_rules_99 rfl rfl (fun q1 => ?_) (fun q1 => ?_)
  · replace h := itep q1 h
    refine AW.iconst (v := 0) (pc' := 105) X rfl dL_rules_104 rfl ?_
    refine AW.istore (ls' := [(5, .int 0), (0, .ref a0), (4, .int x4)]) (pc' := 107) X (by decide) rfl dL_rules_105 rfl ?_
    refine AW.sub (ls' := [(0, .ref a0), (4, .int x4), (5, .int 0)]) [1, 2, 0] rfl ?_
    exact ok_L_rules_107 X hr h0 FU x4 0 M R h
  · replace h := iten q1 h
    refine AW.sub (ls' := []) [] rfl ?_
    exact ok_L_rules_102 X hr h0 M R h
set_option maxHeartbeats 4000000 in
set_option maxRecDepth 100000 in
theorem ok_L_rules_83 {a0 : Nat} (X : CX p s m args meth c cL_rules 9 RL D dA ad lo n A) (hr : meth.sig.returnType = (some .boolean)) (h0 : tSS lo n a0) : ∀ (x4 : Int32) (M : MM) (R : (Bool × MM)), f_L_rules_83 a0 x4 M = some R → AR p l e 6 137 s m args below meth c D dA ad lo n 9 A (some (.int (bz R.1))) R.2 83 [(0, .ref a0), (4, .int x4)] [] M := by
  intro x4 M R h
  unfold f_L_rules_83 at h
  refine AW.aload_n (k0 := 0) (pc' := 84) X rfl rfl dL_rules_83 rfl ?_
  obtain ⟨v1, c1, h⟩ := Option.bind_eq_some_iff.mp h
  refine AW.callS (As := [.ref a0]) (rest := []) (rv := (some (.int (bz v1)))) (M' := M) (pc' := 87) X (ok_L_rests h0 c1) yv_L_rests ml_L_15 ⟨by decide, by decide, by decide, by decide⟩ rfl (Nat.le_of_ble_eq_true rfl) rfl rfl dL_rules_84 rfl ?_
  refine AW.aload_n (k0 := 0) (pc' := 88) X rfl rfl dL_rules_87 rfl ?_
  obtain ⟨v2, c2, h⟩ := Option.bind_eq_some_iff.mp h
  refine AW.callV (As := []) (rest := [.int (bz v1)]) (rv := (some (.int v2.1))) (M' := v2.2) (pc' := 91) X (ok_X6_loopsLeft h0 c2) yv_X6_loopsLeft (h0).1.1 (h0).1.2.1 (cX h0 dA ad _) rfl rfl ml_L_21 ⟨by decide, by decide, by decide, by decide⟩ rfl (Nat.le_of_ble_eq_true rfl) rfl rfl dL_rules_88 rfl ?_
  refine AW.if_ne (pc' := 94) (tgt := 98) X dL_rules_91 rfl rfl (fun q3 => ?_) (fun q3 => ?_)
  · replace h := iten q3 h
    refine AW.iconst (v := 0) (pc' := 99) X rfl dL_rules_98 rfl ?_
    exact ok_L_rules_99 X hr h0 x4 false v1 v2.2 R h
  · replace h := itep q3 h
    refine AW.iconst (v := 1) (pc' := 95) X rfl dL_rules_94 rfl ?_
    refine AW.goto (pc' := 99) X dL_rules_95 rfl ?_
    exact ok_L_rules_99 X hr h0 x4 true v1 v2.2 R h
set_option maxHeartbeats 4000000 in
set_option maxRecDepth 100000 in
theorem ok_L_rules_57 {a0 : Nat} (X : CX p s m args meth c cL_rules 9 RL D dA ad lo n A) (hr : meth.sig.returnType = (some .boolean)) (h0 : tSS lo n a0) : ∀ (x1 : Int32) (x2 : Int32) (x4 : Int32) (sb0 : Bool) (sb1 : Bool) (M : MM) (R : (Bool × MM)), f_L_rules_57 a0 x1 x2 x4 sb0 sb1 M = some R → AR p l e 6 137 s m args below meth c D dA ad lo n 9 A (some (.int (bz R.1))) R.2 57 [(0, .ref a0), (1, .int x1), (2, .int x2), (4, .int x4)] [.int (bz sb0), .int (bz sb1)] M := by
  intro x1 x2 x4 sb0 sb1 M R h
  unfold f_L_rules_57 at h
  refine AW.icmp_ne (pc' := 60) (tgt := 102) X dL_rules_57 rfl rfl (fun q1 => ?_) (fun q1 => ?_)
  · replace h := iten q1 h
    refine AW.sub (ls' := []) [] rfl ?_
    exact ok_L_rules_102 X hr h0 M R h
  · replace h := itep q1 h
    refine AW.iload_n (k0 := 1) (pc' := 61) X rfl rfl dL_rules_60 rfl ?_
    refine AW.if_ne (pc' := 64) (tgt := 73) X dL_rules_61 rfl rfl (fun q2 => ?_) (fun q2 => ?_)
    · replace h := iten q2 h
      refine AW.iload_n (k0 := 2) (pc' := 74) X rfl rfl dL_rules_73 rfl ?_
      refine AW.if_lt (pc' := 77) (tgt := 102) X dL_rules_74 rfl rfl (fun q3 => ?_) (fun q3 => ?_)
      · replace h := itep q3 h
        refine AW.sub (ls' := []) [] rfl ?_
        exact ok_L_rules_102 X hr h0 M R h
      · replace h := iten q3 h
        refine AW.iload_n (k0 := 2) (pc' := 78) X rfl rfl dL_rules_77 rfl ?_
        refine AW.iload (k0 := 3) (pc' := 80) X rfl dL_rules_78 rfl ?_
        refine AW.icmp_ge (pc' := 83) (tgt := 102) X dL_rules_80 rfl rfl (fun q4 => ?_) (fun q4 => ?_)
        · replace h := itep q4 h
          refine AW.sub (ls' := []) [] rfl ?_
          exact ok_L_rules_102 X hr h0 M R h
        · replace h := iten q4 h
          refine AW.sub (ls' := [(0, .ref a0), (4, .int x4)]) [0, 3] rfl ?_
          exact ok_L_rules_83 X hr h0 x4 M R h
    · replace h := itep q2 h
      refine AW.iload_n (k0 := 2) (pc' := 65) X rfl rfl dL_rules_64 rfl ?_
      refine AW.bipush (v := (-6)) (pc' := 67) X rfl dL_rules_65 rfl ?_
      refine AW.icmp_eq (pc' := 70) (tgt := 83) X dL_rules_67 rfl rfl (fun q5 => ?_) (fun q5 => ?_)
      · replace h := itep q5 h
        refine AW.sub (ls' := [(0, .ref a0), (4, .int x4)]) [0, 3] rfl ?_
        exact ok_L_rules_83 X hr h0 x4 M R h
      · replace h := iten q5 h
        refine AW.goto (pc' := 102) X dL_rules_70 rfl ?_
        refine AW.sub (ls' := []) [] rfl ?_
        exact ok_L_rules_102 X hr h0 M R h
set_option maxHeartbeats 4000000 in
set_option maxRecDepth 100000 in
theorem ok_L_rules {lo n : Nat} {a0 : Nat} {M : MM} {R : (Bool × MM)} (h0 : tSS lo n a0) (h : f_L_rules a0 M = some R) : MC yL_rules cL_rules 9 (some .boolean) 6 137 lo n [.ref a0] M (some (.int (bz R.1))) R.2 := by
  refine MC.of (ls0 := [(0, .ref a0)]) (by decide) rfl (fun _ => Nat.le_of_ble_eq_true rfl) (fun p l e s m args below meth c D dA ad A X hr => ?_)
  replace X : CX p s m args meth c cL_rules 9 RL D dA ad lo n A := X
  unfold f_L_rules at h
  refine AW.aload_n (k0 := 0) (pc' := 1) X rfl rfl dL_rules_0 rfl ?_
  refine AW.iconst (v := 0) (pc' := 2) X rfl dL_rules_1 rfl ?_
  obtain ⟨v1, c1, h⟩ := Option.bind_eq_some_iff.mp h
  refine AW.callV (As := [.int 0]) (rest := []) (rv := (some (.int v1))) (M' := M) (pc' := 5) X (ok_X6_total h0 c1) yv_X6_total (h0).1.1 (h0).1.2.1 (cX h0 dA ad _) rfl rfl ml_L_8 ⟨by decide, by decide, by decide, by decide⟩ rfl (Nat.le_of_ble_eq_true rfl) rfl rfl dL_rules_2 rfl ?_
  refine AW.istore_n (ls' := [(1, .int v1), (0, .ref a0)]) (pc' := 6) X rfl (by decide) rfl dL_rules_5 rfl ?_
  refine AW.aload_n (k0 := 1) (pc' := 7) X rfl rfl dL_rules_6 rfl ?_
  refine AW.iconst (v := 1) (pc' := 8) X rfl dL_rules_7 rfl ?_
  obtain ⟨v2, c2, h⟩ := Option.bind_eq_some_iff.mp h
  refine AW.callV (As := [.int 1]) (rest := []) (rv := (some (.int v2))) (M' := M) (pc' := 11) X (ok_X6_total h0 c2) yv_X6_total (h0).1.1 (h0).1.2.1 (cX h0 dA ad _) rfl rfl ml_L_8 ⟨by decide, by decide, by decide, by decide⟩ rfl (Nat.le_of_ble_eq_true rfl) rfl rfl dL_rules_8 rfl ?_
  refine AW.istore_n (ls' := [(2, .int v2), (1, .int v1), (0, .ref a0)]) (pc' := 12) X rfl (by decide) rfl dL_rules_11 rfl ?_
  refine AW.aload_n (k0 := 2) (pc' := 13) X rfl rfl dL_rules_12 rfl ?_
  refine AW.iconst (v := 2) (pc' := 14) X rfl dL_rules_13 rfl ?_
  obtain ⟨v3, c3, h⟩ := Option.bind_eq_some_iff.mp h
  refine AW.callV (As := [.int 2]) (rest := []) (rv := (some (.int v3))) (M' := M) (pc' := 17) X (ok_X6_total h0 c3) yv_X6_total (h0).1.1 (h0).1.2.1 (cX h0 dA ad _) rfl rfl ml_L_8 ⟨by decide, by decide, by decide, by decide⟩ rfl (Nat.le_of_ble_eq_true rfl) rfl rfl dL_rules_14 rfl ?_
  refine AW.istore_n (ls' := [(3, .int v3), (2, .int v2), (1, .int v1), (0, .ref a0)]) (pc' := 18) X rfl (by decide) rfl dL_rules_17 rfl ?_
  refine AW.aload_n (k0 := 3) (pc' := 19) X rfl rfl dL_rules_18 rfl ?_
  refine AW.iconst (v := 3) (pc' := 20) X rfl dL_rules_19 rfl ?_
  obtain ⟨v4, c4, h⟩ := Option.bind_eq_some_iff.mp h
  refine AW.callV (As := [.int 3]) (rest := []) (rv := (some (.int v4))) (M' := M) (pc' := 23) X (ok_X6_total h0 c4) yv_X6_total (h0).1.1 (h0).1.2.1 (cX h0 dA ad _) rfl rfl ml_L_8 ⟨by decide, by decide, by decide, by decide⟩ rfl (Nat.le_of_ble_eq_true rfl) rfl rfl dL_rules_20 rfl ?_
  refine AW.istore (ls' := [(4, .int v4), (3, .int v3), (2, .int v2), (1, .int v1), (0, .ref a0)]) (pc' := 25) X (by decide) rfl dL_rules_23 rfl ?_
  refine AW.iload_n (k0 := 3) (pc' := 26) X rfl rfl dL_rules_25 rfl ?_
  refine AW.if_lt (pc' := 29) (tgt := 102) X dL_rules_26 rfl rfl (fun q5 => ?_) (fun q5 => ?_)
  · replace h := itep q5 h
    refine AW.sub (ls' := []) [] rfl ?_
    exact ok_L_rules_102 X hr h0 M R h
  · replace h := iten q5 h
    refine AW.iload_n (k0 := 3) (pc' := 30) X rfl rfl dL_rules_29 rfl ?_
    refine AW.iconst (v := 5) (pc' := 31) X rfl dL_rules_30 rfl ?_
    refine AW.icmp_gt (pc' := 34) (tgt := 102) X dL_rules_31 rfl rfl (fun q6 => ?_) (fun q6 => ?_)
    · replace h := itep q6 h
      refine AW.sub (ls' := []) [] rfl ?_
      exact ok_L_rules_102 X hr h0 M R h
    · replace h := iten q6 h
      refine AW.iload_n (k0 := 1) (pc' := 35) X rfl rfl dL_rules_34 rfl ?_
      refine AW.if_lt (pc' := 38) (tgt := 102) X dL_rules_35 rfl rfl (fun q7 => ?_) (fun q7 => ?_)
      · replace h := itep q7 h
        refine AW.sub (ls' := []) [] rfl ?_
        exact ok_L_rules_102 X hr h0 M R h
      · replace h := iten q7 h
        refine AW.iload_n (k0 := 1) (pc' := 39) X rfl rfl dL_rules_38 rfl ?_
        refine AW.ldc (pc' := 41) X mk_L_14 dL_rules_39 rfl ?_
        refine AW.icmp_gt (pc' := 44) (tgt := 102) X dL_rules_41 rfl rfl (fun q8 => ?_) (fun q8 => ?_)
        · replace h := itep q8 h
          refine AW.sub (ls' := []) [] rfl ?_
          exact ok_L_rules_102 X hr h0 M R h
        · replace h := iten q8 h
          refine AW.aload_n (k0 := 4) (pc' := 45) X rfl rfl dL_rules_44 rfl ?_
          obtain ⟨v9, c9, h⟩ := Option.bind_eq_some_iff.mp h
          refine AW.callS (As := [.ref a0]) (rest := []) (rv := (some (.int (bz v9)))) (M' := M) (pc' := 48) X (ok_L_rests h0 c9) yv_L_rests ml_L_15 ⟨by decide, by decide, by decide, by decide⟩ rfl (Nat.le_of_ble_eq_true rfl) rfl rfl dL_rules_45 rfl ?_
          refine AW.iload_n (k0 := 1) (pc' := 49) X rfl rfl dL_rules_48 rfl ?_
          refine AW.if_ne (pc' := 52) (tgt := 56) X dL_rules_49 rfl rfl (fun q10 => ?_) (fun q10 => ?_)
          · replace h := iten q10 h
            refine AW.iconst (v := 0) (pc' := 57) X rfl dL_rules_56 rfl ?_
            refine AW.sub (ls' := [(0, .ref a0), (1, .int v1), (2, .int v2), (4, .int v4)]) [4, 3, 2, 0] rfl ?_
            exact ok_L_rules_57 X hr h0 v1 v2 v4 false v9 M R h
          · replace h := itep q10 h
            refine AW.iconst (v := 1) (pc' := 53) X rfl dL_rules_52 rfl ?_
            refine AW.goto (pc' := 57) X dL_rules_53 rfl ?_
            refine AW.sub (ls' := [(0, .ref a0), (1, .int v1), (2, .int v2), (4, .int v4)]) [4, 3, 2, 0] rfl ?_
            exact ok_L_rules_57 X hr h0 v1 v2 v4 true v9 M R h
end OK
