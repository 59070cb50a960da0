/-! each method does what its function says: by program, a row an instruction -/
section OK
variable {p : Program} {l : Launch} {e : Env} {s : State} {m : MethodId} {args : Array Value} {below : List Frame} {meth : Method} {c : Code} {D : va_G} {dA : Nat → ClassId} {ad : Nat → Nat} {lo n : Nat} {A : Nat → Prop}
set_option maxHeartbeats 4000000 in
set_option maxRecDepth 100000 in
theorem ok_X6_faultPosition {lo n : Nat} {a0 : Nat} {M : MM} {R : (Int32 × MM)} (h0 : tSS lo n a0) (h : f_X6_faultPosition a0 M = some R) : MC yX6_faultPosition cX6_faultPosition 1 (some .int) 6 130 lo n [.ref a0] M (some (.int R.1)) R.2 := by
  refine MC.of (ls0 := [(0, .ref a0)]) (by decide) rfl (fun _ => Nat.le_of_ble_eq_true rfl) (fun p l e s m args below meth c D dA ad A X hr => ?_)
  replace X : CX p s m args meth c cX6_faultPosition 1 RX6 D dA ad lo n A := X
  unfold f_X6_faultPosition at h
  refine AW.aload_n (k0 := 0) (pc' := 1) X rfl rfl dX6_faultPosition_0 rfl ?_
  refine AW.gX6 (v := .ref 655) (pc' := 4) X h0 5 (by decide) rfl mf_X6_37 rfl dX6_faultPosition_1 rfl ?_
  obtain ⟨v1, c1, h⟩ := Option.bind_eq_some_iff.mp h
  refine AW.callV (As := []) (rest := []) (rv := (some (.int v1.1))) (M' := v1.2) (pc' := 7) X (ok_X5_findFault (rX5 h0) c1) yv_X5_findFault (rX5 h0).1 (rX5 h0).2.1 (cT (rX5 h0) dA ad _) rfl rfl ml_X6_102 ⟨by decide, by decide, by decide, by decide⟩ rfl (Nat.le_of_ble_eq_true rfl) rfl rfl dX6_faultPosition_4 rfl ?_
  replace h := Option.some.inj h
  subst h
  exact AW.iret X hr dX6_faultPosition_7
set_option maxHeartbeats 4000000 in
set_option maxRecDepth 100000 in
theorem ok_X6_carryOutAct {lo n : Nat} {a0 : Nat} {M : MM} {R : (Int32 × MM)} (h0 : tSS lo n a0) (h : f_X6_carryOutAct a0 M = some R) : MC yX6_carryOutAct cX6_carryOutAct 1 (some .int) 5 124 lo n [.ref a0] M (some (.int R.1)) R.2 := by
  refine MC.of (ls0 := [(0, .ref a0)]) (by decide) rfl (fun _ => Nat.le_of_ble_eq_true rfl) (fun p l e s m args below meth c D dA ad A X hr => ?_)
  replace X : CX p s m args meth c cX6_carryOutAct 1 RX6 D dA ad lo n A := X
  unfold f_X6_carryOutAct at h
  refine AW.aload_n (k0 := 0) (pc' := 1) X rfl rfl dX6_carryOutAct_0 rfl ?_
  refine AW.gX6 (v := .ref 655) (pc' := 4) X h0 5 (by decide) rfl mf_X6_37 rfl dX6_carryOutAct_1 rfl ?_
  refine AW.gX5 (v := .int (M 655 3)) (pc' := 7) X (rX5 h0) 3 (by decide) rfl mf_X6_115 rfl dX6_carryOutAct_4 rfl ?_
  by_cases q1 : (M 655 3) = 103
  · replace h := itep q1 h
    refine AW.lookup (pc' := 56) X dX6_carryOutAct_7 (by decide) (by rw [q1] <;> rfl) rfl ?_
    refine AW.aload_n (k0 := 0) (pc' := 57) X rfl rfl dX6_carryOutAct_56 rfl ?_
    refine AW.gX6 (v := .ref 0) (pc' := 60) X h0 0 (by decide) rfl mf_X6_10 rfl dX6_carryOutAct_57 rfl ?_
    refine AW.aload_n (k0 := 0) (pc' := 61) X rfl rfl dX6_carryOutAct_60 rfl ?_
    refine AW.gX6 (v := .ref 655) (pc' := 64) X h0 5 (by decide) rfl mf_X6_37 rfl dX6_carryOutAct_61 rfl ?_
    refine AW.gX5 (v := .int (M 655 5)) (pc' := 67) X (rX5 h0) 5 (by decide) rfl mf_X6_118 rfl dX6_carryOutAct_64 rfl ?_
    obtain ⟨v2, c2, h⟩ := Option.bind_eq_some_iff.mp h
    refine AW.callV (As := [.int (M 655 5)]) (rest := []) (rv := (some (.int v2.1))) (M' := v2.2) (pc' := 70) X (ok_X4_begin (rX0 h0) c2) yv_X4_begin (rX0 h0).1 (rX0 h0).2.1 (cS (rX0 h0) dA ad _) rfl rfl ml_X6_81 ⟨by decide, by decide, by decide, by decide⟩ rfl (Nat.le_of_ble_eq_true rfl) rfl rfl dX6_carryOutAct_67 rfl ?_
    replace h := Option.some.inj h
    subst h
    exact AW.iret X hr dX6_carryOutAct_70
  · replace h := iten q1 h
    by_cases q3 : (M 655 3) = 104
    · replace h := itep q3 h
      refine AW.lookup (pc' := 86) X dX6_carryOutAct_7 (by decide) (by rw [q3] <;> rfl) rfl ?_
      refine AW.aload_n (k0 := 0) (pc' := 87) X rfl rfl dX6_carryOutAct_86 rfl ?_
      refine AW.gX6 (v := .ref 0) (pc' := 90) X h0 0 (by decide) rfl mf_X6_10 rfl dX6_carryOutAct_87 rfl ?_
      refine AW.iconst (v := 1) (pc' := 91) X rfl dX6_carryOutAct_90 rfl ?_
      obtain ⟨v4, c4, h⟩ := Option.bind_eq_some_iff.mp h
      refine AW.callV (As := [.int 1]) (rest := []) (rv := (some (.int v4.1))) (M' := v4.2) (pc' := 94) X (ok_X4_holdOrGoOn (rX0 h0) c4) yv_X4_holdOrGoOn (rX0 h0).1 (rX0 h0).2.1 (cS (rX0 h0) dA ad _) rfl rfl ml_X6_87 ⟨by decide, by decide, by decide, by decide⟩ rfl (Nat.le_of_ble_eq_true rfl) rfl rfl dX6_carryOutAct_91 rfl ?_
      replace h := Option.some.inj h
      subst h
      exact AW.iret X hr dX6_carryOutAct_94
    · replace h := iten q3 h
      by_cases q5 : (M 655 3) = 114
      · replace h := itep q5 h
        refine AW.lookup (pc' := 95) X dX6_carryOutAct_7 (by decide) (by rw [q5] <;> rfl) rfl ?_
        refine AW.aload_n (k0 := 0) (pc' := 96) X rfl rfl dX6_carryOutAct_95 rfl ?_
        refine AW.gX6 (v := .ref 0) (pc' := 99) X h0 0 (by decide) rfl mf_X6_10 rfl dX6_carryOutAct_96 rfl ?_
        refine AW.iconst (v := 0) (pc' := 100) X rfl dX6_carryOutAct_99 rfl ?_
        obtain ⟨v6, c6, h⟩ := Option.bind_eq_some_iff.mp h
        refine AW.callV (As := [.int 0]) (rest := []) (rv := (some (.int v6.1))) (M' := v6.2) (pc' := 103) X (ok_X4_holdOrGoOn (rX0 h0) c6) yv_X4_holdOrGoOn (rX0 h0).1 (rX0 h0).2.1 (cS (rX0 h0) dA ad _) rfl rfl ml_X6_87 ⟨by decide, by decide, by decide, by decide⟩ rfl (Nat.le_of_ble_eq_true rfl) rfl rfl dX6_carryOutAct_100 rfl ?_
        replace h := Option.some.inj h
        subst h
        exact AW.iret X hr dX6_carryOutAct_103
      · replace h := iten q5 h
        by_cases q7 : (M 655 3) = 115
        · replace h := itep q7 h
          refine AW.lookup (pc' := 71) X dX6_carryOutAct_7 (by decide) (by rw [q7] <;> rfl) rfl ?_
          refine AW.aload_n (k0 := 0) (pc' := 72) X rfl rfl dX6_carryOutAct_71 rfl ?_
          refine AW.gX6 (v := .ref 0) (pc' := 75) X h0 0 (by decide) rfl mf_X6_10 rfl dX6_carryOutAct_72 rfl ?_
          refine AW.aload_n (k0 := 0) (pc' := 76) X rfl rfl dX6_carryOutAct_75 rfl ?_
          refine AW.gX6 (v := .ref 655) (pc' := 79) X h0 5 (by decide) rfl mf_X6_37 rfl dX6_carryOutAct_76 rfl ?_
          refine AW.gX5 (v := .int (M 655 5)) (pc' := 82) X (rX5 h0) 5 (by decide) rfl mf_X6_118 rfl dX6_carryOutAct_79 rfl ?_
          obtain ⟨v8, c8, h⟩ := Option.bind_eq_some_iff.mp h
          refine AW.callV (As := [.int (M 655 5)]) (rest := []) (rv := (some (.int v8.1))) (M' := v8.2) (pc' := 85) X (ok_X4_doLoops (rX0 h0) c8) yv_X4_doLoops (rX0 h0).1 (rX0 h0).2.1 (cS (rX0 h0) dA ad _) rfl rfl ml_X6_84 ⟨by decide, by decide, by decide, by decide⟩ rfl (Nat.le_of_ble_eq_true rfl) rfl rfl dX6_carryOutAct_82 rfl ?_
          replace h := Option.some.inj h
          subst h
          exact AW.iret X hr dX6_carryOutAct_85
        · replace h := iten q7 h
          by_cases q9 : (M 655 3) = 120
          · replace h := itep q9 h
            refine AW.lookup (pc' := 104) X dX6_carryOutAct_7 (by decide) (by rw [q9] <;> rfl) rfl ?_
            refine AW.aload_n (k0 := 0) (pc' := 105) X rfl rfl dX6_carryOutAct_104 rfl ?_
            refine AW.gX6 (v := .ref 0) (pc' := 108) X h0 0 (by decide) rfl mf_X6_10 rfl dX6_carryOutAct_105 rfl ?_
            obtain ⟨v10, c10, h⟩ := Option.bind_eq_some_iff.mp h
            refine AW.callV (As := []) (rest := []) (rv := (some (.int v10.1))) (M' := v10.2) (pc' := 111) X (ok_X4_abortByHand (rX0 h0) c10) yv_X4_abortByHand (rX0 h0).1 (rX0 h0).2.1 (cS (rX0 h0) dA ad _) rfl rfl ml_X6_91 ⟨by decide, by decide, by decide, by decide⟩ rfl (Nat.le_of_ble_eq_true rfl) rfl rfl dX6_carryOutAct_108 rfl ?_
            replace h := Option.some.inj h
            subst h
            exact AW.iret X hr dX6_carryOutAct_111
          · replace h := iten q9 h
            refine AW.lookup (pc' := 112) X dX6_carryOutAct_7 (by decide) (by rw [lv_osw q1 (by decide : (103 : Int32).toInt = 103), lv_osw q3 (by decide : (104 : Int32).toInt = 104), lv_osw q5 (by decide : (114 : Int32).toInt = 114), lv_osw q7 (by decide : (115 : Int32).toInt = 115), lv_osw q9 (by decide : (120 : Int32).toInt = 120)] <;> rfl) rfl ?_
            refine AW.aload_n (k0 := 0) (pc' := 113) X rfl rfl dX6_carryOutAct_112 rfl ?_
            refine AW.gX6 (v := .ref 0) (pc' := 116) X h0 0 (by decide) rfl mf_X6_10 rfl dX6_carryOutAct_113 rfl ?_
            refine AW.aload_n (k0 := 0) (pc' := 117) X rfl rfl dX6_carryOutAct_116 rfl ?_
            refine AW.gX6 (v := .ref 655) (pc' := 120) X h0 5 (by decide) rfl mf_X6_37 rfl dX6_carryOutAct_117 rfl ?_
            refine AW.gX5 (v := .int (M 655 5)) (pc' := 123) X (rX5 h0) 5 (by decide) rfl mf_X6_118 rfl dX6_carryOutAct_120 rfl ?_
            refine AW.aload_n (k0 := 0) (pc' := 124) X rfl rfl dX6_carryOutAct_123 rfl ?_
            refine AW.gX6 (v := .ref 655) (pc' := 127) X h0 5 (by decide) rfl mf_X6_37 rfl dX6_carryOutAct_124 rfl ?_
            refine AW.gX5 (v := .int (M 655 6)) (pc' := 130) X (rX5 h0) 6 (by decide) rfl mf_X6_121 rfl dX6_carryOutAct_127 rfl ?_
            obtain ⟨v11, c11, h⟩ := Option.bind_eq_some_iff.mp h
            refine AW.callV (As := [.int (M 655 5), .int (M 655 6)]) (rest := []) (rv := (some (.int v11.1))) (M' := v11.2) (pc' := 133) X (ok_X4_changeSetting (rX0 h0) c11) yv_X4_changeSetting (rX0 h0).1 (rX0 h0).2.1 (cS (rX0 h0) dA ad _) rfl rfl ml_X6_78 ⟨by decide, by decide, by decide, by decide⟩ rfl (Nat.le_of_ble_eq_true rfl) rfl rfl dX6_carryOutAct_130 rfl ?_
            replace h := Option.some.inj h
            subst h
            exact AW.iret X hr dX6_carryOutAct_133
set_option maxHeartbeats 4000000 in
set_option maxRecDepth 100000 in
theorem ok_X6_run_64 {a0 : Nat} (X : CX p s m args meth c cX6_run 2 RX6 D dA ad lo n A) (hr : meth.sig.returnType = (some .int)) (h0 : tSS lo n a0) : ∀ (x1 : Int32) (M : MM) (R : (Int32 × MM)), f_X6_run_64 a0 x1 M = some R → AR p l e 6 144 s m args below meth c D dA ad lo n 2 A (some (.int R.1)) R.2 64 [(0, .ref a0), (1, .int x1)] [] M := by
  intro x1 M R h
  unfold f_X6_run_64 at h
  refine AW.aload_n (k0 := 0) (pc' := 65) X rfl rfl dX6_run_64 rfl ?_
  refine AW.iload_n (k0 := 1) (pc' := 66) X rfl rfl dX6_run_65 rfl ?_
  obtain ⟨v1, c1, h⟩ := Option.bind_eq_some_iff.mp h
  refine AW.callV (As := [.int x1]) (rest := []) (rv := (some (.int v1.1))) (M' := v1.2) (pc' := 69) X (ok_X6_recorded h0 c1) yv_X6_recorded (h0).1.1 (h0).1.2.1 (cX h0 dA ad _) rfl rfl ml_X6_49 ⟨by decide, by decide, by decide, by decide⟩ rfl (Nat.le_of_ble_eq_true rfl) rfl rfl dX6_run_66 rfl ?_
  replace h := Option.some.inj h
  subst h
  exact AW.iret X hr dX6_run_69
set_option maxHeartbeats 4000000 in
set_option maxRecDepth 100000 in
theorem ok_X6_run_35 {a0 : Nat} (X : CX p s m args meth c cX6_run 2 RX6 D dA ad lo n A) (hr : meth.sig.returnType = (some .int)) (h0 : tSS lo n a0) : ∀ (k : Nat) (x1 : Int32) (M : MM) (R : (Int32 × MM)), f_X6_run_35 a0 k x1 M = some R → AR p l e 6 144 s m args below meth c D dA ad lo n 2 A (some (.int R.1)) R.2 35 [(0, .ref a0), (1, .int x1)] [] M := by
  intro k
  induction k with
  | zero => intro _ _ R h; exact none_some h
  | succ k ih =>
    intro x1 M R h
    unfold f_X6_run_35 at h
    refine AW.iload_n (k0 := 1) (pc' := 36) X rfl rfl dX6_run_35 rfl ?_
    refine AW.bipush (v := 80) (pc' := 38) X rfl dX6_run_36 rfl ?_
    refine AW.icmp_ge (pc' := 41) (tgt := 64) X dX6_run_38 rfl rfl (fun q1 => ?_) (fun q1 => ?_)
    · replace h := itep q1 h
      exact ok_X6_run_64 X hr h0 x1 M R h
    · replace h := iten q1 h
      refine AW.aload_n (k0 := 0) (pc' := 42) X rfl rfl dX6_run_41 rfl ?_
      refine AW.gX6 (v := .ref 655) (pc' := 45) X h0 5 (by decide) rfl mf_X6_37 rfl dX6_run_42 rfl ?_
      obtain ⟨v2, c2, h⟩ := Option.bind_eq_some_iff.mp h
      refine AW.callV (As := []) (rest := []) (rv := (some (.int (bz v2.1)))) (M' := v2.2) (pc' := 48) X (ok_X5_readAct (rX5 h0) c2) yv_X5_readAct (rX5 h0).1 (rX5 h0).2.1 (cT (rX5 h0) dA ad _) rfl rfl ml_X6_108 ⟨by decide, by decide, by decide, by decide⟩ rfl (Nat.le_of_ble_eq_true rfl) rfl rfl dX6_run_45 rfl ?_
      refine AW.if_eq (pc' := 51) (tgt := 64) X dX6_run_48 rfl rfl (fun q3 => ?_) (fun q3 => ?_)
      · replace h := itep q3 h
        exact ok_X6_run_64 X hr h0 x1 v2.2 R h
      · replace h := iten q3 h
        refine AW.aload_n (k0 := 0) (pc' := 52) X rfl rfl dX6_run_51 rfl ?_
        obtain ⟨v4, c4, h⟩ := Option.bind_eq_some_iff.mp h
        refine AW.callV (As := []) (rest := []) (rv := (some (.int v4.1))) (M' := v4.2) (pc' := 55) X (ok_X6_carryOutAct h0 c4) yv_X6_carryOutAct (h0).1.1 (h0).1.2.1 (cX h0 dA ad _) rfl rfl ml_X6_112 ⟨by decide, by decide, by decide, by decide⟩ rfl (Nat.le_of_ble_eq_true rfl) rfl rfl dX6_run_52 rfl ?_
        refine AW.if_lt (pc' := 58) (tgt := 64) X dX6_run_55 rfl rfl (fun q5 => ?_) (fun q5 => ?_)
        · replace h := itep q5 h
          exact ok_X6_run_64 X hr h0 x1 v4.2 R h
        · replace h := iten q5 h
          refine AW.iinc (k0 := 1) (v := (x1 + 1)) (y := 1) (ls' := [(1, .int (x1 + 1)), (0, .ref a0)]) (pc' := 61) X rfl rfl rfl (by decide) rfl dX6_run_58 rfl ?_
          refine AW.goto (pc' := 35) X dX6_run_61 rfl ?_
          refine AW.sub (ls' := [(0, .ref a0), (1, .int (x1 + 1))]) [1, 0] rfl ?_
          exact ih (x1 + 1) v4.2 R h
set_option maxHeartbeats 4000000 in
set_option maxRecDepth 100000 in
theorem ok_X6_run {lo n : Nat} {a0 : Nat} {M : MM} {R : (Int32 × MM)} (h0 : tSS lo n a0) (h : f_X6_run a0 M = some R) : MC yX6_run cX6_run 2 (some .int) 6 144 lo n [.ref a0] M (some (.int R.1)) R.2 := by
  refine MC.of (ls0 := [(0, .ref a0)]) (by decide) rfl (fun _ => Nat.le_of_ble_eq_true rfl) (fun p l e s m args below meth c D dA ad A X hr => ?_)
  replace X : CX p s m args meth c cX6_run 2 RX6 D dA ad lo n A := X
  unfold f_X6_run at h
  refine AW.aload_n (k0 := 0) (pc' := 1) X rfl rfl dX6_run_0 rfl ?_
  refine AW.gX6 (v := .ref 655) (pc' := 4) X h0 5 (by decide) rfl mf_X6_37 rfl dX6_run_1 rfl ?_
  obtain ⟨v1, c1, h⟩ := Option.bind_eq_some_iff.mp h
  refine AW.callV (As := []) (rest := []) (rv := (some (.int v1.1))) (M' := v1.2) (pc' := 7) X (ok_X5_findFault (rX5 h0) c1) yv_X5_findFault (rX5 h0).1 (rX5 h0).2.1 (cT (rX5 h0) dA ad _) rfl rfl ml_X6_102 ⟨by decide, by decide, by decide, by decide⟩ rfl (Nat.le_of_ble_eq_true rfl) rfl rfl dX6_run_4 rfl ?_
  refine AW.bipush (v := (-6)) (pc' := 9) X rfl dX6_run_7 rfl ?_
  refine AW.icmp_eq (pc' := 12) (tgt := 15) X dX6_run_9 rfl rfl (fun q2 => ?_) (fun q2 => ?_)
  · replace h := itep q2 h
    refine AW.aload_n (k0 := 0) (pc' := 16) X rfl rfl dX6_run_15 rfl ?_
    refine AW.gX6 (v := .ref 651) (pc' := 19) X h0 2 (by decide) rfl mf_X6_22 rfl dX6_run_16 rfl ?_
    refine AW.aload_n (k0 := 0) (pc' := 20) X rfl rfl dX6_run_19 rfl ?_
    refine AW.gX6 (v := .ref 0) (pc' := 23) X h0 0 (by decide) rfl mf_X6_10 rfl dX6_run_20 rfl ?_
    obtain ⟨v3, c3, h⟩ := Option.bind_eq_some_iff.mp h
    refine AW.callV (As := [.ref 0]) (rest := []) (rv := none) (M' := v3) (pc' := 26) X (ok_X1_note (rX2 h0) (rX0 h0) c3) yv_X1_note ((rX2 h0)).1.1 ((rX2 h0)).1.2.1 (cH (rX2 h0) dA ad _) rfl rfl ml_X6_41 ⟨by decide, by decide, by decide, by decide⟩ rfl (Nat.le_of_ble_eq_true rfl) rfl rfl dX6_run_23 rfl ?_
    refine AW.aload_n (k0 := 0) (pc' := 27) X rfl rfl dX6_run_26 rfl ?_
    refine AW.gX6 (v := .ref 655) (pc' := 30) X h0 5 (by decide) rfl mf_X6_37 rfl dX6_run_27 rfl ?_
    obtain ⟨v4, c4, h⟩ := Option.bind_eq_some_iff.mp h
    refine AW.callV (As := []) (rest := []) (rv := none) (M' := v4) (pc' := 33) X (ok_X5_rewind (rX5 h0) c4) yv_X5_rewind (rX5 h0).1 (rX5 h0).2.1 (cT (rX5 h0) dA ad _) rfl rfl ml_X6_105 ⟨by decide, by decide, by decide, by decide⟩ rfl (Nat.le_of_ble_eq_true rfl) rfl rfl dX6_run_30 rfl ?_
    refine AW.iconst (v := 0) (pc' := 34) X rfl dX6_run_33 rfl ?_
    refine AW.istore_n (ls' := [(1, .int 0), (0, .ref a0)]) (pc' := 35) X rfl (by decide) rfl dX6_run_34 rfl ?_
    refine AW.sub (ls' := [(0, .ref a0), (1, .int 0)]) [1, 0] rfl ?_
    exact ok_X6_run_35 X hr h0 FU 0 v4 R h
  · replace h := iten q2 h
    refine AW.bipush (v := (-3)) (pc' := 14) X rfl dX6_run_12 rfl ?_
    replace h := Option.some.inj h
    subst h
    exact AW.iret X hr dX6_run_14
set_option maxHeartbeats 4000000 in
set_option maxRecDepth 100000 in
theorem ok_X6_undo {lo n : Nat} {a0 : Nat} {M : MM} {R : (Int32 × MM)} (h0 : tSS lo n a0) (h : f_X6_undo a0 M = some R) : MC yX6_undo cX6_undo 1 (some .int) 5 125 lo n [.ref a0] M (some (.int R.1)) R.2 := by
  refine MC.of (ls0 := [(0, .ref a0)]) (by decide) rfl (fun _ => Nat.le_of_ble_eq_true rfl) (fun p l e s m args below meth c D dA ad A X hr => ?_)
  replace X : CX p s m args meth c cX6_undo 1 RX6 D dA ad lo n A := X
  unfold f_X6_undo at h
  refine AW.aload_n (k0 := 0) (pc' := 1) X rfl rfl dX6_undo_0 rfl ?_
  refine AW.gX6 (v := .ref 651) (pc' := 4) X h0 2 (by decide) rfl mf_X6_22 rfl dX6_undo_1 rfl ?_
  refine AW.aload_n (k0 := 0) (pc' := 5) X rfl rfl dX6_undo_4 rfl ?_
  refine AW.gX6 (v := .ref 0) (pc' := 8) X h0 0 (by decide) rfl mf_X6_10 rfl dX6_undo_5 rfl ?_
  obtain ⟨v1, c1, h⟩ := Option.bind_eq_some_iff.mp h
  refine AW.callV (As := [.ref 0]) (rest := []) (rv := (some (.int v1.1))) (M' := v1.2) (pc' := 11) X (ok_X1_takeBack (rX2 h0) (rX0 h0) c1) yv_X1_takeBack ((rX2 h0)).1.1 ((rX2 h0)).1.2.1 (cH (rX2 h0) dA ad _) rfl rfl ml_X6_124 ⟨by decide, by decide, by decide, by decide⟩ rfl (Nat.le_of_ble_eq_true rfl) rfl rfl dX6_undo_8 rfl ?_
  replace h := Option.some.inj h
  subst h
  exact AW.iret X hr dX6_undo_11
set_option maxHeartbeats 4000000 in
set_option maxRecDepth 100000 in
theorem ok_X6_isSlot {lo n : Nat} {x0 : Int32} {M : MM} {R : Bool}  (h : f_X6_isSlot x0 M = some R) : MC yX6_isSlot cX6_isSlot 1 (some .boolean) 1 22 lo n [.int x0] M (some (.int (bz R))) M := by
  refine MC.of (ls0 := [(0, .int x0)]) (by decide) rfl (fun _ => Nat.le_of_ble_eq_true rfl) (fun p l e s m args below meth c D dA ad A X hr => ?_)
  replace X : CX p s m args meth c cX6_isSlot 1 RX6 D dA ad lo n A := X
  unfold f_X6_isSlot at h
  refine AW.iload_n (k0 := 0) (pc' := 1) X rfl rfl dX6_isSlot_0 rfl ?_
  refine AW.iconst (v := 0) (pc' := 2) X rfl dX6_isSlot_1 rfl ?_
  refine AW.iconst (v := 1) (pc' := 3) X rfl dX6_isSlot_2 rfl ?_
  obtain ⟨v1, c1, h⟩ := Option.bind_eq_some_iff.mp h
  refine AW.callS (As := [.int x0, .int 0, .int 1]) (rest := []) (rv := (some (.int (bz v1)))) (M' := M) (pc' := 6) X (ok_X6_isWithin c1) yv_X6_isWithin ml_X6_137 ⟨by decide, by decide, by decide, by decide⟩ rfl (Nat.le_of_ble_eq_true rfl) rfl rfl dX6_isSlot_3 rfl ?_
  replace h := Option.some.inj h
  subst h
  exact AW.zret (b := v1) X hr dX6_isSlot_6
set_option maxHeartbeats 4000000 in
set_option maxRecDepth 100000 in
theorem ok_X6_save {lo n : Nat} {a0 : Nat} {x1 : Int32} {M : MM} {R : (Int32 × MM)} (h0 : tSS lo n a0) (h : f_X6_save a0 x1 M = some R) : MC yX6_save cX6_save 2 (some .int) 4 104 lo n [.ref a0, .int x1] M (some (.int R.1)) R.2 := by
  refine MC.of (ls0 := [(0, .ref a0), (1, .int x1)]) (by decide) rfl (fun _ => Nat.le_of_ble_eq_true rfl) (fun p l e s m args below meth c D dA ad A X hr => ?_)
  replace X : CX p s m args meth c cX6_save 2 RX6 D dA ad lo n A := X
  unfold f_X6_save at h
  refine AW.iload_n (k0 := 1) (pc' := 1) X rfl rfl dX6_save_0 rfl ?_
  obtain ⟨v1, c1, h⟩ := Option.bind_eq_some_iff.mp h
  refine AW.callS (As := [.int x1]) (rest := []) (rv := (some (.int (bz v1)))) (M' := M) (pc' := 4) X (ok_X6_isSlot c1) yv_X6_isSlot ml_X6_128 ⟨by decide, by decide, by decide, by decide⟩ rfl (Nat.le_of_ble_eq_true rfl) rfl rfl dX6_save_1 rfl ?_
  refine AW.if_ne (pc' := 7) (tgt := 9) X dX6_save_4 rfl rfl (fun q2 => ?_) (fun q2 => ?_)
  · replace h := iten q2 h
    refine AW.aload_n (k0 := 0) (pc' := 10) X rfl rfl dX6_save_9 rfl ?_
    refine AW.gX6 (v := .ref 653) (pc' := 13) X h0 3 (by decide) rfl mf_X6_26 rfl dX6_save_10 rfl ?_
    refine AW.iload_n (k0 := 1) (pc' := 14) X rfl rfl dX6_save_13 rfl ?_
    obtain ⟨g3, h⟩ := gd_some h
    refine AW.aldS (pc' := 15) X (rX3 h0) (inb_vp g3) dX6_save_14 rfl ?_
    refine AW.aload_n (k0 := 0) (pc' := 16) X rfl rfl dX6_save_15 rfl ?_
    refine AW.gX6 (v := .ref 0) (pc' := 19) X h0 0 (by decide) rfl mf_X6_10 rfl dX6_save_16 rfl ?_
    obtain ⟨v4, c4, h⟩ := Option.bind_eq_some_iff.mp h
    refine AW.callV (As := [.ref 0]) (rest := []) (rv := none) (M' := v4) (pc' := 22) X (ok_X4_copyFrom (rSA (rX3 h0) (inb_lt g3)) (rX0 h0) c4) yv_X4_copyFrom (rSA (rX3 h0) (inb_lt g3)).1 (rSA (rX3 h0) (inb_lt g3)).2.1 (cS (rSA (rX3 h0) (inb_lt g3)) dA ad _) rfl rfl ml_X6_131 ⟨by decide, by decide, by decide, by decide⟩ rfl (Nat.le_of_ble_eq_true rfl) rfl rfl dX6_save_19 rfl ?_
    refine AW.aload_n (k0 := 0) (pc' := 23) X rfl rfl dX6_save_22 rfl ?_
    refine AW.gX6 (v := .ref 654) (pc' := 26) X h0 4 (by decide) rfl mf_X6_30 rfl dX6_save_23 rfl ?_
    refine AW.iload_n (k0 := 1) (pc' := 27) X rfl rfl dX6_save_26 rfl ?_
    refine AW.iconst (v := 1) (pc' := 28) X rfl dX6_save_27 rfl ?_
    obtain ⟨g5, h⟩ := gd_some h
    refine AW.zast (b := true) (pc' := 29) X (rX4 h0) (inb_vp g5) dX6_save_28 rfl ?_
    refine AW.aload_n (k0 := 0) (pc' := 30) X rfl rfl dX6_save_29 rfl ?_
    refine AW.gX6 (v := .ref 0) (pc' := 33) X h0 0 (by decide) rfl mf_X6_10 rfl dX6_save_30 rfl ?_
    refine AW.gX4 (v := .int ((ms v4 654 (ix x1) (bz true)) 0 8)) (pc' := 36) X (rX0 h0) 8 (by decide) rfl mf_X6_134 rfl dX6_save_33 rfl ?_
    replace h := Option.some.inj h
    subst h
    exact AW.iret X hr dX6_save_36
  · replace h := itep q2 h
    refine AW.iconst (v := (-1)) (pc' := 8) X rfl dX6_save_7 rfl ?_
    replace h := Option.some.inj h
    subst h
    exact AW.iret X hr dX6_save_8
set_option maxHeartbeats 4000000 in
set_option maxRecDepth 100000 in
theorem ok_X6_restore {lo n : Nat} {a0 : Nat} {x1 : Int32} {M : MM} {R : (Int32 × MM)} (h0 : tSS lo n a0) (h : f_X6_restore a0 x1 M = some R) : MC yX6_restore cX6_restore 2 (some .int) 5 125 lo n [.ref a0, .int x1] M (some (.int R.1)) R.2 := by
  refine MC.of (ls0 := [(0, .ref a0), (1, .int x1)]) (by decide) rfl (fun _ => Nat.le_of_ble_eq_true rfl) (fun p l e s m args below meth c D dA ad A X hr => ?_)
  replace X : CX p s m args meth c cX6_restore 2 RX6 D dA ad lo n A := X
  unfold f_X6_restore at h
  refine AW.iload_n (k0 := 1) (pc' := 1) X rfl rfl dX6_restore_0 rfl ?_
  obtain ⟨v1, c1, h⟩ := Option.bind_eq_some_iff.mp h
  refine AW.callS (As := [.int x1]) (rest := []) (rv := (some (.int (bz v1)))) (M' := M) (pc' := 4) X (ok_X6_isSlot c1) yv_X6_isSlot ml_X6_128 ⟨by decide, by decide, by decide, by decide⟩ rfl (Nat.le_of_ble_eq_true rfl) rfl rfl dX6_restore_1 rfl ?_
  refine AW.if_ne (pc' := 7) (tgt := 9) X dX6_restore_4 rfl rfl (fun q2 => ?_) (fun q2 => ?_)
  · replace h := iten q2 h
    refine AW.aload_n (k0 := 0) (pc' := 10) X rfl rfl dX6_restore_9 rfl ?_
    refine AW.gX6 (v := .ref 654) (pc' := 13) X h0 4 (by decide) rfl mf_X6_30 rfl dX6_restore_10 rfl ?_
    refine AW.iload_n (k0 := 1) (pc' := 14) X rfl rfl dX6_restore_13 rfl ?_
    obtain ⟨g3, h⟩ := gd_some h
    refine AW.zald (pc' := 15) X (rX4 h0) (inb_vp g3) dX6_restore_14 rfl ?_
    refine AW.if_ne (pc' := 18) (tgt := 21) X dX6_restore_15 rfl rfl (fun q4 => ?_) (fun q4 => ?_)
    · replace h := iten q4 h
      refine AW.aload_n (k0 := 0) (pc' := 22) X rfl rfl dX6_restore_21 rfl ?_
      refine AW.gX6 (v := .ref 651) (pc' := 25) X h0 2 (by decide) rfl mf_X6_22 rfl dX6_restore_22 rfl ?_
      refine AW.aload_n (k0 := 0) (pc' := 26) X rfl rfl dX6_restore_25 rfl ?_
      refine AW.gX6 (v := .ref 0) (pc' := 29) X h0 0 (by decide) rfl mf_X6_10 rfl dX6_restore_26 rfl ?_
      obtain ⟨v5, c5, h⟩ := Option.bind_eq_some_iff.mp h
      refine AW.callV (As := [.ref 0]) (rest := []) (rv := none) (M' := v5) (pc' := 32) X (ok_X1_note (rX2 h0) (rX0 h0) c5) yv_X1_note ((rX2 h0)).1.1 ((rX2 h0)).1.2.1 (cH (rX2 h0) dA ad _) rfl rfl ml_X6_41 ⟨by decide, by decide, by decide, by decide⟩ rfl (Nat.le_of_ble_eq_true rfl) rfl rfl dX6_restore_29 rfl ?_
      refine AW.aload_n (k0 := 0) (pc' := 33) X rfl rfl dX6_restore_32 rfl ?_
      refine AW.gX6 (v := .ref 0) (pc' := 36) X h0 0 (by decide) rfl mf_X6_10 rfl dX6_restore_33 rfl ?_
      refine AW.aload_n (k0 := 0) (pc' := 37) X rfl rfl dX6_restore_36 rfl ?_
      refine AW.gX6 (v := .ref 653) (pc' := 40) X h0 3 (by decide) rfl mf_X6_26 rfl dX6_restore_37 rfl ?_
      refine AW.iload_n (k0 := 1) (pc' := 41) X rfl rfl dX6_restore_40 rfl ?_
      obtain ⟨g6, h⟩ := gd_some h
      refine AW.aldS (pc' := 42) X (rX3 h0) (inb_vp g6) dX6_restore_41 rfl ?_
      obtain ⟨v7, c7, h⟩ := Option.bind_eq_some_iff.mp h
      refine AW.callV (As := [.ref (if 653 = 652 then 260 + 65 * (ix x1) else 130 + 65 * (ix x1))]) (rest := []) (rv := none) (M' := v7) (pc' := 45) X (ok_X4_copyFrom (rX0 h0) (rSA (rX3 h0) (inb_lt g6)) c7) yv_X4_copyFrom (rX0 h0).1 (rX0 h0).2.1 (cS (rX0 h0) dA ad _) rfl rfl ml_X6_131 ⟨by decide, by decide, by decide, by decide⟩ rfl (Nat.le_of_ble_eq_true rfl) rfl rfl dX6_restore_42 rfl ?_
      refine AW.aload_n (k0 := 0) (pc' := 46) X rfl rfl dX6_restore_45 rfl ?_
      refine AW.aload_n (k0 := 0) (pc' := 47) X rfl rfl dX6_restore_46 rfl ?_
      refine AW.gX6 (v := .ref 0) (pc' := 50) X h0 0 (by decide) rfl mf_X6_10 rfl dX6_restore_47 rfl ?_
      refine AW.gX4 (v := .int (v7 0 8)) (pc' := 53) X (rX0 h0) 8 (by decide) rfl mf_X6_134 rfl dX6_restore_50 rfl ?_
      obtain ⟨v8, c8, h⟩ := Option.bind_eq_some_iff.mp h
      refine AW.callV (As := [.int (v7 0 8)]) (rest := []) (rv := (some (.int v8.1))) (M' := v8.2) (pc' := 56) X (ok_X6_recorded h0 c8) yv_X6_recorded (h0).1.1 (h0).1.2.1 (cX h0 dA ad _) rfl rfl ml_X6_49 ⟨by decide, by decide, by decide, by decide⟩ rfl (Nat.le_of_ble_eq_true rfl) rfl rfl dX6_restore_53 rfl ?_
      replace h := Option.some.inj h
      subst h
      exact AW.iret X hr dX6_restore_56
    · replace h := itep q4 h
      refine AW.bipush (v := (-3)) (pc' := 20) X rfl dX6_restore_18 rfl ?_
      replace h := Option.some.inj h
      subst h
      exact AW.iret X hr dX6_restore_20
  · replace h := itep q2 h
    refine AW.iconst (v := (-1)) (pc' := 8) X rfl dX6_restore_7 rfl ?_
    replace h := Option.some.inj h
    subst h
    exact AW.iret X hr dX6_restore_8
set_option maxHeartbeats 4000000 in
set_option maxRecDepth 100000 in
theorem ok_X6_lookAtLine_18 {a0 : Nat} {a1 : Nat} {L1 : Nat} {M : MM} (X : CX p s m args meth c cX6_lookAtLine 3 RX6 D dA ad lo n A) (hr : meth.sig.returnType = (some .int)) (h0 : tSS lo n a0) (h1 : tIA lo n L1 a1) : ∀ (s0 : Int32) (R : Int32), f_X6_lookAtLine_18 a0 a1 L1 M s0 = some R → AR p l e 2 43 s m args below meth c D dA ad lo n 3 A (some (.int R)) M 18 [] [.int s0] M := by
  intro s0 R h
  unfold f_X6_lookAtLine_18 at h
  replace h := Option.some.inj h
  subst h
  exact AW.iret X hr dX6_lookAtLine_18
set_option maxHeartbeats 4000000 in
set_option maxRecDepth 100000 in
theorem ok_X6_lookAtLine {lo n : Nat} {a0 : Nat} {a1 : Nat} {L1 : Nat} {x2 : Int32} {M : MM} {R : Int32} (h0 : tSS lo n a0) (h1 : tIA lo n L1 a1) (h : f_X6_lookAtLine a0 a1 L1 x2 M = some R) : MC yX6_lookAtLine cX6_lookAtLine 3 (some .int) 2 43 lo n [.ref a0, .ref a1, .int x2] M (some (.int R)) M := by
  refine MC.of (ls0 := [(0, .ref a0), (1, .ref a1), (2, .int x2)]) (by decide) rfl (fun _ => Nat.le_of_ble_eq_true rfl) (fun p l e s m args below meth c D dA ad A X hr => ?_)
  replace X : CX p s m args meth c cX6_lookAtLine 3 RX6 D dA ad lo n A := X
  unfold f_X6_lookAtLine at h
  refine AW.aload_n (k0 := 0) (pc' := 1) X rfl rfl dX6_lookAtLine_0 rfl ?_
  refine AW.gX6 (v := .ref 0) (pc' := 4) X h0 0 (by decide) rfl mf_X6_10 rfl dX6_lookAtLine_1 rfl ?_
  refine AW.iload_n (k0 := 2) (pc' := 5) X rfl rfl dX6_lookAtLine_4 rfl ?_
  obtain ⟨v1, c1, h⟩ := Option.bind_eq_some_iff.mp h
  refine AW.callV (As := [.int x2]) (rest := []) (rv := (some (.int (bz v1)))) (M' := M) (pc' := 8) X (ok_X4_hasLine (rX0 h0) c1) yv_X4_hasLine (rX0 h0).1 (rX0 h0).2.1 (cS (rX0 h0) dA ad _) rfl rfl ml_X6_207 ⟨by decide, by decide, by decide, by decide⟩ rfl (Nat.le_of_ble_eq_true rfl) rfl rfl dX6_lookAtLine_5 rfl ?_
  refine AW.if_eq (pc' := 11) (tgt := 17) X dX6_lookAtLine_8 rfl rfl (fun q2 => ?_) (fun q2 => ?_)
  · replace h := itep q2 h
    refine AW.iconst (v := (-1)) (pc' := 18) X rfl dX6_lookAtLine_17 rfl ?_
    refine AW.sub (ls' := []) [] rfl ?_
    exact ok_X6_lookAtLine_18 X hr h0 h1 (-1) R h
  · replace h := iten q2 h
    refine AW.aload_n (k0 := 1) (pc' := 12) X rfl rfl dX6_lookAtLine_11 rfl ?_
    refine AW.iload_n (k0 := 2) (pc' := 13) X rfl rfl dX6_lookAtLine_12 rfl ?_
    obtain ⟨g3, h⟩ := gd_some h
    refine AW.iald (pc' := 14) X h1 (inb_vp g3) dX6_lookAtLine_13 rfl ?_
    refine AW.goto (pc' := 18) X dX6_lookAtLine_14 rfl ?_
    refine AW.sub (ls' := []) [] rfl ?_
    exact ok_X6_lookAtLine_18 X hr h0 h1 (M a1 (ix x2)) R h
set_option maxHeartbeats 4000000 in
set_option maxRecDepth 100000 in
theorem ok_X6_frequency {lo n : Nat} {a0 : Nat} {x1 : Int32} {M : MM} {R : Int32} (h0 : tSS lo n a0) (h : f_X6_frequency a0 x1 M = some R) : MC yX6_frequency cX6_frequency 2 (some .int) 3 65 lo n [.ref a0, .int x1] M (some (.int R)) M := by
  refine MC.of (ls0 := [(0, .ref a0), (1, .int x1)]) (by decide) rfl (fun _ => Nat.le_of_ble_eq_true rfl) (fun p l e s m args below meth c D dA ad A X hr => ?_)
  replace X : CX p s m args meth c cX6_frequency 2 RX6 D dA ad lo n A := X
  unfold f_X6_frequency at h
  refine AW.aload_n (k0 := 0) (pc' := 1) X rfl rfl dX6_frequency_0 rfl ?_
  refine AW.aload_n (k0 := 0) (pc' := 2) X rfl rfl dX6_frequency_1 rfl ?_
  refine AW.gX6 (v := .ref 0) (pc' := 5) X h0 0 (by decide) rfl mf_X6_10 rfl dX6_frequency_2 rfl ?_
  refine AW.gX4 (v := .ref (0 + 1)) (pc' := 8) X (rX0 h0) 0 (by decide) rfl mf_X6_144 rfl dX6_frequency_5 rfl ?_
  refine AW.gX2 (v := .ref ((0 + 1) + 1)) (pc' := 11) X (rS1 (rX0 h0)) 0 (by decide) rfl mf_X6_148 rfl dX6_frequency_8 rfl ?_
  refine AW.iload_n (k0 := 1) (pc' := 12) X rfl rfl dX6_frequency_11 rfl ?_
  obtain ⟨v1, c1, h⟩ := Option.bind_eq_some_iff.mp h
  refine AW.callV (As := [.ref ((0 + 1) + 1), .int x1]) (rest := []) (rv := (some (.int v1))) (M' := M) (pc' := 15) X (ok_X6_lookAtLine h0 (rL1 (rS1 (rX0 h0))) c1) yv_X6_lookAtLine (h0).1.1 (h0).1.2.1 (cX h0 dA ad _) rfl rfl ml_X6_154 ⟨by decide, by decide, by decide, by decide⟩ rfl (Nat.le_of_ble_eq_true rfl) rfl rfl dX6_frequency_12 rfl ?_
  replace h := Option.some.inj h
  subst h
  exact AW.iret X hr dX6_frequency_15
set_option maxHeartbeats 4000000 in
set_option maxRecDepth 100000 in
theorem ok_X6_target {lo n : Nat} {a0 : Nat} {x1 : Int32} {M : MM} {R : Int32} (h0 : tSS lo n a0) (h : f_X6_target a0 x1 M = some R) : MC yX6_target cX6_target 2 (some .int) 2 48 lo n [.ref a0, .int x1] M (some (.int R)) M := by
  refine MC.of (ls0 := [(0, .ref a0), (1, .int x1)]) (by decide) rfl (fun _ => Nat.le_of_ble_eq_true rfl) (fun p l e s m args below meth c D dA ad A X hr => ?_)
  replace X : CX p s m args meth c cX6_target 2 RX6 D dA ad lo n A := X
  unfold f_X6_target at h
  refine AW.iload_n (k0 := 1) (pc' := 1) X rfl rfl dX6_target_0 rfl ?_
  obtain ⟨v1, c1, h⟩ := Option.bind_eq_some_iff.mp h
  refine AW.callS (As := [.int x1]) (rest := []) (rv := (some (.int (bz v1)))) (M' := M) (pc' := 4) X (ok_X6_isFrequency c1) yv_X6_isFrequency ml_X6_158 ⟨by decide, by decide, by decide, by decide⟩ rfl (Nat.le_of_ble_eq_true rfl) rfl rfl dX6_target_1 rfl ?_
  refine AW.if_ne (pc' := 7) (tgt := 10) X dX6_target_4 rfl rfl (fun q2 => ?_) (fun q2 => ?_)
  · replace h := iten q2 h
    refine AW.aload_n (k0 := 0) (pc' := 11) X rfl rfl dX6_target_10 rfl ?_
    refine AW.gX6 (v := .ref 0) (pc' := 14) X h0 0 (by decide) rfl mf_X6_10 rfl dX6_target_11 rfl ?_
    refine AW.gX4 (v := .ref (0 + 3)) (pc' := 17) X (rX0 h0) 1 (by decide) rfl mf_X6_161 rfl dX6_target_14 rfl ?_
    refine AW.iload_n (k0 := 1) (pc' := 18) X rfl rfl dX6_target_17 rfl ?_
    obtain ⟨v3, c3, h⟩ := Option.bind_eq_some_iff.mp h
    refine AW.callV (As := [.int x1]) (rest := []) (rv := (some (.int v3))) (M' := M) (pc' := 21) X (ok_X3_targetAt (rS3 (rX0 h0)) c3) yv_X3_targetAt (rS3 (rX0 h0)).1 (rS3 (rX0 h0)).2.1 (cP (rS3 (rX0 h0)) dA ad _) rfl rfl ml_X6_165 ⟨by decide, by decide, by decide, by decide⟩ rfl (Nat.le_of_ble_eq_true rfl) rfl rfl dX6_target_18 rfl ?_
    replace h := Option.some.inj h
    subst h
    exact AW.iret X hr dX6_target_21
  · replace h := itep q2 h
    refine AW.bipush (v := (-2)) (pc' := 9) X rfl dX6_target_7 rfl ?_
    replace h := Option.some.inj h
    subst h
    exact AW.iret X hr dX6_target_9
set_option maxHeartbeats 4000000 in
set_option maxRecDepth 100000 in
theorem ok_X6_gain {lo n : Nat} {a0 : Nat} {x1 : Int32} {x2 : Int32} {M : MM} {R : Int32} (h0 : tSS lo n a0) (h : f_X6_gain a0 x1 x2 M = some R) : MC yX6_gain cX6_gain 3 (some .int) 2 43 lo n [.ref a0, .int x1, .int x2] M (some (.int R)) M := by
  refine MC.of (ls0 := [(0, .ref a0), (1, .int x1), (2, .int x2)]) (by decide) rfl (fun _ => Nat.le_of_ble_eq_true rfl) (fun p l e s m args below meth c D dA ad A X hr => ?_)
  replace X : CX p s m args meth c cX6_gain 3 RX6 D dA ad lo n A := X
  unfold f_X6_gain at h
  refine AW.aload_n (k0 := 0) (pc' := 1) X rfl rfl dX6_gain_0 rfl ?_
  refine AW.gX6 (v := .ref 0) (pc' := 4) X h0 0 (by decide) rfl mf_X6_10 rfl dX6_gain_1 rfl ?_
  refine AW.iload_n (k0 := 1) (pc' := 5) X rfl rfl dX6_gain_4 rfl ?_
  obtain ⟨v1, c1, h⟩ := Option.bind_eq_some_iff.mp h
  refine AW.callV (As := [.int x1]) (rest := []) (rv := (some (.int (bz v1)))) (M' := M) (pc' := 8) X (ok_X4_hasChannel (rX0 h0) c1) yv_X4_hasChannel (rX0 h0).1 (rX0 h0).2.1 (cS (rX0 h0) dA ad _) rfl rfl ml_X6_61 ⟨by decide, by decide, by decide, by decide⟩ rfl (Nat.le_of_ble_eq_true rfl) rfl rfl dX6_gain_5 rfl ?_
  refine AW.if_ne (pc' := 11) (tgt := 13) X dX6_gain_8 rfl rfl (fun q2 => ?_) (fun q2 => ?_)
  · replace h := iten q2 h
    refine AW.iload_n (k0 := 2) (pc' := 14) X rfl rfl dX6_gain_13 rfl ?_
    obtain ⟨v3, c3, h⟩ := Option.bind_eq_some_iff.mp h
    refine AW.callS (As := [.int x2]) (rest := []) (rv := (some (.int (bz v3)))) (M' := M) (pc' := 17) X (ok_X6_isFrequency c3) yv_X6_isFrequency ml_X6_158 ⟨by decide, by decide, by decide, by decide⟩ rfl (Nat.le_of_ble_eq_true rfl) rfl rfl dX6_gain_14 rfl ?_
    refine AW.if_ne (pc' := 20) (tgt := 23) X dX6_gain_17 rfl rfl (fun q4 => ?_) (fun q4 => ?_)
    · replace h := iten q4 h
      refine AW.aload_n (k0 := 0) (pc' := 24) X rfl rfl dX6_gain_23 rfl ?_
      refine AW.gX6 (v := .ref 0) (pc' := 27) X h0 0 (by decide) rfl mf_X6_10 rfl dX6_gain_24 rfl ?_
      refine AW.gX4 (v := .ref (0 + 6)) (pc' := 30) X (rX0 h0) 2 (by decide) rfl mf_X6_65 rfl dX6_gain_27 rfl ?_
      refine AW.iload_n (k0 := 1) (pc' := 31) X rfl rfl dX6_gain_30 rfl ?_
      obtain ⟨g5, h⟩ := gd_some h
      refine AW.aldC (pc' := 32) X (rS6 (rX0 h0)) (inb_vp g5) dX6_gain_31 rfl ?_
      refine AW.iload_n (k0 := 2) (pc' := 33) X rfl rfl dX6_gain_32 rfl ?_
      obtain ⟨v6, c6, h⟩ := Option.bind_eq_some_iff.mp h
      refine AW.callV (As := [.int x2]) (rest := []) (rv := (some (.int v6))) (M' := M) (pc' := 36) X (ok_X0_gainAt (rCA (rS6 (rX0 h0)) (inb_lt g5)) c6) yv_X0_gainAt (rCA (rS6 (rX0 h0)) (inb_lt g5)).1 (rCA (rS6 (rX0 h0)) (inb_lt g5)).2.1 (cC (rCA (rS6 (rX0 h0)) (inb_lt g5)) dA ad _) rfl rfl ml_X6_170 ⟨by decide, by decide, by decide, by decide⟩ rfl (Nat.le_of_ble_eq_true rfl) rfl rfl dX6_gain_33 rfl ?_
      replace h := Option.some.inj h
      subst h
      exact AW.iret X hr dX6_gain_36
    · replace h := itep q4 h
      refine AW.bipush (v := (-2)) (pc' := 22) X rfl dX6_gain_20 rfl ?_
      replace h := Option.some.inj h
      subst h
      exact AW.iret X hr dX6_gain_22
  · replace h := itep q2 h
    refine AW.iconst (v := (-1)) (pc' := 12) X rfl dX6_gain_11 rfl ?_
    replace h := Option.some.inj h
    subst h
    exact AW.iret X hr dX6_gain_12
set_option maxHeartbeats 4000000 in
set_option maxRecDepth 100000 in
theorem ok_X6_limit {lo n : Nat} {a0 : Nat} {x1 : Int32} {x2 : Int32} {M : MM} {R : Int32} (h0 : tSS lo n a0) (h : f_X6_limit a0 x1 x2 M = some R) : MC yX6_limit cX6_limit 3 (some .int) 2 43 lo n [.ref a0, .int x1, .int x2] M (some (.int R)) M := by
  refine MC.of (ls0 := [(0, .ref a0), (1, .int x1), (2, .int x2)]) (by decide) rfl (fun _ => Nat.le_of_ble_eq_true rfl) (fun p l e s m args below meth c D dA ad A X hr => ?_)
  replace X : CX p s m args meth c cX6_limit 3 RX6 D dA ad lo n A := X
  unfold f_X6_limit at h
  refine AW.aload_n (k0 := 0) (pc' := 1) X rfl rfl dX6_limit_0 rfl ?_
  refine AW.gX6 (v := .ref 0) (pc' := 4) X h0 0 (by decide) rfl mf_X6_10 rfl dX6_limit_1 rfl ?_
  refine AW.iload_n (k0 := 1) (pc' := 5) X rfl rfl dX6_limit_4 rfl ?_
  obtain ⟨v1, c1, h⟩ := Option.bind_eq_some_iff.mp h
  refine AW.callV (As := [.int x1]) (rest := []) (rv := (some (.int (bz v1)))) (M' := M) (pc' := 8) X (ok_X4_hasChannel (rX0 h0) c1) yv_X4_hasChannel (rX0 h0).1 (rX0 h0).2.1 (cS (rX0 h0) dA ad _) rfl rfl ml_X6_61 ⟨by decide, by decide, by decide, by decide⟩ rfl (Nat.le_of_ble_eq_true rfl) rfl rfl dX6_limit_5 rfl ?_
  refine AW.if_ne (pc' := 11) (tgt := 13) X dX6_limit_8 rfl rfl (fun q2 => ?_) (fun q2 => ?_)
  · replace h := iten q2 h
    refine AW.iload_n (k0 := 2) (pc' := 14) X rfl rfl dX6_limit_13 rfl ?_
    obtain ⟨v3, c3, h⟩ := Option.bind_eq_some_iff.mp h
    refine AW.callS (As := [.int x2]) (rest := []) (rv := (some (.int (bz v3)))) (M' := M) (pc' := 17) X (ok_X6_isFrequency c3) yv_X6_isFrequency ml_X6_158 ⟨by decide, by decide, by decide, by decide⟩ rfl (Nat.le_of_ble_eq_true rfl) rfl rfl dX6_limit_14 rfl ?_
    refine AW.if_ne (pc' := 20) (tgt := 23) X dX6_limit_17 rfl rfl (fun q4 => ?_) (fun q4 => ?_)
    · replace h := iten q4 h
      refine AW.aload_n (k0 := 0) (pc' := 24) X rfl rfl dX6_limit_23 rfl ?_
      refine AW.gX6 (v := .ref 0) (pc' := 27) X h0 0 (by decide) rfl mf_X6_10 rfl dX6_limit_24 rfl ?_
      refine AW.gX4 (v := .ref (0 + 6)) (pc' := 30) X (rX0 h0) 2 (by decide) rfl mf_X6_65 rfl dX6_limit_27 rfl ?_
      refine AW.iload_n (k0 := 1) (pc' := 31) X rfl rfl dX6_limit_30 rfl ?_
      obtain ⟨g5, h⟩ := gd_some h
      refine AW.aldC (pc' := 32) X (rS6 (rX0 h0)) (inb_vp g5) dX6_limit_31 rfl ?_
      refine AW.iload_n (k0 := 2) (pc' := 33) X rfl rfl dX6_limit_32 rfl ?_
      obtain ⟨v6, c6, h⟩ := Option.bind_eq_some_iff.mp h
      refine AW.callV (As := [.int x2]) (rest := []) (rv := (some (.int v6))) (M' := M) (pc' := 36) X (ok_X0_limitAt (rCA (rS6 (rX0 h0)) (inb_lt g5)) c6) yv_X0_limitAt (rCA (rS6 (rX0 h0)) (inb_lt g5)).1 (rCA (rS6 (rX0 h0)) (inb_lt g5)).2.1 (cC (rCA (rS6 (rX0 h0)) (inb_lt g5)) dA ad _) rfl rfl ml_X6_173 ⟨by decide, by decide, by decide, by decide⟩ rfl (Nat.le_of_ble_eq_true rfl) rfl rfl dX6_limit_33 rfl ?_
      replace h := Option.some.inj h
      subst h
      exact AW.iret X hr dX6_limit_36
    · replace h := itep q4 h
      refine AW.bipush (v := (-2)) (pc' := 22) X rfl dX6_limit_20 rfl ?_
      replace h := Option.some.inj h
      subst h
      exact AW.iret X hr dX6_limit_22
  · replace h := itep q2 h
    refine AW.iconst (v := (-1)) (pc' := 12) X rfl dX6_limit_11 rfl ?_
    replace h := Option.some.inj h
    subst h
    exact AW.iret X hr dX6_limit_12
set_option maxHeartbeats 4000000 in
set_option maxRecDepth 100000 in
theorem ok_X6_channel {lo n : Nat} {a0 : Nat} {x1 : Int32} {x2 : Int32} {M : MM} {R : Int32} (h0 : tSS lo n a0) (h : f_X6_channel a0 x1 x2 M = some R) : MC yX6_channel cX6_channel 3 (some .int) 2 43 lo n [.ref a0, .int x1, .int x2] M (some (.int R)) M := by
  refine MC.of (ls0 := [(0, .ref a0), (1, .int x1), (2, .int x2)]) (by decide) rfl (fun _ => Nat.le_of_ble_eq_true rfl) (fun p l e s m args below meth c D dA ad A X hr => ?_)
  replace X : CX p s m args meth c cX6_channel 3 RX6 D dA ad lo n A := X
  unfold f_X6_channel at h
  refine AW.aload_n (k0 := 0) (pc' := 1) X rfl rfl dX6_channel_0 rfl ?_
  refine AW.gX6 (v := .ref 0) (pc' := 4) X h0 0 (by decide) rfl mf_X6_10 rfl dX6_channel_1 rfl ?_
  refine AW.iload_n (k0 := 1) (pc' := 5) X rfl rfl dX6_channel_4 rfl ?_
  obtain ⟨v1, c1, h⟩ := Option.bind_eq_some_iff.mp h
  refine AW.callV (As := [.int x1]) (rest := []) (rv := (some (.int (bz v1)))) (M' := M) (pc' := 8) X (ok_X4_hasChannel (rX0 h0) c1) yv_X4_hasChannel (rX0 h0).1 (rX0 h0).2.1 (cS (rX0 h0) dA ad _) rfl rfl ml_X6_61 ⟨by decide, by decide, by decide, by decide⟩ rfl (Nat.le_of_ble_eq_true rfl) rfl rfl dX6_channel_5 rfl ?_
  refine AW.if_ne (pc' := 11) (tgt := 13) X dX6_channel_8 rfl rfl (fun q2 => ?_) (fun q2 => ?_)
  · replace h := iten q2 h
    refine AW.iload_n (k0 := 2) (pc' := 14) X rfl rfl dX6_channel_13 rfl ?_
    refine AW.iconst (v := 0) (pc' := 15) X rfl dX6_channel_14 rfl ?_
    refine AW.bipush (v := 7) (pc' := 17) X rfl dX6_channel_15 rfl ?_
    obtain ⟨v3, c3, h⟩ := Option.bind_eq_some_iff.mp h
    refine AW.callS (As := [.int x2, .int 0, .int 7]) (rest := []) (rv := (some (.int (bz v3)))) (M' := M) (pc' := 20) X (ok_X6_isWithin c3) yv_X6_isWithin ml_X6_137 ⟨by decide, by decide, by decide, by decide⟩ rfl (Nat.le_of_ble_eq_true rfl) rfl rfl dX6_channel_17 rfl ?_
    refine AW.if_ne (pc' := 23) (tgt := 26) X dX6_channel_20 rfl rfl (fun q4 => ?_) (fun q4 => ?_)
    · replace h := iten q4 h
      refine AW.aload_n (k0 := 0) (pc' := 27) X rfl rfl dX6_channel_26 rfl ?_
      refine AW.gX6 (v := .ref 0) (pc' := 30) X h0 0 (by decide) rfl mf_X6_10 rfl dX6_channel_27 rfl ?_
      refine AW.gX4 (v := .ref (0 + 6)) (pc' := 33) X (rX0 h0) 2 (by decide) rfl mf_X6_65 rfl dX6_channel_30 rfl ?_
      refine AW.iload_n (k0 := 1) (pc' := 34) X rfl rfl dX6_channel_33 rfl ?_
      obtain ⟨g5, h⟩ := gd_some h
      refine AW.aldC (pc' := 35) X (rS6 (rX0 h0)) (inb_vp g5) dX6_channel_34 rfl ?_
      refine AW.iload_n (k0 := 2) (pc' := 36) X rfl rfl dX6_channel_35 rfl ?_
      obtain ⟨v6, c6, h⟩ := Option.bind_eq_some_iff.mp h
      refine AW.callV (As := [.int x2]) (rest := []) (rv := (some (.int v6))) (M' := M) (pc' := 39) X (ok_X0_propertyOf (rCA (rS6 (rX0 h0)) (inb_lt g5)) c6) yv_X0_propertyOf (rCA (rS6 (rX0 h0)) (inb_lt g5)).1 (rCA (rS6 (rX0 h0)) (inb_lt g5)).2.1 (cC (rCA (rS6 (rX0 h0)) (inb_lt g5)) dA ad _) rfl rfl ml_X6_176 ⟨by decide, by decide, by decide, by decide⟩ rfl (Nat.le_of_ble_eq_true rfl) rfl rfl dX6_channel_36 rfl ?_
      replace h := Option.some.inj h
      subst h
      exact AW.iret X hr dX6_channel_39
    · replace h := itep q4 h
      refine AW.bipush (v := (-2)) (pc' := 25) X rfl dX6_channel_23 rfl ?_
      replace h := Option.some.inj h
      subst h
      exact AW.iret X hr dX6_channel_25
  · replace h := itep q2 h
    refine AW.iconst (v := (-1)) (pc' := 12) X rfl dX6_channel_11 rfl ?_
    replace h := Option.some.inj h
    subst h
    exact AW.iret X hr dX6_channel_12
set_option maxHeartbeats 4000000 in
set_option maxRecDepth 100000 in
theorem ok_X6_level {lo n : Nat} {a0 : Nat} {x1 : Int32} {x2 : Int32} {M : MM} {R : Int32} (h0 : tSS lo n a0) (h : f_X6_level a0 x1 x2 M = some R) : MC yX6_level cX6_level 3 (some .int) 3 65 lo n [.ref a0, .int x1, .int x2] M (some (.int R)) M := by
  refine MC.of (ls0 := [(0, .ref a0), (1, .int x1), (2, .int x2)]) (by decide) rfl (fun _ => Nat.le_of_ble_eq_true rfl) (fun p l e s m args below meth c D dA ad A X hr => ?_)
  replace X : CX p s m args meth c cX6_level 3 RX6 D dA ad lo n A := X
  unfold f_X6_level at h
  refine AW.aload_n (k0 := 0) (pc' := 1) X rfl rfl dX6_level_0 rfl ?_
  refine AW.gX6 (v := .ref 0) (pc' := 4) X h0 0 (by decide) rfl mf_X6_10 rfl dX6_level_1 rfl ?_
  refine AW.iload_n (k0 := 2) (pc' := 5) X rfl rfl dX6_level_4 rfl ?_
  obtain ⟨v1, c1, h⟩ := Option.bind_eq_some_iff.mp h
  refine AW.callV (As := [.int x2]) (rest := []) (rv := (some (.int (bz v1)))) (M' := M) (pc' := 8) X (ok_X4_hasChannel (rX0 h0) c1) yv_X4_hasChannel (rX0 h0).1 (rX0 h0).2.1 (cS (rX0 h0) dA ad _) rfl rfl ml_X6_61 ⟨by decide, by decide, by decide, by decide⟩ rfl (Nat.le_of_ble_eq_true rfl) rfl rfl dX6_level_5 rfl ?_
  refine AW.if_ne (pc' := 11) (tgt := 13) X dX6_level_8 rfl rfl (fun q2 => ?_) (fun q2 => ?_)
  · replace h := iten q2 h
    refine AW.aload_n (k0 := 0) (pc' := 14) X rfl rfl dX6_level_13 rfl ?_
    refine AW.aload_n (k0 := 0) (pc' := 15) X rfl rfl dX6_level_14 rfl ?_
    refine AW.gX6 (v := .ref 0) (pc' := 18) X h0 0 (by decide) rfl mf_X6_10 rfl dX6_level_15 rfl ?_
    refine AW.gX4 (v := .ref (0 + 6)) (pc' := 21) X (rX0 h0) 2 (by decide) rfl mf_X6_65 rfl dX6_level_18 rfl ?_
    refine AW.iload_n (k0 := 2) (pc' := 22) X rfl rfl dX6_level_21 rfl ?_
    obtain ⟨g3, h⟩ := gd_some h
    refine AW.aldC (pc' := 23) X (rS6 (rX0 h0)) (inb_vp g3) dX6_level_22 rfl ?_
    refine AW.gX0 (v := .ref (((0 + 6) + 5 + 9 * (ix x2)) + 7)) (pc' := 26) X (rCA (rS6 (rX0 h0)) (inb_lt g3)) 10 (by decide) rfl mf_X6_179 rfl dX6_level_23 rfl ?_
    refine AW.iload_n (k0 := 1) (pc' := 27) X rfl rfl dX6_level_26 rfl ?_
    obtain ⟨v4, c4, h⟩ := Option.bind_eq_some_iff.mp h
    refine AW.callV (As := [.ref (((0 + 6) + 5 + 9 * (ix x2)) + 7), .int x1]) (rest := []) (rv := (some (.int v4))) (M' := M) (pc' := 30) X (ok_X6_lookAtLine h0 (rC7 (rCA (rS6 (rX0 h0)) (inb_lt g3))) c4) yv_X6_lookAtLine (h0).1.1 (h0).1.2.1 (cX h0 dA ad _) rfl rfl ml_X6_154 ⟨by decide, by decide, by decide, by decide⟩ rfl (Nat.le_of_ble_eq_true rfl) rfl rfl dX6_level_27 rfl ?_
    replace h := Option.some.inj h
    subst h
    exact AW.iret X hr dX6_level_30
  · replace h := itep q2 h
    refine AW.iconst (v := (-1)) (pc' := 12) X rfl dX6_level_11 rfl ?_
    replace h := Option.some.inj h
    subst h
    exact AW.iret X hr dX6_level_12
set_option maxHeartbeats 4000000 in
set_option maxRecDepth 100000 in
theorem ok_X6_averaged {lo n : Nat} {a0 : Nat} {x1 : Int32} {x2 : Int32} {M : MM} {R : Int32} (h0 : tSS lo n a0) (h : f_X6_averaged a0 x1 x2 M = some R) : MC yX6_averaged cX6_averaged 3 (some .int) 3 65 lo n [.ref a0, .int x1, .int x2] M (some (.int R)) M := by
  refine MC.of (ls0 := [(0, .ref a0), (1, .int x1), (2, .int x2)]) (by decide) rfl (fun _ => Nat.le_of_ble_eq_true rfl) (fun p l e s m args below meth c D dA ad A X hr => ?_)
  replace X : CX p s m args meth c cX6_averaged 3 RX6 D dA ad lo n A := X
  unfold f_X6_averaged at h
  refine AW.aload_n (k0 := 0) (pc' := 1) X rfl rfl dX6_averaged_0 rfl ?_
  refine AW.gX6 (v := .ref 0) (pc' := 4) X h0 0 (by decide) rfl mf_X6_10 rfl dX6_averaged_1 rfl ?_
  refine AW.iload_n (k0 := 2) (pc' := 5) X rfl rfl dX6_averaged_4 rfl ?_
  obtain ⟨v1, c1, h⟩ := Option.bind_eq_some_iff.mp h
  refine AW.callV (As := [.int x2]) (rest := []) (rv := (some (.int (bz v1)))) (M' := M) (pc' := 8) X (ok_X4_hasChannel (rX0 h0) c1) yv_X4_hasChannel (rX0 h0).1 (rX0 h0).2.1 (cS (rX0 h0) dA ad _) rfl rfl ml_X6_61 ⟨by decide, by decide, by decide, by decide⟩ rfl (Nat.le_of_ble_eq_true rfl) rfl rfl dX6_averaged_5 rfl ?_
  refine AW.if_ne (pc' := 11) (tgt := 13) X dX6_averaged_8 rfl rfl (fun q2 => ?_) (fun q2 => ?_)
  · replace h := iten q2 h
    refine AW.aload_n (k0 := 0) (pc' := 14) X rfl rfl dX6_averaged_13 rfl ?_
    refine AW.aload_n (k0 := 0) (pc' := 15) X rfl rfl dX6_averaged_14 rfl ?_
    refine AW.gX6 (v := .ref 0) (pc' := 18) X h0 0 (by decide) rfl mf_X6_10 rfl dX6_averaged_15 rfl ?_
    refine AW.gX4 (v := .ref (0 + 6)) (pc' := 21) X (rX0 h0) 2 (by decide) rfl mf_X6_65 rfl dX6_averaged_18 rfl ?_
    refine AW.iload_n (k0 := 2) (pc' := 22) X rfl rfl dX6_averaged_21 rfl ?_
    obtain ⟨g3, h⟩ := gd_some h
    refine AW.aldC (pc' := 23) X (rS6 (rX0 h0)) (inb_vp g3) dX6_averaged_22 rfl ?_
    refine AW.gX0 (v := .ref (((0 + 6) + 5 + 9 * (ix x2)) + 8)) (pc' := 26) X (rCA (rS6 (rX0 h0)) (inb_lt g3)) 11 (by decide) rfl mf_X6_182 rfl dX6_averaged_23 rfl ?_
    refine AW.iload_n (k0 := 1) (pc' := 27) X rfl rfl dX6_averaged_26 rfl ?_
    obtain ⟨v4, c4, h⟩ := Option.bind_eq_some_iff.mp h
    refine AW.callV (As := [.ref (((0 + 6) + 5 + 9 * (ix x2)) + 8), .int x1]) (rest := []) (rv := (some (.int v4))) (M' := M) (pc' := 30) X (ok_X6_lookAtLine h0 (rC8 (rCA (rS6 (rX0 h0)) (inb_lt g3))) c4) yv_X6_lookAtLine (h0).1.1 (h0).1.2.1 (cX h0 dA ad _) rfl rfl ml_X6_154 ⟨by decide, by decide, by decide, by decide⟩ rfl (Nat.le_of_ble_eq_true rfl) rfl rfl dX6_averaged_27 rfl ?_
    replace h := Option.some.inj h
    subst h
    exact AW.iret X hr dX6_averaged_30
  · replace h := itep q2 h
    refine AW.iconst (v := (-1)) (pc' := 12) X rfl dX6_averaged_11 rfl ?_
    replace h := Option.some.inj h
    subst h
    exact AW.iret X hr dX6_averaged_12
set_option maxHeartbeats 4000000 in
set_option maxRecDepth 100000 in
theorem ok_X6_controlGain {lo n : Nat} {a0 : Nat} {x1 : Int32} {M : MM} {R : Int32} (h0 : tSS lo n a0) (h : f_X6_controlGain a0 x1 M = some R) : MC yX6_controlGain cX6_controlGain 2 (some .int) 3 65 lo n [.ref a0, .int x1] M (some (.int R)) M := by
  refine MC.of (ls0 := [(0, .ref a0), (1, .int x1)]) (by decide) rfl (fun _ => Nat.le_of_ble_eq_true rfl) (fun p l e s m args below meth c D dA ad A X hr => ?_)
  replace X : CX p s m args meth c cX6_controlGain 2 RX6 D dA ad lo n A := X
  unfold f_X6_controlGain at h
  refine AW.aload_n (k0 := 0) (pc' := 1) X rfl rfl dX6_controlGain_0 rfl ?_
  refine AW.aload_n (k0 := 0) (pc' := 2) X rfl rfl dX6_controlGain_1 rfl ?_
  refine AW.gX6 (v := .ref 0) (pc' := 5) X h0 0 (by decide) rfl mf_X6_10 rfl dX6_controlGain_2 rfl ?_
  refine AW.gX4 (v := .ref (0 + 8)) (pc' := 8) X (rX0 h0) 5 (by decide) rfl mf_X6_185 rfl dX6_controlGain_5 rfl ?_
  refine AW.iload_n (k0 := 1) (pc' := 9) X rfl rfl dX6_controlGain_8 rfl ?_
  obtain ⟨v1, c1, h⟩ := Option.bind_eq_some_iff.mp h
  refine AW.callV (As := [.ref (0 + 8), .int x1]) (rest := []) (rv := (some (.int v1))) (M' := M) (pc' := 12) X (ok_X6_lookAtLine h0 (rS8 (rX0 h0)) c1) yv_X6_lookAtLine (h0).1.1 (h0).1.2.1 (cX h0 dA ad _) rfl rfl ml_X6_154 ⟨by decide, by decide, by decide, by decide⟩ rfl (Nat.le_of_ble_eq_true rfl) rfl rfl dX6_controlGain_9 rfl ?_
  replace h := Option.some.inj h
  subst h
  exact AW.iret X hr dX6_controlGain_12
set_option maxHeartbeats 4000000 in
set_option maxRecDepth 100000 in
theorem ok_X6_driveAt {lo n : Nat} {a0 : Nat} {x1 : Int32} {M : MM} {R : Int32} (h0 : tSS lo n a0) (h : f_X6_driveAt a0 x1 M = some R) : MC yX6_driveAt cX6_driveAt 2 (some .int) 3 65 lo n [.ref a0, .int x1] M (some (.int R)) M := by
  refine MC.of (ls0 := [(0, .ref a0), (1, .int x1)]) (by decide) rfl (fun _ => Nat.le_of_ble_eq_true rfl) (fun p l e s m args below meth c D dA ad A X hr => ?_)
  replace X : CX p s m args meth c cX6_driveAt 2 RX6 D dA ad lo n A := X
  unfold f_X6_driveAt at h
  refine AW.aload_n (k0 := 0) (pc' := 1) X rfl rfl dX6_driveAt_0 rfl ?_
  refine AW.aload_n (k0 := 0) (pc' := 2) X rfl rfl dX6_driveAt_1 rfl ?_
  refine AW.gX6 (v := .ref 0) (pc' := 5) X h0 0 (by decide) rfl mf_X6_10 rfl dX6_driveAt_2 rfl ?_
  refine AW.gX4 (v := .ref (0 + 9)) (pc' := 8) X (rX0 h0) 6 (by decide) rfl mf_X6_188 rfl dX6_driveAt_5 rfl ?_
  refine AW.iload_n (k0 := 1) (pc' := 9) X rfl rfl dX6_driveAt_8 rfl ?_
  obtain ⟨v1, c1, h⟩ := Option.bind_eq_some_iff.mp h
  refine AW.callV (As := [.ref (0 + 9), .int x1]) (rest := []) (rv := (some (.int v1))) (M' := M) (pc' := 12) X (ok_X6_lookAtLine h0 (rS9 (rX0 h0)) c1) yv_X6_lookAtLine (h0).1.1 (h0).1.2.1 (cX h0 dA ad _) rfl rfl ml_X6_154 ⟨by decide, by decide, by decide, by decide⟩ rfl (Nat.le_of_ble_eq_true rfl) rfl rfl dX6_driveAt_9 rfl ?_
  replace h := Option.some.inj h
  subst h
  exact AW.iret X hr dX6_driveAt_12
set_option maxHeartbeats 4000000 in
set_option maxRecDepth 100000 in
theorem ok_X6_notchedBy {lo n : Nat} {a0 : Nat} {x1 : Int32} {M : MM} {R : Int32} (h0 : tSS lo n a0) (h : f_X6_notchedBy a0 x1 M = some R) : MC yX6_notchedBy cX6_notchedBy 2 (some .int) 3 65 lo n [.ref a0, .int x1] M (some (.int R)) M := by
  refine MC.of (ls0 := [(0, .ref a0), (1, .int x1)]) (by decide) rfl (fun _ => Nat.le_of_ble_eq_true rfl) (fun p l e s m args below meth c D dA ad A X hr => ?_)
  replace X : CX p s m args meth c cX6_notchedBy 2 RX6 D dA ad lo n A := X
  unfold f_X6_notchedBy at h
  refine AW.aload_n (k0 := 0) (pc' := 1) X rfl rfl dX6_notchedBy_0 rfl ?_
  refine AW.aload_n (k0 := 0) (pc' := 2) X rfl rfl dX6_notchedBy_1 rfl ?_
  refine AW.gX6 (v := .ref 0) (pc' := 5) X h0 0 (by decide) rfl mf_X6_10 rfl dX6_notchedBy_2 rfl ?_
  refine AW.gX4 (v := .ref (0 + 10)) (pc' := 8) X (rX0 h0) 7 (by decide) rfl mf_X6_191 rfl dX6_notchedBy_5 rfl ?_
  refine AW.iload_n (k0 := 1) (pc' := 9) X rfl rfl dX6_notchedBy_8 rfl ?_
  obtain ⟨v1, c1, h⟩ := Option.bind_eq_some_iff.mp h
  refine AW.callV (As := [.ref (0 + 10), .int x1]) (rest := []) (rv := (some (.int v1))) (M' := M) (pc' := 12) X (ok_X6_lookAtLine h0 (rS10 (rX0 h0)) c1) yv_X6_lookAtLine (h0).1.1 (h0).1.2.1 (cX h0 dA ad _) rfl rfl ml_X6_154 ⟨by decide, by decide, by decide, by decide⟩ rfl (Nat.le_of_ble_eq_true rfl) rfl rfl dX6_notchedBy_9 rfl ?_
  replace h := Option.some.inj h
  subst h
  exact AW.iret X hr dX6_notchedBy_12
set_option maxHeartbeats 4000000 in
set_option maxRecDepth 100000 in
theorem ok_X6_resonance {lo n : Nat} {a0 : Nat} {x1 : Int32} {x2 : Int32} {M : MM} {R : Int32} (h0 : tSS lo n a0) (h : f_X6_resonance a0 x1 x2 M = some R) : MC yX6_resonance cX6_resonance 3 (some .int) 5 115 lo n [.ref a0, .int x1, .int x2] M (some (.int R)) M := by
  refine MC.of (ls0 := [(0, .ref a0), (1, .int x1), (2, .int x2)]) (by decide) rfl (fun _ => Nat.le_of_ble_eq_true rfl) (fun p l e s m args below meth c D dA ad A X hr => ?_)
  replace X : CX p s m args meth c cX6_resonance 3 RX6 D dA ad lo n A := X
  unfold f_X6_resonance at h
  refine AW.aload_n (k0 := 0) (pc' := 1) X rfl rfl dX6_resonance_0 rfl ?_
  refine AW.gX6 (v := .ref 0) (pc' := 4) X h0 0 (by decide) rfl mf_X6_10 rfl dX6_resonance_1 rfl ?_
  refine AW.iload_n (k0 := 1) (pc' := 5) X rfl rfl dX6_resonance_4 rfl ?_
  obtain ⟨v1, c1, h⟩ := Option.bind_eq_some_iff.mp h
  refine AW.callV (As := [.int x1]) (rest := []) (rv := (some (.int (bz v1)))) (M' := M) (pc' := 8) X (ok_X4_hasChannel (rX0 h0) c1) yv_X4_hasChannel (rX0 h0).1 (rX0 h0).2.1 (cS (rX0 h0) dA ad _) rfl rfl ml_X6_61 ⟨by decide, by decide, by decide, by decide⟩ rfl (Nat.le_of_ble_eq_true rfl) rfl rfl dX6_resonance_5 rfl ?_
  refine AW.if_ne (pc' := 11) (tgt := 13) X dX6_resonance_8 rfl rfl (fun q2 => ?_) (fun q2 => ?_)
  · replace h := iten q2 h
    refine AW.iload_n (k0 := 2) (pc' := 14) X rfl rfl dX6_resonance_13 rfl ?_
    refine AW.if_ge (pc' := 17) (tgt := 20) X dX6_resonance_14 rfl rfl (fun q3 => ?_) (fun q3 => ?_)
    · replace h := itep q3 h
      refine AW.aload_n (k0 := 0) (pc' := 21) X rfl rfl dX6_resonance_20 rfl ?_
      refine AW.gX6 (v := .ref 0) (pc' := 24) X h0 0 (by decide) rfl mf_X6_10 rfl dX6_resonance_21 rfl ?_
      refine AW.gX4 (v := .ref (0 + 6)) (pc' := 27) X (rX0 h0) 2 (by decide) rfl mf_X6_65 rfl dX6_resonance_24 rfl ?_
      refine AW.iload_n (k0 := 1) (pc' := 28) X rfl rfl dX6_resonance_27 rfl ?_
      obtain ⟨g4, h⟩ := gd_some h
      refine AW.aldC (pc' := 29) X (rS6 (rX0 h0)) (inb_vp g4) dX6_resonance_28 rfl ?_
      refine AW.iload_n (k0 := 2) (pc' := 30) X rfl rfl dX6_resonance_29 rfl ?_
      refine AW.aload_n (k0 := 0) (pc' := 31) X rfl rfl dX6_resonance_30 rfl ?_
      refine AW.gX6 (v := .ref 0) (pc' := 34) X h0 0 (by decide) rfl mf_X6_10 rfl dX6_resonance_31 rfl ?_
      refine AW.gX4 (v := .ref (0 + 1)) (pc' := 37) X (rX0 h0) 0 (by decide) rfl mf_X6_144 rfl dX6_resonance_34 rfl ?_
      refine AW.gX2 (v := .int (M (0 + 1) 1)) (pc' := 40) X (rS1 (rX0 h0)) 1 (by decide) rfl mf_X6_194 rfl dX6_resonance_37 rfl ?_
      obtain ⟨v5, c5, h⟩ := Option.bind_eq_some_iff.mp h
      refine AW.callV (As := [.int x2, .int (M (0 + 1) 1)]) (rest := []) (rv := (some (.int v5))) (M' := M) (pc' := 43) X (ok_X0_resonanceAt (rCA (rS6 (rX0 h0)) (inb_lt g4)) c5) yv_X0_resonanceAt (rCA (rS6 (rX0 h0)) (inb_lt g4)).1 (rCA (rS6 (rX0 h0)) (inb_lt g4)).2.1 (cC (rCA (rS6 (rX0 h0)) (inb_lt g4)) dA ad _) rfl rfl ml_X6_197 ⟨by decide, by decide, by decide, by decide⟩ rfl (Nat.le_of_ble_eq_true rfl) rfl rfl dX6_resonance_40 rfl ?_
      replace h := Option.some.inj h
      subst h
      exact AW.iret X hr dX6_resonance_43
    · replace h := iten q3 h
      refine AW.bipush (v := (-2)) (pc' := 19) X rfl dX6_resonance_17 rfl ?_
      replace h := Option.some.inj h
      subst h
      exact AW.iret X hr dX6_resonance_19
  · replace h := itep q2 h
    refine AW.iconst (v := (-1)) (pc' := 12) X rfl dX6_resonance_11 rfl ?_
    replace h := Option.some.inj h
    subst h
    exact AW.iret X hr dX6_resonance_12
set_option maxHeartbeats 4000000 in
set_option maxRecDepth 100000 in
theorem ok_X6_total {lo n : Nat} {a0 : Nat} {x1 : Int32} {M : MM} {R : Int32} (h0 : tSS lo n a0) (h : f_X6_total a0 x1 M = some R) : MC yX6_total cX6_total 2 (some .int) 1 22 lo n [.ref a0, .int x1] M (some (.int R)) M := by
  refine MC.of (ls0 := [(0, .ref a0), (1, .int x1)]) (by decide) rfl (fun _ => Nat.le_of_ble_eq_true rfl) (fun p l e s m args below meth c D dA ad A X hr => ?_)
  replace X : CX p s m args meth c cX6_total 2 RX6 D dA ad lo n A := X
  unfold f_X6_total at h
  refine AW.iload_n (k0 := 1) (pc' := 1) X rfl rfl dX6_total_0 rfl ?_
  refine AW.iconst (v := 0) (pc' := 2) X rfl dX6_total_1 rfl ?_
  refine AW.bipush (v := 19) (pc' := 4) X rfl dX6_total_2 rfl ?_
  obtain ⟨v1, c1, h⟩ := Option.bind_eq_some_iff.mp h
  refine AW.callS (As := [.int x1, .int 0, .int 19]) (rest := []) (rv := (some (.int (bz v1)))) (M' := M) (pc' := 7) X (ok_X6_isWithin c1) yv_X6_isWithin ml_X6_137 ⟨by decide, by decide, by decide, by decide⟩ rfl (Nat.le_of_ble_eq_true rfl) rfl rfl dX6_total_4 rfl ?_
  refine AW.if_ne (pc' := 10) (tgt := 13) X dX6_total_7 rfl rfl (fun q2 => ?_) (fun q2 => ?_)
  · replace h := iten q2 h
    refine AW.iload_n (k0 := 1) (pc' := 14) X rfl rfl dX6_total_13 rfl ?_
    refine AW.bipush (v := 14) (pc' := 16) X rfl dX6_total_14 rfl ?_
    refine AW.icmp_lt (pc' := 19) (tgt := 32) X dX6_total_16 rfl rfl (fun q3 => ?_) (fun q3 => ?_)
    · replace h := itep q3 h
      refine AW.iload_n (k0 := 1) (pc' := 33) X rfl rfl dX6_total_32 rfl ?_
      refine AW.bipush (v := 12) (pc' := 35) X rfl dX6_total_33 rfl ?_
      refine AW.icmp_ne (pc' := 38) (tgt := 46) X dX6_total_35 rfl rfl (fun q4 => ?_) (fun q4 => ?_)
      · replace h := iten q4 h
        refine AW.iload_n (k0 := 1) (pc' := 47) X rfl rfl dX6_total_46 rfl ?_
        refine AW.bipush (v := 13) (pc' := 49) X rfl dX6_total_47 rfl ?_
        refine AW.icmp_ne (pc' := 52) (tgt := 60) X dX6_total_49 rfl rfl (fun q5 => ?_) (fun q5 => ?_)
        · replace h := iten q5 h
          refine AW.aload_n (k0 := 0) (pc' := 61) X rfl rfl dX6_total_60 rfl ?_
          refine AW.gX6 (v := .ref 0) (pc' := 64) X h0 0 (by decide) rfl mf_X6_10 rfl dX6_total_61 rfl ?_
          refine AW.iload_n (k0 := 1) (pc' := 65) X rfl rfl dX6_total_64 rfl ?_
          obtain ⟨v6, c6, h⟩ := Option.bind_eq_some_iff.mp h
          refine AW.callV (As := [.int x1]) (rest := []) (rv := (some (.int v6))) (M' := M) (pc' := 68) X (ok_X4_totalOf (rX0 h0) c6) yv_X4_totalOf (rX0 h0).1 (rX0 h0).2.1 (cS (rX0 h0) dA ad _) rfl rfl ml_X6_204 ⟨by decide, by decide, by decide, by decide⟩ rfl (Nat.le_of_ble_eq_true rfl) rfl rfl dX6_total_65 rfl ?_
          replace h := Option.some.inj h
          subst h
          exact AW.iret X hr dX6_total_68
        · replace h := itep q5 h
          refine AW.aload_n (k0 := 0) (pc' := 53) X rfl rfl dX6_total_52 rfl ?_
          refine AW.gX6 (v := .ref 655) (pc' := 56) X h0 5 (by decide) rfl mf_X6_37 rfl dX6_total_53 rfl ?_
          refine AW.gX5 (v := .int (M 655 1)) (pc' := 59) X (rX5 h0) 1 (by decide) rfl mf_X6_98 rfl dX6_total_56 rfl ?_
          replace h := Option.some.inj h
          subst h
          exact AW.iret X hr dX6_total_59
      · replace h := itep q4 h
        refine AW.aload_n (k0 := 0) (pc' := 39) X rfl rfl dX6_total_38 rfl ?_
        refine AW.gX6 (v := .ref 651) (pc' := 42) X h0 2 (by decide) rfl mf_X6_22 rfl dX6_total_39 rfl ?_
        refine AW.gX1 (v := .int (M 651 2)) (pc' := 45) X (rX2 h0) 2 (by decide) rfl mf_X6_203 rfl dX6_total_42 rfl ?_
        replace h := Option.some.inj h
        subst h
        exact AW.iret X hr dX6_total_45
    · replace h := iten q3 h
      refine AW.aload_n (k0 := 0) (pc' := 20) X rfl rfl dX6_total_19 rfl ?_
      refine AW.gX6 (v := .ref 0) (pc' := 23) X h0 0 (by decide) rfl mf_X6_10 rfl dX6_total_20 rfl ?_
      refine AW.gX4 (v := .ref (0 + 7)) (pc' := 26) X (rX0 h0) 4 (by decide) rfl mf_X6_200 rfl dX6_total_23 rfl ?_
      refine AW.iload_n (k0 := 1) (pc' := 27) X rfl rfl dX6_total_26 rfl ?_
      refine AW.bipush (v := 14) (pc' := 29) X rfl dX6_total_27 rfl ?_
      refine AW.isub (pc' := 30) X dX6_total_29 rfl ?_
      obtain ⟨g7, h⟩ := gd_some h
      refine AW.iald (pc' := 31) X (rS7 (rX0 h0)) (inb_vp g7) dX6_total_30 rfl ?_
      replace h := Option.some.inj h
      subst h
      exact AW.iret X hr dX6_total_31
  · replace h := itep q2 h
    refine AW.bipush (v := (-2)) (pc' := 12) X rfl dX6_total_10 rfl ?_
    replace h := Option.some.inj h
    subst h
    exact AW.iret X hr dX6_total_12
set_option maxHeartbeats 4000000 in
set_option maxRecDepth 100000 in
theorem ok_X6_loopsLeft_59 {a0 : Nat} (X : CX p s m args meth c cX6_loopsLeft 2 RX6 D dA ad lo n A) (hr : meth.sig.returnType = (some .int)) (h0 : tSS lo n a0) : ∀ (s0 : Int32) (M : MM) (R : (Int32 × MM)), f_X6_loopsLeft_59 a0 s0 M = some R → AR p l e 4 104 s m args below meth c D dA ad lo n 2 A (some (.int R.1)) R.2 59 [] [.int s0] M := by
  intro s0 M R h
  unfold f_X6_loopsLeft_59 at h
  replace h := Option.some.inj h
  subst h
  exact AW.iret X hr dX6_loopsLeft_59
set_option maxHeartbeats 4000000 in
set_option maxRecDepth 100000 in
theorem ok_X6_loopsLeft_43 {a0 : Nat} (X : CX p s m args meth c cX6_loopsLeft 2 RX6 D dA ad lo n A) (hr : meth.sig.returnType = (some .int)) (h0 : tSS lo n a0) : ∀ (x1 : Int32) (M : MM) (R : (Int32 × MM)), f_X6_loopsLeft_43 a0 x1 M = some R → AR p l e 4 104 s m args below meth c D dA ad lo n 2 A (some (.int R.1)) R.2 43 [(0, .ref a0), (1, .int x1)] [] M := by
  intro x1 M R h
  unfold f_X6_loopsLeft_43 at h
  refine AW.aload_n (k0 := 0) (pc' := 44) X rfl rfl dX6_loopsLeft_43 rfl ?_
  refine AW.gX6 (v := .ref 65) (pc' := 47) X h0 1 (by decide) rfl mf_X6_16 rfl dX6_loopsLeft_44 rfl ?_
  obtain ⟨v1, c1, h⟩ := Option.bind_eq_some_iff.mp h
  refine AW.callV (As := []) (rest := []) (rv := (some (.int (bz v1)))) (M' := M) (pc' := 50) X (ok_X4_rests (rX1 h0) c1) yv_X4_rests (rX1 h0).1 (rX1 h0).2.1 (cS (rX1 h0) dA ad _) rfl rfl ml_X6_210 ⟨by decide, by decide, by decide, by decide⟩ rfl (Nat.le_of_ble_eq_true rfl) rfl rfl dX6_loopsLeft_47 rfl ?_
  refine AW.if_eq (pc' := 53) (tgt := 57) X dX6_loopsLeft_50 rfl rfl (fun q2 => ?_) (fun q2 => ?_)
  · replace h := itep q2 h
    refine AW.bipush (v := (-6)) (pc' := 59) X rfl dX6_loopsLeft_57 rfl ?_
    refine AW.sub (ls' := []) [] rfl ?_
    exact ok_X6_loopsLeft_59 X hr h0 (-6) M R h
  · replace h := iten q2 h
    refine AW.iload_n (k0 := 1) (pc' := 54) X rfl rfl dX6_loopsLeft_53 rfl ?_
    refine AW.goto (pc' := 59) X dX6_loopsLeft_54 rfl ?_
    refine AW.sub (ls' := []) [] rfl ?_
    exact ok_X6_loopsLeft_59 X hr h0 x1 M R h
set_option maxHeartbeats 4000000 in
set_option maxRecDepth 100000 in
theorem ok_X6_loopsLeft_13 {a0 : Nat} (X : CX p s m args meth c cX6_loopsLeft 2 RX6 D dA ad lo n A) (hr : meth.sig.returnType = (some .int)) (h0 : tSS lo n a0) : ∀ (k : Nat) (x1 : Int32) (M : MM) (R : (Int32 × MM)), f_X6_loopsLeft_13 a0 k x1 M = some R → AR p l e 4 104 s m args below meth c D dA ad lo n 2 A (some (.int R.1)) R.2 13 [(0, .ref a0), (1, .int x1)] [] M := by
  intro k
  induction k with
  | zero => intro _ _ R h; exact none_some h
  | succ k ih =>
    intro x1 M R h
    unfold f_X6_loopsLeft_13 at h
    refine AW.iload_n (k0 := 1) (pc' := 14) X rfl rfl dX6_loopsLeft_13 rfl ?_
    refine AW.sipush (v := 500) (pc' := 17) X rfl dX6_loopsLeft_14 rfl ?_
    refine AW.icmp_ge (pc' := 20) (tgt := 43) X dX6_loopsLeft_17 rfl rfl (fun q1 => ?_) (fun q1 => ?_)
    · replace h := itep q1 h
      exact ok_X6_loopsLeft_43 X hr h0 x1 M R h
    · replace h := iten q1 h
      refine AW.aload_n (k0 := 0) (pc' := 21) X rfl rfl dX6_loopsLeft_20 rfl ?_
      refine AW.gX6 (v := .ref 65) (pc' := 24) X h0 1 (by decide) rfl mf_X6_16 rfl dX6_loopsLeft_21 rfl ?_
      obtain ⟨v2, c2, h⟩ := Option.bind_eq_some_iff.mp h
      refine AW.callV (As := []) (rest := []) (rv := (some (.int (bz v2)))) (M' := M) (pc' := 27) X (ok_X4_rests (rX1 h0) c2) yv_X4_rests (rX1 h0).1 (rX1 h0).2.1 (cS (rX1 h0) dA ad _) rfl rfl ml_X6_210 ⟨by decide, by decide, by decide, by decide⟩ rfl (Nat.le_of_ble_eq_true rfl) rfl rfl dX6_loopsLeft_24 rfl ?_
      refine AW.if_ne (pc' := 30) (tgt := 43) X dX6_loopsLeft_27 rfl rfl (fun q3 => ?_) (fun q3 => ?_)
      · replace h := iten q3 h
        exact ok_X6_loopsLeft_43 X hr h0 x1 M R h
      · replace h := itep q3 h
        refine AW.aload_n (k0 := 0) (pc' := 31) X rfl rfl dX6_loopsLeft_30 rfl ?_
        refine AW.gX6 (v := .ref 65) (pc' := 34) X h0 1 (by decide) rfl mf_X6_16 rfl dX6_loopsLeft_31 rfl ?_
        obtain ⟨v4, c4, h⟩ := Option.bind_eq_some_iff.mp h
        refine AW.callV (As := []) (rest := []) (rv := none) (M' := v4) (pc' := 37) X (ok_X4_doLoop (rX1 h0) c4) yv_X4_doLoop (rX1 h0).1 (rX1 h0).2.1 (cS (rX1 h0) dA ad _) rfl rfl ml_X6_213 ⟨by decide, by decide, by decide, by decide⟩ rfl (Nat.le_of_ble_eq_true rfl) rfl rfl dX6_loopsLeft_34 rfl ?_
        refine AW.iinc (k0 := 1) (v := (x1 + 1)) (y := 1) (ls' := [(1, .int (x1 + 1)), (0, .ref a0)]) (pc' := 40) X rfl rfl rfl (by decide) rfl dX6_loopsLeft_37 rfl ?_
        refine AW.goto (pc' := 13) X dX6_loopsLeft_40 rfl ?_
        refine AW.sub (ls' := [(0, .ref a0), (1, .int (x1 + 1))]) [1, 0] rfl ?_
        exact ih (x1 + 1) v4 R h
set_option maxHeartbeats 4000000 in
set_option maxRecDepth 100000 in
theorem ok_X6_loopsLeft {lo n : Nat} {a0 : Nat} {M : MM} {R : (Int32 × MM)} (h0 : tSS lo n a0) (h : f_X6_loopsLeft a0 M = some R) : MC yX6_loopsLeft cX6_loopsLeft 2 (some .int) 4 104 lo n [.ref a0] M (some (.int R.1)) R.2 := by
  refine MC.of (ls0 := [(0, .ref a0)]) (by decide) rfl (fun _ => Nat.le_of_ble_eq_true rfl) (fun p l e s m args below meth c D dA ad A X hr => ?_)
  replace X : CX p s m args meth c cX6_loopsLeft 2 RX6 D dA ad lo n A := X
  unfold f_X6_loopsLeft at h
  refine AW.aload_n (k0 := 0) (pc' := 1) X rfl rfl dX6_loopsLeft_0 rfl ?_
  refine AW.gX6 (v := .ref 65) (pc' := 4) X h0 1 (by decide) rfl mf_X6_16 rfl dX6_loopsLeft_1 rfl ?_
  refine AW.aload_n (k0 := 0) (pc' := 5) X rfl rfl dX6_loopsLeft_4 rfl ?_
  refine AW.gX6 (v := .ref 0) (pc' := 8) X h0 0 (by decide) rfl mf_X6_10 rfl dX6_loopsLeft_5 rfl ?_
  obtain ⟨v1, c1, h⟩ := Option.bind_eq_some_iff.mp h
  refine AW.callV (As := [.ref 0]) (rest := []) (rv := none) (M' := v1) (pc' := 11) X (ok_X4_copyFrom (rX1 h0) (rX0 h0) c1) yv_X4_copyFrom (rX1 h0).1 (rX1 h0).2.1 (cS (rX1 h0) dA ad _) rfl rfl ml_X6_131 ⟨by decide, by decide, by decide, by decide⟩ rfl (Nat.le_of_ble_eq_true rfl) rfl rfl dX6_loopsLeft_8 rfl ?_
  refine AW.iconst (v := 0) (pc' := 12) X rfl dX6_loopsLeft_11 rfl ?_
  refine AW.istore_n (ls' := [(1, .int 0), (0, .ref a0)]) (pc' := 13) X rfl (by decide) rfl dX6_loopsLeft_12 rfl ?_
  refine AW.sub (ls' := [(0, .ref a0), (1, .int 0)]) [1, 0] rfl ?_
  exact ok_X6_loopsLeft_13 X hr h0 FU 0 v1 R h
set_option maxHeartbeats 4000000 in
set_option maxRecDepth 100000 in
theorem ok_X6_wouldAbort_68 {a0 : Nat} (X : CX p s m args meth c cX6_wouldAbort 3 RX6 D dA ad lo n A) (hr : meth.sig.returnType = (some .int)) (h0 : tSS lo n a0) : ∀ (M : MM) (R : (Int32 × MM)), f_X6_wouldAbort_68 a0 M = some R → AR p l e 4 104 s m args below meth c D dA ad lo n 3 A (some (.int R.1)) R.2 68 [(0, .ref a0)] [] M := by
  intro M R h
  unfold f_X6_wouldAbort_68 at h
  refine AW.aload_n (k0 := 0) (pc' := 69) X rfl rfl dX6_wouldAbort_68 rfl ?_
  refine AW.gX6 (v := .ref 65) (pc' := 72) X h0 1 (by decide) rfl mf_X6_16 rfl dX6_wouldAbort_69 rfl ?_
  refine AW.gX4 (v := .int (M 65 14)) (pc' := 75) X (rX1 h0) 14 (by decide) rfl mf_X6_219 rfl dX6_wouldAbort_72 rfl ?_
  replace h := Option.some.inj h
  subst h
  exact AW.iret X hr dX6_wouldAbort_75
set_option maxHeartbeats 4000000 in
set_option maxRecDepth 100000 in
theorem ok_X6_wouldAbort_40 {a0 : Nat} (X : CX p s m args meth c cX6_wouldAbort 3 RX6 D dA ad lo n A) (hr : meth.sig.returnType = (some .int)) (h0 : tSS lo n a0) : ∀ (k : Nat) (x1 : Int32) (x2 : Int32) (M : MM) (R : (Int32 × MM)), f_X6_wouldAbort_40 a0 k x1 x2 M = some R → AR p l e 4 104 s m args below meth c D dA ad lo n 3 A (some (.int R.1)) R.2 40 [(0, .ref a0), (1, .int x1), (2, .int x2)] [] M := by
  intro k
  induction k with
  | zero => intro _ _ _ R h; exact none_some h
  | succ k ih =>
    intro x1 x2 M R h
    unfold f_X6_wouldAbort_40 at h
    refine AW.iload_n (k0 := 2) (pc' := 41) X rfl rfl dX6_wouldAbort_40 rfl ?_
    refine AW.iload_n (k0 := 1) (pc' := 42) X rfl rfl dX6_wouldAbort_41 rfl ?_
    refine AW.icmp_ge (pc' := 45) (tgt := 68) X dX6_wouldAbort_42 rfl rfl (fun q1 => ?_) (fun q1 => ?_)
    · replace h := itep q1 h
      refine AW.sub (ls' := [(0, .ref a0)]) [0] rfl ?_
      exact ok_X6_wouldAbort_68 X hr h0 M R h
    · replace h := iten q1 h
      refine AW.aload_n (k0 := 0) (pc' := 46) X rfl rfl dX6_wouldAbort_45 rfl ?_
      refine AW.gX6 (v := .ref 65) (pc' := 49) X h0 1 (by decide) rfl mf_X6_16 rfl dX6_wouldAbort_46 rfl ?_
      obtain ⟨v2, c2, h⟩ := Option.bind_eq_some_iff.mp h
      refine AW.callV (As := []) (rest := []) (rv := (some (.int (bz v2)))) (M' := M) (pc' := 52) X (ok_X4_measures (rX1 h0) c2) yv_X4_measures (rX1 h0).1 (rX1 h0).2.1 (cS (rX1 h0) dA ad _) rfl rfl ml_X6_216 ⟨by decide, by decide, by decide, by decide⟩ rfl (Nat.le_of_ble_eq_true rfl) rfl rfl dX6_wouldAbort_49 rfl ?_
      refine AW.if_eq (pc' := 55) (tgt := 68) X dX6_wouldAbort_52 rfl rfl (fun q3 => ?_) (fun q3 => ?_)
      · replace h := itep q3 h
        refine AW.sub (ls' := [(0, .ref a0)]) [0] rfl ?_
        exact ok_X6_wouldAbort_68 X hr h0 M R h
      · replace h := iten q3 h
        refine AW.aload_n (k0 := 0) (pc' := 56) X rfl rfl dX6_wouldAbort_55 rfl ?_
        refine AW.gX6 (v := .ref 65) (pc' := 59) X h0 1 (by decide) rfl mf_X6_16 rfl dX6_wouldAbort_56 rfl ?_
        obtain ⟨v4, c4, h⟩ := Option.bind_eq_some_iff.mp h
        refine AW.callV (As := []) (rest := []) (rv := none) (M' := v4) (pc' := 62) X (ok_X4_doLoop (rX1 h0) c4) yv_X4_doLoop (rX1 h0).1 (rX1 h0).2.1 (cS (rX1 h0) dA ad _) rfl rfl ml_X6_213 ⟨by decide, by decide, by decide, by decide⟩ rfl (Nat.le_of_ble_eq_true rfl) rfl rfl dX6_wouldAbort_59 rfl ?_
        refine AW.iinc (k0 := 2) (v := (x2 + 1)) (y := 1) (ls' := [(2, .int (x2 + 1)), (0, .ref a0), (1, .int x1)]) (pc' := 65) X rfl rfl rfl (by decide) rfl dX6_wouldAbort_62 rfl ?_
        refine AW.goto (pc' := 40) X dX6_wouldAbort_65 rfl ?_
        refine AW.sub (ls' := [(0, .ref a0), (1, .int x1), (2, .int (x2 + 1))]) [1, 2, 0] rfl ?_
        exact ih x1 (x2 + 1) v4 R h
set_option maxHeartbeats 4000000 in
set_option maxRecDepth 100000 in
theorem ok_X6_wouldAbort {lo n : Nat} {a0 : Nat} {x1 : Int32} {M : MM} {R : (Int32 × MM)} (h0 : tSS lo n a0) (h : f_X6_wouldAbort a0 x1 M = some R) : MC yX6_wouldAbort cX6_wouldAbort 3 (some .int) 4 104 lo n [.ref a0, .int x1] M (some (.int R.1)) R.2 := by
  refine MC.of (ls0 := [(0, .ref a0), (1, .int x1)]) (by decide) rfl (fun _ => Nat.le_of_ble_eq_true rfl) (fun p l e s m args below meth c D dA ad A X hr => ?_)
  replace X : CX p s m args meth c cX6_wouldAbort 3 RX6 D dA ad lo n A := X
  unfold f_X6_wouldAbort at h
  refine AW.iload_n (k0 := 1) (pc' := 1) X rfl rfl dX6_wouldAbort_0 rfl ?_
  refine AW.iconst (v := 1) (pc' := 2) X rfl dX6_wouldAbort_1 rfl ?_
  refine AW.sipush (v := 300) (pc' := 5) X rfl dX6_wouldAbort_2 rfl ?_
  obtain ⟨v1, c1, h⟩ := Option.bind_eq_some_iff.mp h
  refine AW.callS (As := [.int x1, .int 1, .int 300]) (rest := []) (rv := (some (.int (bz v1)))) (M' := M) (pc' := 8) X (ok_X6_isWithin c1) yv_X6_isWithin ml_X6_137 ⟨by decide, by decide, by decide, by decide⟩ rfl (Nat.le_of_ble_eq_true rfl) rfl rfl dX6_wouldAbort_5 rfl ?_
  refine AW.if_ne (pc' := 11) (tgt := 14) X dX6_wouldAbort_8 rfl rfl (fun q2 => ?_) (fun q2 => ?_)
  · replace h := iten q2 h
    refine AW.aload_n (k0 := 0) (pc' := 15) X rfl rfl dX6_wouldAbort_14 rfl ?_
    refine AW.gX6 (v := .ref 0) (pc' := 18) X h0 0 (by decide) rfl mf_X6_10 rfl dX6_wouldAbort_15 rfl ?_
    obtain ⟨v3, c3, h⟩ := Option.bind_eq_some_iff.mp h
    refine AW.callV (As := []) (rest := []) (rv := (some (.int (bz v3)))) (M' := M) (pc' := 21) X (ok_X4_measures (rX0 h0) c3) yv_X4_measures (rX0 h0).1 (rX0 h0).2.1 (cS (rX0 h0) dA ad _) rfl rfl ml_X6_216 ⟨by decide, by decide, by decide, by decide⟩ rfl (Nat.le_of_ble_eq_true rfl) rfl rfl dX6_wouldAbort_18 rfl ?_
    refine AW.if_ne (pc' := 24) (tgt := 27) X dX6_wouldAbort_21 rfl rfl (fun q4 => ?_) (fun q4 => ?_)
    · replace h := iten q4 h
      refine AW.aload_n (k0 := 0) (pc' := 28) X rfl rfl dX6_wouldAbort_27 rfl ?_
      refine AW.gX6 (v := .ref 65) (pc' := 31) X h0 1 (by decide) rfl mf_X6_16 rfl dX6_wouldAbort_28 rfl ?_
      refine AW.aload_n (k0 := 0) (pc' := 32) X rfl rfl dX6_wouldAbort_31 rfl ?_
      refine AW.gX6 (v := .ref 0) (pc' := 35) X h0 0 (by decide) rfl mf_X6_10 rfl dX6_wouldAbort_32 rfl ?_
      obtain ⟨v5, c5, h⟩ := Option.bind_eq_some_iff.mp h
      refine AW.callV (As := [.ref 0]) (rest := []) (rv := none) (M' := v5) (pc' := 38) X (ok_X4_copyFrom (rX1 h0) (rX0 h0) c5) yv_X4_copyFrom (rX1 h0).1 (rX1 h0).2.1 (cS (rX1 h0) dA ad _) rfl rfl ml_X6_131 ⟨by decide, by decide, by decide, by decide⟩ rfl (Nat.le_of_ble_eq_true rfl) rfl rfl dX6_wouldAbort_35 rfl ?_
      refine AW.iconst (v := 0) (pc' := 39) X rfl dX6_wouldAbort_38 rfl ?_
      refine AW.istore_n (ls' := [(2, .int 0), (0, .ref a0), (1, .int x1)]) (pc' := 40) X rfl (by decide) rfl dX6_wouldAbort_39 rfl ?_
      refine AW.sub (ls' := [(0, .ref a0), (1, .int x1), (2, .int 0)]) [1, 2, 0] rfl ?_
      exact ok_X6_wouldAbort_40 X hr h0 FU x1 0 v5 R h
    · replace h := itep q4 h
      refine AW.bipush (v := (-6)) (pc' := 26) X rfl dX6_wouldAbort_24 rfl ?_
      replace h := Option.some.inj h
      subst h
      exact AW.iret X hr dX6_wouldAbort_26
  · replace h := itep q2 h
    refine AW.bipush (v := (-2)) (pc' := 13) X rfl dX6_wouldAbort_11 rfl ?_
    replace h := Option.some.inj h
    subst h
    exact AW.iret X hr dX6_wouldAbort_13
set_option maxHeartbeats 4000000 in
set_option maxRecDepth 100000 in
theorem ok_X6_highest_90 {a0 : Nat} (X : CX p s m args meth c cX6_highest 5 RX6 D dA ad lo n A) (hr : meth.sig.returnType = (some .int)) (h0 : tSS lo n a0) : ∀ (x3 : Int32) (M : MM) (R : (Int32 × MM)), f_X6_highest_90 a0 x3 M = some R → AR p l e 4 104 s m args below meth c D dA ad lo n 5 A (some (.int R.1)) R.2 90 [(3, .int x3)] [] M := by
  intro x3 M R h
  unfold f_X6_highest_90 at h
  refine AW.iload_n (k0 := 0) (pc' := 91) X rfl rfl dX6_highest_90 rfl ?_
  replace h := Option.some.inj h
  subst h
  exact AW.iret X hr dX6_highest_91
set_option maxHeartbeats 4000000 in
set_option maxRecDepth 100000 in
theorem ok_X6_highest_44 {a0 : Nat} (X : CX p s m args meth c cX6_highest 5 RX6 D dA ad lo n A) (hr : meth.sig.returnType = (some .int)) (h0 : tSS lo n a0) : ∀ (k : Nat) (x1 : Int32) (x2 : Int32) (x3 : Int32) (x4 : Int32) (M : MM) (R : (Int32 × MM)), f_X6_highest_44 a0 k x1 x2 x3 x4 M = some R → AR p l e 4 104 s m args below meth c D dA ad lo n 5 A (some (.int R.1)) R.2 44 [(0, .ref a0), (1, .int x1), (2, .int x2), (3, .int x3), (4, .int x4)] [] M := by
  intro k
  induction k with
  | zero => intro _ _ _ _ _ R h; exact none_some h
  | succ k ih =>
    intro x1 x2 x3 x4 M R h
    unfold f_X6_highest_44 at h
    refine AW.iload (k0 := 4) (pc' := 46) X rfl dX6_highest_44 rfl ?_
    refine AW.iload_n (k0 := 2) (pc' := 47) X rfl rfl dX6_highest_46 rfl ?_
    refine AW.icmp_ge (pc' := 50) (tgt := 90) X dX6_highest_47 rfl rfl (fun q1 => ?_) (fun q1 => ?_)
    · replace h := itep q1 h
      refine AW.sub (ls' := [(3, .int x3)]) [3] rfl ?_
      exact ok_X6_highest_90 X hr h0 x3 M R h
    · replace h := iten q1 h
      refine AW.aload_n (k0 := 0) (pc' := 51) X rfl rfl dX6_highest_50 rfl ?_
      refine AW.gX6 (v := .ref 65) (pc' := 54) X h0 1 (by decide) rfl mf_X6_16 rfl dX6_highest_51 rfl ?_
      obtain ⟨v2, c2, h⟩ := Option.bind_eq_some_iff.mp h
      refine AW.callV (As := []) (rest := []) (rv := (some (.int (bz v2)))) (M' := M) (pc' := 57) X (ok_X4_measures (rX1 h0) c2) yv_X4_measures (rX1 h0).1 (rX1 h0).2.1 (cS (rX1 h0) dA ad _) rfl rfl ml_X6_216 ⟨by decide, by decide, by decide, by decide⟩ rfl (Nat.le_of_ble_eq_true rfl) rfl rfl dX6_highest_54 rfl ?_
      refine AW.if_eq (pc' := 60) (tgt := 90) X dX6_highest_57 rfl rfl (fun q3 => ?_) (fun q3 => ?_)
      · replace h := itep q3 h
        refine AW.sub (ls' := [(3, .int x3)]) [3] rfl ?_
        exact ok_X6_highest_90 X hr h0 x3 M R h
      · replace h := iten q3 h
        refine AW.aload_n (k0 := 0) (pc' := 61) X rfl rfl dX6_highest_60 rfl ?_
        refine AW.gX6 (v := .ref 65) (pc' := 64) X h0 1 (by decide) rfl mf_X6_16 rfl dX6_highest_61 rfl ?_
        obtain ⟨v4, c4, h⟩ := Option.bind_eq_some_iff.mp h
        refine AW.callV (As := []) (rest := []) (rv := none) (M' := v4) (pc' := 67) X (ok_X4_doLoop (rX1 h0) c4) yv_X4_doLoop (rX1 h0).1 (rX1 h0).2.1 (cS (rX1 h0) dA ad _) rfl rfl ml_X6_213 ⟨by decide, by decide, by decide, by decide⟩ rfl (Nat.le_of_ble_eq_true rfl) rfl rfl dX6_highest_64 rfl ?_
        refine AW.iload_n (k0 := 3) (pc' := 68) X rfl rfl dX6_highest_67 rfl ?_
        refine AW.aload_n (k0 := 0) (pc' := 69) X rfl rfl dX6_highest_68 rfl ?_
        refine AW.gX6 (v := .ref 65) (pc' := 72) X h0 1 (by decide) rfl mf_X6_16 rfl dX6_highest_69 rfl ?_
        refine AW.gX4 (v := .ref (65 + 6)) (pc' := 75) X (rX1 h0) 2 (by decide) rfl mf_X6_65 rfl dX6_highest_72 rfl ?_
        refine AW.iload_n (k0 := 1) (pc' := 76) X rfl rfl dX6_highest_75 rfl ?_
        obtain ⟨g5, h⟩ := gd_some h
        refine AW.aldC (pc' := 77) X (rS6 (rX1 h0)) (inb_vp g5) dX6_highest_76 rfl ?_
        refine AW.gX0 (v := .int (v4 ((65 + 6) + 5 + 9 * (ix x1)) 12)) (pc' := 80) X (rCA (rS6 (rX1 h0)) (inb_lt g5)) 12 (by decide) rfl mf_X6_222 rfl dX6_highest_77 rfl ?_
        refine AW.mmax (pc' := 83) X ⟨by decide, by decide, by decide, by decide⟩ (Nat.le_of_ble_eq_true rfl) ml_X6_225 dX6_highest_80 rfl ?_
        refine AW.istore_n (ls' := [(3, .int (if x3 < (v4 ((65 + 6) + 5 + 9 * (ix x1)) 12) then (v4 ((65 + 6) + 5 + 9 * (ix x1)) 12) else x3)), (0, .ref a0), (1, .int x1), (2, .int x2), (4, .int x4)]) (pc' := 84) X rfl (by decide) rfl dX6_highest_83 rfl ?_
        refine AW.iinc (k0 := 4) (v := (x4 + 1)) (y := 1) (ls' := [(4, .int (x4 + 1)), (3, .int (if x3 < (v4 ((65 + 6) + 5 + 9 * (ix x1)) 12) then (v4 ((65 + 6) + 5 + 9 * (ix x1)) 12) else x3)), (0, .ref a0), (1, .int x1), (2, .int x2)]) (pc' := 87) X rfl rfl rfl (by decide) rfl dX6_highest_84 rfl ?_
        refine AW.goto (pc' := 44) X dX6_highest_87 rfl ?_
        refine AW.sub (ls' := [(0, .ref a0), (1, .int x1), (2, .int x2), (3, .int (if x3 < (v4 ((65 + 6) + 5 + 9 * (ix x1)) 12) then (v4 ((65 + 6) + 5 + 9 * (ix x1)) 12) else x3)), (4, .int (x4 + 1))]) [2, 3, 4, 1, 0] rfl ?_
        exact ih x1 x2 (if x3 < (v4 ((65 + 6) + 5 + 9 * (ix x1)) 12) then (v4 ((65 + 6) + 5 + 9 * (ix x1)) 12) else x3) (x4 + 1) v4 R h
set_option maxHeartbeats 4000000 in
set_option maxRecDepth 100000 in
theorem ok_X6_highest {lo n : Nat} {a0 : Nat} {x1 : Int32} {x2 : Int32} {M : MM} {R : (Int32 × MM)} (h0 : tSS lo n a0) (h : f_X6_highest a0 x1 x2 M = some R) : MC yX6_highest cX6_highest 5 (some .int) 4 104 lo n [.ref a0, .int x1, .int x2] M (some (.int R.1)) R.2 := by
  refine MC.of (ls0 := [(0, .ref a0), (1, .int x1), (2, .int x2)]) (by decide) rfl (fun _ => Nat.le_of_ble_eq_true rfl) (fun p l e s m args below meth c D dA ad A X hr => ?_)
  replace X : CX p s m args meth c cX6_highest 5 RX6 D dA ad lo n A := X
  unfold f_X6_highest at h
  refine AW.aload_n (k0 := 0) (pc' := 1) X rfl rfl dX6_highest_0 rfl ?_
  refine AW.gX6 (v := .ref 0) (pc' := 4) X h0 0 (by decide) rfl mf_X6_10 rfl dX6_highest_1 rfl ?_
  refine AW.iload_n (k0 := 1) (pc' := 5) X rfl rfl dX6_highest_4 rfl ?_
  obtain ⟨v1, c1, h⟩ := Option.bind_eq_some_iff.mp h
  refine AW.callV (As := [.int x1]) (rest := []) (rv := (some (.int (bz v1)))) (M' := M) (pc' := 8) X (ok_X4_hasChannel (rX0 h0) c1) yv_X4_hasChannel (rX0 h0).1 (rX0 h0).2.1 (cS (rX0 h0) dA ad _) rfl rfl ml_X6_61 ⟨by decide, by decide, by decide, by decide⟩ rfl (Nat.le_of_ble_eq_true rfl) rfl rfl dX6_highest_5 rfl ?_
  refine AW.if_ne (pc' := 11) (tgt := 13) X dX6_highest_8 rfl rfl (fun q2 => ?_) (fun q2 => ?_)
  · replace h := iten q2 h
    refine AW.iload_n (k0 := 2) (pc' := 14) X rfl rfl dX6_highest_13 rfl ?_
    refine AW.iconst (v := 1) (pc' := 15) X rfl dX6_highest_14 rfl ?_
    refine AW.sipush (v := 300) (pc' := 18) X rfl dX6_highest_15 rfl ?_
    obtain ⟨v3, c3, h⟩ := Option.bind_eq_some_iff.mp h
    refine AW.callS (As := [.int x2, .int 1, .int 300]) (rest := []) (rv := (some (.int (bz v3)))) (M' := M) (pc' := 21) X (ok_X6_isWithin c3) yv_X6_isWithin ml_X6_137 ⟨by decide, by decide, by decide, by decide⟩ rfl (Nat.le_of_ble_eq_true rfl) rfl rfl dX6_highest_18 rfl ?_
    refine AW.if_ne (pc' := 24) (tgt := 27) X dX6_highest_21 rfl rfl (fun q4 => ?_) (fun q4 => ?_)
    · replace h := iten q4 h
      refine AW.aload_n (k0 := 0) (pc' := 28) X rfl rfl dX6_highest_27 rfl ?_
      refine AW.gX6 (v := .ref 65) (pc' := 31) X h0 1 (by decide) rfl mf_X6_16 rfl dX6_highest_28 rfl ?_
      refine AW.aload_n (k0 := 0) (pc' := 32) X rfl rfl dX6_highest_31 rfl ?_
      refine AW.gX6 (v := .ref 0) (pc' := 35) X h0 0 (by decide) rfl mf_X6_10 rfl dX6_highest_32 rfl ?_
      obtain ⟨v5, c5, h⟩ := Option.bind_eq_some_iff.mp h
      refine AW.callV (As := [.ref 0]) (rest := []) (rv := none) (M' := v5) (pc' := 38) X (ok_X4_copyFrom (rX1 h0) (rX0 h0) c5) yv_X4_copyFrom (rX1 h0).1 (rX1 h0).2.1 (cS (rX1 h0) dA ad _) rfl rfl ml_X6_131 ⟨by decide, by decide, by decide, by decide⟩ rfl (Nat.le_of_ble_eq_true rfl) rfl rfl dX6_highest_35 rfl ?_
      refine AW.bipush (v := (-6)) (pc' := 40) X rfl dX6_highest_38 rfl ?_
      refine AW.istore_n (ls' := [(3, .int (-6)), (0, .ref a0), (1, .int x1), (2, .int x2)]) (pc' := 41) X rfl (by decide) rfl dX6_highest_40 rfl ?_
      refine AW.iconst (v := 0) (pc' := 42) X rfl dX6_highest_41 rfl ?_
      refine AW.istore (ls' := [(4, .int 0), (3, .int (-6)), (0, .ref a0), (1, .int x1), (2, .int x2)]) (pc' := 44) X (by decide) rfl dX6_highest_42 rfl ?_
      refine AW.sub (ls' := [(0, .ref a0), (1, .int x1), (2, .int x2), (3, .int (-6)), (4, .int 0)]) [2, 3, 4, 1, 0] rfl ?_
      exact ok_X6_highest_44 X hr h0 FU x1 x2 (-6) 0 v5 R h
    · replace h := itep q4 h
      refine AW.bipush (v := (-2)) (pc' := 26) X rfl dX6_highest_24 rfl ?_
      replace h := Option.some.inj h
      subst h
      exact AW.iret X hr dX6_highest_26
  · replace h := itep q2 h
    refine AW.iconst (v := (-1)) (pc' := 12) X rfl dX6_highest_11 rfl ?_
    replace h := Option.some.inj h
    subst h
    exact AW.iret X hr dX6_highest_12
set_option maxHeartbeats 4000000 in
set_option maxRecDepth 100000 in
theorem ok_X7_in_15 {M : MM} (X : CX p s m args meth c cX7_in 3 RX7 D dA ad lo n A) (hr : meth.sig.returnType = (some .boolean)) : ∀ (sb0 : Bool) (R : Bool), f_X7_in_15 M sb0 = some R → AR p l e 0 0 s m args below meth c D dA ad lo n 3 A (some (.int (bz R))) M 15 [] [.int (bz sb0)] M := by
  intro sb0 R h
  unfold f_X7_in_15 at h
  replace h := Option.some.inj h
  subst h
  exact AW.zret (b := sb0) X hr dX7_in_15
set_option maxHeartbeats 4000000 in
set_option maxRecDepth 100000 in
theorem ok_X7_in_14 {M : MM} (X : CX p s m args meth c cX7_in 3 RX7 D dA ad lo n A) (hr : meth.sig.returnType = (some .boolean)) : ∀  (R : Bool), f_X7_in_14 M  = some R → AR p l e 0 0 s m args below meth c D dA ad lo n 3 A (some (.int (bz R))) M 14 [] [] M := by
  intro  R h
  unfold f_X7_in_14 at h
  refine AW.iconst (v := 0) (pc' := 15) X rfl dX7_in_14 rfl ?_
  exact ok_X7_in_15 X hr false R h
set_option maxHeartbeats 4000000 in
set_option maxRecDepth 100000 in
theorem ok_X7_in {lo n : Nat} {x0 : Int32} {x1 : Int32} {x2 : Int32} {M : MM} {R : Bool}  (h : f_X7_in x0 x1 x2 M = some R) : MC yX7_in cX7_in 3 (some .boolean) 0 0 lo n [.int x0, .int x1, .int x2] M (some (.int (bz R))) M := by
  refine MC.of (ls0 := [(0, .int x0), (1, .int x1), (2, .int x2)]) (by decide) rfl (fun _ => Nat.le_of_ble_eq_true rfl) (fun p l e s m args below meth c D dA ad A X hr => ?_)
  replace X : CX p s m args meth c cX7_in 3 RX7 D dA ad lo n A := X
  unfold f_X7_in at h
  refine AW.iload_n (k0 := 0) (pc' := 1) X rfl rfl dX7_in_0 rfl ?_
  refine AW.iload_n (k0 := 1) (pc' := 2) X rfl rfl dX7_in_1 rfl ?_
  refine AW.icmp_lt (pc' := 5) (tgt := 14) X dX7_in_2 rfl rfl (fun q1 => ?_) (fun q1 => ?_)
  · replace h := itep q1 h
    refine AW.sub (ls' := []) [] rfl ?_
    exact ok_X7_in_14 X hr R h
  · replace h := iten q1 h
    refine AW.iload_n (k0 := 0) (pc' := 6) X rfl rfl dX7_in_5 rfl ?_
    refine AW.iload_n (k0 := 2) (pc' := 7) X rfl rfl dX7_in_6 rfl ?_
    refine AW.icmp_gt (pc' := 10) (tgt := 14) X dX7_in_7 rfl rfl (fun q2 => ?_) (fun q2 => ?_)
    · replace h := itep q2 h
      refine AW.sub (ls' := []) [] rfl ?_
      exact ok_X7_in_14 X hr R h
    · replace h := iten q2 h
      refine AW.iconst (v := 1) (pc' := 11) X rfl dX7_in_10 rfl ?_
      refine AW.goto (pc' := 15) X dX7_in_11 rfl ?_
      refine AW.sub (ls' := []) [] rfl ?_
      exact ok_X7_in_15 X hr true R h
set_option maxHeartbeats 4000000 in
set_option maxRecDepth 100000 in
theorem ok_X7_copies_2 {a0 : Nat} (X : CX p s m args meth c cX7_copies 4 RX7 D dA ad lo n A) (hr : meth.sig.returnType = none) (h0 : tMo lo n a0) : ∀ (k : Nat) (x1 : Int32) (x2 : Int32) (x3 : Int32) (M : MM) (R : MM), f_X7_copies_2 a0 k x1 x2 x3 M = some R → AR p l e 0 0 s m args below meth c D dA ad lo n 4 A none R 2 [(0, .ref a0), (1, .int x1), (2, .int x2), (3, .int x3)] [] M := by
  intro k
  induction k with
  | zero => intro _ _ _ _ R h; exact none_some h
  | succ k ih =>
    intro x1 x2 x3 M R h
    unfold f_X7_copies_2 at h
    refine AW.iload_n (k0 := 3) (pc' := 3) X rfl rfl dX7_copies_2 rfl ?_
    refine AW.sipush (v := 1808) (pc' := 6) X rfl dX7_copies_3 rfl ?_
    refine AW.icmp_ge (pc' := 9) (tgt := 31) X dX7_copies_6 rfl rfl (fun q1 => ?_) (fun q1 => ?_)
    · replace h := itep q1 h
      replace h := Option.some.inj h
      subst h
      exact AW.vret X hr dX7_copies_31
    · replace h := iten q1 h
      refine AW.aload_n (k0 := 0) (pc' := 10) X rfl rfl dX7_copies_9 rfl ?_
      refine AW.gX7 (v := .ref (a0 + 1)) (pc' := 13) X h0 0 (by decide) rfl mf_X7_7 rfl dX7_copies_10 rfl ?_
      refine AW.iload_n (k0 := 2) (pc' := 14) X rfl rfl dX7_copies_13 rfl ?_
      refine AW.iload_n (k0 := 3) (pc' := 15) X rfl rfl dX7_copies_14 rfl ?_
      refine AW.iadd (pc' := 16) X dX7_copies_15 rfl ?_
      refine AW.aload_n (k0 := 0) (pc' := 17) X rfl rfl dX7_copies_16 rfl ?_
      refine AW.gX7 (v := .ref (a0 + 1)) (pc' := 20) X h0 0 (by decide) rfl mf_X7_7 rfl dX7_copies_17 rfl ?_
      refine AW.iload_n (k0 := 1) (pc' := 21) X rfl rfl dX7_copies_20 rfl ?_
      refine AW.iload_n (k0 := 3) (pc' := 22) X rfl rfl dX7_copies_21 rfl ?_
      refine AW.iadd (pc' := 23) X dX7_copies_22 rfl ?_
      obtain ⟨g2, h⟩ := gd_some h
      refine AW.iald (pc' := 24) X (rM1 h0) (inb_vp g2) dX7_copies_23 rfl ?_
      obtain ⟨g3, h⟩ := gd_some h
      refine AW.iast (pc' := 25) X (rM1 h0) (inb_vp g3) dX7_copies_24 rfl ?_
      refine AW.iinc (k0 := 3) (v := (x3 + 1)) (y := 1) (ls' := [(3, .int (x3 + 1)), (0, .ref a0), (1, .int x1), (2, .int x2)]) (pc' := 28) X rfl rfl rfl (by decide) rfl dX7_copies_25 rfl ?_
      refine AW.goto (pc' := 2) X dX7_copies_28 rfl ?_
      refine AW.sub (ls' := [(0, .ref a0), (1, .int x1), (2, .int x2), (3, .int (x3 + 1))]) [1, 2, 3, 0] rfl ?_
      exact ih x1 x2 (x3 + 1) (ms M (a0 + 1) (ix (x2 + x3)) (M (a0 + 1) (ix (x1 + x3)))) R h
set_option maxHeartbeats 4000000 in
set_option maxRecDepth 100000 in
theorem ok_X7_copies {lo n : Nat} {a0 : Nat} {x1 : Int32} {x2 : Int32} {M : MM} {R : MM} (h0 : tMo lo n a0) (h : f_X7_copies a0 x1 x2 M = some R) : MC yX7_copies cX7_copies 4 none 0 0 lo n [.ref a0, .int x1, .int x2] M none R := by
  refine MC.of (ls0 := [(0, .ref a0), (1, .int x1), (2, .int x2)]) (by decide) rfl (fun _ => Nat.le_of_ble_eq_true rfl) (fun p l e s m args below meth c D dA ad A X hr => ?_)
  replace X : CX p s m args meth c cX7_copies 4 RX7 D dA ad lo n A := X
  unfold f_X7_copies at h
  refine AW.iconst (v := 0) (pc' := 1) X rfl dX7_copies_0 rfl ?_
  refine AW.istore_n (ls' := [(3, .int 0), (0, .ref a0), (1, .int x1), (2, .int x2)]) (pc' := 2) X rfl (by decide) rfl dX7_copies_1 rfl ?_
  refine AW.sub (ls' := [(0, .ref a0), (1, .int x1), (2, .int x2), (3, .int 0)]) [1, 2, 3, 0] rfl ?_
  exact ok_X7_copies_2 X hr h0 FU x1 x2 0 M R h
set_option maxHeartbeats 4000000 in
set_option maxRecDepth 100000 in
theorem ok_X7_records_47 {a0 : Nat} (X : CX p s m args meth c cX7_records 2 RX7 D dA ad lo n A) (hr : meth.sig.returnType = none) (h0 : tMo lo n a0) : ∀ (M : MM) (R : MM), f_X7_records_47 a0 M = some R → AR p l e 1 23 s m args below meth c D dA ad lo n 2 A none R 47 [(0, .ref a0)] [] M := by
  intro M R h
  unfold f_X7_records_47 at h
  refine AW.aload_n (k0 := 0) (pc' := 48) X rfl rfl dX7_records_47 rfl ?_
  refine AW.dup (pc' := 49) X rfl dX7_records_48 rfl ?_
  refine AW.gX7 (v := .int (M a0 1)) (pc' := 52) X h0 1 (by decide) rfl mf_X7_29 rfl dX7_records_49 rfl ?_
  refine AW.iconst (v := 1) (pc' := 53) X rfl dX7_records_52 rfl ?_
  refine AW.iadd (pc' := 54) X dX7_records_53 rfl ?_
  refine AW.pX7 (pc' := 57) X h0 1 (by decide) rfl mf_X7_29 rfl rfl (by simp [fsM, upd]) (Nat.le_of_ble_eq_true rfl) dX7_records_54 rfl ?_
  refine AW.aload_n (k0 := 0) (pc' := 58) X rfl rfl dX7_records_57 rfl ?_
  refine AW.iconst (v := 0) (pc' := 59) X rfl dX7_records_58 rfl ?_
  refine AW.sipush (v := 1808) (pc' := 62) X rfl dX7_records_59 rfl ?_
  refine AW.aload_n (k0 := 0) (pc' := 63) X rfl rfl dX7_records_62 rfl ?_
  refine AW.gX7 (v := .int ((ms M a0 1 ((M a0 1) + 1)) a0 1)) (pc' := 66) X h0 1 (by decide) rfl mf_X7_29 rfl dX7_records_63 rfl ?_
  refine AW.imul (pc' := 67) X dX7_records_66 rfl ?_
  obtain ⟨v1, c1, h⟩ := Option.bind_eq_some_iff.mp h
  refine AW.callV (As := [.int 0, .int (1808 * ((ms M a0 1 ((M a0 1) + 1)) a0 1))]) (rest := []) (rv := none) (M' := v1) (pc' := 70) X (ok_X7_copies h0 c1) yv_X7_copies h0.1 h0.2.1 (cM h0 dA ad _) rfl rfl ml_X7_33 ⟨by decide, by decide, by decide, by decide⟩ rfl (Nat.le_of_ble_eq_true rfl) rfl rfl dX7_records_67 rfl ?_
  replace h := Option.some.inj h
  subst h
  exact AW.vret X hr dX7_records_70
set_option maxHeartbeats 4000000 in
set_option maxRecDepth 100000 in
theorem ok_X7_records_10 {a0 : Nat} (X : CX p s m args meth c cX7_records 2 RX7 D dA ad lo n A) (hr : meth.sig.returnType = none) (h0 : tMo lo n a0) : ∀ (k : Nat) (x1 : Int32) (M : MM) (R : MM), f_X7_records_10 a0 k x1 M = some R → AR p l e 1 23 s m args below meth c D dA ad lo n 2 A none R 10 [(0, .ref a0), (1, .int x1)] [] M := by
  intro k
  induction k with
  | zero => intro _ _ R h; exact none_some h
  | succ k ih =>
    intro x1 M R h
    unfold f_X7_records_10 at h
    refine AW.iload_n (k0 := 1) (pc' := 11) X rfl rfl dX7_records_10 rfl ?_
    refine AW.iconst (v := 5) (pc' := 12) X rfl dX7_records_11 rfl ?_
    refine AW.icmp_ge (pc' := 15) (tgt := 37) X dX7_records_12 rfl rfl (fun q1 => ?_) (fun q1 => ?_)
    · replace h := itep q1 h
      refine AW.aload_n (k0 := 0) (pc' := 38) X rfl rfl dX7_records_37 rfl ?_
      refine AW.dup (pc' := 39) X rfl dX7_records_38 rfl ?_
      refine AW.gX7 (v := .int (M a0 1)) (pc' := 42) X h0 1 (by decide) rfl mf_X7_29 rfl dX7_records_39 rfl ?_
      refine AW.iconst (v := 1) (pc' := 43) X rfl dX7_records_42 rfl ?_
      refine AW.isub (pc' := 44) X dX7_records_43 rfl ?_
      refine AW.pX7 (pc' := 47) X h0 1 (by decide) rfl mf_X7_29 rfl rfl (by simp [fsM, upd]) (Nat.le_of_ble_eq_true rfl) dX7_records_44 rfl ?_
      refine AW.sub (ls' := [(0, .ref a0)]) [0] rfl ?_
      exact ok_X7_records_47 X hr h0 (ms M a0 1 ((M a0 1) - 1)) R h
    · replace h := iten q1 h
      refine AW.aload_n (k0 := 0) (pc' := 16) X rfl rfl dX7_records_15 rfl ?_
      refine AW.sipush (v := 1808) (pc' := 19) X rfl dX7_records_16 rfl ?_
      refine AW.iload_n (k0 := 1) (pc' := 20) X rfl rfl dX7_records_19 rfl ?_
      refine AW.iconst (v := 1) (pc' := 21) X rfl dX7_records_20 rfl ?_
      refine AW.iadd (pc' := 22) X dX7_records_21 rfl ?_
      refine AW.imul (pc' := 23) X dX7_records_22 rfl ?_
      refine AW.sipush (v := 1808) (pc' := 26) X rfl dX7_records_23 rfl ?_
      refine AW.iload_n (k0 := 1) (pc' := 27) X rfl rfl dX7_records_26 rfl ?_
      refine AW.imul (pc' := 28) X dX7_records_27 rfl ?_
      obtain ⟨v2, c2, h⟩ := Option.bind_eq_some_iff.mp h
      refine AW.callV (As := [.int (1808 * (x1 + 1)), .int (1808 * x1)]) (rest := []) (rv := none) (M' := v2) (pc' := 31) X (ok_X7_copies h0 c2) yv_X7_copies h0.1 h0.2.1 (cM h0 dA ad _) rfl rfl ml_X7_33 ⟨by decide, by decide, by decide, by decide⟩ rfl (Nat.le_of_ble_eq_true rfl) rfl rfl dX7_records_28 rfl ?_
      refine AW.iinc (k0 := 1) (v := (x1 + 1)) (y := 1) (ls' := [(1, .int (x1 + 1)), (0, .ref a0)]) (pc' := 34) X rfl rfl rfl (by decide) rfl dX7_records_31 rfl ?_
      refine AW.goto (pc' := 10) X dX7_records_34 rfl ?_
      refine AW.sub (ls' := [(0, .ref a0), (1, .int (x1 + 1))]) [1, 0] rfl ?_
      exact ih (x1 + 1) v2 R h
set_option maxHeartbeats 4000000 in
set_option maxRecDepth 100000 in
theorem ok_X7_records {lo n : Nat} {a0 : Nat} {M : MM} {R : MM} (h0 : tMo lo n a0) (h : f_X7_records a0 M = some R) : MC yX7_records cX7_records 2 none 1 23 lo n [.ref a0] M none R := by
  refine MC.of (ls0 := [(0, .ref a0)]) (by decide) rfl (fun _ => Nat.le_of_ble_eq_true rfl) (fun p l e s m args below meth c D dA ad A X hr => ?_)
  replace X : CX p s m args meth c cX7_records 2 RX7 D dA ad lo n A := X
  unfold f_X7_records at h
  refine AW.aload_n (k0 := 0) (pc' := 1) X rfl rfl dX7_records_0 rfl ?_
  refine AW.gX7 (v := .int (M a0 1)) (pc' := 4) X h0 1 (by decide) rfl mf_X7_29 rfl dX7_records_1 rfl ?_
  refine AW.iconst (v := 5) (pc' := 5) X rfl dX7_records_4 rfl ?_
  refine AW.icmp_ne (pc' := 8) (tgt := 47) X dX7_records_5 rfl rfl (fun q1 => ?_) (fun q1 => ?_)
  · replace h := iten q1 h
    exact ok_X7_records_47 X hr h0 M R h
  · replace h := itep q1 h
    refine AW.iconst (v := 1) (pc' := 9) X rfl dX7_records_8 rfl ?_
    refine AW.istore_n (ls' := [(1, .int 1), (0, .ref a0)]) (pc' := 10) X rfl (by decide) rfl dX7_records_9 rfl ?_
    refine AW.sub (ls' := [(0, .ref a0), (1, .int 1)]) [1, 0] rfl ?_
    exact ok_X7_records_10 X hr h0 FU 1 M R h
set_option maxHeartbeats 4000000 in
set_option maxRecDepth 100000 in
theorem ok_X7_setChannel {lo n : Nat} {a0 : Nat} {x1 : Int32} {x2 : Int32} {x3 : Int32} {M : MM} {R : MM} (h0 : tMo lo n a0) (h : f_X7_setChannel a0 x1 x2 x3 M = some R) : MC yX7_setChannel cX7_setChannel 4 none 0 0 lo n [.ref a0, .int x1, .int x2, .int x3] M none R := by
  refine MC.of (ls0 := [(0, .ref a0), (1, .int x1), (2, .int x2), (3, .int x3)]) (by decide) rfl (fun _ => Nat.le_of_ble_eq_true rfl) (fun p l e s m args below meth c D dA ad A X hr => ?_)
  replace X : CX p s m args meth c cX7_setChannel 4 RX7 D dA ad lo n A := X
  unfold f_X7_setChannel at h
  refine AW.aload_n (k0 := 0) (pc' := 1) X rfl rfl dX7_setChannel_0 rfl ?_
  refine AW.gX7 (v := .ref (a0 + 1)) (pc' := 4) X h0 0 (by decide) rfl mf_X7_7 rfl dX7_setChannel_1 rfl ?_
  refine AW.bipush (v := 34) (pc' := 6) X rfl dX7_setChannel_4 rfl ?_
  refine AW.bipush (v := 29) (pc' := 8) X rfl dX7_setChannel_6 rfl ?_
  refine AW.iload_n (k0 := 1) (pc' := 9) X rfl rfl dX7_setChannel_8 rfl ?_
  refine AW.imul (pc' := 10) X dX7_setChannel_9 rfl ?_
  refine AW.iadd (pc' := 11) X dX7_setChannel_10 rfl ?_
  refine AW.iload_n (k0 := 2) (pc' := 12) X rfl rfl dX7_setChannel_11 rfl ?_
  refine AW.iadd (pc' := 13) X dX7_setChannel_12 rfl ?_
  refine AW.iload_n (k0 := 3) (pc' := 14) X rfl rfl dX7_setChannel_13 rfl ?_
  obtain ⟨g1, h⟩ := gd_some h
  refine AW.iast (pc' := 15) X (rM1 h0) (inb_vp g1) dX7_setChannel_14 rfl ?_
  replace h := Option.some.inj h
  subst h
  exact AW.vret X hr dX7_setChannel_15
set_option maxHeartbeats 4000000 in
set_option maxRecDepth 100000 in
theorem ok_X7_forgets_61 {a0 : Nat} (X : CX p s m args meth c cX7_forgets 3 RX7 D dA ad lo n A) (hr : meth.sig.returnType = none) (h0 : tMo lo n a0) {rec52 : Int32 → MM → Option MM} (hrec52 : ∀ (x1 : Int32) (M : MM) (R : MM), rec52 x1 M = some R → AR p l e 1 23 s m args below meth c D dA ad lo n 3 A none R 52 [(0, .ref a0), (1, .int x1)] [] M) : ∀ (k : Nat) (x1 : Int32) (x2 : Int32) (M : MM) (R : MM), f_X7_forgets_61 a0 rec52 k x1 x2 M = some R → AR p l e 1 23 s m args below meth c D dA ad lo n 3 A none R 61 [(0, .ref a0), (1, .int x1), (2, .int x2)] [] M := by
  intro k
  induction k with
  | zero => intro _ _ _ R h; exact none_some h
  | succ k ih =>
    intro x1 x2 M R h
    unfold f_X7_forgets_61 at h
    refine AW.iload_n (k0 := 2) (pc' := 62) X rfl rfl dX7_forgets_61 rfl ?_
    refine AW.bipush (v := 29) (pc' := 64) X rfl dX7_forgets_62 rfl ?_
    refine AW.icmp_ge (pc' := 67) (tgt := 80) X dX7_forgets_64 rfl rfl (fun q1 => ?_) (fun q1 => ?_)
    · replace h := itep q1 h
      refine AW.iinc (k0 := 1) (v := (x1 + 1)) (y := 1) (ls' := [(1, .int (x1 + 1)), (0, .ref a0), (2, .int x2)]) (pc' := 83) X rfl rfl rfl (by decide) rfl dX7_forgets_80 rfl ?_
      refine AW.goto (pc' := 52) X dX7_forgets_83 rfl ?_
      refine AW.sub (ls' := [(0, .ref a0), (1, .int (x1 + 1))]) [1, 0] rfl ?_
      exact hrec52 (x1 + 1) M R h
    · replace h := iten q1 h
      refine AW.aload_n (k0 := 0) (pc' := 68) X rfl rfl dX7_forgets_67 rfl ?_
      refine AW.iload_n (k0 := 1) (pc' := 69) X rfl rfl dX7_forgets_68 rfl ?_
      refine AW.iload_n (k0 := 2) (pc' := 70) X rfl rfl dX7_forgets_69 rfl ?_
      refine AW.iconst (v := 0) (pc' := 71) X rfl dX7_forgets_70 rfl ?_
      obtain ⟨v2, c2, h⟩ := Option.bind_eq_some_iff.mp h
      refine AW.callV (As := [.int x1, .int x2, .int 0]) (rest := []) (rv := none) (M' := v2) (pc' := 74) X (ok_X7_setChannel h0 c2) yv_X7_setChannel h0.1 h0.2.1 (cM h0 dA ad _) rfl rfl ml_X7_37 ⟨by decide, by decide, by decide, by decide⟩ rfl (Nat.le_of_ble_eq_true rfl) rfl rfl dX7_forgets_71 rfl ?_
      refine AW.iinc (k0 := 2) (v := (x2 + 1)) (y := 1) (ls' := [(2, .int (x2 + 1)), (0, .ref a0), (1, .int x1)]) (pc' := 77) X rfl rfl rfl (by decide) rfl dX7_forgets_74 rfl ?_
      refine AW.goto (pc' := 61) X dX7_forgets_77 rfl ?_
      refine AW.sub (ls' := [(0, .ref a0), (1, .int x1), (2, .int (x2 + 1))]) [1, 2, 0] rfl ?_
      exact ih x1 (x2 + 1) v2 R h
set_option maxHeartbeats 4000000 in
set_option maxRecDepth 100000 in
theorem ok_X7_forgets_52 {a0 : Nat} (X : CX p s m args meth c cX7_forgets 3 RX7 D dA ad lo n A) (hr : meth.sig.returnType = none) (h0 : tMo lo n a0) : ∀ (k : Nat) (x1 : Int32) (M : MM) (R : MM), f_X7_forgets_52 a0 k x1 M = some R → AR p l e 1 23 s m args below meth c D dA ad lo n 3 A none R 52 [(0, .ref a0), (1, .int x1)] [] M := by
  intro k
  induction k with
  | zero => intro _ _ R h; exact none_some h
  | succ k ih =>
    intro x1 M R h
    unfold f_X7_forgets_52 at h
    refine AW.iload_n (k0 := 1) (pc' := 53) X rfl rfl dX7_forgets_52 rfl ?_
    refine AW.bipush (v := 6) (pc' := 55) X rfl dX7_forgets_53 rfl ?_
    refine AW.icmp_ge (pc' := 58) (tgt := 86) X dX7_forgets_55 rfl rfl (fun q1 => ?_) (fun q1 => ?_)
    · replace h := itep q1 h
      refine AW.aload_n (k0 := 0) (pc' := 87) X rfl rfl dX7_forgets_86 rfl ?_
      refine AW.gX7 (v := .ref (a0 + 1)) (pc' := 90) X h0 0 (by decide) rfl mf_X7_7 rfl dX7_forgets_87 rfl ?_
      refine AW.bipush (v := 6) (pc' := 92) X rfl dX7_forgets_90 rfl ?_
      refine AW.iconst (v := 0) (pc' := 93) X rfl dX7_forgets_92 rfl ?_
      obtain ⟨g2, h⟩ := gd_some h
      refine AW.iast (pc' := 94) X (rM1 h0) (inb_vp g2) dX7_forgets_93 rfl ?_
      refine AW.aload_n (k0 := 0) (pc' := 95) X rfl rfl dX7_forgets_94 rfl ?_
      refine AW.gX7 (v := .ref (a0 + 1)) (pc' := 98) X h0 0 (by decide) rfl mf_X7_7 rfl dX7_forgets_95 rfl ?_
      refine AW.bipush (v := 7) (pc' := 100) X rfl dX7_forgets_98 rfl ?_
      refine AW.iconst (v := 1) (pc' := 101) X rfl dX7_forgets_100 rfl ?_
      obtain ⟨g3, h⟩ := gd_some h
      refine AW.iast (pc' := 102) X (rM1 h0) (inb_vp g3) dX7_forgets_101 rfl ?_
      refine AW.aload_n (k0 := 0) (pc' := 103) X rfl rfl dX7_forgets_102 rfl ?_
      refine AW.gX7 (v := .ref (a0 + 1)) (pc' := 106) X h0 0 (by decide) rfl mf_X7_7 rfl dX7_forgets_103 rfl ?_
      refine AW.bipush (v := 8) (pc' := 108) X rfl dX7_forgets_106 rfl ?_
      refine AW.iconst (v := 0) (pc' := 109) X rfl dX7_forgets_108 rfl ?_
      obtain ⟨g4, h⟩ := gd_some h
      refine AW.iast (pc' := 110) X (rM1 h0) (inb_vp g4) dX7_forgets_109 rfl ?_
      refine AW.aload_n (k0 := 0) (pc' := 111) X rfl rfl dX7_forgets_110 rfl ?_
      refine AW.gX7 (v := .ref (a0 + 1)) (pc' := 114) X h0 0 (by decide) rfl mf_X7_7 rfl dX7_forgets_111 rfl ?_
      refine AW.bipush (v := 9) (pc' := 116) X rfl dX7_forgets_114 rfl ?_
      refine AW.bipush (v := (-6)) (pc' := 118) X rfl dX7_forgets_116 rfl ?_
      obtain ⟨g5, h⟩ := gd_some h
      refine AW.iast (pc' := 119) X (rM1 h0) (inb_vp g5) dX7_forgets_118 rfl ?_
      refine AW.aload_n (k0 := 0) (pc' := 120) X rfl rfl dX7_forgets_119 rfl ?_
      refine AW.gX7 (v := .ref (a0 + 1)) (pc' := 123) X h0 0 (by decide) rfl mf_X7_7 rfl dX7_forgets_120 rfl ?_
      refine AW.bipush (v := 10) (pc' := 125) X rfl dX7_forgets_123 rfl ?_
      refine AW.bipush (v := (-6)) (pc' := 127) X rfl dX7_forgets_125 rfl ?_
      obtain ⟨g6, h⟩ := gd_some h
      refine AW.iast (pc' := 128) X (rM1 h0) (inb_vp g6) dX7_forgets_127 rfl ?_
      replace h := Option.some.inj h
      subst h
      exact AW.vret X hr dX7_forgets_128
    · replace h := iten q1 h
      refine AW.bipush (v := 25) (pc' := 60) X rfl dX7_forgets_58 rfl ?_
      refine AW.istore_n (ls' := [(2, .int 25), (0, .ref a0), (1, .int x1)]) (pc' := 61) X rfl (by decide) rfl dX7_forgets_60 rfl ?_
      refine AW.sub (ls' := [(0, .ref a0), (1, .int x1), (2, .int 25)]) [1, 2, 0] rfl ?_
      exact ok_X7_forgets_61 X hr h0 ih FU x1 25 M R h
set_option maxHeartbeats 4000000 in
set_option maxRecDepth 100000 in
theorem ok_X7_forgets_29 {a0 : Nat} (X : CX p s m args meth c cX7_forgets 3 RX7 D dA ad lo n A) (hr : meth.sig.returnType = none) (h0 : tMo lo n a0) : ∀ (k : Nat) (x1 : Int32) (M : MM) (R : MM), f_X7_forgets_29 a0 k x1 M = some R → AR p l e 1 23 s m args below meth c D dA ad lo n 3 A none R 29 [(0, .ref a0), (1, .int x1)] [] M := by
  intro k
  induction k with
  | zero => intro _ _ R h; exact none_some h
  | succ k ih =>
    intro x1 M R h
    unfold f_X7_forgets_29 at h
    refine AW.iload_n (k0 := 1) (pc' := 30) X rfl rfl dX7_forgets_29 rfl ?_
    refine AW.sipush (v := 1808) (pc' := 33) X rfl dX7_forgets_30 rfl ?_
    refine AW.icmp_ge (pc' := 36) (tgt := 50) X dX7_forgets_33 rfl rfl (fun q1 => ?_) (fun q1 => ?_)
    · replace h := itep q1 h
      refine AW.iconst (v := 0) (pc' := 51) X rfl dX7_forgets_50 rfl ?_
      refine AW.istore_n (ls' := [(1, .int 0), (0, .ref a0)]) (pc' := 52) X rfl (by decide) rfl dX7_forgets_51 rfl ?_
      refine AW.sub (ls' := [(0, .ref a0), (1, .int 0)]) [1, 0] rfl ?_
      exact ok_X7_forgets_52 X hr h0 FU 0 M R h
    · replace h := iten q1 h
      refine AW.aload_n (k0 := 0) (pc' := 37) X rfl rfl dX7_forgets_36 rfl ?_
      refine AW.gX7 (v := .ref (a0 + 1)) (pc' := 40) X h0 0 (by decide) rfl mf_X7_7 rfl dX7_forgets_37 rfl ?_
      refine AW.iload_n (k0 := 1) (pc' := 41) X rfl rfl dX7_forgets_40 rfl ?_
      refine AW.bipush (v := (-6)) (pc' := 43) X rfl dX7_forgets_41 rfl ?_
      obtain ⟨g2, h⟩ := gd_some h
      refine AW.iast (pc' := 44) X (rM1 h0) (inb_vp g2) dX7_forgets_43 rfl ?_
      refine AW.iinc (k0 := 1) (v := (x1 + 1)) (y := 1) (ls' := [(1, .int (x1 + 1)), (0, .ref a0)]) (pc' := 47) X rfl rfl rfl (by decide) rfl dX7_forgets_44 rfl ?_
      refine AW.goto (pc' := 29) X dX7_forgets_47 rfl ?_
      refine AW.sub (ls' := [(0, .ref a0), (1, .int (x1 + 1))]) [1, 0] rfl ?_
      exact ih (x1 + 1) (ms M (a0 + 1) (ix x1) (-6)) R h
set_option maxHeartbeats 4000000 in
set_option maxRecDepth 100000 in
theorem ok_X7_forgets_4 {a0 : Nat} (X : CX p s m args meth c cX7_forgets 3 RX7 D dA ad lo n A) (hr : meth.sig.returnType = none) (h0 : tMo lo n a0) : ∀ (k : Nat) (x1 : Int32) (M : MM) (R : MM), f_X7_forgets_4 a0 k x1 M = some R → AR p l e 1 23 s m args below meth c D dA ad lo n 3 A none R 4 [(0, .ref a0), (1, .int x1)] [] M := by
  intro k
  induction k with
  | zero => intro _ _ R h; exact none_some h
  | succ k ih =>
    intro x1 M R h
    unfold f_X7_forgets_4 at h
    refine AW.iload_n (k0 := 1) (pc' := 5) X rfl rfl dX7_forgets_4 rfl ?_
    refine AW.sipush (v := 908) (pc' := 8) X rfl dX7_forgets_5 rfl ?_
    refine AW.icmp_ge (pc' := 11) (tgt := 25) X dX7_forgets_8 rfl rfl (fun q1 => ?_) (fun q1 => ?_)
    · replace h := itep q1 h
      refine AW.sipush (v := 1608) (pc' := 28) X rfl dX7_forgets_25 rfl ?_
      refine AW.istore_n (ls' := [(1, .int 1608), (0, .ref a0)]) (pc' := 29) X rfl (by decide) rfl dX7_forgets_28 rfl ?_
      refine AW.sub (ls' := [(0, .ref a0), (1, .int 1608)]) [1, 0] rfl ?_
      exact ok_X7_forgets_29 X hr h0 FU 1608 M R h
    · replace h := iten q1 h
      refine AW.aload_n (k0 := 0) (pc' := 12) X rfl rfl dX7_forgets_11 rfl ?_
      refine AW.gX7 (v := .ref (a0 + 1)) (pc' := 15) X h0 0 (by decide) rfl mf_X7_7 rfl dX7_forgets_12 rfl ?_
      refine AW.iload_n (k0 := 1) (pc' := 16) X rfl rfl dX7_forgets_15 rfl ?_
      refine AW.bipush (v := (-6)) (pc' := 18) X rfl dX7_forgets_16 rfl ?_
      obtain ⟨g2, h⟩ := gd_some h
      refine AW.iast (pc' := 19) X (rM1 h0) (inb_vp g2) dX7_forgets_18 rfl ?_
      refine AW.iinc (k0 := 1) (v := (x1 + 1)) (y := 1) (ls' := [(1, .int (x1 + 1)), (0, .ref a0)]) (pc' := 22) X rfl rfl rfl (by decide) rfl dX7_forgets_19 rfl ?_
      refine AW.goto (pc' := 4) X dX7_forgets_22 rfl ?_
      refine AW.sub (ls' := [(0, .ref a0), (1, .int (x1 + 1))]) [1, 0] rfl ?_
      exact ih (x1 + 1) (ms M (a0 + 1) (ix x1) (-6)) R h
set_option maxHeartbeats 4000000 in
set_option maxRecDepth 100000 in
theorem ok_X7_forgets {lo n : Nat} {a0 : Nat} {M : MM} {R : MM} (h0 : tMo lo n a0) (h : f_X7_forgets a0 M = some R) : MC yX7_forgets cX7_forgets 3 none 1 23 lo n [.ref a0] M none R := by
  refine MC.of (ls0 := [(0, .ref a0)]) (by decide) rfl (fun _ => Nat.le_of_ble_eq_true rfl) (fun p l e s m args below meth c D dA ad A X hr => ?_)
  replace X : CX p s m args meth c cX7_forgets 3 RX7 D dA ad lo n A := X
  unfold f_X7_forgets at h
  refine AW.sipush (v := 308) (pc' := 3) X rfl dX7_forgets_0 rfl ?_
  refine AW.istore_n (ls' := [(1, .int 308), (0, .ref a0)]) (pc' := 4) X rfl (by decide) rfl dX7_forgets_3 rfl ?_
  refine AW.sub (ls' := [(0, .ref a0), (1, .int 308)]) [1, 0] rfl ?_
  exact ok_X7_forgets_4 X hr h0 FU 308 M R h
set_option maxHeartbeats 4000000 in
set_option maxRecDepth 100000 in
theorem ok_X7_forgetsGains_4 {a0 : Nat} (X : CX p s m args meth c cX7_forgetsGains 2 RX7 D dA ad lo n A) (hr : meth.sig.returnType = none) (h0 : tMo lo n a0) : ∀ (k : Nat) (x1 : Int32) (M : MM) (R : MM), f_X7_forgetsGains_4 a0 k x1 M = some R → AR p l e 0 0 s m args below meth c D dA ad lo n 2 A none R 4 [(0, .ref a0), (1, .int x1)] [] M := by
  intro k
  induction k with
  | zero => intro _ _ R h; exact none_some h
  | succ k ih =>
    intro x1 M R h
    unfold f_X7_forgetsGains_4 at h
    refine AW.iload_n (k0 := 1) (pc' := 5) X rfl rfl dX7_forgetsGains_4 rfl ?_
    refine AW.sipush (v := 1608) (pc' := 8) X rfl dX7_forgetsGains_5 rfl ?_
    refine AW.icmp_ge (pc' := 11) (tgt := 25) X dX7_forgetsGains_8 rfl rfl (fun q1 => ?_) (fun q1 => ?_)
    · replace h := itep q1 h
      replace h := Option.some.inj h
      subst h
      exact AW.vret X hr dX7_forgetsGains_25
    · replace h := iten q1 h
      refine AW.aload_n (k0 := 0) (pc' := 12) X rfl rfl dX7_forgetsGains_11 rfl ?_
      refine AW.gX7 (v := .ref (a0 + 1)) (pc' := 15) X h0 0 (by decide) rfl mf_X7_7 rfl dX7_forgetsGains_12 rfl ?_
      refine AW.iload_n (k0 := 1) (pc' := 16) X rfl rfl dX7_forgetsGains_15 rfl ?_
      refine AW.bipush (v := (-6)) (pc' := 18) X rfl dX7_forgetsGains_16 rfl ?_
      obtain ⟨g2, h⟩ := gd_some h
      refine AW.iast (pc' := 19) X (rM1 h0) (inb_vp g2) dX7_forgetsGains_18 rfl ?_
      refine AW.iinc (k0 := 1) (v := (x1 + 1)) (y := 1) (ls' := [(1, .int (x1 + 1)), (0, .ref a0)]) (pc' := 22) X rfl rfl rfl (by decide) rfl dX7_forgetsGains_19 rfl ?_
      refine AW.goto (pc' := 4) X dX7_forgetsGains_22 rfl ?_
      refine AW.sub (ls' := [(0, .ref a0), (1, .int (x1 + 1))]) [1, 0] rfl ?_
      exact ih (x1 + 1) (ms M (a0 + 1) (ix x1) (-6)) R h
set_option maxHeartbeats 4000000 in
set_option maxRecDepth 100000 in
theorem ok_X7_forgetsGains {lo n : Nat} {a0 : Nat} {M : MM} {R : MM} (h0 : tMo lo n a0) (h : f_X7_forgetsGains a0 M = some R) : MC yX7_forgetsGains cX7_forgetsGains 2 none 0 0 lo n [.ref a0] M none R := by
  refine MC.of (ls0 := [(0, .ref a0)]) (by decide) rfl (fun _ => Nat.le_of_ble_eq_true rfl) (fun p l e s m args below meth c D dA ad A X hr => ?_)
  replace X : CX p s m args meth c cX7_forgetsGains 2 RX7 D dA ad lo n A := X
  unfold f_X7_forgetsGains at h
  refine AW.sipush (v := 908) (pc' := 3) X rfl dX7_forgetsGains_0 rfl ?_
  refine AW.istore_n (ls' := [(1, .int 908), (0, .ref a0)]) (pc' := 4) X rfl (by decide) rfl dX7_forgetsGains_3 rfl ?_
  refine AW.sub (ls' := [(0, .ref a0), (1, .int 908)]) [1, 0] rfl ?_
  exact ok_X7_forgetsGains_4 X hr h0 FU 908 M R h
set_option maxHeartbeats 4000000 in
set_option maxRecDepth 100000 in
theorem ok_X7_ofChannel {lo n : Nat} {a0 : Nat} {x1 : Int32} {x2 : Int32} {M : MM} {R : Int32} (h0 : tMo lo n a0) (h : f_X7_ofChannel a0 x1 x2 M = some R) : MC yX7_ofChannel cX7_ofChannel 3 (some .int) 0 0 lo n [.ref a0, .int x1, .int x2] M (some (.int R)) M := by
  refine MC.of (ls0 := [(0, .ref a0), (1, .int x1), (2, .int x2)]) (by decide) rfl (fun _ => Nat.le_of_ble_eq_true rfl) (fun p l e s m args below meth c D dA ad A X hr => ?_)
  replace X : CX p s m args meth c cX7_ofChannel 3 RX7 D dA ad lo n A := X
  unfold f_X7_ofChannel at h
  refine AW.aload_n (k0 := 0) (pc' := 1) X rfl rfl dX7_ofChannel_0 rfl ?_
  refine AW.gX7 (v := .ref (a0 + 1)) (pc' := 4) X h0 0 (by decide) rfl mf_X7_7 rfl dX7_ofChannel_1 rfl ?_
  refine AW.bipush (v := 34) (pc' := 6) X rfl dX7_ofChannel_4 rfl ?_
  refine AW.bipush (v := 29) (pc' := 8) X rfl dX7_ofChannel_6 rfl ?_
  refine AW.iload_n (k0 := 1) (pc' := 9) X rfl rfl dX7_ofChannel_8 rfl ?_
  refine AW.imul (pc' := 10) X dX7_ofChannel_9 rfl ?_
  refine AW.iadd (pc' := 11) X dX7_ofChannel_10 rfl ?_
  refine AW.iload_n (k0 := 2) (pc' := 12) X rfl rfl dX7_ofChannel_11 rfl ?_
  refine AW.iadd (pc' := 13) X dX7_ofChannel_12 rfl ?_
  obtain ⟨g1, h⟩ := gd_some h
  refine AW.iald (pc' := 14) X (rM1 h0) (inb_vp g1) dX7_ofChannel_13 rfl ?_
  replace h := Option.some.inj h
  subst h
  exact AW.iret X hr dX7_ofChannel_14
set_option maxHeartbeats 4000000 in
set_option maxRecDepth 100000 in
theorem ok_X7_isLine {lo n : Nat} {a0 : Nat} {x1 : Int32} {M : MM} {R : Bool} (h0 : tMo lo n a0) (h : f_X7_isLine a0 x1 M = some R) : MC yX7_isLine cX7_isLine 2 (some .boolean) 1 22 lo n [.ref a0, .int x1] M (some (.int (bz R))) M := by
  refine MC.of (ls0 := [(0, .ref a0), (1, .int x1)]) (by decide) rfl (fun _ => Nat.le_of_ble_eq_true rfl) (fun p l e s m args below meth c D dA ad A X hr => ?_)
  replace X : CX p s m args meth c cX7_isLine 2 RX7 D dA ad lo n A := X
  unfold f_X7_isLine at h
  refine AW.iload_n (k0 := 1) (pc' := 1) X rfl rfl dX7_isLine_0 rfl ?_
  refine AW.iconst (v := 0) (pc' := 2) X rfl dX7_isLine_1 rfl ?_
  refine AW.aload_n (k0 := 0) (pc' := 3) X rfl rfl dX7_isLine_2 rfl ?_
  refine AW.gX7 (v := .ref (a0 + 1)) (pc' := 6) X h0 0 (by decide) rfl mf_X7_7 rfl dX7_isLine_3 rfl ?_
  refine AW.iconst (v := 0) (pc' := 7) X rfl dX7_isLine_6 rfl ?_
  obtain ⟨g1, h⟩ := gd_some h
  refine AW.iald (pc' := 8) X (rM1 h0) (inb_vp g1) dX7_isLine_7 rfl ?_
  refine AW.iconst (v := 1) (pc' := 9) X rfl dX7_isLine_8 rfl ?_
  refine AW.isub (pc' := 10) X dX7_isLine_9 rfl ?_
  obtain ⟨v2, c2, h⟩ := Option.bind_eq_some_iff.mp h
  refine AW.callS (As := [.int x1, .int 0, .int ((M (a0 + 1) (ix 0)) - 1)]) (rest := []) (rv := (some (.int (bz v2)))) (M' := M) (pc' := 13) X (ok_X7_in c2) yv_X7_in ml_X7_41 ⟨by decide, by decide, by decide, by decide⟩ rfl (Nat.le_of_ble_eq_true rfl) rfl rfl dX7_isLine_10 rfl ?_
  replace h := Option.some.inj h
  subst h
  exact AW.zret (b := v2) X hr dX7_isLine_13
set_option maxHeartbeats 4000000 in
set_option maxRecDepth 100000 in
theorem ok_X7_isChannel {lo n : Nat} {a0 : Nat} {x1 : Int32} {M : MM} {R : Bool} (h0 : tMo lo n a0) (h : f_X7_isChannel a0 x1 M = some R) : MC yX7_isChannel cX7_isChannel 2 (some .boolean) 1 22 lo n [.ref a0, .int x1] M (some (.int (bz R))) M := by
  refine MC.of (ls0 := [(0, .ref a0), (1, .int x1)]) (by decide) rfl (fun _ => Nat.le_of_ble_eq_true rfl) (fun p l e s m args below meth c D dA ad A X hr => ?_)
  replace X : CX p s m args meth c cX7_isChannel 2 RX7 D dA ad lo n A := X
  unfold f_X7_isChannel at h
  refine AW.iload_n (k0 := 1) (pc' := 1) X rfl rfl dX7_isChannel_0 rfl ?_
  refine AW.iconst (v := 0) (pc' := 2) X rfl dX7_isChannel_1 rfl ?_
  refine AW.aload_n (k0 := 0) (pc' := 3) X rfl rfl dX7_isChannel_2 rfl ?_
  refine AW.gX7 (v := .ref (a0 + 1)) (pc' := 6) X h0 0 (by decide) rfl mf_X7_7 rfl dX7_isChannel_3 rfl ?_
  refine AW.iconst (v := 5) (pc' := 7) X rfl dX7_isChannel_6 rfl ?_
  obtain ⟨g1, h⟩ := gd_some h
  refine AW.iald (pc' := 8) X (rM1 h0) (inb_vp g1) dX7_isChannel_7 rfl ?_
  refine AW.iconst (v := 1) (pc' := 9) X rfl dX7_isChannel_8 rfl ?_
  refine AW.isub (pc' := 10) X dX7_isChannel_9 rfl ?_
  obtain ⟨v2, c2, h⟩ := Option.bind_eq_some_iff.mp h
  refine AW.callS (As := [.int x1, .int 0, .int ((M (a0 + 1) (ix 5)) - 1)]) (rest := []) (rv := (some (.int (bz v2)))) (M' := M) (pc' := 13) X (ok_X7_in c2) yv_X7_in ml_X7_41 ⟨by decide, by decide, by decide, by decide⟩ rfl (Nat.le_of_ble_eq_true rfl) rfl rfl dX7_isChannel_10 rfl ?_
  replace h := Option.some.inj h
  subst h
  exact AW.zret (b := v2) X hr dX7_isChannel_13
set_option maxHeartbeats 4000000 in
set_option maxRecDepth 100000 in
theorem ok_X7_rests_24 {a0 : Nat} {M : MM} (X : CX p s m args meth c cX7_rests 1 RX7 D dA ad lo n A) (hr : meth.sig.returnType = (some .boolean)) (h0 : tMo lo n a0) : ∀ (sb0 : Bool) (R : Bool), f_X7_rests_24 a0 M sb0 = some R → AR p l e 0 0 s m args below meth c D dA ad lo n 1 A (some (.int (bz R))) M 24 [] [.int (bz sb0)] M := by
  intro sb0 R h
  unfold f_X7_rests_24 at h
  replace h := Option.some.inj h
  subst h
  exact AW.zret (b := sb0) X hr dX7_rests_24
set_option maxHeartbeats 4000000 in
set_option maxRecDepth 100000 in
theorem ok_X7_rests_19 {a0 : Nat} {M : MM} (X : CX p s m args meth c cX7_rests 1 RX7 D dA ad lo n A) (hr : meth.sig.returnType = (some .boolean)) (h0 : tMo lo n a0) : ∀  (R : Bool), f_X7_rests_19 a0 M  = some R → AR p l e 0 0 s m args below meth c D dA ad lo n 1 A (some (.int (bz R))) M 19 [] [] M := by
  intro  R h
  unfold f_X7_rests_19 at h
  refine AW.iconst (v := 1) (pc' := 20) X rfl dX7_rests_19 rfl ?_
  refine AW.goto (pc' := 24) X dX7_rests_20 rfl ?_
  exact ok_X7_rests_24 X hr h0 true R h
set_option maxHeartbeats 4000000 in
set_option maxRecDepth 100000 in
theorem ok_X7_rests {lo n : Nat} {a0 : Nat} {M : MM} {R : Bool} (h0 : tMo lo n a0) (h : f_X7_rests a0 M = some R) : MC yX7_rests cX7_rests 1 (some .boolean) 0 0 lo n [.ref a0] M (some (.int (bz R))) M := by
  refine MC.of (ls0 := [(0, .ref a0)]) (by decide) rfl (fun _ => Nat.le_of_ble_eq_true rfl) (fun p l e s m args below meth c D dA ad A X hr => ?_)
  replace X : CX p s m args meth c cX7_rests 1 RX7 D dA ad lo n A := X
  unfold f_X7_rests at h
  refine AW.aload_n (k0 := 0) (pc' := 1) X rfl rfl dX7_rests_0 rfl ?_
  refine AW.gX7 (v := .ref (a0 + 1)) (pc' := 4) X h0 0 (by decide) rfl mf_X7_7 rfl dX7_rests_1 rfl ?_
  refine AW.iconst (v := 1) (pc' := 5) X rfl dX7_rests_4 rfl ?_
  obtain ⟨g1, h⟩ := gd_some h
  refine AW.iald (pc' := 6) X (rM1 h0) (inb_vp g1) dX7_rests_5 rfl ?_
  refine AW.if_eq (pc' := 9) (tgt := 19) X dX7_rests_6 rfl rfl (fun q2 => ?_) (fun q2 => ?_)
  · replace h := itep q2 h
    refine AW.sub (ls' := []) [] rfl ?_
    exact ok_X7_rests_19 X hr h0 R h
  · replace h := iten q2 h
    refine AW.aload_n (k0 := 0) (pc' := 10) X rfl rfl dX7_rests_9 rfl ?_
    refine AW.gX7 (v := .ref (a0 + 1)) (pc' := 13) X h0 0 (by decide) rfl mf_X7_7 rfl dX7_rests_10 rfl ?_
    refine AW.iconst (v := 1) (pc' := 14) X rfl dX7_rests_13 rfl ?_
    obtain ⟨g3, h⟩ := gd_some h
    refine AW.iald (pc' := 15) X (rM1 h0) (inb_vp g3) dX7_rests_14 rfl ?_
    refine AW.iconst (v := 4) (pc' := 16) X rfl dX7_rests_15 rfl ?_
    refine AW.icmp_lt (pc' := 19) (tgt := 23) X dX7_rests_16 rfl rfl (fun q4 => ?_) (fun q4 => ?_)
    · replace h := itep q4 h
      refine AW.iconst (v := 0) (pc' := 24) X rfl dX7_rests_23 rfl ?_
      refine AW.sub (ls' := []) [] rfl ?_
      exact ok_X7_rests_24 X hr h0 false R h
    · replace h := iten q4 h
      refine AW.sub (ls' := []) [] rfl ?_
      exact ok_X7_rests_19 X hr h0 R h
set_option maxHeartbeats 4000000 in
set_option maxRecDepth 100000 in
theorem ok_X7_setting {lo n : Nat} {a0 : Nat} {x1 : Int32} {M : MM} {R : Int32} (h0 : tMo lo n a0) (h : f_X7_setting a0 x1 M = some R) : MC yX7_setting cX7_setting 2 (some .int) 0 0 lo n [.ref a0, .int x1] M (some (.int R)) M := by
  refine MC.of (ls0 := [(0, .ref a0), (1, .int x1)]) (by decide) rfl (fun _ => Nat.le_of_ble_eq_true rfl) (fun p l e s m args below meth c D dA ad A X hr => ?_)
  replace X : CX p s m args meth c cX7_setting 2 RX7 D dA ad lo n A := X
  unfold f_X7_setting at h
  refine AW.aload_n (k0 := 0) (pc' := 1) X rfl rfl dX7_setting_0 rfl ?_
  refine AW.gX7 (v := .ref (a0 + 1)) (pc' := 4) X h0 0 (by decide) rfl mf_X7_7 rfl dX7_setting_1 rfl ?_
  refine AW.bipush (v := 12) (pc' := 6) X rfl dX7_setting_4 rfl ?_
  refine AW.iload_n (k0 := 1) (pc' := 7) X rfl rfl dX7_setting_6 rfl ?_
  refine AW.iadd (pc' := 8) X dX7_setting_7 rfl ?_
  obtain ⟨g1, h⟩ := gd_some h
  refine AW.iald (pc' := 9) X (rM1 h0) (inb_vp g1) dX7_setting_8 rfl ?_
  replace h := Option.some.inj h
  subst h
  exact AW.iret X hr dX7_setting_9
set_option maxHeartbeats 4000000 in
set_option maxRecDepth 100000 in
theorem ok_X7_next_18 {M : MM} (X : CX p s m args meth c cX7_next 3 RX7 D dA ad lo n A) (hr : meth.sig.returnType = (some .int)) : ∀ (s0 : Int32) (R : Int32), f_X7_next_18 M s0 = some R → AR p l e 0 0 s m args below meth c D dA ad lo n 3 A (some (.int R)) M 18 [] [.int s0] M := by
  intro s0 R h
  unfold f_X7_next_18 at h
  replace h := Option.some.inj h
  subst h
  exact AW.iret X hr dX7_next_18
set_option maxHeartbeats 4000000 in
set_option maxRecDepth 100000 in
theorem ok_X7_next {lo n : Nat} {x0 : Int32} {x1 : Int32} {M : MM} {R : Int32}  (h : f_X7_next x0 x1 M = some R) : MC yX7_next cX7_next 3 (some .int) 0 0 lo n [.int x0, .int x1] M (some (.int R)) M := by
  refine MC.of (ls0 := [(0, .int x0), (1, .int x1)]) (by decide) rfl (fun _ => Nat.le_of_ble_eq_true rfl) (fun p l e s m args below meth c D dA ad A X hr => ?_)
  replace X : CX p s m args meth c cX7_next 3 RX7 D dA ad lo n A := X
  unfold f_X7_next at h
  refine AW.iload_n (k0 := 0) (pc' := 1) X rfl rfl dX7_next_0 rfl ?_
  refine AW.iload_n (k0 := 1) (pc' := 2) X rfl rfl dX7_next_1 rfl ?_
  refine AW.imul (pc' := 3) X dX7_next_2 rfl ?_
  refine AW.sipush (v := 1000) (pc' := 6) X rfl dX7_next_3 rfl ?_
  refine AW.idiv (pc' := 7) X (by decide) dX7_next_6 rfl ?_
  refine AW.istore_n (ls' := [(2, .int ((x0 * x1) / 1000)), (0, .int x0), (1, .int x1)]) (pc' := 8) X rfl (by decide) rfl dX7_next_7 rfl ?_
  refine AW.iload_n (k0 := 0) (pc' := 9) X rfl rfl dX7_next_8 rfl ?_
  refine AW.iconst (v := 1) (pc' := 10) X rfl dX7_next_9 rfl ?_
  refine AW.icmp_ge (pc' := 13) (tgt := 17) X dX7_next_10 rfl rfl (fun q2 => ?_) (fun q2 => ?_)
  · replace h := itep q2 h
    refine AW.iload_n (k0 := 0) (pc' := 18) X rfl rfl dX7_next_17 rfl ?_
    refine AW.sub (ls' := []) [] rfl ?_
    exact ok_X7_next_18 X hr ((x0 * x1) / 1000) R h
  · replace h := iten q2 h
    refine AW.iconst (v := 1) (pc' := 14) X rfl dX7_next_13 rfl ?_
    refine AW.goto (pc' := 18) X dX7_next_14 rfl ?_
    refine AW.sub (ls' := []) [] rfl ?_
    exact ok_X7_next_18 X hr 1 R h
set_option maxHeartbeats 4000000 in
set_option maxRecDepth 100000 in
theorem ok_X7_setLines_34 {a0 : Nat} (X : CX p s m args meth c cX7_setLines 7 RX7 D dA ad lo n A) (hr : meth.sig.returnType = (some .int)) (h0 : tMo lo n a0) : ∀ (M : MM) (R : (Int32 × MM)), f_X7_setLines_34 a0 M = some R → AR p l e 2 45 s m args below meth c D dA ad lo n 7 A (some (.int R.1)) R.2 34 [] [] M := by
  intro M R h
  unfold f_X7_setLines_34 at h
  refine AW.bipush (v := (-2)) (pc' := 36) X rfl dX7_setLines_34 rfl ?_
  replace h := Option.some.inj h
  subst h
  exact AW.iret X hr dX7_setLines_36
set_option maxHeartbeats 4000000 in
set_option maxRecDepth 100000 in
theorem ok_X7_setLines_96 {a0 : Nat} (X : CX p s m args meth c cX7_setLines 7 RX7 D dA ad lo n A) (hr : meth.sig.returnType = (some .int)) (h0 : tMo lo n a0) : ∀ (k : Nat) (x3 : Int32) (x4 : Int32) (x5 : Int32) (x6 : Int32) (M : MM) (R : (Int32 × MM)), f_X7_setLines_96 a0 k x3 x4 x5 x6 M = some R → AR p l e 2 45 s m args below meth c D dA ad lo n 7 A (some (.int R.1)) R.2 96 [(0, .ref a0), (3, .int x3), (4, .int x4), (5, .int x5), (6, .int x6)] [] M := by
  intro k
  induction k with
  | zero => intro _ _ _ _ _ R h; exact none_some h
  | succ k ih =>
    intro x3 x4 x5 x6 M R h
    unfold f_X7_setLines_96 at h
    refine AW.iload (k0 := 4) (pc' := 98) X rfl dX7_setLines_96 rfl ?_
    refine AW.iload (k0 := 2) (pc' := 100) X rfl dX7_setLines_98 rfl ?_
    refine AW.icmp_ge (pc' := 103) (tgt := 133) X dX7_setLines_100 rfl rfl (fun q1 => ?_) (fun q1 => ?_)
    · replace h := itep q1 h
      refine AW.aload_n (k0 := 0) (pc' := 134) X rfl rfl dX7_setLines_133 rfl ?_
      refine AW.gX7 (v := .ref (a0 + 1)) (pc' := 137) X h0 0 (by decide) rfl mf_X7_7 rfl dX7_setLines_134 rfl ?_
      refine AW.iconst (v := 0) (pc' := 138) X rfl dX7_setLines_137 rfl ?_
      refine AW.iload (k0 := 2) (pc' := 140) X rfl dX7_setLines_138 rfl ?_
      obtain ⟨g2, h⟩ := gd_some h
      refine AW.iast (pc' := 141) X (rM1 h0) (inb_vp g2) dX7_setLines_140 rfl ?_
      refine AW.aload_n (k0 := 0) (pc' := 142) X rfl rfl dX7_setLines_141 rfl ?_
      refine AW.gX7 (v := .ref (a0 + 1)) (pc' := 145) X h0 0 (by decide) rfl mf_X7_7 rfl dX7_setLines_142 rfl ?_
      refine AW.iconst (v := 1) (pc' := 146) X rfl dX7_setLines_145 rfl ?_
      refine AW.iconst (v := 0) (pc' := 147) X rfl dX7_setLines_146 rfl ?_
      obtain ⟨g3, h⟩ := gd_some h
      refine AW.iast (pc' := 148) X (rM1 h0) (inb_vp g3) dX7_setLines_147 rfl ?_
      refine AW.aload_n (k0 := 0) (pc' := 149) X rfl rfl dX7_setLines_148 rfl ?_
      refine AW.gX7 (v := .ref (a0 + 1)) (pc' := 152) X h0 0 (by decide) rfl mf_X7_7 rfl dX7_setLines_149 rfl ?_
      refine AW.iconst (v := 2) (pc' := 153) X rfl dX7_setLines_152 rfl ?_
      refine AW.iconst (v := 0) (pc' := 154) X rfl dX7_setLines_153 rfl ?_
      obtain ⟨g4, h⟩ := gd_some h
      refine AW.iast (pc' := 155) X (rM1 h0) (inb_vp g4) dX7_setLines_154 rfl ?_
      refine AW.aload_n (k0 := 0) (pc' := 156) X rfl rfl dX7_setLines_155 rfl ?_
      refine AW.gX7 (v := .ref (a0 + 1)) (pc' := 159) X h0 0 (by decide) rfl mf_X7_7 rfl dX7_setLines_156 rfl ?_
      refine AW.iconst (v := 3) (pc' := 160) X rfl dX7_setLines_159 rfl ?_
      refine AW.iconst (v := 0) (pc' := 161) X rfl dX7_setLines_160 rfl ?_
      obtain ⟨g5, h⟩ := gd_some h
      refine AW.iast (pc' := 162) X (rM1 h0) (inb_vp g5) dX7_setLines_161 rfl ?_
      refine AW.aload_n (k0 := 0) (pc' := 163) X rfl rfl dX7_setLines_162 rfl ?_
      obtain ⟨v6, c6, h⟩ := Option.bind_eq_some_iff.mp h
      refine AW.callV (As := []) (rest := []) (rv := none) (M' := v6) (pc' := 166) X (ok_X7_forgets h0 c6) yv_X7_forgets h0.1 h0.2.1 (cM h0 dA ad _) rfl rfl ml_X7_23 ⟨by decide, by decide, by decide, by decide⟩ rfl (Nat.le_of_ble_eq_true rfl) rfl rfl dX7_setLines_163 rfl ?_
      refine AW.aload_n (k0 := 0) (pc' := 167) X rfl rfl dX7_setLines_166 rfl ?_
      obtain ⟨v7, c7, h⟩ := Option.bind_eq_some_iff.mp h
      refine AW.callV (As := []) (rest := []) (rv := none) (M' := v7) (pc' := 170) X (ok_X7_forgetsGains h0 c7) yv_X7_forgetsGains h0.1 h0.2.1 (cM h0 dA ad _) rfl rfl ml_X7_26 ⟨by decide, by decide, by decide, by decide⟩ rfl (Nat.le_of_ble_eq_true rfl) rfl rfl dX7_setLines_167 rfl ?_
      refine AW.iload (k0 := 2) (pc' := 172) X rfl dX7_setLines_170 rfl ?_
      replace h := Option.some.inj h
      subst h
      exact AW.iret X hr dX7_setLines_172
    · replace h := iten q1 h
      refine AW.aload_n (k0 := 0) (pc' := 104) X rfl rfl dX7_setLines_103 rfl ?_
      refine AW.gX7 (v := .ref (a0 + 1)) (pc' := 107) X h0 0 (by decide) rfl mf_X7_7 rfl dX7_setLines_104 rfl ?_
      refine AW.sipush (v := 208) (pc' := 110) X rfl dX7_setLines_107 rfl ?_
      refine AW.iload (k0 := 4) (pc' := 112) X rfl dX7_setLines_110 rfl ?_
      refine AW.iadd (pc' := 113) X dX7_setLines_112 rfl ?_
      refine AW.iload (k0 := 3) (pc' := 115) X rfl dX7_setLines_113 rfl ?_
      obtain ⟨g8, h⟩ := gd_some h
      refine AW.iast (pc' := 116) X (rM1 h0) (inb_vp g8) dX7_setLines_115 rfl ?_
      refine AW.iload (k0 := 3) (pc' := 118) X rfl dX7_setLines_116 rfl ?_
      refine AW.iload (k0 := 3) (pc' := 120) X rfl dX7_setLines_118 rfl ?_
      refine AW.iload_n (k0 := 1) (pc' := 121) X rfl rfl dX7_setLines_120 rfl ?_
      obtain ⟨v9, c9, h⟩ := Option.bind_eq_some_iff.mp h
      refine AW.callS (As := [.int x5, .int x3]) (rest := [.int x5]) (rv := (some (.int v9))) (M' := (ms M (a0 + 1) (ix (208 + x6)) x5)) (pc' := 124) X (ok_X7_next c9) yv_X7_next ml_X7_49 ⟨by decide, by decide, by decide, by decide⟩ rfl (Nat.le_of_ble_eq_true rfl) rfl rfl dX7_setLines_121 rfl ?_
      refine AW.iadd (pc' := 125) X dX7_setLines_124 rfl ?_
      refine AW.istore (ls' := [(5, .int (x5 + v9)), (0, .ref a0), (3, .int x3), (4, .int x4), (6, .int x6)]) (pc' := 127) X (by decide) rfl dX7_setLines_125 rfl ?_
      refine AW.iinc (k0 := 4) (v := (x6 + 1)) (y := 1) (ls' := [(6, .int (x6 + 1)), (5, .int (x5 + v9)), (0, .ref a0), (3, .int x3), (4, .int x4)]) (pc' := 130) X rfl rfl rfl (by decide) rfl dX7_setLines_127 rfl ?_
      refine AW.goto (pc' := 96) X dX7_setLines_130 rfl ?_
      refine AW.sub (ls' := [(0, .ref a0), (3, .int x3), (4, .int x4), (5, .int (x5 + v9)), (6, .int (x6 + 1))]) [2, 3, 4, 1, 0] rfl ?_
      exact ih x3 x4 (x5 + v9) (x6 + 1) (ms M (a0 + 1) (ix (208 + x6)) x5) R h
set_option maxHeartbeats 4000000 in
set_option maxRecDepth 100000 in
theorem ok_X7_setLines_53 {a0 : Nat} (X : CX p s m args meth c cX7_setLines 7 RX7 D dA ad lo n A) (hr : meth.sig.returnType = (some .int)) (h0 : tMo lo n a0) : ∀ (k : Nat) (x1 : Int32) (x2 : Int32) (x3 : Int32) (x4 : Int32) (x5 : Int32) (M : MM) (R : (Int32 × MM)), f_X7_setLines_53 a0 k x1 x2 x3 x4 x5 M = some R → AR p l e 2 45 s m args below meth c D dA ad lo n 7 A (some (.int R.1)) R.2 53 [(0, .ref a0), (1, .int x1), (2, .int x2), (3, .int x3), (4, .int x4), (5, .int x5)] [] M := by
  intro k
  induction k with
  | zero => intro _ _ _ _ _ _ R h; exact none_some h
  | succ k ih =>
    intro x1 x2 x3 x4 x5 M R h
    unfold f_X7_setLines_53 at h
    refine AW.iload (k0 := 5) (pc' := 55) X rfl dX7_setLines_53 rfl ?_
    refine AW.iload_n (k0 := 2) (pc' := 56) X rfl rfl dX7_setLines_55 rfl ?_
    refine AW.icmp_gt (pc' := 59) (tgt := 76) X dX7_setLines_56 rfl rfl (fun q1 => ?_) (fun q1 => ?_)
    · replace h := itep q1 h
      refine AW.iload (k0 := 4) (pc' := 78) X rfl dX7_setLines_76 rfl ?_
      refine AW.bipush (v := 100) (pc' := 80) X rfl dX7_setLines_78 rfl ?_
      refine AW.icmp_le (pc' := 83) (tgt := 86) X dX7_setLines_80 rfl rfl (fun q2 => ?_) (fun q2 => ?_)
      · replace h := itep q2 h
        refine AW.aload_n (k0 := 0) (pc' := 87) X rfl rfl dX7_setLines_86 rfl ?_
        obtain ⟨v3, c3, h⟩ := Option.bind_eq_some_iff.mp h
        refine AW.callV (As := []) (rest := []) (rv := none) (M' := v3) (pc' := 90) X (ok_X7_records h0 c3) yv_X7_records h0.1 h0.2.1 (cM h0 dA ad _) rfl rfl ml_X7_53 ⟨by decide, by decide, by decide, by decide⟩ rfl (Nat.le_of_ble_eq_true rfl) rfl rfl dX7_setLines_87 rfl ?_
        refine AW.iload_n (k0 := 1) (pc' := 91) X rfl rfl dX7_setLines_90 rfl ?_
        refine AW.istore (ls' := [(5, .int x1), (0, .ref a0), (1, .int x1), (2, .int x2), (3, .int x3), (4, .int x4)]) (pc' := 93) X (by decide) rfl dX7_setLines_91 rfl ?_
        refine AW.iconst (v := 0) (pc' := 94) X rfl dX7_setLines_93 rfl ?_
        refine AW.istore (ls' := [(6, .int 0), (5, .int x1), (0, .ref a0), (1, .int x1), (2, .int x2), (3, .int x3), (4, .int x4)]) (pc' := 96) X (by decide) rfl dX7_setLines_94 rfl ?_
        refine AW.sub (ls' := [(0, .ref a0), (3, .int x3), (4, .int x4), (5, .int x1), (6, .int 0)]) [2, 5, 6, 1, 0] rfl ?_
        exact ok_X7_setLines_96 X hr h0 FU x3 x4 x1 0 v3 R h
      · replace h := iten q2 h
        refine AW.bipush (v := (-4)) (pc' := 85) X rfl dX7_setLines_83 rfl ?_
        replace h := Option.some.inj h
        subst h
        exact AW.iret X hr dX7_setLines_85
    · replace h := iten q1 h
      refine AW.iinc (k0 := 4) (v := (x4 + 1)) (y := 1) (ls' := [(4, .int (x4 + 1)), (0, .ref a0), (1, .int x1), (2, .int x2), (3, .int x3), (5, .int x5)]) (pc' := 62) X rfl rfl rfl (by decide) rfl dX7_setLines_59 rfl ?_
      refine AW.iload (k0 := 5) (pc' := 64) X rfl dX7_setLines_62 rfl ?_
      refine AW.iload (k0 := 5) (pc' := 66) X rfl dX7_setLines_64 rfl ?_
      refine AW.iload_n (k0 := 4) (pc' := 67) X rfl rfl dX7_setLines_66 rfl ?_
      obtain ⟨v4, c4, h⟩ := Option.bind_eq_some_iff.mp h
      refine AW.callS (As := [.int x5, .int x3]) (rest := [.int x5]) (rv := (some (.int v4))) (M' := M) (pc' := 70) X (ok_X7_next c4) yv_X7_next ml_X7_49 ⟨by decide, by decide, by decide, by decide⟩ rfl (Nat.le_of_ble_eq_true rfl) rfl rfl dX7_setLines_67 rfl ?_
      refine AW.iadd (pc' := 71) X dX7_setLines_70 rfl ?_
      refine AW.istore (ls' := [(5, .int (x5 + v4)), (4, .int (x4 + 1)), (0, .ref a0), (1, .int x1), (2, .int x2), (3, .int x3)]) (pc' := 73) X (by decide) rfl dX7_setLines_71 rfl ?_
      refine AW.goto (pc' := 53) X dX7_setLines_73 rfl ?_
      refine AW.sub (ls' := [(0, .ref a0), (1, .int x1), (2, .int x2), (3, .int x3), (4, .int (x4 + 1)), (5, .int (x5 + v4))]) [2, 3, 4, 5, 1, 0] rfl ?_
      exact ih x1 x2 x3 (x4 + 1) (x5 + v4) M R h
set_option maxHeartbeats 4000000 in
set_option maxRecDepth 100000 in
theorem ok_X7_setLines {lo n : Nat} {a0 : Nat} {x1 : Int32} {x2 : Int32} {x3 : Int32} {M : MM} {R : (Int32 × MM)} (h0 : tMo lo n a0) (h : f_X7_setLines a0 x1 x2 x3 M = some R) : MC yX7_setLines cX7_setLines 7 (some .int) 2 45 lo n [.ref a0, .int x1, .int x2, .int x3] M (some (.int R.1)) R.2 := by
  refine MC.of (ls0 := [(0, .ref a0), (1, .int x1), (2, .int x2), (3, .int x3)]) (by decide) rfl (fun _ => Nat.le_of_ble_eq_true rfl) (fun p l e s m args below meth c D dA ad A X hr => ?_)
  replace X : CX p s m args meth c cX7_setLines 7 RX7 D dA ad lo n A := X
  unfold f_X7_setLines at h
  refine AW.iload_n (k0 := 1) (pc' := 1) X rfl rfl dX7_setLines_0 rfl ?_
  refine AW.iconst (v := 5) (pc' := 2) X rfl dX7_setLines_1 rfl ?_
  refine AW.sipush (v := 1000) (pc' := 5) X rfl dX7_setLines_2 rfl ?_
  obtain ⟨v1, c1, h⟩ := Option.bind_eq_some_iff.mp h
  refine AW.callS (As := [.int x1, .int 5, .int 1000]) (rest := []) (rv := (some (.int (bz v1)))) (M' := M) (pc' := 8) X (ok_X7_in c1) yv_X7_in ml_X7_41 ⟨by decide, by decide, by decide, by decide⟩ rfl (Nat.le_of_ble_eq_true rfl) rfl rfl dX7_setLines_5 rfl ?_
  refine AW.if_eq (pc' := 11) (tgt := 34) X dX7_setLines_8 rfl rfl (fun q2 => ?_) (fun q2 => ?_)
  · replace h := itep q2 h
    refine AW.sub (ls' := []) [] rfl ?_
    exact ok_X7_setLines_34 X hr h0 M R h
  · replace h := iten q2 h
    refine AW.iload_n (k0 := 2) (pc' := 12) X rfl rfl dX7_setLines_11 rfl ?_
    refine AW.iload_n (k0 := 1) (pc' := 13) X rfl rfl dX7_setLines_12 rfl ?_
    refine AW.sipush (v := 2000) (pc' := 16) X rfl dX7_setLines_13 rfl ?_
    obtain ⟨v3, c3, h⟩ := Option.bind_eq_some_iff.mp h
    refine AW.callS (As := [.int x2, .int x1, .int 2000]) (rest := []) (rv := (some (.int (bz v3)))) (M' := M) (pc' := 19) X (ok_X7_in c3) yv_X7_in ml_X7_41 ⟨by decide, by decide, by decide, by decide⟩ rfl (Nat.le_of_ble_eq_true rfl) rfl rfl dX7_setLines_16 rfl ?_
    refine AW.if_eq (pc' := 22) (tgt := 34) X dX7_setLines_19 rfl rfl (fun q4 => ?_) (fun q4 => ?_)
    · replace h := itep q4 h
      refine AW.sub (ls' := []) [] rfl ?_
      exact ok_X7_setLines_34 X hr h0 M R h
    · replace h := iten q4 h
      refine AW.iload_n (k0 := 3) (pc' := 23) X rfl rfl dX7_setLines_22 rfl ?_
      refine AW.bipush (v := 10) (pc' := 25) X rfl dX7_setLines_23 rfl ?_
      refine AW.sipush (v := 1000) (pc' := 28) X rfl dX7_setLines_25 rfl ?_
      obtain ⟨v5, c5, h⟩ := Option.bind_eq_some_iff.mp h
      refine AW.callS (As := [.int x3, .int 10, .int 1000]) (rest := []) (rv := (some (.int (bz v5)))) (M' := M) (pc' := 31) X (ok_X7_in c5) yv_X7_in ml_X7_41 ⟨by decide, by decide, by decide, by decide⟩ rfl (Nat.le_of_ble_eq_true rfl) rfl rfl dX7_setLines_28 rfl ?_
      refine AW.if_ne (pc' := 34) (tgt := 37) X dX7_setLines_31 rfl rfl (fun q6 => ?_) (fun q6 => ?_)
      · replace h := iten q6 h
        refine AW.aload_n (k0 := 0) (pc' := 38) X rfl rfl dX7_setLines_37 rfl ?_
        obtain ⟨v7, c7, h⟩ := Option.bind_eq_some_iff.mp h
        refine AW.callV (As := []) (rest := []) (rv := (some (.int (bz v7)))) (M' := M) (pc' := 41) X (ok_X7_rests h0 c7) yv_X7_rests h0.1 h0.2.1 (cM h0 dA ad _) rfl rfl ml_X7_45 ⟨by decide, by decide, by decide, by decide⟩ rfl (Nat.le_of_ble_eq_true rfl) rfl rfl dX7_setLines_38 rfl ?_
        refine AW.if_ne (pc' := 44) (tgt := 47) X dX7_setLines_41 rfl rfl (fun q8 => ?_) (fun q8 => ?_)
        · replace h := iten q8 h
          refine AW.iconst (v := 0) (pc' := 48) X rfl dX7_setLines_47 rfl ?_
          refine AW.istore (ls' := [(4, .int 0), (0, .ref a0), (1, .int x1), (2, .int x2), (3, .int x3)]) (pc' := 50) X (by decide) rfl dX7_setLines_48 rfl ?_
          refine AW.iload_n (k0 := 2) (pc' := 51) X rfl rfl dX7_setLines_50 rfl ?_
          refine AW.istore (ls' := [(5, .int x1), (4, .int 0), (0, .ref a0), (1, .int x1), (2, .int x2), (3, .int x3)]) (pc' := 53) X (by decide) rfl dX7_setLines_51 rfl ?_
          refine AW.sub (ls' := [(0, .ref a0), (1, .int x1), (2, .int x2), (3, .int x3), (4, .int 0), (5, .int x1)]) [2, 3, 4, 5, 1, 0] rfl ?_
          exact ok_X7_setLines_53 X hr h0 FU x1 x2 x3 0 x1 M R h
        · replace h := itep q8 h
          refine AW.bipush (v := (-3)) (pc' := 46) X rfl dX7_setLines_44 rfl ?_
          replace h := Option.some.inj h
          subst h
          exact AW.iret X hr dX7_setLines_46
      · replace h := itep q6 h
        refine AW.sub (ls' := []) [] rfl ?_
        exact ok_X7_setLines_34 X hr h0 M R h
end OK
