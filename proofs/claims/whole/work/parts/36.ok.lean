/-! each method does what its function says: by program, a row an instruction -/
section OK
variable {p : Program} {l : Launch} {e : Env} {s : State} {m : MethodId} {args : Array Value} {below : List Frame} {meth : Method} {c : Code} {D : va_G} {dA : Nat → ClassId} {ad : Nat → Nat} {lo n : Nat} {A : Nat → Prop}
set_option maxHeartbeats 4000000 in
set_option maxRecDepth 100000 in
theorem ok_X7_takesAct_86 {a0 : Nat} (X : CX p s m args meth c cX7_takesAct 2 RX7 D dA ad lo n A) (hr : meth.sig.returnType = (some .boolean)) (h0 : tMo lo n a0) : ∀ (sb0 : Bool) (M : MM) (R : (Bool × MM)), f_X7_takesAct_86 a0 sb0 M = some R → AR p l e 2 46 s m args below meth c D dA ad lo n 2 A (some (.int (bz R.1))) R.2 86 [] [.int (bz sb0)] M := by
  intro sb0 M R h
  unfold f_X7_takesAct_86 at h
  replace h := Option.some.inj h
  subst h
  exact AW.zret (b := sb0) X hr dX7_takesAct_86
set_option maxHeartbeats 4000000 in
set_option maxRecDepth 100000 in
theorem ok_X7_takesAct_85 {a0 : Nat} (X : CX p s m args meth c cX7_takesAct 2 RX7 D dA ad lo n A) (hr : meth.sig.returnType = (some .boolean)) (h0 : tMo lo n a0) : ∀ (M : MM) (R : (Bool × MM)), f_X7_takesAct_85 a0 M = some R → AR p l e 2 46 s m args below meth c D dA ad lo n 2 A (some (.int (bz R.1))) R.2 85 [] [] M := by
  intro M R h
  unfold f_X7_takesAct_85 at h
  refine AW.iconst (v := 0) (pc' := 86) X rfl dX7_takesAct_85 rfl ?_
  exact ok_X7_takesAct_86 X hr h0 false M R h
set_option maxHeartbeats 4000000 in
set_option maxRecDepth 100000 in
theorem ok_X7_takesAct {lo n : Nat} {a0 : Nat} {x1 : Int32} {M : MM} {R : (Bool × MM)} (h0 : tMo lo n a0) (h : f_X7_takesAct a0 x1 M = some R) : MC yX7_takesAct cX7_takesAct 2 (some .boolean) 2 46 lo n [.ref a0, .int x1] M (some (.int (bz R.1))) R.2 := by
  refine MC.of (ls0 := [(0, .ref a0), (1, .int x1)]) (by decide) rfl (fun _ => Nat.le_of_ble_eq_true rfl) (fun p l e s m args below meth c D dA ad A X hr => ?_)
  replace X : CX p s m args meth c cX7_takesAct 2 RX7 D dA ad lo n A := X
  unfold f_X7_takesAct at h
  refine AW.iload_n (k0 := 1) (pc' := 1) X rfl rfl dX7_takesAct_0 rfl ?_
  by_cases q1 : x1 = 99
  · replace h := itep q1 h
    refine AW.lookup (pc' := 53) X dX7_takesAct_1 (by decide) (by rw [q1] <;> rfl) rfl ?_
    refine AW.aload_n (k0 := 0) (pc' := 54) X rfl rfl dX7_takesAct_53 rfl ?_
    refine AW.iconst (v := 0) (pc' := 55) X rfl dX7_takesAct_54 rfl ?_
    refine AW.iconst (v := 5) (pc' := 56) X rfl dX7_takesAct_55 rfl ?_
    obtain ⟨v2, c2, h⟩ := Option.bind_eq_some_iff.mp h
    refine AW.callV (As := [.int 0, .int 5]) (rest := []) (rv := (some (.int (bz v2.1)))) (M' := v2.2) (pc' := 59) X (ok_X7_takesNumber h0 c2) yv_X7_takesNumber h0.1 h0.2.1 (cM h0 dA ad _) rfl rfl ml_X7_152 ⟨by decide, by decide, by decide, by decide⟩ rfl (Nat.le_of_ble_eq_true rfl) rfl rfl dX7_takesAct_56 rfl ?_
    refine AW.if_eq (pc' := 62) (tgt := 85) X dX7_takesAct_59 rfl rfl (fun q3 => ?_) (fun q3 => ?_)
    · replace h := itep q3 h
      refine AW.sub (ls' := []) [] rfl ?_
      exact ok_X7_takesAct_85 X hr h0 v2.2 R h
    · replace h := iten q3 h
      refine AW.aload_n (k0 := 0) (pc' := 63) X rfl rfl dX7_takesAct_62 rfl ?_
      refine AW.bipush (v := 61) (pc' := 65) X rfl dX7_takesAct_63 rfl ?_
      obtain ⟨v4, c4, h⟩ := Option.bind_eq_some_iff.mp h
      refine AW.callV (As := [.int 61]) (rest := []) (rv := (some (.int (bz v4.1)))) (M' := v4.2) (pc' := 68) X (ok_X7_takes h0 c4) yv_X7_takes h0.1 h0.2.1 (cM h0 dA ad _) rfl rfl ml_X7_156 ⟨by decide, by decide, by decide, by decide⟩ rfl (Nat.le_of_ble_eq_true rfl) rfl rfl dX7_takesAct_65 rfl ?_
      refine AW.if_eq (pc' := 71) (tgt := 85) X dX7_takesAct_68 rfl rfl (fun q5 => ?_) (fun q5 => ?_)
      · replace h := itep q5 h
        refine AW.sub (ls' := []) [] rfl ?_
        exact ok_X7_takesAct_85 X hr h0 v4.2 R h
      · replace h := iten q5 h
        refine AW.aload_n (k0 := 0) (pc' := 72) X rfl rfl dX7_takesAct_71 rfl ?_
        refine AW.iconst (v := 0) (pc' := 73) X rfl dX7_takesAct_72 rfl ?_
        refine AW.bipush (v := 100) (pc' := 75) X rfl dX7_takesAct_73 rfl ?_
        obtain ⟨v6, c6, h⟩ := Option.bind_eq_some_iff.mp h
        refine AW.callV (As := [.int 0, .int 100]) (rest := []) (rv := (some (.int (bz v6.1)))) (M' := v6.2) (pc' := 78) X (ok_X7_takesNumber h0 c6) yv_X7_takesNumber h0.1 h0.2.1 (cM h0 dA ad _) rfl rfl ml_X7_152 ⟨by decide, by decide, by decide, by decide⟩ rfl (Nat.le_of_ble_eq_true rfl) rfl rfl dX7_takesAct_75 rfl ?_
        refine AW.if_eq (pc' := 81) (tgt := 85) X dX7_takesAct_78 rfl rfl (fun q7 => ?_) (fun q7 => ?_)
        · replace h := itep q7 h
          refine AW.sub (ls' := []) [] rfl ?_
          exact ok_X7_takesAct_85 X hr h0 v6.2 R h
        · replace h := iten q7 h
          refine AW.iconst (v := 1) (pc' := 82) X rfl dX7_takesAct_81 rfl ?_
          refine AW.goto (pc' := 86) X dX7_takesAct_82 rfl ?_
          refine AW.sub (ls' := []) [] rfl ?_
          exact ok_X7_takesAct_86 X hr h0 true v6.2 R h
  · replace h := iten q1 h
    by_cases q8 : x1 = 103
    · replace h := itep q8 h
      refine AW.lookup (pc' := 36) X dX7_takesAct_1 (by decide) (by rw [q8] <;> rfl) rfl ?_
      refine AW.aload_n (k0 := 0) (pc' := 37) X rfl rfl dX7_takesAct_36 rfl ?_
      refine AW.iconst (v := 1) (pc' := 38) X rfl dX7_takesAct_37 rfl ?_
      refine AW.sipush (v := 999) (pc' := 41) X rfl dX7_takesAct_38 rfl ?_
      obtain ⟨v9, c9, h⟩ := Option.bind_eq_some_iff.mp h
      refine AW.callV (As := [.int 1, .int 999]) (rest := []) (rv := (some (.int (bz v9.1)))) (M' := v9.2) (pc' := 44) X (ok_X7_takesNumber h0 c9) yv_X7_takesNumber h0.1 h0.2.1 (cM h0 dA ad _) rfl rfl ml_X7_152 ⟨by decide, by decide, by decide, by decide⟩ rfl (Nat.le_of_ble_eq_true rfl) rfl rfl dX7_takesAct_41 rfl ?_
      replace h := Option.some.inj h
      subst h
      exact AW.zret (b := v9.1) X hr dX7_takesAct_44
    · replace h := iten q8 h
      by_cases q10 : x1 = 115
      · replace h := itep q10 h
        refine AW.lookup (pc' := 45) X dX7_takesAct_1 (by decide) (by rw [q10] <;> rfl) rfl ?_
        refine AW.aload_n (k0 := 0) (pc' := 46) X rfl rfl dX7_takesAct_45 rfl ?_
        refine AW.iconst (v := 1) (pc' := 47) X rfl dX7_takesAct_46 rfl ?_
        refine AW.bipush (v := 50) (pc' := 49) X rfl dX7_takesAct_47 rfl ?_
        obtain ⟨v11, c11, h⟩ := Option.bind_eq_some_iff.mp h
        refine AW.callV (As := [.int 1, .int 50]) (rest := []) (rv := (some (.int (bz v11.1)))) (M' := v11.2) (pc' := 52) X (ok_X7_takesNumber h0 c11) yv_X7_takesNumber h0.1 h0.2.1 (cM h0 dA ad _) rfl rfl ml_X7_152 ⟨by decide, by decide, by decide, by decide⟩ rfl (Nat.le_of_ble_eq_true rfl) rfl rfl dX7_takesAct_49 rfl ?_
        replace h := Option.some.inj h
        subst h
        exact AW.zret (b := v11.1) X hr dX7_takesAct_52
      · replace h := iten q10 h
        refine AW.lookup (pc' := 87) X dX7_takesAct_1 (by decide) (by rw [lv_osw q1 (by decide : (99 : Int32).toInt = 99), lv_osw q8 (by decide : (103 : Int32).toInt = 103), lv_osw q10 (by decide : (115 : Int32).toInt = 115)] <;> rfl) rfl ?_
        refine AW.iconst (v := 1) (pc' := 88) X rfl dX7_takesAct_87 rfl ?_
        replace h := Option.some.inj h
        subst h
        exact AW.zret (b := true) X hr dX7_takesAct_88
set_option maxHeartbeats 4000000 in
set_option maxRecDepth 100000 in
theorem ok_X7_isLetter_41 {M : MM} (X : CX p s m args meth c cX7_isLetter 1 RX7 D dA ad lo n A) (hr : meth.sig.returnType = (some .boolean)) : ∀ (sb0 : Bool) (R : Bool), f_X7_isLetter_41 M sb0 = some R → AR p l e 0 0 s m args below meth c D dA ad lo n 1 A (some (.int (bz R))) M 41 [] [.int (bz sb0)] M := by
  intro sb0 R h
  unfold f_X7_isLetter_41 at h
  replace h := Option.some.inj h
  subst h
  exact AW.zret (b := sb0) X hr dX7_isLetter_41
set_option maxHeartbeats 4000000 in
set_option maxRecDepth 100000 in
theorem ok_X7_isLetter_36 {M : MM} (X : CX p s m args meth c cX7_isLetter 1 RX7 D dA ad lo n A) (hr : meth.sig.returnType = (some .boolean)) : ∀  (R : Bool), f_X7_isLetter_36 M  = some R → AR p l e 0 0 s m args below meth c D dA ad lo n 1 A (some (.int (bz R))) M 36 [] [] M := by
  intro  R h
  unfold f_X7_isLetter_36 at h
  refine AW.iconst (v := 1) (pc' := 37) X rfl dX7_isLetter_36 rfl ?_
  refine AW.goto (pc' := 41) X dX7_isLetter_37 rfl ?_
  exact ok_X7_isLetter_41 X hr true R h
set_option maxHeartbeats 4000000 in
set_option maxRecDepth 100000 in
theorem ok_X7_isLetter {lo n : Nat} {x0 : Int32} {M : MM} {R : Bool}  (h : f_X7_isLetter x0 M = some R) : MC yX7_isLetter cX7_isLetter 1 (some .boolean) 0 0 lo n [.int x0] M (some (.int (bz R))) M := by
  refine MC.of (ls0 := [(0, .int x0)]) (by decide) rfl (fun _ => Nat.le_of_ble_eq_true rfl) (fun p l e s m args below meth c D dA ad A X hr => ?_)
  replace X : CX p s m args meth c cX7_isLetter 1 RX7 D dA ad lo n A := X
  unfold f_X7_isLetter at h
  refine AW.iload_n (k0 := 0) (pc' := 1) X rfl rfl dX7_isLetter_0 rfl ?_
  refine AW.bipush (v := 103) (pc' := 3) X rfl dX7_isLetter_1 rfl ?_
  refine AW.icmp_eq (pc' := 6) (tgt := 36) X dX7_isLetter_3 rfl rfl (fun q1 => ?_) (fun q1 => ?_)
  · replace h := itep q1 h
    refine AW.sub (ls' := []) [] rfl ?_
    exact ok_X7_isLetter_36 X hr R h
  · replace h := iten q1 h
    refine AW.iload_n (k0 := 0) (pc' := 7) X rfl rfl dX7_isLetter_6 rfl ?_
    refine AW.bipush (v := 115) (pc' := 9) X rfl dX7_isLetter_7 rfl ?_
    refine AW.icmp_eq (pc' := 12) (tgt := 36) X dX7_isLetter_9 rfl rfl (fun q2 => ?_) (fun q2 => ?_)
    · replace h := itep q2 h
      refine AW.sub (ls' := []) [] rfl ?_
      exact ok_X7_isLetter_36 X hr R h
    · replace h := iten q2 h
      refine AW.iload_n (k0 := 0) (pc' := 13) X rfl rfl dX7_isLetter_12 rfl ?_
      refine AW.bipush (v := 104) (pc' := 15) X rfl dX7_isLetter_13 rfl ?_
      refine AW.icmp_eq (pc' := 18) (tgt := 36) X dX7_isLetter_15 rfl rfl (fun q3 => ?_) (fun q3 => ?_)
      · replace h := itep q3 h
        refine AW.sub (ls' := []) [] rfl ?_
        exact ok_X7_isLetter_36 X hr R h
      · replace h := iten q3 h
        refine AW.iload_n (k0 := 0) (pc' := 19) X rfl rfl dX7_isLetter_18 rfl ?_
        refine AW.bipush (v := 114) (pc' := 21) X rfl dX7_isLetter_19 rfl ?_
        refine AW.icmp_eq (pc' := 24) (tgt := 36) X dX7_isLetter_21 rfl rfl (fun q4 => ?_) (fun q4 => ?_)
        · replace h := itep q4 h
          refine AW.sub (ls' := []) [] rfl ?_
          exact ok_X7_isLetter_36 X hr R h
        · replace h := iten q4 h
          refine AW.iload_n (k0 := 0) (pc' := 25) X rfl rfl dX7_isLetter_24 rfl ?_
          refine AW.bipush (v := 120) (pc' := 27) X rfl dX7_isLetter_25 rfl ?_
          refine AW.icmp_eq (pc' := 30) (tgt := 36) X dX7_isLetter_27 rfl rfl (fun q5 => ?_) (fun q5 => ?_)
          · replace h := itep q5 h
            refine AW.sub (ls' := []) [] rfl ?_
            exact ok_X7_isLetter_36 X hr R h
          · replace h := iten q5 h
            refine AW.iload_n (k0 := 0) (pc' := 31) X rfl rfl dX7_isLetter_30 rfl ?_
            refine AW.bipush (v := 99) (pc' := 33) X rfl dX7_isLetter_31 rfl ?_
            refine AW.icmp_ne (pc' := 36) (tgt := 40) X dX7_isLetter_33 rfl rfl (fun q6 => ?_) (fun q6 => ?_)
            · replace h := iten q6 h
              refine AW.iconst (v := 0) (pc' := 41) X rfl dX7_isLetter_40 rfl ?_
              refine AW.sub (ls' := []) [] rfl ?_
              exact ok_X7_isLetter_41 X hr false R h
            · replace h := itep q6 h
              refine AW.sub (ls' := []) [] rfl ?_
              exact ok_X7_isLetter_36 X hr R h
set_option maxHeartbeats 4000000 in
set_option maxRecDepth 100000 in
theorem ok_X7_faultPosition_60 {a0 : Nat} (X : CX p s m args meth c cX7_faultPosition 2 RX7 D dA ad lo n A) (hr : meth.sig.returnType = (some .int)) (h0 : tMo lo n a0) : ∀ (M : MM) (R : (Int32 × MM)), f_X7_faultPosition_60 a0 M = some R → AR p l e 3 67 s m args below meth c D dA ad lo n 2 A (some (.int R.1)) R.2 60 [(0, .ref a0)] [] M := by
  intro M R h
  unfold f_X7_faultPosition_60 at h
  refine AW.aload_n (k0 := 0) (pc' := 61) X rfl rfl dX7_faultPosition_60 rfl ?_
  refine AW.gX7 (v := .int (M a0 6)) (pc' := 64) X h0 6 (by decide) rfl mf_X7_143 rfl dX7_faultPosition_61 rfl ?_
  replace h := Option.some.inj h
  subst h
  exact AW.iret X hr dX7_faultPosition_64
set_option maxHeartbeats 4000000 in
set_option maxRecDepth 100000 in
theorem ok_X7_faultPosition_5 {a0 : Nat} (X : CX p s m args meth c cX7_faultPosition 2 RX7 D dA ad lo n A) (hr : meth.sig.returnType = (some .int)) (h0 : tMo lo n a0) : ∀ (k : Nat) (M : MM) (R : (Int32 × MM)), f_X7_faultPosition_5 a0 k M = some R → AR p l e 3 67 s m args below meth c D dA ad lo n 2 A (some (.int R.1)) R.2 5 [(0, .ref a0)] [] M := by
  intro k
  induction k with
  | zero => intro _ R h; exact none_some h
  | succ k ih =>
    intro M R h
    unfold f_X7_faultPosition_5 at h
    refine AW.aload_n (k0 := 0) (pc' := 6) X rfl rfl dX7_faultPosition_5 rfl ?_
    refine AW.gX7 (v := .int (M a0 6)) (pc' := 9) X h0 6 (by decide) rfl mf_X7_143 rfl dX7_faultPosition_6 rfl ?_
    refine AW.aload_n (k0 := 0) (pc' := 10) X rfl rfl dX7_faultPosition_9 rfl ?_
    refine AW.gX7 (v := .int (M a0 4)) (pc' := 13) X h0 4 (by decide) rfl mf_X7_140 rfl dX7_faultPosition_10 rfl ?_
    refine AW.icmp_ge (pc' := 16) (tgt := 68) X dX7_faultPosition_13 rfl rfl (fun q1 => ?_) (fun q1 => ?_)
    · replace h := itep q1 h
      refine AW.bipush (v := (-6)) (pc' := 70) X rfl dX7_faultPosition_68 rfl ?_
      replace h := Option.some.inj h
      subst h
      exact AW.iret X hr dX7_faultPosition_70
    · replace h := iten q1 h
      refine AW.aload_n (k0 := 0) (pc' := 17) X rfl rfl dX7_faultPosition_16 rfl ?_
      obtain ⟨v2, c2, h⟩ := Option.bind_eq_some_iff.mp h
      refine AW.callV (As := []) (rest := []) (rv := (some (.int v2))) (M' := M) (pc' := 20) X (ok_X7_peek h0 c2) yv_X7_peek h0.1 h0.2.1 (cM h0 dA ad _) rfl rfl ml_X7_146 ⟨by decide, by decide, by decide, by decide⟩ rfl (Nat.le_of_ble_eq_true rfl) rfl rfl dX7_faultPosition_17 rfl ?_
      refine AW.istore_n (ls' := [(1, .int v2), (0, .ref a0)]) (pc' := 21) X rfl (by decide) rfl dX7_faultPosition_20 rfl ?_
      refine AW.iload_n (k0 := 0) (pc' := 22) X rfl rfl dX7_faultPosition_21 rfl ?_
      obtain ⟨v3, c3, h⟩ := Option.bind_eq_some_iff.mp h
      refine AW.callS (As := [.int v2]) (rest := []) (rv := (some (.int (bz v3)))) (M' := M) (pc' := 25) X (ok_X7_isLetter c3) yv_X7_isLetter ml_X7_159 ⟨by decide, by decide, by decide, by decide⟩ rfl (Nat.le_of_ble_eq_true rfl) rfl rfl dX7_faultPosition_22 rfl ?_
      refine AW.if_ne (pc' := 28) (tgt := 33) X dX7_faultPosition_25 rfl rfl (fun q4 => ?_) (fun q4 => ?_)
      · replace h := iten q4 h
        refine AW.aload_n (k0 := 1) (pc' := 34) X rfl rfl dX7_faultPosition_33 rfl ?_
        refine AW.dup (pc' := 35) X rfl dX7_faultPosition_34 rfl ?_
        refine AW.gX7 (v := .int (M a0 6)) (pc' := 38) X h0 6 (by decide) rfl mf_X7_143 rfl dX7_faultPosition_35 rfl ?_
        refine AW.iconst (v := 1) (pc' := 39) X rfl dX7_faultPosition_38 rfl ?_
        refine AW.iadd (pc' := 40) X dX7_faultPosition_39 rfl ?_
        refine AW.pX7 (pc' := 43) X h0 6 (by decide) rfl mf_X7_143 rfl rfl (by simp [fsM, upd]) (Nat.le_of_ble_eq_true rfl) dX7_faultPosition_40 rfl ?_
        refine AW.aload_n (k0 := 1) (pc' := 44) X rfl rfl dX7_faultPosition_43 rfl ?_
        refine AW.iload_n (k0 := 0) (pc' := 45) X rfl rfl dX7_faultPosition_44 rfl ?_
        obtain ⟨v5, c5, h⟩ := Option.bind_eq_some_iff.mp h
        refine AW.callV (As := [.int v2]) (rest := []) (rv := (some (.int (bz v5.1)))) (M' := v5.2) (pc' := 48) X (ok_X7_takesAct h0 c5) yv_X7_takesAct h0.1 h0.2.1 (cM h0 dA ad _) rfl rfl ml_X7_162 ⟨by decide, by decide, by decide, by decide⟩ rfl (Nat.le_of_ble_eq_true rfl) rfl rfl dX7_faultPosition_45 rfl ?_
        refine AW.if_eq (pc' := 51) (tgt := 60) X dX7_faultPosition_48 rfl rfl (fun q6 => ?_) (fun q6 => ?_)
        · replace h := itep q6 h
          refine AW.sub (ls' := [(0, .ref a0)]) [1] rfl ?_
          exact ok_X7_faultPosition_60 X hr h0 v5.2 R h
        · replace h := iten q6 h
          refine AW.aload_n (k0 := 1) (pc' := 52) X rfl rfl dX7_faultPosition_51 rfl ?_
          refine AW.bipush (v := 59) (pc' := 54) X rfl dX7_faultPosition_52 rfl ?_
          obtain ⟨v7, c7, h⟩ := Option.bind_eq_some_iff.mp h
          refine AW.callV (As := [.int 59]) (rest := []) (rv := (some (.int (bz v7.1)))) (M' := v7.2) (pc' := 57) X (ok_X7_takes h0 c7) yv_X7_takes h0.1 h0.2.1 (cM h0 dA ad _) rfl rfl ml_X7_156 ⟨by decide, by decide, by decide, by decide⟩ rfl (Nat.le_of_ble_eq_true rfl) rfl rfl dX7_faultPosition_54 rfl ?_
          refine AW.if_ne (pc' := 60) (tgt := 65) X dX7_faultPosition_57 rfl rfl (fun q8 => ?_) (fun q8 => ?_)
          · replace h := iten q8 h
            refine AW.goto (pc' := 5) X dX7_faultPosition_65 rfl ?_
            refine AW.sub (ls' := [(0, .ref a0)]) [1] rfl ?_
            exact ih v7.2 R h
          · replace h := itep q8 h
            refine AW.sub (ls' := [(0, .ref a0)]) [1] rfl ?_
            exact ok_X7_faultPosition_60 X hr h0 v7.2 R h
      · replace h := itep q4 h
        refine AW.aload_n (k0 := 1) (pc' := 29) X rfl rfl dX7_faultPosition_28 rfl ?_
        refine AW.gX7 (v := .int (M a0 6)) (pc' := 32) X h0 6 (by decide) rfl mf_X7_143 rfl dX7_faultPosition_29 rfl ?_
        replace h := Option.some.inj h
        subst h
        exact AW.iret X hr dX7_faultPosition_32
set_option maxHeartbeats 4000000 in
set_option maxRecDepth 100000 in
theorem ok_X7_faultPosition {lo n : Nat} {a0 : Nat} {M : MM} {R : (Int32 × MM)} (h0 : tMo lo n a0) (h : f_X7_faultPosition a0 M = some R) : MC yX7_faultPosition cX7_faultPosition 2 (some .int) 3 67 lo n [.ref a0] M (some (.int R.1)) R.2 := by
  refine MC.of (ls0 := [(0, .ref a0)]) (by decide) rfl (fun _ => Nat.le_of_ble_eq_true rfl) (fun p l e s m args below meth c D dA ad A X hr => ?_)
  replace X : CX p s m args meth c cX7_faultPosition 2 RX7 D dA ad lo n A := X
  unfold f_X7_faultPosition at h
  refine AW.aload_n (k0 := 0) (pc' := 1) X rfl rfl dX7_faultPosition_0 rfl ?_
  refine AW.iconst (v := 0) (pc' := 2) X rfl dX7_faultPosition_1 rfl ?_
  refine AW.pX7 (pc' := 5) X h0 6 (by decide) rfl mf_X7_143 rfl rfl (by simp [fsM, upd]) (Nat.le_of_ble_eq_true rfl) dX7_faultPosition_2 rfl ?_
  exact ok_X7_faultPosition_5 X hr h0 FU (ms M a0 6 0) R h
set_option maxHeartbeats 4000000 in
set_option maxRecDepth 100000 in
theorem ok_X7_does_249 {a0 : Nat} (X : CX p s m args meth c cX7_does 4 RX7 D dA ad lo n A) (hr : meth.sig.returnType = (some .boolean)) (h0 : tMo lo n a0) : ∀ (b2 : Bool) (M : MM) (R : (Bool × MM)), f_X7_does_249 a0 b2 M = some R → AR p l e 5 129 s m args below meth c D dA ad lo n 4 A (some (.int (bz R.1))) R.2 249 [(0, .ref a0), (2, .int (bz b2))] [] M := by
  intro b2 M R h
  unfold f_X7_does_249 at h
  refine AW.aload_n (k0 := 0) (pc' := 250) X rfl rfl dX7_does_249 rfl ?_
  refine AW.bipush (v := 59) (pc' := 252) X rfl dX7_does_250 rfl ?_
  obtain ⟨v1, c1, h⟩ := Option.bind_eq_some_iff.mp h
  refine AW.callV (As := [.int 59]) (rest := []) (rv := (some (.int (bz v1.1)))) (M' := v1.2) (pc' := 255) X (ok_X7_takes h0 c1) yv_X7_takes h0.1 h0.2.1 (cM h0 dA ad _) rfl rfl ml_X7_156 ⟨by decide, by decide, by decide, by decide⟩ rfl (Nat.le_of_ble_eq_true rfl) rfl rfl dX7_does_252 rfl ?_
  refine AW.pop (pc' := 256) X rfl dX7_does_255 rfl ?_
  refine AW.iload_n (k0 := 1) (pc' := 257) X rfl rfl dX7_does_256 rfl ?_
  replace h := Option.some.inj h
  subst h
  exact AW.zret (b := b2) X hr dX7_does_257
set_option maxHeartbeats 4000000 in
set_option maxRecDepth 100000 in
theorem ok_X7_does_29 {a0 : Nat} (X : CX p s m args meth c cX7_does 4 RX7 D dA ad lo n A) (hr : meth.sig.returnType = (some .boolean)) (h0 : tMo lo n a0) : ∀ (sb0 : Bool) (M : MM) (R : (Bool × MM)), f_X7_does_29 a0 sb0 M = some R → AR p l e 5 129 s m args below meth c D dA ad lo n 4 A (some (.int (bz R.1))) R.2 29 [(0, .ref a0)] [.int (bz sb0)] M := by
  intro sb0 M R h
  unfold f_X7_does_29 at h
  refine AW.istore_n (ls' := [(2, .int (bz sb0)), (0, .ref a0)]) (pc' := 30) X rfl (by decide) rfl dX7_does_29 rfl ?_
  refine AW.iload_n (k0 := 0) (pc' := 31) X rfl rfl dX7_does_30 rfl ?_
  refine AW.if_eq (pc' := 34) (tgt := 45) X dX7_does_31 rfl rfl (fun q1 => ?_) (fun q1 => ?_)
  · replace h := itep q1 h
    refine AW.aload_n (k0 := 1) (pc' := 46) X rfl rfl dX7_does_45 rfl ?_
    refine AW.gX7 (v := .ref (a0 + 1)) (pc' := 49) X h0 0 (by decide) rfl mf_X7_7 rfl dX7_does_46 rfl ?_
    refine AW.bipush (v := 11) (pc' := 51) X rfl dX7_does_49 rfl ?_
    refine AW.aload_n (k0 := 1) (pc' := 52) X rfl rfl dX7_does_51 rfl ?_
    obtain ⟨v2, c2, h⟩ := Option.bind_eq_some_iff.mp h
    refine AW.callV (As := []) (rest := [.int 11, .ref (a0 + 1)]) (rv := (some (.int v2))) (M' := M) (pc' := 55) X (ok_X7_refusal h0 c2) yv_X7_refusal h0.1 h0.2.1 (cM h0 dA ad _) rfl rfl ml_X7_81 ⟨by decide, by decide, by decide, by decide⟩ rfl (Nat.le_of_ble_eq_true rfl) rfl rfl dX7_does_52 rfl ?_
    obtain ⟨g3, h⟩ := gd_some h
    refine AW.iast (pc' := 56) X (rM1 h0) (inb_vp g3) dX7_does_55 rfl ?_
    refine AW.goto (pc' := 249) X dX7_does_56 rfl ?_
    refine AW.sub (ls' := [(0, .ref a0), (2, .int (bz sb0))]) [1, 0] rfl ?_
    exact ok_X7_does_249 X hr h0 sb0 (ms M (a0 + 1) (ix 11) v2) R h
  · replace h := iten q1 h
    refine AW.aload_n (k0 := 1) (pc' := 35) X rfl rfl dX7_does_34 rfl ?_
    refine AW.aload_n (k0 := 1) (pc' := 36) X rfl rfl dX7_does_35 rfl ?_
    refine AW.gX7 (v := .int (M a0 7)) (pc' := 39) X h0 7 (by decide) rfl mf_X7_149 rfl dX7_does_36 rfl ?_
    obtain ⟨v4, c4, h⟩ := Option.bind_eq_some_iff.mp h
    refine AW.callV (As := [.int (M a0 7)]) (rest := []) (rv := none) (M' := v4) (pc' := 42) X (ok_X7_starts h0 c4) yv_X7_starts h0.1 h0.2.1 (cM h0 dA ad _) rfl rfl ml_X7_85 ⟨by decide, by decide, by decide, by decide⟩ rfl (Nat.le_of_ble_eq_true rfl) rfl rfl dX7_does_39 rfl ?_
    refine AW.goto (pc' := 249) X dX7_does_42 rfl ?_
    refine AW.sub (ls' := [(0, .ref a0), (2, .int (bz sb0))]) [1, 0] rfl ?_
    exact ok_X7_does_249 X hr h0 sb0 v4 R h
set_option maxHeartbeats 4000000 in
set_option maxRecDepth 100000 in
theorem ok_X7_does_85 {a0 : Nat} (X : CX p s m args meth c cX7_does 4 RX7 D dA ad lo n A) (hr : meth.sig.returnType = (some .boolean)) (h0 : tMo lo n a0) : ∀ (sb0 : Bool) (M : MM) (R : (Bool × MM)), f_X7_does_85 a0 sb0 M = some R → AR p l e 5 129 s m args below meth c D dA ad lo n 4 A (some (.int (bz R.1))) R.2 85 [(0, .ref a0)] [.int (bz sb0)] M := by
  intro sb0 M R h
  unfold f_X7_does_85 at h
  refine AW.istore_n (ls' := [(2, .int (bz sb0)), (0, .ref a0)]) (pc' := 86) X rfl (by decide) rfl dX7_does_85 rfl ?_
  refine AW.aload_n (k0 := 1) (pc' := 87) X rfl rfl dX7_does_86 rfl ?_
  refine AW.aload_n (k0 := 1) (pc' := 88) X rfl rfl dX7_does_87 rfl ?_
  refine AW.gX7 (v := .int (M a0 7)) (pc' := 91) X h0 7 (by decide) rfl mf_X7_149 rfl dX7_does_88 rfl ?_
  obtain ⟨v1, c1, h⟩ := Option.bind_eq_some_iff.mp h
  refine AW.callV (As := [.int (M a0 7)]) (rest := []) (rv := (some (.int v1.1))) (M' := v1.2) (pc' := 94) X (ok_X7_loops h0 c1) yv_X7_loops h0.1 h0.2.1 (cM h0 dA ad _) rfl rfl ml_X7_127 ⟨by decide, by decide, by decide, by decide⟩ rfl (Nat.le_of_ble_eq_true rfl) rfl rfl dX7_does_91 rfl ?_
  refine AW.pop (pc' := 95) X rfl dX7_does_94 rfl ?_
  refine AW.goto (pc' := 249) X dX7_does_95 rfl ?_
  refine AW.sub (ls' := [(0, .ref a0), (2, .int (bz sb0))]) [1, 0] rfl ?_
  exact ok_X7_does_249 X hr h0 sb0 v1.2 R h
set_option maxHeartbeats 4000000 in
set_option maxRecDepth 100000 in
theorem ok_X7_does_177 {a0 : Nat} (X : CX p s m args meth c cX7_does 4 RX7 D dA ad lo n A) (hr : meth.sig.returnType = (some .boolean)) (h0 : tMo lo n a0) {r2 : Nat} (hr2 : tIA lo n 16272 r2) : ∀ (b2 : Bool) (s0 : Int32) (s1 : Int32) (M : MM) (R : (Bool × MM)), f_X7_does_177 a0 b2 s0 s1 r2 M = some R → AR p l e 5 129 s m args below meth c D dA ad lo n 4 A (some (.int (bz R.1))) R.2 177 [(0, .ref a0), (2, .int (bz b2))] [.int s0, .int s1, .ref r2] M := by
  intro b2 s0 s1 M R h
  unfold f_X7_does_177 at h
  obtain ⟨g1, h⟩ := gd_some h
  refine AW.iast (pc' := 178) X hr2 (inb_vp g1) dX7_does_177 rfl ?_
  refine AW.goto (pc' := 249) X dX7_does_178 rfl ?_
  exact ok_X7_does_249 X hr h0 b2 (ms M r2 (ix s1) s0) R h
set_option maxHeartbeats 4000000 in
set_option maxRecDepth 100000 in
theorem ok_X7_does_148 {a0 : Nat} (X : CX p s m args meth c cX7_does 4 RX7 D dA ad lo n A) (hr : meth.sig.returnType = (some .boolean)) (h0 : tMo lo n a0) : ∀ (x3 : Int32) (sb0 : Bool) (M : MM) (R : (Bool × MM)), f_X7_does_148 a0 x3 sb0 M = some R → AR p l e 5 129 s m args below meth c D dA ad lo n 4 A (some (.int (bz R.1))) R.2 148 [(0, .ref a0), (3, .int x3)] [.int (bz sb0)] M := by
  intro x3 sb0 M R h
  unfold f_X7_does_148 at h
  refine AW.istore_n (ls' := [(2, .int (bz sb0)), (0, .ref a0), (3, .int x3)]) (pc' := 149) X rfl (by decide) rfl dX7_does_148 rfl ?_
  refine AW.aload_n (k0 := 1) (pc' := 150) X rfl rfl dX7_does_149 rfl ?_
  refine AW.gX7 (v := .ref (a0 + 1)) (pc' := 153) X h0 0 (by decide) rfl mf_X7_7 rfl dX7_does_150 rfl ?_
  refine AW.bipush (v := 12) (pc' := 155) X rfl dX7_does_153 rfl ?_
  refine AW.iload_n (k0 := 2) (pc' := 156) X rfl rfl dX7_does_155 rfl ?_
  refine AW.iadd (pc' := 157) X dX7_does_156 rfl ?_
  refine AW.iload_n (k0 := 0) (pc' := 158) X rfl rfl dX7_does_157 rfl ?_
  refine AW.if_eq (pc' := 161) (tgt := 168) X dX7_does_158 rfl rfl (fun q1 => ?_) (fun q1 => ?_)
  · replace h := itep q1 h
    refine AW.aload_n (k0 := 1) (pc' := 169) X rfl rfl dX7_does_168 rfl ?_
    refine AW.gX7 (v := .ref (a0 + 1)) (pc' := 172) X h0 0 (by decide) rfl mf_X7_7 rfl dX7_does_169 rfl ?_
    refine AW.bipush (v := 12) (pc' := 174) X rfl dX7_does_172 rfl ?_
    refine AW.iload_n (k0 := 2) (pc' := 175) X rfl rfl dX7_does_174 rfl ?_
    refine AW.iadd (pc' := 176) X dX7_does_175 rfl ?_
    obtain ⟨g2, h⟩ := gd_some h
    refine AW.iald (pc' := 177) X (rM1 h0) (inb_vp g2) dX7_does_176 rfl ?_
    refine AW.sub (ls' := [(0, .ref a0), (2, .int (bz sb0))]) [1, 0] rfl ?_
    exact ok_X7_does_177 X hr h0 (rM1 h0) sb0 (M (a0 + 1) (ix (12 + x3))) (12 + x3) M R h
  · replace h := iten q1 h
    refine AW.aload_n (k0 := 1) (pc' := 162) X rfl rfl dX7_does_161 rfl ?_
    refine AW.gX7 (v := .int (M a0 7)) (pc' := 165) X h0 7 (by decide) rfl mf_X7_149 rfl dX7_does_162 rfl ?_
    refine AW.goto (pc' := 177) X dX7_does_165 rfl ?_
    refine AW.sub (ls' := [(0, .ref a0), (2, .int (bz sb0))]) [1, 0] rfl ?_
    exact ok_X7_does_177 X hr h0 (rM1 h0) sb0 (M a0 7) (12 + x3) M R h
set_option maxHeartbeats 4000000 in
set_option maxRecDepth 100000 in
theorem ok_X7_does_248 {a0 : Nat} (X : CX p s m args meth c cX7_does 4 RX7 D dA ad lo n A) (hr : meth.sig.returnType = (some .boolean)) (h0 : tMo lo n a0) {r2 : Nat} (hr2 : tIA lo n 16272 r2) : ∀ (b2 : Bool) (s0 : Int32) (sb1 : Bool) (M : MM) (R : (Bool × MM)), f_X7_does_248 a0 b2 s0 sb1 r2 M = some R → AR p l e 5 129 s m args below meth c D dA ad lo n 4 A (some (.int (bz R.1))) R.2 248 [(0, .ref a0), (2, .int (bz b2))] [.int s0, .int (bz sb1), .ref r2] M := by
  intro b2 s0 sb1 M R h
  unfold f_X7_does_248 at h
  obtain ⟨g1, h⟩ := gd_some h
  refine AW.iast (pc' := 249) X hr2 (inb_vp g1) dX7_does_248 rfl ?_
  exact ok_X7_does_249 X hr h0 b2 (ms M r2 (ix (bz sb1)) s0) R h
set_option maxHeartbeats 4000000 in
set_option maxRecDepth 100000 in
theorem ok_X7_does_215 {a0 : Nat} (X : CX p s m args meth c cX7_does 4 RX7 D dA ad lo n A) (hr : meth.sig.returnType = (some .boolean)) (h0 : tMo lo n a0) : ∀ (x1 : Int32) (sb0 : Bool) (M : MM) (R : (Bool × MM)), f_X7_does_215 a0 x1 sb0 M = some R → AR p l e 5 129 s m args below meth c D dA ad lo n 4 A (some (.int (bz R.1))) R.2 215 [(0, .ref a0), (1, .int x1)] [.int (bz sb0), .ref a0] M := by
  intro x1 sb0 M R h
  unfold f_X7_does_215 at h
  obtain ⟨v1, c1, h⟩ := Option.bind_eq_some_iff.mp h
  refine AW.callV (As := [.int (bz sb0)]) (rest := []) (rv := (some (.int (bz v1)))) (M' := M) (pc' := 218) X (ok_X7_canHold h0 c1) yv_X7_canHold h0.1 h0.2.1 (cM h0 dA ad _) rfl rfl ml_X7_130 ⟨by decide, by decide, by decide, by decide⟩ rfl (Nat.le_of_ble_eq_true rfl) rfl rfl dX7_does_215 rfl ?_
  refine AW.istore_n (ls' := [(2, .int (bz v1)), (0, .ref a0), (1, .int x1)]) (pc' := 219) X rfl (by decide) rfl dX7_does_218 rfl ?_
  refine AW.aload_n (k0 := 1) (pc' := 220) X rfl rfl dX7_does_219 rfl ?_
  refine AW.gX7 (v := .ref (a0 + 1)) (pc' := 223) X h0 0 (by decide) rfl mf_X7_7 rfl dX7_does_220 rfl ?_
  refine AW.iconst (v := 1) (pc' := 224) X rfl dX7_does_223 rfl ?_
  refine AW.iload_n (k0 := 0) (pc' := 225) X rfl rfl dX7_does_224 rfl ?_
  refine AW.if_eq (pc' := 228) (tgt := 242) X dX7_does_225 rfl rfl (fun q2 => ?_) (fun q2 => ?_)
  · replace h := itep q2 h
    refine AW.aload_n (k0 := 1) (pc' := 243) X rfl rfl dX7_does_242 rfl ?_
    refine AW.gX7 (v := .ref (a0 + 1)) (pc' := 246) X h0 0 (by decide) rfl mf_X7_7 rfl dX7_does_243 rfl ?_
    refine AW.iconst (v := 1) (pc' := 247) X rfl dX7_does_246 rfl ?_
    obtain ⟨g3, h⟩ := gd_some h
    refine AW.iald (pc' := 248) X (rM1 h0) (inb_vp g3) dX7_does_247 rfl ?_
    refine AW.sub (ls' := [(0, .ref a0), (2, .int (bz v1))]) [1, 0] rfl ?_
    exact ok_X7_does_248 X hr h0 (rM1 h0) v1 (M (a0 + 1) (ix 1)) true M R h
  · replace h := iten q2 h
    refine AW.iload_n (k0 := 2) (pc' := 229) X rfl rfl dX7_does_228 rfl ?_
    refine AW.bipush (v := 104) (pc' := 231) X rfl dX7_does_229 rfl ?_
    refine AW.icmp_ne (pc' := 234) (tgt := 238) X dX7_does_231 rfl rfl (fun q4 => ?_) (fun q4 => ?_)
    · replace h := iten q4 h
      refine AW.iconst (v := 1) (pc' := 239) X rfl dX7_does_238 rfl ?_
      refine AW.goto (pc' := 248) X dX7_does_239 rfl ?_
      refine AW.sub (ls' := [(0, .ref a0), (2, .int (bz v1))]) [1, 0] rfl ?_
      exact ok_X7_does_248 X hr h0 (rM1 h0) v1 1 true M R h
    · replace h := itep q4 h
      refine AW.iconst (v := 2) (pc' := 235) X rfl dX7_does_234 rfl ?_
      refine AW.goto (pc' := 248) X dX7_does_235 rfl ?_
      refine AW.sub (ls' := [(0, .ref a0), (2, .int (bz v1))]) [1, 0] rfl ?_
      exact ok_X7_does_248 X hr h0 (rM1 h0) v1 2 true M R h
set_option maxHeartbeats 4000000 in
set_option maxRecDepth 100000 in
theorem ok_X7_does {lo n : Nat} {a0 : Nat} {x1 : Int32} {M : MM} {R : (Bool × MM)} (h0 : tMo lo n a0) (h : f_X7_does a0 x1 M = some R) : MC yX7_does cX7_does 4 (some .boolean) 5 129 lo n [.ref a0, .int x1] M (some (.int (bz R.1))) R.2 := by
  refine MC.of (ls0 := [(0, .ref a0), (1, .int x1)]) (by decide) rfl (fun _ => Nat.le_of_ble_eq_true rfl) (fun p l e s m args below meth c D dA ad A X hr => ?_)
  replace X : CX p s m args meth c cX7_does 4 RX7 D dA ad lo n A := X
  unfold f_X7_does at h
  refine AW.iconst (v := 1) (pc' := 1) X rfl dX7_does_0 rfl ?_
  refine AW.istore_n (ls' := [(2, .int 1), (0, .ref a0), (1, .int x1)]) (pc' := 2) X rfl (by decide) rfl dX7_does_1 rfl ?_
  refine AW.iload_n (k0 := 2) (pc' := 3) X rfl rfl dX7_does_2 rfl ?_
  refine AW.bipush (v := 103) (pc' := 5) X rfl dX7_does_3 rfl ?_
  refine AW.icmp_ne (pc' := 8) (tgt := 59) X dX7_does_5 rfl rfl (fun q1 => ?_) (fun q1 => ?_)
  · replace h := iten q1 h
    refine AW.iload_n (k0 := 2) (pc' := 60) X rfl rfl dX7_does_59 rfl ?_
    refine AW.bipush (v := 115) (pc' := 62) X rfl dX7_does_60 rfl ?_
    refine AW.icmp_ne (pc' := 65) (tgt := 98) X dX7_does_62 rfl rfl (fun q2 => ?_) (fun q2 => ?_)
    · replace h := iten q2 h
      refine AW.iload_n (k0 := 2) (pc' := 99) X rfl rfl dX7_does_98 rfl ?_
      refine AW.bipush (v := 99) (pc' := 101) X rfl dX7_does_99 rfl ?_
      refine AW.icmp_ne (pc' := 104) (tgt := 181) X dX7_does_101 rfl rfl (fun q3 => ?_) (fun q3 => ?_)
      · replace h := iten q3 h
        refine AW.iload_n (k0 := 2) (pc' := 182) X rfl rfl dX7_does_181 rfl ?_
        refine AW.bipush (v := 120) (pc' := 184) X rfl dX7_does_182 rfl ?_
        refine AW.icmp_ne (pc' := 187) (tgt := 203) X dX7_does_184 rfl rfl (fun q4 => ?_) (fun q4 => ?_)
        · replace h := iten q4 h
          refine AW.aload_n (k0 := 1) (pc' := 204) X rfl rfl dX7_does_203 rfl ?_
          refine AW.iload_n (k0 := 2) (pc' := 205) X rfl rfl dX7_does_204 rfl ?_
          refine AW.bipush (v := 104) (pc' := 207) X rfl dX7_does_205 rfl ?_
          refine AW.icmp_ne (pc' := 210) (tgt := 214) X dX7_does_207 rfl rfl (fun q5 => ?_) (fun q5 => ?_)
          · replace h := iten q5 h
            refine AW.iconst (v := 0) (pc' := 215) X rfl dX7_does_214 rfl ?_
            refine AW.sub (ls' := [(0, .ref a0), (1, .int x1)]) [1, 2] rfl ?_
            exact ok_X7_does_215 X hr h0 x1 false M R h
          · replace h := itep q5 h
            refine AW.iconst (v := 1) (pc' := 211) X rfl dX7_does_210 rfl ?_
            refine AW.goto (pc' := 215) X dX7_does_211 rfl ?_
            refine AW.sub (ls' := [(0, .ref a0), (1, .int x1)]) [1, 2] rfl ?_
            exact ok_X7_does_215 X hr h0 x1 true M R h
        · replace h := itep q4 h
          refine AW.aload_n (k0 := 1) (pc' := 188) X rfl rfl dX7_does_187 rfl ?_
          obtain ⟨v6, c6, h⟩ := Option.bind_eq_some_iff.mp h
          refine AW.callV (As := []) (rest := []) (rv := (some (.int (bz v6)))) (M' := M) (pc' := 191) X (ok_X7_canAbort h0 c6) yv_X7_canAbort h0.1 h0.2.1 (cM h0 dA ad _) rfl rfl ml_X7_134 ⟨by decide, by decide, by decide, by decide⟩ rfl (Nat.le_of_ble_eq_true rfl) rfl rfl dX7_does_188 rfl ?_
          refine AW.istore_n (ls' := [(2, .int (bz v6)), (0, .ref a0), (1, .int x1)]) (pc' := 192) X rfl (by decide) rfl dX7_does_191 rfl ?_
          refine AW.iload_n (k0 := 0) (pc' := 193) X rfl rfl dX7_does_192 rfl ?_
          refine AW.if_eq (pc' := 196) (tgt := 249) X dX7_does_193 rfl rfl (fun q7 => ?_) (fun q7 => ?_)
          · replace h := itep q7 h
            refine AW.sub (ls' := [(0, .ref a0), (2, .int (bz v6))]) [1, 0] rfl ?_
            exact ok_X7_does_249 X hr h0 v6 M R h
          · replace h := iten q7 h
            refine AW.aload_n (k0 := 1) (pc' := 197) X rfl rfl dX7_does_196 rfl ?_
            obtain ⟨v8, c8, h⟩ := Option.bind_eq_some_iff.mp h
            refine AW.callV (As := []) (rest := []) (rv := none) (M' := v8) (pc' := 200) X (ok_X7_aborts h0 c8) yv_X7_aborts h0.1 h0.2.1 (cM h0 dA ad _) rfl rfl ml_X7_137 ⟨by decide, by decide, by decide, by decide⟩ rfl (Nat.le_of_ble_eq_true rfl) rfl rfl dX7_does_197 rfl ?_
            refine AW.goto (pc' := 249) X dX7_does_200 rfl ?_
            refine AW.sub (ls' := [(0, .ref a0), (2, .int (bz v6))]) [1, 0] rfl ?_
            exact ok_X7_does_249 X hr h0 v6 v8 R h
      · replace h := itep q3 h
        refine AW.aload_n (k0 := 1) (pc' := 105) X rfl rfl dX7_does_104 rfl ?_
        refine AW.iconst (v := 0) (pc' := 106) X rfl dX7_does_105 rfl ?_
        refine AW.iconst (v := 5) (pc' := 107) X rfl dX7_does_106 rfl ?_
        obtain ⟨v9, c9, h⟩ := Option.bind_eq_some_iff.mp h
        refine AW.callV (As := [.int 0, .int 5]) (rest := []) (rv := (some (.int (bz v9.1)))) (M' := v9.2) (pc' := 110) X (ok_X7_takesNumber h0 c9) yv_X7_takesNumber h0.1 h0.2.1 (cM h0 dA ad _) rfl rfl ml_X7_152 ⟨by decide, by decide, by decide, by decide⟩ rfl (Nat.le_of_ble_eq_true rfl) rfl rfl dX7_does_107 rfl ?_
        refine AW.pop (pc' := 111) X rfl dX7_does_110 rfl ?_
        refine AW.aload_n (k0 := 1) (pc' := 112) X rfl rfl dX7_does_111 rfl ?_
        refine AW.gX7 (v := .int (v9.2 a0 7)) (pc' := 115) X h0 7 (by decide) rfl mf_X7_149 rfl dX7_does_112 rfl ?_
        refine AW.istore_n (ls' := [(3, .int (v9.2 a0 7)), (2, .int 1), (0, .ref a0), (1, .int x1)]) (pc' := 116) X rfl (by decide) rfl dX7_does_115 rfl ?_
        refine AW.aload_n (k0 := 2) (pc' := 117) X rfl rfl dX7_does_116 rfl ?_
        refine AW.bipush (v := 61) (pc' := 119) X rfl dX7_does_117 rfl ?_
        obtain ⟨v10, c10, h⟩ := Option.bind_eq_some_iff.mp h
        refine AW.callV (As := [.int 61]) (rest := []) (rv := (some (.int (bz v10.1)))) (M' := v10.2) (pc' := 122) X (ok_X7_takes h0 c10) yv_X7_takes h0.1 h0.2.1 (cM h0 dA ad _) rfl rfl ml_X7_156 ⟨by decide, by decide, by decide, by decide⟩ rfl (Nat.le_of_ble_eq_true rfl) rfl rfl dX7_does_119 rfl ?_
        refine AW.pop (pc' := 123) X rfl dX7_does_122 rfl ?_
        refine AW.aload_n (k0 := 2) (pc' := 124) X rfl rfl dX7_does_123 rfl ?_
        refine AW.iconst (v := 0) (pc' := 125) X rfl dX7_does_124 rfl ?_
        refine AW.bipush (v := 100) (pc' := 127) X rfl dX7_does_125 rfl ?_
        obtain ⟨v11, c11, h⟩ := Option.bind_eq_some_iff.mp h
        refine AW.callV (As := [.int 0, .int 100]) (rest := []) (rv := (some (.int (bz v11.1)))) (M' := v11.2) (pc' := 130) X (ok_X7_takesNumber h0 c11) yv_X7_takesNumber h0.1 h0.2.1 (cM h0 dA ad _) rfl rfl ml_X7_152 ⟨by decide, by decide, by decide, by decide⟩ rfl (Nat.le_of_ble_eq_true rfl) rfl rfl dX7_does_127 rfl ?_
        refine AW.pop (pc' := 131) X rfl dX7_does_130 rfl ?_
        refine AW.aload_n (k0 := 2) (pc' := 132) X rfl rfl dX7_does_131 rfl ?_
        refine AW.iload_n (k0 := 0) (pc' := 133) X rfl rfl dX7_does_132 rfl ?_
        refine AW.aload_n (k0 := 2) (pc' := 134) X rfl rfl dX7_does_133 rfl ?_
        refine AW.gX7 (v := .int (v11.2 a0 7)) (pc' := 137) X h0 7 (by decide) rfl mf_X7_149 rfl dX7_does_134 rfl ?_
        obtain ⟨v12, c12, h⟩ := Option.bind_eq_some_iff.mp h
        refine AW.callV (As := [.int (v9.2 a0 7), .int (v11.2 a0 7)]) (rest := []) (rv := (some (.int v12))) (M' := v11.2) (pc' := 140) X (ok_X7_whyNotSet h0 c12) yv_X7_whyNotSet h0.1 h0.2.1 (cM h0 dA ad _) rfl rfl ml_X7_75 ⟨by decide, by decide, by decide, by decide⟩ rfl (Nat.le_of_ble_eq_true rfl) rfl rfl dX7_does_137 rfl ?_
        refine AW.if_ne (pc' := 143) (tgt := 147) X dX7_does_140 rfl rfl (fun q13 => ?_) (fun q13 => ?_)
        · replace h := iten q13 h
          refine AW.iconst (v := 0) (pc' := 148) X rfl dX7_does_147 rfl ?_
          refine AW.sub (ls' := [(0, .ref a0), (3, .int (v9.2 a0 7))]) [2, 0] rfl ?_
          exact ok_X7_does_148 X hr h0 (v9.2 a0 7) false v11.2 R h
        · replace h := itep q13 h
          refine AW.iconst (v := 1) (pc' := 144) X rfl dX7_does_143 rfl ?_
          refine AW.goto (pc' := 148) X dX7_does_144 rfl ?_
          refine AW.sub (ls' := [(0, .ref a0), (3, .int (v9.2 a0 7))]) [2, 0] rfl ?_
          exact ok_X7_does_148 X hr h0 (v9.2 a0 7) true v11.2 R h
    · replace h := itep q2 h
      refine AW.aload_n (k0 := 1) (pc' := 66) X rfl rfl dX7_does_65 rfl ?_
      refine AW.iconst (v := 1) (pc' := 67) X rfl dX7_does_66 rfl ?_
      refine AW.bipush (v := 50) (pc' := 69) X rfl dX7_does_67 rfl ?_
      obtain ⟨v14, c14, h⟩ := Option.bind_eq_some_iff.mp h
      refine AW.callV (As := [.int 1, .int 50]) (rest := []) (rv := (some (.int (bz v14.1)))) (M' := v14.2) (pc' := 72) X (ok_X7_takesNumber h0 c14) yv_X7_takesNumber h0.1 h0.2.1 (cM h0 dA ad _) rfl rfl ml_X7_152 ⟨by decide, by decide, by decide, by decide⟩ rfl (Nat.le_of_ble_eq_true rfl) rfl rfl dX7_does_69 rfl ?_
      refine AW.pop (pc' := 73) X rfl dX7_does_72 rfl ?_
      refine AW.aload_n (k0 := 1) (pc' := 74) X rfl rfl dX7_does_73 rfl ?_
      obtain ⟨v15, c15, h⟩ := Option.bind_eq_some_iff.mp h
      refine AW.callV (As := []) (rest := []) (rv := (some (.int (bz v15)))) (M' := v14.2) (pc' := 77) X (ok_X7_rests h0 c15) yv_X7_rests h0.1 h0.2.1 (cM h0 dA ad _) rfl rfl ml_X7_45 ⟨by decide, by decide, by decide, by decide⟩ rfl (Nat.le_of_ble_eq_true rfl) rfl rfl dX7_does_74 rfl ?_
      refine AW.if_ne (pc' := 80) (tgt := 84) X dX7_does_77 rfl rfl (fun q16 => ?_) (fun q16 => ?_)
      · replace h := iten q16 h
        refine AW.iconst (v := 0) (pc' := 85) X rfl dX7_does_84 rfl ?_
        refine AW.sub (ls' := [(0, .ref a0)]) [1] rfl ?_
        exact ok_X7_does_85 X hr h0 false v14.2 R h
      · replace h := itep q16 h
        refine AW.iconst (v := 1) (pc' := 81) X rfl dX7_does_80 rfl ?_
        refine AW.goto (pc' := 85) X dX7_does_81 rfl ?_
        refine AW.sub (ls' := [(0, .ref a0)]) [1] rfl ?_
        exact ok_X7_does_85 X hr h0 true v14.2 R h
  · replace h := itep q1 h
    refine AW.aload_n (k0 := 1) (pc' := 9) X rfl rfl dX7_does_8 rfl ?_
    refine AW.iconst (v := 1) (pc' := 10) X rfl dX7_does_9 rfl ?_
    refine AW.sipush (v := 999) (pc' := 13) X rfl dX7_does_10 rfl ?_
    obtain ⟨v17, c17, h⟩ := Option.bind_eq_some_iff.mp h
    refine AW.callV (As := [.int 1, .int 999]) (rest := []) (rv := (some (.int (bz v17.1)))) (M' := v17.2) (pc' := 16) X (ok_X7_takesNumber h0 c17) yv_X7_takesNumber h0.1 h0.2.1 (cM h0 dA ad _) rfl rfl ml_X7_152 ⟨by decide, by decide, by decide, by decide⟩ rfl (Nat.le_of_ble_eq_true rfl) rfl rfl dX7_does_13 rfl ?_
    refine AW.pop (pc' := 17) X rfl dX7_does_16 rfl ?_
    refine AW.aload_n (k0 := 1) (pc' := 18) X rfl rfl dX7_does_17 rfl ?_
    obtain ⟨v18, c18, h⟩ := Option.bind_eq_some_iff.mp h
    refine AW.callV (As := []) (rest := []) (rv := (some (.int v18))) (M' := v17.2) (pc' := 21) X (ok_X7_refusal h0 c18) yv_X7_refusal h0.1 h0.2.1 (cM h0 dA ad _) rfl rfl ml_X7_81 ⟨by decide, by decide, by decide, by decide⟩ rfl (Nat.le_of_ble_eq_true rfl) rfl rfl dX7_does_18 rfl ?_
    refine AW.if_ne (pc' := 24) (tgt := 28) X dX7_does_21 rfl rfl (fun q19 => ?_) (fun q19 => ?_)
    · replace h := iten q19 h
      refine AW.iconst (v := 0) (pc' := 29) X rfl dX7_does_28 rfl ?_
      refine AW.sub (ls' := [(0, .ref a0)]) [1] rfl ?_
      exact ok_X7_does_29 X hr h0 false v17.2 R h
    · replace h := itep q19 h
      refine AW.iconst (v := 1) (pc' := 25) X rfl dX7_does_24 rfl ?_
      refine AW.goto (pc' := 29) X dX7_does_25 rfl ?_
      refine AW.sub (ls' := [(0, .ref a0)]) [1] rfl ?_
      exact ok_X7_does_29 X hr h0 true v17.2 R h
set_option maxHeartbeats 4000000 in
set_option maxRecDepth 100000 in
theorem ok_X7_run_23 {a0 : Nat} (X : CX p s m args meth c cX7_run 3 RX7 D dA ad lo n A) (hr : meth.sig.returnType = (some .int)) (h0 : tMo lo n a0) : ∀ (k : Nat) (x1 : Int32) (M : MM) (R : (Int32 × MM)), f_X7_run_23 a0 k x1 M = some R → AR p l e 6 152 s m args below meth c D dA ad lo n 3 A (some (.int R.1)) R.2 23 [(0, .ref a0), (1, .int x1)] [] M := by
  intro k
  induction k with
  | zero => intro _ _ R h; exact none_some h
  | succ k ih =>
    intro x1 M R h
    unfold f_X7_run_23 at h
    refine AW.aload_n (k0 := 0) (pc' := 24) X rfl rfl dX7_run_23 rfl ?_
    refine AW.gX7 (v := .int (M a0 6)) (pc' := 27) X h0 6 (by decide) rfl mf_X7_143 rfl dX7_run_24 rfl ?_
    refine AW.aload_n (k0 := 0) (pc' := 28) X rfl rfl dX7_run_27 rfl ?_
    refine AW.gX7 (v := .int (M a0 4)) (pc' := 31) X h0 4 (by decide) rfl mf_X7_140 rfl dX7_run_28 rfl ?_
    refine AW.icmp_ge (pc' := 34) (tgt := 65) X dX7_run_31 rfl rfl (fun q1 => ?_) (fun q1 => ?_)
    · replace h := itep q1 h
      refine AW.iload_n (k0 := 1) (pc' := 66) X rfl rfl dX7_run_65 rfl ?_
      replace h := Option.some.inj h
      subst h
      exact AW.iret X hr dX7_run_66
    · replace h := iten q1 h
      refine AW.aload_n (k0 := 0) (pc' := 35) X rfl rfl dX7_run_34 rfl ?_
      obtain ⟨v2, c2, h⟩ := Option.bind_eq_some_iff.mp h
      refine AW.callV (As := []) (rest := []) (rv := (some (.int v2))) (M' := M) (pc' := 38) X (ok_X7_peek h0 c2) yv_X7_peek h0.1 h0.2.1 (cM h0 dA ad _) rfl rfl ml_X7_146 ⟨by decide, by decide, by decide, by decide⟩ rfl (Nat.le_of_ble_eq_true rfl) rfl rfl dX7_run_35 rfl ?_
      refine AW.istore_n (ls' := [(2, .int v2), (0, .ref a0), (1, .int x1)]) (pc' := 39) X rfl (by decide) rfl dX7_run_38 rfl ?_
      refine AW.aload_n (k0 := 1) (pc' := 40) X rfl rfl dX7_run_39 rfl ?_
      refine AW.dup (pc' := 41) X rfl dX7_run_40 rfl ?_
      refine AW.gX7 (v := .int (M a0 6)) (pc' := 44) X h0 6 (by decide) rfl mf_X7_143 rfl dX7_run_41 rfl ?_
      refine AW.iconst (v := 1) (pc' := 45) X rfl dX7_run_44 rfl ?_
      refine AW.iadd (pc' := 46) X dX7_run_45 rfl ?_
      refine AW.pX7 (pc' := 49) X h0 6 (by decide) rfl mf_X7_143 rfl rfl (by simp [fsM, upd]) (Nat.le_of_ble_eq_true rfl) dX7_run_46 rfl ?_
      refine AW.aload_n (k0 := 1) (pc' := 50) X rfl rfl dX7_run_49 rfl ?_
      refine AW.iload_n (k0 := 0) (pc' := 51) X rfl rfl dX7_run_50 rfl ?_
      obtain ⟨v3, c3, h⟩ := Option.bind_eq_some_iff.mp h
      refine AW.callV (As := [.int v2]) (rest := []) (rv := (some (.int (bz v3.1)))) (M' := v3.2) (pc' := 54) X (ok_X7_does h0 c3) yv_X7_does h0.1 h0.2.1 (cM h0 dA ad _) rfl rfl ml_X7_168 ⟨by decide, by decide, by decide, by decide⟩ rfl (Nat.le_of_ble_eq_true rfl) rfl rfl dX7_run_51 rfl ?_
      refine AW.if_ne (pc' := 57) (tgt := 59) X dX7_run_54 rfl rfl (fun q4 => ?_) (fun q4 => ?_)
      · replace h := iten q4 h
        refine AW.iinc (k0 := 2) (v := (x1 + 1)) (y := 1) (ls' := [(1, .int (x1 + 1)), (2, .int v2), (0, .ref a0)]) (pc' := 62) X rfl rfl rfl (by decide) rfl dX7_run_59 rfl ?_
        refine AW.goto (pc' := 23) X dX7_run_62 rfl ?_
        refine AW.sub (ls' := [(0, .ref a0), (1, .int (x1 + 1))]) [2, 0] rfl ?_
        exact ih (x1 + 1) v3.2 R h
      · replace h := itep q4 h
        refine AW.iload_n (k0 := 2) (pc' := 58) X rfl rfl dX7_run_57 rfl ?_
        replace h := Option.some.inj h
        subst h
        exact AW.iret X hr dX7_run_58
set_option maxHeartbeats 4000000 in
set_option maxRecDepth 100000 in
theorem ok_X7_run {lo n : Nat} {a0 : Nat} {M : MM} {R : (Int32 × MM)} (h0 : tMo lo n a0) (h : f_X7_run a0 M = some R) : MC yX7_run cX7_run 3 (some .int) 6 152 lo n [.ref a0] M (some (.int R.1)) R.2 := by
  refine MC.of (ls0 := [(0, .ref a0)]) (by decide) rfl (fun _ => Nat.le_of_ble_eq_true rfl) (fun p l e s m args below meth c D dA ad A X hr => ?_)
  replace X : CX p s m args meth c cX7_run 3 RX7 D dA ad lo n A := X
  unfold f_X7_run at h
  refine AW.aload_n (k0 := 0) (pc' := 1) X rfl rfl dX7_run_0 rfl ?_
  obtain ⟨v1, c1, h⟩ := Option.bind_eq_some_iff.mp h
  refine AW.callV (As := []) (rest := []) (rv := (some (.int v1.1))) (M' := v1.2) (pc' := 4) X (ok_X7_faultPosition h0 c1) yv_X7_faultPosition h0.1 h0.2.1 (cM h0 dA ad _) rfl rfl ml_X7_165 ⟨by decide, by decide, by decide, by decide⟩ rfl (Nat.le_of_ble_eq_true rfl) rfl rfl dX7_run_1 rfl ?_
  refine AW.bipush (v := (-6)) (pc' := 6) X rfl dX7_run_4 rfl ?_
  refine AW.icmp_eq (pc' := 9) (tgt := 12) X dX7_run_6 rfl rfl (fun q2 => ?_) (fun q2 => ?_)
  · replace h := itep q2 h
    refine AW.aload_n (k0 := 0) (pc' := 13) X rfl rfl dX7_run_12 rfl ?_
    obtain ⟨v3, c3, h⟩ := Option.bind_eq_some_iff.mp h
    refine AW.callV (As := []) (rest := []) (rv := none) (M' := v3) (pc' := 16) X (ok_X7_records h0 c3) yv_X7_records h0.1 h0.2.1 (cM h0 dA ad _) rfl rfl ml_X7_53 ⟨by decide, by decide, by decide, by decide⟩ rfl (Nat.le_of_ble_eq_true rfl) rfl rfl dX7_run_13 rfl ?_
    refine AW.aload_n (k0 := 0) (pc' := 17) X rfl rfl dX7_run_16 rfl ?_
    refine AW.iconst (v := 0) (pc' := 18) X rfl dX7_run_17 rfl ?_
    refine AW.pX7 (pc' := 21) X h0 6 (by decide) rfl mf_X7_143 rfl rfl (by simp [fsM, upd]) (Nat.le_of_ble_eq_true rfl) dX7_run_18 rfl ?_
    refine AW.iconst (v := 0) (pc' := 22) X rfl dX7_run_21 rfl ?_
    refine AW.istore_n (ls' := [(1, .int 0), (0, .ref a0)]) (pc' := 23) X rfl (by decide) rfl dX7_run_22 rfl ?_
    refine AW.sub (ls' := [(0, .ref a0), (1, .int 0)]) [1, 0] rfl ?_
    exact ok_X7_run_23 X hr h0 FU 0 (ms v3 a0 6 0) R h
  · replace h := iten q2 h
    refine AW.bipush (v := (-3)) (pc' := 11) X rfl dX7_run_9 rfl ?_
    replace h := Option.some.inj h
    subst h
    exact AW.iret X hr dX7_run_11
set_option maxHeartbeats 4000000 in
set_option maxRecDepth 100000 in
theorem ok_X7_undo {lo n : Nat} {a0 : Nat} {M : MM} {R : (Int32 × MM)} (h0 : tMo lo n a0) (h : f_X7_undo a0 M = some R) : MC yX7_undo cX7_undo 1 (some .int) 1 23 lo n [.ref a0] M (some (.int R.1)) R.2 := by
  refine MC.of (ls0 := [(0, .ref a0)]) (by decide) rfl (fun _ => Nat.le_of_ble_eq_true rfl) (fun p l e s m args below meth c D dA ad A X hr => ?_)
  replace X : CX p s m args meth c cX7_undo 1 RX7 D dA ad lo n A := X
  unfold f_X7_undo at h
  refine AW.aload_n (k0 := 0) (pc' := 1) X rfl rfl dX7_undo_0 rfl ?_
  refine AW.gX7 (v := .int (M a0 1)) (pc' := 4) X h0 1 (by decide) rfl mf_X7_29 rfl dX7_undo_1 rfl ?_
  refine AW.if_ne (pc' := 7) (tgt := 10) X dX7_undo_4 rfl rfl (fun q1 => ?_) (fun q1 => ?_)
  · replace h := iten q1 h
    refine AW.aload_n (k0 := 0) (pc' := 11) X rfl rfl dX7_undo_10 rfl ?_
    refine AW.sipush (v := 1808) (pc' := 14) X rfl dX7_undo_11 rfl ?_
    refine AW.aload_n (k0 := 0) (pc' := 15) X rfl rfl dX7_undo_14 rfl ?_
    refine AW.gX7 (v := .int (M a0 1)) (pc' := 18) X h0 1 (by decide) rfl mf_X7_29 rfl dX7_undo_15 rfl ?_
    refine AW.imul (pc' := 19) X dX7_undo_18 rfl ?_
    refine AW.iconst (v := 0) (pc' := 20) X rfl dX7_undo_19 rfl ?_
    obtain ⟨v2, c2, h⟩ := Option.bind_eq_some_iff.mp h
    refine AW.callV (As := [.int (1808 * (M a0 1)), .int 0]) (rest := []) (rv := none) (M' := v2) (pc' := 23) X (ok_X7_copies h0 c2) yv_X7_copies h0.1 h0.2.1 (cM h0 dA ad _) rfl rfl ml_X7_33 ⟨by decide, by decide, by decide, by decide⟩ rfl (Nat.le_of_ble_eq_true rfl) rfl rfl dX7_undo_20 rfl ?_
    refine AW.aload_n (k0 := 0) (pc' := 24) X rfl rfl dX7_undo_23 rfl ?_
    refine AW.dup (pc' := 25) X rfl dX7_undo_24 rfl ?_
    refine AW.gX7 (v := .int (v2 a0 1)) (pc' := 28) X h0 1 (by decide) rfl mf_X7_29 rfl dX7_undo_25 rfl ?_
    refine AW.iconst (v := 1) (pc' := 29) X rfl dX7_undo_28 rfl ?_
    refine AW.isub (pc' := 30) X dX7_undo_29 rfl ?_
    refine AW.pX7 (pc' := 33) X h0 1 (by decide) rfl mf_X7_29 rfl rfl (by simp [fsM, upd]) (Nat.le_of_ble_eq_true rfl) dX7_undo_30 rfl ?_
    refine AW.aload_n (k0 := 0) (pc' := 34) X rfl rfl dX7_undo_33 rfl ?_
    refine AW.gX7 (v := .int ((ms v2 a0 1 ((v2 a0 1) - 1)) a0 1)) (pc' := 37) X h0 1 (by decide) rfl mf_X7_29 rfl dX7_undo_34 rfl ?_
    replace h := Option.some.inj h
    subst h
    exact AW.iret X hr dX7_undo_37
  · replace h := itep q1 h
    refine AW.bipush (v := (-3)) (pc' := 9) X rfl dX7_undo_7 rfl ?_
    replace h := Option.some.inj h
    subst h
    exact AW.iret X hr dX7_undo_9
set_option maxHeartbeats 4000000 in
set_option maxRecDepth 100000 in
theorem ok_X7_save {lo n : Nat} {a0 : Nat} {x1 : Int32} {M : MM} {R : (Int32 × MM)} (h0 : tMo lo n a0) (h : f_X7_save a0 x1 M = some R) : MC yX7_save cX7_save 2 (some .int) 1 23 lo n [.ref a0, .int x1] M (some (.int R.1)) R.2 := by
  refine MC.of (ls0 := [(0, .ref a0), (1, .int x1)]) (by decide) rfl (fun _ => Nat.le_of_ble_eq_true rfl) (fun p l e s m args below meth c D dA ad A X hr => ?_)
  replace X : CX p s m args meth c cX7_save 2 RX7 D dA ad lo n A := X
  unfold f_X7_save at h
  refine AW.iload_n (k0 := 1) (pc' := 1) X rfl rfl dX7_save_0 rfl ?_
  refine AW.iconst (v := 0) (pc' := 2) X rfl dX7_save_1 rfl ?_
  refine AW.iconst (v := 1) (pc' := 3) X rfl dX7_save_2 rfl ?_
  obtain ⟨v1, c1, h⟩ := Option.bind_eq_some_iff.mp h
  refine AW.callS (As := [.int x1, .int 0, .int 1]) (rest := []) (rv := (some (.int (bz v1)))) (M' := M) (pc' := 6) X (ok_X7_in c1) yv_X7_in ml_X7_41 ⟨by decide, by decide, by decide, by decide⟩ rfl (Nat.le_of_ble_eq_true rfl) rfl rfl dX7_save_3 rfl ?_
  refine AW.if_ne (pc' := 9) (tgt := 11) X dX7_save_6 rfl rfl (fun q2 => ?_) (fun q2 => ?_)
  · replace h := iten q2 h
    refine AW.aload_n (k0 := 0) (pc' := 12) X rfl rfl dX7_save_11 rfl ?_
    refine AW.iconst (v := 0) (pc' := 13) X rfl dX7_save_12 rfl ?_
    refine AW.sipush (v := 1808) (pc' := 16) X rfl dX7_save_13 rfl ?_
    refine AW.bipush (v := 6) (pc' := 18) X rfl dX7_save_16 rfl ?_
    refine AW.iload_n (k0 := 1) (pc' := 19) X rfl rfl dX7_save_18 rfl ?_
    refine AW.iadd (pc' := 20) X dX7_save_19 rfl ?_
    refine AW.imul (pc' := 21) X dX7_save_20 rfl ?_
    obtain ⟨v3, c3, h⟩ := Option.bind_eq_some_iff.mp h
    refine AW.callV (As := [.int 0, .int (1808 * (6 + x1))]) (rest := []) (rv := none) (M' := v3) (pc' := 24) X (ok_X7_copies h0 c3) yv_X7_copies h0.1 h0.2.1 (cM h0 dA ad _) rfl rfl ml_X7_33 ⟨by decide, by decide, by decide, by decide⟩ rfl (Nat.le_of_ble_eq_true rfl) rfl rfl dX7_save_21 rfl ?_
    refine AW.aload_n (k0 := 0) (pc' := 25) X rfl rfl dX7_save_24 rfl ?_
    refine AW.gX7 (v := .ref (a0 + 2)) (pc' := 28) X h0 2 (by decide) rfl mf_X7_13 rfl dX7_save_25 rfl ?_
    refine AW.iload_n (k0 := 1) (pc' := 29) X rfl rfl dX7_save_28 rfl ?_
    refine AW.iconst (v := 1) (pc' := 30) X rfl dX7_save_29 rfl ?_
    obtain ⟨g4, h⟩ := gd_some h
    refine AW.zast (b := true) (pc' := 31) X (rM2 h0) (inb_vp g4) dX7_save_30 rfl ?_
    refine AW.aload_n (k0 := 0) (pc' := 32) X rfl rfl dX7_save_31 rfl ?_
    refine AW.gX7 (v := .ref (a0 + 1)) (pc' := 35) X h0 0 (by decide) rfl mf_X7_7 rfl dX7_save_32 rfl ?_
    refine AW.iconst (v := 1) (pc' := 36) X rfl dX7_save_35 rfl ?_
    obtain ⟨g5, h⟩ := gd_some h
    refine AW.iald (pc' := 37) X (rM1 h0) (inb_vp g5) dX7_save_36 rfl ?_
    replace h := Option.some.inj h
    subst h
    exact AW.iret X hr dX7_save_37
  · replace h := itep q2 h
    refine AW.iconst (v := (-1)) (pc' := 10) X rfl dX7_save_9 rfl ?_
    replace h := Option.some.inj h
    subst h
    exact AW.iret X hr dX7_save_10
set_option maxHeartbeats 4000000 in
set_option maxRecDepth 100000 in
theorem ok_X7_restore {lo n : Nat} {a0 : Nat} {x1 : Int32} {M : MM} {R : (Int32 × MM)} (h0 : tMo lo n a0) (h : f_X7_restore a0 x1 M = some R) : MC yX7_restore cX7_restore 2 (some .int) 2 44 lo n [.ref a0, .int x1] M (some (.int R.1)) R.2 := by
  refine MC.of (ls0 := [(0, .ref a0), (1, .int x1)]) (by decide) rfl (fun _ => Nat.le_of_ble_eq_true rfl) (fun p l e s m args below meth c D dA ad A X hr => ?_)
  replace X : CX p s m args meth c cX7_restore 2 RX7 D dA ad lo n A := X
  unfold f_X7_restore at h
  refine AW.iload_n (k0 := 1) (pc' := 1) X rfl rfl dX7_restore_0 rfl ?_
  refine AW.iconst (v := 0) (pc' := 2) X rfl dX7_restore_1 rfl ?_
  refine AW.iconst (v := 1) (pc' := 3) X rfl dX7_restore_2 rfl ?_
  obtain ⟨v1, c1, h⟩ := Option.bind_eq_some_iff.mp h
  refine AW.callS (As := [.int x1, .int 0, .int 1]) (rest := []) (rv := (some (.int (bz v1)))) (M' := M) (pc' := 6) X (ok_X7_in c1) yv_X7_in ml_X7_41 ⟨by decide, by decide, by decide, by decide⟩ rfl (Nat.le_of_ble_eq_true rfl) rfl rfl dX7_restore_3 rfl ?_
  refine AW.if_ne (pc' := 9) (tgt := 11) X dX7_restore_6 rfl rfl (fun q2 => ?_) (fun q2 => ?_)
  · replace h := iten q2 h
    refine AW.aload_n (k0 := 0) (pc' := 12) X rfl rfl dX7_restore_11 rfl ?_
    refine AW.gX7 (v := .ref (a0 + 2)) (pc' := 15) X h0 2 (by decide) rfl mf_X7_13 rfl dX7_restore_12 rfl ?_
    refine AW.iload_n (k0 := 1) (pc' := 16) X rfl rfl dX7_restore_15 rfl ?_
    obtain ⟨g3, h⟩ := gd_some h
    refine AW.zald (pc' := 17) X (rM2 h0) (inb_vp g3) dX7_restore_16 rfl ?_
    refine AW.if_ne (pc' := 20) (tgt := 23) X dX7_restore_17 rfl rfl (fun q4 => ?_) (fun q4 => ?_)
    · replace h := iten q4 h
      refine AW.aload_n (k0 := 0) (pc' := 24) X rfl rfl dX7_restore_23 rfl ?_
      obtain ⟨v5, c5, h⟩ := Option.bind_eq_some_iff.mp h
      refine AW.callV (As := []) (rest := []) (rv := none) (M' := v5) (pc' := 27) X (ok_X7_records h0 c5) yv_X7_records h0.1 h0.2.1 (cM h0 dA ad _) rfl rfl ml_X7_53 ⟨by decide, by decide, by decide, by decide⟩ rfl (Nat.le_of_ble_eq_true rfl) rfl rfl dX7_restore_24 rfl ?_
      refine AW.aload_n (k0 := 0) (pc' := 28) X rfl rfl dX7_restore_27 rfl ?_
      refine AW.sipush (v := 1808) (pc' := 31) X rfl dX7_restore_28 rfl ?_
      refine AW.bipush (v := 6) (pc' := 33) X rfl dX7_restore_31 rfl ?_
      refine AW.iload_n (k0 := 1) (pc' := 34) X rfl rfl dX7_restore_33 rfl ?_
      refine AW.iadd (pc' := 35) X dX7_restore_34 rfl ?_
      refine AW.imul (pc' := 36) X dX7_restore_35 rfl ?_
      refine AW.iconst (v := 0) (pc' := 37) X rfl dX7_restore_36 rfl ?_
      obtain ⟨v6, c6, h⟩ := Option.bind_eq_some_iff.mp h
      refine AW.callV (As := [.int (1808 * (6 + x1)), .int 0]) (rest := []) (rv := none) (M' := v6) (pc' := 40) X (ok_X7_copies h0 c6) yv_X7_copies h0.1 h0.2.1 (cM h0 dA ad _) rfl rfl ml_X7_33 ⟨by decide, by decide, by decide, by decide⟩ rfl (Nat.le_of_ble_eq_true rfl) rfl rfl dX7_restore_37 rfl ?_
      refine AW.aload_n (k0 := 0) (pc' := 41) X rfl rfl dX7_restore_40 rfl ?_
      refine AW.gX7 (v := .ref (a0 + 1)) (pc' := 44) X h0 0 (by decide) rfl mf_X7_7 rfl dX7_restore_41 rfl ?_
      refine AW.iconst (v := 1) (pc' := 45) X rfl dX7_restore_44 rfl ?_
      obtain ⟨g7, h⟩ := gd_some h
      refine AW.iald (pc' := 46) X (rM1 h0) (inb_vp g7) dX7_restore_45 rfl ?_
      replace h := Option.some.inj h
      subst h
      exact AW.iret X hr dX7_restore_46
    · replace h := itep q4 h
      refine AW.bipush (v := (-3)) (pc' := 22) X rfl dX7_restore_20 rfl ?_
      replace h := Option.some.inj h
      subst h
      exact AW.iret X hr dX7_restore_22
  · replace h := itep q2 h
    refine AW.iconst (v := (-1)) (pc' := 10) X rfl dX7_restore_9 rfl ?_
    replace h := Option.some.inj h
    subst h
    exact AW.iret X hr dX7_restore_10
set_option maxHeartbeats 4000000 in
set_option maxRecDepth 100000 in
theorem ok_X7_frequency_22 {a0 : Nat} {M : MM} (X : CX p s m args meth c cX7_frequency 2 RX7 D dA ad lo n A) (hr : meth.sig.returnType = (some .int)) (h0 : tMo lo n a0) : ∀ (s0 : Int32) (R : Int32), f_X7_frequency_22 a0 M s0 = some R → AR p l e 2 43 s m args below meth c D dA ad lo n 2 A (some (.int R)) M 22 [] [.int s0] M := by
  intro s0 R h
  unfold f_X7_frequency_22 at h
  replace h := Option.some.inj h
  subst h
  exact AW.iret X hr dX7_frequency_22
set_option maxHeartbeats 4000000 in
set_option maxRecDepth 100000 in
theorem ok_X7_frequency {lo n : Nat} {a0 : Nat} {x1 : Int32} {M : MM} {R : Int32} (h0 : tMo lo n a0) (h : f_X7_frequency a0 x1 M = some R) : MC yX7_frequency cX7_frequency 2 (some .int) 2 43 lo n [.ref a0, .int x1] M (some (.int R)) M := by
  refine MC.of (ls0 := [(0, .ref a0), (1, .int x1)]) (by decide) rfl (fun _ => Nat.le_of_ble_eq_true rfl) (fun p l e s m args below meth c D dA ad A X hr => ?_)
  replace X : CX p s m args meth c cX7_frequency 2 RX7 D dA ad lo n A := X
  unfold f_X7_frequency at h
  refine AW.aload_n (k0 := 0) (pc' := 1) X rfl rfl dX7_frequency_0 rfl ?_
  refine AW.iload_n (k0 := 1) (pc' := 2) X rfl rfl dX7_frequency_1 rfl ?_
  obtain ⟨v1, c1, h⟩ := Option.bind_eq_some_iff.mp h
  refine AW.callV (As := [.int x1]) (rest := []) (rv := (some (.int (bz v1)))) (M' := M) (pc' := 5) X (ok_X7_isLine h0 c1) yv_X7_isLine h0.1 h0.2.1 (cM h0 dA ad _) rfl rfl ml_X7_109 ⟨by decide, by decide, by decide, by decide⟩ rfl (Nat.le_of_ble_eq_true rfl) rfl rfl dX7_frequency_2 rfl ?_
  refine AW.if_eq (pc' := 8) (tgt := 21) X dX7_frequency_5 rfl rfl (fun q2 => ?_) (fun q2 => ?_)
  · replace h := itep q2 h
    refine AW.iconst (v := (-1)) (pc' := 22) X rfl dX7_frequency_21 rfl ?_
    refine AW.sub (ls' := []) [] rfl ?_
    exact ok_X7_frequency_22 X hr h0 (-1) R h
  · replace h := iten q2 h
    refine AW.aload_n (k0 := 0) (pc' := 9) X rfl rfl dX7_frequency_8 rfl ?_
    refine AW.gX7 (v := .ref (a0 + 1)) (pc' := 12) X h0 0 (by decide) rfl mf_X7_7 rfl dX7_frequency_9 rfl ?_
    refine AW.sipush (v := 208) (pc' := 15) X rfl dX7_frequency_12 rfl ?_
    refine AW.iload_n (k0 := 1) (pc' := 16) X rfl rfl dX7_frequency_15 rfl ?_
    refine AW.iadd (pc' := 17) X dX7_frequency_16 rfl ?_
    obtain ⟨g3, h⟩ := gd_some h
    refine AW.iald (pc' := 18) X (rM1 h0) (inb_vp g3) dX7_frequency_17 rfl ?_
    refine AW.goto (pc' := 22) X dX7_frequency_18 rfl ?_
    refine AW.sub (ls' := []) [] rfl ?_
    exact ok_X7_frequency_22 X hr h0 (M (a0 + 1) (ix (208 + x1))) R h
set_option maxHeartbeats 4000000 in
set_option maxRecDepth 100000 in
theorem ok_X7_target_33 {a0 : Nat} {M : MM} (X : CX p s m args meth c cX7_target 2 RX7 D dA ad lo n A) (hr : meth.sig.returnType = (some .int)) (h0 : tMo lo n a0) : ∀ (s0 : Int32) (R : Int32), f_X7_target_33 a0 M s0 = some R → AR p l e 1 27 s m args below meth c D dA ad lo n 2 A (some (.int R)) M 33 [] [.int s0] M := by
  intro s0 R h
  unfold f_X7_target_33 at h
  replace h := Option.some.inj h
  subst h
  exact AW.iret X hr dX7_target_33
set_option maxHeartbeats 4000000 in
set_option maxRecDepth 100000 in
theorem ok_X7_target {lo n : Nat} {a0 : Nat} {x1 : Int32} {M : MM} {R : Int32} (h0 : tMo lo n a0) (h : f_X7_target a0 x1 M = some R) : MC yX7_target cX7_target 2 (some .int) 1 27 lo n [.ref a0, .int x1] M (some (.int R)) M := by
  refine MC.of (ls0 := [(0, .ref a0), (1, .int x1)]) (by decide) rfl (fun _ => Nat.le_of_ble_eq_true rfl) (fun p l e s m args below meth c D dA ad A X hr => ?_)
  replace X : CX p s m args meth c cX7_target 2 RX7 D dA ad lo n A := X
  unfold f_X7_target at h
  refine AW.iload_n (k0 := 1) (pc' := 1) X rfl rfl dX7_target_0 rfl ?_
  refine AW.iconst (v := 1) (pc' := 2) X rfl dX7_target_1 rfl ?_
  refine AW.sipush (v := 2000) (pc' := 5) X rfl dX7_target_2 rfl ?_
  obtain ⟨v1, c1, h⟩ := Option.bind_eq_some_iff.mp h
  refine AW.callS (As := [.int x1, .int 1, .int 2000]) (rest := []) (rv := (some (.int (bz v1)))) (M' := M) (pc' := 8) X (ok_X7_in c1) yv_X7_in ml_X7_41 ⟨by decide, by decide, by decide, by decide⟩ rfl (Nat.le_of_ble_eq_true rfl) rfl rfl dX7_target_5 rfl ?_
  refine AW.if_ne (pc' := 11) (tgt := 14) X dX7_target_8 rfl rfl (fun q2 => ?_) (fun q2 => ?_)
  · replace h := iten q2 h
    refine AW.aload_n (k0 := 0) (pc' := 15) X rfl rfl dX7_target_14 rfl ?_
    refine AW.gX7 (v := .ref (a0 + 1)) (pc' := 18) X h0 0 (by decide) rfl mf_X7_7 rfl dX7_target_15 rfl ?_
    refine AW.iconst (v := 4) (pc' := 19) X rfl dX7_target_18 rfl ?_
    obtain ⟨g3, h⟩ := gd_some h
    refine AW.iald (pc' := 20) X (rM1 h0) (inb_vp g3) dX7_target_19 rfl ?_
    refine AW.if_ne (pc' := 23) (tgt := 28) X dX7_target_20 rfl rfl (fun q4 => ?_) (fun q4 => ?_)
    · replace h := iten q4 h
      refine AW.aload_n (k0 := 0) (pc' := 29) X rfl rfl dX7_target_28 rfl ?_
      refine AW.iload_n (k0 := 1) (pc' := 30) X rfl rfl dX7_target_29 rfl ?_
      obtain ⟨v5, c5, h⟩ := Option.bind_eq_some_iff.mp h
      refine AW.callV (As := [.int x1]) (rest := []) (rv := (some (.int v5))) (M' := M) (pc' := 33) X (ok_X7_targetOf h0 c5) yv_X7_targetOf h0.1 h0.2.1 (cM h0 dA ad _) rfl rfl ml_X7_117 ⟨by decide, by decide, by decide, by decide⟩ rfl (Nat.le_of_ble_eq_true rfl) rfl rfl dX7_target_30 rfl ?_
      refine AW.sub (ls' := []) [] rfl ?_
      exact ok_X7_target_33 X hr h0 v5 R h
    · replace h := itep q4 h
      refine AW.bipush (v := (-6)) (pc' := 25) X rfl dX7_target_23 rfl ?_
      refine AW.goto (pc' := 33) X dX7_target_25 rfl ?_
      refine AW.sub (ls' := []) [] rfl ?_
      exact ok_X7_target_33 X hr h0 (-6) R h
  · replace h := itep q2 h
    refine AW.bipush (v := (-2)) (pc' := 13) X rfl dX7_target_11 rfl ?_
    replace h := Option.some.inj h
    subst h
    exact AW.iret X hr dX7_target_13
set_option maxHeartbeats 4000000 in
set_option maxRecDepth 100000 in
theorem ok_X7_gain_32 {a0 : Nat} {M : MM} (X : CX p s m args meth c cX7_gain 3 RX7 D dA ad lo n A) (hr : meth.sig.returnType = (some .int)) (h0 : tMo lo n a0) : ∀ (s0 : Int32) (R : Int32), f_X7_gain_32 a0 M s0 = some R → AR p l e 2 52 s m args below meth c D dA ad lo n 3 A (some (.int R)) M 32 [] [.int s0] M := by
  intro s0 R h
  unfold f_X7_gain_32 at h
  replace h := Option.some.inj h
  subst h
  exact AW.iret X hr dX7_gain_32
set_option maxHeartbeats 4000000 in
set_option maxRecDepth 100000 in
theorem ok_X7_gain {lo n : Nat} {a0 : Nat} {x1 : Int32} {x2 : Int32} {M : MM} {R : Int32} (h0 : tMo lo n a0) (h : f_X7_gain a0 x1 x2 M = some R) : MC yX7_gain cX7_gain 3 (some .int) 2 52 lo n [.ref a0, .int x1, .int x2] M (some (.int R)) M := by
  refine MC.of (ls0 := [(0, .ref a0), (1, .int x1), (2, .int x2)]) (by decide) rfl (fun _ => Nat.le_of_ble_eq_true rfl) (fun p l e s m args below meth c D dA ad A X hr => ?_)
  replace X : CX p s m args meth c cX7_gain 3 RX7 D dA ad lo n A := X
  unfold f_X7_gain at h
  refine AW.aload_n (k0 := 0) (pc' := 1) X rfl rfl dX7_gain_0 rfl ?_
  refine AW.iload_n (k0 := 1) (pc' := 2) X rfl rfl dX7_gain_1 rfl ?_
  obtain ⟨v1, c1, h⟩ := Option.bind_eq_some_iff.mp h
  refine AW.callV (As := [.int x1]) (rest := []) (rv := (some (.int (bz v1)))) (M' := M) (pc' := 5) X (ok_X7_isChannel h0 c1) yv_X7_isChannel h0.1 h0.2.1 (cM h0 dA ad _) rfl rfl ml_X7_58 ⟨by decide, by decide, by decide, by decide⟩ rfl (Nat.le_of_ble_eq_true rfl) rfl rfl dX7_gain_2 rfl ?_
  refine AW.if_ne (pc' := 8) (tgt := 10) X dX7_gain_5 rfl rfl (fun q2 => ?_) (fun q2 => ?_)
  · replace h := iten q2 h
    refine AW.iload_n (k0 := 2) (pc' := 11) X rfl rfl dX7_gain_10 rfl ?_
    refine AW.iconst (v := 1) (pc' := 12) X rfl dX7_gain_11 rfl ?_
    refine AW.sipush (v := 2000) (pc' := 15) X rfl dX7_gain_12 rfl ?_
    obtain ⟨v3, c3, h⟩ := Option.bind_eq_some_iff.mp h
    refine AW.callS (As := [.int x2, .int 1, .int 2000]) (rest := []) (rv := (some (.int (bz v3)))) (M' := M) (pc' := 18) X (ok_X7_in c3) yv_X7_in ml_X7_41 ⟨by decide, by decide, by decide, by decide⟩ rfl (Nat.le_of_ble_eq_true rfl) rfl rfl dX7_gain_15 rfl ?_
    refine AW.if_eq (pc' := 21) (tgt := 30) X dX7_gain_18 rfl rfl (fun q4 => ?_) (fun q4 => ?_)
    · replace h := itep q4 h
      refine AW.bipush (v := (-2)) (pc' := 32) X rfl dX7_gain_30 rfl ?_
      refine AW.sub (ls' := []) [] rfl ?_
      exact ok_X7_gain_32 X hr h0 (-2) R h
    · replace h := iten q4 h
      refine AW.aload_n (k0 := 0) (pc' := 22) X rfl rfl dX7_gain_21 rfl ?_
      refine AW.iload_n (k0 := 1) (pc' := 23) X rfl rfl dX7_gain_22 rfl ?_
      refine AW.iload_n (k0 := 2) (pc' := 24) X rfl rfl dX7_gain_23 rfl ?_
      obtain ⟨v5, c5, h⟩ := Option.bind_eq_some_iff.mp h
      refine AW.callV (As := [.int x1, .int x2]) (rest := []) (rv := (some (.int v5))) (M' := M) (pc' := 27) X (ok_X7_gainOf h0 c5) yv_X7_gainOf h0.1 h0.2.1 (cM h0 dA ad _) rfl rfl ml_X7_62 ⟨by decide, by decide, by decide, by decide⟩ rfl (Nat.le_of_ble_eq_true rfl) rfl rfl dX7_gain_24 rfl ?_
      refine AW.goto (pc' := 32) X dX7_gain_27 rfl ?_
      refine AW.sub (ls' := []) [] rfl ?_
      exact ok_X7_gain_32 X hr h0 v5 R h
  · replace h := itep q2 h
    refine AW.iconst (v := (-1)) (pc' := 9) X rfl dX7_gain_8 rfl ?_
    replace h := Option.some.inj h
    subst h
    exact AW.iret X hr dX7_gain_9
set_option maxHeartbeats 4000000 in
set_option maxRecDepth 100000 in
theorem ok_X7_limit_32 {a0 : Nat} {M : MM} (X : CX p s m args meth c cX7_limit 3 RX7 D dA ad lo n A) (hr : meth.sig.returnType = (some .int)) (h0 : tMo lo n a0) : ∀ (s0 : Int32) (R : Int32), f_X7_limit_32 a0 M s0 = some R → AR p l e 2 48 s m args below meth c D dA ad lo n 3 A (some (.int R)) M 32 [] [.int s0] M := by
  intro s0 R h
  unfold f_X7_limit_32 at h
  replace h := Option.some.inj h
  subst h
  exact AW.iret X hr dX7_limit_32
set_option maxHeartbeats 4000000 in
set_option maxRecDepth 100000 in
theorem ok_X7_limit {lo n : Nat} {a0 : Nat} {x1 : Int32} {x2 : Int32} {M : MM} {R : Int32} (h0 : tMo lo n a0) (h : f_X7_limit a0 x1 x2 M = some R) : MC yX7_limit cX7_limit 3 (some .int) 2 48 lo n [.ref a0, .int x1, .int x2] M (some (.int R)) M := by
  refine MC.of (ls0 := [(0, .ref a0), (1, .int x1), (2, .int x2)]) (by decide) rfl (fun _ => Nat.le_of_ble_eq_true rfl) (fun p l e s m args below meth c D dA ad A X hr => ?_)
  replace X : CX p s m args meth c cX7_limit 3 RX7 D dA ad lo n A := X
  unfold f_X7_limit at h
  refine AW.aload_n (k0 := 0) (pc' := 1) X rfl rfl dX7_limit_0 rfl ?_
  refine AW.iload_n (k0 := 1) (pc' := 2) X rfl rfl dX7_limit_1 rfl ?_
  obtain ⟨v1, c1, h⟩ := Option.bind_eq_some_iff.mp h
  refine AW.callV (As := [.int x1]) (rest := []) (rv := (some (.int (bz v1)))) (M' := M) (pc' := 5) X (ok_X7_isChannel h0 c1) yv_X7_isChannel h0.1 h0.2.1 (cM h0 dA ad _) rfl rfl ml_X7_58 ⟨by decide, by decide, by decide, by decide⟩ rfl (Nat.le_of_ble_eq_true rfl) rfl rfl dX7_limit_2 rfl ?_
  refine AW.if_ne (pc' := 8) (tgt := 10) X dX7_limit_5 rfl rfl (fun q2 => ?_) (fun q2 => ?_)
  · replace h := iten q2 h
    refine AW.iload_n (k0 := 2) (pc' := 11) X rfl rfl dX7_limit_10 rfl ?_
    refine AW.iconst (v := 1) (pc' := 12) X rfl dX7_limit_11 rfl ?_
    refine AW.sipush (v := 2000) (pc' := 15) X rfl dX7_limit_12 rfl ?_
    obtain ⟨v3, c3, h⟩ := Option.bind_eq_some_iff.mp h
    refine AW.callS (As := [.int x2, .int 1, .int 2000]) (rest := []) (rv := (some (.int (bz v3)))) (M' := M) (pc' := 18) X (ok_X7_in c3) yv_X7_in ml_X7_41 ⟨by decide, by decide, by decide, by decide⟩ rfl (Nat.le_of_ble_eq_true rfl) rfl rfl dX7_limit_15 rfl ?_
    refine AW.if_eq (pc' := 21) (tgt := 30) X dX7_limit_18 rfl rfl (fun q4 => ?_) (fun q4 => ?_)
    · replace h := itep q4 h
      refine AW.bipush (v := (-2)) (pc' := 32) X rfl dX7_limit_30 rfl ?_
      refine AW.sub (ls' := []) [] rfl ?_
      exact ok_X7_limit_32 X hr h0 (-2) R h
    · replace h := iten q4 h
      refine AW.aload_n (k0 := 0) (pc' := 22) X rfl rfl dX7_limit_21 rfl ?_
      refine AW.iload_n (k0 := 1) (pc' := 23) X rfl rfl dX7_limit_22 rfl ?_
      refine AW.iload_n (k0 := 2) (pc' := 24) X rfl rfl dX7_limit_23 rfl ?_
      obtain ⟨v5, c5, h⟩ := Option.bind_eq_some_iff.mp h
      refine AW.callV (As := [.int x1, .int x2]) (rest := []) (rv := (some (.int v5))) (M' := M) (pc' := 27) X (ok_X7_limitOf h0 c5) yv_X7_limitOf h0.1 h0.2.1 (cM h0 dA ad _) rfl rfl ml_X7_97 ⟨by decide, by decide, by decide, by decide⟩ rfl (Nat.le_of_ble_eq_true rfl) rfl rfl dX7_limit_24 rfl ?_
      refine AW.goto (pc' := 32) X dX7_limit_27 rfl ?_
      refine AW.sub (ls' := []) [] rfl ?_
      exact ok_X7_limit_32 X hr h0 v5 R h
  · replace h := itep q2 h
    refine AW.iconst (v := (-1)) (pc' := 9) X rfl dX7_limit_8 rfl ?_
    replace h := Option.some.inj h
    subst h
    exact AW.iret X hr dX7_limit_9
set_option maxHeartbeats 4000000 in
set_option maxRecDepth 100000 in
theorem ok_X7_channel_63 {a0 : Nat} {M : MM} (X : CX p s m args meth c cX7_channel 3 RX7 D dA ad lo n A) (hr : meth.sig.returnType = (some .int)) (h0 : tMo lo n a0) : ∀ (s0 : Int32) (R : Int32), f_X7_channel_63 a0 M s0 = some R → AR p l e 2 43 s m args below meth c D dA ad lo n 3 A (some (.int R)) M 63 [] [.int s0] M := by
  intro s0 R h
  unfold f_X7_channel_63 at h
  replace h := Option.some.inj h
  subst h
  exact AW.iret X hr dX7_channel_63
set_option maxHeartbeats 4000000 in
set_option maxRecDepth 100000 in
theorem ok_X7_channel {lo n : Nat} {a0 : Nat} {x1 : Int32} {x2 : Int32} {M : MM} {R : Int32} (h0 : tMo lo n a0) (h : f_X7_channel a0 x1 x2 M = some R) : MC yX7_channel cX7_channel 3 (some .int) 2 43 lo n [.ref a0, .int x1, .int x2] M (some (.int R)) M := by
  refine MC.of (ls0 := [(0, .ref a0), (1, .int x1), (2, .int x2)]) (by decide) rfl (fun _ => Nat.le_of_ble_eq_true rfl) (fun p l e s m args below meth c D dA ad A X hr => ?_)
  replace X : CX p s m args meth c cX7_channel 3 RX7 D dA ad lo n A := X
  unfold f_X7_channel at h
  refine AW.aload_n (k0 := 0) (pc' := 1) X rfl rfl dX7_channel_0 rfl ?_
  refine AW.iload_n (k0 := 1) (pc' := 2) X rfl rfl dX7_channel_1 rfl ?_
  obtain ⟨v1, c1, h⟩ := Option.bind_eq_some_iff.mp h
  refine AW.callV (As := [.int x1]) (rest := []) (rv := (some (.int (bz v1)))) (M' := M) (pc' := 5) X (ok_X7_isChannel h0 c1) yv_X7_isChannel h0.1 h0.2.1 (cM h0 dA ad _) rfl rfl ml_X7_58 ⟨by decide, by decide, by decide, by decide⟩ rfl (Nat.le_of_ble_eq_true rfl) rfl rfl dX7_channel_2 rfl ?_
  refine AW.if_ne (pc' := 8) (tgt := 10) X dX7_channel_5 rfl rfl (fun q2 => ?_) (fun q2 => ?_)
  · replace h := iten q2 h
    refine AW.iload_n (k0 := 2) (pc' := 11) X rfl rfl dX7_channel_10 rfl ?_
    refine AW.iconst (v := 0) (pc' := 12) X rfl dX7_channel_11 rfl ?_
    refine AW.bipush (v := 7) (pc' := 14) X rfl dX7_channel_12 rfl ?_
    obtain ⟨v3, c3, h⟩ := Option.bind_eq_some_iff.mp h
    refine AW.callS (As := [.int x2, .int 0, .int 7]) (rest := []) (rv := (some (.int (bz v3)))) (M' := M) (pc' := 17) X (ok_X7_in c3) yv_X7_in ml_X7_41 ⟨by decide, by decide, by decide, by decide⟩ rfl (Nat.le_of_ble_eq_true rfl) rfl rfl dX7_channel_14 rfl ?_
    refine AW.if_ne (pc' := 20) (tgt := 23) X dX7_channel_17 rfl rfl (fun q4 => ?_) (fun q4 => ?_)
    · replace h := iten q4 h
      refine AW.iload_n (k0 := 2) (pc' := 24) X rfl rfl dX7_channel_23 rfl ?_
      refine AW.iconst (v := 3) (pc' := 25) X rfl dX7_channel_24 rfl ?_
      refine AW.icmp_ge (pc' := 28) (tgt := 37) X dX7_channel_25 rfl rfl (fun q5 => ?_) (fun q5 => ?_)
      · replace h := itep q5 h
        refine AW.iload_n (k0 := 2) (pc' := 38) X rfl rfl dX7_channel_37 rfl ?_
        refine AW.iconst (v := 3) (pc' := 39) X rfl dX7_channel_38 rfl ?_
        refine AW.icmp_ne (pc' := 42) (tgt := 52) X dX7_channel_39 rfl rfl (fun q6 => ?_) (fun q6 => ?_)
        · replace h := iten q6 h
          refine AW.aload_n (k0 := 0) (pc' := 53) X rfl rfl dX7_channel_52 rfl ?_
          refine AW.iload_n (k0 := 1) (pc' := 54) X rfl rfl dX7_channel_53 rfl ?_
          refine AW.bipush (v := 25) (pc' := 56) X rfl dX7_channel_54 rfl ?_
          refine AW.iload_n (k0 := 2) (pc' := 57) X rfl rfl dX7_channel_56 rfl ?_
          refine AW.iadd (pc' := 58) X dX7_channel_57 rfl ?_
          refine AW.iconst (v := 4) (pc' := 59) X rfl dX7_channel_58 rfl ?_
          refine AW.isub (pc' := 60) X dX7_channel_59 rfl ?_
          obtain ⟨v7, c7, h⟩ := Option.bind_eq_some_iff.mp h
          refine AW.callV (As := [.int x1, .int ((25 + x2) - 4)]) (rest := []) (rv := (some (.int v7))) (M' := M) (pc' := 63) X (ok_X7_ofChannel h0 c7) yv_X7_ofChannel h0.1 h0.2.1 (cM h0 dA ad _) rfl rfl ml_X7_65 ⟨by decide, by decide, by decide, by decide⟩ rfl (Nat.le_of_ble_eq_true rfl) rfl rfl dX7_channel_60 rfl ?_
          refine AW.sub (ls' := []) [] rfl ?_
          exact ok_X7_channel_63 X hr h0 v7 R h
        · replace h := itep q6 h
          refine AW.aload_n (k0 := 0) (pc' := 43) X rfl rfl dX7_channel_42 rfl ?_
          refine AW.iload_n (k0 := 1) (pc' := 44) X rfl rfl dX7_channel_43 rfl ?_
          refine AW.bipush (v := 12) (pc' := 46) X rfl dX7_channel_44 rfl ?_
          obtain ⟨v8, c8, h⟩ := Option.bind_eq_some_iff.mp h
          refine AW.callV (As := [.int x1, .int 12]) (rest := []) (rv := (some (.int v8))) (M' := M) (pc' := 49) X (ok_X7_ofChannel h0 c8) yv_X7_ofChannel h0.1 h0.2.1 (cM h0 dA ad _) rfl rfl ml_X7_65 ⟨by decide, by decide, by decide, by decide⟩ rfl (Nat.le_of_ble_eq_true rfl) rfl rfl dX7_channel_46 rfl ?_
          refine AW.goto (pc' := 63) X dX7_channel_49 rfl ?_
          refine AW.sub (ls' := []) [] rfl ?_
          exact ok_X7_channel_63 X hr h0 v8 R h
      · replace h := iten q5 h
        refine AW.aload_n (k0 := 0) (pc' := 29) X rfl rfl dX7_channel_28 rfl ?_
        refine AW.iload_n (k0 := 1) (pc' := 30) X rfl rfl dX7_channel_29 rfl ?_
        refine AW.iload_n (k0 := 2) (pc' := 31) X rfl rfl dX7_channel_30 rfl ?_
        obtain ⟨v9, c9, h⟩ := Option.bind_eq_some_iff.mp h
        refine AW.callV (As := [.int x1, .int x2]) (rest := []) (rv := (some (.int v9))) (M' := M) (pc' := 34) X (ok_X7_ofChannel h0 c9) yv_X7_ofChannel h0.1 h0.2.1 (cM h0 dA ad _) rfl rfl ml_X7_65 ⟨by decide, by decide, by decide, by decide⟩ rfl (Nat.le_of_ble_eq_true rfl) rfl rfl dX7_channel_31 rfl ?_
        refine AW.goto (pc' := 63) X dX7_channel_34 rfl ?_
        refine AW.sub (ls' := []) [] rfl ?_
        exact ok_X7_channel_63 X hr h0 v9 R h
    · replace h := itep q4 h
      refine AW.bipush (v := (-2)) (pc' := 22) X rfl dX7_channel_20 rfl ?_
      replace h := Option.some.inj h
      subst h
      exact AW.iret X hr dX7_channel_22
  · replace h := itep q2 h
    refine AW.iconst (v := (-1)) (pc' := 9) X rfl dX7_channel_8 rfl ?_
    replace h := Option.some.inj h
    subst h
    exact AW.iret X hr dX7_channel_9
set_option maxHeartbeats 4000000 in
set_option maxRecDepth 100000 in
theorem ok_X7_level_35 {a0 : Nat} {M : MM} (X : CX p s m args meth c cX7_level 3 RX7 D dA ad lo n A) (hr : meth.sig.returnType = (some .int)) (h0 : tMo lo n a0) : ∀ (s0 : Int32) (R : Int32), f_X7_level_35 a0 M s0 = some R → AR p l e 2 43 s m args below meth c D dA ad lo n 3 A (some (.int R)) M 35 [] [.int s0] M := by
  intro s0 R h
  unfold f_X7_level_35 at h
  replace h := Option.some.inj h
  subst h
  exact AW.iret X hr dX7_level_35
set_option maxHeartbeats 4000000 in
set_option maxRecDepth 100000 in
theorem ok_X7_level_34 {a0 : Nat} {M : MM} (X : CX p s m args meth c cX7_level 3 RX7 D dA ad lo n A) (hr : meth.sig.returnType = (some .int)) (h0 : tMo lo n a0) : ∀  (R : Int32), f_X7_level_34 a0 M  = some R → AR p l e 2 43 s m args below meth c D dA ad lo n 3 A (some (.int R)) M 34 [] [] M := by
  intro  R h
  unfold f_X7_level_34 at h
  refine AW.iconst (v := (-1)) (pc' := 35) X rfl dX7_level_34 rfl ?_
  exact ok_X7_level_35 X hr h0 (-1) R h
set_option maxHeartbeats 4000000 in
set_option maxRecDepth 100000 in
theorem ok_X7_level {lo n : Nat} {a0 : Nat} {x1 : Int32} {x2 : Int32} {M : MM} {R : Int32} (h0 : tMo lo n a0) (h : f_X7_level a0 x1 x2 M = some R) : MC yX7_level cX7_level 3 (some .int) 2 43 lo n [.ref a0, .int x1, .int x2] M (some (.int R)) M := by
  refine MC.of (ls0 := [(0, .ref a0), (1, .int x1), (2, .int x2)]) (by decide) rfl (fun _ => Nat.le_of_ble_eq_true rfl) (fun p l e s m args below meth c D dA ad A X hr => ?_)
  replace X : CX p s m args meth c cX7_level 3 RX7 D dA ad lo n A := X
  unfold f_X7_level at h
  refine AW.aload_n (k0 := 0) (pc' := 1) X rfl rfl dX7_level_0 rfl ?_
  refine AW.iload_n (k0 := 1) (pc' := 2) X rfl rfl dX7_level_1 rfl ?_
  obtain ⟨v1, c1, h⟩ := Option.bind_eq_some_iff.mp h
  refine AW.callV (As := [.int x1]) (rest := []) (rv := (some (.int (bz v1)))) (M' := M) (pc' := 5) X (ok_X7_isLine h0 c1) yv_X7_isLine h0.1 h0.2.1 (cM h0 dA ad _) rfl rfl ml_X7_109 ⟨by decide, by decide, by decide, by decide⟩ rfl (Nat.le_of_ble_eq_true rfl) rfl rfl dX7_level_2 rfl ?_
  refine AW.if_eq (pc' := 8) (tgt := 34) X dX7_level_5 rfl rfl (fun q2 => ?_) (fun q2 => ?_)
  · replace h := itep q2 h
    refine AW.sub (ls' := []) [] rfl ?_
    exact ok_X7_level_34 X hr h0 R h
  · replace h := iten q2 h
    refine AW.aload_n (k0 := 0) (pc' := 9) X rfl rfl dX7_level_8 rfl ?_
    refine AW.iload_n (k0 := 2) (pc' := 10) X rfl rfl dX7_level_9 rfl ?_
    obtain ⟨v3, c3, h⟩ := Option.bind_eq_some_iff.mp h
    refine AW.callV (As := [.int x2]) (rest := []) (rv := (some (.int (bz v3)))) (M' := M) (pc' := 13) X (ok_X7_isChannel h0 c3) yv_X7_isChannel h0.1 h0.2.1 (cM h0 dA ad _) rfl rfl ml_X7_58 ⟨by decide, by decide, by decide, by decide⟩ rfl (Nat.le_of_ble_eq_true rfl) rfl rfl dX7_level_10 rfl ?_
    refine AW.if_eq (pc' := 16) (tgt := 34) X dX7_level_13 rfl rfl (fun q4 => ?_) (fun q4 => ?_)
    · replace h := itep q4 h
      refine AW.sub (ls' := []) [] rfl ?_
      exact ok_X7_level_34 X hr h0 R h
    · replace h := iten q4 h
      refine AW.aload_n (k0 := 0) (pc' := 17) X rfl rfl dX7_level_16 rfl ?_
      refine AW.gX7 (v := .ref (a0 + 1)) (pc' := 20) X h0 0 (by decide) rfl mf_X7_7 rfl dX7_level_17 rfl ?_
      refine AW.sipush (v := 308) (pc' := 23) X rfl dX7_level_20 rfl ?_
      refine AW.bipush (v := 6) (pc' := 25) X rfl dX7_level_23 rfl ?_
      refine AW.iload_n (k0 := 1) (pc' := 26) X rfl rfl dX7_level_25 rfl ?_
      refine AW.imul (pc' := 27) X dX7_level_26 rfl ?_
      refine AW.iadd (pc' := 28) X dX7_level_27 rfl ?_
      refine AW.iload_n (k0 := 2) (pc' := 29) X rfl rfl dX7_level_28 rfl ?_
      refine AW.iadd (pc' := 30) X dX7_level_29 rfl ?_
      obtain ⟨g5, h⟩ := gd_some h
      refine AW.iald (pc' := 31) X (rM1 h0) (inb_vp g5) dX7_level_30 rfl ?_
      refine AW.goto (pc' := 35) X dX7_level_31 rfl ?_
      refine AW.sub (ls' := []) [] rfl ?_
      exact ok_X7_level_35 X hr h0 (M (a0 + 1) (ix ((308 + (6 * x1)) + x2))) R h
set_option maxHeartbeats 4000000 in
set_option maxRecDepth 100000 in
theorem ok_X7_averaged_35 {a0 : Nat} {M : MM} (X : CX p s m args meth c cX7_averaged 3 RX7 D dA ad lo n A) (hr : meth.sig.returnType = (some .int)) (h0 : tMo lo n a0) : ∀ (s0 : Int32) (R : Int32), f_X7_averaged_35 a0 M s0 = some R → AR p l e 2 43 s m args below meth c D dA ad lo n 3 A (some (.int R)) M 35 [] [.int s0] M := by
  intro s0 R h
  unfold f_X7_averaged_35 at h
  replace h := Option.some.inj h
  subst h
  exact AW.iret X hr dX7_averaged_35
set_option maxHeartbeats 4000000 in
set_option maxRecDepth 100000 in
theorem ok_X7_averaged_34 {a0 : Nat} {M : MM} (X : CX p s m args meth c cX7_averaged 3 RX7 D dA ad lo n A) (hr : meth.sig.returnType = (some .int)) (h0 : tMo lo n a0) : ∀  (R : Int32), f_X7_averaged_34 a0 M  = some R → AR p l e 2 43 s m args below meth c D dA ad lo n 3 A (some (.int R)) M 34 [] [] M := by
  intro  R h
  unfold f_X7_averaged_34 at h
  refine AW.iconst (v := (-1)) (pc' := 35) X rfl dX7_averaged_34 rfl ?_
  exact ok_X7_averaged_35 X hr h0 (-1) R h
set_option maxHeartbeats 4000000 in
set_option maxRecDepth 100000 in
theorem ok_X7_averaged {lo n : Nat} {a0 : Nat} {x1 : Int32} {x2 : Int32} {M : MM} {R : Int32} (h0 : tMo lo n a0) (h : f_X7_averaged a0 x1 x2 M = some R) : MC yX7_averaged cX7_averaged 3 (some .int) 2 43 lo n [.ref a0, .int x1, .int x2] M (some (.int R)) M := by
  refine MC.of (ls0 := [(0, .ref a0), (1, .int x1), (2, .int x2)]) (by decide) rfl (fun _ => Nat.le_of_ble_eq_true rfl) (fun p l e s m args below meth c D dA ad A X hr => ?_)
  replace X : CX p s m args meth c cX7_averaged 3 RX7 D dA ad lo n A := X
  unfold f_X7_averaged at h
  refine AW.aload_n (k0 := 0) (pc' := 1) X rfl rfl dX7_averaged_0 rfl ?_
  refine AW.iload_n (k0 := 1) (pc' := 2) X rfl rfl dX7_averaged_1 rfl ?_
  obtain ⟨v1, c1, h⟩ := Option.bind_eq_some_iff.mp h
  refine AW.callV (As := [.int x1]) (rest := []) (rv := (some (.int (bz v1)))) (M' := M) (pc' := 5) X (ok_X7_isLine h0 c1) yv_X7_isLine h0.1 h0.2.1 (cM h0 dA ad _) rfl rfl ml_X7_109 ⟨by decide, by decide, by decide, by decide⟩ rfl (Nat.le_of_ble_eq_true rfl) rfl rfl dX7_averaged_2 rfl ?_
  refine AW.if_eq (pc' := 8) (tgt := 34) X dX7_averaged_5 rfl rfl (fun q2 => ?_) (fun q2 => ?_)
  · replace h := itep q2 h
    refine AW.sub (ls' := []) [] rfl ?_
    exact ok_X7_averaged_34 X hr h0 R h
  · replace h := iten q2 h
    refine AW.aload_n (k0 := 0) (pc' := 9) X rfl rfl dX7_averaged_8 rfl ?_
    refine AW.iload_n (k0 := 2) (pc' := 10) X rfl rfl dX7_averaged_9 rfl ?_
    obtain ⟨v3, c3, h⟩ := Option.bind_eq_some_iff.mp h
    refine AW.callV (As := [.int x2]) (rest := []) (rv := (some (.int (bz v3)))) (M' := M) (pc' := 13) X (ok_X7_isChannel h0 c3) yv_X7_isChannel h0.1 h0.2.1 (cM h0 dA ad _) rfl rfl ml_X7_58 ⟨by decide, by decide, by decide, by decide⟩ rfl (Nat.le_of_ble_eq_true rfl) rfl rfl dX7_averaged_10 rfl ?_
    refine AW.if_eq (pc' := 16) (tgt := 34) X dX7_averaged_13 rfl rfl (fun q4 => ?_) (fun q4 => ?_)
    · replace h := itep q4 h
      refine AW.sub (ls' := []) [] rfl ?_
      exact ok_X7_averaged_34 X hr h0 R h
    · replace h := iten q4 h
      refine AW.aload_n (k0 := 0) (pc' := 17) X rfl rfl dX7_averaged_16 rfl ?_
      refine AW.gX7 (v := .ref (a0 + 1)) (pc' := 20) X h0 0 (by decide) rfl mf_X7_7 rfl dX7_averaged_17 rfl ?_
      refine AW.sipush (v := 908) (pc' := 23) X rfl dX7_averaged_20 rfl ?_
      refine AW.bipush (v := 6) (pc' := 25) X rfl dX7_averaged_23 rfl ?_
      refine AW.iload_n (k0 := 1) (pc' := 26) X rfl rfl dX7_averaged_25 rfl ?_
      refine AW.imul (pc' := 27) X dX7_averaged_26 rfl ?_
      refine AW.iadd (pc' := 28) X dX7_averaged_27 rfl ?_
      refine AW.iload_n (k0 := 2) (pc' := 29) X rfl rfl dX7_averaged_28 rfl ?_
      refine AW.iadd (pc' := 30) X dX7_averaged_29 rfl ?_
      obtain ⟨g5, h⟩ := gd_some h
      refine AW.iald (pc' := 31) X (rM1 h0) (inb_vp g5) dX7_averaged_30 rfl ?_
      refine AW.goto (pc' := 35) X dX7_averaged_31 rfl ?_
      refine AW.sub (ls' := []) [] rfl ?_
      exact ok_X7_averaged_35 X hr h0 (M (a0 + 1) (ix ((908 + (6 * x1)) + x2))) R h
set_option maxHeartbeats 4000000 in
set_option maxRecDepth 100000 in
theorem ok_X7_controlGain_22 {a0 : Nat} {M : MM} (X : CX p s m args meth c cX7_controlGain 2 RX7 D dA ad lo n A) (hr : meth.sig.returnType = (some .int)) (h0 : tMo lo n a0) : ∀ (s0 : Int32) (R : Int32), f_X7_controlGain_22 a0 M s0 = some R → AR p l e 2 43 s m args below meth c D dA ad lo n 2 A (some (.int R)) M 22 [] [.int s0] M := by
  intro s0 R h
  unfold f_X7_controlGain_22 at h
  replace h := Option.some.inj h
  subst h
  exact AW.iret X hr dX7_controlGain_22
set_option maxHeartbeats 4000000 in
set_option maxRecDepth 100000 in
theorem ok_X7_controlGain {lo n : Nat} {a0 : Nat} {x1 : Int32} {M : MM} {R : Int32} (h0 : tMo lo n a0) (h : f_X7_controlGain a0 x1 M = some R) : MC yX7_controlGain cX7_controlGain 2 (some .int) 2 43 lo n [.ref a0, .int x1] M (some (.int R)) M := by
  refine MC.of (ls0 := [(0, .ref a0), (1, .int x1)]) (by decide) rfl (fun _ => Nat.le_of_ble_eq_true rfl) (fun p l e s m args below meth c D dA ad A X hr => ?_)
  replace X : CX p s m args meth c cX7_controlGain 2 RX7 D dA ad lo n A := X
  unfold f_X7_controlGain at h
  refine AW.aload_n (k0 := 0) (pc' := 1) X rfl rfl dX7_controlGain_0 rfl ?_
  refine AW.iload_n (k0 := 1) (pc' := 2) X rfl rfl dX7_controlGain_1 rfl ?_
  obtain ⟨v1, c1, h⟩ := Option.bind_eq_some_iff.mp h
  refine AW.callV (As := [.int x1]) (rest := []) (rv := (some (.int (bz v1)))) (M' := M) (pc' := 5) X (ok_X7_isLine h0 c1) yv_X7_isLine h0.1 h0.2.1 (cM h0 dA ad _) rfl rfl ml_X7_109 ⟨by decide, by decide, by decide, by decide⟩ rfl (Nat.le_of_ble_eq_true rfl) rfl rfl dX7_controlGain_2 rfl ?_
  refine AW.if_eq (pc' := 8) (tgt := 21) X dX7_controlGain_5 rfl rfl (fun q2 => ?_) (fun q2 => ?_)
  · replace h := itep q2 h
    refine AW.iconst (v := (-1)) (pc' := 22) X rfl dX7_controlGain_21 rfl ?_
    refine AW.sub (ls' := []) [] rfl ?_
    exact ok_X7_controlGain_22 X hr h0 (-1) R h
  · replace h := iten q2 h
    refine AW.aload_n (k0 := 0) (pc' := 9) X rfl rfl dX7_controlGain_8 rfl ?_
    refine AW.gX7 (v := .ref (a0 + 1)) (pc' := 12) X h0 0 (by decide) rfl mf_X7_7 rfl dX7_controlGain_9 rfl ?_
    refine AW.sipush (v := 1508) (pc' := 15) X rfl dX7_controlGain_12 rfl ?_
    refine AW.iload_n (k0 := 1) (pc' := 16) X rfl rfl dX7_controlGain_15 rfl ?_
    refine AW.iadd (pc' := 17) X dX7_controlGain_16 rfl ?_
    obtain ⟨g3, h⟩ := gd_some h
    refine AW.iald (pc' := 18) X (rM1 h0) (inb_vp g3) dX7_controlGain_17 rfl ?_
    refine AW.goto (pc' := 22) X dX7_controlGain_18 rfl ?_
    refine AW.sub (ls' := []) [] rfl ?_
    exact ok_X7_controlGain_22 X hr h0 (M (a0 + 1) (ix (1508 + x1))) R h
set_option maxHeartbeats 4000000 in
set_option maxRecDepth 100000 in
theorem ok_X7_driveAt_22 {a0 : Nat} {M : MM} (X : CX p s m args meth c cX7_driveAt 2 RX7 D dA ad lo n A) (hr : meth.sig.returnType = (some .int)) (h0 : tMo lo n a0) : ∀ (s0 : Int32) (R : Int32), f_X7_driveAt_22 a0 M s0 = some R → AR p l e 2 43 s m args below meth c D dA ad lo n 2 A (some (.int R)) M 22 [] [.int s0] M := by
  intro s0 R h
  unfold f_X7_driveAt_22 at h
  replace h := Option.some.inj h
  subst h
  exact AW.iret X hr dX7_driveAt_22
set_option maxHeartbeats 4000000 in
set_option maxRecDepth 100000 in
theorem ok_X7_driveAt {lo n : Nat} {a0 : Nat} {x1 : Int32} {M : MM} {R : Int32} (h0 : tMo lo n a0) (h : f_X7_driveAt a0 x1 M = some R) : MC yX7_driveAt cX7_driveAt 2 (some .int) 2 43 lo n [.ref a0, .int x1] M (some (.int R)) M := by
  refine MC.of (ls0 := [(0, .ref a0), (1, .int x1)]) (by decide) rfl (fun _ => Nat.le_of_ble_eq_true rfl) (fun p l e s m args below meth c D dA ad A X hr => ?_)
  replace X : CX p s m args meth c cX7_driveAt 2 RX7 D dA ad lo n A := X
  unfold f_X7_driveAt at h
  refine AW.aload_n (k0 := 0) (pc' := 1) X rfl rfl dX7_driveAt_0 rfl ?_
  refine AW.iload_n (k0 := 1) (pc' := 2) X rfl rfl dX7_driveAt_1 rfl ?_
  obtain ⟨v1, c1, h⟩ := Option.bind_eq_some_iff.mp h
  refine AW.callV (As := [.int x1]) (rest := []) (rv := (some (.int (bz v1)))) (M' := M) (pc' := 5) X (ok_X7_isLine h0 c1) yv_X7_isLine h0.1 h0.2.1 (cM h0 dA ad _) rfl rfl ml_X7_109 ⟨by decide, by decide, by decide, by decide⟩ rfl (Nat.le_of_ble_eq_true rfl) rfl rfl dX7_driveAt_2 rfl ?_
  refine AW.if_eq (pc' := 8) (tgt := 21) X dX7_driveAt_5 rfl rfl (fun q2 => ?_) (fun q2 => ?_)
  · replace h := itep q2 h
    refine AW.iconst (v := (-1)) (pc' := 22) X rfl dX7_driveAt_21 rfl ?_
    refine AW.sub (ls' := []) [] rfl ?_
    exact ok_X7_driveAt_22 X hr h0 (-1) R h
  · replace h := iten q2 h
    refine AW.aload_n (k0 := 0) (pc' := 9) X rfl rfl dX7_driveAt_8 rfl ?_
    refine AW.gX7 (v := .ref (a0 + 1)) (pc' := 12) X h0 0 (by decide) rfl mf_X7_7 rfl dX7_driveAt_9 rfl ?_
    refine AW.sipush (v := 1608) (pc' := 15) X rfl dX7_driveAt_12 rfl ?_
    refine AW.iload_n (k0 := 1) (pc' := 16) X rfl rfl dX7_driveAt_15 rfl ?_
    refine AW.iadd (pc' := 17) X dX7_driveAt_16 rfl ?_
    obtain ⟨g3, h⟩ := gd_some h
    refine AW.iald (pc' := 18) X (rM1 h0) (inb_vp g3) dX7_driveAt_17 rfl ?_
    refine AW.goto (pc' := 22) X dX7_driveAt_18 rfl ?_
    refine AW.sub (ls' := []) [] rfl ?_
    exact ok_X7_driveAt_22 X hr h0 (M (a0 + 1) (ix (1608 + x1))) R h
set_option maxHeartbeats 4000000 in
set_option maxRecDepth 100000 in
theorem ok_X7_notchedBy_22 {a0 : Nat} {M : MM} (X : CX p s m args meth c cX7_notchedBy 2 RX7 D dA ad lo n A) (hr : meth.sig.returnType = (some .int)) (h0 : tMo lo n a0) : ∀ (s0 : Int32) (R : Int32), f_X7_notchedBy_22 a0 M s0 = some R → AR p l e 2 43 s m args below meth c D dA ad lo n 2 A (some (.int R)) M 22 [] [.int s0] M := by
  intro s0 R h
  unfold f_X7_notchedBy_22 at h
  replace h := Option.some.inj h
  subst h
  exact AW.iret X hr dX7_notchedBy_22
set_option maxHeartbeats 4000000 in
set_option maxRecDepth 100000 in
theorem ok_X7_notchedBy {lo n : Nat} {a0 : Nat} {x1 : Int32} {M : MM} {R : Int32} (h0 : tMo lo n a0) (h : f_X7_notchedBy a0 x1 M = some R) : MC yX7_notchedBy cX7_notchedBy 2 (some .int) 2 43 lo n [.ref a0, .int x1] M (some (.int R)) M := by
  refine MC.of (ls0 := [(0, .ref a0), (1, .int x1)]) (by decide) rfl (fun _ => Nat.le_of_ble_eq_true rfl) (fun p l e s m args below meth c D dA ad A X hr => ?_)
  replace X : CX p s m args meth c cX7_notchedBy 2 RX7 D dA ad lo n A := X
  unfold f_X7_notchedBy at h
  refine AW.aload_n (k0 := 0) (pc' := 1) X rfl rfl dX7_notchedBy_0 rfl ?_
  refine AW.iload_n (k0 := 1) (pc' := 2) X rfl rfl dX7_notchedBy_1 rfl ?_
  obtain ⟨v1, c1, h⟩ := Option.bind_eq_some_iff.mp h
  refine AW.callV (As := [.int x1]) (rest := []) (rv := (some (.int (bz v1)))) (M' := M) (pc' := 5) X (ok_X7_isLine h0 c1) yv_X7_isLine h0.1 h0.2.1 (cM h0 dA ad _) rfl rfl ml_X7_109 ⟨by decide, by decide, by decide, by decide⟩ rfl (Nat.le_of_ble_eq_true rfl) rfl rfl dX7_notchedBy_2 rfl ?_
  refine AW.if_eq (pc' := 8) (tgt := 21) X dX7_notchedBy_5 rfl rfl (fun q2 => ?_) (fun q2 => ?_)
  · replace h := itep q2 h
    refine AW.iconst (v := (-1)) (pc' := 22) X rfl dX7_notchedBy_21 rfl ?_
    refine AW.sub (ls' := []) [] rfl ?_
    exact ok_X7_notchedBy_22 X hr h0 (-1) R h
  · replace h := iten q2 h
    refine AW.aload_n (k0 := 0) (pc' := 9) X rfl rfl dX7_notchedBy_8 rfl ?_
    refine AW.gX7 (v := .ref (a0 + 1)) (pc' := 12) X h0 0 (by decide) rfl mf_X7_7 rfl dX7_notchedBy_9 rfl ?_
    refine AW.sipush (v := 1708) (pc' := 15) X rfl dX7_notchedBy_12 rfl ?_
    refine AW.iload_n (k0 := 1) (pc' := 16) X rfl rfl dX7_notchedBy_15 rfl ?_
    refine AW.iadd (pc' := 17) X dX7_notchedBy_16 rfl ?_
    obtain ⟨g3, h⟩ := gd_some h
    refine AW.iald (pc' := 18) X (rM1 h0) (inb_vp g3) dX7_notchedBy_17 rfl ?_
    refine AW.goto (pc' := 22) X dX7_notchedBy_18 rfl ?_
    refine AW.sub (ls' := []) [] rfl ?_
    exact ok_X7_notchedBy_22 X hr h0 (M (a0 + 1) (ix (1708 + x1))) R h
set_option maxHeartbeats 4000000 in
set_option maxRecDepth 100000 in
theorem ok_X7_gainAt_28 {a0 : Nat} {M : MM} (X : CX p s m args meth c cX7_gainAt 3 RX7 D dA ad lo n A) (hr : meth.sig.returnType = (some .int)) (h0 : tMo lo n a0) : ∀ (s0 : Int32) (R : Int32), f_X7_gainAt_28 a0 M s0 = some R → AR p l e 2 43 s m args below meth c D dA ad lo n 3 A (some (.int R)) M 28 [] [.int s0] M := by
  intro s0 R h
  unfold f_X7_gainAt_28 at h
  replace h := Option.some.inj h
  subst h
  exact AW.iret X hr dX7_gainAt_28
set_option maxHeartbeats 4000000 in
set_option maxRecDepth 100000 in
theorem ok_X7_gainAt {lo n : Nat} {a0 : Nat} {x1 : Int32} {x2 : Int32} {M : MM} {R : Int32} (h0 : tMo lo n a0) (h : f_X7_gainAt a0 x1 x2 M = some R) : MC yX7_gainAt cX7_gainAt 3 (some .int) 2 43 lo n [.ref a0, .int x1, .int x2] M (some (.int R)) M := by
  refine MC.of (ls0 := [(0, .ref a0), (1, .int x1), (2, .int x2)]) (by decide) rfl (fun _ => Nat.le_of_ble_eq_true rfl) (fun p l e s m args below meth c D dA ad A X hr => ?_)
  replace X : CX p s m args meth c cX7_gainAt 3 RX7 D dA ad lo n A := X
  unfold f_X7_gainAt at h
  refine AW.aload_n (k0 := 0) (pc' := 1) X rfl rfl dX7_gainAt_0 rfl ?_
  refine AW.iload_n (k0 := 1) (pc' := 2) X rfl rfl dX7_gainAt_1 rfl ?_
  obtain ⟨v1, c1, h⟩ := Option.bind_eq_some_iff.mp h
  refine AW.callV (As := [.int x1]) (rest := []) (rv := (some (.int (bz v1)))) (M' := M) (pc' := 5) X (ok_X7_isLine h0 c1) yv_X7_isLine h0.1 h0.2.1 (cM h0 dA ad _) rfl rfl ml_X7_109 ⟨by decide, by decide, by decide, by decide⟩ rfl (Nat.le_of_ble_eq_true rfl) rfl rfl dX7_gainAt_2 rfl ?_
  refine AW.if_eq (pc' := 8) (tgt := 26) X dX7_gainAt_5 rfl rfl (fun q2 => ?_) (fun q2 => ?_)
  · replace h := itep q2 h
    refine AW.bipush (v := (-6)) (pc' := 28) X rfl dX7_gainAt_26 rfl ?_
    refine AW.sub (ls' := []) [] rfl ?_
    exact ok_X7_gainAt_28 X hr h0 (-6) R h
  · replace h := iten q2 h
    refine AW.aload_n (k0 := 0) (pc' := 9) X rfl rfl dX7_gainAt_8 rfl ?_
    refine AW.gX7 (v := .ref (a0 + 1)) (pc' := 12) X h0 0 (by decide) rfl mf_X7_7 rfl dX7_gainAt_9 rfl ?_
    refine AW.sipush (v := 908) (pc' := 15) X rfl dX7_gainAt_12 rfl ?_
    refine AW.bipush (v := 6) (pc' := 17) X rfl dX7_gainAt_15 rfl ?_
    refine AW.iload_n (k0 := 1) (pc' := 18) X rfl rfl dX7_gainAt_17 rfl ?_
    refine AW.imul (pc' := 19) X dX7_gainAt_18 rfl ?_
    refine AW.iadd (pc' := 20) X dX7_gainAt_19 rfl ?_
    refine AW.iload_n (k0 := 2) (pc' := 21) X rfl rfl dX7_gainAt_20 rfl ?_
    refine AW.iadd (pc' := 22) X dX7_gainAt_21 rfl ?_
    obtain ⟨g3, h⟩ := gd_some h
    refine AW.iald (pc' := 23) X (rM1 h0) (inb_vp g3) dX7_gainAt_22 rfl ?_
    refine AW.goto (pc' := 28) X dX7_gainAt_23 rfl ?_
    refine AW.sub (ls' := []) [] rfl ?_
    exact ok_X7_gainAt_28 X hr h0 (M (a0 + 1) (ix ((908 + (6 * x1)) + x2))) R h
set_option maxHeartbeats 4000000 in
set_option maxRecDepth 100000 in
theorem ok_X7_isResonance_42 {a0 : Nat} {M : MM} (X : CX p s m args meth c cX7_isResonance 4 RX7 D dA ad lo n A) (hr : meth.sig.returnType = (some .boolean)) (h0 : tMo lo n a0) : ∀ (sb0 : Bool) (R : Bool), f_X7_isResonance_42 a0 M sb0 = some R → AR p l e 3 65 s m args below meth c D dA ad lo n 4 A (some (.int (bz R))) M 42 [] [.int (bz sb0)] M := by
  intro sb0 R h
  unfold f_X7_isResonance_42 at h
  replace h := Option.some.inj h
  subst h
  exact AW.zret (b := sb0) X hr dX7_isResonance_42
set_option maxHeartbeats 4000000 in
set_option maxRecDepth 100000 in
theorem ok_X7_isResonance_41 {a0 : Nat} {M : MM} (X : CX p s m args meth c cX7_isResonance 4 RX7 D dA ad lo n A) (hr : meth.sig.returnType = (some .boolean)) (h0 : tMo lo n a0) : ∀  (R : Bool), f_X7_isResonance_41 a0 M  = some R → AR p l e 3 65 s m args below meth c D dA ad lo n 4 A (some (.int (bz R))) M 41 [] [] M := by
  intro  R h
  unfold f_X7_isResonance_41 at h
  refine AW.iconst (v := 0) (pc' := 42) X rfl dX7_isResonance_41 rfl ?_
  exact ok_X7_isResonance_42 X hr h0 false R h
set_option maxHeartbeats 4000000 in
set_option maxRecDepth 100000 in
theorem ok_X7_isResonance {lo n : Nat} {a0 : Nat} {x1 : Int32} {x2 : Int32} {M : MM} {R : Bool} (h0 : tMo lo n a0) (h : f_X7_isResonance a0 x1 x2 M = some R) : MC yX7_isResonance cX7_isResonance 4 (some .boolean) 3 65 lo n [.ref a0, .int x1, .int x2] M (some (.int (bz R))) M := by
  refine MC.of (ls0 := [(0, .ref a0), (1, .int x1), (2, .int x2)]) (by decide) rfl (fun _ => Nat.le_of_ble_eq_true rfl) (fun p l e s m args below meth c D dA ad A X hr => ?_)
  replace X : CX p s m args meth c cX7_isResonance 4 RX7 D dA ad lo n A := X
  unfold f_X7_isResonance at h
  refine AW.aload_n (k0 := 0) (pc' := 1) X rfl rfl dX7_isResonance_0 rfl ?_
  refine AW.iload_n (k0 := 1) (pc' := 2) X rfl rfl dX7_isResonance_1 rfl ?_
  refine AW.iload_n (k0 := 2) (pc' := 3) X rfl rfl dX7_isResonance_2 rfl ?_
  obtain ⟨v1, c1, h⟩ := Option.bind_eq_some_iff.mp h
  refine AW.callV (As := [.int x1, .int x2]) (rest := []) (rv := (some (.int v1))) (M' := M) (pc' := 6) X (ok_X7_gainAt h0 c1) yv_X7_gainAt h0.1 h0.2.1 (cM h0 dA ad _) rfl rfl ml_X7_171 ⟨by decide, by decide, by decide, by decide⟩ rfl (Nat.le_of_ble_eq_true rfl) rfl rfl dX7_isResonance_3 rfl ?_
  refine AW.istore_n (ls' := [(3, .int v1), (0, .ref a0), (1, .int x1), (2, .int x2)]) (pc' := 7) X rfl (by decide) rfl dX7_isResonance_6 rfl ?_
  refine AW.iload_n (k0 := 0) (pc' := 8) X rfl rfl dX7_isResonance_7 rfl ?_
  refine AW.bipush (v := (-6)) (pc' := 10) X rfl dX7_isResonance_8 rfl ?_
  refine AW.icmp_eq (pc' := 13) (tgt := 41) X dX7_isResonance_10 rfl rfl (fun q2 => ?_) (fun q2 => ?_)
  · replace h := itep q2 h
    refine AW.sub (ls' := []) [] rfl ?_
    exact ok_X7_isResonance_41 X hr h0 R h
  · replace h := iten q2 h
    refine AW.iload_n (k0 := 0) (pc' := 14) X rfl rfl dX7_isResonance_13 rfl ?_
    refine AW.aload_n (k0 := 1) (pc' := 15) X rfl rfl dX7_isResonance_14 rfl ?_
    refine AW.iload_n (k0 := 2) (pc' := 16) X rfl rfl dX7_isResonance_15 rfl ?_
    refine AW.iconst (v := 1) (pc' := 17) X rfl dX7_isResonance_16 rfl ?_
    refine AW.isub (pc' := 18) X dX7_isResonance_17 rfl ?_
    refine AW.iload_n (k0 := 3) (pc' := 19) X rfl rfl dX7_isResonance_18 rfl ?_
    obtain ⟨v3, c3, h⟩ := Option.bind_eq_some_iff.mp h
    refine AW.callV (As := [.int (x1 - 1), .int x2]) (rest := [.int v1]) (rv := (some (.int v3))) (M' := M) (pc' := 22) X (ok_X7_gainAt h0 c3) yv_X7_gainAt h0.1 h0.2.1 (cM h0 dA ad _) rfl rfl ml_X7_171 ⟨by decide, by decide, by decide, by decide⟩ rfl (Nat.le_of_ble_eq_true rfl) rfl rfl dX7_isResonance_19 rfl ?_
    refine AW.icmp_le (pc' := 25) (tgt := 41) X dX7_isResonance_22 rfl rfl (fun q4 => ?_) (fun q4 => ?_)
    · replace h := itep q4 h
      refine AW.sub (ls' := []) [] rfl ?_
      exact ok_X7_isResonance_41 X hr h0 R h
    · replace h := iten q4 h
      refine AW.iload_n (k0 := 0) (pc' := 26) X rfl rfl dX7_isResonance_25 rfl ?_
      refine AW.aload_n (k0 := 1) (pc' := 27) X rfl rfl dX7_isResonance_26 rfl ?_
      refine AW.iload_n (k0 := 2) (pc' := 28) X rfl rfl dX7_isResonance_27 rfl ?_
      refine AW.iconst (v := 1) (pc' := 29) X rfl dX7_isResonance_28 rfl ?_
      refine AW.iadd (pc' := 30) X dX7_isResonance_29 rfl ?_
      refine AW.iload_n (k0 := 3) (pc' := 31) X rfl rfl dX7_isResonance_30 rfl ?_
      obtain ⟨v5, c5, h⟩ := Option.bind_eq_some_iff.mp h
      refine AW.callV (As := [.int (x1 + 1), .int x2]) (rest := [.int v1]) (rv := (some (.int v5))) (M' := M) (pc' := 34) X (ok_X7_gainAt h0 c5) yv_X7_gainAt h0.1 h0.2.1 (cM h0 dA ad _) rfl rfl ml_X7_171 ⟨by decide, by decide, by decide, by decide⟩ rfl (Nat.le_of_ble_eq_true rfl) rfl rfl dX7_isResonance_31 rfl ?_
      refine AW.icmp_le (pc' := 37) (tgt := 41) X dX7_isResonance_34 rfl rfl (fun q6 => ?_) (fun q6 => ?_)
      · replace h := itep q6 h
        refine AW.sub (ls' := []) [] rfl ?_
        exact ok_X7_isResonance_41 X hr h0 R h
      · replace h := iten q6 h
        refine AW.iconst (v := 1) (pc' := 38) X rfl dX7_isResonance_37 rfl ?_
        refine AW.goto (pc' := 42) X dX7_isResonance_38 rfl ?_
        refine AW.sub (ls' := []) [] rfl ?_
        exact ok_X7_isResonance_42 X hr h0 true R h
set_option maxHeartbeats 4000000 in
set_option maxRecDepth 100000 in
theorem ok_X7_resonance_95 {a0 : Nat} {M : MM} (X : CX p s m args meth c cX7_resonance 7 RX7 D dA ad lo n A) (hr : meth.sig.returnType = (some .int)) (h0 : tMo lo n a0) {rec19 : Int32 → Int32 → Int32 → Option Int32} (hrec19 : ∀ (x1 : Int32) (x2 : Int32) (x3 : Int32) (R : Int32), rec19 x1 x2 x3 = some R → AR p l e 4 88 s m args below meth c D dA ad lo n 7 A (some (.int R)) M 19 [(0, .ref a0), (1, .int x1), (2, .int x2), (3, .int x3)] [] M) {rec35 : Int32 → Int32 → Int32 → Int32 → Int32 → Option Int32} (hrec35 : ∀ (x1 : Int32) (x2 : Int32) (x3 : Int32) (x4 : Int32) (x5 : Int32) (R : Int32), rec35 x1 x2 x3 x4 x5 = some R → AR p l e 4 88 s m args below meth c D dA ad lo n 7 A (some (.int R)) M 35 [(0, .ref a0), (1, .int x1), (2, .int x2), (3, .int x3), (4, .int x4), (5, .int x5)] [] M) : ∀ (x1 : Int32) (x2 : Int32) (x3 : Int32) (x5 : Int32) (sb0 : Bool) (s1 : Int32) (R : Int32), f_X7_resonance_95 a0 M rec19 rec35 x1 x2 x3 x5 sb0 s1 = some R → AR p l e 4 88 s m args below meth c D dA ad lo n 7 A (some (.int R)) M 95 [(0, .ref a0), (1, .int x1), (2, .int x2), (3, .int x3), (5, .int x5)] [.int (bz sb0), .int s1] M := by
  intro x1 x2 x3 x5 sb0 s1 R h
  unfold f_X7_resonance_95 at h
  refine AW.iadd (pc' := 96) X dX7_resonance_95 rfl ?_
  refine AW.istore (ls' := [(4, .int (s1 + (bz sb0))), (0, .ref a0), (1, .int x1), (2, .int x2), (3, .int x3), (5, .int x5)]) (pc' := 98) X (by decide) rfl dX7_resonance_96 rfl ?_
  refine AW.iinc (k0 := 5) (v := (x5 + 1)) (y := 1) (ls' := [(5, .int (x5 + 1)), (4, .int (s1 + (bz sb0))), (0, .ref a0), (1, .int x1), (2, .int x2), (3, .int x3)]) (pc' := 101) X rfl rfl rfl (by decide) rfl dX7_resonance_98 rfl ?_
  refine AW.goto (pc' := 35) X dX7_resonance_101 rfl ?_
  refine AW.sub (ls' := [(0, .ref a0), (1, .int x1), (2, .int x2), (3, .int x3), (4, .int (s1 + (bz sb0))), (5, .int (x5 + 1))]) [2, 3, 4, 5, 1, 0] rfl ?_
  exact hrec35 x1 x2 x3 (s1 + (bz sb0)) (x5 + 1) R h
set_option maxHeartbeats 4000000 in
set_option maxRecDepth 100000 in
theorem ok_X7_resonance_90 {a0 : Nat} {M : MM} (X : CX p s m args meth c cX7_resonance 7 RX7 D dA ad lo n A) (hr : meth.sig.returnType = (some .int)) (h0 : tMo lo n a0) {rec19 : Int32 → Int32 → Int32 → Option Int32} (hrec19 : ∀ (x1 : Int32) (x2 : Int32) (x3 : Int32) (R : Int32), rec19 x1 x2 x3 = some R → AR p l e 4 88 s m args below meth c D dA ad lo n 7 A (some (.int R)) M 19 [(0, .ref a0), (1, .int x1), (2, .int x2), (3, .int x3)] [] M) {rec35 : Int32 → Int32 → Int32 → Int32 → Int32 → Option Int32} (hrec35 : ∀ (x1 : Int32) (x2 : Int32) (x3 : Int32) (x4 : Int32) (x5 : Int32) (R : Int32), rec35 x1 x2 x3 x4 x5 = some R → AR p l e 4 88 s m args below meth c D dA ad lo n 7 A (some (.int R)) M 35 [(0, .ref a0), (1, .int x1), (2, .int x2), (3, .int x3), (4, .int x4), (5, .int x5)] [] M) : ∀ (x1 : Int32) (x2 : Int32) (x3 : Int32) (x5 : Int32) (s0 : Int32) (R : Int32), f_X7_resonance_90 a0 M rec19 rec35 x1 x2 x3 x5 s0 = some R → AR p l e 4 88 s m args below meth c D dA ad lo n 7 A (some (.int R)) M 90 [(0, .ref a0), (1, .int x1), (2, .int x2), (3, .int x3), (5, .int x5)] [.int s0] M := by
  intro x1 x2 x3 x5 s0 R h
  unfold f_X7_resonance_90 at h
  refine AW.iconst (v := 1) (pc' := 91) X rfl dX7_resonance_90 rfl ?_
  refine AW.goto (pc' := 95) X dX7_resonance_91 rfl ?_
  exact ok_X7_resonance_95 X hr h0 hrec19 hrec35 x1 x2 x3 x5 true s0 R h
set_option maxHeartbeats 4000000 in
set_option maxRecDepth 100000 in
theorem ok_X7_resonance_94 {a0 : Nat} {M : MM} (X : CX p s m args meth c cX7_resonance 7 RX7 D dA ad lo n A) (hr : meth.sig.returnType = (some .int)) (h0 : tMo lo n a0) {rec19 : Int32 → Int32 → Int32 → Option Int32} (hrec19 : ∀ (x1 : Int32) (x2 : Int32) (x3 : Int32) (R : Int32), rec19 x1 x2 x3 = some R → AR p l e 4 88 s m args below meth c D dA ad lo n 7 A (some (.int R)) M 19 [(0, .ref a0), (1, .int x1), (2, .int x2), (3, .int x3)] [] M) {rec35 : Int32 → Int32 → Int32 → Int32 → Int32 → Option Int32} (hrec35 : ∀ (x1 : Int32) (x2 : Int32) (x3 : Int32) (x4 : Int32) (x5 : Int32) (R : Int32), rec35 x1 x2 x3 x4 x5 = some R → AR p l e 4 88 s m args below meth c D dA ad lo n 7 A (some (.int R)) M 35 [(0, .ref a0), (1, .int x1), (2, .int x2), (3, .int x3), (4, .int x4), (5, .int x5)] [] M) : ∀ (x1 : Int32) (x2 : Int32) (x3 : Int32) (x5 : Int32) (s0 : Int32) (R : Int32), f_X7_resonance_94 a0 M rec19 rec35 x1 x2 x3 x5 s0 = some R → AR p l e 4 88 s m args below meth c D dA ad lo n 7 A (some (.int R)) M 94 [(0, .ref a0), (1, .int x1), (2, .int x2), (3, .int x3), (5, .int x5)] [.int s0] M := by
  intro x1 x2 x3 x5 s0 R h
  unfold f_X7_resonance_94 at h
  refine AW.iconst (v := 0) (pc' := 95) X rfl dX7_resonance_94 rfl ?_
  exact ok_X7_resonance_95 X hr h0 hrec19 hrec35 x1 x2 x3 x5 false s0 R h
set_option maxHeartbeats 4000000 in
set_option maxRecDepth 100000 in
theorem ok_X7_resonance_121 {a0 : Nat} {M : MM} (X : CX p s m args meth c cX7_resonance 7 RX7 D dA ad lo n A) (hr : meth.sig.returnType = (some .int)) (h0 : tMo lo n a0) {rec19 : Int32 → Int32 → Int32 → Option Int32} (hrec19 : ∀ (x1 : Int32) (x2 : Int32) (x3 : Int32) (R : Int32), rec19 x1 x2 x3 = some R → AR p l e 4 88 s m args below meth c D dA ad lo n 7 A (some (.int R)) M 19 [(0, .ref a0), (1, .int x1), (2, .int x2), (3, .int x3)] [] M) : ∀ (x1 : Int32) (x2 : Int32) (x3 : Int32) (R : Int32), f_X7_resonance_121 a0 M rec19 x1 x2 x3 = some R → AR p l e 4 88 s m args below meth c D dA ad lo n 7 A (some (.int R)) M 121 [(0, .ref a0), (1, .int x1), (2, .int x2), (3, .int x3)] [] M := by
  intro x1 x2 x3 R h
  unfold f_X7_resonance_121 at h
  refine AW.iinc (k0 := 3) (v := (x3 + 1)) (y := 1) (ls' := [(3, .int (x3 + 1)), (0, .ref a0), (1, .int x1), (2, .int x2)]) (pc' := 124) X rfl rfl rfl (by decide) rfl dX7_resonance_121 rfl ?_
  refine AW.goto (pc' := 19) X dX7_resonance_124 rfl ?_
  refine AW.sub (ls' := [(0, .ref a0), (1, .int x1), (2, .int x2), (3, .int (x3 + 1))]) [1, 2, 3, 0] rfl ?_
  exact hrec19 x1 x2 (x3 + 1) R h
set_option maxHeartbeats 4000000 in
set_option maxRecDepth 100000 in
theorem ok_X7_resonance_35 {a0 : Nat} {M : MM} (X : CX p s m args meth c cX7_resonance 7 RX7 D dA ad lo n A) (hr : meth.sig.returnType = (some .int)) (h0 : tMo lo n a0) {rec19 : Int32 → Int32 → Int32 → Option Int32} (hrec19 : ∀ (x1 : Int32) (x2 : Int32) (x3 : Int32) (R : Int32), rec19 x1 x2 x3 = some R → AR p l e 4 88 s m args below meth c D dA ad lo n 7 A (some (.int R)) M 19 [(0, .ref a0), (1, .int x1), (2, .int x2), (3, .int x3)] [] M) : ∀ (k : Nat) (x1 : Int32) (x2 : Int32) (x3 : Int32) (x4 : Int32) (x5 : Int32) (R : Int32), f_X7_resonance_35 a0 M rec19 k x1 x2 x3 x4 x5 = some R → AR p l e 4 88 s m args below meth c D dA ad lo n 7 A (some (.int R)) M 35 [(0, .ref a0), (1, .int x1), (2, .int x2), (3, .int x3), (4, .int x4), (5, .int x5)] [] M := by
  intro k
  induction k with
  | zero => intro _ _ _ _ _ R h; exact none_some h
  | succ k ih =>
    intro x1 x2 x3 x4 x5 R h
    unfold f_X7_resonance_35 at h
    refine AW.iload (k0 := 5) (pc' := 37) X rfl dX7_resonance_35 rfl ?_
    refine AW.aload_n (k0 := 0) (pc' := 38) X rfl rfl dX7_resonance_37 rfl ?_
    refine AW.gX7 (v := .ref (a0 + 1)) (pc' := 41) X h0 0 (by decide) rfl mf_X7_7 rfl dX7_resonance_38 rfl ?_
    refine AW.iconst (v := 0) (pc' := 42) X rfl dX7_resonance_41 rfl ?_
    obtain ⟨g1, h⟩ := gd_some h
    refine AW.iald (pc' := 43) X (rM1 h0) (inb_vp g1) dX7_resonance_42 rfl ?_
    refine AW.icmp_ge (pc' := 46) (tgt := 104) X dX7_resonance_43 rfl rfl (fun q2 => ?_) (fun q2 => ?_)
    · replace h := itep q2 h
      refine AW.aload_n (k0 := 0) (pc' := 105) X rfl rfl dX7_resonance_104 rfl ?_
      refine AW.iload_n (k0 := 3) (pc' := 106) X rfl rfl dX7_resonance_105 rfl ?_
      refine AW.iload_n (k0 := 1) (pc' := 107) X rfl rfl dX7_resonance_106 rfl ?_
      obtain ⟨v3, c3, h⟩ := Option.bind_eq_some_iff.mp h
      refine AW.callV (As := [.int x3, .int x1]) (rest := []) (rv := (some (.int (bz v3)))) (M' := M) (pc' := 110) X (ok_X7_isResonance h0 c3) yv_X7_isResonance h0.1 h0.2.1 (cM h0 dA ad _) rfl rfl ml_X7_174 ⟨by decide, by decide, by decide, by decide⟩ rfl (Nat.le_of_ble_eq_true rfl) rfl rfl dX7_resonance_107 rfl ?_
      refine AW.if_eq (pc' := 113) (tgt := 121) X dX7_resonance_110 rfl rfl (fun q4 => ?_) (fun q4 => ?_)
      · replace h := itep q4 h
        refine AW.sub (ls' := [(0, .ref a0), (1, .int x1), (2, .int x2), (3, .int x3)]) [0, 1, 2, 3] rfl ?_
        exact ok_X7_resonance_121 X hr h0 hrec19 x1 x2 x3 R h
      · replace h := iten q4 h
        refine AW.iload (k0 := 4) (pc' := 115) X rfl dX7_resonance_113 rfl ?_
        refine AW.iload_n (k0 := 2) (pc' := 116) X rfl rfl dX7_resonance_115 rfl ?_
        refine AW.icmp_ne (pc' := 119) (tgt := 121) X dX7_resonance_116 rfl rfl (fun q5 => ?_) (fun q5 => ?_)
        · replace h := iten q5 h
          refine AW.sub (ls' := [(0, .ref a0), (1, .int x1), (2, .int x2), (3, .int x3)]) [0, 1, 2, 3] rfl ?_
          exact ok_X7_resonance_121 X hr h0 hrec19 x1 x2 x3 R h
        · replace h := itep q5 h
          refine AW.iload_n (k0 := 3) (pc' := 120) X rfl rfl dX7_resonance_119 rfl ?_
          replace h := Option.some.inj h
          subst h
          exact AW.iret X hr dX7_resonance_120
    · replace h := iten q2 h
      refine AW.aload_n (k0 := 0) (pc' := 47) X rfl rfl dX7_resonance_46 rfl ?_
      refine AW.iload (k0 := 5) (pc' := 49) X rfl dX7_resonance_47 rfl ?_
      refine AW.iload_n (k0 := 1) (pc' := 50) X rfl rfl dX7_resonance_49 rfl ?_
      obtain ⟨v6, c6, h⟩ := Option.bind_eq_some_iff.mp h
      refine AW.callV (As := [.int x5, .int x1]) (rest := []) (rv := (some (.int v6))) (M' := M) (pc' := 53) X (ok_X7_gainAt h0 c6) yv_X7_gainAt h0.1 h0.2.1 (cM h0 dA ad _) rfl rfl ml_X7_171 ⟨by decide, by decide, by decide, by decide⟩ rfl (Nat.le_of_ble_eq_true rfl) rfl rfl dX7_resonance_50 rfl ?_
      refine AW.aload_n (k0 := 0) (pc' := 54) X rfl rfl dX7_resonance_53 rfl ?_
      refine AW.iload_n (k0 := 3) (pc' := 55) X rfl rfl dX7_resonance_54 rfl ?_
      refine AW.iload_n (k0 := 1) (pc' := 56) X rfl rfl dX7_resonance_55 rfl ?_
      obtain ⟨v7, c7, h⟩ := Option.bind_eq_some_iff.mp h
      refine AW.callV (As := [.int x3, .int x1]) (rest := [.int v6]) (rv := (some (.int v7))) (M' := M) (pc' := 59) X (ok_X7_gainAt h0 c7) yv_X7_gainAt h0.1 h0.2.1 (cM h0 dA ad _) rfl rfl ml_X7_171 ⟨by decide, by decide, by decide, by decide⟩ rfl (Nat.le_of_ble_eq_true rfl) rfl rfl dX7_resonance_56 rfl ?_
      refine AW.isub (pc' := 60) X dX7_resonance_59 rfl ?_
      refine AW.istore (ls' := [(6, .int (v6 - v7)), (0, .ref a0), (1, .int x1), (2, .int x2), (3, .int x3), (4, .int x4), (5, .int x5)]) (pc' := 62) X (by decide) rfl dX7_resonance_60 rfl ?_
      refine AW.iload (k0 := 5) (pc' := 64) X rfl dX7_resonance_62 rfl ?_
      refine AW.aload_n (k0 := 1) (pc' := 65) X rfl rfl dX7_resonance_64 rfl ?_
      refine AW.iload (k0 := 6) (pc' := 67) X rfl dX7_resonance_65 rfl ?_
      refine AW.iload_n (k0 := 2) (pc' := 68) X rfl rfl dX7_resonance_67 rfl ?_
      obtain ⟨v8, c8, h⟩ := Option.bind_eq_some_iff.mp h
      refine AW.callV (As := [.int x5, .int x1]) (rest := [.int x4]) (rv := (some (.int (bz v8)))) (M' := M) (pc' := 71) X (ok_X7_isResonance h0 c8) yv_X7_isResonance h0.1 h0.2.1 (cM h0 dA ad _) rfl rfl ml_X7_174 ⟨by decide, by decide, by decide, by decide⟩ rfl (Nat.le_of_ble_eq_true rfl) rfl rfl dX7_resonance_68 rfl ?_
      refine AW.if_eq (pc' := 74) (tgt := 94) X dX7_resonance_71 rfl rfl (fun q9 => ?_) (fun q9 => ?_)
      · replace h := itep q9 h
        refine AW.sub (ls' := [(0, .ref a0), (1, .int x1), (2, .int x2), (3, .int x3), (5, .int x5)]) [1, 2, 3, 4, 6] rfl ?_
        exact ok_X7_resonance_94 X hr h0 hrec19 ih x1 x2 x3 x5 x4 R h
      · replace h := iten q9 h
        refine AW.iload (k0 := 0) (pc' := 76) X rfl dX7_resonance_74 rfl ?_
        refine AW.if_gt (pc' := 79) (tgt := 90) X dX7_resonance_76 rfl rfl (fun q10 => ?_) (fun q10 => ?_)
        · replace h := itep q10 h
          refine AW.sub (ls' := [(0, .ref a0), (1, .int x1), (2, .int x2), (3, .int x3), (5, .int x5)]) [1, 2, 3, 4, 6] rfl ?_
          exact ok_X7_resonance_90 X hr h0 hrec19 ih x1 x2 x3 x5 x4 R h
        · replace h := iten q10 h
          refine AW.iload (k0 := 0) (pc' := 81) X rfl dX7_resonance_79 rfl ?_
          refine AW.if_ne (pc' := 84) (tgt := 94) X dX7_resonance_81 rfl rfl (fun q11 => ?_) (fun q11 => ?_)
          · replace h := iten q11 h
            refine AW.sub (ls' := [(0, .ref a0), (1, .int x1), (2, .int x2), (3, .int x3), (5, .int x5)]) [1, 2, 3, 4, 6] rfl ?_
            exact ok_X7_resonance_94 X hr h0 hrec19 ih x1 x2 x3 x5 x4 R h
          · replace h := itep q11 h
            refine AW.iload (k0 := 6) (pc' := 86) X rfl dX7_resonance_84 rfl ?_
            refine AW.iload_n (k0 := 4) (pc' := 87) X rfl rfl dX7_resonance_86 rfl ?_
            refine AW.icmp_ge (pc' := 90) (tgt := 94) X dX7_resonance_87 rfl rfl (fun q12 => ?_) (fun q12 => ?_)
            · replace h := itep q12 h
              refine AW.sub (ls' := [(0, .ref a0), (1, .int x1), (2, .int x2), (3, .int x3), (5, .int x5)]) [1, 2, 3, 4, 6] rfl ?_
              exact ok_X7_resonance_94 X hr h0 hrec19 ih x1 x2 x3 x5 x4 R h
            · replace h := iten q12 h
              refine AW.sub (ls' := [(0, .ref a0), (1, .int x1), (2, .int x2), (3, .int x3), (5, .int x5)]) [1, 2, 3, 4, 6] rfl ?_
              exact ok_X7_resonance_90 X hr h0 hrec19 ih x1 x2 x3 x5 x4 R h
set_option maxHeartbeats 4000000 in
set_option maxRecDepth 100000 in
theorem ok_X7_resonance_19 {a0 : Nat} {M : MM} (X : CX p s m args meth c cX7_resonance 7 RX7 D dA ad lo n A) (hr : meth.sig.returnType = (some .int)) (h0 : tMo lo n a0) : ∀ (k : Nat) (x1 : Int32) (x2 : Int32) (x3 : Int32) (R : Int32), f_X7_resonance_19 a0 M k x1 x2 x3 = some R → AR p l e 4 88 s m args below meth c D dA ad lo n 7 A (some (.int R)) M 19 [(0, .ref a0), (1, .int x1), (2, .int x2), (3, .int x3)] [] M := by
  intro k
  induction k with
  | zero => intro _ _ _ R h; exact none_some h
  | succ k ih =>
    intro x1 x2 x3 R h
    unfold f_X7_resonance_19 at h
    refine AW.iload_n (k0 := 3) (pc' := 20) X rfl rfl dX7_resonance_19 rfl ?_
    refine AW.aload_n (k0 := 0) (pc' := 21) X rfl rfl dX7_resonance_20 rfl ?_
    refine AW.gX7 (v := .ref (a0 + 1)) (pc' := 24) X h0 0 (by decide) rfl mf_X7_7 rfl dX7_resonance_21 rfl ?_
    refine AW.iconst (v := 0) (pc' := 25) X rfl dX7_resonance_24 rfl ?_
    obtain ⟨g1, h⟩ := gd_some h
    refine AW.iald (pc' := 26) X (rM1 h0) (inb_vp g1) dX7_resonance_25 rfl ?_
    refine AW.icmp_ge (pc' := 29) (tgt := 127) X dX7_resonance_26 rfl rfl (fun q2 => ?_) (fun q2 => ?_)
    · replace h := itep q2 h
      refine AW.bipush (v := (-6)) (pc' := 129) X rfl dX7_resonance_127 rfl ?_
      replace h := Option.some.inj h
      subst h
      exact AW.iret X hr dX7_resonance_129
    · replace h := iten q2 h
      refine AW.iconst (v := 0) (pc' := 30) X rfl dX7_resonance_29 rfl ?_
      refine AW.istore (ls' := [(4, .int 0), (0, .ref a0), (1, .int x1), (2, .int x2), (3, .int x3)]) (pc' := 32) X (by decide) rfl dX7_resonance_30 rfl ?_
      refine AW.iconst (v := 0) (pc' := 33) X rfl dX7_resonance_32 rfl ?_
      refine AW.istore (ls' := [(5, .int 0), (4, .int 0), (0, .ref a0), (1, .int x1), (2, .int x2), (3, .int x3)]) (pc' := 35) X (by decide) rfl dX7_resonance_33 rfl ?_
      refine AW.sub (ls' := [(0, .ref a0), (1, .int x1), (2, .int x2), (3, .int x3), (4, .int 0), (5, .int 0)]) [2, 3, 4, 5, 1, 0] rfl ?_
      exact ok_X7_resonance_35 X hr h0 ih FU x1 x2 x3 0 0 R h
set_option maxHeartbeats 4000000 in
set_option maxRecDepth 100000 in
theorem ok_X7_resonance {lo n : Nat} {a0 : Nat} {x1 : Int32} {x2 : Int32} {M : MM} {R : Int32} (h0 : tMo lo n a0) (h : f_X7_resonance a0 x1 x2 M = some R) : MC yX7_resonance cX7_resonance 7 (some .int) 4 88 lo n [.ref a0, .int x1, .int x2] M (some (.int R)) M := by
  refine MC.of (ls0 := [(0, .ref a0), (1, .int x1), (2, .int x2)]) (by decide) rfl (fun _ => Nat.le_of_ble_eq_true rfl) (fun p l e s m args below meth c D dA ad A X hr => ?_)
  replace X : CX p s m args meth c cX7_resonance 7 RX7 D dA ad lo n A := X
  unfold f_X7_resonance at h
  refine AW.aload_n (k0 := 0) (pc' := 1) X rfl rfl dX7_resonance_0 rfl ?_
  refine AW.iload_n (k0 := 1) (pc' := 2) X rfl rfl dX7_resonance_1 rfl ?_
  obtain ⟨v1, c1, h⟩ := Option.bind_eq_some_iff.mp h
  refine AW.callV (As := [.int x1]) (rest := []) (rv := (some (.int (bz v1)))) (M' := M) (pc' := 5) X (ok_X7_isChannel h0 c1) yv_X7_isChannel h0.1 h0.2.1 (cM h0 dA ad _) rfl rfl ml_X7_58 ⟨by decide, by decide, by decide, by decide⟩ rfl (Nat.le_of_ble_eq_true rfl) rfl rfl dX7_resonance_2 rfl ?_
  refine AW.if_ne (pc' := 8) (tgt := 10) X dX7_resonance_5 rfl rfl (fun q2 => ?_) (fun q2 => ?_)
  · replace h := iten q2 h
    refine AW.iload_n (k0 := 2) (pc' := 11) X rfl rfl dX7_resonance_10 rfl ?_
    refine AW.if_ge (pc' := 14) (tgt := 17) X dX7_resonance_11 rfl rfl (fun q3 => ?_) (fun q3 => ?_)
    · replace h := itep q3 h
      refine AW.iconst (v := 0) (pc' := 18) X rfl dX7_resonance_17 rfl ?_
      refine AW.istore_n (ls' := [(3, .int 0), (0, .ref a0), (1, .int x1), (2, .int x2)]) (pc' := 19) X rfl (by decide) rfl dX7_resonance_18 rfl ?_
      refine AW.sub (ls' := [(0, .ref a0), (1, .int x1), (2, .int x2), (3, .int 0)]) [1, 2, 3, 0] rfl ?_
      exact ok_X7_resonance_19 X hr h0 FU x1 x2 0 R h
    · replace h := iten q3 h
      refine AW.bipush (v := (-2)) (pc' := 16) X rfl dX7_resonance_14 rfl ?_
      replace h := Option.some.inj h
      subst h
      exact AW.iret X hr dX7_resonance_16
  · replace h := itep q2 h
    refine AW.iconst (v := (-1)) (pc' := 9) X rfl dX7_resonance_8 rfl ?_
    replace h := Option.some.inj h
    subst h
    exact AW.iret X hr dX7_resonance_9
set_option maxHeartbeats 4000000 in
set_option maxRecDepth 100000 in
theorem ok_X7_total_111 {a0 : Nat} {M : MM} (X : CX p s m args meth c cX7_total 2 RX7 D dA ad lo n A) (hr : meth.sig.returnType = (some .int)) (h0 : tMo lo n a0) : ∀ (s0 : Int32) (R : Int32), f_X7_total_111 a0 M s0 = some R → AR p l e 1 22 s m args below meth c D dA ad lo n 2 A (some (.int R)) M 111 [] [.int s0] M := by
  intro s0 R h
  unfold f_X7_total_111 at h
  replace h := Option.some.inj h
  subst h
  exact AW.iret X hr dX7_total_111
set_option maxHeartbeats 4000000 in
set_option maxRecDepth 100000 in
theorem ok_X7_total_159 {a0 : Nat} {M : MM} (X : CX p s m args meth c cX7_total 2 RX7 D dA ad lo n A) (hr : meth.sig.returnType = (some .int)) (h0 : tMo lo n a0) : ∀ (s0 : Int32) (R : Int32), f_X7_total_159 a0 M s0 = some R → AR p l e 1 22 s m args below meth c D dA ad lo n 2 A (some (.int R)) M 159 [] [.int s0] M := by
  intro s0 R h
  unfold f_X7_total_159 at h
  replace h := Option.some.inj h
  subst h
  exact AW.iret X hr dX7_total_159
set_option maxHeartbeats 4000000 in
set_option maxRecDepth 100000 in
theorem ok_X7_total_136 {a0 : Nat} {M : MM} (X : CX p s m args meth c cX7_total 2 RX7 D dA ad lo n A) (hr : meth.sig.returnType = (some .int)) (h0 : tMo lo n a0) : ∀ (x1 : Int32) (R : Int32), f_X7_total_136 a0 M x1 = some R → AR p l e 1 22 s m args below meth c D dA ad lo n 2 A (some (.int R)) M 136 [(0, .ref a0), (1, .int x1)] [] M := by
  intro x1 R h
  unfold f_X7_total_136 at h
  refine AW.iload_n (k0 := 1) (pc' := 137) X rfl rfl dX7_total_136 rfl ?_
  refine AW.bipush (v := 13) (pc' := 139) X rfl dX7_total_137 rfl ?_
  refine AW.icmp_le (pc' := 142) (tgt := 153) X dX7_total_139 rfl rfl (fun q1 => ?_) (fun q1 => ?_)
  · replace h := itep q1 h
    refine AW.aload_n (k0 := 0) (pc' := 154) X rfl rfl dX7_total_153 rfl ?_
    refine AW.gX7 (v := .ref (a0 + 1)) (pc' := 157) X h0 0 (by decide) rfl mf_X7_7 rfl dX7_total_154 rfl ?_
    refine AW.iload_n (k0 := 1) (pc' := 158) X rfl rfl dX7_total_157 rfl ?_
    obtain ⟨g2, h⟩ := gd_some h
    refine AW.iald (pc' := 159) X (rM1 h0) (inb_vp g2) dX7_total_158 rfl ?_
    refine AW.sub (ls' := []) [] rfl ?_
    exact ok_X7_total_159 X hr h0 (M (a0 + 1) (ix x1)) R h
  · replace h := iten q1 h
    refine AW.aload_n (k0 := 0) (pc' := 143) X rfl rfl dX7_total_142 rfl ?_
    refine AW.iload_n (k0 := 1) (pc' := 144) X rfl rfl dX7_total_143 rfl ?_
    refine AW.bipush (v := 14) (pc' := 146) X rfl dX7_total_144 rfl ?_
    refine AW.isub (pc' := 147) X dX7_total_146 rfl ?_
    obtain ⟨v3, c3, h⟩ := Option.bind_eq_some_iff.mp h
    refine AW.callV (As := [.int (x1 - 14)]) (rest := []) (rv := (some (.int v3))) (M' := M) (pc' := 150) X (ok_X7_setting h0 c3) yv_X7_setting h0.1 h0.2.1 (cM h0 dA ad _) rfl rfl ml_X7_78 ⟨by decide, by decide, by decide, by decide⟩ rfl (Nat.le_of_ble_eq_true rfl) rfl rfl dX7_total_147 rfl ?_
    refine AW.goto (pc' := 159) X dX7_total_150 rfl ?_
    refine AW.sub (ls' := []) [] rfl ?_
    exact ok_X7_total_159 X hr h0 v3 R h
set_option maxHeartbeats 4000000 in
set_option maxRecDepth 100000 in
theorem ok_X7_total {lo n : Nat} {a0 : Nat} {x1 : Int32} {M : MM} {R : Int32} (h0 : tMo lo n a0) (h : f_X7_total a0 x1 M = some R) : MC yX7_total cX7_total 2 (some .int) 1 22 lo n [.ref a0, .int x1] M (some (.int R)) M := by
  refine MC.of (ls0 := [(0, .ref a0), (1, .int x1)]) (by decide) rfl (fun _ => Nat.le_of_ble_eq_true rfl) (fun p l e s m args below meth c D dA ad A X hr => ?_)
  replace X : CX p s m args meth c cX7_total 2 RX7 D dA ad lo n A := X
  unfold f_X7_total at h
  refine AW.iload_n (k0 := 1) (pc' := 1) X rfl rfl dX7_total_0 rfl ?_
  refine AW.iconst (v := 0) (pc' := 2) X rfl dX7_total_1 rfl ?_
  refine AW.bipush (v := 19) (pc' := 4) X rfl dX7_total_2 rfl ?_
  obtain ⟨v1, c1, h⟩ := Option.bind_eq_some_iff.mp h
  refine AW.callS (As := [.int x1, .int 0, .int 19]) (rest := []) (rv := (some (.int (bz v1)))) (M' := M) (pc' := 7) X (ok_X7_in c1) yv_X7_in ml_X7_41 ⟨by decide, by decide, by decide, by decide⟩ rfl (Nat.le_of_ble_eq_true rfl) rfl rfl dX7_total_4 rfl ?_
  refine AW.if_ne (pc' := 10) (tgt := 13) X dX7_total_7 rfl rfl (fun q2 => ?_) (fun q2 => ?_)
  · replace h := iten q2 h
    refine AW.iload_n (k0 := 1) (pc' := 14) X rfl rfl dX7_total_13 rfl ?_
    by_cases q3 : x1 = 0
    · replace h := itep q3 h
      refine AW.tin (pc' := 84) X dX7_total_14 (by rw [q3]; decide) (by rw [q3]; decide) (by rw [q3] <;> rfl) rfl ?_
      refine AW.aload_n (k0 := 0) (pc' := 85) X rfl rfl dX7_total_84 rfl ?_
      refine AW.gX7 (v := .ref (a0 + 1)) (pc' := 88) X h0 0 (by decide) rfl mf_X7_7 rfl dX7_total_85 rfl ?_
      refine AW.iconst (v := 1) (pc' := 89) X rfl dX7_total_88 rfl ?_
      obtain ⟨g4, h⟩ := gd_some h
      refine AW.iald (pc' := 90) X (rM1 h0) (inb_vp g4) dX7_total_89 rfl ?_
      replace h := Option.some.inj h
      subst h
      exact AW.iret X hr dX7_total_90
    · replace h := iten q3 h
      by_cases q5 : x1 = 1
      · replace h := itep q5 h
        refine AW.tin (pc' := 91) X dX7_total_14 (by rw [q5]; decide) (by rw [q5]; decide) (by rw [q5] <;> rfl) rfl ?_
        refine AW.aload_n (k0 := 0) (pc' := 92) X rfl rfl dX7_total_91 rfl ?_
        refine AW.gX7 (v := .ref (a0 + 1)) (pc' := 95) X h0 0 (by decide) rfl mf_X7_7 rfl dX7_total_92 rfl ?_
        refine AW.iconst (v := 1) (pc' := 96) X rfl dX7_total_95 rfl ?_
        obtain ⟨g6, h⟩ := gd_some h
        refine AW.iald (pc' := 97) X (rM1 h0) (inb_vp g6) dX7_total_96 rfl ?_
        refine AW.if_ne (pc' := 100) (tgt := 105) X dX7_total_97 rfl rfl (fun q7 => ?_) (fun q7 => ?_)
        · replace h := iten q7 h
          refine AW.aload_n (k0 := 0) (pc' := 106) X rfl rfl dX7_total_105 rfl ?_
          refine AW.gX7 (v := .ref (a0 + 1)) (pc' := 109) X h0 0 (by decide) rfl mf_X7_7 rfl dX7_total_106 rfl ?_
          refine AW.iconst (v := 2) (pc' := 110) X rfl dX7_total_109 rfl ?_
          obtain ⟨g8, h⟩ := gd_some h
          refine AW.iald (pc' := 111) X (rM1 h0) (inb_vp g8) dX7_total_110 rfl ?_
          refine AW.sub (ls' := []) [] rfl ?_
          exact ok_X7_total_111 X hr h0 (M (a0 + 1) (ix 2)) R h
        · replace h := itep q7 h
          refine AW.bipush (v := (-6)) (pc' := 102) X rfl dX7_total_100 rfl ?_
          refine AW.goto (pc' := 111) X dX7_total_102 rfl ?_
          refine AW.sub (ls' := []) [] rfl ?_
          exact ok_X7_total_111 X hr h0 (-6) R h
      · replace h := iten q5 h
        by_cases q9 : x1 = 2
        · replace h := itep q9 h
          refine AW.tin (pc' := 112) X dX7_total_14 (by rw [q9]; decide) (by rw [q9]; decide) (by rw [q9] <;> rfl) rfl ?_
          refine AW.aload_n (k0 := 0) (pc' := 113) X rfl rfl dX7_total_112 rfl ?_
          refine AW.gX7 (v := .ref (a0 + 1)) (pc' := 116) X h0 0 (by decide) rfl mf_X7_7 rfl dX7_total_113 rfl ?_
          refine AW.iconst (v := 3) (pc' := 117) X rfl dX7_total_116 rfl ?_
          obtain ⟨g10, h⟩ := gd_some h
          refine AW.iald (pc' := 118) X (rM1 h0) (inb_vp g10) dX7_total_117 rfl ?_
          replace h := Option.some.inj h
          subst h
          exact AW.iret X hr dX7_total_118
        · replace h := iten q9 h
          by_cases q11 : x1 = 3
          · replace h := itep q11 h
            refine AW.tin (pc' := 119) X dX7_total_14 (by rw [q11]; decide) (by rw [q11]; decide) (by rw [q11] <;> rfl) rfl ?_
            refine AW.aload_n (k0 := 0) (pc' := 120) X rfl rfl dX7_total_119 rfl ?_
            refine AW.gX7 (v := .ref (a0 + 1)) (pc' := 123) X h0 0 (by decide) rfl mf_X7_7 rfl dX7_total_120 rfl ?_
            refine AW.iconst (v := 0) (pc' := 124) X rfl dX7_total_123 rfl ?_
            obtain ⟨g12, h⟩ := gd_some h
            refine AW.iald (pc' := 125) X (rM1 h0) (inb_vp g12) dX7_total_124 rfl ?_
            replace h := Option.some.inj h
            subst h
            exact AW.iret X hr dX7_total_125
          · replace h := iten q11 h
            by_cases q13 : x1 = 4
            · replace h := itep q13 h
              refine AW.tin (pc' := 136) X dX7_total_14 (by rw [q13]; decide) (by rw [q13]; decide) (by rw [q13] <;> rfl) rfl ?_
              exact ok_X7_total_136 X hr h0 x1 R h
            · replace h := iten q13 h
              by_cases q14 : x1 = 5
              · replace h := itep q14 h
                refine AW.tin (pc' := 136) X dX7_total_14 (by rw [q14]; decide) (by rw [q14]; decide) (by rw [q14] <;> rfl) rfl ?_
                exact ok_X7_total_136 X hr h0 x1 R h
              · replace h := iten q14 h
                by_cases q15 : x1 = 6
                · replace h := itep q15 h
                  refine AW.tin (pc' := 136) X dX7_total_14 (by rw [q15]; decide) (by rw [q15]; decide) (by rw [q15] <;> rfl) rfl ?_
                  exact ok_X7_total_136 X hr h0 x1 R h
                · replace h := iten q15 h
                  by_cases q16 : x1 = 7
                  · replace h := itep q16 h
                    refine AW.tin (pc' := 136) X dX7_total_14 (by rw [q16]; decide) (by rw [q16]; decide) (by rw [q16] <;> rfl) rfl ?_
                    exact ok_X7_total_136 X hr h0 x1 R h
                  · replace h := iten q16 h
                    by_cases q17 : x1 = 8
                    · replace h := itep q17 h
                      refine AW.tin (pc' := 136) X dX7_total_14 (by rw [q17]; decide) (by rw [q17]; decide) (by rw [q17] <;> rfl) rfl ?_
                      exact ok_X7_total_136 X hr h0 x1 R h
                    · replace h := iten q17 h
                      by_cases q18 : x1 = 9
                      · replace h := itep q18 h
                        refine AW.tin (pc' := 136) X dX7_total_14 (by rw [q18]; decide) (by rw [q18]; decide) (by rw [q18] <;> rfl) rfl ?_
                        exact ok_X7_total_136 X hr h0 x1 R h
                      · replace h := iten q18 h
                        by_cases q19 : x1 = 10
                        · replace h := itep q19 h
                          refine AW.tin (pc' := 136) X dX7_total_14 (by rw [q19]; decide) (by rw [q19]; decide) (by rw [q19] <;> rfl) rfl ?_
                          exact ok_X7_total_136 X hr h0 x1 R h
                        · replace h := iten q19 h
                          by_cases q20 : x1 = 11
                          · replace h := itep q20 h
                            refine AW.tin (pc' := 136) X dX7_total_14 (by rw [q20]; decide) (by rw [q20]; decide) (by rw [q20] <;> rfl) rfl ?_
                            exact ok_X7_total_136 X hr h0 x1 R h
                          · replace h := iten q20 h
                            by_cases q21 : x1 = 12
                            · replace h := itep q21 h
                              refine AW.tin (pc' := 126) X dX7_total_14 (by rw [q21]; decide) (by rw [q21]; decide) (by rw [q21] <;> rfl) rfl ?_
                              refine AW.aload_n (k0 := 0) (pc' := 127) X rfl rfl dX7_total_126 rfl ?_
                              refine AW.gX7 (v := .int (M a0 1)) (pc' := 130) X h0 1 (by decide) rfl mf_X7_29 rfl dX7_total_127 rfl ?_
                              replace h := Option.some.inj h
                              subst h
                              exact AW.iret X hr dX7_total_130
                            · replace h := iten q21 h
                              by_cases q22 : x1 = 13
                              · replace h := itep q22 h
                                refine AW.tin (pc' := 131) X dX7_total_14 (by rw [q22]; decide) (by rw [q22]; decide) (by rw [q22] <;> rfl) rfl ?_
                                refine AW.aload_n (k0 := 0) (pc' := 132) X rfl rfl dX7_total_131 rfl ?_
                                refine AW.gX7 (v := .int (M a0 4)) (pc' := 135) X h0 4 (by decide) rfl mf_X7_140 rfl dX7_total_132 rfl ?_
                                replace h := Option.some.inj h
                                subst h
                                exact AW.iret X hr dX7_total_135
                              · replace h := iten q22 h
                                have w0 := lv_neT q3 (by decide : (0 : Int32).toInt = 0)
                                have w1 := lv_neT q5 (by decide : (1 : Int32).toInt = 1)
                                have w2 := lv_neT q9 (by decide : (2 : Int32).toInt = 2)
                                have w3 := lv_neT q11 (by decide : (3 : Int32).toInt = 3)
                                have w4 := lv_neT q13 (by decide : (4 : Int32).toInt = 4)
                                have w5 := lv_neT q14 (by decide : (5 : Int32).toInt = 5)
                                have w6 := lv_neT q15 (by decide : (6 : Int32).toInt = 6)
                                have w7 := lv_neT q16 (by decide : (7 : Int32).toInt = 7)
                                have w8 := lv_neT q17 (by decide : (8 : Int32).toInt = 8)
                                have w9 := lv_neT q18 (by decide : (9 : Int32).toInt = 9)
                                have w10 := lv_neT q19 (by decide : (10 : Int32).toInt = 10)
                                have w11 := lv_neT q20 (by decide : (11 : Int32).toInt = 11)
                                have w12 := lv_neT q21 (by decide : (12 : Int32).toInt = 12)
                                have w13 := lv_neT q22 (by decide : (13 : Int32).toInt = 13)
                                refine AW.tout (pc' := 136) X dX7_total_14 (by omega) rfl ?_
                                exact ok_X7_total_136 X hr h0 x1 R h
  · replace h := itep q2 h
    refine AW.bipush (v := (-2)) (pc' := 12) X rfl dX7_total_10 rfl ?_
    replace h := Option.some.inj h
    subst h
    exact AW.iret X hr dX7_total_12
end OK
