/-! PURE: highest on both sides -/
def mx2 (v w : Int32) : Int32 := if v < w then w else v
theorem greaterM {v w : Int32} {M : MM} : f_X7_greater v w M = some (mx2 v w) := by
  unfold f_X7_greater f_X7_greater_10 mx2
  by_cases h : v < w
  · rw [if_pos h, if_pos (Int32.le_of_lt h)]
  · rw [if_neg h]
    by_cases q : v ≤ w
    · rw [if_pos q]
      have : v = w := Int32.le_antisymm q (nlt_le.mp h)
      rw [this]
    · rw [if_neg q]
noncomputable def hgL (c : Nat) : Nat → Int32 → (Nat → Int32) → Int32
  | 0, v, _ => v
  | d + 1, v, r => if r 1 = 1 ∨ r 1 = 2 then hgL c d (mx2 v (loopS r (308 + 6 * ix (r 2) + c))) (loopS r) else v
theorem hgC {X C c : Nat} (hX : X ≤ 300) (hc : c < C) (h6 : C ≤ 6) : ∀ (d j k : Nat) (v : Int32) (M : MM) (r : Nat → Int32), j + d = X → d < k → Rep M 65 r → (∃ L P s ln nn, WF r C L P s ln nn) → ∃ M', f_X6_highest_44 650 k (nI c) (nI X) v (nI j) M = some (hgL c d v r, M') ∧ Fr 65 M M' := by
  intro d
  induction d with
  | zero =>
    intro j k v M r hj hk hR hw
    obtain ⟨k, rfl⟩ : ∃ k', k = k' + 1 := ⟨k - 1, by omega⟩
    rw [f_X6_highest_44, if_pos (by rw [le_nI (by omega) (by omega)]; omega)]
    exact ⟨M, rfl, Fr.rf⟩
  | succ d ih =>
    intro j k v M r hj hk hR hw
    obtain ⟨k, rfl⟩ : ∃ k', k = k' + 1 := ⟨k - 1, by omega⟩
    obtain ⟨L, P, s, ln, nn, hw'⟩ := id hw
    have h1 := hw'.2.2.2.2.2.1
    have h2 := hw'.2.2.2.2.2.2.1
    rw [f_X6_highest_44, if_neg (by rw [le_nI (by omega) (by omega)]; omega), measuresC hR h1, Option.bind_some, hgL]
    cases hb : measB s with
    | false =>
      rw [if_pos bz_f0, if_neg (by rw [meas_iff h1, hb]; decide)]
      exact ⟨M, rfl, Fr.rf⟩
    | true =>
      have hs := meas_s hb
      rw [if_neg bz_t0, if_pos ((meas_iff h1).mpr hb)]
      obtain ⟨M1, e1, R1, o1, F1⟩ := loopC_ok hw' (by omega) hR
      obtain ⟨s', ln', hw1⟩ := loopS_WF hw' (by omega)
      have ec : M1 (65 + 6 + 5 + 9 * c) 12 = loopS r (308 + 6 * ix (r 2) + c) := by
        rw [show 65 + 6 + 5 + 9 * c = 65 + (11 + 9 * c) by omega, o1 (by omega) c hc, h2.1, ix_nI (by omega)]
      rw [e1, Option.bind_some, gd_of (inb_nI (by omega) (by omega)), ix_nI (show c ≤ 1000000 by omega), ec, nI_1]
      obtain ⟨M2, e2, F2⟩ := ih (j + 1) k (mx2 v (loopS r (308 + 6 * ix (r 2) + c))) M1 (loopS r) (by omega) (by omega) R1 ⟨L, P, s', ln', nn, hw1⟩
      exact ⟨M2, e2, F1.tr F2⟩
theorem hgM {X C c : Nat} (hX : X ≤ 300) (hc : c < C) (h6 : C ≤ 6) : ∀ (d j k : Nat) (v : Int32) (M : MM), j + d = X → d < k → (∃ L P s ln nn, WF (M 658) C L P s ln nn) → ∃ M' w, f_X7_highest_34 657 k (nI c) (nI X) v (nI j) M = some (hgL c d v (M 658), M') ∧ M' 658 = cpB w 8 0 ∧ (∀ k, 1808 ≤ k → w k = M 658 k) ∧ Mo M M' := by
  have fin : ∀ (M : MM) (v : Int32), ∃ M' w, f_X7_highest_86 657 v M = some (v, M') ∧ M' 658 = cpB w 8 0 ∧ (∀ k, 1808 ≤ k → w k = M 658 k) ∧ Mo M M' := fun M v => by
    refine ⟨msf M 658 (cpB (M 658) 8 0), M 658, ?_, msf_at _ _ _, fun _ _ => rfl, Mo.row⟩
    unfold f_X7_highest_86
    rw [backM, Option.bind_some]
  intro d
  induction d with
  | zero =>
    intro j k v M hj hk hw
    obtain ⟨k, rfl⟩ : ∃ k', k = k' + 1 := ⟨k - 1, by omega⟩
    rw [f_X7_highest_34, if_pos (by rw [le_nI (by omega) (by omega)]; omega)]
    exact fin M v
  | succ d ih =>
    intro j k v M hj hk hw
    obtain ⟨k, rfl⟩ : ∃ k', k = k' + 1 := ⟨k - 1, by omega⟩
    obtain ⟨L, P, s, ln, nn, hw'⟩ := id hw
    have h1 := hw'.2.2.2.2.2.1
    have h2 := hw'.2.2.2.2.2.2.1
    rw [f_X7_highest_34, if_neg (by rw [le_nI (by omega) (by omega)]; omega), canAbortM h1, Option.bind_some, hgL]
    cases hb : measB s with
    | false =>
      rw [if_pos bz_f0, if_neg (by rw [meas_iff h1, hb]; decide)]
      exact fin M v
    | true =>
      have hs := meas_s hb
      rw [if_neg bz_t0, if_pos ((meas_iff h1).mpr hb)]
      obtain ⟨M1, e1, R1, F1⟩ := loopM_ok hw' (by omega)
      obtain ⟨s', ln', hw1⟩ := loopS_WF hw' (by omega)
      rw [gd_of (show inb 2 16272 = true by decide), show ix 2 = 2 from rfl, e1, Option.bind_some, show (657 + 1 : Nat) = 658 from rfl, h2.1, show (308 : Int32) = nI 308 from rfl, lin26, gd_of (inb_nI (by omega) (by omega)), ix_nI (show 308 + 6 * ln + c ≤ 1000000 by omega), R1, greaterM, Option.bind_some, nI_1, ix_nI (show ln ≤ 1000000 by omega)]
      obtain ⟨M2, w, e2, r2, x2, F2⟩ := ih (j + 1) k (mx2 v (loopS (M 658) (308 + 6 * ln + c))) M1 (by omega) (by omega) (by rw [R1]; exact ⟨L, P, s', ln', nn, hw1⟩)
      rw [R1] at e2 x2
      exact ⟨M2, w, e2, r2, fun k hk => (x2 k hk).trans (loopS_hi hw' (by omega) hk), F1.tr F2⟩
theorem highest_pair (x y : Int32) : Pair (f_X6_highest 650 x y) (f_X7_highest 657 x y) := by
  rintro M ⟨R, kp, n, tx, fl, hC, hM⟩
  obtain ⟨⟨a, C, L, P, s, ln, nn, hw⟩, -, -, -⟩ := id hC
  have h5 := hw.1.1
  have hWA : WF (cpB R 0 8) C L P s ln nn := hw.cong (fun k hk => put_lo hk)
  cases hx : wi x 0 (nI C - 1) with
  | false =>
    refine mkS (v := -1) ⟨R, kp, n, tx, fl, hC, hM⟩ ?_ ?_
    · unfold f_X6_highest
      rw [hasChC a h5.1, Option.bind_some, hx, if_pos bz_f0]
    · unfold f_X7_highest
      rw [isChM (by rw [hM.1]; exact h5.1), Option.bind_some, hx, if_pos bz_f0]
  | true =>
    obtain ⟨c, hc, rfl⟩ := (wi_ix (by omega)).mp hx
    cases hy : wi y 1 300 with
    | false =>
      refine mkS (v := -2) ⟨R, kp, n, tx, fl, hC, hM⟩ ?_ ?_
      · unfold f_X6_highest
        rw [hasChC a h5.1, Option.bind_some, hx, if_neg bz_t0, isWithin_ok, Option.bind_some, hy, if_pos bz_f0]
      · unfold f_X7_highest
        rw [isChM (by rw [hM.1]; exact h5.1), Option.bind_some, hx, if_neg bz_t0, in_ok, Option.bind_some, hy, if_pos bz_f0]
    | true =>
      obtain ⟨X, rfl, -, hX⟩ := wi_nI (a := 1) (b := 300) (by omega) (by omega) hy
      refine mkF (v := hgL c X (-6) (cpB R 0 8)) hC hM ?_ (fun M1 g => ?_)
      · obtain ⟨M1, e1, r1, f1⟩ := copyC (b := 0) (b' := 65) (by omega) a hw
        obtain ⟨M2, e2, f2⟩ := hgC hX hc h5.2 X 0 FU (-6) M1 (cpB R 0 8) (by omega) (by unfold FU; omega) (r1.row (fun k hk => put_lo hk)) ⟨L, P, s, ln, nn, hWA⟩
        refine ⟨M2, ?_, f1.tr f2⟩
        unfold f_X6_highest
        rw [hasChC a h5.1, Option.bind_some, hx, if_neg bz_t0, isWithin_ok, Option.bind_some, hy, if_neg bz_t0, e1, Option.bind_some]
        exact e2
      · obtain ⟨M2, w, e2, r2, x2, f2⟩ := hgM hX hc h5.2 X 0 FU (-6) (msf M1 658 (cpB (M1 658) 0 8)) (by omega) (by unfold FU; omega) (by rw [msf_at, g.1]; exact ⟨L, P, s, ln, nn, hWA⟩)
        rw [msf_at, g.1] at x2
        rw [msf_at] at e2
        refine ⟨M2, w, ?_, r2, x2, Mo.row.tr f2⟩
        unfold f_X7_highest
        rw [isChM (by rw [g.1]; exact h5.1), Option.bind_some, hx, if_neg bz_t0, in_ok, Option.bind_some, hy, if_neg bz_t0, putM, Option.bind_some, ← show M1 658 = R from g.1]
        exact e2
