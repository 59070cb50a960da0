/-! PURE: the forecasts on both sides -/
theorem putM {M : MM} : f_X7_putAside 657 M = some (msf M 658 (cpB (M 658) 0 8)) := by
  unfold f_X7_putAside
  rw [show f_X7_copies 657 0 14464 M = f_X7_copies 657 (nI (1808 * 0)) (nI (1808 * 8)) M from rfl, copies_ok (by omega) (by omega) (by omega), Option.bind_some]
theorem backM {M : MM} : f_X7_comesBack 657 M = some (msf M 658 (cpB (M 658) 8 0)) := by
  unfold f_X7_comesBack
  rw [show f_X7_copies 657 14464 0 M = f_X7_copies 657 (nI (1808 * 8)) (nI (1808 * 0)) M from rfl, copies_ok (by omega) (by omega) (by omega), Option.bind_some]
theorem put_lo {R : Nat → Int32} {k : Nat} (hk : k < 1808) : cpB R 0 8 k = R k := by
  unfold cpB
  rw [if_neg (by omega)]
/-- what a row is after a forecast -/
theorem back_at {R w : Nat → Int32} {k : Nat} (hk : k < 14464) (hw : ∀ k, 1808 ≤ k → w k = cpB R 0 8 k) : cpB w 8 0 k = R k := by
  by_cases q : k < 1808
  · rw [cpB_lo q]
    unfold blk
    rw [hw _ (by omega)]
    unfold cpB
    rw [if_pos (by omega), show 1808 * 0 + (1808 * 8 + k - 1808 * 8) = k by omega]
  · unfold cpB
    rw [if_neg (by omega), hw _ (by omega)]
    unfold cpB
    rw [if_neg (by omega)]
theorem CI.eqR {M : MM} {R R' : Nat → Int32} {kp n : Nat} {tx fl : Nat → Int32} (h : CI M R kp n tx fl) (e : ∀ k, k < 14464 → R' k = R k) : CI M R' kp n tx fl := by
  obtain ⟨⟨a, b⟩, ⟨nt, c⟩, d, f⟩ := h
  exact ⟨⟨a.row (fun k hk => e k (by omega)), b.cong (fun k hk => e k (by omega))⟩, ⟨nt, c.mono (fun _ _ _ => rfl) (fun i k q1 q2 hk => e _ (by have := c.2.2.2.1; omega))⟩, d.mono (fun _ _ _ => rfl) rfl (fun i k q1 q2 hk => e _ (by omega)), f⟩
theorem CI.fc {M M' : MM} {R : Nat → Int32} {kp n : Nat} {tx fl : Nat → Int32} (h : CI M R kp n tx fl) (e : Fr 65 M M') : CI M' R kp n tx fl := by
  obtain ⟨⟨a, b⟩, ⟨nt, c⟩, d, f⟩ := h
  exact ⟨⟨a.congr (fun o ho => e _ (by omega)), b⟩, ⟨nt, c.mono (fun q _ _ => e q (by omega)) (fun _ _ _ _ _ => rfl)⟩, d.mono (fun q _ _ => e q (by omega)) (e _ (by omega)) (fun _ _ _ _ _ => rfl), f.mono (by rw [e 655 (by omega)]) (e _ (by omega))⟩
/-- a forecast: the class works on its own State, the reference puts its row aside -/
theorem mkF {M : MM} {R : Nat → Int32} {kp n : Nat} {tx fl : Nat → Int32} {v : Int32} {fc fm : MM → Option (Int32 × MM)} (hC : CI M R kp n tx fl) (hM : MI M R kp n tx fl) (c : ∃ M1, fc M = some (v, M1) ∧ Fr 65 M M1) (m : ∀ M1, MI M1 R kp n tx fl → ∃ M2 w, fm M1 = some (v, M2) ∧ M2 658 = cpB w 8 0 ∧ (∀ k, 1808 ≤ k → w k = cpB R 0 8 k) ∧ Mo M1 M2) : ∃ v M1 M2, fc M = some (v, M1) ∧ fm M1 = some (v, M2) ∧ INV M2 := by
  obtain ⟨M1, e1, f1⟩ := c
  have hm1 := hM.lo (f1.lo (by omega))
  obtain ⟨M2, w, e2, r2, hw, o2⟩ := m M1 hm1
  exact ⟨v, M1, M2, e1, e2, cpB w 8 0, kp, n, tx, fl, ((hC.fc f1).hi o2.hi).eqR (fun k hk => back_at hk hw), hm1.mo o2 r2⟩
theorem lpC13 {X : Nat} (hX : X = 500) : ∀ (d j k : Nat) (M : MM) (r : Nat → Int32), j + d = X → d < k → Rep M 65 r → WFr r → ∃ M', f_X6_loopsLeft_13 650 k (nI j) M = f_X6_loopsLeft_43 650 (nI (lpS d j r).2) M' ∧ Rep M' 65 (lpS d j r).1 ∧ Fr 65 M M' := by
  intro d
  induction d with
  | zero =>
    intro j k M r hj hk hR hw
    obtain ⟨k, rfl⟩ : ∃ k', k = k' + 1 := ⟨k - 1, by omega⟩
    rw [f_X6_loopsLeft_13]
    rw [if_pos (by rw [show (500 : Int32) = nI 500 from rfl, le_nI (by omega) (by omega)]; omega)]
    exact ⟨M, rfl, hR, Fr.rf⟩
  | succ d ih =>
    intro j k M r hj hk hR hw
    obtain ⟨k, rfl⟩ : ∃ k', k = k' + 1 := ⟨k - 1, by omega⟩
    obtain ⟨C, L, P, s, ln, nn, hw'⟩ := id hw
    have h1 := hw'.2.2.2.2.2.1
    rw [f_X6_loopsLeft_13]
    rw [if_neg (by rw [show (500 : Int32) = nI 500 from rfl, le_nI (by omega) (by omega)]; omega), restsC hR h1, Option.bind_some, lpS]
    cases hb : restB s with
    | true =>
      rw [if_neg bz_t0, if_neg (by rw [runs_iff h1, hb]; decide)]
      exact ⟨M, rfl, hR, Fr.rf⟩
    | false =>
      have hs := rest_s hb
      rw [if_pos bz_f0, if_pos ((runs_iff h1).mpr hb)]
      obtain ⟨M1, e1, R1, -, F1⟩ := loopC_ok hw' hs hR
      obtain ⟨s', ln', hw1⟩ := loopS_WF hw' hs
      rw [e1, Option.bind_some, nI_1]
      obtain ⟨M2, e2, R2, F2⟩ := ih (j + 1) k M1 (loopS r) (by omega) (by omega) R1 ⟨C, L, P, s', ln', nn, hw1⟩
      exact ⟨M2, e2, R2, F1.tr F2⟩
theorem loopsLeft_pair : Pair (f_X6_loopsLeft 650) (f_X7_loopsLeft 657) := by
  rintro M ⟨R, kp, n, tx, fl, hC, hM⟩
  obtain ⟨⟨a, C, L, P, s, ln, nn, hw⟩, -, -, -⟩ := id hC
  have hWR : WFr R := ⟨C, L, P, s, ln, nn, hw⟩
  have hWA : WFr (cpB R 0 8) := hWR.cong (fun k hk => put_lo hk)
  obtain ⟨⟨C', L', P', s', ln', nn', w1⟩, w2, w3⟩ := lpS_WF 500 0 (cpB R 0 8) hWA
  have h1 := w1.2.2.2.2.2.1
  refine mkF (v := if restB s' = true then nI (lpS 500 0 (cpB R 0 8)).2 else -6) hC hM ?_ (fun M1 g => ?_)
  · obtain ⟨M1, e1, r1, f1⟩ := copyC (b := 0) (b' := 65) (by omega) a hw
    obtain ⟨M2, e2, r2, f2⟩ := lpC13 rfl 500 0 FU M1 (cpB R 0 8) (by omega) (by unfold FU; omega) (r1.row (fun k hk => put_lo hk)) hWA
    refine ⟨M2, ?_, f1.tr f2⟩
    unfold f_X6_loopsLeft
    rw [e1, Option.bind_some, show (0 : Int32) = nI 0 from rfl, e2]
    unfold f_X6_loopsLeft_43 f_X6_loopsLeft_59
    rw [restsC r2 h1, Option.bind_some]
    cases restB s' with
    | true => rw [if_neg bz_t0, if_pos rfl]
    | false => rw [if_pos bz_f0, if_neg (show ¬ false = true by decide)]
  · obtain ⟨M2, e2, r2, f2⟩ := lpM (X := 500) (by omega) 500 0 FU (msf M1 658 (cpB (M1 658) 0 8)) (by omega) (by unfold FU; omega) (by rw [msf_at, g.1]; exact hWA)
    rw [msf_at, g.1] at r2
    rw [msf_at] at e2
    refine ⟨msf M2 658 (cpB (M2 658) 8 0), (lpS 500 0 (cpB R 0 8)).1, ?_, by rw [msf_at, r2], w3, (Mo.row.tr f2).tr Mo.row⟩
    unfold f_X7_loopsLeft f_X7_loops f_X7_loopsLeft_31
    rw [putM, Option.bind_some, show f_X7_loops_2 657 FU 500 0 (msf M1 658 (cpB (M1 658) 0 8)) = some (nI (lpS 500 0 (cpB (M1 658) 0 8)).2, M2) from e2, Option.bind_some]
    dsimp only
    rw [restsM (s := s') (by rw [r2]; exact h1), Option.bind_some, backM, Option.bind_some, g.1]
    cases restB s' with
    | true => rw [if_neg bz_t0, if_pos rfl]
    | false => rw [if_pos bz_f0, if_neg (show ¬ false = true by decide)]
