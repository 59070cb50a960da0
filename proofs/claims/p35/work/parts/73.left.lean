/-! PURE, the class alone: by program out of the same part of whole -/
theorem put_lo {R : Nat → Int32} {k : Nat} (hk : k < 1808) : cpB R 0 8 k = R k := by
  unfold cpB
  rw [if_neg (by omega)]
/-- what a row is after a forecast -/
theorem back_at {R w : Nat → Int32} {k : Nat} (hk : k < 14464) (hw : ∀ k, 1808 ≤ k → w k = cpB R 0 8 k) : cpB w 8 0 k = R k := by
  by_cases q : k < 1808
  · rw [cpB_lo q]
    unfold blk
    rw [hw _ (by omega)]
    unfold cpB
    rw [if_pos (by omega), show 1808 * 0 + (1808 * 8 + k - 1808 * 8) = k by omega]
  · unfold cpB
    rw [if_neg (by omega), hw _ (by omega)]
    unfold cpB
    rw [if_neg (by omega)]
theorem CI.eqR {M : MM} {R R' : Nat → Int32} {kp n : Nat} {tx fl : Nat → Int32} (h : CI M R kp n tx fl) (e : ∀ k, k < 14464 → R' k = R k) : CI M R' kp n tx fl := by
  obtain ⟨⟨a, b⟩, ⟨nt, c⟩, d, f⟩ := h
  exact ⟨⟨a.row (fun k hk => e k (by omega)), b.cong (fun k hk => e k (by omega))⟩, ⟨nt, c.mono (fun _ _ _ => rfl) (fun i k q1 q2 hk => e _ (by have := c.2.2.2.1; omega))⟩, d.mono (fun _ _ _ => rfl) rfl (fun i k q1 q2 hk => e _ (by omega)), f⟩
theorem CI.fc {M M' : MM} {R : Nat → Int32} {kp n : Nat} {tx fl : Nat → Int32} (h : CI M R kp n tx fl) (e : Fr 65 M M') : CI M' R kp n tx fl := by
  obtain ⟨⟨a, b⟩, ⟨nt, c⟩, d, f⟩ := h
  exact ⟨⟨a.congr (fun o ho => e _ (by omega)), b⟩, ⟨nt, c.mono (fun q _ _ => e q (by omega)) (fun _ _ _ _ _ => rfl)⟩, d.mono (fun q _ _ => e q (by omega)) (e _ (by omega)) (fun _ _ _ _ _ => rfl), f.mono (by rw [e 655 (by omega)]) (e _ (by omega))⟩
/-- a forecast: the class works on its own State, the reference puts its row aside -/
theorem mkF {M : MM} {R : Nat → Int32} {kp n : Nat} {tx fl : Nat → Int32} {v : Int32} {fc fm : MM → Option (Int32 × MM)} (hC : CI M R kp n tx fl) (hM : MI M R kp n tx fl) (c : ∃ M1, fc M = some (v, M1) ∧ Fr 65 M M1) (m : ∀ M1, MI M1 R kp n tx fl → ∃ M2 w, fm M1 = some (v, M2) ∧ M2 658 = cpB w 8 0 ∧ (∀ k, 1808 ≤ k → w k = cpB R 0 8 k) ∧ Mo M1 M2) : ∃ v M1 M2, fc M = some (v, M1) ∧ fm M1 = some (v, M2) ∧ INV M2 := by
  obtain ⟨M1, e1, f1⟩ := c
  have hm1 := hM.lo (f1.lo (by omega))
  obtain ⟨M2, w, e2, r2, hw, o2⟩ := m M1 hm1
  exact ⟨v, M1, M2, e1, e2, cpB w 8 0, kp, n, tx, fl, ((hC.fc f1).hi o2.hi).eqR (fun k hk => back_at hk hw), hm1.mo o2 r2⟩
theorem lpC13 {X : Nat} (hX : X = 500) : ∀ (d j k : Nat) (M : MM) (r : Nat → Int32), j + d = X → d < k → Rep M 65 r → WFr r → ∃ M', f_X6_loopsLeft_13 650 k (nI j) M = f_X6_loopsLeft_43 650 (nI (lpS d j r).2) M' ∧ Rep M' 65 (lpS d j r).1 ∧ Fr 65 M M' := by
  intro d
  induction d with
  | zero =>
    intro j k M r hj hk hR hw
    obtain ⟨k, rfl⟩ : ∃ k', k = k' + 1 := ⟨k - 1, by omega⟩
    rw [f_X6_loopsLeft_13]
    rw [if_pos (by rw [show (500 : Int32) = nI 500 from rfl, le_nI (by omega) (by omega)]; omega)]
    exact ⟨M, rfl, hR, Fr.rf⟩
  | succ d ih =>
    intro j k M r hj hk hR hw
    obtain ⟨k, rfl⟩ : ∃ k', k = k' + 1 := ⟨k - 1, by omega⟩
    obtain ⟨C, L, P, s, ln, nn, hw'⟩ := id hw
    have h1 := hw'.2.2.2.2.2.1
    rw [f_X6_loopsLeft_13]
    rw [if_neg (by rw [show (500 : Int32) = nI 500 from rfl, le_nI (by omega) (by omega)]; omega), restsC hR h1, Option.bind_some, lpS]
    cases hb : restB s with
    | true =>
      rw [if_neg bz_t0, if_neg (by rw [runs_iff h1, hb]; decide)]
      exact ⟨M, rfl, hR, Fr.rf⟩
    | false =>
      have hs := rest_s hb
      rw [if_pos bz_f0, if_pos ((runs_iff h1).mpr hb)]
      obtain ⟨M1, e1, R1, -, F1⟩ := loopC_ok hw' hs hR
      obtain ⟨s', ln', hw1⟩ := loopS_WF hw' hs
      rw [e1, Option.bind_some, nI_1]
      obtain ⟨M2, e2, R2, F2⟩ := ih (j + 1) k M1 (loopS r) (by omega) (by omega) R1 ⟨C, L, P, s', ln', nn, hw1⟩
      exact ⟨M2, e2, R2, F1.tr F2⟩
