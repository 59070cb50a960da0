/-! PURE, the class alone: by program out of the same part of whole -/
/-! PURE: addChannel on both sides -/
def trQ (o i : Nat) : Bool := (decide (o < 11) && (decide (tr o i < 18) || decide (208 ≤ tr o i)) && (!(decide (tr o i = 5)) || (decide (o = 0) && decide (i = 3)))) || (decide (11 ≤ o) && (decide (300 ≤ tr o i) || (decide (34 + 29 * ((o - 11) / 9) ≤ tr o i) && decide (tr o i < 63 + 29 * ((o - 11) / 9)))))
theorem trQ_ok : ∀ o, o < 65 → ∀ i, i < 100 → tr o i < 5000 → trQ o i = true := by decide +kernel
theorem trQ_lo {o i : Nat} (ho : o < 11) (hi : i < 100) (ht : tr o i < 5000) : (tr o i < 18 ∨ 208 ≤ tr o i) ∧ (tr o i = 5 → o = 0 ∧ i = 3) := by
  have h := trQ_ok o (by omega) i hi ht
  unfold trQ at h
  simp only [Bool.or_eq_true, Bool.and_eq_true, decide_eq_true_eq, Bool.not_eq_true', decide_eq_false_iff_not] at h
  omega
theorem trQ_hi {o i : Nat} (ho : 11 ≤ o) (h65 : o < 65) (hi : i < 100) (ht : tr o i < 5000) : 300 ≤ tr o i ∨ (34 + 29 * ((o - 11) / 9) ≤ tr o i ∧ tr o i < 63 + 29 * ((o - 11) / 9)) := by
  have h := trQ_ok o h65 i hi ht
  unfold trQ at h
  simp only [Bool.or_eq_true, Bool.and_eq_true, decide_eq_true_eq, Bool.not_eq_true', decide_eq_false_iff_not] at h
  omega
def chanS (r : Nat → Int32) (C : Nat) (b x2 x3 : Int32) : Nat → Int32 := upd (upd (upd (upd (upd (upd (upd (upd (upd (upd r 5 (nI (C + 1))) (34 + 29 * C) b) (34 + 29 * C + 1) x2) (34 + 29 * C + 2) x3) (34 + 29 * C + 3) 1) (34 + 29 * C + 4) 1) (34 + 29 * C + 6) 1) (34 + 29 * C + 7) 1) (34 + 29 * C + 9) 1) (34 + 29 * C + 10) 1
theorem chanS_at {r : Nat → Int32} {C : Nat} {b x2 x3 : Int32} {k : Nat} (h : k ≠ 5) (h2 : ¬ (34 + 29 * C ≤ k ∧ k < 34 + 29 * C + 11) ∨ k = 34 + 29 * C + 5 ∨ k = 34 + 29 * C + 8) : chanS r C b x2 x3 k = r k := by
  unfold chanS
  rw [upd_ne (by omega), upd_ne (by omega), upd_ne (by omega), upd_ne (by omega), upd_ne (by omega), upd_ne (by omega), upd_ne (by omega), upd_ne (by omega), upd_ne (by omega), upd_ne h]
theorem chanS_5 {r : Nat → Int32} {C : Nat} {b x2 x3 : Int32} : chanS r C b x2 x3 5 = nI (C + 1) := by
  unfold chanS
  rw [upd_ne (by omega), upd_ne (by omega), upd_ne (by omega), upd_ne (by omega), upd_ne (by omega), upd_ne (by omega), upd_ne (by omega), upd_ne (by omega), upd_ne (by omega), upd_eq]
theorem chanS_0 {r : Nat → Int32} {C : Nat} {b x2 x3 : Int32} : chanS r C b x2 x3 (34 + 29 * C) = b ∧ chanS r C b x2 x3 (34 + 29 * C + 1) = x2 ∧ chanS r C b x2 x3 (34 + 29 * C + 2) = x3 := by
  unfold chanS
  refine ⟨?_, ?_, ?_⟩
  · rw [upd_ne (by omega), upd_ne (by omega), upd_ne (by omega), upd_ne (by omega), upd_ne (by omega), upd_ne (by omega), upd_ne (by omega), upd_ne (by omega), upd_eq]
  · rw [upd_ne (by omega), upd_ne (by omega), upd_ne (by omega), upd_ne (by omega), upd_ne (by omega), upd_ne (by omega), upd_ne (by omega), upd_eq]
  · rw [upd_ne (by omega), upd_ne (by omega), upd_ne (by omega), upd_ne (by omega), upd_ne (by omega), upd_ne (by omega), upd_eq]
theorem chanS_m {r : Nat → Int32} {C : Nat} {b x2 x3 : Int32} {j : Nat} (hj : j < 3) : chanS r C b x2 x3 (34 + 29 * C + (3 + 3 * j)) = 1 ∧ chanS r C b x2 x3 (34 + 29 * C + (4 + 3 * j)) = 1 := by
  unfold chanS
  rcases (show j = 0 ∨ j = 1 ∨ j = 2 by omega) with rfl | rfl | rfl
  · exact ⟨by rw [upd_ne (by omega), upd_ne (by omega), upd_ne (by omega), upd_ne (by omega), upd_ne (by omega), upd_eq], by rw [upd_ne (by omega), upd_ne (by omega), upd_ne (by omega), upd_ne (by omega), upd_eq]⟩
  · exact ⟨by rw [upd_ne (by omega), upd_ne (by omega), upd_ne (by omega), upd_eq], by rw [upd_ne (by omega), upd_ne (by omega), upd_eq]⟩
  · exact ⟨by rw [upd_ne (by omega), upd_eq], by rw [upd_eq]⟩
theorem chanWF {r : Nat → Int32} {C L P s ln nn : Nat} {b x2 x3 : Int32} (h : WF r C L P s ln nn) (hr : restB s = true) (hC : C < 6) (hb : b = 0 ∨ b = 1) (hx : wi x2 0 5000 = true) : WF (chanS r C b x2 x3) (C + 1) L P s ln nn := by
  obtain ⟨hc, hl, hp, hst, ha, h1, h2, h7, h8, h9⟩ := h
  have hs : ¬ (s = 1 ∨ s = 2) := by
    unfold restB at hr
    have := of_decide_eq_true hr
    omega
  have nw := hc.2.2 C (by omega) hC
  obtain ⟨⟨n1, n2, n3, n4, n5, n6, n7, n8⟩, n9⟩ := nw
  have at' : ∀ k, k ≠ 5 → (¬ (34 + 29 * C ≤ k ∧ k < 34 + 29 * C + 11) ∨ k = 34 + 29 * C + 5 ∨ k = 34 + 29 * C + 8) → chanS r C b x2 x3 k = r k := fun k a b => chanS_at a b
  have bx := wi_t hx
  have t0 : (0 : Int32).toInt = 0 := rfl
  have t1 : (1 : Int32).toInt = 1 := rfl
  have t5 : (5000 : Int32).toInt = 5000 := rfl
  refine ⟨⟨⟨chanS_5, by omega⟩, fun c hcc => ?_, fun c g1 g2 => chNew_cong (fun w hw => at' _ (by omega) (by omega)) (fun k hk => ⟨at' _ (by omega) (by omega), at' _ (by omega) (by omega)⟩) (hc.2.2 c (by omega) g2)⟩, WFl_cong (at' _ (by omega) (by omega)) (fun k hk => at' _ (by omega) (by omega)) hl, WFp_cong (at' _ (by omega) (by omega)) (fun k hk => at' _ (by omega) (by omega)) hp, WFs_cong ⟨at' _ (by omega) (by omega), at' _ (by omega) (by omega), at' _ (by omega) (by omega), at' _ (by omega) (by omega), at' _ (by omega) (by omega), at' _ (by omega) (by omega)⟩ hst, ⟨fun c k a b' => ?_, fun k hk => by rw [at' _ (by omega) (by omega)]; exact ha.2 k hk⟩, by rw [at' 1 (by omega) (by omega)]; exact h1, by rw [at' 2 (by omega) (by omega)]; exact h2, by rw [at' 7 (by omega) (by omega)]; exact h7, fun q => absurd q hs, by rw [at' 3 (by omega) (by omega)]; exact h9⟩
  · by_cases q : c = C
    · subst q
      refine ⟨by rw [chanS_0.1]; exact hb, ⟨by rw [chanS_0.2.1]; exact ⟨by omega, by omega⟩, fun j hj => ?_⟩, ⟨0, by rw [at' _ (by omega) (by omega)]; exact n4, by omega, fun j hj => by omega⟩, by rw [at' _ (by omega) (by omega), n6]; decide⟩
      rw [(chanS_m hj).1, (chanS_m hj).2, at' _ (by omega) (by omega)]
      have hz : r (34 + 29 * c + (5 + 3 * j)) = 0 := by
        rcases (show j = 0 ∨ j = 1 ∨ j = 2 by omega) with rfl | rfl | rfl
        · exact n1
        · exact n2
        · exact n3
      rw [hz]
      exact ⟨⟨by decide, by decide⟩, ⟨by decide, by decide⟩, by decide, by decide⟩
    · exact chOK_cong (fun w hw => at' _ (by omega) (by omega)) (by rw [at' _ (by omega) (by omega)]; exact (hc.2.1 c (by omega)).2.2.2) (hc.2.1 c (by omega))
  · rw [at' _ (by omega) (by omega)]
    by_cases q : c = C
    · subst q
      exact Or.inl (n9 k b').2
    · exact ha.1 c k (by omega) b'
theorem becomeC {M : MM} {b C L P s ln nn : Nat} {r : Nat → Int32} {b1 : Bool} {x2 x3 : Int32} (hR : Rep M b r) (hw : WF r C L P s ln nn) (hC : C < 6) : ∃ M', (gd (inb (M b 3) 6) (Option.bind (f_X0_become ((b + 6) + 5 + 9 * (ix (M b 3))) b1 x2 x3 M) fun v9 => some ((((ms v9 b 3 ((v9 b 3) + 1)) b 3) - 1), (ms v9 b 3 ((v9 b 3) + 1))))) = some (nI C, M') ∧ Rep M' b (chanS r C (bz b1) x2 x3) ∧ Fr b M M' := by
  have h5 := hw.1.1.1
  have m3 : M b 3 = nI C := hR.s.2.1.trans h5
  obtain ⟨⟨n1, n2, n3, n4, n5, n6, n7, n8⟩, n9⟩ := hw.1.2.2 C (by omega) hC
  rw [m3, gd_of (inb_nI (by omega) (by omega)), ix_nI (by omega), show b + 6 + 5 + 9 * C = b + (11 + 9 * C) by omega]
  generalize ha : b + (11 + 9 * C) = a
  unfold f_X0_become f_X0_forgetRun f_X0_forgetGains
  rw [fill_ok (by omega), Option.bind_some, fill_ok (by omega), Option.bind_some, fill_ok (by omega), Option.bind_some, fill_ok (by omega), Option.bind_some, Option.bind_some, fill_ok (by omega), Option.bind_some, Option.bind_some, Option.bind_some]
  generalize h1 : ms (ms (ms M a 0 (bz b1)) a 1 x2) a 2 x3 = N1
  generalize h2 : msf N1 (a + 1) (fillR (N1 (a + 1)) 0 3 1) = N2
  generalize h3 : msf N2 (a + 2) (fillR (N2 (a + 2)) 0 3 1) = N3
  generalize h4 : msf N3 (a + 3) (fillR (N3 (a + 3)) 0 3 0) = N4
  generalize h5' : ms N4 a 9 0 = N5
  generalize h6 : msf N5 (a + 7) (fillR (N5 (a + 7)) 0 100 (-6)) = N6
  generalize h7 : ms (ms (ms (ms N6 a 14 0) a 15 0) a 16 0) a 17 0 = N7
  generalize h8 : msf N7 (a + 8) (fillR (N7 (a + 8)) 0 100 (-6)) = N8
  have ot : ∀ q, (q < a ∨ a + 9 ≤ q) → N8 q = M q := fun q hq => by
    rw [← h8, msf_ne (by omega), ← h7, ms_ne (by omega), ms_ne (by omega), ms_ne (by omega), ms_ne (by omega), ← h6, msf_ne (by omega), ← h5', ms_ne (by omega), ← h4, msf_ne (by omega), ← h3, msf_ne (by omega), ← h2, msf_ne (by omega), ← h1, ms_ne (by omega), ms_ne (by omega), ms_ne (by omega)]
  have va : ∀ i, N8 a i = upd (upd (upd (upd (upd (upd (upd (upd (M a) 0 (bz b1)) 1 x2) 2 x3) 9 0) 14 0) 15 0) 16 0) 17 0 i := fun i => by
    rw [← h8, msf_ne (by omega), ← h7, ms_at, ms_at, ms_at, ms_at, ← h6, msf_ne (by omega), ← h5', ms_at, ← h4, msf_ne (by omega), ← h3, msf_ne (by omega), ← h2, msf_ne (by omega), ← h1, ms_at, ms_at, ms_at]
  have v1 : ∀ i, i < 3 → N8 (a + 1) i = 1 := fun i hi => by
    rw [← h8, msf_ne (by omega), ← h7, ms_ne (by omega), ms_ne (by omega), ms_ne (by omega), ms_ne (by omega), ← h6, msf_ne (by omega), ← h5', ms_ne (by omega), ← h4, msf_ne (by omega), ← h3, msf_ne (by omega), ← h2, msf_at]
    unfold fillR; rw [if_pos (by omega)]
  have v2 : ∀ i, i < 3 → N8 (a + 2) i = 1 := fun i hi => by
    rw [← h8, msf_ne (by omega), ← h7, ms_ne (by omega), ms_ne (by omega), ms_ne (by omega), ms_ne (by omega), ← h6, msf_ne (by omega), ← h5', ms_ne (by omega), ← h4, msf_ne (by omega), ← h3, msf_at]
    unfold fillR; rw [if_pos (by omega)]
  have v3 : ∀ i, i < 3 → N8 (a + 3) i = 0 := fun i hi => by
    rw [← h8, msf_ne (by omega), ← h7, ms_ne (by omega), ms_ne (by omega), ms_ne (by omega), ms_ne (by omega), ← h6, msf_ne (by omega), ← h5', ms_ne (by omega), ← h4, msf_at]
    unfold fillR; rw [if_pos (by omega)]
  have v7 : ∀ i, i < 100 → N8 (a + 7) i = -6 := fun i hi => by
    rw [← h8, msf_ne (by omega), ← h7, ms_ne (by omega), ms_ne (by omega), ms_ne (by omega), ms_ne (by omega), ← h6, msf_at]
    unfold fillR; rw [if_pos (by omega)]
  have v8 : ∀ i, i < 100 → N8 (a + 8) i = -6 := fun i hi => by
    rw [← h8, msf_at]
    unfold fillR; rw [if_pos (by omega)]
  have e3 : N8 b 3 = nI C := by rw [ot b (by omega)]; exact m3
  rw [e3, nI_1, ms_eq, show nI (C + 1) - 1 = nI C by rw [show (1 : Int32) = nI 1 from rfl, sub_nI (by omega)]; rfl]
  have ed : ∀ q, q ≠ b → ms N8 b 3 (nI (C + 1)) q = N8 q := fun q hq => ms_ne hq
  refine ⟨_, rfl, ⟨fun o i a1 a2 a3 a4 => ?_, hR.2.cong (fun j _ => by rw [ed _ (by omega), ot _ (by omega)]) (fun j _ => by rw [ed _ (by omega), ot _ (by omega)]) (chanS_at (by omega) (by omega)) (fun k _ _ => chanS_at (by omega) (by omega))⟩, fun q hq => (ed q (by omega)).trans (ot q (by omega))⟩
  have hNo : ∀ c, Nn (chanS r C (bz b1) x2 x3) c = Nn r c := fun c => by unfold Nn; rw [chanS_at (by omega) (by omega)]
  have hCn : Cn (chanS r C (bz b1) x2 x3) = C + 1 := by unfold Cn; rw [chanS_5, ix_nI (by omega)]
  have hCr : Cn r = C := by unfold Cn; rw [h5, ix_nI (by omega)]
  by_cases lo : o < 11
  · obtain ⟨q1, q2⟩ := trQ_lo lo a2 a3
    by_cases z : o = 0 ∧ i = 3
    · obtain ⟨rfl, rfl⟩ := z
      rw [show tr 0 3 = 5 from rfl, chanS_5]
      exact ms_eq _ _ _ _
    · have y : tr o i ≠ 5 := fun e => z (q2 e)
      rw [chanS_at y (by omega)]
      have : ms N8 b 3 (nI (C + 1)) (b + o) i = M (b + o) i := by
        by_cases x : o = 0
        · subst x
          show ms N8 b 3 (nI (C + 1)) b i = M b i
          rw [ms_ni (fun e => z ⟨rfl, e⟩), ot b (by omega)]
        · rw [ed _ (by omega), ot _ (by omega)]
      rw [this]
      exact hR.1 o i a1 a2 a3 (Or.inl lo)
  · have hi := trQ_hi (by omega) a1 a2 a3
    have a5 := a4.resolve_left lo
    rw [hCn, hNo] at a5
    rw [ed _ (by omega)]
    by_cases z : (o - 11) / 9 = C
    · have ht := trD o a1 i a2 a3
      rw [z] at a5
      have hN0 : Nn r C = 0 := by
        unfold Nn
        rw [show 46 + 29 * C = 34 + 29 * C + 12 by omega, n4]; rfl
      rw [hN0] at a5
      rcases (show o = 11 + 9 * C ∨ o = 12 + 9 * C ∨ o = 13 + 9 * C ∨ o = 14 + 9 * C ∨ (4 ≤ (o - 11) % 9 ∧ (o - 11) % 9 ≤ 6) ∨ o = 18 + 9 * C ∨ o = 19 + 9 * C by omega) with e | e | e | e | e | e | e
      · subst e
        rw [ha, va]
        have t0 := tr_c0 C hC
        have t1 := tr_c14 C hC
        rcases (show i = 0 ∨ i = 1 ∨ i = 2 ∨ i = 9 ∨ i = 12 ∨ i = 13 ∨ i = 14 ∨ i = 15 ∨ i = 16 ∨ i = 17 by omega) with rfl | rfl | rfl | rfl | rfl | rfl | rfl | rfl | rfl | rfl
        · rw [t0.1, chanS_0.1]; rfl
        · rw [t0.2.1, chanS_0.2.1]; rfl
        · rw [t0.2.2.1, chanS_0.2.2]; rfl
        · rw [t0.2.2.2, chanS_at (by omega) (by omega), n4]; rfl
        · omega
        · omega
        · rw [t1.1, chanS_at (by omega) (by omega), n5]; rfl
        · rw [t1.2.1, chanS_at (by omega) (by omega), n6]; rfl
        · rw [t1.2.2.1, chanS_at (by omega) (by omega), n7]; rfl
        · rw [t1.2.2.2.1, chanS_at (by omega) (by omega), n8]; rfl
      · subst e
        have h3 : i < 3 := by omega
        rw [(tr_cm C hC i h3).1, (chanS_m h3).1, show b + (12 + 9 * C) = a + 1 by omega, v1 i h3]
      · subst e
        have h3 : i < 3 := by omega
        rw [(tr_cm C hC i h3).2.1, (chanS_m h3).2, show b + (13 + 9 * C) = a + 2 by omega, v2 i h3]
      · subst e
        have h3 : i < 3 := by omega
        rw [(tr_cm C hC i h3).2.2, chanS_at (by omega) (by omega), show b + (14 + 9 * C) = a + 3 by omega, v3 i h3]
        rcases (show i = 0 ∨ i = 1 ∨ i = 2 by omega) with rfl | rfl | rfl
        · exact n1.symm
        · exact n2.symm
        · exact n3.symm
      · have := a5.2 e
        omega
      · subst e
        rw [(tr_cl C hC i a2).1, chanS_at (by omega) (by omega), show b + (18 + 9 * C) = a + 7 by omega, v7 i a2]
        exact (n9 i a2).1.symm
      · subst e
        rw [(tr_cl C hC i a2).2, chanS_at (by omega) (by omega), show b + (19 + 9 * C) = a + 8 by omega, v8 i a2]
        exact (n9 i a2).2.symm
    · rw [ot _ (by omega), chanS_at (by omega) (by omega)]
      exact hR.1 o i a1 a2 a3 (Or.inr ⟨by rw [hCr]; omega, a5.2⟩)
