/-! PURE, the class alone: by program out of the same part of whole -/
/-! PURE: setLines on both sides -/
theorem WFc_cong {r r' : Nat → Int32} {C : Nat} (e : ∀ k, (k = 5 ∨ (34 ≤ k ∧ k < 208) ∨ (308 ≤ k ∧ k < 1508)) → r' k = r k) (h : WFc r C) : WFc r' C := by
  have h6 := h.1.2
  exact ⟨by rw [e 5 (by omega)]; exact h.1, fun c hc => chOK_cong (fun w hw => e _ (by omega)) (by rw [e _ (by omega)]; exact (h.2.1 c hc).2.2.2) (h.2.1 c hc), fun c a b => chNew_cong (fun w hw => e _ (by omega)) (fun k hk => ⟨e _ (by omega), e _ (by omega)⟩) (h.2.2 c a b)⟩
def layS (r : Nat → Int32) (f rt : Int32) (j : Nat) : Nat → Int32 := fun k => if 208 ≤ k ∧ k < 208 + j then lfS f rt (k - 208) else r k
theorem layS_0 {r : Nat → Int32} {f rt : Int32} : layS r f rt 0 = r := by
  funext k
  unfold layS
  rw [if_neg (by omega)]
theorem layS_at {r : Nat → Int32} {f rt : Int32} {j k : Nat} (h : ¬ (208 ≤ k ∧ k < 208 + j)) : layS r f rt j k = r k := by
  unfold layS
  rw [if_neg h]
theorem layS_step {r : Nat → Int32} {f rt : Int32} {j : Nat} : upd (layS r f rt j) (208 + j) (lfS f rt j) = layS r f rt (j + 1) := by
  funext k
  by_cases q : k = 208 + j
  · subst q
    rw [upd_eq]
    unfold layS
    rw [if_pos (by omega), show 208 + j - 208 = j by omega]
  · rw [upd_ne q]
    unfold layS
    by_cases z : 208 ≤ k ∧ k < 208 + j
    · rw [if_pos z, if_pos (by omega)]
    · rw [if_neg z, if_neg (by omega)]
def linS (r : Nat → Int32) (N : Nat) (f rt : Int32) : Nat → Int32 := gnS (frS (upd (upd (upd (upd (layS r f rt N) 0 (nI N)) 1 0) 2 0) 3 0))
theorem gnS_at {r : Nat → Int32} {k : Nat} (h : ¬ (908 ≤ k ∧ k < 1608)) : gnS r k = r k := by
  unfold gnS fillR
  rw [if_neg h]
theorem gnS_t {r : Nat → Int32} {k : Nat} (h : 908 ≤ k ∧ k < 1608) : gnS r k = -6 := by
  unfold gnS fillR
  rw [if_pos h]
theorem layC_loop {b N : Nat} {r : Nat → Int32} {f rt : Int32} (hN : N ≤ 100) (h0 : r 0 = nI N) : ∀ (d j k : Nat) (M : MM), j + d = N → d < k → Rep M b (layS r f rt j) → ∃ M', f_X2_lay_16 (b + 1) k rt (lfS f rt j) (nI j) M = some M' ∧ Rep M' b (layS r f rt N) ∧ Fr b M M' := by
  intro d
  induction d with
  | zero =>
    intro j k M hj hk hR
    obtain ⟨k, rfl⟩ : ∃ k', k = k' + 1 := ⟨k - 1, by omega⟩
    have : j = N := by omega
    subst this
    have m1 : M (b + 1) 1 = nI j := hR.s.1.trans ((layS_at (by omega)).trans h0)
    rw [f_X2_lay_16, if_pos (by rw [m1]; exact Int32.le_refl _)]
    exact ⟨M, rfl, hR, Fr.rf⟩
  | succ d ih =>
    intro j k M hj hk hR
    obtain ⟨k, rfl⟩ : ∃ k', k = k' + 1 := ⟨k - 1, by omega⟩
    have m1 : M (b + 1) 1 = nI N := hR.s.1.trans ((layS_at (by omega)).trans h0)
    have R1 := Rep.put (o := 2) (i := j) (k := 208 + j) (v := lfS f rt j) hR (tr_8 j (by omega)).1 (by omega) (by omega) (by omega) ⟨by omega, by omega, fun c hc => by omega⟩
    rw [layS_step] at R1
    obtain ⟨M', e, q1, q2⟩ := ih (j + 1) k _ (by omega) (by omega) R1
    refine ⟨M', ?_, q1, (Fr.put (o := 2) Fr.rf (by omega)).tr q2⟩
    rw [f_X2_lay_16, if_neg (by rw [m1, le_nI (by omega) (by omega)]; omega), gd_of (inb_nI (by omega) (by omega)), aboveC, Option.bind_some, ix_nI (by omega), nI_1]
    exact e
theorem linS_at {r : Nat → Int32} {N : Nat} {f rt : Int32} {k : Nat} (hN : N ≤ 100) (h1 : ¬ (208 ≤ k ∧ k < 1808)) (h2 : ¬ (6 ≤ k ∧ k ≤ 10)) (h3 : ¬ (34 ≤ k ∧ k < 208 ∧ 25 ≤ (k - 34) % 29)) (h4 : 4 ≤ k) : linS r N f rt k = r k := by
  unfold linS
  rw [gnS_at (by omega), frS_at (by omega) h2 h3, upd_ne (by omega), upd_ne (by omega), upd_ne (by omega), upd_ne (by omega), layS_at (by omega)]
theorem linS_lo {r : Nat → Int32} {N : Nat} {f rt : Int32} : linS r N f rt 0 = nI N ∧ linS r N f rt 1 = 0 ∧ linS r N f rt 2 = 0 ∧ linS r N f rt 3 = 0 ∧ linS r N f rt 7 = 1 := by
  unfold linS
  refine ⟨?_, ?_, ?_, ?_, ?_⟩
  · rw [gnS_at (by omega), frS_at (by omega) (by omega) (by omega), upd_ne (by omega), upd_ne (by omega), upd_ne (by omega), upd_eq]
  · rw [gnS_at (by omega), frS_at (by omega) (by omega) (by omega), upd_ne (by omega), upd_ne (by omega), upd_eq]
  · rw [gnS_at (by omega), frS_at (by omega) (by omega) (by omega), upd_ne (by omega), upd_eq]
  · rw [gnS_at (by omega), frS_at (by omega) (by omega) (by omega), upd_eq]
  · rw [gnS_at (by omega)]
    unfold frS
    rw [if_neg (by omega), if_neg (by omega), if_pos rfl]
theorem linS_f {r : Nat → Int32} {N : Nat} {f rt : Int32} {k : Nat} (hk : k < N) (hN : N ≤ 100) : linS r N f rt (208 + k) = lfS f rt k := by
  unfold linS
  rw [gnS_at (by omega), frS_at (by omega) (by omega) (by omega), upd_ne (by omega), upd_ne (by omega), upd_ne (by omega), upd_ne (by omega)]
  unfold layS
  rw [if_pos (by omega), show 208 + k - 208 = k by omega]
theorem linS_z {r : Nat → Int32} {N : Nat} {f rt : Int32} {c w : Nat} (a : c < 6) (b : 25 ≤ w) (d : w < 29) : linS r N f rt (34 + 29 * c + w) = 0 := by
  unfold linS
  rw [gnS_at (by omega)]
  unfold frS
  rw [if_neg (by omega), if_pos (by omega)]
theorem linS_6 {r : Nat → Int32} {N : Nat} {f rt : Int32} {k : Nat} (h : 308 ≤ k ∧ k < 1808) : linS r N f rt k = -6 := by
  unfold linS
  by_cases q : 908 ≤ k ∧ k < 1608
  · exact gnS_t q
  · rw [gnS_at q]
    unfold frS
    rw [if_pos (by omega)]
theorem linWF {r : Nat → Int32} {C L P s ln nn N : Nat} {f rt : Int32} (h : WF r C L P s ln nn) (hN : N ≤ 100) (hf : ∀ k, k < N → Sm (lfS f rt k) 2000) : WF (linS r N f rt) C N P 0 0 nn := by
  obtain ⟨hc, hl, hp, hst, ha, h1, h2, h7, h8, h9⟩ := h
  have h6 := hc.1.2
  obtain ⟨e0, e1, e2, e3, e7⟩ := @linS_lo r N f rt
  have y : ∀ c w, c < 6 → w < 25 → linS r N f rt (34 + 29 * c + w) = r (34 + 29 * c + w) := fun c w a b => linS_at hN (by omega) (by omega) (by omega) (by omega)
  refine ⟨⟨by rw [linS_at hN (by omega) (by omega) (by omega) (by omega)]; exact hc.1, fun c hcc => chOK_cong (fun w hw => y c w (by omega) hw) (by rw [linS_z (by omega) (by omega) (by omega)]; decide) (hc.2.1 c hcc), fun c g1 g2 => ?_⟩, ⟨⟨e0, hN⟩, fun k hk => by rw [linS_f hk hN]; exact hf k hk⟩, WFp_cong (linS_at hN (by omega) (by omega) (by omega) (by omega)) (fun k hk => linS_at hN (by omega) (by omega) (by omega) (by omega)) hp, WFs_cong ⟨linS_at hN (by omega) (by omega) (by omega) (by omega), linS_at hN (by omega) (by omega) (by omega) (by omega), linS_at hN (by omega) (by omega) (by omega) (by omega), linS_at hN (by omega) (by omega) (by omega) (by omega), linS_at hN (by omega) (by omega) (by omega) (by omega), linS_at hN (by omega) (by omega) (by omega) (by omega)⟩ hst, ⟨fun c k a b => Or.inl (linS_6 (by omega)), fun k hk => Or.inl (linS_6 (by omega))⟩, ⟨e1, by omega⟩, ⟨e2, by omega⟩, Or.inr e7, fun h => by omega, fun _ => e3⟩
  obtain ⟨⟨n1, n2, n3, n4, n5, n6, n7, n8⟩, n9⟩ := hc.2.2 c g1 g2
  exact ⟨⟨by rw [y c 5 g2 (by omega)]; exact n1, by rw [y c 8 g2 (by omega)]; exact n2, by rw [y c 11 g2 (by omega)]; exact n3, by rw [y c 12 g2 (by omega)]; exact n4, linS_z g2 (by omega) (by omega), linS_z g2 (by omega) (by omega), linS_z g2 (by omega) (by omega), linS_z g2 (by omega) (by omega)⟩, fun k hk => ⟨linS_6 (by omega), linS_6 (by omega)⟩⟩
/-- what the class does once the count is known -/
theorem layC {M : MM} {b C L P s ln nn N : Nat} {r : Nat → Int32} {f rt : Int32} (hR : Rep M b r) (hw : WF r C L P s ln nn) (hs : restB s = true) (hN : N ≤ 100) : ∃ M', (Option.bind (f_X2_lay (b + 1) f rt (nI N) M) fun v11 => Option.bind (f_X4_forgetRun b v11) fun v12 => Option.bind (f_X4_forgetGains b v12) fun v13 => some (nI N, (ms (ms v13 b 8 0) b 9 0))) = some (nI N, M') ∧ Rep M' b (linS r N f rt) ∧ Fr b M M' := by
  have R0 := Rep.put (o := 1) (i := 1) (k := 0) (v := nI N) hR rfl (by omega) (by omega) (by omega) (n0' _ (by omega) (by omega) (by omega))
  have F0 : Fr b M (ms M (b + 1) 1 (nI N)) := Fr.put (o := 1) Fr.rf (by omega)
  obtain ⟨M1, e1, R1, F1⟩ := layC_loop (f := f) (rt := rt) hN (upd_eq r 0 (nI N)) N 0 FU _ (by omega) (by unfold FU; omega) (by rw [layS_0]; exact R0)
  have hc1 : WFc (layS (upd r 0 (nI N)) f rt N) C := WFc_cong (fun k hk => by rw [layS_at (by omega), upd_ne (by omega)]) hw.1
  obtain ⟨M2, e2, R2, F2⟩ := forgetC R1 hc1
  have hc2 : WFc (frS (layS (upd r 0 (nI N)) f rt N)) C := by
    have h6 := hc1.1.2
    have y : ∀ c w, c < 6 → w < 25 → frS (layS (upd r 0 (nI N)) f rt N) (34 + 29 * c + w) = layS (upd r 0 (nI N)) f rt N (34 + 29 * c + w) := fun c w a b => frS_at (by omega) (by omega) (by omega)
    have z : ∀ c w, c < 6 → 25 ≤ w → w < 29 → frS (layS (upd r 0 (nI N)) f rt N) (34 + 29 * c + w) = 0 := fun c w a b d => by
      unfold frS
      rw [if_neg (by omega), if_pos (by omega)]
    refine ⟨by rw [frS_at (by omega) (by omega) (by omega)]; exact hc1.1, fun c hcc => chOK_cong (fun w hw => y c w (by omega) hw) (by rw [z c 26 (by omega) (by omega) (by omega)]; decide) (hc1.2.1 c hcc), fun c g1 g2 => ?_⟩
    obtain ⟨⟨n1, n2, n3, n4, n5, n6, n7, n8⟩, n9⟩ := hc1.2.2 c g1 g2
    refine ⟨⟨by rw [y c 5 g2 (by omega)]; exact n1, by rw [y c 8 g2 (by omega)]; exact n2, by rw [y c 11 g2 (by omega)]; exact n3, by rw [y c 12 g2 (by omega)]; exact n4, z c 25 g2 (by omega) (by omega), z c 26 g2 (by omega) (by omega), z c 27 g2 (by omega) (by omega), z c 28 g2 (by omega) (by omega)⟩, fun k hk => ⟨?_, by rw [frS_at (by omega) (by omega) (by omega)]; exact (n9 k hk).2⟩⟩
    unfold frS
    rw [if_pos (by omega)]
  obtain ⟨M3, e3, R3, F3⟩ := gainsC R2 hc2
  have R5 := Rep.put (o := 0) (i := 9) (v := 0) (Rep.put (o := 0) (i := 8) (v := 0) R3 (k := 1) rfl (by omega) (by omega) (by omega) (n0' _ (by omega) (by omega) (by omega))) (k := 2) rfl (by omega) (by omega) (by omega) (n0' _ (by omega) (by omega) (by omega))
  have h3 : r 3 = 0 := hw.2.2.2.2.2.2.2.2.2 (by unfold restB at hs; have := of_decide_eq_true hs; have := hw.2.2.2.2.2.1.2; omega)
  refine ⟨ms (ms M3 b 8 0) b 9 0, ?_, R5.row (fun k hk => ?_), ((F0.tr F1).tr (F2.tr F3)).tr (Fr.put (o := 0) (Fr.put (o := 0) Fr.rf (by omega)) (by omega))⟩
  · unfold f_X2_lay
    rw [if_neg (by rw [show (100 : Int32) = nI 100 from rfl, lt_nI (by omega) (by omega)]; omega)]
    rw [show f_X2_lay_16 (b + 1) FU rt f 0 (ms M (b + 1) 1 (nI N)) = some M1 from e1, Option.bind_some, e2, Option.bind_some, e3, Option.bind_some]
  · obtain ⟨l0, l1, l2, l3, l7⟩ := @linS_lo r N f rt
    by_cases z2 : k = 2
    · subst z2
      rw [upd_eq]; exact l2
    · rw [upd_ne z2]
      by_cases z1 : k = 1
      · subst z1
        rw [upd_eq]; exact l1
      · rw [upd_ne z1]
        unfold linS
        by_cases z : 908 ≤ k ∧ k < 1608
        · rw [gnS_t z, gnS_t z]
        · rw [gnS_at z, gnS_at z]
          have hin : ∀ k, k ≠ 1 → k ≠ 2 → (upd (upd (upd (upd (layS r f rt N) 0 (nI N)) 1 0) 2 0) 3 0) k = layS (upd r 0 (nI N)) f rt N k := fun k q1 q2 => by
            by_cases q3 : k = 3
            · subst q3
              rw [upd_eq, layS_at (by omega), upd_ne (by omega)]; exact h3.symm
            · rw [upd_ne q3, upd_ne q2, upd_ne q1]
              by_cases q0 : k = 0
              · subst q0
                rw [upd_eq, layS_at (by omega), upd_eq]
              · rw [upd_ne q0]
                unfold layS
                by_cases q4 : 208 ≤ k ∧ k < 208 + N
                · rw [if_pos q4, if_pos q4]
                · rw [if_neg q4, if_neg q4, upd_ne q0]
          unfold frS
          rw [hin k z1 z2]
