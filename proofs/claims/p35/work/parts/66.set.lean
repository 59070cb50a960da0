/-! PURE, the class alone: by program out of the same part of whole -/
/-! PURE: set on both sides -/
theorem sB : ∀ j, j < 6 → 0 ≤ (sLE j).toInt := by decide
theorem sB2 : ∀ j, j < 6 → (j = 0 → sLE j = 0 ∧ sGR j = 2) ∧ (j = 1 → sLE j = 1 ∧ sGR j = 8) ∧ (j = 3 → sGR j = 100) := by decide
theorem setWF {r : Nat → Int32} {C L P s ln nn j : Nat} {v : Int32} (h : WF r C L P s ln nn) (hj : j < 6) (hv : wi v (sLE j) (sGR j) = true) : ∃ nn', WF (upd r (12 + j) v) C L P s ln nn' := by
  have hb := wi_t hv
  have h0 := sB j hj
  have h2 := sB2 j hj
  obtain ⟨hc, hl, hp, hst, ha, h1, h2', h7, h8, h9⟩ := h
  have h6 := hc.1.2
  have e : ∀ k, k ≠ 12 + j → upd r (12 + j) v k = r k := fun k hk => upd_ne hk
  have hct : cnF (ctR (upd r (12 + j) v)) C = cnF (ctR r) C := cnF_cong (fun c hc => by unfold ctR; rw [e _ (by omega)])
  have q1 : WFc (upd r (12 + j) v) C := ⟨by rw [e 5 (by omega)]; exact hc.1, fun c hcc => chOK_cong (fun w hw => e _ (by omega)) (by rw [e _ (by omega)]; exact (hc.2.1 c hcc).2.2.2) (hc.2.1 c hcc), fun c g1 g2 => chNew_cong (fun w hw => e _ (by omega)) (fun k hk => ⟨e _ (by omega), e _ (by omega)⟩) (hc.2.2 c g1 g2)⟩
  have q2 : WFl (upd r (12 + j) v) L := WFl_cong (e _ (by omega)) (fun k hk => e _ (by omega)) hl
  have q3 : WFp (upd r (12 + j) v) P := WFp_cong (e _ (by omega)) (fun k hk => e _ (by omega)) hp
  have q4 : WFa (upd r (12 + j) v) C := ⟨fun c k a b => by rw [e _ (by omega)]; exact ha.1 c k a b, fun k hk => by rw [e _ (by omega)]; exact ha.2 k hk⟩
  have q5 : WFh (upd r (12 + j) v) C L P s ln := ⟨by rw [e 1 (by omega)]; exact h1, by rw [e 2 (by omega)]; exact h2', by rw [e 7 (by omega)]; exact h7, by rw [e 3 (by omega), e 9 (by omega), hct]; exact h8, by rw [e 3 (by omega)]; exact h9⟩
  obtain ⟨s1, s2, s3, s4, s5, s6⟩ := hst
  have vv : 0 ≤ v.toInt := by omega
  have g14 : 0 ≤ (upd r (12 + j) v 14).toInt := by
    by_cases z : 14 = 12 + j
    · rw [z, upd_eq]; exact vv
    · rw [e _ z]; exact s4
  have g16 : 0 ≤ (upd r (12 + j) v 16).toInt := by
    by_cases z : 16 = 12 + j
    · rw [z, upd_eq]; exact vv
    · rw [e _ z]; exact s5
  have g17 : 0 ≤ (upd r (12 + j) v 17).toInt := by
    by_cases z : 17 = 12 + j
    · rw [z, upd_eq]; exact vv
    · rw [e _ z]; exact s6
  have g15 : Sm (upd r (12 + j) v 15) 100 := by
    by_cases z : 15 = 12 + j
    · rw [z, upd_eq]
      have := h2.2.2 (by omega)
      rw [this] at hb
      exact ⟨vv, hb.2⟩
    · rw [e _ z]; exact s3
  have g12 : upd r (12 + j) v 12 = 0 ∨ upd r (12 + j) v 12 = 1 ∨ upd r (12 + j) v 12 = 2 := by
    by_cases z : j = 0
    · subst z
      rw [upd_eq]
      obtain ⟨t1, t2⟩ := h2.1 rfl
      rw [t1, t2] at hv
      obtain ⟨y, ey, -, y2⟩ := wi_nI (a := 0) (b := 2) (by omega) (by omega) hv
      subst ey
      rcases (show y = 0 ∨ y = 1 ∨ y = 2 by omega) with rfl | rfl | rfl
      · exact Or.inl rfl
      · exact Or.inr (Or.inl rfl)
      · exact Or.inr (Or.inr rfl)
    · rw [e _ (by omega)]; exact s1
  by_cases z : j = 1
  · subst z
    obtain ⟨t1, t2⟩ := h2.2.1 rfl
    rw [t1, t2] at hv
    obtain ⟨y, ey, y1, y2⟩ := wi_nI (a := 1) (b := 8) (by omega) (by omega) hv
    exact ⟨y, q1, q2, q3, ⟨g12, ⟨by rw [show 13 = 12 + 1 from rfl, upd_eq]; exact ey, y1, y2⟩, g15, g14, g16, g17⟩, q4, q5⟩
  · exact ⟨nn, q1, q2, q3, ⟨g12, by rw [e _ (by omega)]; exact s2, g15, g14, g16, g17⟩, q4, q5⟩
theorem setP {r : Nat → Int32} {C L P s ln nn j : Nat} (h : WF r C L P s ln nn) (hj : j < 6) : ¬ r (12 + j) < 0 := by
  have h0 : 0 ≤ (r (12 + j)).toInt := by
    obtain ⟨s1, s2, s3, s4, s5, s6⟩ := h.2.2.2.1
    rcases (show j = 0 ∨ j = 1 ∨ j = 2 ∨ j = 3 ∨ j = 4 ∨ j = 5 by omega) with rfl | rfl | rfl | rfl | rfl | rfl
    · rcases s1 with e | e | e <;> rw [e] <;> decide
    · show 0 ≤ (r 13).toInt
      rw [s2.1, nI_toInt (by omega)]; omega
    · exact s4
    · exact s3.1
    · exact s5
    · exact s6
  rw [Int32.lt_iff_toInt_lt]
  have : (0 : Int32).toInt = 0 := rfl
  omega
def whyS (x1 x2 : Int32) : Int32 := if wi x1 0 5 = true then (if wi x2 (sLE (ix x1)) (sGR (ix x1)) = true then 0 else -2) else -1
theorem setC {M : MM} {b : Nat} {r : Nat → Int32} {x1 x2 : Int32} (hR : Rep M b r) : (whyS x1 x2 ≠ 0 → f_X4_changeSetting b x1 x2 M = some (whyS x1 x2, M)) ∧ (whyS x1 x2 = 0 → ∃ j, j < 6 ∧ x1 = nI j ∧ wi x2 (sLE j) (sGR j) = true ∧ ∃ M', f_X4_changeSetting b x1 x2 M = some (r (12 + j), M') ∧ Rep M' b (upd r (12 + j) x2) ∧ Fr b M M') := by
  unfold f_X4_changeSetting whyS
  rw [isWithin_ok, Option.bind_some]
  cases hx : wi x1 0 5 with
  | false =>
    rw [if_pos bz_f0, if_neg (by decide)]
    exact ⟨fun _ => rfl, fun h => absurd h (by decide)⟩
  | true =>
    obtain ⟨j, rfl, -, h2⟩ := wi_nI (a := 0) (b := 5) (by omega) (by omega) hx
    rw [if_neg bz_t0, if_pos rfl, gd_of (inb_nI (by omega) (by omega)), gd_of (inb_nI (by omega) (by omega)), gd_of (inb_nI (by omega) (by omega)), gd_of (inb_nI (by omega) (by omega)), isWithin_ok, Option.bind_some, ix_nI (by omega)]
    cases hy : wi x2 (sLE j) (sGR j) with
    | false =>
      rw [if_pos bz_f0, if_neg (by decide)]
      exact ⟨fun _ => rfl, fun h => absurd h (by decide)⟩
    | true =>
      rw [if_neg bz_t0, if_pos rfl]
      refine ⟨fun h => absurd rfl h, fun _ => ⟨j, by omega, rfl, hy, ms M (b + 7) j x2, by rw [hR.g (i := j) (by omega)], ?_, Fr.put Fr.rf (by omega)⟩⟩
      exact Rep.put hR (k := 12 + j) (tr_7 j (by omega)) (by omega) (by omega) (by omega) ⟨by omega, by omega, fun c hc => by omega⟩
theorem whyNeg {x1 x2 : Int32} (h : whyS x1 x2 ≠ 0) : whyS x1 x2 < 0 := by
  unfold whyS at h ⊢
  split
  · split
    · rename_i a b
      rw [if_pos a, if_pos b] at h
      exact absurd rfl h
    · decide
  · decide
