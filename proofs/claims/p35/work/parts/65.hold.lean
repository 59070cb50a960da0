/-! PURE, the class alone: by program out of the same part of whole -/
/-! PURE: hold, abort and set on both sides -/
theorem WF.st {r : Nat → Int32} {C L P s ln nn s' : Nat} (h : WF r C L P s ln nn) (hs : s = 1 ∨ s = 2) (hs' : s' = 1 ∨ s' = 2) : WF (upd r 1 (nI s')) C L P s' ln nn := by
  obtain ⟨hc, hl, hp, hst, ha, h1, h2, h7, h8, h9⟩ := h
  obtain ⟨p1, p2, p3, p4, p5⟩ := freeEq.parts (freeEq.put (r := r) (i := 1) (v := nI s') (by omega)) ⟨hc, hl, hp, hst, ha⟩
  have e : ∀ k, k ≠ 1 → upd r 1 (nI s') k = r k := fun k hk => upd_ne hk
  obtain ⟨a1, a2, a3, a4, a5⟩ := h8 hs
  have hct : cnF (ctR (upd r 1 (nI s'))) C = cnF (ctR r) C := cnF_cong (fun c hc => by unfold ctR; rw [e _ (by omega)])
  exact ⟨p1, p2, p3, p4, p5, ⟨upd_eq _ _ _, by omega⟩, by rw [e 2 (by omega)]; exact h2, by rw [e 7 (by omega)]; exact h7, fun _ => ⟨a1, a2, by rw [hct]; exact a3, by rw [e 3 (by omega)]; exact a4, by rw [e 9 (by omega)]; exact a5⟩, fun h => by omega⟩
theorem holdC {M : MM} {b s q q' : Nat} {r : Nat → Int32} {bb : Bool} (hR : Rep M b r) (h1 : r 1 = nI s ∧ s ≤ 5) (hq : (bb = true ∧ q = 1 ∧ q' = 2) ∨ (bb = false ∧ q = 2 ∧ q' = 1)) : (s ≠ q → f_X4_holdOrGoOn b bb M = some (-3, M)) ∧ (s = q → ∃ M', f_X4_holdOrGoOn b bb M = some (r 2, M') ∧ Rep M' b (upd r 1 (nI q')) ∧ Fr b M M') := by
  have m8 : M b 8 = nI s := hR.s.2.2.1.trans h1.1
  have R1 : Rep (ms M b 8 (nI q')) b (upd r 1 (nI q')) := Rep.put (o := 0) hR (k := 1) rfl (by omega) (by omega) (by omega) (n0' _ (by omega) (by omega) (by omega))
  have m9 : ms M b 8 (nI q') b 9 = r 2 := by rw [ms_ni (by omega)]; exact hR.s.2.2.2.1
  unfold f_X4_holdOrGoOn f_X4_holdOrGoOn_13 f_X4_holdOrGoOn_29
  rw [m8]
  rcases hq with ⟨rfl, rfl, rfl⟩ | ⟨rfl, rfl, rfl⟩
  · rw [if_neg bz_t0, if_neg bz_t0]
    constructor
    · intro hn
      rw [if_neg (by rw [show (1 : Int32) = nI 1 from rfl, eq_nI (by omega) (by omega)]; exact hn)]
    · intro he
      subst he
      rw [if_pos (show nI 1 = 1 from rfl)]
      exact ⟨ms M b 8 (nI 2), by rw [show (2 : Int32) = nI 2 from rfl, m9], R1, Fr.put (o := 0) Fr.rf (by omega)⟩
  · rw [if_pos bz_f0, if_pos bz_f0]
    constructor
    · intro hn
      rw [if_neg (by rw [show (2 : Int32) = nI 2 from rfl, eq_nI (by omega) (by omega)]; exact hn)]
    · intro he
      subst he
      rw [if_pos (show nI 2 = 2 from rfl)]
      exact ⟨ms M b 8 (nI 1), by rw [show (1 : Int32) = nI 1 from rfl, m9], R1, Fr.put (o := 0) Fr.rf (by omega)⟩
theorem hold_q (bb : Bool) : ∃ q q', ((bb = true ∧ q = 1 ∧ q' = 2) ∨ (bb = false ∧ q = 2 ∧ q' = 1)) ∧ (q = 1 ∨ q = 2) ∧ (q' = 1 ∨ q' = 2) := by
  cases bb
  · exact ⟨2, 1, Or.inr ⟨rfl, rfl, rfl⟩, Or.inr rfl, Or.inl rfl⟩
  · exact ⟨1, 2, Or.inl ⟨rfl, rfl, rfl⟩, Or.inl rfl, Or.inr rfl⟩
def abS (r : Nat → Int32) : Nat → Int32 := upd (upd (upd r 1 3) 9 (-6)) 10 (r 2)
theorem abS_WF {r : Nat → Int32} {C L P s ln nn : Nat} (h : WF r C L P s ln nn) : WF (abS r) C L P 3 ln nn := by
  obtain ⟨hc, hl, hp, hst, ha, h1, h2, h7, h8, h9⟩ := h
  obtain ⟨p1, p2, p3, p4, p5⟩ := freeEq.parts (((freeEq.put (r := r) (i := 1) (v := 3) (by omega)).tr (freeEq.put (i := 9) (v := -6) (by omega))).tr (freeEq.put (i := 10) (v := r 2) (by omega))) ⟨hc, hl, hp, hst, ha⟩
  have e : ∀ k, k ≠ 1 → k ≠ 9 → k ≠ 10 → abS r k = r k := fun k a b c => by unfold abS; rw [upd_ne c, upd_ne b, upd_ne a]
  exact ⟨p1, p2, p3, p4, p5, ⟨by unfold abS; rw [upd_ne (by omega), upd_ne (by omega), upd_eq]; rfl, by omega⟩, by rw [e 2 (by omega) (by omega) (by omega)]; exact h2, by rw [e 7 (by omega) (by omega) (by omega)]; exact h7, fun h => by omega, fun h => by omega⟩
theorem abortC {M : MM} {b s : Nat} {r : Nat → Int32} (hR : Rep M b r) (h1 : r 1 = nI s ∧ s ≤ 5) : (measB s = false → f_X4_abortByHand b M = some (-3, M)) ∧ (measB s = true → ∃ M', f_X4_abortByHand b M = some (r 2, M') ∧ Rep M' b (abS r) ∧ Fr b M M') := by
  unfold f_X4_abortByHand f_X4_beginAbort
  rw [measuresC hR h1, Option.bind_some]
  constructor
  · intro h; rw [h, if_pos bz_f0]
  · intro h
    rw [h, if_neg bz_t0, Option.bind_some, ms_ni (show 9 ≠ 14 by omega), ms_ni (show 9 ≠ 8 by omega), show M b 9 = r 2 from hR.s.2.2.2.1]
    refine ⟨ms (ms (ms M b 8 3) b 14 (-6)) b 15 (r 2), ?_, ?_, Fr.put (o := 0) (Fr.put (o := 0) (Fr.put (o := 0) Fr.rf (by omega)) (by omega)) (by omega)⟩
    · rw [ms_ni (by omega), ms_ni (by omega), ms_ni (by omega), show M b 9 = r 2 from hR.s.2.2.2.1]
    · exact Rep.put (o := 0) (Rep.put (o := 0) (Rep.put (o := 0) hR (k := 1) rfl (by omega) (by omega) (by omega) (n0' _ (by omega) (by omega) (by omega))) (k := 9) rfl (by omega) (by omega) (by omega) (n0' _ (by omega) (by omega) (by omega))) (k := 10) rfl (by omega) (by omega) (by omega) (n0' _ (by omega) (by omega) (by omega))
