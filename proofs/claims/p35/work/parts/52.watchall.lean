/-! PURE, the class alone: by program out of the same part of whole -/
/-! PURE: the whole watch, both sides -/
def wRow (r : Nat → Int32) (f : Int32) (lv : Nat → Int32) : Nat → Nat → Int32
  | 0 => r
  | c + 1 => wStep (wRow r f lv c) c (lv c) (limR r c f)
def offF (r : Nat → Int32) (f : Int32) (lv : Nat → Int32) : Nat → Int32
  | 0 => -6
  | c + 1 => if offF r f lv c = -6 ∧ ¬ wRow r f lv (c + 1) (34 + 29 * c + 28) < r 14 then nI c else offF r f lv c
theorem wRow_un {r : Nat → Int32} {f : Int32} {lv : Nat → Int32} {k : Nat} : ∀ {c : Nat}, (∀ j, j < c → ¬ (34 + 29 * j + 25 ≤ k ∧ k ≤ 34 + 29 * j + 28)) → wRow r f lv c k = r k
  | 0, _ => rfl
  | c + 1, h => by
    rw [wRow, wStep_un (h c (by omega))]
    exact wRow_un (fun j hj => h j (by omega))
theorem limR_cong {r r' : Nat → Int32} {c : Nat} {f : Int32} (h : ∀ w, 12 ≤ w → w ≤ 24 → r' (34 + 29 * c + w) = r (34 + 29 * c + w)) (hN : ∃ N, r (34 + 29 * c + 12) = nI N ∧ N ≤ 4) : limR r' c f = limR r c f := by
  obtain ⟨N, hN, h4⟩ := hN
  have e : Nn r' c = Nn r c := by
    unfold Nn
    rw [show 46 + 29 * c = 34 + 29 * c + 12 by omega, h 12 (by omega) (by omega)]
  have e2 : Nn r c = N := by
    unfold Nn
    rw [show 46 + 29 * c = 34 + 29 * c + 12 by omega, hN, ix_nI (by omega)]
  unfold limR
  rw [e, e2]
  exact limS_cong N (fun j hj => ⟨h _ (by omega) (by omega), h _ (by omega) (by omega), h _ (by omega) (by omega)⟩)
theorem offF_cases {r : Nat → Int32} {f : Int32} {lv : Nat → Int32} : ∀ {c : Nat}, offF r f lv c = -6 ∨ ∃ j, j < c ∧ offF r f lv c = nI j
  | 0 => Or.inl rfl
  | c + 1 => by
    rw [offF]
    split
    · exact Or.inr ⟨c, by omega, rfl⟩
    · rcases offF_cases (r := r) (f := f) (lv := lv) (c := c) with h | ⟨j, h1, h2⟩
      · exact Or.inl h
      · exact Or.inr ⟨j, by omega, h2⟩
def WatH (r : Nat → Int32) (C : Nat) : Prop := (r 5 = nI C ∧ C ≤ 6) ∧ (∀ c, c < C → ∃ N, r (34 + 29 * c + 12) = nI N ∧ N ≤ 4) ∧ (∀ c, c < C → 0 ≤ (r (34 + 29 * c + 26)).toInt)
theorem watchC_loop {M : MM} {b C : Nat} {r : Nat → Int32} {f : Int32} {lv : Nat → Int32} (H : WatH r C) : ∀ (d' j k : Nat) (M' : MM), j + d' = C → d' < k → Rep M' b (wRow r f lv j) → (∀ c, c < C → M' (b + (11 + 9 * c)) 12 = lv c ∧ M' (b + (11 + 9 * c)) 13 = M (b + (11 + 9 * c)) 13) → Fr b M M' → ∃ M'', f_X4_countLoop_5 b k f (offF r f lv j) (nI j) M' = some (offF r f lv C, M'') ∧ Rep M'' b (wRow r f lv C) ∧ (∀ c, c < C → M'' (b + (11 + 9 * c)) 12 = lv c ∧ M'' (b + (11 + 9 * c)) 13 = M (b + (11 + 9 * c)) 13) ∧ Fr b M M'' := by
  obtain ⟨⟨h5, hC⟩, hN, hp⟩ := H
  have hCn : Cn r = C := by unfold Cn; rw [h5, ix_nI (by omega)]
  intro d'
  induction d' with
  | zero =>
    intro j k M' h1 hk hR hL hF
    obtain ⟨k, rfl⟩ : ∃ k', k = k' + 1 := ⟨k - 1, by omega⟩
    have e : j = C := by omega
    subst e
    have m3 : M' b 3 = nI j := hR.s.2.1.trans ((wRow_un (fun i hi => by omega)).trans h5)
    refine ⟨M', ?_, hR, hL, hF⟩
    rw [f_X4_countLoop_5.eq_2, m3, if_pos (Int32.le_refl _)]
  | succ d' ih =>
    intro j k M' h1 hk hR hL hF
    obtain ⟨k, rfl⟩ : ∃ k', k = k' + 1 := ⟨k - 1, by omega⟩
    have hj : j < C := by omega
    have m3 : M' b 3 = nI C := hR.s.2.1.trans ((wRow_un (fun i hi => by omega)).trans h5)
    have hCq : Cn (wRow r f lv j) = C := by unfold Cn; rw [wRow_un (fun i hi => by omega), h5, ix_nI (by omega)]
    have un : ∀ w, w < 29 → wRow r f lv j (34 + 29 * j + w) = r (34 + 29 * j + w) := fun w hw => wRow_un (fun i hi => by omega)
    have el : limR (wRow r f lv j) j f = limR r j f := limR_cong (fun w _ hw => un w (by omega)) (hN j hj)
    obtain ⟨M1, e1, R1, o1, l12, l13, F1⟩ := watchC_step (f := f) (lv := lv j) hR (by rw [hCq]; exact hj) (by omega) (by rw [un 12 (by omega)]; exact hN j hj) (hL j hj).1 (by rw [un 26 (by omega)]; exact hp j hj)
    rw [el] at R1
    have R1 : Rep M1 b (wRow r f lv (j + 1)) := R1
    obtain ⟨M2, e2, r2⟩ := ih (j + 1) k M1 (by omega) (by omega) R1 (fun c hc => by
      by_cases q : c = j
      · subst q; exact ⟨l12, l13.trans (hL c hc).2⟩
      · rw [o1 _ (by omega)]; exact hL c hc) (hF.tr F1)
    refine ⟨M2, ?_, r2⟩
    have m17 : M1 (b + (11 + 9 * j)) 17 = wRow r f lv (j + 1) (34 + 29 * j + 28) := (R1.c (by
      have : Cn (wRow r f lv (j + 1)) = C := by unfold Cn; rw [wRow_un (fun i hi => by omega), h5, ix_nI (by omega)]
      rw [this]; exact hj) (by omega)).2.2.2.2.2.2.2
    have m2 : M1 (b + 7) 2 = r 14 := (R1.g (i := 2) (by omega)).trans (wRow_un (fun i hi => by omega))
    rw [f_X4_countLoop_5.eq_2, m3, if_neg (by rw [le_nI (by omega) (by omega)]; omega), gd_of (inb_nI (by omega) (by omega)), ix_nI (by omega), show b + 6 + 5 + 9 * j = b + (11 + 9 * j) by omega, e1, Option.bind_some, gd_of (inb_nI (by omega) (by omega)), show (2 : Int32) = nI 2 from rfl, gd_of (inb_nI (by omega) (by omega)), ix_nI (by omega), m17, m2]
    unfold f_X4_countLoop_46 f_X4_countLoop_61
    rw [nI_1, ← e2, offF]
    by_cases u : wRow r f lv (j + 1) (34 + 29 * j + 28) < r 14
    · rw [if_pos u, if_pos bz_f0, if_neg (fun z => z.2 u)]
    · rw [if_neg u, if_neg bz_t0]
      by_cases v : offF r f lv j = -6
      · rw [if_pos v, if_pos ⟨v, u⟩]
      · rw [if_neg v, if_neg (fun z => v z.1)]
theorem watchC_ok {M : MM} {b C : Nat} {r : Nat → Int32} {f : Int32} {lv : Nat → Int32} (H : WatH r C) (hR : Rep M b r) (hL : ∀ c, c < C → M (b + (11 + 9 * c)) 12 = lv c) : ∃ M', f_X4_countLoop b f M = some (offF r f lv C, M') ∧ Rep M' b (wRow r f lv C) ∧ (∀ c, c < C → M' (b + (11 + 9 * c)) 12 = lv c ∧ M' (b + (11 + 9 * c)) 13 = M (b + (11 + 9 * c)) 13) ∧ Fr b M M' := by
  unfold f_X4_countLoop
  exact watchC_loop H C 0 FU M (by omega) (by have := H.1.2; unfold FU; omega) hR (fun c hc => ⟨hL c hc, rfl⟩) Fr.rf
