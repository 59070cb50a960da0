/-! PURE, the class alone: by program out of the same part of whole -/
/-! PURE: the control level, both sides -/
theorem mxF_0 {ct : Nat → Bool} {lv : Nat → Int32} : ∀ {c : Nat}, cnF ct c = 0 → mxF ct lv c = 0
  | 0, _ => rfl
  | c + 1, h => by
    rw [cnF] at h
    have h1 : ¬ ct c = true := fun q => by rw [if_pos q] at h; omega
    rw [mxF, if_neg (fun q => h1 q.1)]
    exact mxF_0 (by omega)
theorem z0 : (0 : Int32).toInt = 0 := by decide
theorem ctlC_loop {M : MM} {b C : Nat} {ct : Nat → Bool} {lv : Nat → Int32} {st : Int32} (h3 : M b 3 = nI C) (hC : C ≤ 6) (hst : M (b + 7) 0 = st) (hct : ∀ c, c < C → nz (M (b + (11 + 9 * c)) 0) = ct c) (hlv : ∀ c, c < C → M (b + (11 + 9 * c)) 12 = lv c) (hb : ∀ c, c < C → 0 ≤ (lv c).toInt ∧ (lv c).toInt ≤ 15500000) (hcn : 0 < cnF ct C) (hs : st = 0 ∨ st = 1 ∨ st = 2) : ∀ (d j k : Nat) (x2 x4 : Int32), j + d = C → d < k → x2.toInt = smF ct lv j → (cnF ct j = 0 ∨ 0 < cnF ct j ∧ x4 = mnF ct lv j) → f_X4_controlLevel_12 b M k (nI (cnF ct j)) x2 (mxF ct lv j) x4 (nI j) = some (clS st ct lv C) := by
  intro d
  induction d with
  | zero =>
    intro j k x2 x4 h1 h2 hx2 hx4
    obtain ⟨k, rfl⟩ : ∃ k', k = k' + 1 := ⟨k - 1, by omega⟩
    have e : j = C := by omega
    subst e
    have hcl := cnF_le ct j
    have hsm := smF_bd (ct := ct) (lv := lv) (B := 15500000) (by omega) (c := j) hb
    rw [f_X4_controlLevel_12.eq_2, h3, if_pos (Int32.le_refl _), show (0 : Int32) = nI 0 from rfl, gd_of (inb_nI (by omega) (by omega)), ix_nI (by omega), hst]
    unfold f_X4_controlLevel_121 clS
    rcases hs with rfl | rfl | rfl
    · rw [if_neg (by decide), gd_of (inb_nI (by omega) (by omega)), if_neg (by decide), if_neg (by rw [le_nI (by omega) (by omega)]; omega), gd_of (nz_of (nI_ne0 hcn (by omega))), if_pos rfl]
      congr 1
      have e1 : (nI (cnF ct j)).toInt = (cnF ct j : Int) := nI_toInt (by omega)
      rw [i_eq, div32 (by omega) (by omega), hx2, e1, Int32.toInt_ofInt_of_le]
      · have := Int.ediv_nonneg hsm.1 (show (0 : Int) ≤ cnF ct j by omega); omega
      · have : smF ct lv j / (cnF ct j : Int) ≤ 15500000 := Int.ediv_le_of_le_mul (by omega) (by rw [Int.mul_comm]; exact hsm.2)
        omega
    · rw [if_pos rfl, if_neg (by decide), if_pos rfl]
    · rw [if_neg (by decide), gd_of (inb_nI (by omega) (by omega)), if_pos rfl, if_neg (by decide), if_neg (by decide)]
      rcases hx4 with q | ⟨-, q⟩
      · omega
      · rw [q]
  | succ d ih =>
    intro j k x2 x4 h1 h2 hx2 hx4
    obtain ⟨k, rfl⟩ : ∃ k', k = k' + 1 := ⟨k - 1, by omega⟩
    have hj : j < C := by omega
    have hbj := hb j hj
    rw [f_X4_controlLevel_12.eq_2, h3, if_neg (by rw [le_nI (by omega) (by omega)]; omega), gd_of (inb_nI (by omega) (by omega)), ix_nI (by omega), show b + 6 + 5 + 9 * j = b + (11 + 9 * j) by omega, hct j hj, hlv j hj]
    unfold f_X4_controlLevel_74 f_X4_controlLevel_79
    have hcl := cnF_le ct j
    have hsm := smF_bd (ct := ct) (lv := lv) (B := 15500000) (by omega) (c := j) (fun i hi => hb i (by omega))
    have ih' := ih (j + 1) k
    rw [cnF, smF, mxF, mnF] at ih'
    by_cases q : ct j = true
    · rw [q, if_neg bz_t0, gd_of (inb_nI (by omega) (by omega)), nI_1, nI_1]
      rw [if_pos q, if_pos q] at ih'
      have e2 : (x2 + lv j).toInt = smF ct lv j + (lv j).toInt := by
        have : smF ct lv j ≤ 6 * 15500000 := Int.le_trans hsm.2 (by omega)
        rw [add32] <;> omega
      have e3 : (if mxF ct lv j < lv j then lv j else mxF ct lv j) = (if ct j = true ∧ (cnF ct j = 0 ∨ mxF ct lv j < lv j) then lv j else mxF ct lv j) := by
        by_cases w : mxF ct lv j < lv j
        · rw [if_pos w, if_pos ⟨q, Or.inr w⟩]
        · rw [if_neg w]
          by_cases w2 : cnF ct j = 0
          · rw [if_pos ⟨q, Or.inl w2⟩]
            rw [mxF_0 w2] at w ⊢
            rw [i_lt, z0] at w
            rw [i_eq, z0]; omega
          · rw [if_neg (fun z => z.2.elim w2 w)]
      rw [e3]
      rcases hx4 with w | ⟨w, rfl⟩
      · rw [if_pos (show nI (cnF ct j) = 0 by rw [w]; rfl)]
        exact ih' _ _ (by omega) (by omega) e2 (Or.inr ⟨by omega, by rw [if_pos ⟨q, Or.inl w⟩]⟩)
      · rw [if_neg (nI_ne0 (by omega) (by omega))]
        refine ih' _ _ (by omega) (by omega) e2 (Or.inr ⟨by omega, ?_⟩)
        by_cases w2 : lv j < mnF ct lv j
        · rw [if_pos w2, if_pos ⟨q, Or.inr w2⟩]
        · rw [if_neg w2, if_neg (fun z => z.2.elim (by omega) w2)]
    · have q2 : ct j = false := by simpa using q
      rw [q2, if_pos bz_f0, nI_1]
      rw [if_neg q, if_neg q, if_neg (fun z => q z.1), if_neg (fun z => q z.1), Nat.add_zero, Int.add_zero] at ih'
      exact ih' _ _ (by omega) (by omega) hx2 hx4
theorem ctlC_ok {M : MM} {b C : Nat} {ct : Nat → Bool} {lv : Nat → Int32} {st : Int32} (h3 : M b 3 = nI C) (hC : C ≤ 6) (hst : M (b + 7) 0 = st) (hct : ∀ c, c < C → nz (M (b + (11 + 9 * c)) 0) = ct c) (hlv : ∀ c, c < C → M (b + (11 + 9 * c)) 12 = lv c) (hb : ∀ c, c < C → 0 ≤ (lv c).toInt ∧ (lv c).toInt ≤ 15500000) (hcn : 0 < cnF ct C) (hs : st = 0 ∨ st = 1 ∨ st = 2) : f_X4_controlLevel b M = some (clS st ct lv C) := by
  unfold f_X4_controlLevel
  exact ctlC_loop h3 hC hst hct hlv hb hcn hs C 0 FU 0 0 (by omega) (by unfold FU; omega) z0 (Or.inl rfl)
