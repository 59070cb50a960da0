/-! PURE, the class alone: by program out of the same part of whole -/
/-! PURE: the small methods of both sides, limits and gains -/
theorem bz_f0 : bz false = 0 := rfl
theorem bz_t0 : ¬ bz true = 0 := by decide
theorem lin (a b j : Nat) : nI a + nI b * nI j = nI (a + b * j) := by rw [mul_nI, nI_add]
def wi (x a b : Int32) : Bool := !(decide (x < a)) && !(decide (b < x))
theorem isWithin_ok (x a b : Int32) (M : MM) : f_X6_isWithin x a b M = some (wi x a b) := by
  unfold f_X6_isWithin f_X6_isWithin_14 f_X6_isWithin_15 wi
  by_cases h1 : x < a
  · simp [h1]
  · by_cases h2 : b < x <;> simp [h1, h2]
theorem isFrequency_ok (x : Int32) (M : MM) : f_X6_isFrequency x M = some (wi x 1 2000) := by
  unfold f_X6_isFrequency; rw [isWithin_ok]; rfl
/-- a small number within bounds -/
theorem wi_t {x a b : Int32} (h : wi x a b = true) : a.toInt ≤ x.toInt ∧ x.toInt ≤ b.toInt := by
  simp only [wi, Bool.and_eq_true, Bool.not_eq_true', decide_eq_false_iff_not, Int32.lt_iff_toInt_lt] at h
  omega
theorem wi_of {x a b : Int32} (h1 : a.toInt ≤ x.toInt) (h2 : x.toInt ≤ b.toInt) : wi x a b = true := by
  simp only [wi, Bool.and_eq_true, Bool.not_eq_true', decide_eq_false_iff_not, Int32.lt_iff_toInt_lt]
  omega
theorem nI_ofInt {x : Int32} (h : 0 ≤ x.toInt) : ∃ j : Nat, x = nI j ∧ (j : Int) = x.toInt ∧ j < 2 ^ 31 := by
  have h2 : ¬ x < 0 := by rw [Int32.lt_iff_toInt_lt]; simp; omega
  obtain ⟨j, h3, h4⟩ := nI_of h2
  exact ⟨j, h4, by rw [h4, nI_toInt h3], h3⟩
theorem wi_nI {x : Int32} {a b : Nat} (hb : b ≤ 1000000) (hab : a ≤ 1000000) (h : wi x (nI a) (nI b) = true) : ∃ j : Nat, x = nI j ∧ a ≤ j ∧ j ≤ b := by
  have h1 := wi_t h
  rw [nI_toInt (by omega), nI_toInt (by omega)] at h1
  obtain ⟨j, e, q, -⟩ := nI_ofInt (x := x) (by omega)
  exact ⟨j, e, by omega, by omega⟩
/-- an index of something of which there are N -/
theorem wi_ix {x : Int32} {N : Nat} (hN : N ≤ 1000000) : wi x 0 (nI N - 1) = true ↔ ∃ j : Nat, j < N ∧ x = nI j := by
  have hm : (nI N - 1).toInt = (N : Int) - 1 := by
    rcases Nat.eq_zero_or_pos N with rfl | h
    · decide
    · rw [show (1 : Int32) = nI 1 from rfl, sub_nI h, nI_toInt (by omega)]
      omega
  constructor
  · intro h
    have h1 := wi_t h
    rw [hm] at h1
    have h0 : (0 : Int32).toInt = 0 := by decide
    obtain ⟨j, e, q, -⟩ := nI_ofInt (x := x) (by omega)
    exact ⟨j, by omega, e⟩
  · rintro ⟨j, hj, rfl⟩
    refine wi_of ?_ ?_
    · rw [nI_toInt (by omega)]; have : (0 : Int32).toInt = 0 := by decide
      omega
    · rw [hm, nI_toInt (by omega)]; omega
def limS (fr to li : Nat → Int32) (f : Int32) : Nat → Int32
  | 0 => -6
  | n + 1 => if fr n ≤ f ∧ f ≤ to n ∧ (limS fr to li f n = -6 ∨ li n < limS fr to li f n) then li n else limS fr to li f n
theorem limS_cong {fr to li fr' to' li' : Nat → Int32} {f : Int32} : ∀ (N : Nat), (∀ j, j < N → fr j = fr' j ∧ to j = to' j ∧ li j = li' j) → limS fr to li f N = limS fr' to' li' f N
  | 0, _ => rfl
  | n + 1, h => by
    rw [limS, limS, limS_cong n (fun j hj => h j (by omega)), (h n (by omega)).1, (h n (by omega)).2.1, (h n (by omega)).2.2]
theorem nlt_le {a b : Int32} : ¬ a < b ↔ b ≤ a := Int32.not_lt
theorem nle_lt {a b : Int32} : ¬ a ≤ b ↔ b < a := Int32.not_le
theorem limA_loop {a N : Nat} {M : MM} {f : Int32} (hN : M a 9 = nI N) (h4 : N ≤ 4) : ∀ (d j k : Nat), j + d = N → d < k → f_X0_limitAt_5 a M k f (limS (M (a + 4)) (M (a + 5)) (M (a + 6)) f j) (nI j) = some (limS (M (a + 4)) (M (a + 5)) (M (a + 6)) f N) := by
  intro d
  induction d with
  | zero =>
    intro j k h1 h2
    obtain ⟨k, rfl⟩ : ∃ k', k = k' + 1 := ⟨k - 1, by omega⟩
    unfold f_X0_limitAt_5
    rw [hN, if_pos ((le_nI (by omega) (by omega)).mpr (by omega)), show j = N by omega]
  | succ d ih =>
    intro j k h1 h2
    obtain ⟨k, rfl⟩ : ∃ k', k = k' + 1 := ⟨k - 1, by omega⟩
    unfold f_X0_limitAt_5
    have hg : inb (nI j) 4 = true := inb_nI (by omega) (by omega)
    have hi : (nI j).toNatClampNeg = j := tn_nI (by omega)
    rw [hN, if_neg (by rw [le_nI (by omega) (by omega)]; omega)]
    simp only [f_X0_limitAt_37, f_X0_limitAt_38, f_X0_limitAt_61, f_X0_limitAt_68, gd_of hg, hi, nI_1, ix]
    have ih' := ih (j + 1) k (by omega) (by omega)
    rw [limS] at ih'
    generalize limS (M (a + 4)) (M (a + 5)) (M (a + 6)) f j = x at ih' ⊢
    by_cases q1 : f < M (a + 4) j
    · rw [if_pos q1, if_pos bz_f0]
      rw [if_neg (fun z => absurd z.1 (nle_lt.mpr q1))] at ih'
      exact ih'
    · by_cases q2 : M (a + 5) j < f
      · rw [if_neg q1, if_pos q2, if_pos bz_f0]
        rw [if_neg (fun z => absurd z.2.1 (nle_lt.mpr q2))] at ih'
        exact ih'
      · rw [if_neg q1, if_neg q2, if_neg bz_t0]
        have a1 : M (a + 4) j ≤ f := nlt_le.mp q1
        have a2 : f ≤ M (a + 5) j := nlt_le.mp q2
        by_cases q3 : x = -6
        · rw [if_pos q3]
          rw [if_pos ⟨a1, a2, Or.inl q3⟩] at ih'
          exact ih'
        · rw [if_neg q3]
          by_cases q4 : x ≤ M (a + 6) j
          · rw [if_pos q4]
            rw [if_neg (fun z => z.2.2.elim q3 (fun w => absurd w (nlt_le.mpr q4)))] at ih'
            exact ih'
          · rw [if_neg q4]
            rw [if_pos ⟨a1, a2, Or.inr (nle_lt.mp q4)⟩] at ih'
            exact ih'
theorem limA_ok {a N : Nat} {M : MM} {f : Int32} (hN : M a 9 = nI N) (h4 : N ≤ 4) : f_X0_limitAt a f M = some (limS (M (a + 4)) (M (a + 5)) (M (a + 6)) f N) := by
  unfold f_X0_limitAt
  exact limA_loop hN h4 N 0 FU (by omega) (by unfold FU; omega)
def rFr (r : Nat → Int32) (c : Nat) : Nat → Int32 := fun n => r (34 + 29 * c + (13 + 3 * n))
def rTo (r : Nat → Int32) (c : Nat) : Nat → Int32 := fun n => r (34 + 29 * c + (14 + 3 * n))
def rLi (r : Nat → Int32) (c : Nat) : Nat → Int32 := fun n => r (34 + 29 * c + (15 + 3 * n))
def limR (r : Nat → Int32) (c : Nat) (f : Int32) : Int32 := limS (rFr r c) (rTo r c) (rLi r c) f (Nn r c)
theorem wi_false {x a b : Int32} : wi x a b = false ↔ ¬ (a ≤ x ∧ x ≤ b) := by
  have : wi x a b = true ↔ (a ≤ x ∧ x ≤ b) := by
    simp only [wi, Bool.and_eq_true, Bool.not_eq_true', decide_eq_false_iff_not, nlt_le]
  rw [← this]; simp
theorem limC_ok {b c : Nat} {M : MM} {r : Nat → Int32} {f : Int32} (h : Rep M b r) (hc : c < Cn r) (h6 : c < 6) (hN : ∃ N, r (34 + 29 * c + 12) = nI N ∧ N ≤ 4) : f_X0_limitAt (b + (11 + 9 * c)) f M = some (limR r c f) := by
  obtain ⟨N, hN, h4⟩ := hN
  have e9 := (h.c hc h6).2.2.2.1
  rw [limA_ok (e9.trans hN) h4]
  have hNn : Nn r c = N := by unfold Nn; rw [show 46 + 29 * c = 34 + 29 * c + 12 by omega, hN, ix_nI (by omega)]
  unfold limR
  rw [hNn]
  congr 1
  refine limS_cong N (fun j hj => ?_)
  have q := h.cn hc h6 (i := j) (by omega) (by omega)
  rw [show b + (11 + 9 * c) + 4 = b + (15 + 9 * c) by omega, show b + (11 + 9 * c) + 5 = b + (16 + 9 * c) by omega, show b + (11 + 9 * c) + 6 = b + (17 + 9 * c) by omega]
  exact q
