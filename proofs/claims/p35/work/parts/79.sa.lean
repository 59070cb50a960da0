/-! PURE, the class alone: by program out of the same part of whole -/
/-! PURE: how many lines there are, both sides -/
def stq (x r : Int32) : Int32 := if 1 < x * r / 1000 then x * r / 1000 else 1
def lfS (f r : Int32) : Nat → Int32
  | 0 => f
  | k + 1 => lfS f r k + stq (lfS f r k) r
theorem aboveC {x r : Int32} {M : MM} : f_X2_above x r M = some (x + stq x r) := by
  unfold f_X2_above stq
  rfl
def cntS (N : Nat) : Nat := if N ≤ 100 then N else 101
theorem countC_loop {f r to : Int32} {N : Nat} {M : MM} (h1 : ∀ k, k < N → ¬ to < lfS f r k) (h2 : to < lfS f r N) : ∀ (d j k : Nat), j + d = cntS N → d < k → f_X2_countOf_5 M k to r (nI j) (lfS f r j) = some (nI (cntS N)) := by
  intro d
  have hc : cntS N ≤ 101 := by unfold cntS; split <;> omega
  induction d with
  | zero =>
    intro j k hj hk
    obtain ⟨k, rfl⟩ : ∃ k', k = k' + 1 := ⟨k - 1, by omega⟩
    have hj' : j = cntS N := by omega
    rw [f_X2_countOf_5, ← hj']
    unfold f_X2_countOf_31
    by_cases q : N ≤ 100
    · have e : j = N := by rw [hj']; unfold cntS; rw [if_pos q]
      subst e
      rw [if_neg (by rw [show (100 : Int32) = nI 100 from rfl, lt_nI (by omega) (by omega)]; omega), if_pos h2]
    · have e : j = 101 := by rw [hj']; unfold cntS; rw [if_neg q]
      subst e
      rw [if_pos (by decide)]
  | succ d ih =>
    intro j k hj hk
    obtain ⟨k, rfl⟩ : ∃ k', k = k' + 1 := ⟨k - 1, by omega⟩
    have hjN : j < N ∧ j ≤ 100 := by
      unfold cntS at hj
      by_cases q : N ≤ 100
      · rw [if_pos q] at hj; omega
      · rw [if_neg q] at hj; omega
    rw [f_X2_countOf_5, if_neg (by rw [show (100 : Int32) = nI 100 from rfl, lt_nI (by omega) (by omega)]; omega), if_neg (h1 j hjN.1), aboveC, Option.bind_some, nI_1]
    exact ih (j + 1) k (by omega) (by omega)
theorem stq_bd {x r : Int32} (hx : 1 ≤ x.toInt ∧ x.toInt ≤ 2000) (hr : 10 ≤ r.toInt ∧ r.toInt ≤ 1000) : 1 ≤ (stq x r).toInt ∧ (stq x r).toInt ≤ 2000 := by
  have hp : 0 ≤ x.toInt * r.toInt := Int.mul_nonneg (by omega) (by omega)
  have hp2 : x.toInt * r.toInt ≤ 2000 * 1000 := Int.mul_le_mul hx.2 hr.2 (by omega) (by omega)
  have e1 : (x * r).toInt = x.toInt * r.toInt := mul32 (by omega) (by omega)
  have k1 : (1000 : Int32).toInt = 1000 := rfl
  have k2 : (1 : Int32).toInt = 1 := rfl
  have e2 : (x * r / 1000).toInt = x.toInt * r.toInt / 1000 := by
    rw [div32 (by rw [e1]; exact hp) (by rw [k1]; omega), e1, k1]
  unfold stq
  by_cases h : 1 < x * r / 1000
  · rw [if_pos h]
    rw [i_lt, e2, k2] at h
    rw [e2]
    omega
  · rw [if_neg h, k2]
    omega
theorem lfS_N {f r to : Int32} (hf : 5 ≤ f.toInt ∧ f.toInt ≤ 1000) (hr : 10 ≤ r.toInt ∧ r.toInt ≤ 1000) (ht : to.toInt ≤ 2000) : ∃ N, N ≤ 2000 ∧ (∀ k, k < N → ¬ to < lfS f r k ∧ Sm (lfS f r k) 2000) ∧ to < lfS f r N := by
  have key : ∀ m, (∃ N, N ≤ m ∧ (∀ k, k < N → ¬ to < lfS f r k ∧ 5 + (k : Int) ≤ (lfS f r k).toInt) ∧ to < lfS f r N) ∨ ((∀ k, k ≤ m → ¬ to < lfS f r k) ∧ ∀ k, k ≤ m → 5 + (k : Int) ≤ (lfS f r k).toInt) := by
    intro m
    induction m with
    | zero =>
      by_cases q : to < lfS f r 0
      · exact Or.inl ⟨0, by omega, fun k hk => by omega, q⟩
      · refine Or.inr ⟨fun k hk => ?_, fun k hk => ?_⟩
        · have : k = 0 := by omega
          subst this
          exact q
        · have : k = 0 := by omega
          subst this
          rw [lfS]
          have := hf.1
          omega
    | succ m ih =>
      rcases ih with ⟨N, a, b, c⟩ | ⟨h1, h2⟩
      · exact Or.inl ⟨N, by omega, b, c⟩
      · have g1 := h1 m (by omega)
        have g2 := h2 m (by omega)
        rw [i_lt] at g1
        have h4 := stq_bd (x := lfS f r m) (r := r) ⟨by omega, by omega⟩ hr
        have h5 : (lfS f r (m + 1)).toInt = (lfS f r m).toInt + (stq (lfS f r m) r).toInt := by
          rw [lfS]
          exact add32 (by omega) (by omega)
        by_cases q : to < lfS f r (m + 1)
        · exact Or.inl ⟨m + 1, by omega, fun k hk => ⟨h1 k (by omega), h2 k (by omega)⟩, q⟩
        · refine Or.inr ⟨fun k hk => ?_, fun k hk => ?_⟩
          · by_cases z : k = m + 1
            · subst z
              exact q
            · exact h1 k (by omega)
          · by_cases z : k = m + 1
            · subst z
              omega
            · exact h2 k (by omega)
  rcases key 2000 with ⟨N, a, b, c⟩ | ⟨h1, h2⟩
  · refine ⟨N, a, fun k hk => ?_, c⟩
    obtain ⟨g1, g2⟩ := b k hk
    refine ⟨g1, ?_⟩
    rw [i_lt] at g1
    unfold Sm
    omega
  · exfalso
    have g1 := h1 2000 (by omega)
    have g2 := h2 2000 (by omega)
    rw [i_lt] at g1
    omega
