/-! PURE, the class alone: by program out of the same part of whole -/
/-! PURE: resonance on both sides -/
def gL (g : Nat → Int32) (L : Nat) (x : Int32) : Int32 := if wi x 0 (nI L - 1) = true then g (ix x) else -6
def resS (g : Nat → Int32) (L k : Nat) : Bool := if g k = -6 then false else if g k ≤ gL g L (nI k - 1) then false else if g k ≤ gL g L (nI k + 1) then false else true
def ahB (g : Nat → Int32) (k j : Nat) : Bool := if g k < g j then true else if g j = g k then (if k ≤ j then false else true) else false
def ahN (g : Nat → Int32) (L k : Nat) : Nat → Nat
  | 0 => 0
  | j + 1 => ahN g L k j + (if (ahB g k j && resS g L j) = true then 1 else 0)
theorem ahN_le {g : Nat → Int32} {L k : Nat} : ∀ j, ahN g L k j ≤ j
  | 0 => Nat.le_refl _
  | j + 1 => by
    have := ahN_le (g := g) (L := L) (k := k) j
    rw [ahN]
    split <;> omega
theorem golC {M : MM} {a L : Nat} {g : Nat → Int32} (hL : L ≤ 100) (hg : ∀ k, k < 100 → M (a + 8) k = g k) (x : Int32) : f_X0_gainOfLine a x (nI L) M = some (gL g L x) := by
  unfold f_X0_gainOfLine f_X0_gainOfLine_22 gL
  rw [isWithin_ok, Option.bind_some]
  cases hx : wi x 0 (nI L - 1) with
  | false => rw [if_pos bz_f0, if_neg (by decide)]
  | true =>
    obtain ⟨j, hj, rfl⟩ := (wi_ix (by omega)).mp hx
    rw [if_neg bz_t0, if_pos rfl, gd_of (inb_nI (by omega) (by omega)), ix_nI (by omega), hg j (by omega)]
theorem isResC {M : MM} {a L k : Nat} {g : Nat → Int32} (hL : L ≤ 100) (hk : k < L) (hg : ∀ k, k < 100 → M (a + 8) k = g k) : f_X0_isResonance a (nI k) (nI L) M = some (resS g L k) := by
  unfold f_X0_isResonance f_X0_isResonance_41 f_X0_isResonance_42 resS
  rw [gd_of (inb_nI (by omega) (by omega)), ix_nI (by omega), hg k (by omega), golC hL hg, Option.bind_some, golC hL hg, Option.bind_some]
  split
  · rfl
  · split
    · rfl
    · split <;> rfl
theorem gL_in {g : Nat → Int32} {L k : Nat} (hL : L ≤ 100) (hk : k < L) : gL g L (nI k) = g k := by
  unfold gL
  rw [if_pos ((wi_ix (by omega)).mpr ⟨k, hk, rfl⟩), ix_nI (by omega)]
theorem ahC {M : MM} {a L k : Nat} {g : Nat → Int32} (hL : L ≤ 100) (hk : k < L) (hg : ∀ k, k < 100 → M (a + 8) k = g k) : ∀ (d j f : Nat), j + d = L → d < f → f_X0_resonancesAhead_5 a M f (nI k) (nI L) (nI (ahN g L k j)) (nI j) = some (nI (ahN g L k L)) := by
  intro d
  induction d with
  | zero =>
    intro j f hj hf
    obtain ⟨f, rfl⟩ : ∃ k', f = k' + 1 := ⟨f - 1, by omega⟩
    have : j = L := by omega
    subst this
    rw [f_X0_resonancesAhead_5, if_pos (Int32.le_refl _)]
  | succ d ih =>
    intro j f hj hf
    obtain ⟨f, rfl⟩ : ∃ k', f = k' + 1 := ⟨f - 1, by omega⟩
    have hle := ahN_le (g := g) (L := L) (k := k) j
    have hn := ih (j + 1) f (by omega) (by omega)
    rw [f_X0_resonancesAhead_5, if_neg (by rw [le_nI (by omega) (by omega)]; omega), gd_of (inb_nI (by omega) (by omega)), gd_of (inb_nI (by omega) (by omega)), gd_of (inb_nI (by omega) (by omega)), gd_of (inb_nI (by omega) (by omega)), ix_nI (by omega), ix_nI (by omega), hg k (by omega), hg j (by omega)]
    have t : ∀ b : Bool, b = ahB g k j → f_X0_resonancesAhead_54 a M (fun u0 u1 u2 u3 => f_X0_resonancesAhead_5 a M f u0 u1 u2 u3) (nI k) (nI L) (nI (ahN g L k j)) (nI j) b = some (nI (ahN g L k L)) := fun b hb => by
      rw [ahN, ← hb] at hn
      unfold f_X0_resonancesAhead_54 f_X0_resonancesAhead_74
      rw [isResC hL (by omega) hg, Option.bind_some, nI_1, nI_1]
      cases b with
      | false =>
        rw [if_pos bz_f0]
        rw [if_neg (by simp)] at hn
        exact hn
      | true =>
        rw [if_neg bz_t0]
        cases hr : resS g L j with
        | false =>
          rw [if_pos bz_f0]
          rw [hr, if_neg (by decide)] at hn
          exact hn
        | true =>
          rw [if_neg bz_t0]
          rw [hr, if_pos (by decide)] at hn
          exact hn
    unfold f_X0_resonancesAhead_49 f_X0_resonancesAhead_53
    by_cases q : g k < g j
    · rw [if_pos q]
      exact t true (by unfold ahB; rw [if_pos q])
    · rw [if_neg q]
      by_cases z : g j = g k
      · rw [if_pos z]
        by_cases y : k ≤ j
        · rw [if_pos ((le_nI (by omega) (by omega)).mpr y)]
          exact t false (by unfold ahB; rw [if_neg q, if_pos z, if_pos y])
        · rw [if_neg (fun e => y ((le_nI (by omega) (by omega)).mp e))]
          exact t true (by unfold ahB; rw [if_neg q, if_pos z, if_neg y])
      · rw [if_neg z]
        exact t false (by unfold ahB; rw [if_neg q, if_neg z])
