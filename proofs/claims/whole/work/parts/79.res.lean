/-! PURE: resonance on both sides -/
def gL (g : Nat → Int32) (L : Nat) (x : Int32) : Int32 := if wi x 0 (nI L - 1) = true then g (ix x) else -6
def resS (g : Nat → Int32) (L k : Nat) : Bool := if g k = -6 then false else if g k ≤ gL g L (nI k - 1) then false else if g k ≤ gL g L (nI k + 1) then false else true
def ahB (g : Nat → Int32) (k j : Nat) : Bool := if g k < g j then true else if g j = g k then (if k ≤ j then false else true) else false
def ahN (g : Nat → Int32) (L k : Nat) : Nat → Nat
  | 0 => 0
  | j + 1 => ahN g L k j + (if (ahB g k j && resS g L j) = true then 1 else 0)
theorem ahN_le {g : Nat → Int32} {L k : Nat} : ∀ j, ahN g L k j ≤ j
  | 0 => Nat.le_refl _
  | j + 1 => by
    have := ahN_le (g := g) (L := L) (k := k) j
    rw [ahN]
    split <;> omega
theorem golC {M : MM} {a L : Nat} {g : Nat → Int32} (hL : L ≤ 100) (hg : ∀ k, k < 100 → M (a + 8) k = g k) (x : Int32) : f_X0_gainOfLine a x (nI L) M = some (gL g L x) := by
  unfold f_X0_gainOfLine f_X0_gainOfLine_22 gL
  rw [isWithin_ok, Option.bind_some]
  cases hx : wi x 0 (nI L - 1) with
  | false => rw [if_pos bz_f0, if_neg (by decide)]
  | true =>
    obtain ⟨j, hj, rfl⟩ := (wi_ix (by omega)).mp hx
    rw [if_neg bz_t0, if_pos rfl, gd_of (inb_nI (by omega) (by omega)), ix_nI (by omega), hg j (by omega)]
theorem isResC {M : MM} {a L k : Nat} {g : Nat → Int32} (hL : L ≤ 100) (hk : k < L) (hg : ∀ k, k < 100 → M (a + 8) k = g k) : f_X0_isResonance a (nI k) (nI L) M = some (resS g L k) := by
  unfold f_X0_isResonance f_X0_isResonance_41 f_X0_isResonance_42 resS
  rw [gd_of (inb_nI (by omega) (by omega)), ix_nI (by omega), hg k (by omega), golC hL hg, Option.bind_some, golC hL hg, Option.bind_some]
  split
  · rfl
  · split
    · rfl
    · split <;> rfl
theorem golM {M : MM} {c L : Nat} {g : Nat → Int32} (hc : c < 6) (hL : L ≤ 100) (h0 : M 658 0 = nI L) (hg : ∀ k, k < 100 → M 658 (908 + 6 * k + c) = g k) (x : Int32) : f_X7_gainAt 657 x (nI c) M = some (gL g L x) := by
  unfold f_X7_gainAt f_X7_gainAt_28 gL
  rw [lineM h0, Option.bind_some]
  cases hx : wi x 0 (nI L - 1) with
  | false => rw [if_pos bz_f0, if_neg (by decide)]
  | true =>
    obtain ⟨j, hj, rfl⟩ := (wi_ix (by omega)).mp hx
    rw [if_neg bz_t0, if_pos rfl, show (908 : Int32) = nI 908 from rfl, lin26, gd_of (inb_nI (by omega) (by omega)), ix_nI (by omega), ix_nI (by omega)]
    exact congrArg some (hg j (by omega))
theorem gL_in {g : Nat → Int32} {L k : Nat} (hL : L ≤ 100) (hk : k < L) : gL g L (nI k) = g k := by
  unfold gL
  rw [if_pos ((wi_ix (by omega)).mpr ⟨k, hk, rfl⟩), ix_nI (by omega)]
theorem isResM {M : MM} {c L k : Nat} {g : Nat → Int32} (hc : c < 6) (hL : L ≤ 100) (hk : k < L) (h0 : M 658 0 = nI L) (hg : ∀ k, k < 100 → M 658 (908 + 6 * k + c) = g k) : f_X7_isResonance 657 (nI k) (nI c) M = some (resS g L k) := by
  unfold f_X7_isResonance f_X7_isResonance_41 f_X7_isResonance_42 resS
  rw [golM hc hL h0 hg, Option.bind_some, gL_in hL hk, golM hc hL h0 hg, Option.bind_some, golM hc hL h0 hg, Option.bind_some]
  split
  · rfl
  · split
    · rfl
    · split <;> rfl
theorem ahC {M : MM} {a L k : Nat} {g : Nat → Int32} (hL : L ≤ 100) (hk : k < L) (hg : ∀ k, k < 100 → M (a + 8) k = g k) : ∀ (d j f : Nat), j + d = L → d < f → f_X0_resonancesAhead_5 a M f (nI k) (nI L) (nI (ahN g L k j)) (nI j) = some (nI (ahN g L k L)) := by
  intro d
  induction d with
  | zero =>
    intro j f hj hf
    obtain ⟨f, rfl⟩ : ∃ k', f = k' + 1 := ⟨f - 1, by omega⟩
    have : j = L := by omega
    subst this
    rw [f_X0_resonancesAhead_5, if_pos (Int32.le_refl _)]
  | succ d ih =>
    intro j f hj hf
    obtain ⟨f, rfl⟩ : ∃ k', f = k' + 1 := ⟨f - 1, by omega⟩
    have hle := ahN_le (g := g) (L := L) (k := k) j
    have hn := ih (j + 1) f (by omega) (by omega)
    rw [f_X0_resonancesAhead_5, if_neg (by rw [le_nI (by omega) (by omega)]; omega), gd_of (inb_nI (by omega) (by omega)), gd_of (inb_nI (by omega) (by omega)), gd_of (inb_nI (by omega) (by omega)), gd_of (inb_nI (by omega) (by omega)), ix_nI (by omega), ix_nI (by omega), hg k (by omega), hg j (by omega)]
    have t : ∀ b : Bool, b = ahB g k j → f_X0_resonancesAhead_54 a M (fun u0 u1 u2 u3 => f_X0_resonancesAhead_5 a M f u0 u1 u2 u3) (nI k) (nI L) (nI (ahN g L k j)) (nI j) b = some (nI (ahN g L k L)) := fun b hb => by
      rw [ahN, ← hb] at hn
      unfold f_X0_resonancesAhead_54 f_X0_resonancesAhead_74
      rw [isResC hL (by omega) hg, Option.bind_some, nI_1, nI_1]
      cases b with
      | false =>
        rw [if_pos bz_f0]
        rw [if_neg (by simp)] at hn
        exact hn
      | true =>
        rw [if_neg bz_t0]
        cases hr : resS g L j with
        | false =>
          rw [if_pos bz_f0]
          rw [hr, if_neg (by decide)] at hn
          exact hn
        | true =>
          rw [if_neg bz_t0]
          rw [hr, if_pos (by decide)] at hn
          exact hn
    unfold f_X0_resonancesAhead_49 f_X0_resonancesAhead_53
    by_cases q : g k < g j
    · rw [if_pos q]
      exact t true (by unfold ahB; rw [if_pos q])
    · rw [if_neg q]
      by_cases z : g j = g k
      · rw [if_pos z]
        by_cases y : k ≤ j
        · rw [if_pos ((le_nI (by omega) (by omega)).mpr y)]
          exact t false (by unfold ahB; rw [if_neg q, if_pos z, if_pos y])
        · rw [if_neg (fun e => y ((le_nI (by omega) (by omega)).mp e))]
          exact t true (by unfold ahB; rw [if_neg q, if_pos z, if_neg y])
      · rw [if_neg z]
        exact t false (by unfold ahB; rw [if_neg q, if_neg z])
theorem ahM {M : MM} {c L k : Nat} {g : Nat → Int32} {x2 : Int32} {rec : Int32 → Int32 → Int32 → Option Int32} (hc : c < 6) (hL : L ≤ 100) (hk : k < L) (h0 : M 658 0 = nI L) (hg : ∀ k, k < 100 → M 658 (908 + 6 * k + c) = g k) (hb : ∀ k, k < 100 → okA (g k)) : ∀ (d j f : Nat), j + d = L → d < f → f_X7_resonance_35 657 M rec f (nI c) x2 (nI k) (nI (ahN g L k j)) (nI j) = if resS g L k = true then (if nI (ahN g L k L) = x2 then some (nI k) else rec (nI c) x2 (nI (k + 1))) else rec (nI c) x2 (nI (k + 1)) := by
  have bd : ∀ k, k < 100 → -6 ≤ (g k).toInt ∧ (g k).toInt ≤ 155000 := fun k hk => by
    rcases hb k hk with e | e
    · rw [e]; decide
    · exact ⟨by have := e.1; omega, e.2⟩
  intro d
  induction d with
  | zero =>
    intro j f hj hf
    obtain ⟨f, rfl⟩ : ∃ k', f = k' + 1 := ⟨f - 1, by omega⟩
    have : j = L := by omega
    subst this
    unfold f_X7_resonance_35 f_X7_resonance_121
    rw [gd_of (show inb 0 16272 = true by decide), show ix 0 = 0 from rfl, show M (657 + 1) 0 = nI j from h0, if_pos (Int32.le_refl _), isResM hc hL hk h0 hg, Option.bind_some, nI_1]
    cases resS g j k with
    | false => rw [if_pos bz_f0, if_neg (by decide)]
    | true => rw [if_neg bz_t0, if_pos rfl]
  | succ d ih =>
    intro j f hj hf
    obtain ⟨f, rfl⟩ : ∃ k', f = k' + 1 := ⟨f - 1, by omega⟩
    have hn := ih (j + 1) f (by omega) (by omega)
    have b1 := bd j (by omega)
    have b2 := bd k (by omega)
    have hs : (g j - g k).toInt = (g j).toInt - (g k).toInt := sub32 (by omega) (by omega)
    have l0 : (0 < g j - g k) ↔ g k < g j := by
      rw [Int32.lt_iff_toInt_lt, Int32.lt_iff_toInt_lt, hs, show (0 : Int32).toInt = 0 from rfl]; omega
    have e0 : (g j - g k = 0) ↔ g j = g k := by
      constructor
      · intro h
        have := congrArg Int32.toInt h
        rw [hs, show (0 : Int32).toInt = 0 from rfl] at this
        exact Int32.toInt_inj.mp (by omega)
      · intro h
        rw [h]; exact Int32.toInt_inj.mp (by rw [sub32 (by omega) (by omega)]; show _ = (0 : Int); omega)
    rw [f_X7_resonance_35]
    rw [gd_of (show inb 0 16272 = true by decide), show ix 0 = 0 from rfl, show M (657 + 1) 0 = nI L from h0, if_neg (by rw [le_nI (by omega) (by omega)]; omega), golM hc hL h0 hg, Option.bind_some, golM hc hL h0 hg, Option.bind_some, isResM hc hL (by omega) h0 hg, Option.bind_some, gL_in hL (by omega), gL_in hL hk]
    unfold f_X7_resonance_94 f_X7_resonance_90 f_X7_resonance_95
    rw [ahN] at hn
    have n0 : nI (ahN g L k j) + bz false = nI (ahN g L k j) := by rw [show bz false = nI 0 from rfl, nI_add]; rfl
    have n1 : nI (ahN g L k j) + bz true = nI (ahN g L k j + 1) := by rw [show bz true = nI 1 from rfl, nI_add]
    rw [n0, n1, nI_1]
    cases hr : resS g L j with
    | false =>
      rw [if_pos bz_f0]
      rw [hr, Bool.and_false, if_neg (by decide)] at hn
      exact hn
    | true =>
      rw [if_neg bz_t0]
      rw [hr, Bool.and_true] at hn
      by_cases q : g k < g j
      · rw [if_pos (l0.mpr q)]
        rw [show ahB g k j = true by unfold ahB; rw [if_pos q], if_pos rfl] at hn
        exact hn
      · rw [if_neg (fun e => q (l0.mp e))]
        by_cases z : g j = g k
        · rw [if_pos (e0.mpr z)]
          by_cases y : k ≤ j
          · rw [if_pos ((le_nI (by omega) (by omega)).mpr y)]
            rw [show ahB g k j = false by unfold ahB; rw [if_neg q, if_pos z, if_pos y], if_neg (by decide)] at hn
            exact hn
          · rw [if_neg (fun e => y ((le_nI (by omega) (by omega)).mp e))]
            rw [show ahB g k j = true by unfold ahB; rw [if_neg q, if_pos z, if_neg y], if_pos rfl] at hn
            exact hn
        · rw [if_neg (fun e => z (e0.mp e))]
          rw [show ahB g k j = false by unfold ahB; rw [if_neg q, if_neg z], if_neg (by decide)] at hn
          exact hn
theorem res_both {M : MM} {a c L : Nat} {g : Nat → Int32} {x2 : Int32} (hc : c < 6) (hL : L ≤ 100) (h0 : M 658 0 = nI L) (hg : ∀ k, k < 100 → M 658 (908 + 6 * k + c) = g k) (hgC : ∀ k, k < 100 → M (a + 8) k = g k) (hb : ∀ k, k < 100 → okA (g k)) : ∀ (d k f f' : Nat), k + d = L → d < f → d < f' → ∃ v, f_X0_resonanceAt_2 a M f x2 (nI L) (nI k) = some v ∧ f_X7_resonance_19 657 M f' (nI c) x2 (nI k) = some v := by
  intro d
  induction d with
  | zero =>
    intro k f f' hk hf hf'
    obtain ⟨f, rfl⟩ : ∃ k', f = k' + 1 := ⟨f - 1, by omega⟩
    obtain ⟨f', rfl⟩ : ∃ k', f' = k' + 1 := ⟨f' - 1, by omega⟩
    have : k = L := by omega
    subst this
    refine ⟨-6, ?_, ?_⟩
    · rw [f_X0_resonanceAt_2, if_pos (Int32.le_refl _)]
    · rw [f_X7_resonance_19, gd_of (show inb 0 16272 = true by decide), show ix 0 = 0 from rfl, show M (657 + 1) 0 = nI k from h0, if_pos (Int32.le_refl _)]
  | succ d ih =>
    intro k f f' hk hf hf'
    obtain ⟨f, rfl⟩ : ∃ k', f = k' + 1 := ⟨f - 1, by omega⟩
    obtain ⟨f', rfl⟩ : ∃ k', f' = k' + 1 := ⟨f' - 1, by omega⟩
    obtain ⟨v, v1, v2⟩ := ih (k + 1) f f' (by omega) (by omega) (by omega)
    rw [f_X0_resonanceAt_2, if_neg (by rw [le_nI (by omega) (by omega)]; omega), isResC hL (by omega) hgC, Option.bind_some]
    unfold f_X0_resonanceAt_28 f_X0_resonancesAhead
    rw [show f_X0_resonancesAhead_5 a M FU (nI k) (nI L) 0 0 = some (nI (ahN g L k L)) from ahC hL (by omega) hgC L 0 FU (by omega) (by unfold FU; omega), Option.bind_some, nI_1]
    rw [f_X7_resonance_19, gd_of (show inb 0 16272 = true by decide), show ix 0 = 0 from rfl, show M (657 + 1) 0 = nI L from h0, if_neg (show ¬ nI L ≤ nI k by rw [le_nI (by omega) (by omega)]; omega)]
    have hm := ahM (x2 := x2) (rec := fun u0 u1 u2 => f_X7_resonance_19 657 M f' u0 u1 u2) hc hL (k := k) (by omega) h0 hg hb L 0 FU (by omega) (by unfold FU; omega)
    rw [show f_X7_resonance_35 657 M (fun u0 u1 u2 => f_X7_resonance_19 657 M f' u0 u1 u2) FU (nI c) x2 (nI k) 0 0 = _ from hm]
    cases resS g L k with
    | false =>
      rw [if_pos bz_f0, if_neg (by decide)]
      exact ⟨v, v1, v2⟩
    | true =>
      rw [if_neg bz_t0, if_pos rfl]
      by_cases q : nI (ahN g L k L) = x2
      · rw [if_pos q, if_pos q]
        exact ⟨nI k, rfl, rfl⟩
      · rw [if_neg q, if_neg q]
        exact ⟨v, v1, v2⟩
theorem resonance_look (x y : Int32) : Look (f_X6_resonance 650 x y) (f_X7_resonance 657 x y) := by
  rintro M ⟨R, kp, n, tx, fl, hC, hM⟩
  obtain ⟨⟨a, C, L, P, s, ln, nn, hw⟩, -⟩ := hC
  have h5 := hw.1.1
  have h0 := hw.2.1.1
  have hCn : Cn R = C := by unfold Cn; rw [h5.1, ix_nI (by omega)]
  unfold f_X6_resonance f_X7_resonance
  rw [hasChC a h5.1, Option.bind_some, isChM (by rw [hM.1]; exact h5.1), Option.bind_some]
  cases hx : wi x 0 (nI C - 1) with
  | false => exact ⟨-1, by rw [if_pos bz_f0], by rw [if_pos bz_f0]⟩
  | true =>
    obtain ⟨c, hc, rfl⟩ := (wi_ix (by omega)).mp hx
    rw [if_neg bz_t0, if_neg bz_t0]
    by_cases q : 0 ≤ y
    · rw [if_pos q, if_pos q, gd_of (inb_nI (by omega) (by omega)), ix_nI (by omega)]
      unfold f_X0_resonanceAt
      rw [show M (0 + 1) 1 = nI L from a.s.1.trans h0.1]
      obtain ⟨v, v1, v2⟩ := res_both (M := M) (a := 0 + 6 + 5 + 9 * c) (c := c) (L := L) (g := fun k => R (908 + 6 * k + c)) (x2 := y) (by omega) h0.2 (by rw [hM.1]; exact h0.1) (fun k hk => by rw [hM.1]) (fun k hk => by
        rw [show 0 + 6 + 5 + 9 * c + 8 = 0 + (19 + 9 * c) by omega]
        exact (a.cl (by omega) (by omega) hk).2) (fun k hk => hw.2.2.2.2.1.1 c k hc hk) L 0 FU FU (by omega) (by unfold FU; omega) (by unfold FU; omega)
      refine ⟨v, ?_, v2⟩
      rw [show f_X0_resonanceAt_2 (0 + 6 + 5 + 9 * c) M FU y (nI L) 0 = some v from v1, Option.bind_some]
    · exact ⟨-2, by rw [if_neg q], by rw [if_neg q]⟩
