/-! PURE: the law's loop and its start answer true -/
theorem cell_ok (xs : Nat → Int32) {L k : Nat} (hL : L ≤ 260) (hk : k ≤ 1000) : ∃ v, ∀ M, f_L_cell xs L (nI k) M = some v := by
  unfold f_L_cell f_L_cell_24
  by_cases q : L ≤ k
  · exact ⟨_, fun M => by rw [if_pos ((le_nI (by omega) (by omega)).mpr q)]⟩
  · exact ⟨_, fun M => by rw [if_neg (fun z => q ((le_nI (by omega) (by omega)).mp z)), gd_of (inb_nI (by omega) (by omega))]⟩
theorem b424 {xs : Nat → Int32} {L C L0 k : Nat} {rec : Int32 → MM → Option Bool} {y : Int32} {y7 : Int64} {b10 : Bool} {r r' : Nat → Int32} {M : MM} {kp kp' n' P P' s s' ln ln' nn nn' B : Nat} {H' S' : Nat → Nat → Int32} {fl' tx' : Nat → Int32} (hrec : ∀ (M : MM) (r : Nat → Int32) (kp n : Nat) (H S : Nat → Nat → Int32) (fl tx : Nat → Int32) (P s ln nn : Nat), CP M r kp H S fl n tx → GR r C L0 P s ln nn (B + 60) → rec (nI k + 1) M = some true) (c : CP M r' kp' H' S' fl' n' tx') (g' : GR r' C L0 P' s' ln' nn' (B + 60)) (g : GR r C L0 P s ln nn B) (ht : ∀ (M : MM) (kp n : Nat) (H S : Nat → Nat → Int32) (fl tx : Nat → Int32), CP M r kp H S fl n tx → f_L_told 650 M = some y7) (hd : b10 = false → r' = r ∨ (kp' = kp1 kp ∧ H' kp' = r)) : f_L_law_424 xs L rec (nI k) y y7 b10 M = some true := by
  unfold f_L_law_424 f_L_law_475 f_L_law_473
  have fin : rec (nI k + 1) M = some true := hrec _ _ _ _ _ _ _ _ _ _ _ _ c g'
  by_cases q1 : (nI k - nI k / 4 * 4) = 0
  · rw [if_pos q1]
    by_cases q2 : (y &&& 15) = 11
    · rw [if_pos q2]; exact fin
    · rw [if_neg q2]
      cases b10 with
      | true => rw [if_neg bz_t0]; exact fin
      | false =>
        rw [if_pos bz_f0]
        obtain ⟨v, hv⟩ := told_ex c.1.2
        rw [hv _ _ _ _ _ _ _ c, Option.bind_some]
        by_cases q3 : lcp v y7 = 0
        · rw [if_pos q3]; exact fin
        · rw [if_neg q3]
          rcases hd rfl with e | ⟨e1, e2⟩
          · subst e
            have : v = y7 := Option.some.inj ((hv _ _ _ _ _ _ _ c).symm.trans (ht _ _ _ _ _ _ _ c))
            rw [this] at q3
            exact absurd (lcp_self y7) q3
          · have hk5 := c.kp5
            have hpos : 0 < kp' := by rw [e1]; unfold kp1; split <;> omega
            obtain ⟨M1, u1, c1⟩ := (c_undo c).2 hpos
            rw [e2] at c1
            rw [u1, Option.bind_some]
            dsimp only
            rw [if_neg (ge0 (by omega)), ht _ _ _ _ _ _ _ c1, Option.bind_some, if_pos (lcp_self y7)]
            exact hrec _ _ _ _ _ _ _ _ _ _ _ _ c1 (g.mono (by omega))
  · rw [if_neg q1]; exact fin
theorem b368 {xs : Nat → Int32} {L C L0 k : Nat} {rec : Int32 → MM → Option Bool} {y z : Int32} {y7 : Int64} {b10 : Bool} {r : Nat → Int32} {M : MM} {kp n P s ln nn B : Nat} {H S : Nat → Nat → Int32} {fl tx : Nat → Int32} (hrec : ∀ (M : MM) (r : Nat → Int32) (kp n : Nat) (H S : Nat → Nat → Int32) (fl tx : Nat → Int32) (P s ln nn : Nat), CP M r kp H S fl n tx → GR r C L0 P s ln nn (B + 60) → rec (nI k + 1) M = some true) (c : CP M r kp H S fl n tx) (g : GR r C L0 P s ln nn B) (hB : B + 60 < 900000) (ht : ∀ (M : MM) (kp n : Nat) (H S : Nat → Nat → Int32) (fl tx : Nat → Int32), CP M r kp H S fl n tx → f_L_told 650 M = some y7) (hb : ¬ (y &&& 15) ≤ 3 ∧ ¬ 6 ≤ (y &&& 15) ∧ restB s = false → b10 = true) : f_L_law_368 xs L rec (nI k) y z y7 (nI kp) b10 M = some true := by
  obtain ⟨M1, r', kp', n', H', S', fl', tx', P', s', ln', nn', e1, c1, g1, hq⟩ := acts_ok (y := y) (z := z) c g hB
  obtain ⟨M2, e2, c2⟩ := rules_ok c1 g1 (by omega)
  have hd : b10 = false → r' = r ∨ (kp' = kp1 kp ∧ H' kp' = r) := fun q => by
    rcases hq with a | a | a
    · exact Or.inl a
    · exact Or.inr a
    · have := hb a
      rw [q] at this
      exact absurd this (by decide)
  have fin := b424 (xs := xs) (L := L) (y := y) hrec c2 g1 g ht hd
  have k1 := c.kp5
  have k2 := c1.kp5
  unfold f_L_law_368
  rw [e1, Option.bind_some]
  dsimp only
  rw [if_neg bz_t0, e2, Option.bind_some]
  dsimp only
  rw [if_neg bz_t0, t_12 c2 g1.1, Option.bind_some]
  by_cases q : kp' = kp
  · rw [if_pos (by rw [q])]
    by_cases q5 : 5 ≤ kp
    · rw [if_pos (by rw [show (5 : Int32) = nI 5 from rfl, le_nI (by omega) (by omega)]; exact q5)]
      exact fin
    · rw [if_neg (by rw [show (5 : Int32) = nI 5 from rfl, le_nI (by omega) (by omega)]; exact q5)]
      cases b10 with
      | true => rw [if_neg bz_t0]; exact fin
      | false =>
        have e : r' = r := (hd rfl).resolve_right (fun ⟨a, _⟩ => by
          unfold kp1 at a
          rw [if_neg (by omega)] at a
          omega)
        subst e
        rw [if_pos bz_f0, ht _ _ _ _ _ _ _ c2, Option.bind_some, if_pos (lcp_self y7)]
        exact fin
  · rw [if_neg (fun e => q ((eq_nI (by omega) (by omega)).mp e))]
    exact fin
theorem l292 {xs : Nat → Int32} {L L0 : Nat} (hL : L ≤ 260) : ∀ (d k f : Nat) (M : MM) (r : Nat → Int32) (kp n : Nat) (H S : Nat → Nat → Int32) (fl tx : Nat → Int32) (P s ln nn : Nat), k + d = 36 → d < f → CP M r kp H S fl n tx → GR r 2 L0 P s ln nn (60 * k) → f_L_law_292 xs L f (nI k) M = some true := by
  intro d
  induction d with
  | zero =>
    intro k f M r kp n H S fl tx P s ln nn hk hf c g
    obtain ⟨f, rfl⟩ : ∃ f', f = f' + 1 := ⟨f - 1, by omega⟩
    have hw := g.1
    obtain ⟨v, hv⟩ := told_ex c.1.2
    obtain ⟨M1, e1, c1⟩ := c_lines_no (x1 := 4) (x2 := 10) (x3 := 10) c (by decide)
    have e2 := c_mode_no (x := 6) (x2 := 0) (f := 1) (w := 1) (p := 1) c1 hw (by decide)
    obtain ⟨M3, e3, c3⟩ := (c_set (x1 := 6) (x2 := 1) c1 hw).1 (by decide)
    rw [show whyS 6 1 = -1 by decide] at e3
    obtain ⟨M4, e4, c4⟩ := c_step0 (x := 0) c3 (by decide)
    have e5 := (c_save (x := 2) c4).1 (by decide)
    have e6 : f_X6_total 650 20 M4 = some (-2) := c_total_no (by decide)
    have e7 := c_high_no (c := 0) (y := 301) c4 hw (by omega) (by decide)
    have e8 := (c_res (c := 0) (y := -1) c4 hw (by omega)).2 (by decide)
    unfold f_L_law_292
    rw [if_pos (show (36 : Int32) ≤ nI k by rw [show (36 : Int32) = nI 36 from rfl, le_nI (by omega) (by omega)]; omega), hv _ _ _ _ _ _ _ c, Option.bind_some, e1, Option.bind_some]
    dsimp only
    rw [if_pos rfl, e2, Option.bind_some]
    dsimp only
    rw [if_pos rfl, e3, Option.bind_some]
    dsimp only
    rw [if_pos rfl, e4, Option.bind_some]
    dsimp only
    rw [if_pos rfl, e5, Option.bind_some]
    dsimp only
    rw [if_pos rfl, e6, Option.bind_some, if_pos rfl, show f_X6_highest 650 0 301 M4 = some (-2, M4) from e7, Option.bind_some]
    dsimp only
    rw [if_pos rfl, show f_X6_resonance 650 0 (-1) M4 = some (-2) from e8, Option.bind_some, if_pos rfl]
    unfold f_L_law_585 f_L_law_607
    rw [if_neg bz_t0, hv _ _ _ _ _ _ _ c4, Option.bind_some, if_pos (lcp_self v)]
  | succ d ih =>
    intro k f M r kp n H S fl tx P s ln nn hk hf c g
    obtain ⟨f, rfl⟩ : ∃ f', f = f' + 1 := ⟨f - 1, by omega⟩
    have hw := g.1
    obtain ⟨v, hv⟩ := told_ex c.1.2
    obtain ⟨y, hy⟩ := cell_ok xs (L := L) (k := 1 + 2 * k) hL (by omega)
    obtain ⟨z, hz⟩ := cell_ok xs (L := L) (k := 2 + 2 * k) hL (by omega)
    have hrec : ∀ (M : MM) (r : Nat → Int32) (kp n : Nat) (H S : Nat → Nat → Int32) (fl tx : Nat → Int32) (P s ln nn : Nat), CP M r kp H S fl n tx → GR r 2 L0 P s ln nn (60 * k + 60) → (fun u0 uM => f_L_law_292 xs L f u0 uM) (nI k + 1) M = some true := fun M r kp n H S fl tx P s ln nn c g => by
      show f_L_law_292 xs L f (nI k + 1) M = some true
      rw [nI_1]
      exact ih (k + 1) f M r kp n H S fl tx P s ln nn (by omega) (by omega) c g
    have key : ∀ b10 : Bool, (¬ (y &&& 15) ≤ 3 ∧ ¬ 6 ≤ (y &&& 15) ∧ restB s = false → b10 = true) → f_L_law_368 xs L (fun u0 uM => f_L_law_292 xs L f u0 uM) (nI k) y z v (nI kp) b10 M = some true := fun b10 hb => b368 hrec c g (by omega) hv hb
    unfold f_L_law_292 f_L_law_367
    rw [if_neg (show ¬ (36 : Int32) ≤ nI k by rw [show (36 : Int32) = nI 36 from rfl, le_nI (by omega) (by omega)]; omega), show (1 : Int32) + 2 * nI k = nI (1 + 2 * k) from lin 1 2 k, show (2 : Int32) + 2 * nI k = nI (2 + 2 * k) from lin 2 2 k, hy, Option.bind_some, hz, Option.bind_some, hv _ _ _ _ _ _ _ c, Option.bind_some, t_12 c hw, Option.bind_some]
    by_cases q3 : (y &&& 15) ≤ 3
    · rw [if_pos q3]
      exact key false (fun a => absurd q3 a.1)
    · rw [if_neg q3]
      by_cases q6 : 6 ≤ (y &&& 15)
      · rw [if_pos q6]
        exact key false (fun a => absurd q6 a.2.1)
      · rw [if_neg q6, rests_ok c hw, Option.bind_some]
        cases hr : restB s with
        | false => rw [if_pos bz_f0]; exact key true (fun _ => rfl)
        | true => rw [if_neg bz_t0]; exact key false (fun a => by rw [hr] at a; exact absurd a.2.2 (by decide))
/-- how fast lines grow -/
def gq : Nat → Nat
  | 0 => 5
  | k + 1 => gq k + (if 1 < gq k * 100 / 1000 then gq k * 100 / 1000 else 1)
theorem gq_100 : 243 < gq 100 := by decide +kernel
theorem gq_5 : ∀ k, 5 ≤ gq k
  | 0 => by decide
  | k + 1 => by have := gq_5 k; rw [gq]; omega
theorem stq_ge {x r : Int32} (hx : 1 ≤ x.toInt ∧ x.toInt ≤ 2000) (hr : 10 ≤ r.toInt ∧ r.toInt ≤ 1000) : x.toInt * r.toInt / 1000 ≤ (stq x r).toInt := by
  have hp : 0 ≤ x.toInt * r.toInt := Int.mul_nonneg (by omega) (by omega)
  have hp2 : x.toInt * r.toInt ≤ 2000 * 1000 := Int.mul_le_mul hx.2 hr.2 (by omega) (by omega)
  have e1 : (x * r).toInt = x.toInt * r.toInt := mul32 (by omega) (by omega)
  have k1 : (1000 : Int32).toInt = 1000 := rfl
  have k2 : (1 : Int32).toInt = 1 := rfl
  have e2 : (x * r / 1000).toInt = x.toInt * r.toInt / 1000 := by
    rw [div32 (by rw [e1]; exact hp) (by rw [k1]; omega), e1, k1]
  unfold stq
  by_cases h : 1 < x * r / 1000
  · rw [if_pos h, e2]
    omega
  · rw [if_neg h, k2]
    rw [i_lt, e2, k2] at h
    omega
theorem lfS_gq {f r to : Int32} (hf : 5 ≤ f.toInt ∧ f.toInt ≤ 1000) (hr : 100 ≤ r.toInt ∧ r.toInt ≤ 1000) (ht : to.toInt ≤ 2000) : ∀ k, (∀ j, j < k → ¬ to < lfS f r j) → (gq k : Int) ≤ (lfS f r k).toInt
  | 0, _ => by rw [lfS, gq]; omega
  | k + 1, h => by
    have ih := lfS_gq hf hr ht k (fun j hj => h j (by omega))
    have g1 := h k (by omega)
    rw [i_lt] at g1
    have g5 := gq_5 k
    have h4 := stq_bd (x := lfS f r k) (r := r) ⟨by omega, by omega⟩ ⟨by omega, by omega⟩
    have h6 := stq_ge (x := lfS f r k) (r := r) ⟨by omega, by omega⟩ ⟨by omega, by omega⟩
    have h5 : (lfS f r (k + 1)).toInt = (lfS f r k).toInt + (stq (lfS f r k) r).toInt := by
      rw [lfS]
      exact add32 (by omega) (by omega)
    have h7 : (gq k : Int) * 100 ≤ (lfS f r k).toInt * r.toInt := Int.mul_le_mul ih hr.1 (by omega) (by omega)
    have h8 : (gq k : Int) * 100 / 1000 ≤ (stq (lfS f r k) r).toInt := by omega
    rw [gq]
    split <;> omega
theorem lines_N {f r to : Int32} (hf : 5 ≤ f.toInt ∧ f.toInt ≤ 1000) (hr : 100 ≤ r.toInt ∧ r.toInt ≤ 1000) (ht : to.toInt ≤ 243) (hft : f.toInt ≤ to.toInt) : ∃ N, 0 < N ∧ N ≤ 100 ∧ (∀ k, k < N → ¬ to < lfS f r k ∧ Sm (lfS f r k) 2000) ∧ to < lfS f r N ∧ (∀ k, k + 1 < N → lfS f r k < lfS f r (k + 1)) ∧ ∀ k, k < N → wi (lfS f r k) 1 2000 = true := by
  obtain ⟨N, -, h2, h3⟩ := lfS_N (f := f) (r := r) (to := to) hf ⟨by omega, by omega⟩ (by omega)
  have h0 : 0 < N := by
    rcases Nat.eq_zero_or_pos N with e | e
    · subst e
      rw [lfS, i_lt] at h3
      omega
    · exact e
  have pos : ∀ k, k < N → 5 ≤ (lfS f r k).toInt ∧ (lfS f r k).toInt ≤ 243 := fun k hk => by
    have a := lfS_gq hf hr (by omega) k (fun j hj => (h2 j (by omega)).1)
    have b := (h2 k hk).1
    have g5 := gq_5 k
    rw [i_lt] at b
    omega
  refine ⟨N, h0, ?_, h2, h3, fun k hk => ?_, fun k hk => ?_⟩
  · rcases Nat.lt_or_ge 100 N with q | q
    · have a := lfS_gq hf hr (show to.toInt ≤ 2000 by omega) 100 (fun j hj => (h2 j (by omega)).1)
      have b := (h2 100 q).1
      have g := gq_100
      rw [i_lt] at b
      omega
    · exact q
  · have p := pos k (by omega)
    have h4 := stq_bd (x := lfS f r k) (r := r) ⟨by omega, by omega⟩ ⟨by omega, by omega⟩
    rw [i_lt, lfS, add32 (by omega) (by omega)]
    omega
  · have p := pos k hk
    have k1 : (1 : Int32).toInt = 1 := rfl
    have k2 : (2000 : Int32).toInt = 2000 := rfl
    exact wi_of (by omega) (by omega)
