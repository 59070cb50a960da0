/-! PURE: the law's rules hold of a good row -/
theorem lpS_ge : ∀ (d j : Nat) (r : Nat → Int32), j ≤ (lpS d j r).2 ∧ (lpS d j r).2 ≤ j + d
  | 0, j, r => ⟨Nat.le_refl _, Nat.le_refl _⟩
  | d + 1, j, r => by
    rw [lpS]
    by_cases q : r 1 = 1 ∨ r 1 = 2 ∨ r 1 = 3
    · rw [if_pos q]
      have := lpS_ge d (j + 1) (loopS r)
      omega
    · rw [if_neg q]
      exact ⟨Nat.le_refl _, by omega⟩
theorem lpS_stop {r : Nat → Int32} (h : ¬ (r 1 = 1 ∨ r 1 = 2 ∨ r 1 = 3)) : ∀ (d j : Nat), lpS d j r = (r, j)
  | 0, j => rfl
  | d + 1, j => by rw [lpS, if_neg h]
theorem lpS_go {r : Nat → Int32} (h : r 1 = 1 ∨ r 1 = 2 ∨ r 1 = 3) (d j : Nat) : lpS (d + 1) j r = lpS d (j + 1) (loopS r) := by rw [lpS, if_pos h]
theorem left_zero {r : Nat → Int32} {C L P s ln nn s' : Nat} (hw : WF r C L P s ln nn) (h1' : (lpS 500 0 r).1 1 = nI s' ∧ s' ≤ 5) : ((if restB s' = true then nI (lpS 500 0 r).2 else -6) = (0 : Int32)) ↔ restB s = true := by
  have h1 := hw.2.2.2.2.2.1
  cases hb : restB s with
  | true =>
    have e := lpS_stop (r := r) (by rw [runs_iff h1, hb]; decide) 500 0
    rw [e] at h1' ⊢
    have : s' = s := (eq_nI (by omega) (by omega)).mp (h1'.1.symm.trans h1.1)
    rw [this, hb, if_pos rfl]
    exact ⟨fun _ => rfl, fun _ => rfl⟩
  | false =>
    have e : lpS 500 0 r = lpS 499 1 (loopS r) := lpS_go ((runs_iff h1).mpr hb) 499 0
    have g := lpS_ge 499 1 (loopS r)
    rw [← e] at g
    constructor
    · intro z
      exfalso
      split at z
      · have := (eq_nI (by omega) (by omega)).mp (show nI (lpS 500 0 r).2 = nI 0 from z)
        omega
      · exact absurd z (by decide)
    · intro z
      exact absurd z (by decide)
theorem rest_iff {s : Nat} (h : s ≤ 5) : restB s = true ↔ (s = 0 ∨ s = 4 ∨ s = 5) := by
  unfold restB
  rw [decide_eq_true_iff]
  omega
section CPR
variable {M : MM} {r : Nat → Int32} {kp n : Nat} {H S : Nat → Nat → Int32} {fl tx : Nat → Int32} {C L P s ln nn B : Nat}
theorem rests_ok (h : CP M r kp H S fl n tx) (hw : WF r C L P s ln nn) : f_L_rests 650 M = some (restB s) := by
  have h1 := hw.2.2.2.2.2.1
  unfold f_L_rests f_L_rests_17 f_L_rests_22
  rw [t_0 h hw, Option.bind_some, Option.bind_some]
  rcases (show s = 0 ∨ s = 1 ∨ s = 2 ∨ s = 3 ∨ s = 4 ∨ s = 5 by omega) with rfl | rfl | rfl | rfl | rfl | rfl <;> rfl
theorem r327 {c : Nat} {rec : Int32 → Int32 → MM → Option (Bool × MM)} (h : CP M r kp H S fl n tx) (hw : WF r C L P s ln nn) (hc : c < C) : ∀ (d p k : Nat), p + 1 + d = 4 → d < k → f_L_rules_327 650 rec k (nI L) (nI c) (rsV (fun k => r (908 + 6 * k + c)) L (nI p) L 0) (nI (p + 1)) M = rec (nI L) (nI (c + 1)) M := by
  have hL := hw.2.1.1.2
  intro d
  induction d with
  | zero =>
    intro p k hp hk
    obtain ⟨k, rfl⟩ : ∃ k', k = k' + 1 := ⟨k - 1, by omega⟩
    have : p = 3 := by omega
    subst this
    rw [f_L_rules_327]
    unfold f_L_rules_384
    rw [nI_1, if_pos (show (4 : Int32) ≤ nI (3 + 1) by decide)]
    split <;> rfl
  | succ d ih =>
    intro p k hp hk
    obtain ⟨k, rfl⟩ : ∃ k', k = k' + 1 := ⟨k - 1, by omega⟩
    have hn := ih (p + 1) k (by omega) (by omega)
    rw [f_L_rules_327]
    unfold f_L_rules_384 f_L_rules_374
    rw [nI_1, nI_1]
    by_cases q : rsV (fun k => r (908 + 6 * k + c)) L (nI p) L 0 < 0
    · rw [if_pos q]
    · rw [if_neg q, if_neg (by rw [show (4 : Int32) = nI 4 from rfl, le_nI (by omega) (by omega)]; omega)]
      rcases rsV_ran (g := fun k => r (908 + 6 * k + c)) (L := L) (x2 := nI p) L 0 with e | ⟨a, ha, e⟩
      · rw [e] at q; exact absurd (by decide) q
      · rw [(c_res h hw hc).1 (by rw [show (0 : Int32) = nI 0 from rfl, le_nI (by omega) (by omega)]; omega), Option.bind_some]
        by_cases q2 : rsV (fun k => r (908 + 6 * k + c)) L (nI (p + 1)) L 0 < 0
        · rw [if_pos q2]
          exact hn
        · rw [if_neg q2]
          rcases rsV_ran (g := fun k => r (908 + 6 * k + c)) (L := L) (x2 := nI (p + 1)) L 0 with e2 | ⟨b, hb, e2⟩
          · rw [e2] at q2; exact absurd (by decide) q2
          · have ho := rsV_ord (g := fun k => r (908 + 6 * k + c)) (p := p) (by omega) hL (show a < L by omega) (show b < L by omega) e e2
            rw [e2] at hn ⊢
            rw [e, c_avg h hw (by omega) hc, Option.bind_some, c_avg h hw (by omega) hc, Option.bind_some, if_pos ho]
            exact hn
theorem r236 (h : CP M r kp H S fl n tx) (hg : GR r C L P s ln nn B) (hB : B < 900000) : ∀ (d c k : Nat), c + d = C → d < k → f_L_rules_236 650 k (nI L) (nI c) M = some (true, M) := by
  have hw := hg.1
  have hC := hw.1.1.2
  obtain ⟨-, ⟨q, q1, q2, q3⟩, -⟩ := hg.2.1
  intro d
  induction d with
  | zero =>
    intro c k hc hk
    obtain ⟨k, rfl⟩ : ∃ k', k = k' + 1 := ⟨k - 1, by omega⟩
    have : c = C := by omega
    subst this
    rw [f_L_rules_236, t_5 h hw, Option.bind_some, if_pos (Int32.le_refl _), c_freq_no h hw rfl, Option.bind_some, if_pos rfl, Option.bind_some, c_chan_no h hw rfl, Option.bind_some, if_pos rfl]
    rfl
  | succ d ih =>
    intro c k hc hk
    obtain ⟨k, rfl⟩ : ∃ k', k = k' + 1 := ⟨k - 1, by omega⟩
    have hn := ih (c + 1) k (by omega) (by omega)
    have hcC : c < C := by omega
    obtain ⟨a, m, i1, i2, i3, i4, i5, i6⟩ := q3 c hcC
    have e4 : f_X6_channel 650 (nI c) 4 M = some (nI a) := (c_chan h hw hcC (w := 4) (by omega)).trans (congrArg some i1)
    have e5 : f_X6_channel 650 (nI c) 5 M = some (nI m) := (c_chan h hw hcC (w := 5) (by omega)).trans (congrArg some i2)
    have e6 : f_X6_channel 650 (nI c) 6 M = some (r (34 + 29 * c + 27)) := c_chan h hw hcC (w := 6) (by omega)
    have e8 : f_X6_total 650 8 M = some (nI q) := (t_8 h hw).trans (congrArg some q1)
    have res := r327 (rec := fun u0 u1 uM => f_L_rules_236 650 k u0 u1 uM) h hw hcC 3 0 FU (by omega) (by unfold FU; omega)
    have e0 : f_X6_resonance 650 (nI c) 0 M = some (rsV (fun k => r (908 + 6 * k + c)) L (nI 0) L 0) := (c_res h hw hcC).1 (by decide)
    have fin : ∀ sb0 : Bool, sb0 = decide (m = 0) → f_L_rules_294 650 (fun u0 u1 uM => f_L_rules_236 650 k u0 u1 uM) (nI L) (nI c) sb0 M = some (true, M) := fun sb0 hsb => by
      have key : ∀ b : Bool, b = sb0 → f_L_rules_310 650 (fun u0 u1 uM => f_L_rules_236 650 k u0 u1 uM) (nI L) (nI c) b sb0 M = some (true, M) := fun b hb => by
        subst hb
        unfold f_L_rules_310
        rw [if_pos rfl, e0, Option.bind_some, show (1 : Int32) = nI (0 + 1) from rfl, res]
        exact hn
      unfold f_L_rules_294
      rw [e6, Option.bind_some]
      by_cases z : r (34 + 29 * c + 27) = 0
      · rw [if_pos z]
        exact key true (by rw [hsb, decide_eq_true (i6.mpr z)])
      · rw [if_neg z]
        exact key false (by rw [hsb, decide_eq_false (fun y => z (i6.mp y))])
    rw [f_L_rules_236, t_5 h hw, Option.bind_some, if_neg (by rw [le_nI (by omega) (by omega)]; omega), e4, Option.bind_some, e5, Option.bind_some, if_neg (by rw [lt_nI (by omega) (by omega)]; omega), Option.bind_some, e8, Option.bind_some, if_neg (by rw [lt_nI (by omega) (by omega)]; omega), Option.bind_some]
    by_cases z : m = 0
    · rw [if_pos (by rw [z]; rfl)]
      exact fin true (by rw [decide_eq_true z])
    · rw [if_neg (nIne 0 0 rfl (by omega) (by omega) z)]
      exact fin false (by rw [decide_eq_false z])
theorem r107 (h : CP M r kp H S fl n tx) (hg : GR r C L P s ln nn B) : ∀ (d j k : Nat), j + d = L → d < k → f_L_rules_107 650 k (nI L) (nI j) M = f_L_rules_236 650 FU (nI L) 0 M := by
  have hw := hg.1
  have hL := hw.2.1.1.2
  have hC := hw.1.1.2
  obtain ⟨-, -, g1, g2, g3, g4⟩ := hg.2.1
  intro d
  induction d with
  | zero =>
    intro j k hj hk
    obtain ⟨k, rfl⟩ : ∃ k', k = k' + 1 := ⟨k - 1, by omega⟩
    rw [f_L_rules_107, if_pos (by rw [le_nI (by omega) (by omega)]; omega)]
  | succ d ih =>
    intro j k hj hk
    obtain ⟨k, rfl⟩ : ∃ k', k = k' + 1 := ⟨k - 1, by omega⟩
    have hn := ih (j + 1) k (by omega) (by omega)
    have hjL : j < L := by omega
    have s227 : f_L_rules_227 650 (fun u0 u1 uM => f_L_rules_107 650 k u0 u1 uM) (nI L) (nI j) M = f_L_rules_236 650 FU (nI L) 0 M := by
      unfold f_L_rules_227
      rw [nI_1]
      exact hn
    have s190 : f_L_rules_190 650 (fun u0 u1 uM => f_L_rules_107 650 k u0 u1 uM) (nI L) (nI j) M = f_L_rules_236 650 FU (nI L) 0 M := by
      unfold f_L_rules_190
      rw [c_nb h hw hjL, Option.bind_some]
      rcases g4 j hjL with e | ⟨c, hc, e, e2⟩
      · rw [e, if_pos rfl]; exact s227
      · have hl := (limR_okL (hw.1.2.1 c hc).2.2.1 (r (208 + j))).resolve_left e2
        rw [e, if_neg (ne6_nI (by omega)), if_neg (ge0 (by omega)), c_freq h hw hjL, Option.bind_some, c_limit h hw hc (g2 j hjL), Option.bind_some, if_pos (by rw [i_le, z0]; exact hl.1)]
        exact s227
    have s156 : f_L_rules_156 650 (fun u0 u1 uM => f_L_rules_107 650 k u0 u1 uM) (nI L) (nI j) M = f_L_rules_236 650 FU (nI L) 0 M := by
      unfold f_L_rules_156
      rw [c_dr h hw hjL, Option.bind_some, Option.bind_some, Option.bind_some]
      by_cases z : r (1608 + j) = -6
      · rw [if_pos z]; exact s190
      · obtain ⟨d1, d2⟩ := (g3 j hjL).resolve_left z
        have k1 : (1 : Int32).toInt = 1 := by decide
        have k2 : (100000 : Int32).toInt = 100000 := by decide
        rw [if_neg z, if_neg (by rw [i_lt, k1]; omega), if_pos (by rw [i_le, k2]; omega)]
        exact s190
    have s136 : f_L_rules_136 650 (fun u0 u1 uM => f_L_rules_107 650 k u0 u1 uM) (nI L) (nI j) M = f_L_rules_236 650 FU (nI L) 0 M := by
      unfold f_L_rules_136
      rw [c_cg h hw hjL, Option.bind_some, Option.bind_some]
      by_cases z : 0 ≤ r (1508 + j)
      · rw [if_pos z]; exact s156
      · rw [if_neg z]
        rcases hw.2.2.2.2.1.2 j (by omega) with e | e
        · rw [if_pos e]; exact s156
        · exact absurd (by rw [i_le, z0]; exact e.1) z
    rw [f_L_rules_107, if_neg (by rw [le_nI (by omega) (by omega)]; omega)]
    by_cases z : j = 0
    · rw [if_pos (by rw [z]; decide)]
      exact s136
    · rw [if_neg (by rw [show (0 : Int32) = nI 0 from rfl, le_nI (by omega) (by omega)]; omega), c_freq h hw hjL, Option.bind_some, show (nI j - 1 : Int32) = nI (j - 1) by rw [show (1 : Int32) = nI 1 from rfl, sub_nI (by omega)], c_freq h hw (by omega), Option.bind_some]
      have hlt := g1 (j - 1) (by omega)
      rw [show j - 1 + 1 = j by omega] at hlt
      rw [if_neg (fun y => absurd hlt (Int32.not_lt.mpr y))]
      exact s136
theorem rules_ok (h : CP M r kp H S fl n tx) (hg : GR r C L P s ln nn B) (hB : B < 900000) : ∃ M1, f_L_rules 650 M = some (true, M1) ∧ CP M1 r kp H S fl n tx := by
  have hw := hg.1
  have hL := hw.2.1.1.2
  have hC := hw.1.1.2
  have h1 := hw.2.2.2.2.2.1
  have h2 := hw.2.2.2.2.2.2.1
  obtain ⟨M1, s', l1, l2, l3⟩ := c_left h
  have hlz := left_zero hw l1
  refine ⟨M1, ?_, l3⟩
  have hdr : (restB s = true ↔ r 3 = 0) ∧ ¬ r 3 < 0 ∧ ¬ (100000 : Int32) < r 3 := by
    have k1 : (100000 : Int32).toInt = 100000 := by decide
    have big : okD (r 3) → r 3 ≠ 0 ∧ ¬ r 3 < 0 ∧ ¬ (100000 : Int32) < r 3 := fun ⟨d1, d2⟩ => ⟨fun z => by rw [z, z0] at d1; omega, by rw [i_lt, z0]; omega, by rw [i_lt, k1]; omega⟩
    have sm : r 3 = 0 → ¬ r 3 < 0 ∧ ¬ (100000 : Int32) < r 3 := fun z => by rw [z]; exact ⟨by decide, by decide⟩
    rcases (show (s = 0 ∨ s = 4 ∨ s = 5) ∨ (s = 1 ∨ s = 2) ∨ s = 3 by omega) with q | q | q
    · have z := hw.2.2.2.2.2.2.2.2.2 q
      exact ⟨⟨fun _ => z, fun _ => (rest_iff h1.2).mpr q⟩, sm z⟩
    · obtain ⟨b1, b2⟩ := big (hw.2.2.2.2.2.2.2.2.1 q).2.2.2.1
      exact ⟨⟨fun y => by have := (rest_iff h1.2).mp y; omega, fun y => absurd y b1⟩, b2⟩
    · obtain ⟨b1, b2⟩ := big (hg.2.2.2.2 q)
      exact ⟨⟨fun y => by have := (rest_iff h1.2).mp y; omega, fun y => absurd y b1⟩, b2⟩
  have fin : f_L_rules_107 650 FU (nI L) 0 M1 = some (true, M1) := by
    have := r107 l3 hg L 0 FU (by omega) (by unfold FU; omega)
    rw [show (0 : Int32) = nI 0 from rfl, this]
    exact r236 l3 hg hB C 0 FU (by omega) (by unfold FU; omega)
  have s99 : ∀ b : Bool, b = restB s → f_L_rules_99 650 (nI L) b (restB s) M1 = some (true, M1) := fun b hb => by
    subst hb
    unfold f_L_rules_99
    rw [if_pos rfl]
    exact fin
  have s83 : f_L_rules_83 650 (nI L) M = some (true, M1) := by
    unfold f_L_rules_83
    rw [rests_ok h hw, Option.bind_some, l2, Option.bind_some]
    dsimp only
    by_cases z : restB s = true
    · rw [if_pos (hlz.mpr z)]
      exact s99 true z.symm
    · rw [if_neg (fun y => z (hlz.mp y))]
      exact s99 false (by simpa using (Bool.not_eq_true _ ▸ z : restB s = false).symm)
  have s57 : ∀ b : Bool, b = restB s → f_L_rules_57 650 (nI s) (if s = 0 then -6 else nI ln) (nI L) b (restB s) M = some (true, M1) := fun b hb => by
    subst hb
    unfold f_L_rules_57
    rw [if_pos rfl]
    by_cases z : s = 0
    · rw [if_pos (by rw [z]; rfl), if_pos z, if_pos rfl]
      exact s83
    · have hl := hg.2.2.2.1 z
      rw [if_neg (nIne 0 0 rfl (by omega) (by omega) z), if_neg z, if_neg (ge0 (by omega)), if_neg (by rw [le_nI (by omega) (by omega)]; omega)]
      exact s83
  unfold f_L_rules
  rw [t_0 h hw, Option.bind_some, t_1 h hw, Option.bind_some, t_2 h hw, Option.bind_some, t_3 h hw, Option.bind_some, if_neg (ge0 (by omega)), if_neg (by rw [show (5 : Int32) = nI 5 from rfl, lt_nI (by omega) (by omega)]; omega), if_neg hdr.2.1, if_neg hdr.2.2, rests_ok h hw, Option.bind_some]
  by_cases z : r 3 = 0
  · rw [if_pos z]
    exact s57 true (hdr.1.mpr z).symm
  · rw [if_neg z]
    refine s57 false ?_
    cases hb : restB s with
    | true => exact absurd (hdr.1.mp hb) z
    | false => rfl
end CPR
