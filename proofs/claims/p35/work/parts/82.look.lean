/-! PURE: each call of the class that only tells -/
def totV (r : Nat → Int32) (kp n : Nat) : Nat → Int32
  | 0 => r 1
  | 1 => if r 1 = 0 then -6 else r 2
  | 2 => r 3
  | 3 => r 0
  | 4 => r 4
  | 5 => r 5
  | 6 => r 6
  | 7 => r 7
  | 8 => r 8
  | 9 => r 9
  | 10 => r 10
  | 11 => r 11
  | 12 => nI kp
  | 13 => nI n
  | j + 14 => r (12 + j)
def chV (r : Nat → Int32) (c : Nat) : Nat → Int32
  | 0 => r (34 + 29 * c)
  | 1 => r (34 + 29 * c + 1)
  | 2 => r (34 + 29 * c + 2)
  | 3 => r (34 + 29 * c + 12)
  | 4 => r (34 + 29 * c + 25)
  | 5 => r (34 + 29 * c + 26)
  | 6 => r (34 + 29 * c + 27)
  | _ => r (34 + 29 * c + 28)
def rsV (g : Nat → Int32) (L : Nat) (x2 : Int32) : Nat → Nat → Int32
  | 0, _ => -6
  | d + 1, k => if resS g L k = true then (if nI (ahN g L k L) = x2 then nI k else rsV g L x2 d (k + 1)) else rsV g L x2 d (k + 1)
theorem resF {M : MM} {a L : Nat} {g : Nat → Int32} {x2 : Int32} (hL : L ≤ 100) (hgC : ∀ k, k < 100 → M (a + 8) k = g k) : ∀ (d k f : Nat), k + d = L → d < f → f_X0_resonanceAt_2 a M f x2 (nI L) (nI k) = some (rsV g L x2 d k) := by
  intro d
  induction d with
  | zero =>
    intro k f hk hf
    obtain ⟨f, rfl⟩ : ∃ k', f = k' + 1 := ⟨f - 1, by omega⟩
    have : k = L := by omega
    subst this
    rw [f_X0_resonanceAt_2, if_pos (Int32.le_refl _)]
    rfl
  | succ d ih =>
    intro k f hk hf
    obtain ⟨f, rfl⟩ : ∃ k', f = k' + 1 := ⟨f - 1, by omega⟩
    have hn := ih (k + 1) f (by omega) (by omega)
    rw [f_X0_resonanceAt_2, if_neg (by rw [le_nI (by omega) (by omega)]; omega), isResC hL (by omega) hgC, Option.bind_some]
    unfold f_X0_resonanceAt_28 f_X0_resonancesAhead
    rw [show f_X0_resonancesAhead_5 a M FU (nI k) (nI L) 0 0 = some (nI (ahN g L k L)) from ahC hL (by omega) hgC L 0 FU (by omega) (by unfold FU; omega), Option.bind_some, nI_1, rsV]
    cases resS g L k with
    | false => rw [if_pos bz_f0, if_neg (by decide)]; exact hn
    | true =>
      rw [if_neg bz_t0, if_pos rfl]
      by_cases q : nI (ahN g L k L) = x2
      · rw [if_pos q, if_pos q]
      · rw [if_neg q, if_neg q]; exact hn
section CPL
variable {M : MM} {r : Nat → Int32} {kp n : Nat} {H S : Nat → Nat → Int32} {fl tx : Nat → Int32} {C L P s ln nn : Nat}
theorem c_freq {j : Nat} (h : CP M r kp H S fl n tx) (hw : WF r C L P s ln nn) (hj : j < L) : f_X6_frequency 650 (nI j) M = some (r (208 + j)) := by
  have hl := lookC (x := nI j) h.1.1 hw.2.1.1 (o := 0 + 1 + 1) (g := fun i => r (208 + i)) (fun i hi => (h.1.1.r hi).1)
  unfold f_X6_frequency
  rw [hl.2 j hj rfl, Option.bind_some]
theorem c_freq_no {j : Nat} (h : CP M r kp H S fl n tx) (hw : WF r C L P s ln nn) (hj : j = L) : f_X6_frequency 650 (nI j) M = some (-1) := by
  have hl := lookC (x := nI j) h.1.1 hw.2.1.1 (o := 0 + 1 + 1) (g := fun i => r (208 + i)) (fun i hi => (h.1.1.r hi).1)
  have h100 := hw.2.1.1.2
  unfold f_X6_frequency
  rw [hl.1 ?_, Option.bind_some]
  cases hx : wi (nI j) 0 (nI L - 1) with
  | false => rfl
  | true =>
    obtain ⟨i, hi, e⟩ := (wi_ix (by omega)).mp hx
    have := (eq_nI (by omega) (by omega)).mp e
    omega
theorem c_cg {j : Nat} (h : CP M r kp H S fl n tx) (hw : WF r C L P s ln nn) (hj : j < L) : f_X6_controlGain 650 (nI j) M = some (r (1508 + j)) := by
  have hl := lookC (x := nI j) h.1.1 hw.2.1.1 (o := 0 + 8) (g := fun i => r (1508 + i)) (fun i hi => (h.1.1.r hi).2.1)
  unfold f_X6_controlGain
  rw [hl.2 j hj rfl, Option.bind_some]
theorem c_dr {j : Nat} (h : CP M r kp H S fl n tx) (hw : WF r C L P s ln nn) (hj : j < L) : f_X6_driveAt 650 (nI j) M = some (r (1608 + j)) := by
  have hl := lookC (x := nI j) h.1.1 hw.2.1.1 (o := 0 + 9) (g := fun i => r (1608 + i)) (fun i hi => (h.1.1.r hi).2.2.1)
  unfold f_X6_driveAt
  rw [hl.2 j hj rfl, Option.bind_some]
theorem c_nb {j : Nat} (h : CP M r kp H S fl n tx) (hw : WF r C L P s ln nn) (hj : j < L) : f_X6_notchedBy 650 (nI j) M = some (r (1708 + j)) := by
  have hl := lookC (x := nI j) h.1.1 hw.2.1.1 (o := 0 + 10) (g := fun i => r (1708 + i)) (fun i hi => (h.1.1.r hi).2.2.2)
  unfold f_X6_notchedBy
  rw [hl.2 j hj rfl, Option.bind_some]
theorem c_level {j c : Nat} (h : CP M r kp H S fl n tx) (hw : WF r C L P s ln nn) (hj : j < L) (hc : c < C) : f_X6_level 650 (nI j) (nI c) M = some (r (308 + 6 * j + c)) := by
  have h5 := hw.1.1
  have hCn : Cn r = C := by unfold Cn; rw [h5.1, ix_nI (by omega)]
  have hl := lookC (x := nI j) h.1.1 hw.2.1.1 (o := 0 + 6 + 5 + 9 * c + 7) (g := fun i => r (308 + 6 * i + c)) (fun i hi => by
      rw [show 0 + 6 + 5 + 9 * c + 7 = 0 + (18 + 9 * c) by omega]
      exact (h.1.1.cl (by omega) (by omega) hi).1)
  unfold f_X6_level
  rw [hasChC h.1.1 h5.1, Option.bind_some, (wi_ix (by omega)).mpr ⟨c, hc, rfl⟩, if_neg bz_t0, gd_of (inb_nI (by omega) (by omega)), ix_nI (by omega), hl.2 j hj rfl, Option.bind_some]
theorem c_avg {j c : Nat} (h : CP M r kp H S fl n tx) (hw : WF r C L P s ln nn) (hj : j < L) (hc : c < C) : f_X6_averaged 650 (nI j) (nI c) M = some (r (908 + 6 * j + c)) := by
  have h5 := hw.1.1
  have hCn : Cn r = C := by unfold Cn; rw [h5.1, ix_nI (by omega)]
  have hl := lookC (x := nI j) h.1.1 hw.2.1.1 (o := 0 + 6 + 5 + 9 * c + 8) (g := fun i => r (908 + 6 * i + c)) (fun i hi => by
      rw [show 0 + 6 + 5 + 9 * c + 8 = 0 + (19 + 9 * c) by omega]
      exact (h.1.1.cl (by omega) (by omega) hi).2)
  unfold f_X6_averaged
  rw [hasChC h.1.1 h5.1, Option.bind_some, (wi_ix (by omega)).mpr ⟨c, hc, rfl⟩, if_neg bz_t0, gd_of (inb_nI (by omega) (by omega)), ix_nI (by omega), hl.2 j hj rfl, Option.bind_some]
theorem c_gain {c : Nat} {f : Int32} (h : CP M r kp H S fl n tx) (hw : WF r C L P s ln nn) (hc : c < C) (hf : wi f 1 2000 = true) : f_X6_gain 650 (nI c) f M = some (gainR r c f) := by
  have h5 := hw.1.1
  have hCn : Cn r = C := by unfold Cn; rw [h5.1, ix_nI (by omega)]
  unfold f_X6_gain
  rw [hasChC h.1.1 h5.1, Option.bind_some, isFrequency_ok, Option.bind_some, (wi_ix (by omega)).mpr ⟨c, hc, rfl⟩, if_neg bz_t0, hf, if_neg bz_t0, gd_of (inb_nI (by omega) (by omega)), ix_nI (by omega), show 0 + 6 + 5 + 9 * c = 0 + (11 + 9 * c) by omega, gainC_ok h.1.1 (by omega) (by omega) (hw.1.2.1 c hc).2.1 (smF2 hf), Option.bind_some]
theorem c_limit {c : Nat} {f : Int32} (h : CP M r kp H S fl n tx) (hw : WF r C L P s ln nn) (hc : c < C) (hf : wi f 1 2000 = true) : f_X6_limit 650 (nI c) f M = some (limR r c f) := by
  have h5 := hw.1.1
  have hCn : Cn r = C := by unfold Cn; rw [h5.1, ix_nI (by omega)]
  obtain ⟨N, k1, k2, -⟩ := (hw.1.2.1 c hc).2.2.1
  unfold f_X6_limit
  rw [hasChC h.1.1 h5.1, Option.bind_some, isFrequency_ok, Option.bind_some, (wi_ix (by omega)).mpr ⟨c, hc, rfl⟩, if_neg bz_t0, hf, if_neg bz_t0, gd_of (inb_nI (by omega) (by omega)), ix_nI (by omega), show 0 + 6 + 5 + 9 * c = 0 + (11 + 9 * c) by omega, limC_ok h.1.1 (by omega) (by omega) ⟨N, k1, k2⟩, Option.bind_some]
theorem c_target0 {f : Int32} (h : CP M r kp H S fl n tx) (h4 : r 4 = 0) (hf : wi f 1 2000 = true) : f_X6_target 650 f M = some (-6) := by
  unfold f_X6_target
  rw [isFrequency_ok, Option.bind_some, hf, if_neg bz_t0]
  unfold f_X3_targetAt
  rw [if_pos (by rw [show M (0 + 3) 2 = r 4 from h.1.1.s.2.2.2.2.2.2.2.2.2.2.2, h4]), Option.bind_some]
theorem c_chan {c w : Nat} (h : CP M r kp H S fl n tx) (hw : WF r C L P s ln nn) (hc : c < C) (hw7 : w < 8) : f_X6_channel 650 (nI c) (nI w) M = some (chV r c w) := by
  have h5 := hw.1.1
  have hCn : Cn r = C := by unfold Cn; rw [h5.1, ix_nI (by omega)]
  unfold f_X6_channel
  rw [hasChC h.1.1 h5.1, Option.bind_some, isWithin_ok, Option.bind_some, (wi_ix (by omega)).mpr ⟨c, hc, rfl⟩, if_neg bz_t0, show wi (nI w) 0 7 = true from wiN (a := 0) (b := 7) (by omega) (by omega) (by omega), if_neg bz_t0, gd_of (inb_nI (by omega) (by omega)), ix_nI (by omega), show 0 + 6 + 5 + 9 * c = 0 + (11 + 9 * c) by omega]
  obtain ⟨c0, c1, c2, c9, c14, c15, c16, c17⟩ := h.1.1.c (c := c) (by omega) (by omega)
  rcases (show w = 0 ∨ w = 1 ∨ w = 2 ∨ w = 3 ∨ w = 4 ∨ w = 5 ∨ w = 6 ∨ w = 7 by omega) with rfl | rfl | rfl | rfl | rfl | rfl | rfl | rfl
  · rw [show nI 0 = 0 from rfl, bzc c0 (hw.1.2.1 c hc).1, Option.bind_some]; rfl
  · rw [show f_X0_propertyOf (0 + (11 + 9 * c)) (nI 1) M = some (M (0 + (11 + 9 * c)) 1) from rfl, c1, Option.bind_some]; rfl
  · rw [show f_X0_propertyOf (0 + (11 + 9 * c)) (nI 2) M = some (M (0 + (11 + 9 * c)) 2) from rfl, c2, Option.bind_some]; rfl
  · rw [show f_X0_propertyOf (0 + (11 + 9 * c)) (nI 3) M = some (M (0 + (11 + 9 * c)) 9) from rfl, c9, Option.bind_some]; rfl
  · rw [show f_X0_propertyOf (0 + (11 + 9 * c)) (nI 4) M = some (M (0 + (11 + 9 * c)) 14) from rfl, c14, Option.bind_some]; rfl
  · rw [show f_X0_propertyOf (0 + (11 + 9 * c)) (nI 5) M = some (M (0 + (11 + 9 * c)) 15) from rfl, c15, Option.bind_some]; rfl
  · rw [show f_X0_propertyOf (0 + (11 + 9 * c)) (nI 6) M = some (M (0 + (11 + 9 * c)) 16) from rfl, c16, Option.bind_some]; rfl
  · rw [show f_X0_propertyOf (0 + (11 + 9 * c)) (nI 7) M = some (M (0 + (11 + 9 * c)) 17) from rfl, c17, Option.bind_some]; rfl
theorem c_chan_no {c : Nat} {y : Int32} (h : CP M r kp H S fl n tx) (hw : WF r C L P s ln nn) (hc : c = C) : f_X6_channel 650 (nI c) y M = some (-1) := by
  have h5 := hw.1.1
  unfold f_X6_channel
  rw [hasChC h.1.1 h5.1, Option.bind_some]
  cases hx : wi (nI c) 0 (nI C - 1) with
  | false => rw [if_pos bz_f0]
  | true =>
    obtain ⟨i, hi, e⟩ := (wi_ix (by omega)).mp hx
    have := (eq_nI (by omega) (by omega)).mp e
    omega
theorem c_total {w : Nat} (h : CP M r kp H S fl n tx) (hw : WF r C L P s ln nn) (h19 : w < 20) : f_X6_total 650 (nI w) M = some (totV r kp n w) := by
  obtain ⟨⟨a, -⟩, ⟨nt, hh⟩, -, ht⟩ := h
  have h7 := hw.2.2.2.2.2.2.2.1
  obtain ⟨t1, t2, t3, t4, t5, t6, t7, t8, t9, t10, t11, t12⟩ := a.s
  unfold f_X6_total
  rw [isWithin_ok, Option.bind_some, show wi (nI w) 0 19 = true from wiN (a := 0) (b := 19) (by omega) (by omega) (by omega), if_neg bz_t0]
  by_cases hb : w < 14
  · rw [if_pos (by rw [show (14 : Int32) = nI 14 from rfl, lt_nI (by omega) (by omega)]; exact hb)]
    rcases (show w = 0 ∨ w = 1 ∨ w = 2 ∨ w = 3 ∨ w = 4 ∨ w = 5 ∨ w = 6 ∨ w = 7 ∨ w = 8 ∨ w = 9 ∨ w = 10 ∨ w = 11 ∨ w = 12 ∨ w = 13 by omega) with rfl | rfl | rfl | rfl | rfl | rfl | rfl | rfl | rfl | rfl | rfl | rfl | rfl | rfl
    · exact congrArg some t3
    · show (Option.bind (if M 0 8 = 0 then some (-6) else some (M 0 9)) fun v6 => some v6) = some (if r 1 = 0 then -6 else r 2)
      by_cases z : r 1 = 0
      · rw [if_pos (t3.trans z), Option.bind_some, if_pos z]
      · rw [if_neg (fun q => z (t3.symm.trans q)), Option.bind_some, if_neg z]
        exact congrArg some t4
    · exact congrArg some t5
    · exact congrArg some t1
    · exact congrArg some t12
    · exact congrArg some t2
    · exact congrArg some t7
    · show (Option.bind (if bz (nz (M 0 11)) = 0 then some (bz false) else some (bz true)) fun v6 => some v6) = some (r 7)
      rw [show M 0 11 = r 7 from t6]
      rcases h7 with q | q <;> rw [q] <;> rfl
    · exact congrArg some t8
    · exact congrArg some t9
    · exact congrArg some t10
    · exact congrArg some t11
    · exact congrArg some hh.2.2.1
    · exact congrArg some ht.1
  · rw [if_neg (by rw [show (14 : Int32) = nI 14 from rfl, lt_nI (by omega) (by omega)]; exact hb)]
    obtain ⟨j, rfl⟩ : ∃ j, w = j + 14 := ⟨w - 14, by omega⟩
    have ej : nI (j + 14) - 14 = nI j := by
      rw [show (14 : Int32) = nI 14 from rfl, sub_nI (by omega)]
      congr 1
    rw [ej, gd_of (inb_nI (by omega) (by omega)), ix_nI (by omega), a.g (i := j) (by omega)]
    rfl
theorem c_total_no {x : Int32} (hx : wi x 0 19 = false) : f_X6_total 650 x M = some (-2) := by
  unfold f_X6_total
  rw [isWithin_ok, Option.bind_some, hx, if_pos bz_f0]
theorem c_res {c : Nat} {y : Int32} (h : CP M r kp H S fl n tx) (hw : WF r C L P s ln nn) (hc : c < C) : (0 ≤ y → f_X6_resonance 650 (nI c) y M = some (rsV (fun k => r (908 + 6 * k + c)) L y L 0)) ∧ (¬ 0 ≤ y → f_X6_resonance 650 (nI c) y M = some (-2)) := by
  have h5 := hw.1.1
  have h0 := hw.2.1.1
  have hCn : Cn r = C := by unfold Cn; rw [h5.1, ix_nI (by omega)]
  unfold f_X6_resonance
  rw [hasChC h.1.1 h5.1, Option.bind_some, (wi_ix (by omega)).mpr ⟨c, hc, rfl⟩, if_neg bz_t0]
  constructor
  · intro q
    rw [if_pos q, gd_of (inb_nI (by omega) (by omega)), ix_nI (by omega)]
    unfold f_X0_resonanceAt
    rw [show M (0 + 1) 1 = nI L from h.1.1.s.1.trans h0.1]
    have v1 := resF (M := M) (a := 0 + 6 + 5 + 9 * c) (L := L) (g := fun k => r (908 + 6 * k + c)) (x2 := y) h0.2 (fun k hk => by
        rw [show 0 + 6 + 5 + 9 * c + 8 = 0 + (19 + 9 * c) by omega]
        exact (h.1.1.cl (by omega) (by omega) hk).2) L 0 FU (by omega) (by unfold FU; omega)
    rw [show f_X0_resonanceAt_2 (0 + 6 + 5 + 9 * c) M FU y (nI L) 0 = _ from v1, Option.bind_some]
  · intro q
    rw [if_neg q]
end CPL
/-- what a resonance is -/
theorem rsV_of {g : Nat → Int32} {L p a : Nat} (hp : p ≤ 1000) (hL : L ≤ 100) : ∀ (d k : Nat), k + d ≤ L → rsV g L (nI p) d k = nI a → a < 1000 → a < L ∧ ahN g L a L = p := by
  intro d
  induction d with
  | zero =>
    intro k hk h ha
    rw [rsV] at h
    exact absurd h.symm (ne6_nI (by omega))
  | succ d ih =>
    intro k hk h ha
    rw [rsV] at h
    have hle := ahN_le (g := g) (L := L) (k := k) L
    by_cases q : resS g L k = true
    · rw [if_pos q] at h
      by_cases z : nI (ahN g L k L) = nI p
      · rw [if_pos z] at h
        have := (eq_nI (by omega) (by omega)).mp h
        subst this
        exact ⟨by omega, (eq_nI (by omega) (by omega)).mp z⟩
      · rw [if_neg z] at h
        exact ih (k + 1) (by omega) h ha
    · rw [if_neg q] at h
      exact ih (k + 1) (by omega) h ha
theorem rsV_ran {g : Nat → Int32} {L : Nat} {x2 : Int32} : ∀ (d k : Nat), rsV g L x2 d k = -6 ∨ ∃ a, a < k + d ∧ rsV g L x2 d k = nI a := by
  intro d
  induction d with
  | zero => intro k; exact Or.inl rfl
  | succ d ih =>
    intro k
    rw [rsV]
    have hn : rsV g L x2 d (k + 1) = -6 ∨ ∃ a, a < k + (d + 1) ∧ rsV g L x2 d (k + 1) = nI a := by
      rcases ih (k + 1) with e | ⟨a, h1, h2⟩
      · exact Or.inl e
      · exact Or.inr ⟨a, by omega, h2⟩
    split
    · split
      · exact Or.inr ⟨k, by omega, rfl⟩
      · exact hn
    · exact hn
theorem ahB_mono {g : Nat → Int32} {a b j : Nat} (h : g a < g b) (hb : ahB g b j = true) : ahB g a j = true := by
  unfold ahB at hb ⊢
  by_cases q : g b < g j
  · rw [if_pos (Int32.lt_trans h q)]
  · rw [if_neg q] at hb
    by_cases z : g j = g b
    · rw [if_pos (by rw [z]; exact h)]
    · rw [if_neg z] at hb; exact absurd hb (by decide)
theorem ahN_mono {g : Nat → Int32} {L a b : Nat} (h : g a < g b) : ∀ j, ahN g L b j ≤ ahN g L a j
  | 0 => Nat.le_refl _
  | j + 1 => by
    have := ahN_mono (L := L) h j
    rw [ahN, ahN]
    by_cases q : (ahB g b j && resS g L j) = true
    · rw [if_pos q]
      rw [Bool.and_eq_true] at q
      rw [if_pos (by rw [Bool.and_eq_true]; exact ⟨ahB_mono h q.1, q.2⟩)]
      omega
    · rw [if_neg q]
      split <;> omega
/-- of two resonances the one that is told first has no smaller gain -/
theorem rsV_ord {g : Nat → Int32} {L p a b : Nat} (hp : p ≤ 900) (hL : L ≤ 100) (ha : a < L) (hb : b < L) (h1 : rsV g L (nI p) L 0 = nI a) (h2 : rsV g L (nI (p + 1)) L 0 = nI b) : g b ≤ g a := by
  obtain ⟨-, e1⟩ := rsV_of (by omega) hL L 0 (by omega) h1 (by omega)
  obtain ⟨-, e2⟩ := rsV_of (by omega) hL L 0 (by omega) h2 (by omega)
  rcases Classical.em (g a < g b) with q | q
  · have := ahN_mono (L := L) q L
    omega
  · exact nlt_le.mp q
