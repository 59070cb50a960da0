/-! PURE: the law's number of all that is told depends on the row alone -/
theorem nIne {a : Nat} (x : Int32) (k : Nat) (hx : x = nI k) (ha : a ≤ 1000000) (hk : k ≤ 1000000) (h : a ≠ k) : ¬ nI a = x := by
  subst hx
  rw [eq_nI ha hk]
  exact h
section CPT
variable {M : MM} {r : Nat → Int32} {kp n : Nat} {H S : Nat → Nat → Int32} {fl tx : Nat → Int32} {C L P s ln nn : Nat}
theorem t_0 (h : CP M r kp H S fl n tx) (hw : WF r C L P s ln nn) : f_X6_total 650 0 M = some (nI s) := (c_total h hw (w := 0) (by omega)).trans (congrArg some hw.2.2.2.2.2.1.1)
theorem t_1 (h : CP M r kp H S fl n tx) (hw : WF r C L P s ln nn) : f_X6_total 650 1 M = some (if s = 0 then -6 else nI ln) := by
  have h1 := hw.2.2.2.2.2.1
  refine (c_total h hw (w := 1) (by omega)).trans (congrArg some ?_)
  show (if r 1 = 0 then -6 else r 2) = _
  rw [h1.1, hw.2.2.2.2.2.2.1.1]
  by_cases q : s = 0
  · rw [if_pos q, if_pos (by rw [q]; rfl)]
  · rw [if_neg q, if_neg (nIne 0 0 rfl (by omega) (by omega) q)]
theorem t_2 (h : CP M r kp H S fl n tx) (hw : WF r C L P s ln nn) : f_X6_total 650 2 M = some (r 3) := c_total h hw (w := 2) (by omega)
theorem t_3 (h : CP M r kp H S fl n tx) (hw : WF r C L P s ln nn) : f_X6_total 650 3 M = some (nI L) := (c_total h hw (w := 3) (by omega)).trans (congrArg some hw.2.1.1.1)
theorem t_4 (h : CP M r kp H S fl n tx) (hw : WF r C L P s ln nn) : f_X6_total 650 4 M = some (nI P) := (c_total h hw (w := 4) (by omega)).trans (congrArg some hw.2.2.1.1.1)
theorem t_5 (h : CP M r kp H S fl n tx) (hw : WF r C L P s ln nn) : f_X6_total 650 5 M = some (nI C) := (c_total h hw (w := 5) (by omega)).trans (congrArg some hw.1.1.1)
theorem t_8 (h : CP M r kp H S fl n tx) (hw : WF r C L P s ln nn) : f_X6_total 650 8 M = some (r 8) := c_total h hw (w := 8) (by omega)
theorem t_9 (h : CP M r kp H S fl n tx) (hw : WF r C L P s ln nn) : f_X6_total 650 9 M = some (r 9) := c_total h hw (w := 9) (by omega)
theorem t_10 (h : CP M r kp H S fl n tx) (hw : WF r C L P s ln nn) : f_X6_total 650 10 M = some (r 10) := c_total h hw (w := 10) (by omega)
theorem t_11 (h : CP M r kp H S fl n tx) (hw : WF r C L P s ln nn) : f_X6_total 650 11 M = some (r 11) := c_total h hw (w := 11) (by omega)
theorem t_12 (h : CP M r kp H S fl n tx) (hw : WF r C L P s ln nn) : f_X6_total 650 12 M = some (nI kp) := c_total h hw (w := 12) (by omega)
theorem t_13 (h : CP M r kp H S fl n tx) (hw : WF r C L P s ln nn) : f_X6_total 650 13 M = some (nI n) := c_total h hw (w := 13) (by omega)
theorem t_17 (h : CP M r kp H S fl n tx) (hw : WF r C L P s ln nn) : f_X6_total 650 17 M = some (r 15) := c_total h hw (w := 17) (by omega)
theorem totV_ind {kp' n' : Nat} {w : Nat} (h1 : w ≠ 12) (h2 : w ≠ 13) : totV r kp n w = totV r kp' n' w := by
  rcases (show w < 12 ∨ ∃ j, w = j + 14 by
    rcases Nat.lt_or_ge w 12 with q | q
    · exact Or.inl q
    · exact Or.inr ⟨w - 14, by omega⟩) with q | ⟨j, rfl⟩
  · rcases (show w = 0 ∨ w = 1 ∨ w = 2 ∨ w = 3 ∨ w = 4 ∨ w = 5 ∨ w = 6 ∨ w = 7 ∨ w = 8 ∨ w = 9 ∨ w = 10 ∨ w = 11 by omega) with rfl | rfl | rfl | rfl | rfl | rfl | rfl | rfl | rfl | rfl | rfl | rfl <;> rfl
  · rfl
end CPT
theorem t113 {r : Nat → Int32} {C L P s ln nn j : Nat} (hw : WF r C L P s ln nn) (hj : j < L) : ∀ (d c : Nat) (y : Int64), c + d = C → ∃ y' : Int64, ∀ (M : MM) (kp n : Nat) (H S : Nat → Nat → Int32) (fl tx : Nat → Int32) (rec : Int64 → Int32 → Option Int64) (k : Nat), d < k → CP M r kp H S fl n tx → f_L_told_113 650 M rec k y (nI j) (nI c) = rec y' (nI (j + 1)) := by
  have hC := hw.1.1.2
  intro d
  induction d with
  | zero =>
    intro c y hc
    refine ⟨y, fun M kp n H S fl tx rec k hk h => ?_⟩
    obtain ⟨k, rfl⟩ : ∃ k', k = k' + 1 := ⟨k - 1, by omega⟩
    rw [f_L_told_113, t_5 h hw, Option.bind_some, if_pos (by rw [le_nI (by omega) (by omega)]; omega), nI_1]
  | succ d ih =>
    intro c y hc
    obtain ⟨y', hy⟩ := ih (c + 1) ((31 * ((31 * y) + (Int32.toInt64 (r (308 + 6 * j + c))))) + (Int32.toInt64 (r (908 + 6 * j + c)))) (by omega)
    refine ⟨y', fun M kp n H S fl tx rec k hk h => ?_⟩
    obtain ⟨k, rfl⟩ : ∃ k', k = k' + 1 := ⟨k - 1, by omega⟩
    rw [f_L_told_113, t_5 h hw, Option.bind_some, if_neg (by rw [le_nI (by omega) (by omega)]; omega), c_level h hw hj (by omega), Option.bind_some, c_avg h hw hj (by omega), Option.bind_some, nI_1]
    exact hy M kp n H S fl tx rec k (by omega) h
theorem t179 {r : Nat → Int32} {C L P s ln nn c : Nat} (hw : WF r C L P s ln nn) (hc : c < C) : ∀ (d w : Nat) (y : Int64), w + d = 8 → ∃ y' : Int64, ∀ (M : MM) (kp n : Nat) (H S : Nat → Nat → Int32) (fl tx : Nat → Int32) (rec : Int64 → Int32 → Option Int64) (k : Nat), d < k → CP M r kp H S fl n tx → f_L_told_179 650 M rec k y (nI c) (nI w) = rec y' (nI (c + 1)) := by
  intro d
  induction d with
  | zero =>
    intro w y hc'
    refine ⟨31 * y + Int32.toInt64 (gainR r c 100), fun M kp n H S fl tx rec k hk h => ?_⟩
    obtain ⟨k, rfl⟩ : ∃ k', k = k' + 1 := ⟨k - 1, by omega⟩
    rw [f_L_told_179, if_pos (by rw [show (8 : Int32) = nI 8 from rfl, le_nI (by omega) (by omega)]; omega), c_gain h hw hc (by decide), Option.bind_some, nI_1]
  | succ d ih =>
    intro w y hc'
    obtain ⟨y', hy⟩ := ih (w + 1) (31 * y + Int32.toInt64 (chV r c w)) (by omega)
    refine ⟨y', fun M kp n H S fl tx rec k hk h => ?_⟩
    obtain ⟨k, rfl⟩ : ∃ k', k = k' + 1 := ⟨k - 1, by omega⟩
    rw [f_L_told_179, if_neg (by rw [show (8 : Int32) = nI 8 from rfl, le_nI (by omega) (by omega)]; omega), c_chan h hw hc (by omega), Option.bind_some, nI_1]
    exact hy M kp n H S fl tx rec k (by omega) h
theorem t167 {r : Nat → Int32} {C L P s ln nn : Nat} (hw : WF r C L P s ln nn) : ∀ (d c : Nat) (y : Int64), c + d = C → ∃ y' : Int64, ∀ (M : MM) (kp n : Nat) (H S : Nat → Nat → Int32) (fl tx : Nat → Int32) (k : Nat), d < k → CP M r kp H S fl n tx → f_L_told_167 650 M k y (nI c) = some y' := by
  have hC := hw.1.1.2
  intro d
  induction d with
  | zero =>
    intro c y hc
    refine ⟨y, fun M kp n H S fl tx k hk h => ?_⟩
    obtain ⟨k, rfl⟩ : ∃ k', k = k' + 1 := ⟨k - 1, by omega⟩
    rw [f_L_told_167, t_5 h hw, Option.bind_some, if_pos (by rw [le_nI (by omega) (by omega)]; omega)]
  | succ d ih =>
    intro c y hc
    obtain ⟨y1, h1⟩ := t179 hw (show c < C by omega) 8 0 y (by omega)
    obtain ⟨y', hy⟩ := ih (c + 1) y1 (by omega)
    refine ⟨y', fun M kp n H S fl tx k hk h => ?_⟩
    obtain ⟨k, rfl⟩ : ∃ k', k = k' + 1 := ⟨k - 1, by omega⟩
    rw [f_L_told_167, t_5 h hw, Option.bind_some, if_neg (by rw [le_nI (by omega) (by omega)]; omega), show (0 : Int32) = nI 0 from rfl, h1 M kp n H S fl tx _ FU (by unfold FU; omega) h]
    exact hy M kp n H S fl tx k (by omega) h
theorem t49 {r : Nat → Int32} {C L P s ln nn : Nat} (hw : WF r C L P s ln nn) : ∀ (d j : Nat) (y : Int64), j + d = L → ∃ y' : Int64, ∀ (M : MM) (kp n : Nat) (H S : Nat → Nat → Int32) (fl tx : Nat → Int32) (k : Nat), d < k → CP M r kp H S fl n tx → f_L_told_49 650 M k y (nI j) = some y' := by
  have hL := hw.2.1.1.2
  have hC := hw.1.1.2
  intro d
  induction d with
  | zero =>
    intro j y hj
    obtain ⟨y', hy⟩ := t167 hw C 0 y (by omega)
    refine ⟨y', fun M kp n H S fl tx k hk h => ?_⟩
    obtain ⟨k, rfl⟩ : ∃ k', k = k' + 1 := ⟨k - 1, by omega⟩
    rw [f_L_told_49, t_3 h hw, Option.bind_some, if_pos (by rw [le_nI (by omega) (by omega)]; omega)]
    exact hy M kp n H S fl tx FU (by unfold FU; omega) h
  | succ d ih =>
    intro j y hj
    obtain ⟨y1, h1⟩ := t113 hw (show j < L by omega) C 0 ((31 * ((31 * ((31 * ((31 * y) + (Int32.toInt64 (r (208 + j))))) + (Int32.toInt64 (r (1508 + j))))) + (Int32.toInt64 (r (1608 + j))))) + (Int32.toInt64 (r (1708 + j)))) (by omega)
    obtain ⟨y', hy⟩ := ih (j + 1) y1 (by omega)
    refine ⟨y', fun M kp n H S fl tx k hk h => ?_⟩
    obtain ⟨k, rfl⟩ : ∃ k', k = k' + 1 := ⟨k - 1, by omega⟩
    rw [f_L_told_49, t_3 h hw, Option.bind_some, if_neg (by rw [le_nI (by omega) (by omega)]; omega), c_freq h hw (by omega), Option.bind_some, c_cg h hw (by omega), Option.bind_some, c_dr h hw (by omega), Option.bind_some, c_nb h hw (by omega), Option.bind_some, show (0 : Int32) = nI 0 from rfl, h1 M kp n H S fl tx _ FU (by unfold FU; omega) h]
    exact hy M kp n H S fl tx k (by omega) h
theorem t6 {r : Nat → Int32} {C L P s ln nn : Nat} (hw : WF r C L P s ln nn) : ∀ (d w : Nat) (y : Int64), w + d = 20 → ∃ y' : Int64, ∀ (M : MM) (kp n : Nat) (H S : Nat → Nat → Int32) (fl tx : Nat → Int32) (k : Nat), d < k → CP M r kp H S fl n tx → f_L_told_6 650 M k y (nI w) = some y' := by
  have hL := hw.2.1.1.2
  intro d
  induction d with
  | zero =>
    intro w y hj
    obtain ⟨y', hy⟩ := t49 hw L 0 y (by omega)
    refine ⟨y', fun M kp n H S fl tx k hk h => ?_⟩
    obtain ⟨k, rfl⟩ : ∃ k', k = k' + 1 := ⟨k - 1, by omega⟩
    rw [f_L_told_6, if_pos (by rw [show (20 : Int32) = nI 20 from rfl, le_nI (by omega) (by omega)]; omega)]
    exact hy M kp n H S fl tx FU (by unfold FU; omega) h
  | succ d ih =>
    intro w y hj
    have h20 : ¬ (20 : Int32) ≤ nI w := by rw [show (20 : Int32) = nI 20 from rfl, le_nI (by omega) (by omega)]; omega
    by_cases q : w = 12 ∨ w = 13
    · obtain ⟨y', hy⟩ := ih (w + 1) y (by omega)
      refine ⟨y', fun M kp n H S fl tx k hk h => ?_⟩
      obtain ⟨k, rfl⟩ : ∃ k', k = k' + 1 := ⟨k - 1, by omega⟩
      have hn := hy M kp n H S fl tx k (by omega) h
      rw [f_L_told_6, if_neg h20]
      unfold f_L_told_24 f_L_told_40
      rw [nI_1]
      rcases q with rfl | rfl
      · rw [if_pos (show nI 12 = 12 from rfl)]; exact hn
      · rw [if_neg (show ¬ nI 13 = 12 by decide), if_pos (show nI 13 = 13 from rfl)]; exact hn
    · obtain ⟨y', hy⟩ := ih (w + 1) (31 * y + Int32.toInt64 (totV r 0 0 w)) (by omega)
      refine ⟨y', fun M kp n H S fl tx k hk h => ?_⟩
      obtain ⟨k, rfl⟩ : ∃ k', k = k' + 1 := ⟨k - 1, by omega⟩
      have hn := hy M kp n H S fl tx k (by omega) h
      rw [f_L_told_6, if_neg h20, if_neg (nIne 12 12 rfl (by omega) (by omega) (fun z => q (Or.inl z))), if_neg (nIne 13 13 rfl (by omega) (by omega) (fun z => q (Or.inr z))), c_total h hw (by omega), Option.bind_some, totV_ind (kp' := 0) (n' := 0) (fun z => q (Or.inl z)) (fun z => q (Or.inr z))]
      unfold f_L_told_40
      rw [nI_1]
      exact hn
theorem told_ex {r : Nat → Int32} (hw : WFr r) : ∃ v : Int64, ∀ (M : MM) (kp n : Nat) (H S : Nat → Nat → Int32) (fl tx : Nat → Int32), CP M r kp H S fl n tx → f_L_told 650 M = some v := by
  obtain ⟨C, L, P, s, ln, nn, hw⟩ := hw
  obtain ⟨y', hy⟩ := t6 hw 20 0 7 (by omega)
  exact ⟨y', fun M kp n H S fl tx h => hy M kp n H S fl tx FU (by unfold FU; omega) h⟩
