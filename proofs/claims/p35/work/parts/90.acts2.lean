/-! PURE: setting and texts among the law's actions; all actions -/
section CPB
variable {M : MM} {r : Nat → Int32} {kp n : Nat} {H S : Nat → Nat → Int32} {fl tx : Nat → Int32} {C L P s ln nn B : Nat} {y z : Int32}
theorem tt_set {j : Nat} (h : CP M r kp H S fl n tx) (hw : WF r C L P s ln nn) (hj : j < 6) : f_X6_total 650 (14 + nI j) M = some (r (12 + j)) := by
  rw [show (14 : Int32) + nI j = nI (j + 14) by rw [show (14 : Int32) = nI 14 from rfl, nI_add, Nat.add_comm]]
  exact c_total h hw (w := j + 14) (by omega)
theorem why_j {j : Nat} {x : Int32} (hj : j < 6) : whyS (nI j) x = if wi x (sLE j) (sGR j) = true then 0 else -2 := by
  unfold whyS
  rw [if_pos (show wi (nI j) 0 5 = true from wiN (a := 0) (b := 5) (by omega) (by omega) (by omega)), ix_nI (by omega)]
theorem set_fin {j v : Nat} (h : CP M r kp H S fl n tx) (hg : GR r C L P s ln nn B) (hj : j < 6) (hv : v < 9) : ∃ q : Int32 × MM, f_X6_set 650 (nI j) (nI (1 + v)) M = some q ∧ ∀ b : Bool, b = wi (nI (1 + v)) (sLE j) (sGR j) → AQ y C L B r kp s (f_L_acts_521 650 (nI j) (r (12 + j)) (nI (1 + v)) q.1 b q.2) := by
  have hw := hg.1
  have st := c_set (x1 := nI j) (x2 := nI (1 + v)) h hw
  have hy := why_j (x := nI (1 + v)) hj
  cases hc : wi (nI (1 + v)) (sLE j) (sGR j) with
  | false =>
    rw [hc, if_neg (by decide)] at hy
    obtain ⟨M1, e1, c1⟩ := st.1 (by rw [hy]; decide)
    rw [hy] at e1
    refine ⟨(-2, M1), e1, fun b hb => ?_⟩
    subst hb
    refine AQ.same c1 (hg.mono (by omega)) ?_
    unfold f_L_acts_521 f_L_acts_537 f_L_acts_561 f_L_acts_569
    dsimp only
    rw [if_pos bz_f0, if_pos rfl, tt_set c1 hw hj, Option.bind_some, if_pos bz_f0, if_pos rfl]
  | true =>
    rw [hc, if_pos rfl] at hy
    obtain ⟨hv', M1, e1, c1⟩ := st.2 j hj rfl hy
    obtain ⟨nn', hw2⟩ := setWF hw hj hv'
    have h4 : j ≠ 4 := fun e => by
      subst e
      have e2 : wi (nI (1 + v)) (nI 10) (nI 90) = true := hv'
      rw [wi_dec (by omega) (by omega) (by omega)] at e2
      have := of_decide_eq_true e2
      omega
    refine ⟨(r (12 + j), M1), e1, fun b hb => ?_⟩
    subst hb
    refine AQ.rec c1 (GR.of (hg.mono (show B ≤ B + 60 by omega)) hw2 (fun k hk => upd_ne (by omega)) hg.2.2.1.2.1 hg.2.2.2.1 (fun q => by rw [upd_ne (by omega)]; exact hg.2.2.2.2 q)) ?_
    unfold f_L_acts_521 f_L_acts_537 f_L_acts_561 f_L_acts_569
    dsimp only
    rw [if_neg bz_t0, if_pos rfl, tt_set c1 hw2 hj, Option.bind_some, if_neg bz_t0, upd_eq, if_pos rfl]
theorem a_set (h : CP M r kp H S fl n tx) (hg : GR r C L P s ln nn B) : AQ y C L B r kp s (Option.bind (f_L_low z 6 M) fun v42 => Option.bind (f_X6_total 650 (14 + v42) M) fun v43 => Option.bind (f_L_low (z >>> (4 &&& 31)) 9 M) fun v44 => Option.bind (f_X6_set 650 v42 (1 + v44) M) fun v45 => if v42 = 0 then (if 3 ≤ (1 + v44) then (f_L_acts_521 650 v42 v43 (1 + v44) v45.1 false v45.2) else (f_L_acts_521 650 v42 v43 (1 + v44) v45.1 true v45.2)) else (if v42 = 1 then (if 9 ≤ (1 + v44) then (f_L_acts_521 650 v42 v43 (1 + v44) v45.1 false v45.2) else (f_L_acts_521 650 v42 v43 (1 + v44) v45.1 true v45.2)) else (if v42 = 2 then (if 6 ≤ (1 + v44) then (f_L_acts_521 650 v42 v43 (1 + v44) v45.1 false v45.2) else (f_L_acts_521 650 v42 v43 (1 + v44) v45.1 true v45.2)) else (if v42 = 4 then (f_L_acts_521 650 v42 v43 (1 + v44) v45.1 false v45.2) else (f_L_acts_521 650 v42 v43 (1 + v44) v45.1 true v45.2))))) := by
  have hw := hg.1
  obtain ⟨j, hj, e1⟩ := low_ok z (n := 6) (by omega) (by omega)
  obtain ⟨v, hv, e2⟩ := low_ok (z >>> (4 &&& 31)) (n := 9) (by omega) (by omega)
  obtain ⟨q, e3, fin⟩ := set_fin (y := y) h hg hj hv
  rw [show f_L_low z 6 M = some (nI j) from e1 M, Option.bind_some, tt_set h hw hj, Option.bind_some, show f_L_low (z >>> (4 &&& 31)) 9 M = some (nI v) from e2 M, Option.bind_some, one_add, e3, Option.bind_some]
  have wd : ∀ a b : Nat, a ≤ 100 → b ≤ 100 → wi (nI (1 + v)) (nI a) (nI b) = decide (a ≤ 1 + v ∧ 1 + v ≤ b) := fun a b ha hb => wi_dec (by omega) (by omega) (by omega)
  rcases (show j = 0 ∨ j = 1 ∨ j = 2 ∨ j = 3 ∨ j = 4 ∨ j = 5 by omega) with rfl | rfl | rfl | rfl | rfl | rfl
  · rw [if_pos (show nI 0 = 0 from rfl)]
    have w : wi (nI (1 + v)) (sLE 0) (sGR 0) = decide (0 ≤ 1 + v ∧ 1 + v ≤ 2) := wd 0 2 (by omega) (by omega)
    by_cases c : 3 ≤ 1 + v
    · rw [if_pos (by rw [show (3 : Int32) = nI 3 from rfl, le_nI (by omega) (by omega)]; exact c)]
      exact fin false (by rw [w, decide_eq_false (by omega)])
    · rw [if_neg (by rw [show (3 : Int32) = nI 3 from rfl, le_nI (by omega) (by omega)]; exact c)]
      exact fin true (by rw [w, decide_eq_true (by omega)])
  · rw [if_neg (show ¬ nI 1 = 0 by decide), if_pos (show nI 1 = 1 from rfl)]
    have w : wi (nI (1 + v)) (sLE 1) (sGR 1) = decide (1 ≤ 1 + v ∧ 1 + v ≤ 8) := wd 1 8 (by omega) (by omega)
    by_cases c : 9 ≤ 1 + v
    · rw [if_pos (by rw [show (9 : Int32) = nI 9 from rfl, le_nI (by omega) (by omega)]; exact c)]
      exact fin false (by rw [w, decide_eq_false (by omega)])
    · rw [if_neg (by rw [show (9 : Int32) = nI 9 from rfl, le_nI (by omega) (by omega)]; exact c)]
      exact fin true (by rw [w, decide_eq_true (by omega)])
  · rw [if_neg (show ¬ nI 2 = 0 by decide), if_neg (show ¬ nI 2 = 1 by decide), if_pos (show nI 2 = 2 from rfl)]
    have w : wi (nI (1 + v)) (sLE 2) (sGR 2) = decide (1 ≤ 1 + v ∧ 1 + v ≤ 5) := wd 1 5 (by omega) (by omega)
    by_cases c : 6 ≤ 1 + v
    · rw [if_pos (by rw [show (6 : Int32) = nI 6 from rfl, le_nI (by omega) (by omega)]; exact c)]
      exact fin false (by rw [w, decide_eq_false (by omega)])
    · rw [if_neg (by rw [show (6 : Int32) = nI 6 from rfl, le_nI (by omega) (by omega)]; exact c)]
      exact fin true (by rw [w, decide_eq_true (by omega)])
  · rw [if_neg (show ¬ nI 3 = 0 by decide), if_neg (show ¬ nI 3 = 1 by decide), if_neg (show ¬ nI 3 = 2 by decide), if_neg (show ¬ nI 3 = 4 by decide)]
    have w : wi (nI (1 + v)) (sLE 3) (sGR 3) = decide (1 ≤ 1 + v ∧ 1 + v ≤ 100) := wd 1 100 (by omega) (by omega)
    exact fin true (by rw [w, decide_eq_true (by omega)])
  · rw [if_neg (show ¬ nI 4 = 0 by decide), if_neg (show ¬ nI 4 = 1 by decide), if_neg (show ¬ nI 4 = 2 by decide), if_pos (show nI 4 = 4 from rfl)]
    have w : wi (nI (1 + v)) (sLE 4) (sGR 4) = decide (10 ≤ 1 + v ∧ 1 + v ≤ 90) := wd 10 90 (by omega) (by omega)
    exact fin false (by rw [w, decide_eq_false (by omega)])
  · rw [if_neg (show ¬ nI 5 = 0 by decide), if_neg (show ¬ nI 5 = 1 by decide), if_neg (show ¬ nI 5 = 2 by decide), if_neg (show ¬ nI 5 = 4 by decide)]
    have w : wi (nI (1 + v)) (sLE 5) (sGR 5) = decide (1 ≤ 1 + v ∧ 1 + v ≤ 9) := wd 1 9 (by omega) (by omega)
    exact fin true (by rw [w, decide_eq_true (by omega)])
theorem text_fin (h : CP M r kp H S fl 0 tx) (hg : GR r C L P s ln nn B) (hB : B + 60 < 900000) : AQ y C L B r kp s (f_L_acts_791 650 (measB s) M) := by
  have hw := hg.1
  have h1 := hw.2.2.2.2.2.1
  obtain ⟨M1, e1, c1⟩ := c_append (x := 120) h (by decide) (by omega)
  replace c1 := c1.ttx (tx' := tb5) (fun k hk => by
    have : k = 0 := by omega
    subst this
    rw [upd_eq]; rfl)
  obtain ⟨M2, e2, c2⟩ := c_fault c1
  rw [show faultS tb5 (0 + 1) 81 0 = 1 from fault_x] at e2
  obtain ⟨M3, e3, c3⟩ := c_run_bad c2 (by rw [show faultS tb5 (0 + 1) 81 0 = 1 from fault_x]; decide)
  obtain ⟨M4, e4, c4⟩ := c_append (x := 59) c3 (by decide) (by omega)
  obtain ⟨M5, e5, c5⟩ := c_append (x := 115) c4 (by decide) (by omega)
  obtain ⟨M6, e6, c6⟩ := c_append (x := 49) c5 (by decide) (by omega)
  obtain ⟨M7, e7, c7⟩ := c_append (x := 59) c6 (by decide) (by omega)
  replace c7 := c7.ttx (tx' := tb5) (fun k hk => by
    rcases (show k = 0 ∨ k = 1 ∨ k = 2 ∨ k = 3 ∨ k = 4 by omega) with rfl | rfl | rfl | rfl | rfl <;> rfl)
  obtain ⟨M8, e8, c8⟩ := c_run_5 c7 hw
  obtain ⟨M9, e9, c9⟩ := c_fault c8
  rw [fault_5] at e9
  have g9 : ∃ s' ln', GR (if measB s = true then loopS (abS r) else r) C L P s' ln' nn (B + 60) ∧ (if measB s = true then loopS (abS r) else r) 8 = r 8 + bz (measB s) := by
    cases hm : measB s with
    | true =>
      obtain ⟨s', ln', g', -, e⟩ := (hg.abort (meas_s hm)).loop (Or.inr (Or.inr rfl)) (by omega)
      rw [if_pos rfl]
      refine ⟨s', ln', g'.mono (by omega), ?_⟩
      rw [e]
      unfold abS
      rw [upd_ne (by omega), upd_ne (by omega), upd_ne (by omega)]
      rfl
    | false =>
      rw [if_neg (by decide)]
      exact ⟨s, ln, hg.mono (by omega), (Int32.add_zero _).symm⟩
  obtain ⟨s', ln', g9, k9⟩ := g9
  refine AQ.rec c9 g9 ?_
  unfold f_L_acts_791 f_L_acts_822 f_L_acts_892 f_L_acts_913 f_L_acts_932
  rw [e1, Option.bind_some]
  dsimp only
  rw [e2, Option.bind_some]
  dsimp only
  rw [if_pos rfl, e3, Option.bind_some]
  dsimp only
  rw [if_pos rfl, e4, Option.bind_some]
  dsimp only
  rw [t_8 c4 hw, Option.bind_some, e5, Option.bind_some]
  dsimp only
  rw [e6, Option.bind_some]
  dsimp only
  rw [e7, Option.bind_some]
  dsimp only
  rw [e8, Option.bind_some]
  dsimp only
  rw [if_neg bz_t0, e9, Option.bind_some]
  dsimp only
  have t8 := t_8 c9 g9.1
  have t13 := t_13 c9 g9.1
  rw [k9] at t8
  cases hm : measB s with
  | true =>
    rw [hm] at t8
    rw [if_pos rfl, if_pos rfl, if_neg bz_t0, if_pos rfl, t8, Option.bind_some, if_neg bz_t0, if_pos rfl, t13, Option.bind_some, if_pos (show nI 5 = 5 from rfl)]
  | false =>
    rw [hm] at t8
    rw [if_neg (show ¬ (false = true) by decide), if_pos rfl, if_pos bz_f0, if_pos rfl, t8, Option.bind_some, if_pos bz_f0, if_pos rfl, t13, Option.bind_some, if_pos (show nI 5 = 5 from rfl)]
theorem a_text (h : CP M r kp H S fl n tx) (hg : GR r C L P s ln nn B) (hB : B + 60 < 900000) : AQ y C L B r kp s (Option.bind (f_X6_clearText 650 M) fun v20 => if (nI s) = 1 then (f_L_acts_786 650 v20.2) else (if (nI s) = 2 then (f_L_acts_786 650 v20.2) else (f_L_acts_791 650 false v20.2))) := by
  have h1 := hg.1.2.2.2.2.2.1
  obtain ⟨M1, e1, c1⟩ := c_clear h
  have fin := text_fin (y := y) c1 hg hB
  unfold f_L_acts_786
  rw [e1, Option.bind_some]
  dsimp only
  by_cases q : s = 1 ∨ s = 2
  · have hm : measB s = true := by unfold measB; exact decide_eq_true q
    rw [hm] at fin
    rcases q with rfl | rfl
    · rw [if_pos (show nI 1 = 1 from rfl)]
      exact fin
    · rw [if_neg (show ¬ nI 2 = 1 by decide), if_pos (show nI 2 = 2 from rfl)]
      exact fin
  · have hm : measB s = false := by unfold measB; exact decide_eq_false q
    rw [hm] at fin
    rw [if_neg (nIne 1 1 rfl (by omega) (by omega) (fun e => q (Or.inl e))), if_neg (nIne 2 2 rfl (by omega) (by omega) (fun e => q (Or.inr e)))]
    exact fin
theorem acts_ok (h : CP M r kp H S fl n tx) (hg : GR r C L P s ln nn B) (hB : B + 60 < 900000) : AQ y C L B r kp s (f_L_acts 650 y z M) := by
  have hw := hg.1
  unfold f_L_acts
  rw [rests_ok h hw, Option.bind_some, t_0 h hw, Option.bind_some]
  by_cases k4 : 4 ≤ (y &&& 15)
  · rw [if_pos k4]
    by_cases k6 : 6 ≤ (y &&& 15)
    · rw [if_pos k6]
      by_cases q6 : (y &&& 15) = 6
      · rw [if_pos q6]
        by_cases b : (z &&& 1) = 1
        · rw [if_pos b]; exact a_hold h hg true
        · rw [if_neg b]; exact a_hold h hg false
      · rw [if_neg q6]
        by_cases q7 : (y &&& 15) = 7
        · rw [if_pos q7]; exact a_abort h hg
        · rw [if_neg q7]
          by_cases q8 : (y &&& 15) = 8
          · rw [if_pos q8]; exact a_set h hg
          · rw [if_neg q8]
            by_cases q9 : (y &&& 15) = 9
            · rw [if_pos q9]; exact a_mode h hg
            · rw [if_neg q9]
              by_cases q10 : (y &&& 15) = 10
              · rw [if_pos q10]; exact a_notch h hg
              · rw [if_neg q10]
                by_cases q11 : (y &&& 15) = 11
                · rw [if_pos q11]; exact a_fore h hg hB
                · rw [if_neg q11]
                  by_cases q12 : (y &&& 15) = 12
                  · rw [if_pos q12]; exact a_text h hg hB
                  · rw [if_neg q12]; exact a_point h hg
    · rw [if_neg k6]
      have k3 : ¬ (y &&& 15) ≤ 3 := fun e => by
        rw [i_le] at k4 e
        have t4 : (4 : Int32).toInt = 4 := by decide
        have t3 : (3 : Int32).toInt = 3 := by decide
        omega
      exact a_start h hg k3 k6
  · rw [if_neg k4]
    exact a_step h hg hB
end CPB
