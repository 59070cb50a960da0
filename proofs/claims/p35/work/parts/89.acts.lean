/-! PURE: each action of the law answers true, keeps the row good, and is recorded or changes nothing -/
def AQ (y : Int32) (C L B : Nat) (r : Nat → Int32) (kp s : Nat) (e : Option (Bool × MM)) : Prop := ∃ (M1 : MM) (r' : Nat → Int32) (kp' n' : Nat) (H' S' : Nat → Nat → Int32) (fl' tx' : Nat → Int32) (P' s' ln' nn' : Nat), e = some (true, M1) ∧ CP M1 r' kp' H' S' fl' n' tx' ∧ GR r' C L P' s' ln' nn' (B + 60) ∧ (r' = r ∨ (kp' = kp1 kp ∧ H' kp' = r) ∨ (¬ (y &&& 15) ≤ 3 ∧ ¬ 6 ≤ (y &&& 15) ∧ restB s = false))
theorem one_add (j : Nat) : (1 : Int32) + nI j = nI (1 + j) := by rw [show (1 : Int32) = nI 1 from rfl, nI_add]
theorem wi_dec {x a b : Nat} (hx : x ≤ 1000000) (ha : a ≤ 1000000) (hb : b ≤ 1000000) : wi (nI x) (nI a) (nI b) = decide (a ≤ x ∧ x ≤ b) := by
  by_cases q : a ≤ x ∧ x ≤ b
  · rw [decide_eq_true q]
    exact wiN hb q.1 q.2
  · rw [decide_eq_false q, wi_false, le_nI ha hx, le_nI hx hb]
    exact q
section CPA
variable {M : MM} {r : Nat → Int32} {kp n : Nat} {H S : Nat → Nat → Int32} {fl tx : Nat → Int32} {C L P s ln nn B : Nat} {y z : Int32}
theorem AQ.rec {M1 : MM} {r' : Nat → Int32} {n' P' s' ln' nn' : Nat} {fl' tx' : Nat → Int32} {S' : Nat → Nat → Int32} {e : Option (Bool × MM)} (c : CP M1 r' (kp1 kp) (hsS H kp r) S' fl' n' tx') (g : GR r' C L P' s' ln' nn' (B + 60)) (h : e = some (true, M1)) : AQ y C L B r kp s e := ⟨M1, r', kp1 kp, n', hsS H kp r, S', fl', tx', P', s', ln', nn', h, c, g, Or.inr (Or.inl ⟨rfl, hsS_top⟩)⟩
theorem AQ.same {M1 : MM} {n' kp' P' s' ln' nn' : Nat} {fl' tx' : Nat → Int32} {H' S' : Nat → Nat → Int32} {e : Option (Bool × MM)} (c : CP M1 r kp' H' S' fl' n' tx') (g : GR r C L P' s' ln' nn' (B + 60)) (h : e = some (true, M1)) : AQ y C L B r kp s e := ⟨M1, r, kp', n', H', S', fl', tx', P', s', ln', nn', h, c, g, Or.inl rfl⟩
theorem a_step (h : CP M r kp H S fl n tx) (hg : GR r C L P s ln nn B) (hB : B + 60 < 900000) : AQ y C L B r kp s (Option.bind (f_X6_total 650 8 M) fun v78 => Option.bind (f_L_low z 50 M) fun v79 => Option.bind (f_X6_step 650 (1 + v79) M) fun v80 => if (bz (restB s)) = 0 then (if v80.1 < 1 then (f_L_acts_114 650 v80.2) else (if (1 + v79) < v80.1 then (f_L_acts_114 650 v80.2) else (Option.bind (f_X6_total 650 8 v80.2) fun v84 => if v84 = (v78 + v80.1) then (if v80.1 = (1 + v79) then (f_L_acts_110 650 v80.2) else (Option.bind (f_L_rests 650 v80.2) fun v87 => if (bz v87) = 0 then (f_L_acts_114 650 v80.2) else (f_L_acts_110 650 v80.2))) else (f_L_acts_114 650 v80.2)))) else (if v80.1 = (-3) then (f_L_acts_115 650 true v80.2) else (f_L_acts_115 650 false v80.2))) := by
  have hw := hg.1
  have h1 := hw.2.2.2.2.2.1
  obtain ⟨j, hj, el⟩ := low_ok z (n := 50) (by omega) (by omega)
  have st := c_step (X := 1 + j) h hw (by omega) (by omega)
  unfold f_L_acts_110 f_L_acts_114 f_L_acts_115
  rw [t_8 h hw, Option.bind_some, show f_L_low z 50 M = some (nI j) from el M, Option.bind_some, one_add]
  cases hb : restB s with
  | true =>
    obtain ⟨M1, e1, c1⟩ := st.1 hb
    rw [e1, Option.bind_some]
    exact AQ.same c1 (hg.mono (by omega)) (by rw [if_neg bz_t0]; rfl)
  | false =>
    obtain ⟨M1, e1, c1⟩ := st.2 hb
    obtain ⟨s', ln', g', k8, kr⟩ := GR.lp (1 + j) 0 r C L P s ln nn B hg (by omega)
    have hge := lpS_ge (1 + j) 0 r
    have hgo := lpS_ge j (0 + 1) (loopS r)
    rw [← lpS_go ((runs_iff h1).mpr hb) j 0, show j + 1 = 1 + j by omega] at hgo
    rw [e1, Option.bind_some, if_pos bz_f0]
    dsimp only
    refine AQ.rec c1 (g'.mono (by omega)) ?_
    rw [if_neg (by rw [show (1 : Int32) = nI 1 from rfl, lt_nI (by omega) (by omega)]; omega), if_neg (by rw [lt_nI (by omega) (by omega)]; omega), t_8 c1 g'.1, Option.bind_some, k8, Nat.sub_zero, if_pos rfl]
    by_cases q : (lpS (1 + j) 0 r).2 = 1 + j
    · rw [if_pos (by rw [q])]
    · rw [if_neg (fun e => q ((eq_nI (by omega) (by omega)).mp e)), rests_ok c1 g'.1, Option.bind_some]
      cases hr : restB s' with
      | true => rw [if_neg bz_t0]
      | false => have := kr hr; omega
theorem a_start (h : CP M r kp H S fl n tx) (hg : GR r C L P s ln nn B) (hy1 : ¬ (y &&& 15) ≤ 3) (hy2 : ¬ 6 ≤ (y &&& 15)) : AQ y C L B r kp s (Option.bind (f_L_low z 1000 M) fun v57 => Option.bind (f_X6_start 650 (1 + v57) M) fun v58 => if (bz (restB s)) = 0 then (if v58.1 = (-5) then (Option.bind (f_X6_total 650 11 v58.2) fun v61 => if v61 = 1 then (Option.bind (f_X6_total 650 0 v58.2) fun v63 => if v63 = (nI s) then (f_L_acts_244 650 true v58.2) else (f_L_acts_243 650 v58.2)) else (f_L_acts_243 650 v58.2)) else (f_L_acts_243 650 v58.2)) else (Option.bind (f_X6_total 650 3 v58.2) fun v65 => if v58.1 = v65 then (Option.bind (f_X6_total 650 0 v58.2) fun v67 => if v67 = 1 then (Option.bind (f_X6_total 650 1 v58.2) fun v69 => if v69 = 0 then (Option.bind (f_X6_total 650 2 v58.2) fun v71 => Option.bind (f_L_low z 1000 v58.2) fun v72 => if v71 = (1 + v72) then (Option.bind (f_X6_total 650 8 v58.2) fun v74 => if v74 = 0 then (Option.bind (f_X6_total 650 11 v58.2) fun v76 => if v76 = 0 then (f_L_acts_244 650 true v58.2) else (f_L_acts_208 650 v58.2)) else (f_L_acts_208 650 v58.2)) else (f_L_acts_208 650 v58.2)) else (f_L_acts_208 650 v58.2)) else (f_L_acts_208 650 v58.2)) else (f_L_acts_208 650 v58.2))) := by
  have hw := hg.1
  have h1 := hw.2.2.2.2.2.1
  obtain ⟨j, hj, el⟩ := low_ok z (n := 1000) (by omega) (by omega)
  have el' : ∀ N, f_L_low z 1000 N = some (nI j) := el
  have hx : wi (nI (1 + j)) 1 1000 = true := wiN (a := 1) (b := 1000) (by omega) (by omega) (by omega)
  have st := c_start (x := nI (1 + j)) h hw hx
  obtain ⟨g1, g2, g3⟩ := hg.2.2.1
  unfold f_L_acts_244 f_L_acts_243 f_L_acts_208
  rw [el', Option.bind_some, one_add]
  cases hb : restB s with
  | true =>
    have h0 : refN r C L P s = 0 := by
      unfold refN
      rw [if_neg (by rw [hb]; decide), if_neg (by omega), if_neg (by omega), if_neg (by omega)]
    obtain ⟨hw2, M1, e1, c1⟩ := st.1 h0
    rw [e1, Option.bind_some, if_neg bz_t0]
    dsimp only
    refine AQ.rec c1 ((hg.start hw2 (okD_of hx)).mono (by omega)) ?_
    have v3 : startS r (nI (1 + j)) 3 = nI (1 + j) := by unfold startS; rw [upd_ne (by omega), upd_eq]
    have v8 : startS r (nI (1 + j)) 8 = 0 := by
      unfold startS
      rw [upd_ne (by omega), upd_ne (by omega), upd_ne (by omega), upd_ne (by omega), upd_ne (by omega)]
      unfold frS
      rw [if_neg (by omega), if_pos (by omega)]
    have v11 : startS r (nI (1 + j)) 11 = 0 := by unfold startS; rw [upd_ne (by omega), upd_ne (by omega), upd_ne (by omega), upd_ne (by omega), upd_eq]
    rw [t_3 c1 hw2, Option.bind_some, if_pos rfl, t_0 c1 hw2, Option.bind_some, if_pos (show nI 1 = 1 from rfl), t_1 c1 hw2, Option.bind_some, if_neg (show ¬ (1 = 0) by omega), if_pos (show nI 0 = 0 from rfl), t_2 c1 hw2, Option.bind_some, v3, el', Option.bind_some, one_add, if_pos rfl, t_8 c1 hw2, Option.bind_some, if_pos v8, t_11 c1 hw2, Option.bind_some, if_pos v11]
  | false =>
    have h0 : refN r C L P s = 1 := by
      unfold refN
      rw [if_pos hb]
    obtain ⟨hw2, M1, e1, c1⟩ := st.2 (by omega)
    rw [h0] at hw2 c1
    rw [e1, Option.bind_some, if_pos bz_f0]
    dsimp only
    refine ⟨M1, _, _, _, _, _, _, _, P, s, ln, nn, ?_, c1, GR.of (hg.mono (show B ≤ B + 60 by omega)) hw2 (fun k hk => upd_ne (by omega)) g2 hg.2.2.2.1 (fun z => by rw [upd_ne (by omega)]; exact hg.2.2.2.2 z), Or.inr (Or.inr ⟨hy1, hy2, hb⟩)⟩
    rw [if_pos rfl, t_11 c1 hw2, Option.bind_some, upd_eq, if_pos (show nI 1 = 1 from rfl), t_0 c1 hw2, Option.bind_some, if_pos rfl]
theorem a_hold (h : CP M r kp H S fl n tx) (hg : GR r C L P s ln nn B) (bb : Bool) : AQ y C L B r kp s (f_L_acts_263 650 (nI s) bb M) := by
  have hw := hg.1
  have h1 := hw.2.2.2.2.2.1
  have key : ∀ q q' : Nat, ((bb = true ∧ q = 1 ∧ q' = 2) ∨ (bb = false ∧ q = 2 ∧ q' = 1)) → ∀ x : Int32, x = nI q → AQ y C L B r kp s (Option.bind (f_X6_total 650 1 M) fun v1 => Option.bind (f_X6_hold 650 bb M) fun v2 => f_L_acts_290 650 v1 x (nI s) v2.1 v2.2) := fun q q' hq x hx => by
    have st := c_hold h hw hq
    unfold f_L_acts_290 f_L_acts_300 f_L_acts_308
    rw [t_1 h hw, Option.bind_some]
    by_cases z : s = q
    · obtain ⟨M1, e1, c1⟩ := st.2 z
      rw [e1, Option.bind_some]
      dsimp only
      rw [if_pos (by rw [hx, z]), if_neg (show ¬ s = 0 by omega), if_pos rfl]
      exact AQ.rec c1 ((hg.hold (by omega) (by omega)).mono (by omega)) rfl
    · obtain ⟨M1, e1, c1⟩ := st.1 z
      rw [e1, Option.bind_some]
      dsimp only
      rw [if_neg (nIne x q hx (by omega) (by omega) z), if_pos rfl]
      exact AQ.same c1 (hg.mono (by omega)) rfl
  unfold f_L_acts_263
  cases bb with
  | true =>
    have := key 1 2 (Or.inl ⟨rfl, rfl, rfl⟩) 1 rfl
    simp only [if_neg bz_t0]
    exact this
  | false =>
    have := key 2 1 (Or.inr ⟨rfl, rfl, rfl⟩) 2 rfl
    simp only [if_pos bz_f0]
    exact this
theorem a_abort (h : CP M r kp H S fl n tx) (hg : GR r C L P s ln nn B) : AQ y C L B r kp s (Option.bind (f_X6_total 650 1 M) fun v53 => if (nI s) = 1 then (f_L_acts_334 650 v53 M) else (if (nI s) = 2 then (f_L_acts_334 650 v53 M) else (f_L_acts_339 650 v53 false M))) := by
  have hw := hg.1
  have h1 := hw.2.2.2.2.2.1
  have h2 := hw.2.2.2.2.2.2.1
  have st := c_abort h hw
  unfold f_L_acts_334 f_L_acts_339 f_L_acts_357 f_L_acts_396 f_L_acts_400 f_L_acts_401
  rw [t_1 h hw, Option.bind_some]
  by_cases q : s = 1 ∨ s = 2
  · have hm : measB s = true := by unfold measB; exact decide_eq_true q
    obtain ⟨M1, e1, c1⟩ := st.2 hm
    have hw2 := abS_WF hw
    have key : AQ y C L B r kp s (Option.bind (f_X6_abort 650 M) fun v1 => if (bz true) = 0 then (if v1.1 = (-3) then (if (bz true) = 0 then (some (true, v1.2)) else (Option.bind (f_X6_total 650 0 v1.2) fun v3 => if v3 = 3 then (Option.bind (f_X6_total 650 10 v1.2) fun v5 => if v5 = (if s = 0 then -6 else nI ln) then (Option.bind (f_X6_total 650 9 v1.2) fun v7 => if v7 = (-6) then (some (true, v1.2)) else (some (false, v1.2))) else (some (false, v1.2))) else (some (false, v1.2)))) else (some (false, v1.2))) else (if v1.1 = (if s = 0 then -6 else nI ln) then (if (bz true) = 0 then (some (true, v1.2)) else (Option.bind (f_X6_total 650 0 v1.2) fun v3 => if v3 = 3 then (Option.bind (f_X6_total 650 10 v1.2) fun v5 => if v5 = (if s = 0 then -6 else nI ln) then (Option.bind (f_X6_total 650 9 v1.2) fun v7 => if v7 = (-6) then (some (true, v1.2)) else (some (false, v1.2))) else (some (false, v1.2))) else (some (false, v1.2)))) else (some (false, v1.2)))) := by
      rw [e1, Option.bind_some]
      dsimp only
      refine AQ.rec c1 ((hg.abort q).mono (by omega)) ?_
      have v10 : abS r 10 = nI ln := by unfold abS; rw [upd_eq]; exact h2.1
      have v9 : abS r 9 = -6 := by unfold abS; rw [upd_ne (by omega), upd_eq]
      rw [if_neg bz_t0, if_neg (show ¬ s = 0 by omega), if_pos rfl, if_neg bz_t0, t_0 c1 hw2, Option.bind_some, if_pos (show nI 3 = 3 from rfl), t_10 c1 hw2, Option.bind_some, if_pos v10, t_9 c1 hw2, Option.bind_some, if_pos v9]
    rcases q with rfl | rfl
    · rw [if_pos (show nI 1 = 1 from rfl)]
      exact key
    · rw [if_neg (show ¬ nI 2 = 1 by decide), if_pos (show nI 2 = 2 from rfl)]
      exact key
  · have hm : measB s = false := by unfold measB; exact decide_eq_false q
    obtain ⟨M1, e1, c1⟩ := st.1 hm
    rw [if_neg (nIne 1 1 rfl (by omega) (by omega) (fun e => q (Or.inl e))), if_neg (nIne 2 2 rfl (by omega) (by omega) (fun e => q (Or.inr e))), e1, Option.bind_some, if_pos bz_f0]
    dsimp only
    exact AQ.same c1 (hg.mono (by omega)) (by rw [if_pos rfl, if_pos bz_f0])
theorem a_mode (h : CP M r kp H S fl n tx) (hg : GR r C L P s ln nn B) : AQ y C L B r kp s (Option.bind (f_X6_total 650 5 M) fun v33 => Option.bind (f_L_low z v33 M) fun v34 => Option.bind (f_L_low (z >>> (3 &&& 31)) 300 M) fun v35 => Option.bind (f_L_low (z >>> (2 &&& 31)) 3 M) fun v36 => Option.bind (f_L_low (z >>> (5 &&& 31)) 60 M) fun v37 => Option.bind (f_L_low (z >>> (7 &&& 31)) 4000 M) fun v38 => Option.bind (f_X6_setMode 650 v34 v36 (1 + v35) (1 + v37) v38 M) fun v39 => Option.bind (f_X6_gain 650 v34 (1 + v35) v39.2) fun v40 => if v39.1 = v40 then (f_L_acts_651 650 true v39.2) else (f_L_acts_651 650 false v39.2)) := by
  have hw := hg.1
  have hC := hw.1.1.2
  have hC0 : 0 < C := by
    have := hg.2.2.1.2.2
    have := cnF_le (ctR r) C
    omega
  obtain ⟨c, hc, e1⟩ := low_ok z hC0 (by omega)
  obtain ⟨a, ha, e2⟩ := low_ok (z >>> (3 &&& 31)) (n := 300) (by omega) (by omega)
  obtain ⟨m, hm, e3⟩ := low_ok (z >>> (2 &&& 31)) (n := 3) (by omega) (by omega)
  obtain ⟨w, hwd, e4⟩ := low_ok (z >>> (5 &&& 31)) (n := 60) (by omega) (by omega)
  obtain ⟨p, hp, e5⟩ := low_ok (z >>> (7 &&& 31)) (n := 4000) (by omega) (by omega)
  have hf : wi (nI (1 + a)) 1 2000 = true := wiN (a := 1) (b := 2000) (by omega) (by omega) (by omega)
  obtain ⟨hw2, M1, e6, c1⟩ := c_mode (c := c) (m := m) (f := nI (1 + a)) (w := nI (1 + w)) (p := nI p) h hw hc hm hf (wiN (a := 1) (b := 500) (by omega) (by omega) (by omega)) (wiN (a := 0) (b := 50000) (by omega) (by omega) (by omega))
  unfold f_L_acts_651
  rw [t_5 h hw, Option.bind_some, e1, Option.bind_some, show f_L_low (z >>> (3 &&& 31)) 300 M = some (nI a) from e2 M, Option.bind_some, show f_L_low (z >>> (2 &&& 31)) 3 M = some (nI m) from e3 M, Option.bind_some, show f_L_low (z >>> (5 &&& 31)) 60 M = some (nI w) from e4 M, Option.bind_some, show f_L_low (z >>> (7 &&& 31)) 4000 M = some (nI p) from e5 M, Option.bind_some, one_add, one_add, e6, Option.bind_some]
  dsimp only
  rw [c_gain c1 hw2 hc hf, Option.bind_some, if_pos rfl]
  exact AQ.rec c1 (GR.of (hg.mono (show B ≤ B + 60 by omega)) hw2 (fun k hk => modeS_at (by rcases (show m = 0 ∨ m = 1 ∨ m = 2 by omega) with rfl | rfl | rfl <;> omega)) hg.2.2.1.2.1 hg.2.2.2.1 (fun q => by rw [modeS_at (by omega)]; exact hg.2.2.2.2 q)) rfl
theorem a_notch (h : CP M r kp H S fl n tx) (hg : GR r C L P s ln nn B) : AQ y C L B r kp s (Option.bind (f_X6_total 650 5 M) fun v25 => Option.bind (f_L_low z v25 M) fun v26 => Option.bind (f_X6_channel 650 v26 3 M) fun v27 => Option.bind (f_L_low (z >>> (3 &&& 31)) 300 M) fun v28 => Option.bind (f_L_low (z >>> (5 &&& 31)) 100 M) fun v29 => Option.bind (f_L_low (z >>> (7 &&& 31)) 3000 M) fun v30 => Option.bind (f_X6_addNotch 650 v26 (1 + v28) ((1 + v28) + v29) (1 + v30) M) fun v31 => if v27 = 4 then (f_L_acts_735 650 (-4) v31.1 v31.2) else (f_L_acts_735 650 v27 v31.1 v31.2)) := by
  have hw := hg.1
  have hC := hw.1.1.2
  have hC0 : 0 < C := by
    have := hg.2.2.1.2.2
    have := cnF_le (ctR r) C
    omega
  obtain ⟨c, hc, e1⟩ := low_ok z hC0 (by omega)
  obtain ⟨a, ha, e2⟩ := low_ok (z >>> (3 &&& 31)) (n := 300) (by omega) (by omega)
  obtain ⟨b, hb, e3⟩ := low_ok (z >>> (5 &&& 31)) (n := 100) (by omega) (by omega)
  obtain ⟨l, hl, e4⟩ := low_ok (z >>> (7 &&& 31)) (n := 3000) (by omega) (by omega)
  obtain ⟨N, hN, h4⟩ := hw.nOK c hc
  have e5 : f_X6_channel 650 (nI c) 3 M = some (nI N) := (c_chan h hw hc (w := 3) (by omega)).trans (congrArg some hN)
  have ho : notOK (nI (1 + a)) (nI (1 + a + b)) (nI (1 + l)) := ⟨wiN (a := 1) (b := 2000) (by omega) (by omega) (by omega), wiN (b := 2000) (by omega) (by omega) (by omega), wiN (a := 1) (b := 200000) (by omega) (by omega) (by omega)⟩
  have st := c_notch h hw hc hN h4 ho
  unfold f_L_acts_735 f_L_acts_743
  rw [t_5 h hw, Option.bind_some, e1, Option.bind_some, e5, Option.bind_some, show f_L_low (z >>> (3 &&& 31)) 300 M = some (nI a) from e2 M, Option.bind_some, show f_L_low (z >>> (5 &&& 31)) 100 M = some (nI b) from e3 M, Option.bind_some, show f_L_low (z >>> (7 &&& 31)) 3000 M = some (nI l) from e4 M, Option.bind_some, one_add, one_add, nI_add]
  by_cases q : N = 4
  · obtain ⟨M1, e6, c1⟩ := st.1 q
    rw [e6, Option.bind_some, if_pos (by rw [q]; rfl)]
    dsimp only
    rw [if_pos rfl]
    exact AQ.same c1 (hg.mono (by omega)) rfl
  · obtain ⟨hw2, M1, e6, c1⟩ := st.2 (by omega)
    rw [e6, Option.bind_some, if_neg (nIne 4 4 rfl (by omega) (by omega) q)]
    dsimp only
    rw [if_pos rfl]
    exact AQ.rec c1 ((hg.notch hw2 hc hN (by omega) (ne6_nI (by omega))).mono (by omega)) rfl
theorem a_fore (h : CP M r kp H S fl n tx) (hg : GR r C L P s ln nn B) (hB : B + 60 < 900000) : AQ y C L B r kp s (Option.bind (f_L_low z 60 M) fun v23 => Option.bind (f_L_foretells 650 (1 + v23) M) fun v24 => some (v24.1, v24.2)) := by
  obtain ⟨j, hj, e1⟩ := low_ok z (n := 60) (by omega) (by omega)
  obtain ⟨M1, kp', H', S', fl', e2, c1⟩ := foretells_ok (X := 1 + j) h hg (by omega) (by omega) (by omega)
  rw [show f_L_low z 60 M = some (nI j) from e1 M, Option.bind_some, one_add, e2, Option.bind_some]
  exact AQ.same c1 (hg.mono (by omega)) rfl
theorem a_point (h : CP M r kp H S fl n tx) (hg : GR r C L P s ln nn B) : AQ y C L B r kp s (Option.bind (f_L_low z 300 M) fun v12 => Option.bind (f_L_low (z >>> (4 &&& 31)) 5000 M) fun v13 => Option.bind (f_X6_setPoint 650 (1 + v12) (1 + v13) M) fun v14 => if (bz (restB s)) = 0 then (if v14.1 = (-3) then (f_L_acts_1001 650 true v14.2) else (f_L_acts_1001 650 false v14.2)) else (if v14.1 = (-4) then (f_L_acts_981 650 v14.2) else (Option.bind (f_X6_total 650 4 v14.2) fun v18 => if v14.1 = v18 then (f_L_acts_981 650 v14.2) else (f_L_acts_1001 650 false v14.2)))) := by
  have hw := hg.1
  obtain ⟨a, ha, e1⟩ := low_ok z (n := 300) (by omega) (by omega)
  obtain ⟨b, hb, e2⟩ := low_ok (z >>> (4 &&& 31)) (n := 5000) (by omega) (by omega)
  have hx : wi (nI (1 + a)) 1 2000 = true := wiN (a := 1) (b := 2000) (by omega) (by omega) (by omega)
  have hy : wi (nI (1 + b)) 1 50000 = true := wiN (a := 1) (b := 50000) (by omega) (by omega) (by omega)
  unfold f_L_acts_981 f_L_acts_1001
  rw [show f_L_low z 300 M = some (nI a) from e1 M, Option.bind_some, show f_L_low (z >>> (4 &&& 31)) 5000 M = some (nI b) from e2 M, Option.bind_some, one_add, one_add]
  cases hr : restB s with
  | false =>
    obtain ⟨M1, e3, c1⟩ := c_point_run h hw hx hy hr
    rw [e3, Option.bind_some, if_pos bz_f0]
    exact AQ.same c1 (hg.mono (by omega)) (by dsimp only; rw [if_pos rfl])
  | true =>
    rcases c_point h hw hx hy hr with ⟨M1, -, e3, c1⟩ | ⟨p, P', M1, hp, hPP, hw2, e3, c1⟩
    · rw [e3, Option.bind_some, if_neg bz_t0]
      exact AQ.same c1 (hg.mono (by omega)) (by dsimp only; rw [if_pos rfl])
    · have h8 := hw2.2.2.1.1.2
      rw [e3, Option.bind_some, if_neg bz_t0]
      dsimp only
      have hne : ¬ nI P' = -4 := fun e => by
        have t := nI_toInt (n := P') (by omega)
        rw [e, show (-4 : Int32).toInt = -4 by decide] at t
        omega
      rw [if_neg hne, t_4 c1 hw2, Option.bind_some, if_pos rfl]
      exact AQ.rec c1 (GR.of (hg.mono (show B ≤ B + 60 by omega)) hw2 (fun k hk => ptS_at (by omega) (by omega) (by omega)) (by have := hg.2.2.1.2.1; omega) hg.2.2.2.1 (fun q => by rw [ptS_at (by omega) (by omega) (by omega)]; exact hg.2.2.2.2 q)) rfl
end CPA
