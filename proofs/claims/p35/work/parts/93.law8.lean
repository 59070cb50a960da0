/-! PURE: the law from its start -/
theorem point_any {M : MM} {r : Nat → Int32} {kp n : Nat} {H S : Nat → Nat → Int32} {fl tx : Nat → Int32} {C L P s ln nn : Nat} {x1 x2 : Int32} (h : CP M r kp H S fl n tx) (hw : WF r C L P s ln nn) (hx : wi x1 1 2000 = true) (hy : wi x2 1 50000 = true) (hb : restB s = true) : ∃ v M' r' kp' H' P', f_X6_setPoint 650 x1 x2 M = some (v, M') ∧ CP M' r' kp' H' S fl n tx ∧ WF r' C L P' s ln nn ∧ 0 < P' ∧ ∀ k, k ≠ 4 → ¬ (18 ≤ k ∧ k < 34) → r' k = r k := by
  rcases c_point h hw hx hy hb with ⟨M1, h8, e, c⟩ | ⟨p, P', M1, hp, hPP, hw2, e, c⟩
  · exact ⟨_, M1, r, kp, H, P, e, c, hw, by omega, fun _ _ _ => rfl⟩
  · have h8 := hw2.2.2.1.1.2
    exact ⟨_, M1, _, _, _, P', e, c, hw2, by omega, fun k a b => ptS_at a (by omega) (by omega)⟩
theorem nI_lit (a : Nat) (x : Int32) (k : Nat) (hx : x = nI k) : x + nI a = nI (k + a) := by rw [hx, nI_add]
set_option maxHeartbeats 1000000 in
theorem law8 {xs : Nat → Int32} {L : Nat} {M : MM} {r : Nat → Int32} {H S : Nat → Nat → Int32} {fl tx : Nat → Int32} {ln nn : Nat} (hL : L ≤ 260) (h : CP M r 0 H S fl 0 tx) (hw : WF r 0 0 0 0 ln nn) (h16 : r 16 = 50) (h15 : r 15 = 25) (hfl : nz (fl 0) = false) : f_L_law_8 xs L M = some true := by
  -- the start is refused: no lines
  have q1 : refN r 0 0 0 0 = 2 := rfl
  obtain ⟨w1, M1, e1, c1⟩ := (c_start (x := 5) h hw (by decide)).2 (by rw [q1]; decide)
  rw [q1] at w1 c1
  have e2 := c_target0 (f := 7) c1 w1.2.2.1.1.1 (by decide)
  have e3 := (c_undo c1).1 rfl
  have e4 := (c_restore c1 (j := 0) (by omega)).1 hfl
  obtain ⟨M2, s5, l1, e5, c2⟩ := c_left c1
  have l0 := (left_zero w1 l1).mpr rfl
  rw [l0] at e5
  obtain ⟨M3, e6, c3⟩ := c_run_e c2
  have a15 : upd r 11 (nI 2) 15 = 25 := (upd_ne (by omega)).trans h15
  have a16 : upd r 11 (nI 2) 16 = 50 := (upd_ne (by omega)).trans h16
  have t11 := t_11 c1 w1
  rw [upd_eq] at t11
  generalize upd r 11 (nI 2) = r1 at *
  -- lines
  obtain ⟨z0', hz0⟩ := cell_ok xs (L := L) (k := 0) hL (by omega)
  obtain ⟨a, ha, f1⟩ := low_ok z0' (n := 40) (by omega) (by omega)
  obtain ⟨b, hb, f2⟩ := low_ok (z0' >>> (4 &&& 31)) (n := 200) (by omega) (by omega)
  obtain ⟨c, hc, f3⟩ := low_ok (z0' >>> (9 &&& 31)) (n := 400) (by omega) (by omega)
  obtain ⟨d, hd, f4⟩ := low_ok (z0' >>> (3 &&& 31)) (n := 500) (by omega) (by omega)
  obtain ⟨e, he, f5⟩ := low_ok (z0' >>> (13 &&& 31)) (n := 3000) (by omega) (by omega)
  obtain ⟨g, hg, f6⟩ := low_ok (z0' >>> (2 &&& 31)) (n := 2000) (by omega) (by omega)
  obtain ⟨i, hi, f7⟩ := low_ok (z0' >>> (6 &&& 31)) (n := 2000) (by omega) (by omega)
  obtain ⟨j, hj, f8⟩ := low_ok (z0' >>> (8 &&& 31)) (n := 20000) (by omega) (by omega)
  have v1 : (nI (5 + a)).toInt = ((5 + a : Nat) : Int) := nI_toInt (by omega)
  have v2 : (nI (5 + a + b)).toInt = ((5 + a + b : Nat) : Int) := nI_toInt (by omega)
  have v3 : (nI (100 + c)).toInt = ((100 + c : Nat) : Int) := nI_toInt (by omega)
  obtain ⟨N, n1, n2, n3, n4, n5, n6⟩ := lines_N (f := nI (5 + a)) (r := nI (100 + c)) (to := nI (5 + a + b)) ⟨by omega, by omega⟩ ⟨by omega, by omega⟩ (by omega) (by omega)
  obtain ⟨w4, M4, e7, c4⟩ := c_lines (x1 := nI (5 + a)) (x2 := nI (5 + a + b)) (x3 := nI (100 + c)) c3 w1 (wiN (a := 5) (b := 1000) (by omega) (by omega) (by omega)) (wiN (b := 2000) (by omega) (by omega) (by omega)) (wiN (a := 10) (b := 1000) (by omega) (by omega) (by omega)) rfl n2 n3 n4
  have b8 : linS r1 N (nI (5 + a)) (nI (100 + c)) 8 = 0 := by
    unfold linS
    rw [gnS_at (by omega)]
    unfold frS
    rw [if_neg (by omega), if_pos (by omega)]
  have b16 : linS r1 N (nI (5 + a)) (nI (100 + c)) 16 = 50 := (linS_at n2 (by omega) (by omega) (by omega) (by omega)).trans a16
  have b6 : ∀ k, 1608 ≤ k → k < 1808 → linS r1 N (nI (5 + a)) (nI (100 + c)) k = -6 := fun k x1 x2 => linS_6 ⟨by omega, x2⟩
  have bf : ∀ k, k < N → linS r1 N (nI (5 + a)) (nI (100 + c)) (208 + k) = lfS (nI (5 + a)) (nI (100 + c)) k := fun k hk => linS_f hk n2
  have t3 := t_3 c4 w4
  have q2 : refN (linS r1 N (nI (5 + a)) (nI (100 + c))) 0 N 0 0 = 3 := by
    unfold refN
    rw [if_neg (by decide), if_neg (by omega), if_pos rfl]
  generalize linS r1 N (nI (5 + a)) (nI (100 + c)) = r4 at *
  obtain ⟨w5, M5, e8, c5⟩ := (c_start (x := 5) c4 w4 (by decide)).2 (by rw [q2]; decide)
  rw [q2] at w5 c5
  have u11 := t_11 c5 w5
  rw [upd_eq] at u11
  have k5 : ∀ k, k ≠ 11 → upd r4 11 (nI 3) k = r4 k := fun k hk => upd_ne hk
  generalize upd r4 11 (nI 3) = r5 at *
  -- points
  obtain ⟨p1, M6, r6, kp6, H6, P6, e9, c6, w6, g6, k6⟩ := point_any (x1 := nI (5 + a)) (x2 := nI (500 + d)) c5 w5 (wiN (a := 1) (b := 2000) (by omega) (by omega) (by omega)) (wiN (a := 1) (b := 50000) (by omega) (by omega) (by omega)) rfl
  obtain ⟨p2, M7, r7, kp7, H7, P7, e10, c7, w7, g7, k7⟩ := point_any (x1 := nI (5 + a + 50)) (x2 := nI (100 + e)) c6 w6 (wiN (a := 1) (b := 2000) (by omega) (by omega) (by omega)) (wiN (a := 1) (b := 50000) (by omega) (by omega) (by omega)) rfl
  -- channels
  obtain ⟨w8, M8, e11, c8⟩ := c_channel (b1 := false) (x2 := nI g) (x3 := 3000) c7 w7 (wiN (a := 0) (b := 5000) (by omega) (by omega) (by omega)) (by decide) rfl (by omega)
  have ch0 := w7.1.2.2 0 (by omega) (by omega)
  have ch1 := w7.1.2.2 1 (by omega) (by omega)
  have k8 : ∀ k, k ≠ 5 → ¬ (34 ≤ k ∧ k < 45) → chanS r7 0 (bz false) (nI g) 3000 k = r7 k := fun k x1 x2 => chanS_at x1 (Or.inl (by omega))
  have q3 : refN (chanS r7 0 (bz false) (nI g) 3000) (0 + 1) N P7 0 = 4 := by
    have h0 : ctR (chanS r7 0 (bz false) (nI g) 3000) 0 = false := by
      unfold ctR
      rw [chanS_0.1]
      rfl
    have h1 : cnF (ctR (chanS r7 0 (bz false) (nI g) 3000)) (0 + 1) = 0 := by
      rw [cnF, h0, if_neg (by decide)]
      rfl
    unfold refN
    rw [if_neg (by decide), if_neg (by omega), if_neg (by omega), if_pos h1]
  generalize chanS r7 0 (bz false) (nI g) 3000 = r8 at *
  obtain ⟨w9, M9, e12, c9⟩ := (c_start (x := 5) c8 w8 (by decide)).2 (by rw [q3]; decide)
  rw [q3] at w9 c9
  have s11 := t_11 c9 w9
  rw [upd_eq] at s11
  have k9 : ∀ k, k ≠ 11 → upd r8 11 (nI 4) k = r8 k := fun k hk => upd_ne hk
  generalize upd r8 11 (nI 4) = r9 at *
  obtain ⟨w10, M10, e13, c10⟩ := c_channel (b1 := true) (x2 := nI (200 + i)) (x3 := nI (2000 + j)) c9 w9 (wiN (a := 0) (b := 5000) (by omega) (by omega) (by omega)) (wiN (a := 1) (b := 200000) (by omega) (by omega) (by omega)) rfl (by omega)
  have k10 : ∀ k, k ≠ 5 → ¬ (63 ≤ k ∧ k < 74) → chanS r9 (0 + 1) (bz true) (nI (200 + i)) (nI (2000 + j)) k = r9 k := fun k x1 x2 => chanS_at x1 (Or.inl (by omega))
  have ct1 : ctR (chanS r9 (0 + 1) (bz true) (nI (200 + i)) (nI (2000 + j))) 1 = true := by
    unfold ctR
    rw [show 34 + 29 * 1 = 34 + 29 * (0 + 1) from rfl, chanS_0.1]
    rfl
  generalize chanS r9 (0 + 1) (bz true) (nI (200 + i)) (nI (2000 + j)) = r10 at *
  have all : ∀ k, k ≠ 4 → k ≠ 5 → k ≠ 11 → ¬ (18 ≤ k ∧ k < 45) → ¬ (63 ≤ k ∧ k < 74) → r10 k = r4 k := fun k x1 x2 x3 x4 x5 => by
    rw [k10 k x2 x5, k9 k x3, k8 k x2 (by omega), k7 k x1 (by omega), k6 k x1 (by omega), k5 k x3]
  have to7 : ∀ k, k ≠ 5 → k ≠ 11 → ¬ (34 ≤ k ∧ k < 45) → ¬ (63 ≤ k ∧ k < 74) → r10 k = r7 k := fun k x2 x3 x4 x5 => by
    rw [k10 k x2 x5, k9 k x3, k8 k x2 x4]
  have good : GR r10 2 N P7 0 0 nn (60 * 0) := by
    refine ⟨w10, ⟨(all 16 (by omega) (by omega) (by omega) (by omega) (by omega)).trans b16, ⟨0, (all 8 (by omega) (by omega) (by omega) (by omega) (by omega)).trans b8, by omega, fun x hx => ?_⟩, fun k hk => ?_, fun k hk => ?_, fun k hk => Or.inl ?_, fun k hk => Or.inl ?_⟩, ⟨n1, g7, ?_⟩, fun q => absurd rfl q, fun q => by omega⟩
    · rcases (show x = 0 ∨ x = 1 by omega) with rfl | rfl
      · refine ⟨0, 0, (to7 _ (by omega) (by omega) (by omega) (by omega)).trans ch0.1.2.2.2.2.1, (to7 _ (by omega) (by omega) (by omega) (by omega)).trans ch0.1.2.2.2.2.2.1, by omega, by omega, ?_, ?_⟩
        · rw [to7 _ (by omega) (by omega) (by omega) (by omega), ch0.1.2.2.2.2.2.2.1]; decide
        · rw [to7 _ (by omega) (by omega) (by omega) (by omega), ch0.1.2.2.2.2.2.2.1]; exact ⟨fun _ => rfl, fun _ => rfl⟩
      · refine ⟨0, 0, (to7 _ (by omega) (by omega) (by omega) (by omega)).trans ch1.1.2.2.2.2.1, (to7 _ (by omega) (by omega) (by omega) (by omega)).trans ch1.1.2.2.2.2.2.1, by omega, by omega, ?_, ?_⟩
        · rw [to7 _ (by omega) (by omega) (by omega) (by omega), ch1.1.2.2.2.2.2.2.1]; decide
        · rw [to7 _ (by omega) (by omega) (by omega) (by omega), ch1.1.2.2.2.2.2.2.1]; exact ⟨fun _ => rfl, fun _ => rfl⟩
    · rw [all _ (by omega) (by omega) (by omega) (by omega) (by omega), all _ (by omega) (by omega) (by omega) (by omega) (by omega), bf k (by omega), bf (k + 1) (by omega)]; exact n5 k hk
    · rw [all _ (by omega) (by omega) (by omega) (by omega) (by omega), bf k hk]; exact n6 k hk
    · rw [all _ (by omega) (by omega) (by omega) (by omega) (by omega)]; exact b6 _ (by omega) (by omega)
    · rw [all _ (by omega) (by omega) (by omega) (by omega) (by omega)]; exact b6 _ (by omega) (by omega)
    · rw [show (2 : Nat) = 1 + 1 from rfl, cnF, ct1, if_pos rfl]
      omega
  have fin := l292 (xs := xs) hL 36 0 FU M10 r10 _ _ _ _ _ _ _ _ _ _ (by omega) (by unfold FU; omega) c10 good
  unfold f_L_law_8
  rw [t_1 h hw, Option.bind_some, if_pos rfl, if_pos rfl, e1, Option.bind_some]
  dsimp only
  rw [if_pos rfl, t11, Option.bind_some, if_pos (show nI 2 = 2 from rfl), e2, Option.bind_some, if_pos rfl, e3, Option.bind_some]
  dsimp only
  rw [if_pos rfl, show f_X6_restore 650 0 M1 = some (-3, M1) from e4, Option.bind_some]
  dsimp only
  rw [if_pos rfl, e5, Option.bind_some]
  dsimp only
  rw [if_pos rfl, e6, Option.bind_some]
  dsimp only
  rw [if_pos rfl, t_17 c3 w1, Option.bind_some, if_pos a15, show (0 : Int32) = nI 0 from rfl, hz0, Option.bind_some, show f_L_low z0' 40 M3 = some (nI a) from f1 M3, Option.bind_some, show f_L_low (z0' >>> (4 &&& 31)) 200 M3 = some (nI b) from f2 M3, Option.bind_some, show f_L_low (z0' >>> (9 &&& 31)) 400 M3 = some (nI c) from f3 M3, Option.bind_some, nI_lit a 5 5 rfl, nI_lit c 100 100 rfl, nI_add, e7, Option.bind_some]
  dsimp only
  rw [t3, Option.bind_some, if_pos rfl, e8, Option.bind_some]
  dsimp only
  rw [if_pos rfl, u11, Option.bind_some, if_pos (show nI 3 = 3 from rfl), show f_L_low (z0' >>> (3 &&& 31)) 500 M5 = some (nI d) from f4 M5, Option.bind_some, nI_lit d 500 500 rfl, e9, Option.bind_some]
  dsimp only
  rw [show f_L_low (z0' >>> (13 &&& 31)) 3000 M6 = some (nI e) from f5 M6, Option.bind_some, nI_lit e 100 100 rfl, show nI (5 + a) + 50 = nI (5 + a + 50) from nI_add _ _, e10, Option.bind_some]
  dsimp only
  rw [show f_L_low (z0' >>> (2 &&& 31)) 2000 M7 = some (nI g) from f6 M7, Option.bind_some, e11, Option.bind_some]
  dsimp only
  rw [if_pos rfl, e12, Option.bind_some]
  dsimp only
  rw [if_pos rfl, s11, Option.bind_some, if_pos (show nI 4 = 4 from rfl), show f_L_low (z0' >>> (6 &&& 31)) 2000 M9 = some (nI i) from f7 M9, Option.bind_some, show f_L_low (z0' >>> (8 &&& 31)) 20000 M9 = some (nI j) from f8 M9, Option.bind_some, nI_lit i 200 200 rfl, nI_lit j 2000 2000 rfl, e13, Option.bind_some]
  dsimp only
  rw [if_pos (show nI (0 + 1) = 1 from rfl)]
  exact fin
