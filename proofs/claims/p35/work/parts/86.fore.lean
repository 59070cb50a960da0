/-! PURE: forecasts come true -/
theorem msk {x : Int32} : 0 ≤ (x &&& 2147483647).toInt := by
  have h : (x &&& 2147483647).toBitVec.toNat ≤ 2147483647 := by
    rw [Int32.toBitVec_and, BitVec.toNat_and]
    exact Nat.and_le_right
  have e : (x &&& 2147483647).toInt = (x &&& 2147483647).toBitVec.toInt := rfl
  rw [e, BitVec.toInt_eq_toNat_of_lt (by omega)]
  omega
theorem low_ok (x : Int32) {n : Nat} (hn : 0 < n) (hn2 : n ≤ 1000000) : ∃ j, j < n ∧ ∀ M, f_L_low x (nI n) M = some (nI j) := by
  have h0 := msk (x := x)
  have h1 : (nI n).toInt = (n : Int) := nI_toInt (by omega)
  have hb : (x &&& 2147483647).toInt < 2147483648 := Int32.toInt_lt _
  have hd : ((x &&& 2147483647) / nI n).toInt = (x &&& 2147483647).toInt / (n : Int) := by rw [div32 h0 (by omega), h1]
  have q0 : 0 ≤ (x &&& 2147483647).toInt / (n : Int) := Int.ediv_nonneg h0 (by omega)
  have q1 : (x &&& 2147483647).toInt / (n : Int) * (n : Int) ≤ (x &&& 2147483647).toInt := Int.ediv_mul_le _ (by omega)
  have q2 : 0 ≤ (x &&& 2147483647).toInt / (n : Int) * (n : Int) := Int.mul_nonneg q0 (by omega)
  have hm : ((x &&& 2147483647) / nI n * nI n).toInt = (x &&& 2147483647).toInt / (n : Int) * (n : Int) := by
    rw [mul32 (by rw [hd, h1]; omega) (by rw [hd, h1]; omega), hd, h1]
  have hs : ((x &&& 2147483647) - (x &&& 2147483647) / nI n * nI n).toInt = (x &&& 2147483647).toInt % (n : Int) := by
    have e := Int.emod_add_mul_ediv (x &&& 2147483647).toInt (n : Int)
    have c := Int.mul_comm (n : Int) ((x &&& 2147483647).toInt / (n : Int))
    rw [sub32 (by rw [hm]; omega) (by rw [hm]; omega), hm]
    omega
  have r0 := Int.emod_nonneg (x &&& 2147483647).toInt (show (n : Int) ≠ 0 by omega)
  have r1 := Int.emod_lt_of_pos (x &&& 2147483647).toInt (show (0 : Int) < (n : Int) by omega)
  refine ⟨((x &&& 2147483647).toInt % (n : Int)).toNat, by omega, fun M => ?_⟩
  unfold f_L_low
  rw [gd_of (nz_of (nI_ne0 hn (by omega)))]
  congr 1
  rw [i_eq, hs, nI_toInt (by omega)]
  omega
theorem lcp_self (x : Int64) : lcp x x = 0 := Int32.le_antisymm ((lcp_le0 x x).mpr (Int64.le_refl x)) ((lcp_ge0 x x).mpr (Int64.le_refl x))
theorem lpS_add : ∀ (a b j : Nat) (r : Nat → Int32), lpS (a + b) j r = lpS b (lpS a j r).2 (lpS a j r).1
  | 0, b, j, r => by rw [Nat.zero_add]; rfl
  | a + 1, b, j, r => by
    by_cases q : r 1 = 1 ∨ r 1 = 2 ∨ r 1 = 3
    · rw [show a + 1 + b = a + b + 1 by omega, lpS_go q, lpS_go q, lpS_add a b (j + 1) (loopS r)]
    · rw [lpS_stop q, lpS_stop q]
      exact (lpS_stop q b j).symm
theorem msL_stop {r : Nat → Int32} (h : ¬ (r 1 = 1 ∨ r 1 = 2)) : ∀ d, msL d r = r
  | 0 => rfl
  | d + 1 => by rw [msL, if_neg h]
theorem hgL_stop {r : Nat → Int32} {c : Nat} {v : Int32} (h : ¬ (r 1 = 1 ∨ r 1 = 2)) : ∀ d, hgL c d v r = v
  | 0 => rfl
  | d + 1 => by rw [hgL, if_neg h]
theorem msL_Q9 : ∀ (d : Nat) (r : Nat → Int32), WFr r → Q9 r → Q9 (msL d r)
  | 0, r, _, h => h
  | d + 1, r, hw, h => by
    rw [msL]
    by_cases q : r 1 = 1 ∨ r 1 = 2
    · rw [if_pos q]
      obtain ⟨C, L, P, s, ln, nn, hw⟩ := hw
      have hs := meas_s ((meas_iff hw.2.2.2.2.2.1).mp q)
      obtain ⟨s', ln', hw'⟩ := loopS_WF hw (by omega)
      exact msL_Q9 d (loopS r) ⟨C, L, P, s', ln', nn, hw'⟩ ((loop9 hw hs).imp id (fun z => z.2))
    · rw [if_neg q]; exact h
/-- the channel of the abort, as the law keeps it -/
noncomputable def uS (d : Nat) (u : Int32) (r : Nat → Int32) : Int32 := if (r 1 = 1 ∨ r 1 = 2) ∧ msL d r 1 = 3 then msL d r 9 else u
theorem uS_stop {r : Nat → Int32} {u : Int32} {d : Nat} (h : ¬ (r 1 = 1 ∨ r 1 = 2)) : uS d u r = u := by
  unfold uS
  rw [if_neg (fun z => h z.1)]
theorem uS_0 {r : Nat → Int32} {u : Int32} : uS 0 u r = u := by
  unfold uS
  rw [if_neg]
  rintro ⟨a, b⟩
  rw [msL] at b
  rw [b] at a
  exact absurd a (by decide)
theorem uS_ran {r : Nat → Int32} {u : Int32} {d : Nat} (h : r 1 = 1 ∨ r 1 = 2) : uS (d + 1) u r = uS d (if loopS r 1 = 3 then loopS r 9 else u) (loopS r) := by
  have e : msL (d + 1) r = msL d (loopS r) := by rw [msL, if_pos h]
  by_cases q : loopS r 1 = 3
  · rw [if_pos q, uS_stop (r := loopS r) (by rw [q]; decide)]
    unfold uS
    rw [e, msL_stop (by rw [q]; decide), if_pos ⟨h, q⟩]
  · rw [if_neg q]
    unfold uS
    rw [e]
    by_cases z : loopS r 1 = 1 ∨ loopS r 1 = 2
    · by_cases y : msL d (loopS r) 1 = 3
      · rw [if_pos ⟨h, y⟩, if_pos ⟨z, y⟩]
      · rw [if_neg (fun x => y x.2), if_neg (fun x => y x.2)]
    · have hf : ¬ ((r 1 = 1 ∨ r 1 = 2) ∧ msL d (loopS r) 1 = 3) := by
        rintro ⟨-, y⟩
        rw [msL_stop z] at y
        exact q y
      rw [if_neg hf, if_neg (fun x => z x.1)]
theorem s_iff {s k : Nat} {x : Int32} (hx : x = nI k) (h : s ≤ 1000000) (hk : k ≤ 1000000) : nI s = x ↔ s = k := by
  subst hx
  exact eq_nI h hk
theorem floop {X c n : Nat} {x3 x4 x5 x6 x9 : Int32} {y7 : Int64} {S : Nat → Nat → Int32} {fl tx : Nat → Int32} (hX : X ≤ 1000) : ∀ (d done k : Nat) (M : MM) (r : Nat → Int32) (kp : Nat) (H : Nat → Nat → Int32) (v u : Int32) (C L P s ln nn B : Nat), done + d = X → d < k → c < C → CP M r kp H S fl n tx → GR r C L P s ln nn B → B + d < 900000 → ∃ M' kp' H' s' ln', f_L_foretells_77 650 k (nI X) (nI c) x3 x4 x5 x6 y7 x9 v u (nI done) M = f_L_foretells_188 650 (nI X) x3 x4 x5 x6 y7 x9 (hgL c d v r) (uS d u r) (nI (lpS d done r).2) M' ∧ CP M' (lpS d done r).1 kp' H' S fl n tx ∧ GR (lpS d done r).1 C L P s' ln' nn (B + d) ∧ (lpS d done r).1 8 = r 8 + nI ((lpS d done r).2 - done) ∧ (restB s' = false → (lpS d done r).2 = X) := by
  intro d
  induction d with
  | zero =>
    intro done k M r kp H v u C L P s ln nn B hd hk hc h hg hB
    obtain ⟨k, rfl⟩ : ∃ k', k = k' + 1 := ⟨k - 1, by omega⟩
    refine ⟨M, kp, H, s, ln, ?_, h, hg, ?_, fun _ => by rw [lpS]; omega⟩
    · rw [f_L_foretells_77, if_pos (by rw [le_nI (by omega) (by omega)]; omega), uS_0]
      rfl
    · rw [lpS, Nat.sub_self]
      exact (Int32.add_zero _).symm
  | succ d ih =>
    intro done k M r kp H v u C L P s ln nn B hd hk hc h hg hB
    obtain ⟨k, rfl⟩ : ∃ k', k = k' + 1 := ⟨k - 1, by omega⟩
    have hw := hg.1
    have h1 := hw.2.2.2.2.2.1
    have h2 := hw.2.2.2.2.2.2.1
    rw [f_L_foretells_77, if_neg (by rw [le_nI (by omega) (by omega)]; omega), rests_ok h hw, Option.bind_some]
    cases hb : restB s with
    | true =>
      have hr : ¬ (r 1 = 1 ∨ r 1 = 2 ∨ r 1 = 3) := by rw [runs_iff h1, hb]; decide
      have hm : ¬ (r 1 = 1 ∨ r 1 = 2) := fun z => hr (z.elim Or.inl (fun z => Or.inr (Or.inl z)))
      rw [if_neg bz_t0, lpS_stop hr, hgL_stop hm, uS_stop hm]
      exact ⟨M, kp, H, s, ln, rfl, h, hg.mono (by omega), by rw [Nat.sub_self]; exact (Int32.add_zero _).symm, fun z => by rw [hb] at z; exact absurd z (by decide)⟩
    | false =>
      have hs := rest_s hb
      have hr := (runs_iff h1).mpr hb
      obtain ⟨M1, e1, c1⟩ := (c_step h hw (X := 1) (by omega) (by omega)).2 hb
      rw [lpS_go hr 0 0] at e1 c1
      change CP M1 (loopS r) _ _ _ _ _ _ at c1
      change f_X6_step 650 (nI 1) M = some (nI 1, M1) at e1
      obtain ⟨s', ln', g', k3, k8⟩ := hg.loop hs (by omega)
      have hw' := g'.1
      have h1' := hw'.2.2.2.2.2.1
      have hlnL := hg.2.2.2.1 (by omega)
      rw [lpS_go hr d done]
      have eA : ∀ (K : Nat), done + 1 ≤ K → loopS r 8 + nI (K - (done + 1)) = r 8 + nI (K - done) := fun K hK => by
        rw [k8, Int32.add_assoc, show (1 : Int32) = nI 1 from rfl, nI_add]
        congr 2
        omega
      have key : ∀ (v' u' : Int32), ∃ M' kp' H' s' ln', f_L_foretells_77 650 k (nI X) (nI c) x3 x4 x5 x6 y7 x9 v' u' (nI done + 1) M1 = f_L_foretells_188 650 (nI X) x3 x4 x5 x6 y7 x9 (hgL c d v' (loopS r)) (uS d u' (loopS r)) (nI (lpS d (done + 1) (loopS r)).2) M' ∧ CP M' (lpS d (done + 1) (loopS r)).1 kp' H' S fl n tx ∧ GR (lpS d (done + 1) (loopS r)).1 C L P s' ln' nn (B + (d + 1)) ∧ (lpS d (done + 1) (loopS r)).1 8 = r 8 + nI ((lpS d (done + 1) (loopS r)).2 - done) ∧ (restB s' = false → (lpS d (done + 1) (loopS r)).2 = X) := fun v' u' => by
        obtain ⟨M', kp', H', s2, ln2, i1, i2, i3, i4, i5⟩ := ih (done + 1) k M1 (loopS r) (kp1 kp) (hsS H kp r) v' u' C L P s' ln' nn (B + 1) (by omega) (by omega) hc c1 g' (by omega)
        refine ⟨M', kp', H', s2, ln2, by rw [nI_1]; exact i1, i2, i3.mono (by omega), ?_, i5⟩
        rw [i4, eA _ (lpS_ge d (done + 1) (loopS r)).1]
      rw [if_pos bz_f0, t_0 h hw, Option.bind_some]
      unfold f_L_foretells_104 f_L_foretells_154 f_L_foretells_156 f_L_foretells_181 f_L_foretells_183
      rw [t_1 h hw, if_neg (show ¬ s = 0 by omega), show f_X6_step 650 1 M = some (nI 1, M1) from e1]
      by_cases q : s = 3
      · subst q
        rw [if_pos (show nI 3 = 3 from rfl), Option.bind_some, Option.bind_some]
        dsimp only
        rw [if_pos (show nI 1 = 1 from rfl), if_pos bz_f0, if_pos bz_f0]
        have hm : ¬ (r 1 = 1 ∨ r 1 = 2) := by rw [h1.1]; decide
        have hm' : ¬ (loopS r 1 = 1 ∨ loopS r 1 = 2) := by
          rw [h1'.1]
          rcases k3 rfl with e | e <;> rw [e] <;> decide
        have := key v u
        rw [hgL_stop hm', uS_stop hm'] at this
        rw [hgL_stop hm, uS_stop hm]
        exact this
      · have hs2 : s = 1 ∨ s = 2 := by omega
        have hm : r 1 = 1 ∨ r 1 = 2 := (meas_iff h1).mpr (by unfold measB; exact decide_eq_true hs2)
        rw [if_neg (nIne 3 3 rfl (by omega) (by omega) q), Option.bind_some, Option.bind_some]
        dsimp only
        rw [if_pos (show nI 1 = 1 from rfl), if_neg bz_t0, if_neg bz_t0]
        simp only [c_level c1 hw' hlnL hc, Option.bind_some, t_0 c1 hw', t_9 c1 hw']
        have hh : hgL c (d + 1) v r = hgL c d (mx2 v (loopS r (308 + 6 * ln + c))) (loopS r) := by
          rw [hgL, if_pos hm, h2.1, ix_nI (by omega)]
        rw [hh, uS_ran hm]
        have hmx : ∀ x : Int32, (x ≤ v → mx2 v x = v) ∧ (¬ x ≤ v → mx2 v x = x) := fun x => by
          unfold mx2
          exact ⟨fun z => if_neg (Int32.not_lt.mpr z), fun z => if_pos (Int32.not_le.mp z)⟩
        by_cases q4 : loopS r (308 + 6 * ln + c) ≤ v
        · rw [if_pos q4, (hmx _).1 q4]
          by_cases q3 : s' = 3
          · rw [if_pos (show nI s' = 3 by rw [q3]; rfl), if_pos (show loopS r 1 = 3 by rw [h1'.1, q3]; rfl)]
            exact key _ _
          · rw [if_neg (nIne 3 3 rfl (by omega) (by omega) q3), if_neg (show ¬ loopS r 1 = 3 by rw [h1'.1]; exact nIne 3 3 rfl (by omega) (by omega) q3)]
            exact key _ _
        · rw [if_neg q4, (hmx _).2 q4, if_neg bz_t0]
          by_cases q3 : s' = 3
          · rw [if_pos (show nI s' = 3 by rw [q3]; rfl), if_pos (show loopS r 1 = 3 by rw [h1'.1, q3]; rfl)]
            exact key _ _
          · rw [if_neg (nIne 3 3 rfl (by omega) (by omega) q3), if_neg (show ¬ loopS r 1 = 3 by rw [h1'.1]; exact nIne 3 3 rfl (by omega) (by omega) q3)]
            exact key _ _
theorem foretells_ok {M : MM} {r : Nat → Int32} {kp n : Nat} {H S : Nat → Nat → Int32} {fl tx : Nat → Int32} {C L P s ln nn B X : Nat} (h : CP M r kp H S fl n tx) (hg : GR r C L P s ln nn B) (hB : B + X < 900000) (hX1 : 1 ≤ X) (hX : X ≤ 60) : ∃ M1 kp' H' S' fl', f_L_foretells 650 (nI X) M = some (true, M1) ∧ CP M1 r kp' H' S' fl' n tx := by
  have hw := hg.1
  have h1 := hw.2.2.2.2.2.1
  have hC := hw.1.1.2
  have hC0 : 0 < C := by
    have := hg.2.2.1.2.2
    have := cnF_le (ctR r) C
    omega
  obtain ⟨c, hc, hlow⟩ := low_ok (nI X) hC0 (by omega)
  obtain ⟨M1, s5, l1, l2, c1⟩ := c_left h
  obtain ⟨M2, e2, c2⟩ := c_would c1 hw hX1 (by omega)
  obtain ⟨M3, e3, c3⟩ := c_high c2 hw hc hX1 (by omega)
  obtain ⟨y, hy⟩ := told_ex h.1.2
  obtain ⟨M4, e4, c4⟩ := (c_save (x := nI 1) c3).2 1 (by omega) rfl
  obtain ⟨M5, kp5, H5, s', ln', i1, i2, i3, i4, i5⟩ := floop (X := X) (x3 := if restB s5 = true then nI (lpS 500 0 r).2 else -6) (x4 := if measB s = true then msL X r 9 else -6) (x5 := hgL c X (-6) r) (x6 := r 8) (x9 := nI s) (y7 := y) (by omega) X 0 FU M4 r kp H (-6) (-6) C L P s ln nn B (by omega) (by unfold FU; omega) hc c4 hg hB
  obtain ⟨M6, e6, c6⟩ := (c_restore i2 (j := 1) (by omega)).2 (by rw [upd_eq]; rfl)
  rw [if_pos rfl] at e6 c6
  have hw5 := i3.1
  have h5 := hw5.2.2.2.2.2.1
  have hu : uS X (-6) r = if measB s = true then msL X r 9 else -6 := by
    unfold uS
    cases hm : measB s with
    | false => rw [if_neg (fun z => by have := (meas_iff h1).mp z.1; rw [hm] at this; exact absurd this (by decide)), if_neg (by decide)]
    | true =>
      have hr := (meas_iff h1).mpr hm
      rw [if_pos rfl]
      by_cases z : msL X r 1 = 3
      · rw [if_pos ⟨hr, z⟩]
      · rw [if_neg (fun y => z y.2)]
        exact ((msL_Q9 X r h.1.2 (Or.inr (hw.2.2.2.2.2.2.2.2.1 (meas_s hm)).2.2.2.2)).resolve_left z).symm
  refine ⟨M6, kp1 kp5, hsS H5 kp5 (lpS X 0 r).1, _, _, ?_, c6⟩
  have s249 : f_L_foretells_249 650 y (nI s) M5 = some (true, M6) := by
    unfold f_L_foretells_249 f_L_foretells_274
    rw [show f_X6_restore 650 1 M5 = some (r 1, M6) from e6, Option.bind_some]
    dsimp only
    rw [if_pos h1.1, hy _ _ _ _ _ _ _ c6, Option.bind_some, if_pos (lcp_self y)]
  have K := lpS_ge X 0 r
  have hadd := lpS_add X (500 - X) 0 r
  rw [show X + (500 - X) = 500 by omega] at hadd
  have hb5 : s5 ≤ 5 := l1.2
  have s188 : f_L_foretells_188 650 (nI X) (if restB s5 = true then nI (lpS 500 0 r).2 else -6) (if measB s = true then msL X r 9 else -6) (hgL c X (-6) r) (r 8) y (nI s) (hgL c X (-6) r) (uS X (-6) r) (nI (lpS X 0 r).2) M5 = some (true, M6) := by
    unfold f_L_foretells_188
    rw [t_8 i2 hw5, Option.bind_some, i4, Nat.sub_zero, if_pos rfl, if_pos rfl, hu, if_pos rfl, rests_ok i2 hw5, Option.bind_some]
    unfold f_L_foretells_229
    rw [rests_ok i2 hw5, Option.bind_some]
    cases hb : restB s' with
    | true =>
      have hstop : ¬ ((lpS X 0 r).1 1 = 1 ∨ (lpS X 0 r).1 1 = 2 ∨ (lpS X 0 r).1 1 = 3) := by rw [runs_iff h5, hb]; decide
      rw [lpS_stop hstop] at hadd
      have e5 : s5 = s' := by
        have := l1.1
        rw [hadd] at this
        exact (eq_nI (by omega) (by omega)).mp (this.symm.trans h5.1)
      rw [e5, hb, if_pos rfl, hadd]
      dsimp only
      rw [if_neg bz_t0, if_pos rfl, if_neg (ne6_nI (by omega)), if_neg (by rw [lt_nI (by omega) (by omega)]; omega), if_neg bz_t0]
      exact s249
    | false =>
      have hK := i5 hb
      have hgo := (runs_iff h5).mpr hb
      rw [show 500 - X = (499 - X) + 1 by omega, lpS_go hgo] at hadd
      have g := lpS_ge (499 - X) ((lpS X 0 r).2 + 1) (loopS (lpS X 0 r).1)
      rw [← hadd] at g
      rw [if_pos bz_f0]
      cases hz : restB s5 with
      | true =>
        rw [if_pos rfl, if_neg (ne6_nI (by omega)), if_pos (by rw [lt_nI (by omega) (by omega)]; omega)]
        exact s249
      | false =>
        rw [if_neg (show ¬ (false = true) by decide), if_pos rfl]
        exact s249
  unfold f_L_foretells
  rw [t_5 h hw, Option.bind_some, hlow, Option.bind_some, l2, Option.bind_some]
  dsimp only
  rw [e2, Option.bind_some]
  dsimp only
  rw [e3, Option.bind_some]
  dsimp only
  rw [t_8 c3 hw, Option.bind_some, hy _ _ _ _ _ _ _ c3, Option.bind_some, show f_X6_save 650 1 M3 = some (r 1, M4) from e4, Option.bind_some]
  dsimp only
  rw [t_0 c4 hw, Option.bind_some, if_pos h1.1, Option.bind_some]
  rw [show (0 : Int32) = nI 0 from rfl, i1]
  exact s188
