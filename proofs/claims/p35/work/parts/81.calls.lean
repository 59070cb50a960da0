/-! PURE: each call of the class that changes something, its answer and its row -/
theorem wiN {x a b : Nat} (hb : b ≤ 1000000) (h1 : a ≤ x) (h2 : x ≤ b) : wi (nI x) (nI a) (nI b) = true := by
  unfold wi
  rw [decide_eq_false (by rw [lt_nI (by omega) (by omega)]; omega), decide_eq_false (by rw [lt_nI (by omega) (by omega)]; omega)]
  rfl
section CPV
variable {M : MM} {r : Nat → Int32} {kp n : Nat} {H S : Nat → Nat → Int32} {fl tx : Nat → Int32} {C L P s ln nn : Nat}
theorem c_step0 {x : Int32} (h : CP M r kp H S fl n tx) (hx : wi x 1 50 = false) : ∃ M1, f_X6_step 650 x M = some (-2, M1) ∧ CP M1 r kp H S fl n tx :=
  refP h (g := f_X4_doLoops 0 x) (v := -2) (r' := r) (by decide) (fun M1 c1 R1 => ⟨M1, by
      unfold f_X4_doLoops
      rw [isWithin_ok, Option.bind_some, hx, if_pos bz_f0], R1, Fr.rf⟩) h.1.2
theorem c_step {X : Nat} (h : CP M r kp H S fl n tx) (hw : WF r C L P s ln nn) (h1 : 1 ≤ X) (h2 : X ≤ 50) : (restB s = true → ∃ M1, f_X6_step 650 (nI X) M = some (-3, M1) ∧ CP M1 r kp H S fl n tx) ∧ (restB s = false → ∃ M1, f_X6_step 650 (nI X) M = some (nI (lpS X 0 r).2, M1) ∧ CP M1 (lpS X 0 r).1 (kp1 kp) (hsS H kp r) S fl n tx) := by
  have hs := hw.2.2.2.2.2.1
  have hWR : WFr r := ⟨C, L, P, s, ln, nn, hw⟩
  have hx : wi (nI X) 1 50 = true := wiN (a := 1) (b := 50) (by omega) h1 h2
  constructor
  · intro hb
    exact refP h (g := f_X4_doLoops 0 (nI X)) (v := -3) (r' := r) (by decide) (fun M1 c1 R1 => ⟨M1, by
      unfold f_X4_doLoops
      rw [isWithin_ok, Option.bind_some, hx, if_neg bz_t0, restsC R1 hs, Option.bind_some, hb, if_neg bz_t0], R1, Fr.rf⟩) hWR
  · intro hb
    obtain ⟨w1, w2, w3⟩ := lpS_WF X 0 r hWR
    exact recP h (g := f_X4_doLoops 0 (nI X)) (r' := (lpS X 0 r).1) (ge0 (by omega)) (fun M1 c1 R1 => by
      obtain ⟨M2, e2, r2, f2⟩ := lpC (b := 0) (X := X) (by omega) X 0 FU M1 r (by omega) (by unfold FU; omega) R1 hWR
      refine ⟨M2, ?_, r2, f2⟩
      unfold f_X4_doLoops
      rw [isWithin_ok, Option.bind_some, hx, if_neg bz_t0, restsC R1 hs, Option.bind_some, hb, if_pos bz_f0]
      exact e2) w1
theorem c_hold {bb : Bool} {q q' : Nat} (h : CP M r kp H S fl n tx) (hw : WF r C L P s ln nn) (hq : (bb = true ∧ q = 1 ∧ q' = 2) ∨ (bb = false ∧ q = 2 ∧ q' = 1)) : (s ≠ q → ∃ M1, f_X6_hold 650 bb M = some (-3, M1) ∧ CP M1 r kp H S fl n tx) ∧ (s = q → ∃ M1, f_X6_hold 650 bb M = some (nI ln, M1) ∧ CP M1 (upd r 1 (nI q')) (kp1 kp) (hsS H kp r) S fl n tx) := by
  have h1 := hw.2.2.2.2.2.1
  have h2 := hw.2.2.2.2.2.2.1
  constructor
  · intro hs
    exact refP h (g := f_X4_holdOrGoOn 0 bb) (v := -3) (r' := r) (by decide) (fun M1 c1 R1 => ⟨M1, (holdC R1 h1 hq).1 hs, R1, Fr.rf⟩) h.1.2
  · intro hs
    exact recP h (g := f_X4_holdOrGoOn 0 bb) (ge0 (by omega)) (fun M1 c1 R1 => by
      obtain ⟨M2, e2, r2, f2⟩ := (holdC (bb := bb) R1 h1 hq).2 hs
      exact ⟨M2, by rw [e2, h2.1], r2, f2⟩) ⟨C, L, P, q', ln, nn, hw.st (by omega) (by omega)⟩
theorem c_abort (h : CP M r kp H S fl n tx) (hw : WF r C L P s ln nn) : (measB s = false → ∃ M1, f_X6_abort 650 M = some (-3, M1) ∧ CP M1 r kp H S fl n tx) ∧ (measB s = true → ∃ M1, f_X6_abort 650 M = some (nI ln, M1) ∧ CP M1 (abS r) (kp1 kp) (hsS H kp r) S fl n tx) := by
  have h1 := hw.2.2.2.2.2.1
  have h2 := hw.2.2.2.2.2.2.1
  constructor
  · intro hs
    exact refP h (g := f_X4_abortByHand 0) (v := -3) (r' := r) (by decide) (fun M1 c1 R1 => ⟨M1, (abortC R1 h1).1 hs, R1, Fr.rf⟩) h.1.2
  · intro hs
    exact recP h (g := f_X4_abortByHand 0) (ge0 (by omega)) (fun M1 c1 R1 => by
      obtain ⟨M2, e2, r2, f2⟩ := (abortC R1 h1).2 hs
      exact ⟨M2, by rw [e2, h2.1], r2, f2⟩) ⟨C, L, P, 3, ln, nn, abS_WF hw⟩
theorem c_set {x1 x2 : Int32} (h : CP M r kp H S fl n tx) (hw : WF r C L P s ln nn) : (whyS x1 x2 ≠ 0 → ∃ M1, f_X6_set 650 x1 x2 M = some (whyS x1 x2, M1) ∧ CP M1 r kp H S fl n tx) ∧ (∀ j, j < 6 → x1 = nI j → whyS x1 x2 = 0 → wi x2 (sLE j) (sGR j) = true ∧ ∃ M1, f_X6_set 650 x1 x2 M = some (r (12 + j), M1) ∧ CP M1 (upd r (12 + j) x2) (kp1 kp) (hsS H kp r) S fl n tx) := by
  constructor
  · intro hz
    exact refP h (g := f_X4_changeSetting 0 x1 x2) (r' := r) (whyNeg hz) (fun M1 c1 R1 => ⟨M1, (setC R1).1 hz, R1, Fr.rf⟩) h.1.2
  · rintro j hj rfl hz
    have hv : wi x2 (sLE j) (sGR j) = true := by
      obtain ⟨j', hj', e', hv', -⟩ := (setC (x1 := nI j) (x2 := x2) h.1.1).2 hz
      have := (eq_nI (by omega) (by omega)).mp e'
      subst this
      exact hv'
    obtain ⟨nn', hw'⟩ := setWF hw hj hv
    refine ⟨hv, recP h (g := f_X4_changeSetting 0 (nI j) x2) (setP hw hj) (fun M1 c1 R1 => ?_) ⟨C, L, P, s, ln, nn', hw'⟩⟩
    obtain ⟨j', hj', e', -, M2, e2, r2, f2⟩ := (setC (x1 := nI j) (x2 := x2) R1).2 hz
    have := (eq_nI (by omega) (by omega)).mp e'
    subst this
    exact ⟨M2, e2, r2, f2⟩
theorem c_mode_no {x x2 f w p : Int32} (h : CP M r kp H S fl n tx) (hw : WF r C L P s ln nn) (hx : wi x 0 (nI C - 1) = false) : f_X6_setMode 650 x x2 f w p M = some (-1, M) := by
  have h5 := hw.1.1
  unfold f_X6_setMode
  rw [hasChC h.1.1 h5.1, Option.bind_some, hx, if_pos bz_f0]
theorem c_mode {c m : Nat} {f w p : Int32} (h : CP M r kp H S fl n tx) (hw : WF r C L P s ln nn) (hcC : c < C) (hm : m < 3) (y1 : wi f 1 2000 = true) (y2 : wi w 1 500 = true) (y3 : wi p 0 50000 = true) : WF (modeS r c m f w p) C L P s ln nn ∧ ∃ M1, f_X6_setMode 650 (nI c) (nI m) f w p M = some (gainR (modeS r c m f w p) c f, M1) ∧ CP M1 (modeS r c m f w p) (kp1 kp) (hsS H kp r) S fl n tx := by
  have h5 := hw.1.1
  have hx : wi (nI c) 0 (nI C - 1) = true := (wi_ix (by omega)).mpr ⟨c, hcC, rfl⟩
  obtain ⟨M1, nt', e1, c1, h1, n1⟩ := noteP h
  have hCn : c < Cn r := by unfold Cn; rw [h5.1, ix_nI (by omega)]; exact hcC
  have hz : modeWhy (nI m) f w p = 0 := by
    unfold modeWhy
    rw [if_pos (show wi (nI m) 0 2 = true from wiN (a := 0) (b := 2) (by omega) (by omega) (by omega)), if_pos ⟨y1, y2, y3⟩]
  obtain ⟨m', hm', em, -, M2, e2, r2, f2⟩ := (modeC (x2 := nI m) (f := f) (w := w) (p := p) c1.1.1 hCn (by omega) (hw.1.2.1 c hcC)).2 hz
  have := (eq_nI (by omega) (by omega)).mp em
  subst this
  have hok := modeS_ch (hw.1.2.1 c hcC) hm y1 y2 y3
  have bf := wi_t y1
  have hf : Sm f 2000 := smF2 y1
  have hw2 : WF (modeS r c m f w p) C L P s ln nn := hw.ch hcC (fun k hk => modeS_at (by omega)) hok
  obtain ⟨M3, e3, c3⟩ := keepP c1 h1 n1 (Sm0 (gainR_bd hok.2.1 hf)) r2 f2 ⟨C, L, P, s, ln, nn, hw2⟩
  refine ⟨hw2, M3, ?_, c3⟩
  unfold f_X6_setMode
  rw [hasChC h.1.1 h5.1, Option.bind_some, hx, if_neg bz_t0, e1, Option.bind_some, gd_of (inb_nI (by omega) (by omega)), ix_nI (by omega), show 0 + 6 + 5 + 9 * c = 0 + (11 + 9 * c) by omega, e2, Option.bind_some, e3, Option.bind_some]
theorem c_notch {c N : Nat} {f t l : Int32} (h : CP M r kp H S fl n tx) (hw : WF r C L P s ln nn) (hcC : c < C) (hN : r (34 + 29 * c + 12) = nI N) (h4 : N ≤ 4) (ho : notOK f t l) : (N = 4 → ∃ M1, f_X6_addNotch 650 (nI c) f t l M = some (-4, M1) ∧ CP M1 r kp H S fl n tx) ∧ (N < 4 → WF (notS r c N f t l) C L P s ln nn ∧ ∃ M1, f_X6_addNotch 650 (nI c) f t l M = some (nI N, M1) ∧ CP M1 (notS r c N f t l) (kp1 kp) (hsS H kp r) S fl n tx) := by
  have h5 := hw.1.1
  have hx : wi (nI c) 0 (nI C - 1) = true := (wi_ix (by omega)).mpr ⟨c, hcC, rfl⟩
  obtain ⟨M1, nt', e1, c1, h1, n1⟩ := noteP h
  have hCn : c < Cn r := by unfold Cn; rw [h5.1, ix_nI (by omega)]; exact hcC
  obtain ⟨k1, k2, k3⟩ := notC (f := f) (t := t) (l := l) c1.1.1 hCn (by omega) hN h4
  constructor
  · intro z
    refine ⟨M1, ?_, c1⟩
    unfold f_X6_addNotch f_X6_recorded f_X6_recorded_11
    rw [hasChC h.1.1 h5.1, Option.bind_some, hx, if_neg bz_t0, e1, Option.bind_some, gd_of (inb_nI (by omega) (by omega)), ix_nI (by omega), show 0 + 6 + 5 + 9 * c = 0 + (11 + 9 * c) by omega, k2 ho z, Option.bind_some]
    dsimp only
    rw [if_pos (by decide), Option.bind_some]
  · intro z
    obtain ⟨M2, e2, r2, f2⟩ := k3 ho z
    have hok := notS_ch (hw.1.2.1 c hcC) hN z ho
    have hw2 : WF (notS r c N f t l) C L P s ln nn := hw.ch hcC (fun k hk => notS_at (by omega) (by omega)) hok
    obtain ⟨M3, e3, c3⟩ := keepP (v := nI N) c1 h1 n1 (ge0 (by omega)) r2 f2 ⟨C, L, P, s, ln, nn, hw2⟩
    refine ⟨hw2, M3, ?_, c3⟩
    unfold f_X6_addNotch
    rw [hasChC h.1.1 h5.1, Option.bind_some, hx, if_neg bz_t0, e1, Option.bind_some, gd_of (inb_nI (by omega) (by omega)), ix_nI (by omega), show 0 + 6 + 5 + 9 * c = 0 + (11 + 9 * c) by omega, e2, Option.bind_some, e3, Option.bind_some]
theorem c_start {x : Int32} (h : CP M r kp H S fl n tx) (hw : WF r C L P s ln nn) (hx : wi x 1 1000 = true) : (refN r C L P s = 0 → WF (startS r x) C L P 1 0 nn ∧ ∃ M1, f_X6_start 650 x M = some (nI L, M1) ∧ CP M1 (startS r x) (kp1 kp) (hsS H kp r) S fl n tx) ∧ (refN r C L P s ≠ 0 → WF (upd r 11 (nI (refN r C L P s))) C L P s ln nn ∧ ∃ M1, f_X6_start 650 x M = some (-5, M1) ∧ CP M1 (upd r 11 (nI (refN r C L P s))) kp H S fl n tx) := by
  constructor
  · intro h0
    obtain ⟨z1, z2, z3, z4⟩ := refN0 h0
    have hw2 := startWF hw z2 z3 z4 (okD_of hx)
    exact ⟨hw2, recP h (g := f_X4_begin 0 x) (ge0 (by have := hw.2.1.1.2; omega)) (fun M1 c1 R1 => (beginC R1 hw hx).1 h0) ⟨C, L, P, 1, 0, nn, hw2⟩⟩
  · intro h0
    have hw2 := hw.up11 (nI (refN r C L P s))
    exact ⟨hw2, refP h (g := f_X4_begin 0 x) (by decide) (fun M1 c1 R1 => (beginC R1 hw hx).2 h0) ⟨C, L, P, s, ln, nn, hw2⟩⟩
theorem c_channel {b1 : Bool} {x2 x3 : Int32} (h : CP M r kp H S fl n tx) (hw : WF r C L P s ln nn) (hx : wi x2 0 5000 = true) (hy : wi x3 1 200000 = true) (hb : restB s = true) (hC6 : C < 6) : WF (chanS r C (bz b1) x2 x3) (C + 1) L P s ln nn ∧ ∃ M1, f_X6_addChannel 650 b1 x2 x3 M = some (nI C, M1) ∧ CP M1 (chanS r C (bz b1) x2 x3) (kp1 kp) (hsS H kp r) S fl n tx := by
  have h1 := hw.2.2.2.2.2.1
  have h5 := hw.1.1
  have hb01 : bz b1 = 0 ∨ bz b1 = 1 := bz_01 b1
  have hw2 := chanWF (x2 := x2) (x3 := x3) hw hb hC6 hb01 hx
  refine ⟨hw2, recP h (g := f_X4_joinChannel 0 b1 x2 x3) (ge0 (by omega)) (fun M1 c1 R1 => ?_) ⟨C + 1, L, P, s, ln, nn, hw2⟩⟩
  obtain ⟨M2, e2, r2, f2⟩ := becomeC (b1 := b1) (x2 := x2) (x3 := x3) R1 hw hC6
  refine ⟨M2, ?_, r2, f2⟩
  unfold f_X4_joinChannel
  rw [isWithin_ok, Option.bind_some, hx, if_neg bz_t0, isWithin_ok, Option.bind_some, hy, if_neg bz_t0, restsC R1 h1, Option.bind_some, hb, if_neg bz_t0, if_pos (by rw [show M1 0 3 = nI C from R1.s.2.1.trans h5.1, show (6 : Int32) = nI 6 from rfl, lt_nI (by omega) (by omega)]; exact hC6)]
  exact e2
theorem c_lines_no {x1 x2 x3 : Int32} (h : CP M r kp H S fl n tx) (hx : wi x1 5 1000 = false) : ∃ M1, f_X6_setLines 650 x1 x2 x3 M = some (-2, M1) ∧ CP M1 r kp H S fl n tx :=
  refP h (g := f_X4_layLines 0 x1 x2 x3) (v := -2) (r' := r) (by decide) (fun M1 c1 R1 => ⟨M1, by
    unfold f_X4_layLines f_X4_layLines_34
    rw [isWithin_ok, Option.bind_some, hx, if_pos bz_f0], R1, Fr.rf⟩) h.1.2
theorem c_lines {x1 x2 x3 : Int32} {N : Nat} (h : CP M r kp H S fl n tx) (hw : WF r C L P s ln nn) (hx : wi x1 5 1000 = true) (hy : wi x2 x1 2000 = true) (hz : wi x3 10 1000 = true) (hb : restB s = true) (hq : N ≤ 100) (hN : ∀ k, k < N → ¬ x2 < lfS x1 x3 k ∧ Sm (lfS x1 x3 k) 2000) (hN3 : x2 < lfS x1 x3 N) : WF (linS r N x1 x3) C N P 0 0 nn ∧ ∃ M1, f_X6_setLines 650 x1 x2 x3 M = some (nI N, M1) ∧ CP M1 (linS r N x1 x3) (kp1 kp) (hsS H kp r) S fl n tx := by
  have h1 := hw.2.2.2.2.2.1
  have hcN : cntS N = N := by unfold cntS; rw [if_pos hq]
  have cC : ∀ M1 : MM, f_X2_countOf x1 x2 x3 M1 = some (nI (cntS N)) := fun M1 => countC_loop (M := M1) (fun k hk => (hN k hk).1) hN3 (cntS N) 0 FU (by omega) (by unfold FU; omega)
  have hw2 := linWF (f := x1) (rt := x3) hw hq (fun k hk => (hN k hk).2)
  refine ⟨hw2, recP h (g := f_X4_layLines 0 x1 x2 x3) (ge0 (by omega)) (fun M1 c1 R1 => ?_) ⟨C, N, P, 0, 0, nn, hw2⟩⟩
  obtain ⟨M2, e2, r2, f2⟩ := layC (f := x1) (rt := x3) R1 hw hb hq
  refine ⟨M2, ?_, r2, f2⟩
  unfold f_X4_layLines
  rw [isWithin_ok, Option.bind_some, hx, if_neg bz_t0, isWithin_ok, Option.bind_some, hy, if_neg bz_t0, isWithin_ok, Option.bind_some, hz, if_neg bz_t0, restsC R1 h1, Option.bind_some, hb, if_neg bz_t0, cC, Option.bind_some, hcN, if_pos (by rw [show (100 : Int32) = nI 100 from rfl, le_nI (by omega) (by omega)]; exact hq)]
  exact e2
theorem c_point_run {x1 x2 : Int32} (h : CP M r kp H S fl n tx) (hw : WF r C L P s ln nn) (hx : wi x1 1 2000 = true) (hy : wi x2 1 50000 = true) (hb : restB s = false) : ∃ M1, f_X6_setPoint 650 x1 x2 M = some (-3, M1) ∧ CP M1 r kp H S fl n tx :=
  refP h (g := f_X4_putPoint 0 x1 x2) (v := -3) (r' := r) (by decide) (fun M1 c1 R1 => ⟨M1, by
    unfold f_X4_putPoint
    rw [isFrequency_ok, Option.bind_some, hx, if_neg bz_t0, isWithin_ok, Option.bind_some, hy, if_neg bz_t0, restsC R1 hw.2.2.2.2.2.1, Option.bind_some, hb, if_pos bz_f0], R1, Fr.rf⟩) h.1.2
theorem c_point {x1 x2 : Int32} (h : CP M r kp H S fl n tx) (hw : WF r C L P s ln nn) (hx : wi x1 1 2000 = true) (hy : wi x2 1 50000 = true) (hb : restB s = true) : (∃ M1, P = 8 ∧ f_X6_setPoint 650 x1 x2 M = some (-4, M1) ∧ CP M1 r kp H S fl n tx) ∨ (∃ p P' M1, p < P' ∧ P ≤ P' ∧ WF (ptS r p P' x1 x2) C L P' s ln nn ∧ f_X6_setPoint 650 x1 x2 M = some (nI P', M1) ∧ CP M1 (ptS r p P' x1 x2) (kp1 kp) (hsS H kp r) S fl n tx) := by
  have h1 := hw.2.2.2.2.2.1
  have hp4 := hw.2.2.1.1
  have hp8 := hp4.2
  have sx : Sm x1 2000 := smF2 hx
  have hc : ∀ M1, CP M1 r kp H S fl n tx → f_X4_putPoint 0 x1 x2 M1 = Option.bind (f_X3_put (0 + 3) x1 x2 M1) fun v7 => some (v7.1, v7.2) := fun M1 c1 => by
    unfold f_X4_putPoint
    rw [isFrequency_ok, Option.bind_some, hx, if_neg bz_t0, isWithin_ok, Option.bind_some, hy, if_neg bz_t0, restsC c1.1.1 h1, Option.bind_some, hb, if_neg bz_t0]
  by_cases hf : ∃ p, p < P ∧ r (18 + 2 * p) = x1
  · obtain ⟨p, hp, hpx⟩ := hf
    have hwp := (putC_found (x1 := x1) (x2 := x2) h.1.1 hw.2.2.1 hp hpx).choose_spec.2.2.2
    have hw2 := ptWF hw (show p < 8 by omega) hb hwp
    obtain ⟨M1, e1, c1⟩ := recP h (g := f_X4_putPoint 0 x1 x2) (r' := ptS r p P x1 x2) (v := nI P) (ge0 (by omega)) (fun M1 c1 R1 => by
      obtain ⟨M2, e2, r2, f2, -⟩ := putC_found (x1 := x1) (x2 := x2) R1 hw.2.2.1 hp hpx
      exact ⟨M2, by rw [hc M1 c1, e2, Option.bind_some], r2, f2⟩) ⟨C, L, P, s, ln, nn, hw2⟩
    exact Or.inr ⟨p, P, M1, hp, Nat.le_refl _, hw2, e1, c1⟩
  · have hn : ∀ q, q < P → r (18 + 2 * q) ≠ x1 := fun q hq e => hf ⟨q, hq, e⟩
    by_cases h8 : P = 8
    · obtain ⟨M1, e1, c1⟩ := refP h (g := f_X4_putPoint 0 x1 x2) (v := -4) (r' := r) (by decide) (fun M1 c1 R1 => ⟨M1, by rw [hc M1 c1, (putC_new (x2 := x2) R1 hw.2.2.1 sx hn).1 h8, Option.bind_some], R1, Fr.rf⟩) h.1.2
      exact Or.inl ⟨M1, h8, e1, c1⟩
    · have hwp := ((putC_new (x2 := x2) h.1.1 hw.2.2.1 sx hn).2 (by omega)).choose_spec.2.2.2
      have hw2 := ptWF hw (show P < 8 by omega) hb hwp
      obtain ⟨M1, e1, c1⟩ := recP h (g := f_X4_putPoint 0 x1 x2) (r' := ptS r P (P + 1) x1 x2) (v := nI (P + 1)) (ge0 (by omega)) (fun M1 c1 R1 => by
        obtain ⟨M2, e2, r2, f2, -⟩ := (putC_new (x2 := x2) R1 hw.2.2.1 sx hn).2 (by omega)
        exact ⟨M2, by rw [hc M1 c1, e2, Option.bind_some], r2, f2⟩) ⟨C, L, P + 1, s, ln, nn, hw2⟩
      exact Or.inr ⟨P, P + 1, M1, by omega, by omega, hw2, e1, c1⟩
theorem c_append {x : Int32} (h : CP M r kp H S fl n tx) (hx : wi x 32 126 = true) (hn : n < 80) : ∃ M1, f_X6_append 650 x M = some (nI (n + 1), M1) ∧ CP M1 r kp H S fl (n + 1) (upd tx n x) := by
  obtain ⟨-, -, -, t1, t2, t3⟩ := id h
  have hb := wi_t hx
  have b1 : (32 : Int32).toInt = 32 := rfl
  have b2 : (126 : Int32).toInt = 126 := rfl
  unfold f_X6_append f_X5_add
  rw [isWithin_ok, Option.bind_some, hx, if_neg bz_t0, t1, if_pos (by rw [show (80 : Int32) = nI 80 from rfl, lt_nI (by omega) (by omega)]; omega), gd_of (inb_nI (by omega) (by omega)), ix_nI (by omega), ms_ne (show 655 ≠ 655 + 1 by omega), t1, nI_1, Option.bind_some, ms_eq]
  refine ⟨ms (ms M 656 n x) 655 1 (nI (n + 1)), rfl, h.txt (fun q hq => by rw [ms_ne (by omega), ms_ne (by omega)]) ⟨ms_eq _ _ _ _, by omega, fun k hk => ?_⟩⟩
  rw [ms_ne (by omega)]
  by_cases q : k = n
  · subst q
    rw [ms_eq, upd_eq]
    exact ⟨rfl, by omega, by omega⟩
  · rw [ms_ni q, upd_ne q]
    exact t3 k (by omega)
theorem c_clear (h : CP M r kp H S fl n tx) : ∃ M1, f_X6_clearText 650 M = some (nI n, M1) ∧ CP M1 r kp H S fl 0 tx := by
  obtain ⟨-, -, -, t1, t2, t3⟩ := id h
  refine ⟨ms M 655 1 0, ?_, h.txt (fun q hq => ms_ne (by omega)) ⟨ms_eq _ _ _ _, by omega, fun k hk => by omega⟩⟩
  unfold f_X6_clearText
  rw [t1]
theorem c_left (h : CP M r kp H S fl n tx) : ∃ M1 s', ((lpS 500 0 r).1 1 = nI s' ∧ s' ≤ 5) ∧ f_X6_loopsLeft 650 M = some ((if restB s' = true then nI (lpS 500 0 r).2 else -6), M1) ∧ CP M1 r kp H S fl n tx := by
  obtain ⟨⟨a, C, L, P, s, ln, nn, hw⟩, -, -, -⟩ := id h
  have hWR : WFr r := ⟨C, L, P, s, ln, nn, hw⟩
  obtain ⟨⟨C', L', P', s', ln', nn', w1⟩, w2, w3⟩ := lpS_WF 500 0 r hWR
  have h1 := w1.2.2.2.2.2.1
  obtain ⟨M1, e1, r1, f1⟩ := copyC (b := 0) (b' := 65) (by omega) a hw
  obtain ⟨M2, e2, r2, f2⟩ := lpC13 rfl 500 0 FU M1 r (by omega) (by unfold FU; omega) r1 hWR
  refine ⟨M2, s', h1, ?_, h.fr65 (f1.tr f2)⟩
  unfold f_X6_loopsLeft
  rw [e1, Option.bind_some, show (0 : Int32) = nI 0 from rfl, e2]
  unfold f_X6_loopsLeft_43 f_X6_loopsLeft_59
  rw [restsC r2 h1, Option.bind_some]
  cases restB s' with
  | true => rw [if_neg bz_t0, if_pos rfl]
  | false => rw [if_pos bz_f0, if_neg (show ¬ false = true by decide)]
theorem c_would {X : Nat} (h : CP M r kp H S fl n tx) (hw : WF r C L P s ln nn) (h1 : 1 ≤ X) (h2 : X ≤ 300) : ∃ M1, f_X6_wouldAbort 650 (nI X) M = some ((if measB s = true then msL X r 9 else -6), M1) ∧ CP M1 r kp H S fl n tx := by
  have hs := hw.2.2.2.2.2.1
  have hWR : WFr r := ⟨C, L, P, s, ln, nn, hw⟩
  have hx : wi (nI X) 1 300 = true := wiN (a := 1) (b := 300) (by omega) h1 h2
  have a := h.1.1
  unfold f_X6_wouldAbort
  rw [isWithin_ok, Option.bind_some, hx, if_neg bz_t0, measuresC a hs, Option.bind_some]
  cases hb : measB s with
  | false =>
    rw [if_pos bz_f0, if_neg (by decide)]
    exact ⟨M, rfl, h⟩
  | true =>
    obtain ⟨M1, e1, r1, f1⟩ := copyC (b := 0) (b' := 65) (by omega) a hw
    obtain ⟨M2, e2, f2⟩ := waC h2 X 0 FU M1 r (by omega) (by unfold FU; omega) r1 hWR
    rw [if_neg bz_t0, e1, Option.bind_some, if_pos rfl]
    exact ⟨M2, e2, h.fr65 (f1.tr f2)⟩
theorem c_high {X c : Nat} (h : CP M r kp H S fl n tx) (hw : WF r C L P s ln nn) (hc : c < C) (h1 : 1 ≤ X) (h2 : X ≤ 300) : ∃ M1, f_X6_highest 650 (nI c) (nI X) M = some (hgL c X (-6) r, M1) ∧ CP M1 r kp H S fl n tx := by
  have h5 := hw.1.1
  have hx : wi (nI c) 0 (nI C - 1) = true := (wi_ix (by omega)).mpr ⟨c, hc, rfl⟩
  have hy : wi (nI X) 1 300 = true := wiN (a := 1) (b := 300) (by omega) h1 h2
  have a := h.1.1
  obtain ⟨M1, e1, r1, f1⟩ := copyC (b := 0) (b' := 65) (by omega) a hw
  obtain ⟨M2, e2, f2⟩ := hgC h2 hc h5.2 X 0 FU (-6) M1 r (by omega) (by unfold FU; omega) r1 ⟨L, P, s, ln, nn, hw⟩
  refine ⟨M2, ?_, h.fr65 (f1.tr f2)⟩
  unfold f_X6_highest
  rw [hasChC a h5.1, Option.bind_some, hx, if_neg bz_t0, isWithin_ok, Option.bind_some, hy, if_neg bz_t0, e1, Option.bind_some]
  exact e2
theorem c_high_no {c : Nat} {y : Int32} (h : CP M r kp H S fl n tx) (hw : WF r C L P s ln nn) (hc : c < C) (hy : wi y 1 300 = false) : f_X6_highest 650 (nI c) y M = some (-2, M) := by
  have h5 := hw.1.1
  have hx : wi (nI c) 0 (nI C - 1) = true := (wi_ix (by omega)).mpr ⟨c, hc, rfl⟩
  unfold f_X6_highest
  rw [hasChC h.1.1 h5.1, Option.bind_some, hx, if_neg bz_t0, isWithin_ok, Option.bind_some, hy, if_pos bz_f0]
end CPV
