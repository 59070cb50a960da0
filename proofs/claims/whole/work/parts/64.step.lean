/-! PURE: step, hold and abort on both sides -/
theorem MI.mo {M M' : MM} {R r' : Nat → Int32} {kp n : Nat} {tx fl : Nat → Int32} (h : MI M R kp n tx fl) (e : Mo M M') (er : M' 658 = r') : MI M' r' kp n tx fl := by
  obtain ⟨a, b, c, d, f⟩ := h
  exact ⟨er, by rw [e _ (by omega) (by omega)]; exact b, by rw [e _ (by omega) (by omega)]; exact c, fun k hk => by rw [e _ (by omega) (by omega)]; exact d k hk, fun x hx => by rw [e _ (by omega) (by omega)]; exact f x hx⟩
theorem Mo.hi {M M' : MM} (e : Mo M M') : Hi M M' := fun q hq => e q (by omega) (by omega)
theorem Mo.row {M : MM} {f : Nat → Int32} : Mo M (msf M 658 f) := fun _ a _ => msf_ne a
theorem recM {M : MM} {R : Nat → Int32} {kp n : Nat} {tx fl : Nat → Int32} (h : MI M R kp n tx fl) (hkp : kp ≤ 5) : ∃ M', f_X7_records 657 M = some M' ∧ MI M' (recR R kp) (kp1 kp) n tx fl ∧ Hi M M' := by
  obtain ⟨g1, g2, g3, g4, g5⟩ := h
  obtain ⟨M2, e2, k1, k2, k3, k4⟩ := rec_ok g2 hkp
  rw [g1] at k1
  exact ⟨M2, e2, ⟨k1, k2, by rw [k3 4 (by omega)]; exact g3, fun k hk => by rw [k4 _ (by omega) (by omega)]; exact g4 k hk, fun x hx => by rw [k4 _ (by omega) (by omega)]; exact g5 x hx⟩, fun q hq => k4 q (by omega) (by omega)⟩
def restB (s : Nat) : Bool := decide (s = 0 ∨ 4 ≤ s)
def measB (s : Nat) : Bool := decide (s = 1 ∨ s = 2)
theorem measuresC {M : MM} {b s : Nat} {r : Nat → Int32} (hR : Rep M b r) (h1 : r 1 = nI s ∧ s ≤ 5) : f_X4_measures b M = some (measB s) := by
  have m8 : M b 8 = nI s := hR.s.2.2.1.trans h1.1
  unfold f_X4_measures f_X4_measures_16 f_X4_measures_21
  rw [m8]
  rcases (show s = 0 ∨ s = 1 ∨ s = 2 ∨ s = 3 ∨ s = 4 ∨ s = 5 by omega) with rfl | rfl | rfl | rfl | rfl | rfl <;> rfl
theorem restsC {M : MM} {b s : Nat} {r : Nat → Int32} (hR : Rep M b r) (h1 : r 1 = nI s ∧ s ≤ 5) : f_X4_rests b M = some (restB s) := by
  have m8 : M b 8 = nI s := hR.s.2.2.1.trans h1.1
  unfold f_X4_rests f_X4_rests_19 f_X4_rests_20
  rw [measuresC hR h1, Option.bind_some, m8]
  rcases (show s = 0 ∨ s = 1 ∨ s = 2 ∨ s = 3 ∨ s = 4 ∨ s = 5 by omega) with rfl | rfl | rfl | rfl | rfl | rfl <;> rfl
theorem restsM {M : MM} {s : Nat} (h1 : M 658 1 = nI s ∧ s ≤ 5) : f_X7_rests 657 M = some (restB s) := by
  unfold f_X7_rests f_X7_rests_19 f_X7_rests_24
  rw [gd_of (show inb 1 16272 = true by decide), gd_of (show inb 1 16272 = true by decide), show ix 1 = 1 from rfl, show (657 + 1 : Nat) = 658 from rfl, h1.1]
  rcases (show s = 0 ∨ s = 1 ∨ s = 2 ∨ s = 3 ∨ s = 4 ∨ s = 5 by omega) with rfl | rfl | rfl | rfl | rfl | rfl <;> rfl
theorem canAbortM {M : MM} {s : Nat} (h1 : M 658 1 = nI s ∧ s ≤ 5) : f_X7_canAbort 657 M = some (measB s) := by
  unfold f_X7_canAbort f_X7_canAbort_20 f_X7_canAbort_25
  rw [gd_of (show inb 1 16272 = true by decide), gd_of (show inb 1 16272 = true by decide), show ix 1 = 1 from rfl, show (657 + 1 : Nat) = 658 from rfl, h1.1]
  rcases (show s = 0 ∨ s = 1 ∨ s = 2 ∨ s = 3 ∨ s = 4 ∨ s = 5 by omega) with rfl | rfl | rfl | rfl | rfl | rfl <;> rfl
theorem goR_hi {w : Nat → Int32} {C j : Nat} {mg : Nat → Int32} {cl : Int32} (hj : j < 100) {k : Nat} (hk : 1808 ≤ k) : goR w C j mg cl k = w k := by
  have ⟨z, nt, e⟩ : ∃ z nt, goR w C j mg cl = goS w j z nt := ⟨_, _, rfl⟩
  rw [e]
  unfold goS
  rw [upd_ne (by omega), upd_ne (by omega), upd_ne (by omega), upd_ne (by omega)]
theorem loopS_hi {r : Nat → Int32} {C L P s ln nn : Nat} (h : WF r C L P s ln nn) (hs : s = 1 ∨ s = 2 ∨ s = 3) {k : Nat} (hk : 1808 ≤ k) : loopS r k = r k := by
  have h1 := h.2.2.2.2.2.1
  by_cases q : s = 3
  · subst q
    unfold loopS
    rw [if_pos (show r 1 = 3 from h1.1)]
    unfold rampS
    rw [upd_ne (by omega), upd_ne (by omega), upd_ne (by omega)]
  · have hs2 : s = 1 ∨ s = 2 := by omega
    rw [loopS_m h hs2]
    have h6 := h.1.1.2
    have hL := h.2.1.1.2
    have hln := h.2.2.2.2.2.2.1.2
    have e0 : upd r 8 (r 8 + 1) k = r k := upd_ne (by omega)
    rw [← e0]
    generalize upd r 8 (r 8 + 1) = r'
    have e1 : wS r' C ln nn k = r' k := wS_un (by omega) (by omega) (by omega) (fun j hj => by omega)
    unfold mloopS sweepS
    split
    · split
      · cases hst2 : stepL (nz (wS r' C ln nn 7)) ln L with
        | some j =>
          dsimp only
          have : ln < L := (h.2.2.2.2.2.2.2.2.1 hs2).1
          rw [goR_hi (by have := (stepL_some this hL hst2).2.1; omega) hk, e1]
        | none =>
          dsimp only
          have : ln < L := (h.2.2.2.2.2.2.2.2.1 hs2).1
          split
          · rw [goR_hi (by have := stepL_lt (up := !(nz (wS r' C ln nn 7))) this hL; omega) hk, upd_ne (by omega), upd_ne (by omega), e1]
          · rw [upd_ne (by omega), upd_ne (by omega), upd_ne (by omega), e1]
      · rw [goR_hi hln hk, e1]
    · rw [upd_ne (by omega), upd_ne (by omega), upd_ne (by omega), e1]
noncomputable def lpS : Nat → Nat → (Nat → Int32) → (Nat → Int32) × Nat
  | 0, j, r => (r, j)
  | d + 1, j, r => if r 1 = 1 ∨ r 1 = 2 ∨ r 1 = 3 then lpS d (j + 1) (loopS r) else (r, j)
theorem runs_iff {r : Nat → Int32} {s : Nat} (h1 : r 1 = nI s ∧ s ≤ 5) : (r 1 = 1 ∨ r 1 = 2 ∨ r 1 = 3) ↔ restB s = false := by
  rw [h1.1]
  rcases (show s = 0 ∨ s = 1 ∨ s = 2 ∨ s = 3 ∨ s = 4 ∨ s = 5 by omega) with rfl | rfl | rfl | rfl | rfl | rfl <;> decide
theorem rest_s {s : Nat} (h : restB s = false) : s = 1 ∨ s = 2 ∨ s = 3 := by
  unfold restB at h
  have := of_decide_eq_false h
  omega
theorem lpS_WF : ∀ (d j : Nat) (r : Nat → Int32), WFr r → WFr (lpS d j r).1 ∧ (lpS d j r).2 ≤ j + d ∧ ∀ k, 1808 ≤ k → (lpS d j r).1 k = r k
  | 0, j, r, h => ⟨h, Nat.le_refl _, fun _ _ => rfl⟩
  | d + 1, j, r, h => by
    obtain ⟨C, L, P, s, ln, nn, hw⟩ := id h
    rw [lpS]
    have hi := runs_iff hw.2.2.2.2.2.1
    by_cases q : r 1 = 1 ∨ r 1 = 2 ∨ r 1 = 3
    · rw [if_pos q]
      have hs := rest_s (hi.mp q)
      obtain ⟨s', ln', hw'⟩ := loopS_WF hw hs
      obtain ⟨a, b, c⟩ := lpS_WF d (j + 1) (loopS r) ⟨C, L, P, s', ln', nn, hw'⟩
      exact ⟨a, by omega, fun k hk => (c k hk).trans (loopS_hi hw hs hk)⟩
    · rw [if_neg q]
      exact ⟨h, by omega, fun _ _ => rfl⟩
theorem lpC {b X : Nat} (hX : X ≤ 1000) : ∀ (d j k : Nat) (M : MM) (r : Nat → Int32), j + d = X → d < k → Rep M b r → WFr r → ∃ M', f_X4_doLoops_25 b k (nI X) (nI j) M = some (nI (lpS d j r).2, M') ∧ Rep M' b (lpS d j r).1 ∧ Fr b M M' := by
  intro d
  induction d with
  | zero =>
    intro j k M r hj hk hR hw
    obtain ⟨k, rfl⟩ : ∃ k', k = k' + 1 := ⟨k - 1, by omega⟩
    unfold f_X4_doLoops_25
    rw [if_pos (by rw [le_nI (by omega) (by omega)]; omega)]
    exact ⟨M, rfl, hR, Fr.rf⟩
  | succ d ih =>
    intro j k M r hj hk hR hw
    obtain ⟨k, rfl⟩ : ∃ k', k = k' + 1 := ⟨k - 1, by omega⟩
    obtain ⟨C, L, P, s, ln, nn, hw'⟩ := id hw
    have h1 := hw'.2.2.2.2.2.1
    unfold f_X4_doLoops_25
    rw [if_neg (by rw [le_nI (by omega) (by omega)]; omega), restsC hR h1, Option.bind_some, lpS]
    cases hb : restB s with
    | true =>
      rw [if_neg bz_t0, if_neg (by rw [runs_iff h1, hb]; decide)]
      exact ⟨M, rfl, hR, Fr.rf⟩
    | false =>
      have hs := rest_s hb
      rw [if_pos bz_f0, if_pos ((runs_iff h1).mpr hb)]
      obtain ⟨M1, e1, R1, -, F1⟩ := loopC_ok hw' hs hR
      obtain ⟨s', ln', hw1⟩ := loopS_WF hw' hs
      rw [e1, Option.bind_some, nI_1]
      obtain ⟨M2, e2, R2, F2⟩ := ih (j + 1) k M1 (loopS r) (by omega) (by omega) R1 ⟨C, L, P, s', ln', nn, hw1⟩
      exact ⟨M2, e2, R2, F1.tr F2⟩
theorem lpM {X : Nat} (hX : X ≤ 1000) : ∀ (d j k : Nat) (M : MM), j + d = X → d < k → WFr (M 658) → ∃ M', f_X7_loops_2 657 k (nI X) (nI j) M = some (nI (lpS d j (M 658)).2, M') ∧ M' 658 = (lpS d j (M 658)).1 ∧ Mo M M' := by
  intro d
  induction d with
  | zero =>
    intro j k M hj hk hw
    obtain ⟨k, rfl⟩ : ∃ k', k = k' + 1 := ⟨k - 1, by omega⟩
    unfold f_X7_loops_2
    rw [if_pos (by rw [le_nI (by omega) (by omega)]; omega)]
    exact ⟨M, rfl, rfl, Mo.rf⟩
  | succ d ih =>
    intro j k M hj hk hw
    obtain ⟨k, rfl⟩ : ∃ k', k = k' + 1 := ⟨k - 1, by omega⟩
    obtain ⟨C, L, P, s, ln, nn, hw'⟩ := id hw
    have h1 := hw'.2.2.2.2.2.1
    unfold f_X7_loops_2
    rw [if_neg (by rw [le_nI (by omega) (by omega)]; omega), restsM h1, Option.bind_some, lpS]
    cases hb : restB s with
    | true =>
      rw [if_neg bz_t0, if_neg (by rw [runs_iff h1, hb]; decide)]
      exact ⟨M, rfl, rfl, Mo.rf⟩
    | false =>
      have hs := rest_s hb
      rw [if_pos bz_f0, if_pos ((runs_iff h1).mpr hb)]
      obtain ⟨M1, e1, R1, F1⟩ := loopM_ok hw' hs
      obtain ⟨s', ln', hw1⟩ := loopS_WF hw' hs
      rw [e1, Option.bind_some, nI_1]
      obtain ⟨M2, e2, R2, F2⟩ := ih (j + 1) k M1 (by omega) (by omega) (by rw [R1]; exact ⟨C, L, P, s', ln', nn, hw1⟩)
      rw [R1] at e2 R2
      exact ⟨M2, e2, R2, F1.tr F2⟩
theorem step_pair (x : Int32) : Pair (f_X6_step 650 x) (f_X7_step 657 x) := by
  rintro M ⟨R, kp, n, tx, fl, hC, hM⟩
  obtain ⟨⟨a, C, L, P, s, ln, nn, hw⟩, ⟨nt, hh⟩, d, f⟩ := id hC
  have hkp := hh.2.2.2.1
  have h1 := hw.2.2.2.2.2.1
  have hWR : WFr R := ⟨C, L, P, s, ln, nn, hw⟩
  cases hx : wi x 1 50 with
  | false =>
    refine mkP (v := -2) hM (refC hC (g := f_X4_doLoops 0 x) (v := -2) (r' := R) (by decide) (fun M1 c1 => ⟨M1, ?_, c1.1.1, Fr.rf⟩) hWR (fun _ _ => rfl)) (fun M1 g => ⟨M1, ?_, g, Hi.rf⟩)
    · unfold f_X4_doLoops
      rw [isWithin_ok, Option.bind_some, hx, if_pos bz_f0]
    · unfold f_X7_step
      rw [in_ok, Option.bind_some, hx, if_pos bz_f0]
  | true =>
    obtain ⟨X, rfl, hX1, hX2⟩ := wi_nI (a := 1) (b := 50) (by omega) (by omega) hx
    cases hb : restB s with
    | true =>
      refine mkP (v := -3) hM (refC hC (g := f_X4_doLoops 0 (nI X)) (v := -3) (r' := R) (by decide) (fun M1 c1 => ⟨M1, ?_, c1.1.1, Fr.rf⟩) hWR (fun _ _ => rfl)) (fun M1 g => ⟨M1, ?_, g, Hi.rf⟩)
      · unfold f_X4_doLoops
        rw [isWithin_ok, Option.bind_some, hx, if_neg bz_t0, restsC c1.1.1 h1, Option.bind_some, hb, if_neg bz_t0]
      · unfold f_X7_step
        rw [in_ok, Option.bind_some, hx, if_neg bz_t0, restsM (by rw [g.1]; exact h1), Option.bind_some, hb, if_neg bz_t0]
    | false =>
      have hr : ∀ k, k < 1808 → recR R kp k = R k := fun k hk => recR_0 hkp hk
      have hW1 := hWR.cong hr
      obtain ⟨w1, w2, w3⟩ := lpS_WF X 0 (recR R kp) hW1
      refine mkP (v := nI (lpS X 0 (recR R kp)).2) hM (recC hC (g := f_X4_doLoops 0 (nI X)) (r' := (lpS X 0 (recR R kp)).1) (ge0 (by omega)) (fun M1 c1 R1 _ => ?_) w1 w3) (fun M1 g => ?_)
      · obtain ⟨M2, e2, r2, f2⟩ := lpC (b := 0) (X := X) (by omega) X 0 FU M1 (recR R kp) (by omega) (by unfold FU; omega) R1 hW1
        refine ⟨M2, ?_, r2, f2⟩
        unfold f_X4_doLoops
        rw [isWithin_ok, Option.bind_some, hx, if_neg bz_t0, restsC c1.1.1 h1, Option.bind_some, hb, if_pos bz_f0]
        exact e2
      · obtain ⟨M2, e2, m2, l2⟩ := recM g hkp
        obtain ⟨M3, e3, r3, l3⟩ := lpM (X := X) (by omega) X 0 FU M2 (by omega) (by unfold FU; omega) (by rw [m2.1]; exact hW1)
        rw [m2.1] at e3 r3
        refine ⟨M3, ?_, m2.mo l3 r3, l2.tr l3.hi⟩
        unfold f_X7_step f_X7_loops
        rw [in_ok, Option.bind_some, hx, if_neg bz_t0, restsM (by rw [g.1]; exact h1), Option.bind_some, hb, if_pos bz_f0, e2, Option.bind_some]
        rw [show f_X7_loops_2 657 FU (nI X) 0 M2 = some (nI (lpS X 0 (recR R kp)).2, M3) from e3, Option.bind_some]
