/-! PURE: hold, abort and set on both sides -/
theorem WF.st {r : Nat → Int32} {C L P s ln nn s' : Nat} (h : WF r C L P s ln nn) (hs : s = 1 ∨ s = 2) (hs' : s' = 1 ∨ s' = 2) : WF (upd r 1 (nI s')) C L P s' ln nn := by
  obtain ⟨hc, hl, hp, hst, ha, h1, h2, h7, h8, h9⟩ := h
  obtain ⟨p1, p2, p3, p4, p5⟩ := freeEq.parts (freeEq.put (r := r) (i := 1) (v := nI s') (by omega)) ⟨hc, hl, hp, hst, ha⟩
  have e : ∀ k, k ≠ 1 → upd r 1 (nI s') k = r k := fun k hk => upd_ne hk
  obtain ⟨a1, a2, a3, a4, a5⟩ := h8 hs
  have hct : cnF (ctR (upd r 1 (nI s'))) C = cnF (ctR r) C := cnF_cong (fun c hc => by unfold ctR; rw [e _ (by omega)])
  exact ⟨p1, p2, p3, p4, p5, ⟨upd_eq _ _ _, by omega⟩, by rw [e 2 (by omega)]; exact h2, by rw [e 7 (by omega)]; exact h7, fun _ => ⟨a1, a2, by rw [hct]; exact a3, by rw [e 3 (by omega)]; exact a4, by rw [e 9 (by omega)]; exact a5⟩, fun h => by omega⟩
theorem holdC {M : MM} {b s q q' : Nat} {r : Nat → Int32} {bb : Bool} (hR : Rep M b r) (h1 : r 1 = nI s ∧ s ≤ 5) (hq : (bb = true ∧ q = 1 ∧ q' = 2) ∨ (bb = false ∧ q = 2 ∧ q' = 1)) : (s ≠ q → f_X4_holdOrGoOn b bb M = some (-3, M)) ∧ (s = q → ∃ M', f_X4_holdOrGoOn b bb M = some (r 2, M') ∧ Rep M' b (upd r 1 (nI q')) ∧ Fr b M M') := by
  have m8 : M b 8 = nI s := hR.s.2.2.1.trans h1.1
  have R1 : Rep (ms M b 8 (nI q')) b (upd r 1 (nI q')) := Rep.put (o := 0) hR (k := 1) rfl (by omega) (by omega) (by omega) (n0' _ (by omega) (by omega) (by omega))
  have m9 : ms M b 8 (nI q') b 9 = r 2 := by rw [ms_ni (by omega)]; exact hR.s.2.2.2.1
  unfold f_X4_holdOrGoOn f_X4_holdOrGoOn_13 f_X4_holdOrGoOn_29
  rw [m8]
  rcases hq with ⟨rfl, rfl, rfl⟩ | ⟨rfl, rfl, rfl⟩
  · rw [if_neg bz_t0, if_neg bz_t0]
    constructor
    · intro hn
      rw [if_neg (by rw [show (1 : Int32) = nI 1 from rfl, eq_nI (by omega) (by omega)]; exact hn)]
    · intro he
      subst he
      rw [if_pos (show nI 1 = 1 from rfl)]
      exact ⟨ms M b 8 (nI 2), by rw [show (2 : Int32) = nI 2 from rfl, m9], R1, Fr.put (o := 0) Fr.rf (by omega)⟩
  · rw [if_pos bz_f0, if_pos bz_f0]
    constructor
    · intro hn
      rw [if_neg (by rw [show (2 : Int32) = nI 2 from rfl, eq_nI (by omega) (by omega)]; exact hn)]
    · intro he
      subst he
      rw [if_pos (show nI 2 = 2 from rfl)]
      exact ⟨ms M b 8 (nI 1), by rw [show (1 : Int32) = nI 1 from rfl, m9], R1, Fr.put (o := 0) Fr.rf (by omega)⟩
theorem canHoldM {M : MM} {s q q' : Nat} {bb : Bool} (h1 : M 658 1 = nI s ∧ s ≤ 5) (hq : (bb = true ∧ q = 1 ∧ q' = 2) ∨ (bb = false ∧ q = 2 ∧ q' = 1)) : f_X7_canHold 657 bb M = some (decide (s = q)) := by
  unfold f_X7_canHold f_X7_canHold_15 f_X7_canHold_23
  rw [gd_of (show inb 1 16272 = true by decide), show ix 1 = 1 from rfl, show (657 + 1 : Nat) = 658 from rfl, h1.1]
  rcases hq with ⟨rfl, rfl, rfl⟩ | ⟨rfl, rfl, rfl⟩
  · rcases (show s = 0 ∨ s = 1 ∨ s = 2 ∨ s = 3 ∨ s = 4 ∨ s = 5 by omega) with rfl | rfl | rfl | rfl | rfl | rfl <;> rfl
  · rcases (show s = 0 ∨ s = 1 ∨ s = 2 ∨ s = 3 ∨ s = 4 ∨ s = 5 by omega) with rfl | rfl | rfl | rfl | rfl | rfl <;> rfl
theorem hold_q (bb : Bool) : ∃ q q', ((bb = true ∧ q = 1 ∧ q' = 2) ∨ (bb = false ∧ q = 2 ∧ q' = 1)) ∧ (q = 1 ∨ q = 2) ∧ (q' = 1 ∨ q' = 2) := by
  cases bb
  · exact ⟨2, 1, Or.inr ⟨rfl, rfl, rfl⟩, Or.inr rfl, Or.inl rfl⟩
  · exact ⟨1, 2, Or.inl ⟨rfl, rfl, rfl⟩, Or.inl rfl, Or.inr rfl⟩
theorem hold_pair (bb : Bool) : Pair (f_X6_hold 650 bb) (f_X7_hold 657 bb) := by
  rintro M ⟨R, kp, n, tx, fl, hC, hM⟩
  obtain ⟨⟨a, C, L, P, s, ln, nn, hw⟩, ⟨nt, hh⟩, d, f⟩ := id hC
  have hkp := hh.2.2.2.1
  have h1 := hw.2.2.2.2.2.1
  have hWR : WFr R := ⟨C, L, P, s, ln, nn, hw⟩
  obtain ⟨q, q', hq, hqq, hq2⟩ := hold_q bb
  by_cases hs : s = q
  · have hr : ∀ k, k < 1808 → recR R kp k = R k := fun k hk => recR_0 hkp hk
    have hw1 : WF (recR R kp) C L P s ln nn := hw.cong hr
    have h2 := hw1.2.2.2.2.2.2.1
    refine mkP (v := nI ln) (R' := upd (recR R kp) 1 (nI q')) hM (recC hC (g := f_X4_holdOrGoOn 0 bb) (ge0 (by omega)) (fun M1 c1 R1 _ => ?_) ⟨C, L, P, q', ln, nn, hw1.st (by omega) hq2⟩ (fun k hk => upd_ne (by omega))) (fun M1 g => ?_)
    · obtain ⟨M2, e2, r2, f2⟩ := (holdC (bb := bb) R1 hw1.2.2.2.2.2.1 hq).2 hs
      exact ⟨M2, by rw [e2, h2.1], r2, f2⟩
    · obtain ⟨M2, e2, m2, l2⟩ := recM g hkp
      unfold f_X7_hold f_X7_hold_29
      rw [canHoldM (by rw [g.1]; exact h1) hq, Option.bind_some, show decide (s = q) = true from decide_eq_true hs, if_neg bz_t0, e2, Option.bind_some, gd_of (show inb (bz true) 16272 = true by decide), gd_of (show inb (bz true) 16272 = true by decide), gd_of (show inb 2 16272 = true by decide), gd_of (show inb 2 16272 = true by decide), show ix (bz true) = 1 from rfl, show ix 2 = 2 from rfl]
      have fin : ∀ v, ms M2 658 1 v 658 2 = nI ln := fun v => by rw [ms_ni (by omega), m2.1]; exact h2.1
      have fm : ∀ v, MI (ms M2 658 1 v) (upd (recR R kp) 1 v) (kp1 kp) n tx fl := fun v => m2.mo (fun _ x _ => ms_ne x) (by rw [ms_at, m2.1])
      rcases hq with ⟨rfl, rfl, rfl⟩ | ⟨rfl, rfl, rfl⟩
      · rw [if_neg bz_t0]
        exact ⟨ms M2 658 1 2, by rw [show (657 + 1 : Nat) = 658 from rfl, fin], fm 2, l2.tr (fun p hp => ms_ne (by omega))⟩
      · rw [if_pos bz_f0]
        exact ⟨ms M2 658 1 1, by rw [show (657 + 1 : Nat) = 658 from rfl, fin], fm 1, l2.tr (fun p hp => ms_ne (by omega))⟩
  · refine mkP (v := -3) hM (refC hC (g := f_X4_holdOrGoOn 0 bb) (v := -3) (r' := R) (by decide) (fun M1 c1 => ⟨M1, (holdC c1.1.1 h1 hq).1 hs, c1.1.1, Fr.rf⟩) hWR (fun _ _ => rfl)) (fun M1 g => ⟨M1, ?_, g, Hi.rf⟩)
    unfold f_X7_hold
    rw [canHoldM (by rw [g.1]; exact h1) hq, Option.bind_some, show decide (s = q) = false from decide_eq_false hs, if_pos bz_f0]
def abS (r : Nat → Int32) : Nat → Int32 := upd (upd (upd r 1 3) 9 (-6)) 10 (r 2)
theorem abS_WF {r : Nat → Int32} {C L P s ln nn : Nat} (h : WF r C L P s ln nn) : WF (abS r) C L P 3 ln nn := by
  obtain ⟨hc, hl, hp, hst, ha, h1, h2, h7, h8, h9⟩ := h
  obtain ⟨p1, p2, p3, p4, p5⟩ := freeEq.parts (((freeEq.put (r := r) (i := 1) (v := 3) (by omega)).tr (freeEq.put (i := 9) (v := -6) (by omega))).tr (freeEq.put (i := 10) (v := r 2) (by omega))) ⟨hc, hl, hp, hst, ha⟩
  have e : ∀ k, k ≠ 1 → k ≠ 9 → k ≠ 10 → abS r k = r k := fun k a b c => by unfold abS; rw [upd_ne c, upd_ne b, upd_ne a]
  exact ⟨p1, p2, p3, p4, p5, ⟨by unfold abS; rw [upd_ne (by omega), upd_ne (by omega), upd_eq]; rfl, by omega⟩, by rw [e 2 (by omega) (by omega) (by omega)]; exact h2, by rw [e 7 (by omega) (by omega) (by omega)]; exact h7, fun h => by omega, fun h => by omega⟩
theorem abortC {M : MM} {b s : Nat} {r : Nat → Int32} (hR : Rep M b r) (h1 : r 1 = nI s ∧ s ≤ 5) : (measB s = false → f_X4_abortByHand b M = some (-3, M)) ∧ (measB s = true → ∃ M', f_X4_abortByHand b M = some (r 2, M') ∧ Rep M' b (abS r) ∧ Fr b M M') := by
  unfold f_X4_abortByHand f_X4_beginAbort
  rw [measuresC hR h1, Option.bind_some]
  constructor
  · intro h; rw [h, if_pos bz_f0]
  · intro h
    rw [h, if_neg bz_t0, Option.bind_some, ms_ni (show 9 ≠ 14 by omega), ms_ni (show 9 ≠ 8 by omega), show M b 9 = r 2 from hR.s.2.2.2.1]
    refine ⟨ms (ms (ms M b 8 3) b 14 (-6)) b 15 (r 2), ?_, ?_, Fr.put (o := 0) (Fr.put (o := 0) (Fr.put (o := 0) Fr.rf (by omega)) (by omega)) (by omega)⟩
    · rw [ms_ni (by omega), ms_ni (by omega), ms_ni (by omega), show M b 9 = r 2 from hR.s.2.2.2.1]
    · exact Rep.put (o := 0) (Rep.put (o := 0) (Rep.put (o := 0) hR (k := 1) rfl (by omega) (by omega) (by omega) (n0' _ (by omega) (by omega) (by omega))) (k := 9) rfl (by omega) (by omega) (by omega) (n0' _ (by omega) (by omega) (by omega))) (k := 10) rfl (by omega) (by omega) (by omega) (n0' _ (by omega) (by omega) (by omega))
theorem abortsM {M : MM} : f_X7_aborts 657 M = some (msf M 658 (abS (M 658))) := by
  unfold f_X7_aborts
  rw [gd_of (show inb 1 16272 = true by decide), gd_of (show inb 9 16272 = true by decide), gd_of (show inb 2 16272 = true by decide), gd_of (show inb 10 16272 = true by decide), show ix 1 = 1 from rfl, show ix 9 = 9 from rfl, show ix 2 = 2 from rfl, show ix 10 = 10 from rfl]
  rw [show (657 + 1 : Nat) = 658 from rfl, ms_ni (show 2 ≠ 9 by omega), ms_ni (show 2 ≠ 1 by omega), show ms M 658 1 3 = msf M 658 (upd (M 658) 1 3) from rfl, ms_msf, ms_msf]
  rfl
theorem abort_pair : Pair (f_X6_abort 650) (f_X7_abort 657) := by
  rintro M ⟨R, kp, n, tx, fl, hC, hM⟩
  obtain ⟨⟨a, C, L, P, s, ln, nn, hw⟩, ⟨nt, hh⟩, d, f⟩ := id hC
  have hkp := hh.2.2.2.1
  have h1 := hw.2.2.2.2.2.1
  have hWR : WFr R := ⟨C, L, P, s, ln, nn, hw⟩
  cases hs : measB s with
  | true =>
    have hr : ∀ k, k < 1808 → recR R kp k = R k := fun k hk => recR_0 hkp hk
    have hw1 : WF (recR R kp) C L P s ln nn := hw.cong hr
    have h2 := hw1.2.2.2.2.2.2.1
    refine mkP (v := nI ln) (R' := abS (recR R kp)) hM (recC hC (g := f_X4_abortByHand 0) (ge0 (by omega)) (fun M1 c1 R1 _ => ?_) ⟨C, L, P, 3, ln, nn, abS_WF hw1⟩ (fun k hk => by unfold abS; rw [upd_ne (by omega), upd_ne (by omega), upd_ne (by omega)])) (fun M1 g => ?_)
    · obtain ⟨M2, e2, r2, f2⟩ := (abortC R1 hw1.2.2.2.2.2.1).2 hs
      exact ⟨M2, by rw [e2, h2.1], r2, f2⟩
    · obtain ⟨M2, e2, m2, l2⟩ := recM g hkp
      unfold f_X7_abort
      rw [canAbortM (by rw [g.1]; exact h1), Option.bind_some, hs, if_neg bz_t0, e2, Option.bind_some, abortsM, Option.bind_some, gd_of (show inb 2 16272 = true by decide), show ix 2 = 2 from rfl]
      have hv : abS (recR R kp) 2 = nI ln := by
        unfold abS
        rw [upd_ne (show 2 ≠ 10 by omega), upd_ne (show 2 ≠ 9 by omega), upd_ne (show 2 ≠ 1 by omega), h2.1]
      refine ⟨msf M2 658 (abS (M2 658)), ?_, m2.mo Mo.row (by rw [msf_at, m2.1]), l2.tr Mo.row.hi⟩
      rw [show (657 + 1 : Nat) = 658 from rfl, msf_at, m2.1, hv]
  | false =>
    refine mkP (v := -3) hM (refC hC (g := f_X4_abortByHand 0) (v := -3) (r' := R) (by decide) (fun M1 c1 => ⟨M1, (abortC c1.1.1 h1).1 hs, c1.1.1, Fr.rf⟩) hWR (fun _ _ => rfl)) (fun M1 g => ⟨M1, ?_, g, Hi.rf⟩)
    unfold f_X7_abort
    rw [canAbortM (by rw [g.1]; exact h1), Option.bind_some, hs, if_pos bz_f0]
