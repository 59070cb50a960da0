/-! PURE: an act of the text, both sides -/
theorem numB_wi {q : Nat × Int32} {lo hi : Int32} (h : numB q lo hi = true) : wi q.2 lo hi = true := by
  unfold numB at h
  rw [Bool.and_eq_true] at h
  exact h.2
/-- what the reference does for an act whose numbers are taken -/
def MA (c a b : Int32) (N : MM) : Option (Bool × MM) := if c = 103 then (Option.bind (f_X7_refusal 657 N) fun v18 => if v18 = 0 then (f_X7_does_29 657 true N) else (f_X7_does_29 657 false N)) else if c = 115 then (Option.bind (f_X7_rests 657 N) fun v15 => if (bz v15) = 0 then (f_X7_does_85 657 true N) else (f_X7_does_85 657 false N)) else if c = 99 then (Option.bind (f_X7_whyNotSet 657 a b N) fun v12 => if v12 = 0 then (f_X7_does_148 657 a true N) else (f_X7_does_148 657 a false N)) else if c = 120 then (Option.bind (f_X7_canAbort 657 N) fun v6 => if (bz v6) = 0 then (f_X7_does_249 657 v6 N) else (Option.bind (f_X7_aborts 657 N) fun v8 => f_X7_does_249 657 v6 v8)) else if c = 104 then f_X7_does_215 657 c true N else f_X7_does_215 657 c false N
theorem doesM {M : MM} {n p : Nat} {tx G : Nat → Int32} (h : TXM M n tx) (h4 : G 4 = nI n) (h6 : G 6 = nI (p + 1)) (hp : p < n) (hok : (actS tx n p).1 = true) : ∃ g2 q, f_X7_does 657 (pk tx n p) (msf M 657 G) = MA (pk tx n p) (nm tx n (p + 1)).2 (nm tx n (p + 1 + (nm tx n (p + 1)).1 + 1)).2 (msf M 657 g2) ∧ g2 6 = nI q ∧ pk tx n q = 59 ∧ q < n ∧ q + 1 = (actS tx n p).2 ∧ (∀ i, i ≠ 6 → i ≠ 7 → g2 i = G i) ∧ ((pk tx n p = 103 ∧ wi (nm tx n (p + 1)).2 1 999 = true ∧ g2 7 = (nm tx n (p + 1)).2) ∨ (pk tx n p = 115 ∧ wi (nm tx n (p + 1)).2 1 50 = true ∧ g2 7 = (nm tx n (p + 1)).2) ∨ (pk tx n p = 99 ∧ wi (nm tx n (p + 1)).2 0 5 = true ∧ g2 7 = (nm tx n (p + 1 + (nm tx n (p + 1)).1 + 1)).2) ∨ pk tx n p = 104 ∨ pk tx n p = 114 ∨ pk tx n p = 120) := by
  unfold actS at hok ⊢
  by_cases z1 : pk tx n p = 99
  · rw [if_pos z1] at hok ⊢
    obtain ⟨l1, l2, l3⟩ := setS_le (tx := tx) (show p + 1 ≤ n by omega)
    obtain ⟨m1, m2, m3, m4⟩ := l3 hok
    rw [m4] at l1 l2 ⊢
    have hq := pkt_lt m2 (by decide)
    obtain ⟨-, -, k3⟩ := sglS_le (tx := tx) (lo := 0) (hi := 100) (show p + 1 + (nm tx n (p + 1)).1 + 1 ≤ n by omega)
    obtain ⟨k4, k5, k6⟩ := k3 m3
    have hq2 := pkt_lt k5 (by decide)
    obtain ⟨g1, e1, a1, b1, c1⟩ := takesNumM (lo := 0) (hi := 5) h h4 h6 (by omega)
    rw [m1, if_pos rfl] at a1
    obtain ⟨g2, e2, a2, c2⟩ := takesM (c := 61) h ((c1 4 (by omega) (by omega)).trans h4) a1 (by omega)
    rw [if_pos m2] at a2
    obtain ⟨g3, e3, a3, b3, c3⟩ := takesNumM (lo := 0) (hi := 100) h ((c2 4 (by omega)).trans ((c1 4 (by omega) (by omega)).trans h4)) a2 (by omega)
    rw [k4, if_pos rfl] at a3
    refine ⟨g3, _, ?_, a3, k5, hq2, k6, fun i q1 q2 => by rw [c3 i q1 q2, c2 i q1, c1 i q1 q2], Or.inr (Or.inr (Or.inl ⟨z1, numB_wi m1, b3⟩))⟩
    unfold f_X7_does MA
    rw [z1, if_neg (by decide), if_neg (by decide), if_pos rfl, if_neg (by decide), if_neg (by decide), if_pos rfl, e1, Option.bind_some]
    dsimp only
    rw [e2, Option.bind_some]
    dsimp only
    rw [e3, Option.bind_some]
    dsimp only
    rw [show (657 : Nat) = 657 from rfl, msf_at, msf_at, b1, b3]
  · rw [if_neg z1] at hok ⊢
    by_cases z2 : pk tx n p = 103
    · rw [if_pos z2] at hok ⊢
      obtain ⟨l1, l2, l3⟩ := sglS_le (tx := tx) (lo := 1) (hi := 999) (show p + 1 ≤ n by omega)
      obtain ⟨k4, k5, k6⟩ := l3 hok
      have hq2 := pkt_lt k5 (by decide)
      obtain ⟨g3, e3, a3, b3, c3⟩ := takesNumM (lo := 1) (hi := 999) h h4 h6 (by omega)
      rw [k4, if_pos rfl] at a3
      refine ⟨g3, _, ?_, a3, k5, hq2, k6, c3, Or.inl ⟨z2, numB_wi k4, b3⟩⟩
      unfold f_X7_does MA
      rw [z2, if_pos rfl, if_pos rfl, e3, Option.bind_some]
    · rw [if_neg z2] at hok ⊢
      by_cases z3 : pk tx n p = 115
      · rw [if_pos z3] at hok ⊢
        obtain ⟨l1, l2, l3⟩ := sglS_le (tx := tx) (lo := 1) (hi := 50) (show p + 1 ≤ n by omega)
        obtain ⟨k4, k5, k6⟩ := l3 hok
        have hq2 := pkt_lt k5 (by decide)
        obtain ⟨g3, e3, a3, b3, c3⟩ := takesNumM (lo := 1) (hi := 50) h h4 h6 (by omega)
        rw [k4, if_pos rfl] at a3
        refine ⟨g3, _, ?_, a3, k5, hq2, k6, c3, Or.inr (Or.inl ⟨z3, numB_wi k4, b3⟩)⟩
        unfold f_X7_does MA
        rw [z3, if_neg (by decide), if_pos rfl, if_neg (by decide), if_pos rfl, e3, Option.bind_some]
      · rw [if_neg z3] at hok ⊢
        by_cases z4 : pk tx n p = 104
        · rw [if_pos z4] at hok ⊢
          obtain ⟨-, -, l3⟩ := sgT_le (tx := tx) (c := 59) (show p + 1 ≤ n by omega) (by decide)
          obtain ⟨k6, k5⟩ := l3 hok
          refine ⟨G, _, ?_, h6, k5, pkt_lt k5 (by decide), k6, fun _ _ _ => rfl, Or.inr (Or.inr (Or.inr (Or.inl z4)))⟩
          rw [z4]
          rfl
        · rw [if_neg z4] at hok ⊢
          by_cases z5 : pk tx n p = 114
          · rw [if_pos z5] at hok ⊢
            obtain ⟨-, -, l3⟩ := sgT_le (tx := tx) (c := 59) (show p + 1 ≤ n by omega) (by decide)
            obtain ⟨k6, k5⟩ := l3 hok
            refine ⟨G, _, ?_, h6, k5, pkt_lt k5 (by decide), k6, fun _ _ _ => rfl, Or.inr (Or.inr (Or.inr (Or.inr (Or.inl z5))))⟩
            rw [z5]
            rfl
          · rw [if_neg z5] at hok ⊢
            by_cases z6 : pk tx n p = 120
            · rw [if_pos z6] at hok ⊢
              obtain ⟨-, -, l3⟩ := sgT_le (tx := tx) (c := 59) (show p + 1 ≤ n by omega) (by decide)
              obtain ⟨k6, k5⟩ := l3 hok
              refine ⟨G, _, ?_, h6, k5, pkt_lt k5 (by decide), k6, fun _ _ _ => rfl, Or.inr (Or.inr (Or.inr (Or.inr (Or.inr z6))))⟩
              rw [z6]
              rfl
            · rw [if_neg z6] at hok
              exact absurd (show false = true from hok) (by decide)
theorem upd_same {f : Nat → Int32} {k : Nat} : upd f k (f k) = f := by
  funext x
  by_cases q : x = k
  · subst q; rw [upd_eq]
  · rw [upd_ne q]
/-- what an act does, the class, then the reference -/
def DoC (r : Nat → Int32) (c a b : Int32) (ok : Bool) (r' : Nat → Int32) : Prop := ∀ M : MM, Rep M 0 r → M 655 3 = c → (c = 103 ∨ c = 115 ∨ c = 99 → M 655 5 = a) → (c = 99 → M 655 6 = b) → ∃ v M', f_X6_carryOutAct 650 M = some (v, M') ∧ (v < 0 ↔ ok = false) ∧ Rep M' 0 r' ∧ Fr 0 M M'
def DoM (r : Nat → Int32) (c a b : Int32) (ok : Bool) (r' : Nat → Int32) : Prop := ∀ N : MM, N 658 = r → (c = 103 ∨ c = 115 → N 657 7 = a) → (c = 99 → N 657 7 = b) → ∃ N', MA c a b N = f_X7_does_249 657 ok N' ∧ N' 658 = r' ∧ Mo N N'
theorem neg_f {v : Int32} (h : v < 0) : v < 0 ↔ false = false := ⟨fun _ => rfl, fun _ => h⟩
theorem neg_t {v : Int32} (h : ¬ v < 0) : v < 0 ↔ true = false := ⟨fun z => absurd z h, fun z => absurd z (by decide)⟩
theorem do_g {r : Nat → Int32} {a b : Int32} (hw : WFr r) (ha : wi a 1 999 = true) : ∃ ok r', WFr r' ∧ (∀ k, 1808 ≤ k → r' k = r k) ∧ DoC r 103 a b ok r' ∧ DoM r 103 a b ok r' := by
  obtain ⟨C, L, P, s, ln, nn, w⟩ := id hw
  have ht := wi_t ha
  have t1 : (999 : Int32).toInt = 999 := rfl
  have t2 : (1000 : Int32).toInt = 1000 := rfl
  have hx : wi a 1 1000 = true := wi_of ht.1 (by omega)
  have hL : L ≤ 100 := w.2.1.1.2
  have hle := refN_le (r := r) (C := C) (L := L) (P := P) (s := s)
  by_cases h0 : refN r C L P s = 0
  · obtain ⟨y1, y2, y3, y4⟩ := refN0 h0
    refine ⟨true, startS r a, ⟨C, L, P, 1, 0, nn, startWF w y2 y3 y4 (okD_of hx)⟩, fun k hk => startS_hi hk, fun M hR m3 m5 _ => ?_, fun N hN n7 _ => ?_⟩
    · obtain ⟨M', e, R', F⟩ := (beginC hR w hx).1 h0
      refine ⟨nI L, M', ?_, neg_t (ge0 (by omega)), R', F⟩
      unfold f_X6_carryOutAct
      rw [m3, if_pos rfl, m5 (Or.inl rfl), e, Option.bind_some]
    · unfold MA f_X7_does_29
      rw [if_pos rfl, refuseM (by rw [hN]; exact w), Option.bind_some, hN, h0, if_pos (show nI 0 = 0 from rfl), if_neg bz_t0, n7 (Or.inl rfl), startsM, Option.bind_some]
      exact ⟨_, rfl, by rw [msf_at, hN], Mo.row⟩
  · refine ⟨false, upd r 11 (nI (refN r C L P s)), ⟨C, L, P, s, ln, nn, w.up11 _⟩, fun k hk => upd_ne (by omega), fun M hR m3 m5 _ => ?_, fun N hN n7 _ => ?_⟩
    · obtain ⟨M', e, R', F⟩ := (beginC hR w hx).2 h0
      refine ⟨-5, M', ?_, neg_f (by decide), R', F⟩
      unfold f_X6_carryOutAct
      rw [m3, if_pos rfl, m5 (Or.inl rfl), e, Option.bind_some]
    · unfold MA f_X7_does_29
      rw [if_pos rfl, refuseM (by rw [hN]; exact w), Option.bind_some, hN, if_neg (by rw [show (0 : Int32) = nI 0 from rfl, eq_nI (by omega) (by omega)]; exact h0), if_pos bz_f0, Option.bind_some, gd_of (show inb 11 16272 = true by decide), show ix 11 = 11 from rfl, show (657 + 1 : Nat) = 658 from rfl]
      exact ⟨_, rfl, by rw [ms_at, hN], fun q q1 q2 => ms_ne q1⟩
theorem lpS_rest {X : Nat} {r : Nat → Int32} (h : ¬ (r 1 = 1 ∨ r 1 = 2 ∨ r 1 = 3)) : lpS X 0 r = (r, 0) := by
  cases X with
  | zero => rfl
  | succ X => rw [lpS, if_neg h]
theorem do_s {r : Nat → Int32} {a b : Int32} (hw : WFr r) (ha : wi a 1 50 = true) : ∃ ok r', WFr r' ∧ (∀ k, 1808 ≤ k → r' k = r k) ∧ DoC r 115 a b ok r' ∧ DoM r 115 a b ok r' := by
  obtain ⟨C, L, P, s, ln, nn, w⟩ := id hw
  have h1 := w.2.2.2.2.2.1
  obtain ⟨X, rfl, hX1, hX2⟩ := wi_nI (a := 1) (b := 50) (by omega) (by omega) ha
  obtain ⟨w1, w2, w3⟩ := lpS_WF X 0 r hw
  refine ⟨!(restB s), (lpS X 0 r).1, w1, w3, fun M hR m3 m5 _ => ?_, fun N hN n7 _ => ?_⟩
  · unfold f_X6_carryOutAct f_X4_doLoops
    rw [m3, if_neg (by decide), if_neg (by decide), if_neg (by decide), if_pos rfl, m5 (Or.inr (Or.inl rfl)), isWithin_ok, Option.bind_some, ha, if_neg bz_t0, restsC hR h1, Option.bind_some]
    cases hb : restB s with
    | true =>
      rw [if_neg bz_t0, Option.bind_some, lpS_rest (by rw [runs_iff h1, hb]; decide)]
      exact ⟨-3, M, rfl, neg_f (by decide), hR, Fr.rf⟩
    | false =>
      obtain ⟨M2, e2, r2, f2⟩ := lpC (b := 0) (X := X) (by omega) X 0 FU M r (by omega) (by unfold FU; omega) hR hw
      rw [if_pos bz_f0, show f_X4_doLoops_25 0 FU (nI X) 0 M = some (nI (lpS X 0 r).2, M2) from e2, Option.bind_some]
      exact ⟨_, M2, rfl, neg_t (ge0 (by omega)), r2, f2⟩
  · obtain ⟨N', e, a1, a2⟩ := lpM (X := X) (by omega) X 0 FU N (by omega) (by unfold FU; omega) (by rw [hN]; exact hw)
    rw [hN] at e a1
    have e' : f_X7_loops_2 657 FU (nI X) 0 N = some (nI (lpS X 0 r).2, N') := e
    unfold MA f_X7_does_85 f_X7_loops
    rw [if_neg (by decide), if_pos rfl, restsM (by rw [hN]; exact h1), Option.bind_some, n7 (Or.inr rfl), e', Option.bind_some, Option.bind_some]
    cases hb : restB s with
    | true =>
      rw [if_neg bz_t0]
      exact ⟨N', rfl, a1, a2⟩
    | false =>
      rw [if_pos bz_f0]
      exact ⟨N', rfl, a1, a2⟩
theorem do_c {r : Nat → Int32} {a b : Int32} (hw : WFr r) (ha : wi a 0 5 = true) : ∃ ok r', WFr r' ∧ (∀ k, 1808 ≤ k → r' k = r k) ∧ DoC r 99 a b ok r' ∧ DoM r 99 a b ok r' := by
  obtain ⟨C, L, P, s, ln, nn, w⟩ := id hw
  obtain ⟨j, rfl, -, hj5⟩ := wi_nI (a := 0) (b := 5) (by omega) (by omega) ha
  have hj : j < 6 := by omega
  by_cases hz : whyS (nI j) b = 0
  · have hv : wi b (sLE j) (sGR j) = true := by
      unfold whyS at hz
      rw [if_pos ha, ix_nI (by omega)] at hz
      cases hq : wi b (sLE j) (sGR j) with
      | true => rfl
      | false =>
        rw [hq, if_neg (by decide)] at hz
        exact absurd hz (by decide)
    obtain ⟨nn', w'⟩ := setWF w hj hv
    refine ⟨true, upd r (12 + j) b, ⟨C, L, P, s, ln, nn', w'⟩, fun k hk => upd_ne (by omega), fun M hR m3 m5 m6 => ?_, fun N hN _ n7 => ?_⟩
    · obtain ⟨j', hj', e', -, M', e, R', F⟩ := (setC (x1 := nI j) (x2 := b) hR).2 hz
      have := (eq_nI (by omega) (by omega)).mp e'
      subst this
      refine ⟨_, M', ?_, neg_t (setP w hj), R', F⟩
      unfold f_X6_carryOutAct
      rw [m3, if_neg (by decide), if_neg (by decide), if_neg (by decide), if_neg (by decide), if_neg (by decide), m5 (Or.inr (Or.inr rfl)), m6 rfl, e, Option.bind_some]
    · unfold MA f_X7_does_148 f_X7_does_177
      rw [if_neg (by decide), if_neg (by decide), if_pos rfl, whyM, Option.bind_some, if_pos hz, if_neg bz_t0, n7 rfl, show (12 : Int32) = nI 12 from rfl, nI_add, gd_of (inb_nI (by omega) (by omega)), ix_nI (by omega), show (657 + 1 : Nat) = 658 from rfl]
      exact ⟨_, rfl, by rw [ms_at, hN], fun q q1 q2 => ms_ne q1⟩
  · refine ⟨false, r, hw, fun _ _ => rfl, fun M hR m3 m5 m6 => ?_, fun N hN _ n7 => ?_⟩
    · refine ⟨whyS (nI j) b, M, ?_, neg_f (whyNeg hz), hR, Fr.rf⟩
      unfold f_X6_carryOutAct
      rw [m3, if_neg (by decide), if_neg (by decide), if_neg (by decide), if_neg (by decide), if_neg (by decide), m5 (Or.inr (Or.inr rfl)), m6 rfl, (setC (x1 := nI j) (x2 := b) hR).1 hz, Option.bind_some]
    · unfold MA f_X7_does_148 f_X7_does_177
      rw [if_neg (by decide), if_neg (by decide), if_pos rfl, whyM, Option.bind_some, if_neg hz, if_pos bz_f0, show (12 : Int32) = nI 12 from rfl, nI_add, gd_of (inb_nI (by omega) (by omega)), gd_of (inb_nI (by omega) (by omega)), ix_nI (by omega), show (657 + 1 : Nat) = 658 from rfl]
      exact ⟨_, rfl, by rw [ms_at, upd_same, hN], fun q q1 q2 => ms_ne q1⟩
theorem do_x {r : Nat → Int32} {a b : Int32} (hw : WFr r) : ∃ ok r', WFr r' ∧ (∀ k, 1808 ≤ k → r' k = r k) ∧ DoC r 120 a b ok r' ∧ DoM r 120 a b ok r' := by
  obtain ⟨C, L, P, s, ln, nn, w⟩ := id hw
  have h1 := w.2.2.2.2.2.1
  have h2 := w.2.2.2.2.2.2.1
  cases hs : measB s with
  | true =>
    refine ⟨true, abS r, ⟨C, L, P, 3, ln, nn, abS_WF w⟩, fun k hk => by unfold abS; rw [upd_ne (by omega), upd_ne (by omega), upd_ne (by omega)], fun M hR m3 _ _ => ?_, fun N hN _ _ => ?_⟩
    · obtain ⟨M', e, R', F⟩ := (abortC hR h1).2 hs
      refine ⟨r 2, M', ?_, neg_t (by rw [h2.1]; exact ge0 (by omega)), R', F⟩
      unfold f_X6_carryOutAct
      rw [m3, if_neg (by decide), if_neg (by decide), if_neg (by decide), if_neg (by decide), if_pos rfl, e, Option.bind_some]
    · unfold MA
      rw [if_neg (by decide), if_neg (by decide), if_neg (by decide), if_pos rfl, canAbortM (by rw [hN]; exact h1), Option.bind_some, hs, if_neg bz_t0, abortsM, Option.bind_some]
      exact ⟨_, rfl, by rw [msf_at, hN], Mo.row⟩
  | false =>
    refine ⟨false, r, hw, fun _ _ => rfl, fun M hR m3 _ _ => ?_, fun N hN _ _ => ?_⟩
    · refine ⟨-3, M, ?_, neg_f (by decide), hR, Fr.rf⟩
      unfold f_X6_carryOutAct
      rw [m3, if_neg (by decide), if_neg (by decide), if_neg (by decide), if_neg (by decide), if_pos rfl, (abortC hR h1).1 hs, Option.bind_some]
    · unfold MA
      rw [if_neg (by decide), if_neg (by decide), if_neg (by decide), if_pos rfl, canAbortM (by rw [hN]; exact h1), Option.bind_some, hs, if_pos bz_f0]
      exact ⟨N, rfl, hN, Mo.rf⟩
theorem do_h {r : Nat → Int32} {c a b : Int32} {bb : Bool} (hw : WFr r) (hc : (c = 104 ∧ bb = true) ∨ (c = 114 ∧ bb = false)) : ∃ ok r', WFr r' ∧ (∀ k, 1808 ≤ k → r' k = r k) ∧ DoC r c a b ok r' ∧ DoM r c a b ok r' := by
  obtain ⟨C, L, P, s, ln, nn, w⟩ := id hw
  have h1 := w.2.2.2.2.2.1
  have h2 := w.2.2.2.2.2.2.1
  obtain ⟨q, q', hq, hqq, hq2⟩ := hold_q bb
  have cC : ∀ M : MM, M 655 3 = c → f_X6_carryOutAct 650 M = Option.bind (f_X4_holdOrGoOn 0 bb M) fun v4 => some (v4.1, v4.2) := fun M m3 => by
    unfold f_X6_carryOutAct
    rw [m3]
    rcases hc with ⟨rfl, rfl⟩ | ⟨rfl, rfl⟩
    · rw [if_neg (by decide), if_pos rfl]
    · rw [if_neg (by decide), if_neg (by decide), if_pos rfl]
  have cM : ∀ N : MM, MA c a b N = f_X7_does_215 657 c bb N := fun N => by
    unfold MA
    rcases hc with ⟨rfl, rfl⟩ | ⟨rfl, rfl⟩
    · rw [if_neg (by decide), if_neg (by decide), if_neg (by decide), if_neg (by decide), if_pos rfl]
    · rw [if_neg (by decide), if_neg (by decide), if_neg (by decide), if_neg (by decide), if_neg (by decide)]
  by_cases hs : s = q
  · refine ⟨true, upd r 1 (nI q'), ⟨C, L, P, q', ln, nn, w.st (by omega) hq2⟩, fun k hk => upd_ne (by omega), fun M hR m3 _ _ => ?_, fun N hN _ _ => ?_⟩
    · obtain ⟨M', e, R', F⟩ := (holdC (bb := bb) hR h1 hq).2 hs
      exact ⟨r 2, M', by rw [cC M m3, e, Option.bind_some], neg_t (by rw [h2.1]; exact ge0 (by omega)), R', F⟩
    · rw [cM]
      unfold f_X7_does_215 f_X7_does_248
      rw [canHoldM (by rw [hN]; exact h1) hq, Option.bind_some, show decide (s = q) = true from decide_eq_true hs, if_neg bz_t0, gd_of (show inb (bz true) 16272 = true by decide), gd_of (show inb (bz true) 16272 = true by decide), show ix (bz true) = 1 from rfl, show (657 + 1 : Nat) = 658 from rfl]
      rcases hq with ⟨rfl, rfl, rfl⟩ | ⟨rfl, rfl, rfl⟩
      · rw [if_pos (hc.elim (fun y => y.1) (fun y => absurd y.2 (by decide)))]
        exact ⟨ms N 658 1 2, rfl, by rw [ms_at, hN]; rfl, fun q q1 q2 => ms_ne q1⟩
      · rw [if_neg (hc.elim (fun y => absurd y.2 (by decide)) (fun y => by rw [y.1]; decide))]
        exact ⟨ms N 658 1 1, rfl, by rw [ms_at, hN]; rfl, fun q q1 q2 => ms_ne q1⟩
  · refine ⟨false, r, hw, fun _ _ => rfl, fun M hR m3 _ _ => ?_, fun N hN _ _ => ?_⟩
    · exact ⟨-3, M, by rw [cC M m3, (holdC (bb := bb) hR h1 hq).1 hs, Option.bind_some], neg_f (by decide), hR, Fr.rf⟩
    · rw [cM]
      unfold f_X7_does_215 f_X7_does_248
      rw [canHoldM (by rw [hN]; exact h1) hq, Option.bind_some, show decide (s = q) = false from decide_eq_false hs, if_pos bz_f0, gd_of (show inb 1 16272 = true by decide), gd_of (show inb (bz true) 16272 = true by decide), show ix (bz true) = 1 from rfl, show ix 1 = 1 from rfl, show (657 + 1 : Nat) = 658 from rfl]
      exact ⟨_, rfl, by rw [ms_at, upd_same, hN], fun q q1 q2 => ms_ne q1⟩
