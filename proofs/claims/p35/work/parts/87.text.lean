/-! PURE: the law's texts: none, "x", "x;s1;" -/
def tb5 : Nat → Int32 := fun k => if k = 0 then 120 else if k = 1 then 59 else if k = 2 then 115 else if k = 3 then 49 else 59
theorem fault_e (tx : Nat → Int32) : faultS tx 0 81 0 = -6 := rfl
theorem fault_x : faultS tb5 1 81 0 = 1 := by decide +kernel
theorem fault_5 : faultS tb5 5 81 0 = -6 := by decide +kernel
theorem act5_0 : actS tb5 5 0 = (true, 2) ∧ pk tb5 5 0 = 120 := by decide +kernel
theorem act5_2 : actS tb5 5 2 = (true, 5) ∧ pk tb5 5 2 = 115 ∧ (nm tb5 5 3).2 = 1 := by decide +kernel
theorem act5_5 : actS tb5 5 5 = (false, 5) := by decide +kernel
theorem act0 (tx : Nat → Int32) : (actS tx 0 0).1 = false := by
  unfold actS
  rw [show pk tx 0 0 = -6 from rfl]
  rfl
section CPX
variable {M : MM} {r : Nat → Int32} {kp n : Nat} {H S : Nat → Nat → Int32} {fl tx : Nat → Int32} {C L P s ln nn : Nat}
theorem CP.tx' {g : Nat → Int32} (h : CP M r kp H S fl n tx) (h1 : g 1 = nI n) : CP (msf M 655 g) r kp H S fl n tx := h.txt (fun q hq => msf_ne (by omega)) ⟨by rw [msf_at]; exact h1, h.2.2.2.2.1, fun k hk => by rw [msf_ne (by omega)]; exact h.2.2.2.2.2 k hk⟩
theorem CP.ttx {tx' : Nat → Int32} (h : CP M r kp H S fl n tx) (e : ∀ k, k < n → tx' k = tx k) : CP M r kp H S fl n tx' := by
  obtain ⟨a, b, c, d, f, g⟩ := h
  exact ⟨a, b, c, d, f, fun k hk => by rw [e k hk]; exact g k hk⟩
theorem findP (h : CP M r kp H S fl n tx) : ∃ M1, f_X5_findFault 655 M = some (faultS tx n 81 0, M1) ∧ CP M1 r kp H S fl n tx := by
  have h80 := h.2.2.2.2.1
  have ht : TXC M n tx := ⟨h80, fun k hk => (h.2.2.2.2.2 k hk).1⟩
  have e : ms M 655 2 0 = msf M 655 (upd (M 655) 2 0) := rfl
  obtain ⟨g', e1, e2⟩ := faultC ht 81 0 FU 0 (upd (M 655) 2 0) (by omega) (by unfold FU; omega) (by omega) (by omega) (by rw [upd_ne (by omega)]; exact h.2.2.2.1) (by rw [upd_eq]; rfl)
  refine ⟨msf M 655 g', ?_, h.tx' e2⟩
  unfold f_X5_findFault f_X5_rewind
  rw [Option.bind_some, e]
  exact e1
theorem c_fault (h : CP M r kp H S fl n tx) : ∃ M1, f_X6_faultPosition 650 M = some (faultS tx n 81 0, M1) ∧ CP M1 r kp H S fl n tx := by
  obtain ⟨M1, e, c⟩ := findP h
  refine ⟨M1, ?_, c⟩
  unfold f_X6_faultPosition
  rw [e, Option.bind_some]
theorem c_run_bad (h : CP M r kp H S fl n tx) (hz : faultS tx n 81 0 ≠ -6) : ∃ M1, f_X6_run 650 M = some (-3, M1) ∧ CP M1 r kp H S fl n tx := by
  obtain ⟨M1, e, c⟩ := findP h
  refine ⟨M1, ?_, c⟩
  unfold f_X6_run
  rw [e, Option.bind_some]
  dsimp only
  rw [if_neg hz]
theorem run_head (h : CP M r kp H S fl n tx) (hz : faultS tx n 81 0 = -6) : ∃ M2 nt, f_X6_run 650 M = f_X6_run_35 650 FU 0 (ms M2 655 2 0) ∧ CP M2 r kp H S fl n tx ∧ CPh M2 H nt kp ∧ Rep M2 (260 + 65 * nt) r := by
  obtain ⟨M1, e1, c1⟩ := findP h
  obtain ⟨M2, nt, e2, c2, h2, n2⟩ := noteP c1
  refine ⟨M2, nt, ?_, c2, h2, n2⟩
  unfold f_X6_run f_X5_rewind
  rw [e1, Option.bind_some]
  dsimp only
  rw [if_pos hz, e2, Option.bind_some, Option.bind_some]
theorem run_fin {M2 M3 : MM} {nt j : Nat} {r' : Nat → Int32} (c2 : CP M2 r kp H S fl n tx) (h2 : CPh M2 H nt kp) (n2 : Rep M2 (260 + 65 * nt) r) (R3 : Rep M3 0 r') (w' : WFr r') (m31 : M3 655 1 = nI n) (fr3 : ∀ q, 65 ≤ q → q ≠ 655 → M3 q = M2 q) (hj : j ≤ 80) : ∃ M4, f_X6_run_64 650 (nI j) M3 = some (nI j, M4) ∧ CP M4 r' (kp1 kp) (hsS H kp r) S fl n tx := by
  have c3 : CP (msf M2 655 (M3 655)) r kp H S fl n tx := c2.tx' m31
  have h3 : CPh (msf M2 655 (M3 655)) H nt kp := h2.mono (fun q _ _ => msf_ne (by omega))
  have n3 : Rep (msf M2 655 (M3 655)) (260 + 65 * nt) r := n2.congr (fun o ho => msf_ne (by have := h2.1; omega))
  have f3 : Fr 0 (msf M2 655 (M3 655)) M3 := fun q hq => by
    by_cases y : q = 655
    · subst y; rw [msf_at]
    · rw [msf_ne y, fr3 q (by omega) y]
  obtain ⟨M4, e4, c4⟩ := keepP (v := nI j) c3 h3 n3 (ge0 (by omega)) R3 f3 w'
  refine ⟨M4, ?_, c4⟩
  unfold f_X6_run_64
  rw [e4, Option.bind_some]
/-- the reading of one act in a run -/
theorem run_read {M2 : MM} {p : Nat} (ht : TXC M2 n tx) (h1 : M2 655 1 = nI n) (h2 : M2 655 2 = nI p) (hp : p ≤ n) : ∃ g', f_X5_readAct 655 M2 = some ((actS tx n p).1, msf M2 655 g') ∧ g' 1 = nI n ∧ g' 2 = nI (actS tx n p).2 ∧ g' 3 = pk tx n p ∧ ((pk tx n p = 103 ∨ pk tx n p = 115 ∨ pk tx n p = 99) → g' 5 = (nm tx n (p + 1)).2) := by
  obtain ⟨g', e, a, b, c, d, -⟩ := readActC (g := M2 655) ht h1 h2 hp
  rw [msf_id] at e
  exact ⟨g', e, a, b, c, d⟩
theorem run_stop {M2 : MM} {p j k : Nat} (ht : TXC M2 n tx) (h1 : M2 655 1 = nI n) (h2 : M2 655 2 = nI p) (hp : p ≤ n) (ha : (actS tx n p).1 = false) (hj : j < 80) : ∃ g', f_X6_run_35 650 (k + 1) (nI j) M2 = f_X6_run_64 650 (nI j) (msf M2 655 g') ∧ g' 1 = nI n := by
  obtain ⟨g', e, a, -⟩ := run_read ht h1 h2 hp
  refine ⟨g', ?_, a⟩
  rw [f_X6_run_35, if_neg (by rw [show (80 : Int32) = nI 80 from rfl, le_nI (by omega) (by omega)]; omega), e, Option.bind_some, ha]
  dsimp only
  rw [if_pos bz_f0]
theorem c_run_e (h : CP M r kp H S fl 0 tx) : ∃ M1, f_X6_run 650 M = some (0, M1) ∧ CP M1 r (kp1 kp) (hsS H kp r) S fl 0 tx := by
  obtain ⟨M2, nt, e, c2, h2, n2⟩ := run_head h (fault_e tx)
  obtain ⟨g', e2, a⟩ := run_stop (M2 := ms M2 655 2 0) (p := 0) (j := 0) (k := FU - 1) (n := 0) (tx := tx) ⟨by omega, fun k hk => by omega⟩ (by rw [ms_ni (by omega)]; exact c2.2.2.2.1) (by rw [ms_eq]; rfl) (by omega) (act0 tx) (by omega)
  obtain ⟨M4, e4, c4⟩ := run_fin (M3 := msf (ms M2 655 2 0) 655 g') (j := 0) c2 h2 n2 (c2.1.1.congr (fun o ho => by rw [msf_ne (by omega), ms_ne (by omega)])) c2.1.2 (by rw [msf_at]; exact a) (fun q hq hne => by rw [msf_ne hne, ms_ne hne]) (by omega)
  refine ⟨M4, ?_, c4⟩
  rw [e]
  exact (show f_X6_run_35 650 FU 0 (ms M2 655 2 0) = _ from e2).trans e4
theorem c_run_5 (h : CP M r kp H S fl 5 tb5) (hw : WF r C L P s ln nn) : ∃ M1, f_X6_run 650 M = some ((if measB s = true then 2 else 0), M1) ∧ CP M1 (if measB s = true then loopS (abS r) else r) (kp1 kp) (hsS H kp r) S fl 5 tb5 := by
  have h1 := hw.2.2.2.2.2.1
  have hs2 := hw.2.2.2.2.2.2.1
  obtain ⟨M2, nt, e, c2, h2, n2⟩ := run_head h fault_5
  have tA : TXC (ms M2 655 2 0) 5 tb5 := ⟨by omega, fun k hk => by rw [ms_ne (by omega)]; exact (c2.2.2.2.2.2 k hk).1⟩
  obtain ⟨g1, r1, a1, a2, a3, -⟩ := run_read (M2 := ms M2 655 2 0) (p := 0) tA (by rw [ms_ni (by omega)]; exact c2.2.2.2.1) (by rw [ms_eq]; rfl) (by omega)
  rw [act5_0.1] at r1 a2
  rw [act5_0.2] at a3
  generalize hN : msf (ms M2 655 2 0) 655 g1 = N at r1
  have oN : ∀ q, q ≠ 655 → N q = M2 q := fun q hq => by rw [← hN, msf_ne hq, ms_ne hq]
  have N655 : N 655 = g1 := by rw [← hN, msf_at]
  have RN : Rep N 0 r := c2.1.1.congr (fun o ho => oN _ (by omega))
  have ec : f_X6_carryOutAct 650 N = Option.bind (f_X4_abortByHand 0 N) fun v10 => some (v10.1, v10.2) := by
    unfold f_X6_carryOutAct
    rw [N655, a3]
    rfl
  have ab := abortC RN h1
  have st : ∀ k, f_X6_run_35 650 (k + 1) 0 (ms M2 655 2 0) = Option.bind (f_X6_carryOutAct 650 N) fun v4 => if v4.1 < 0 then f_X6_run_64 650 0 v4.2 else f_X6_run_35 650 k (0 + 1) v4.2 := fun k => by
    rw [f_X6_run_35, if_neg (by decide), r1, Option.bind_some]
    dsimp only
    rw [if_neg bz_t0]
  rw [e, show FU = 4997 + 1 + 1 + 1 from rfl, st, ec]
  cases hm : measB s with
  | false =>
    rw [ab.1 hm, Option.bind_some, Option.bind_some]
    dsimp only
    rw [if_pos (by decide), if_neg (by decide), if_neg (by decide)]
    exact run_fin (j := 0) c2 h2 n2 RN c2.1.2 (by rw [N655]; exact a1) (fun q _ hq => oN q hq) (by omega)
  | true =>
    obtain ⟨N2, b1, b2, b3⟩ := ab.2 hm
    have hwA := abS_WF hw
    rw [b1, Option.bind_some, Option.bind_some, hs2.1]
    dsimp only
    rw [if_neg (ge0 (by omega)), if_pos rfl, if_pos rfl]
    have o2 : ∀ q, 65 ≤ q → N2 q = N q := fun q hq => b3 q (by omega)
    have tB : TXC N2 5 tb5 := ⟨by omega, fun k hk => by rw [o2 _ (by omega), oN _ (by omega)]; exact (c2.2.2.2.2.2 k hk).1⟩
    obtain ⟨g2, r2, d1, d2, d3, d4⟩ := run_read (M2 := N2) (p := 2) tB (by rw [o2 _ (by omega), N655]; exact a1) (by rw [o2 _ (by omega), N655]; exact a2) (by omega)
    rw [act5_2.1] at r2 d2
    rw [act5_2.2.1] at d3 d4
    have d5 : g2 5 = 1 := (d4 (Or.inr (Or.inl rfl))).trans act5_2.2.2
    generalize hN3 : msf N2 655 g2 = N3 at r2
    have oN3 : ∀ q, q ≠ 655 → N3 q = N2 q := fun q hq => by rw [← hN3, msf_ne hq]
    have N3655 : N3 655 = g2 := by rw [← hN3, msf_at]
    have RN3 : Rep N3 0 (abS r) := b2.congr (fun o ho => oN3 _ (by omega))
    obtain ⟨N4, f1, f2, f3⟩ := lpC (b := 0) (X := 1) (by omega) 1 0 FU N3 (abS r) (by omega) (by unfold FU; omega) RN3 ⟨C, L, P, 3, ln, nn, hwA⟩
    have hA1 : abS r 1 = 1 ∨ abS r 1 = 2 ∨ abS r 1 = 3 := Or.inr (Or.inr hwA.2.2.2.2.2.1.1)
    rw [lpS_go hA1 0 0] at f1 f2
    have f1' : f_X4_doLoops_25 0 FU (nI 1) (nI 0) N3 = some (nI 1, N4) := f1
    have f2' : Rep N4 0 (loopS (abS r)) := f2
    have ec2 : f_X6_carryOutAct 650 N3 = some (nI 1, N4) := by
      unfold f_X6_carryOutAct
      rw [N3655, d3, d5]
      rw [if_neg (by decide), if_neg (by decide), if_neg (by decide), if_pos rfl]
      unfold f_X4_doLoops
      rw [isWithin_ok, Option.bind_some, show wi 1 1 50 = true by decide, if_neg bz_t0, restsC RN3 hwA.2.2.2.2.2.1, Option.bind_some, show restB 3 = false by decide, if_pos bz_f0]
      rw [show f_X4_doLoops_25 0 FU 1 0 N3 = some (nI 1, N4) from f1', Option.bind_some]
    have o4 : ∀ q, 65 ≤ q → N4 q = N3 q := fun q hq => f3 q (by omega)
    have tC : TXC N4 5 tb5 := ⟨by omega, fun k hk => by rw [o4 _ (by omega), oN3 _ (by omega), o2 _ (by omega), oN _ (by omega)]; exact (c2.2.2.2.2.2 k hk).1⟩
    obtain ⟨s', ln', hw'⟩ := loopS_WF hwA (Or.inr (Or.inr rfl))
    have st2 : ∀ k, f_X6_run_35 650 (k + 1) (0 + 1) N2 = f_X6_run_35 650 k (nI 2) N4 := fun k => by
      rw [f_X6_run_35, if_neg (by decide), r2, Option.bind_some]
      dsimp only
      rw [if_neg bz_t0, ec2, Option.bind_some]
      dsimp only
      rw [if_neg (by decide)]
      rfl
    obtain ⟨g3, st3, k1⟩ := run_stop (M2 := N4) (p := 5) (j := 2) (k := 4997) tC (by rw [o4 _ (by omega), N3655]; exact d1) (by rw [o4 _ (by omega), N3655]; exact d2) (by omega) (by rw [act5_5]) (by omega)
    rw [st2, st3]
    exact run_fin (j := 2) c2 h2 n2 (f2'.congr (fun o ho => msf_ne (by omega))) ⟨C, L, P, s', ln', nn, hw'⟩ (by rw [msf_at]; exact k1) (fun q h65 hq => by rw [msf_ne hq, o4 q h65, oN3 q hq, o2 q h65, oN q hq]) (by omega)
end CPX
