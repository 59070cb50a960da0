/-! PURE: run on both sides -/
theorem actDo {r : Nat → Int32} {c a b : Int32} (hw : WFr r) (hc : (c = 103 ∧ wi a 1 999 = true) ∨ (c = 115 ∧ wi a 1 50 = true) ∨ (c = 99 ∧ wi a 0 5 = true) ∨ c = 104 ∨ c = 114 ∨ c = 120) : ∃ ok r', WFr r' ∧ (∀ k, 1808 ≤ k → r' k = r k) ∧ DoC r c a b ok r' ∧ DoM r c a b ok r' := by
  rcases hc with ⟨rfl, h⟩ | ⟨rfl, h⟩ | ⟨rfl, h⟩ | h | h | rfl
  · exact do_g hw h
  · exact do_s hw h
  · exact do_c hw h
  · exact do_h (bb := true) hw (Or.inl ⟨h, rfl⟩)
  · exact do_h (bb := false) hw (Or.inr ⟨h, rfl⟩)
  · exact do_x hw
theorem runS {n : Nat} {tx : Nat → Int32} (h80 : n ≤ 80) : ∀ (f p j : Nat) (r : Nat → Int32), n < p + f → faultS tx n f p = -6 → p ≤ n → j ≤ p → WFr r → ∃ (cnt : Nat) (r' : Nat → Int32), WFr r' ∧ (∀ k, 1808 ≤ k → r' k = r k) ∧ cnt ≤ 80 ∧ (∀ (k : Nat) (M : MM), f ≤ k → TXC M n tx → M 655 1 = nI n → M 655 2 = nI p → Rep M 0 r → ∃ M', f_X6_run_35 650 k (nI j) M = f_X6_run_64 650 (nI cnt) M' ∧ Rep M' 0 r' ∧ M' 655 1 = nI n ∧ ∀ q, 65 ≤ q → q ≠ 655 → M' q = M q) ∧ (∀ (k : Nat) (M : MM), f ≤ k → TXM M n tx → M 657 4 = nI n → M 657 6 = nI p → M 658 = r → ∃ M', f_X7_run_23 657 k (nI j) M = some (nI cnt, M') ∧ M' 658 = r' ∧ (∀ i, i ≠ 6 → i ≠ 7 → M' 657 i = M 657 i) ∧ ∀ q, q ≠ 657 → q ≠ 658 → q ≠ 661 → M' q = M q) := by
  intro f
  induction f with
  | zero => intro p j r h; omega
  | succ f ih =>
    intro p j r hf hz hp hj hw
    rw [faultS] at hz
    by_cases q : n ≤ p
    · refine ⟨j, r, hw, fun _ _ => rfl, by omega, fun k M hk ht m1 m2 hR => ?_, fun k M hk ht m4 m6 hr => ?_⟩
      · obtain ⟨k, rfl⟩ : ∃ k', k = k' + 1 := ⟨k - 1, by omega⟩
        rw [f_X6_run_35]
        by_cases h8 : (80 : Int32) ≤ nI j
        · rw [if_pos h8]
          exact ⟨M, rfl, hR, m1, fun _ _ _ => rfl⟩
        · rw [if_neg h8]
          obtain ⟨g', e, a1, a2, -⟩ := readActC ht m1 m2 hp
          have hno : (actS tx n p).1 = false := by
            cases hb : (actS tx n p).1 with
            | false => rfl
            | true =>
              have := ((actS_le (tx := tx) hp).2 hb).1
              omega
          rw [msf_id] at e
          rw [e, Option.bind_some]
          dsimp only
          rw [hno, if_pos bz_f0]
          exact ⟨msf M 655 g', rfl, hR.congr (fun o ho => msf_ne (by omega)), by rw [msf_at]; exact a1, fun q _ hq => msf_ne hq⟩
      · obtain ⟨k, rfl⟩ : ∃ k', k = k' + 1 := ⟨k - 1, by omega⟩
        rw [f_X7_run_23, m4, m6, if_pos (by rw [le_nI (by omega) (by omega)]; exact q)]
        exact ⟨M, rfl, hr, fun _ _ _ => rfl, fun _ _ _ _ => rfl⟩
    · rw [if_neg q] at hz
      obtain ⟨l1, l2⟩ := actS_le (tx := tx) hp
      cases hb : (actS tx n p).1 with
      | false =>
        rw [hb, if_neg (by decide)] at hz
        exact absurd hz (ne6_nI (by omega))
      | true =>
        rw [hb, if_pos rfl] at hz
        have hp2 := (l2 hb).2
        -- the letter and its numbers, out of the reference's own scan
        have hlet : (pk tx n p = 103 ∧ wi (nm tx n (p + 1)).2 1 999 = true) ∨ (pk tx n p = 115 ∧ wi (nm tx n (p + 1)).2 1 50 = true) ∨ (pk tx n p = 99 ∧ wi (nm tx n (p + 1)).2 0 5 = true) ∨ pk tx n p = 104 ∨ pk tx n p = 114 ∨ pk tx n p = 120 := by
          obtain ⟨g2, q2, -, -, -, -, -, -, hl⟩ := doesM (M := fun _ => tx) (n := n) (p := p) (tx := tx) (G := upd (upd tx 4 (nI n)) 6 (nI (p + 1))) ⟨h80, fun _ _ => rfl⟩ (by rw [upd_ne (by omega), upd_eq]) (upd_eq _ _ _) (by omega) hb
          rcases hl with ⟨a, b, -⟩ | ⟨a, b, -⟩ | ⟨a, b, -⟩ | a | a | a
          · exact Or.inl ⟨a, b⟩
          · exact Or.inr (Or.inl ⟨a, b⟩)
          · exact Or.inr (Or.inr (Or.inl ⟨a, b⟩))
          · exact Or.inr (Or.inr (Or.inr (Or.inl a)))
          · exact Or.inr (Or.inr (Or.inr (Or.inr (Or.inl a))))
          · exact Or.inr (Or.inr (Or.inr (Or.inr (Or.inr a))))
        obtain ⟨ok, r1, w1, hi1, dC, dM⟩ := actDo (b := (nm tx n (p + 1 + (nm tx n (p + 1)).1 + 1)).2) hw hlet
        -- one act of the class
        have stC : ∀ (M : MM), TXC M n tx → M 655 1 = nI n → M 655 2 = nI p → Rep M 0 r → ∃ (v : Int32) (M' : MM), (∀ k, f_X6_run_35 650 (k + 1) (nI j) M = if v < 0 then f_X6_run_64 650 (nI j) M' else f_X6_run_35 650 k (nI (j + 1)) M') ∧ (v < 0 ↔ ok = false) ∧ Rep M' 0 r1 ∧ M' 655 1 = nI n ∧ M' 655 2 = nI (actS tx n p).2 ∧ ∀ q, 65 ≤ q → q ≠ 655 → M' q = M q := fun M ht m1 m2 hR => by
          obtain ⟨g', e, a1, a2, a3, a5, a6⟩ := readActC ht m1 m2 hp
          rw [msf_id] at e
          obtain ⟨v, M', e2, hv, R', F'⟩ := dC (msf M 655 g') (hR.congr (fun o ho => msf_ne (by omega))) (by rw [msf_at]; exact a3) (fun y => by rw [msf_at]; exact a5 y) (fun y => by rw [msf_at]; exact a6 hb y)
          have f655 : M' 655 = g' := by rw [F' 655 (by omega), msf_at]
          refine ⟨v, M', fun k => ?_, hv, R', by rw [f655]; exact a1, by rw [f655]; exact a2, fun q h1 h2 => by rw [F' q (by omega), msf_ne h2]⟩
          rw [f_X6_run_35, if_neg (by rw [show (80 : Int32) = nI 80 from rfl, le_nI (by omega) (by omega)]; omega), e, Option.bind_some]
          dsimp only
          rw [hb, if_neg bz_t0, e2, Option.bind_some, nI_1]
        -- one act of the reference
        have stM : ∀ (M : MM), TXM M n tx → M 657 4 = nI n → M 657 6 = nI p → M 658 = r → ∃ M', (∀ k, f_X7_run_23 657 (k + 1) (nI j) M = if ok = false then some (nI j, M') else f_X7_run_23 657 k (nI (j + 1)) M') ∧ M' 658 = r1 ∧ M' 657 6 = nI (actS tx n p).2 ∧ (∀ i, i ≠ 6 → i ≠ 7 → M' 657 i = M 657 i) ∧ ∀ q, q ≠ 657 → q ≠ 658 → q ≠ 661 → M' q = M q := fun M ht m4 m6 hr => by
          obtain ⟨g2, q2, e, b6, b59, blt, bend, bo, bl⟩ := doesM (G := upd (M 657) 6 (nI (p + 1))) ht (by rw [upd_ne (by omega)]; exact m4) (upd_eq _ _ _) (show p < n by omega) hb
          have h7 : ((pk tx n p = 103 ∨ pk tx n p = 115) → g2 7 = (nm tx n (p + 1)).2) ∧ (pk tx n p = 99 → g2 7 = (nm tx n (p + 1 + (nm tx n (p + 1)).1 + 1)).2) := by
            rcases bl with ⟨a, -, c⟩ | ⟨a, -, c⟩ | ⟨a, -, c⟩ | a | a | a
            · exact ⟨fun _ => c, fun y => absurd (a.symm.trans y) (by decide)⟩
            · exact ⟨fun _ => c, fun y => absurd (a.symm.trans y) (by decide)⟩
            · exact ⟨fun y => y.elim (fun y => absurd (a.symm.trans y) (by decide)) (fun y => absurd (a.symm.trans y) (by decide)), fun _ => c⟩
            · exact ⟨fun y => y.elim (fun y => absurd (a.symm.trans y) (by decide)) (fun y => absurd (a.symm.trans y) (by decide)), fun y => absurd (a.symm.trans y) (by decide)⟩
            · exact ⟨fun y => y.elim (fun y => absurd (a.symm.trans y) (by decide)) (fun y => absurd (a.symm.trans y) (by decide)), fun y => absurd (a.symm.trans y) (by decide)⟩
            · exact ⟨fun y => y.elim (fun y => absurd (a.symm.trans y) (by decide)) (fun y => absurd (a.symm.trans y) (by decide)), fun y => absurd (a.symm.trans y) (by decide)⟩
          obtain ⟨N', e2, r2, mo⟩ := dM (msf M 657 g2) (by rw [msf_ne (by omega)]; exact hr) (fun y => by rw [msf_at]; exact h7.1 y) (fun y => by rw [msf_at]; exact h7.2 y)
          have n657 : N' 657 = g2 := by rw [mo 657 (by omega) (by omega), msf_at]
          have ht' : TXM N' n tx := ⟨ht.1, fun k hk => by rw [mo 660 (by omega) (by omega), msf_ne (by omega)]; exact ht.2 k hk⟩
          obtain ⟨g3, e3, c6, co⟩ := takesM (g := N' 657) (c := 59) ht' (by rw [n657, bo 4 (by omega) (by omega), upd_ne (by omega)]; exact m4) (by rw [n657]; exact b6) (show q2 ≤ n by omega)
          rw [msf_id] at e3
          rw [if_pos b59] at c6
          refine ⟨msf N' 657 g3, fun k => ?_, by rw [msf_ne (by omega)]; exact r2, by rw [msf_at, c6, bend], fun i h1 h2 => by rw [msf_at, co i h1, n657, bo i h1 h2, upd_ne h1], fun q h1 h2 h3 => by rw [msf_ne h1, mo q h2 h3, msf_ne h1]⟩
          have hpk := peekM (g := M 657) ht m4 m6 hp
          rw [msf_id] at hpk
          rw [f_X7_run_23, m4, m6, if_neg (by rw [le_nI (by omega) (by omega)]; exact q), hpk, Option.bind_some, nI_1, nI_1, show ms M 657 6 (nI (p + 1)) = msf M 657 (upd (M 657) 6 (nI (p + 1))) from rfl, e, e2]
          unfold f_X7_does_249
          rw [e3, Option.bind_some, Option.bind_some]
          dsimp only
          cases ok with
          | false => rw [if_pos bz_f0, if_pos rfl]
          | true => rw [if_neg bz_t0, if_neg (show ¬ true = false by decide)]
        cases hok : ok with
        | false =>
          refine ⟨j, r1, w1, hi1, by omega, fun k M hk ht m1 m2 hR => ?_, fun k M hk ht m4 m6 hr => ?_⟩
          · obtain ⟨k, rfl⟩ : ∃ k', k = k' + 1 := ⟨k - 1, by omega⟩
            obtain ⟨v, M', e, hv, R', a1, -, fr⟩ := stC M ht m1 m2 hR
            rw [e, if_pos (hv.mpr hok)]
            exact ⟨M', rfl, R', a1, fr⟩
          · obtain ⟨k, rfl⟩ : ∃ k', k = k' + 1 := ⟨k - 1, by omega⟩
            obtain ⟨M', e, a, -, c, d⟩ := stM M ht m4 m6 hr
            rw [e, if_pos hok]
            exact ⟨M', rfl, a, c, d⟩
        | true =>
          obtain ⟨cnt, r', w', hi', hc', pC, pM⟩ := ih (actS tx n p).2 (j + 1) r1 (by omega) hz l1 (by omega) w1
          refine ⟨cnt, r', w', fun k hk => (hi' k hk).trans (hi1 k hk), hc', fun k M hk ht m1 m2 hR => ?_, fun k M hk ht m4 m6 hr => ?_⟩
          · obtain ⟨k, rfl⟩ : ∃ k', k = k' + 1 := ⟨k - 1, by omega⟩
            obtain ⟨v, M', e, hv, R', a1, a2, fr⟩ := stC M ht m1 m2 hR
            rw [e, if_neg (fun y => absurd ((hv.mp y).symm.trans hok) (by decide))]
            obtain ⟨M2, e2, R2, b1, fr2⟩ := pC k M' (by omega) ⟨ht.1, fun i hi => by rw [fr 656 (by omega) (by omega)]; exact ht.2 i hi⟩ a1 a2 R'
            exact ⟨M2, e2, R2, b1, fun q h1 h2 => (fr2 q h1 h2).trans (fr q h1 h2)⟩
          · obtain ⟨k, rfl⟩ : ∃ k', k = k' + 1 := ⟨k - 1, by omega⟩
            obtain ⟨M', e, a, b, c, d⟩ := stM M ht m4 m6 hr
            rw [e, if_neg (fun y => absurd (y.symm.trans hok) (by decide))]
            obtain ⟨M2, e2, a2, c2, d2⟩ := pM k M' (by omega) ⟨ht.1, fun i hi => by rw [d 660 (by omega) (by omega) (by omega)]; exact ht.2 i hi⟩ ((c 4 (by omega) (by omega)).trans m4) b a
            exact ⟨M2, e2, a2, fun i h1 h2 => (c2 i h1 h2).trans (c i h1 h2), fun q h1 h2 h3 => (d2 q h1 h2 h3).trans (d q h1 h2 h3)⟩
theorem run_pair : Pair (f_X6_run 650) (f_X7_run 657) := by
  rintro M ⟨R, kp, n, tx, fl, hC, hM⟩
  obtain ⟨⟨a, hWR⟩, ⟨nt0, hh⟩, d, t1, h80, t3⟩ := id hC
  have hkp := hh.2.2.2.1
  obtain ⟨M1, e1, c1, l1⟩ := findC hC
  by_cases hz : faultS tx n 81 0 = -6
  · have hr : ∀ k, k < 1808 → recR R kp k = R k := fun k hk => recR_0 hkp hk
    obtain ⟨cnt, r', w', hi', hcnt, pC, pM⟩ := runS h80 81 0 0 (recR R kp) (by omega) hz (by omega) (by omega) (hWR.cong hr)
    refine mkP (v := nI cnt) (R' := r') (kp' := kp1 kp) (n' := n) (tx' := tx) (fl' := fl) hM ?_ (fun N g => ?_)
    · obtain ⟨M2, nt, e2, c2, h2, n2, l2⟩ := noteC c1
      have hk2 : n ≤ 80 := h80
      obtain ⟨M3, e3, R3, m31, fr3⟩ := pC FU (ms M2 655 2 0) (by unfold FU; omega) ⟨h80, fun k hk => by rw [ms_ne (by omega)]; exact (c2.2.2.2.2.2 k hk).1⟩ (by rw [ms_ni (by omega)]; exact c2.2.2.2.1) (by rw [ms_eq]; rfl) ((c2.1.1.row hr).congr (fun o ho => ms_ne (by omega)))
      have c3 : CI (msf M2 655 (M3 655)) R kp n tx fl := c2.tx' m31
      have h3 : CH (msf M2 655 (M3 655)) R nt kp := h2.mono (fun q _ _ => msf_ne (by omega)) (fun _ _ _ _ _ => rfl)
      have n3 : Rep (msf M2 655 (M3 655)) (260 + 65 * nt) R := n2.congr (fun o ho => msf_ne (by have := h2.1; omega))
      have f3 : Fr 0 (msf M2 655 (M3 655)) M3 := fun q hq => by
        by_cases y : q = 655
        · subst y; rw [msf_at]
        · rw [msf_ne y, fr3 q (by omega) y, ms_ne y]
      obtain ⟨M4, e4, c4, l4⟩ := keepC (v := nI cnt) c3 h3 n3 (ge0 (by omega)) R3 f3 w' hi'
      refine ⟨M4, ?_, c4, l1.tr (l2.tr (Lo.tr (fun q hq => msf_ne (by omega)) l4))⟩
      unfold f_X6_run f_X5_rewind
      rw [e1, Option.bind_some]
      dsimp only
      rw [if_pos hz, e2, Option.bind_some, Option.bind_some, show f_X6_run_35 650 FU 0 (ms M2 655 2 0) = f_X6_run_64 650 (nI cnt) M3 from e3]
      unfold f_X6_run_64
      rw [e4, Option.bind_some]
    · obtain ⟨N1, e2, g1, l2⟩ := findM g h80
      obtain ⟨N2, e3, m2, l3⟩ := recM g1 hkp
      obtain ⟨N3, e4, a4, b4, d4⟩ := pM FU (ms N2 657 6 0) (by unfold FU; omega) ⟨h80, fun k hk => by rw [ms_ne (by omega)]; exact m2.2.2.2.1 k hk⟩ (by rw [ms_ni (by omega)]; exact m2.2.2.1) (by rw [ms_eq]; rfl) (by rw [ms_ne (by omega)]; exact m2.1)
      refine ⟨N3, ?_, ⟨a4, ?_, ?_, fun k hk => ?_, fun x hx => ?_⟩, l2.tr (l3.tr (fun q hq => ?_))⟩
      · unfold f_X7_run
        rw [e2, Option.bind_some]
        dsimp only
        rw [if_pos hz, e3, Option.bind_some]
        exact e4
      · rw [b4 1 (by omega) (by omega), ms_ni (by omega)]; exact m2.2.1
      · rw [b4 4 (by omega) (by omega), ms_ni (by omega)]; exact m2.2.2.1
      · rw [d4 660 (by omega) (by omega) (by omega), ms_ne (by omega)]; exact m2.2.2.2.1 k hk
      · rw [d4 659 (by omega) (by omega) (by omega), ms_ne (by omega)]; exact m2.2.2.2.2 x hx
      · rw [d4 q (by omega) (by omega) (by omega), ms_ne (by omega)]
  · refine mkP (v := -3) (R' := R) (kp' := kp) (n' := n) (tx' := tx) (fl' := fl) hM ⟨M1, ?_, c1, l1⟩ (fun N g => ?_)
    · unfold f_X6_run
      rw [e1, Option.bind_some]
      dsimp only
      rw [if_neg hz]
    · obtain ⟨N1, e2, g1, l2⟩ := findM g h80
      refine ⟨N1, ?_, g1, l2⟩
      unfold f_X7_run
      rw [e2, Option.bind_some]
      dsimp only
      rw [if_neg hz]
