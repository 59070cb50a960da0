/-! PURE: undo, save and restore on both sides -/
def INV (M : MM) : Prop := ∃ R kp n tx fl, CI M R kp n tx fl ∧ MI M R kp n tx fl
def Pair (fc fm : MM → Option (Int32 × MM)) : Prop := ∀ M, INV M → ∃ v M1 M2, fc M = some (v, M1) ∧ fm M1 = some (v, M2) ∧ INV M2
theorem mkP {M : MM} {R R' : Nat → Int32} {kp n kp' n' : Nat} {tx fl tx' fl' : Nat → Int32} {v : Int32} {fc fm : MM → Option (Int32 × MM)} (hm : MI M R kp n tx fl) (c : ∃ M1, fc M = some (v, M1) ∧ CI M1 R' kp' n' tx' fl' ∧ Lo M M1) (m : ∀ M1, MI M1 R kp n tx fl → ∃ M2, fm M1 = some (v, M2) ∧ MI M2 R' kp' n' tx' fl' ∧ Hi M1 M2) : ∃ v M1 M2, fc M = some (v, M1) ∧ fm M1 = some (v, M2) ∧ INV M2 := by
  obtain ⟨M1, e1, c1, l1⟩ := c
  obtain ⟨M2, e2, m2, l2⟩ := m M1 (hm.lo l1)
  exact ⟨v, M1, M2, e1, e2, R', kp', n', tx', fl', c1.hi l2, m2⟩
theorem mkS {M : MM} {v : Int32} {fc fm : MM → Option (Int32 × MM)} (h : INV M) (c : fc M = some (v, M)) (m : fm M = some (v, M)) : ∃ v M1 M2, fc M = some (v, M1) ∧ fm M1 = some (v, M2) ∧ INV M2 := ⟨v, M, M, c, m, h⟩
theorem Hi.rf {M : MM} : Hi M M := fun _ _ => rfl
theorem Hi.tr {M M1 M2 : MM} (h1 : Hi M M1) (h2 : Hi M1 M2) : Hi M M2 := fun q h => (h2 q h).trans (h1 q h)
theorem cpB_lo {R : Nat → Int32} {i k : Nat} (hk : k < 1808) : cpB R i 0 k = blk R i k := by
  have := cpB_at (R := R) (i := i) (j := 0) (a := 0) hk
  rw [blk0, if_pos rfl] at this
  exact this
theorem undo_pair : Pair (f_X6_undo 650) (f_X7_undo 657) := by
  rintro M ⟨R, kp, n, tx, fl, hC, hM⟩
  obtain ⟨⟨a, hw⟩, ⟨nt, h1, h2, h3, h4, h5⟩, d, f⟩ := id hC
  by_cases q : kp = 0
  · subst q
    refine mkS (v := -3) ⟨R, 0, n, tx, fl, hC, hM⟩ ?_ ?_
    · unfold f_X6_undo f_X1_takeBack
      rw [h3, if_pos (by decide), Option.bind_some]
    · unfold f_X7_undo
      rw [hM.2.1, if_pos (by decide)]
  · obtain ⟨p1, C, L, P, s, ln, nn, p2⟩ := h5 kp (by omega) (by omega)
    have ek : nI kp - 1 = nI (kp - 1) := by rw [show (1 : Int32) = nI 1 from rfl, sub_nI (by omega)]
    rw [show (nt + 5 - (kp - kp)) % 6 = (nt + 5) % 6 by omega] at p1
    refine mkP (v := nI (kp - 1)) (R' := cpB R kp 0) (kp' := kp - 1) (n' := n) (tx' := tx) (fl' := fl) hM ?_ ?_
    · unfold f_X6_undo f_X1_takeBack
      rw [h3, if_neg (by rw [show (0 : Int32) = nI 0 from rfl, eq_nI (by omega) (by omega)]; exact q), h2, ntB nt h1, ms_ni (show 2 ≠ 1 by omega), h3, ek, ms_ni (show 1 ≠ 2 by omega), ms_eq, gd_of (inb_nI (by omega) (by omega)), if_pos (by decide), ix_nI (by omega)]
      have es : ∀ q, q ≠ 651 → ms (ms M 651 1 (nI ((nt + 5) % 6))) 651 2 (nI (kp - 1)) q = M q := fun q hq => by rw [ms_ne hq, ms_ne hq]
      obtain ⟨M1, e, r, fr⟩ := copyC (b := 260 + 65 * ((nt + 5) % 6)) (b' := 0) (M := ms (ms M 651 1 (nI ((nt + 5) % 6))) 651 2 (nI (kp - 1))) (by omega) (p1.congr (fun o ho => es _ (by omega))) p2
      rw [e, Option.bind_some, Option.bind_some]
      have k2 : M1 651 2 = nI (kp - 1) := by rw [fr 651 (by omega), ms_eq]
      refine ⟨M1, by dsimp only; rw [k2], ⟨⟨r.row (fun k hk => cpB_lo hk), WFr.cong ⟨C, L, P, s, ln, nn, p2⟩ (fun k hk => cpB_lo hk)⟩, ⟨(nt + 5) % 6, by omega, by rw [fr 651 (by omega), ms_ni (by omega), ms_eq], k2, by omega, fun i q1 q2 => ?_⟩, ?_, ?_⟩, fun q hq => (fr q (by omega)).trans (es q (by omega))⟩
      · obtain ⟨g1, g2⟩ := h5 i q1 (by omega)
        have hb : ∀ k, k < 1808 → blk (cpB R kp 0) i k = blk R i k := fun k hk => by rw [cpB_at hk, if_neg (by omega)]
        refine ⟨?_, g2.cong hb⟩
        rw [show ((nt + 5) % 6 + 5 - (kp - 1 - i)) % 6 = (nt + 5 - (kp - i)) % 6 by omega]
        exact (g1.congr (fun o ho => (fr _ (by omega)).trans (es _ (by omega)))).row hb
      · refine d.mono (fun q _ _ => (fr q (by omega)).trans (es q (by omega))) ((fr _ (by omega)).trans (es _ (by omega))) (fun i k q1 q2 hk => ?_)
        rw [cpB_at hk, if_neg (by omega)]
      · exact f.mono (by rw [fr _ (by omega), es _ (by omega)]) ((fr _ (by omega)).trans (es _ (by omega)))
    · rintro M1 ⟨g1, g2, g3, g4, g5⟩
      unfold f_X7_undo
      rw [g2, if_neg (by rw [show (0 : Int32) = nI 0 from rfl, eq_nI (by omega) (by omega)]; exact q), show (1808 : Int32) = nI 1808 from rfl, mul_nI, show (0 : Int32) = nI (1808 * 0) from rfl, copies_ok (by omega) (by omega) q, Option.bind_some, msf_ne (show 657 ≠ 658 by omega), g2, ek]
      refine ⟨_, by rw [ms_eq], ⟨?_, by rw [ms_eq], ?_, fun k hk => ?_, fun x hx => ?_⟩, fun p hp => ?_⟩
      · rw [ms_ne (by omega), msf_at, g1]
      · rw [ms_ni (by omega), msf_ne (by omega)]; exact g3
      · rw [ms_ne (by omega), msf_ne (by omega)]; exact g4 k hk
      · rw [ms_ne (by omega), msf_ne (by omega)]; exact g5 x hx
      · rw [ms_ne (by omega), msf_ne (by omega)]
theorem wi01 {x : Int32} (h : wi x 0 1 = true) : ∃ j : Nat, x = nI j ∧ j < 2 := by
  obtain ⟨j, e, -, h2⟩ := wi_nI (a := 0) (b := 1) (by omega) (by omega) h
  exact ⟨j, e, by omega⟩
theorem save_pair (x : Int32) : Pair (f_X6_save 650 x) (f_X7_save 657 x) := by
  rintro M ⟨R, kp, n, tx, fl, hC, hM⟩
  obtain ⟨⟨a, C, L, P, s, ln, nn, hw⟩, ⟨nt, hh⟩, d, f⟩ := id hC
  cases hx : wi x 0 1 with
  | false =>
    refine mkS (v := -1) ⟨R, kp, n, tx, fl, hC, hM⟩ ?_ ?_
    · unfold f_X6_save f_X6_isSlot
      rw [isWithin_ok, Option.bind_some, hx, Option.bind_some, if_pos bz_f0]
    · unfold f_X7_save
      rw [in_ok, Option.bind_some, hx, if_pos bz_f0]
  | true =>
    obtain ⟨j, rfl, hj⟩ := wi01 hx
    refine mkP (v := R 1) (R' := cpB R 0 (6 + j)) (kp' := kp) (n' := n) (tx' := tx) (fl' := upd fl j 1) hM ?_ ?_
    · unfold f_X6_save f_X6_isSlot
      rw [isWithin_ok, Option.bind_some, hx, Option.bind_some, if_neg bz_t0, gd_of (inb_nI (by omega) (by omega)), if_neg (by decide), ix_nI (by omega)]
      obtain ⟨M1, e, r, fr⟩ := copyC (b := 0) (b' := 130 + 65 * j) (by omega) a hw
      rw [e, Option.bind_some, gd_of (inb_nI (by omega) (by omega))]
      have es : ∀ q, q ≠ 654 → ms M1 654 j (bz true) q = M1 q := fun q hq => ms_ne hq
      have hb : ∀ i k, i ≠ 6 + j → k < 1808 → blk (cpB R 0 (6 + j)) i k = blk R i k := fun i k hi hk => by rw [cpB_at hk, if_neg hi]
      have h0 : ∀ k, k < 1808 → cpB R 0 (6 + j) k = R k := fun k hk => by
        have := hb 0 k (by omega) hk
        rw [blk0, blk0] at this
        exact this
      have hj1 : ∀ k, k < 1808 → blk (cpB R 0 (6 + j)) (6 + j) k = R k := fun k hk => by rw [cpB_at hk, if_pos rfl, blk0]
      have a1 : ∀ o, o < 65 → M1 (0 + o) = M (0 + o) := fun o ho => fr _ (by omega)
      refine ⟨_, ?_, ⟨⟨(a.congr (M' := ms M1 654 j (bz true)) (fun o ho => (es _ (by omega)).trans (a1 o ho))).row h0, WFr.cong ⟨C, L, P, s, ln, nn, hw⟩ h0⟩, ⟨nt, hh.mono (fun q q1 q2 => ?_) (fun i k q1 q2 hk => hb i k (by have := hh.2.2.2.1; omega) hk)⟩, fun y hy => ⟨?_, fun hz => ?_⟩, f.mono (by rw [es _ (by omega), fr _ (by omega)]) ((es _ (by omega)).trans (fr _ (by omega)))⟩, fun q hq => (es q (by omega)).trans (fr q (by omega))⟩
      · rw [es _ (by omega), fr 0 (by omega), show M 0 8 = R 1 from a.s.2.2.1]
      · by_cases z : q = 654
        · omega
        · rw [es _ z, fr _ (by omega)]
      · by_cases z : y = j
        · subst z; rw [ms_eq, upd_eq]; rfl
        · rw [ms_ni z, upd_ne z, fr _ (by omega)]; exact (d y hy).1
      · by_cases z : y = j
        · subst z
          exact ⟨(r.congr (fun o ho => es _ (by omega))).row hj1, WFr.cong ⟨C, L, P, s, ln, nn, hw⟩ hj1⟩
        · rw [upd_ne z] at hz
          obtain ⟨p1, p2⟩ := (d y hy).2 hz
          exact ⟨(p1.congr (fun o ho => (es _ (by omega)).trans (fr _ (by omega)))).row (fun k hk => hb _ k (by omega) hk), p2.cong (fun k hk => hb _ k (by omega) hk)⟩
    · rintro M1 ⟨g1, g2, g3, g4, g5⟩
      unfold f_X7_save
      rw [in_ok, Option.bind_some, hx, if_neg bz_t0, show (6 : Int32) = nI 6 from rfl, nI_add, show (1808 : Int32) = nI 1808 from rfl, mul_nI, show f_X7_copies 657 0 (nI (1808 * (6 + j))) M1 = f_X7_copies 657 (nI (1808 * 0)) (nI (1808 * (6 + j))) M1 from rfl, copies_ok (by omega) (by omega) (by omega), Option.bind_some, gd_of (inb_nI (by omega) (by omega)), gd_of (show inb 1 16272 = true by decide), ix_nI (by omega), show ix 1 = 1 from rfl]
      refine ⟨ms (msf M1 658 (cpB (M1 658) 0 (6 + j))) 659 j (bz true), ?_, ⟨?_, ?_, ?_, fun k hk => ?_, fun y hy => ?_⟩, fun p hp => ?_⟩
      · have := cpB_at (R := R) (i := 0) (j := 6 + j) (a := 0) (k := 1) (by omega)
        rw [blk0, blk0, if_neg (by omega)] at this
        rw [ms_ne (show 657 + 1 ≠ 657 + 2 by omega), msf_at, g1, this]
      · rw [ms_ne (by omega), msf_at, g1]
      · rw [ms_ne (by omega), msf_ne (by omega)]; exact g2
      · rw [ms_ne (by omega), msf_ne (by omega)]; exact g3
      · rw [ms_ne (by omega), msf_ne (by omega)]; exact g4 k hk
      · by_cases z : y = j
        · subst z; rw [ms_eq, upd_eq]; rfl
        · rw [ms_ni z, upd_ne z, msf_ne (by omega)]; exact g5 y hy
      · rw [ms_ne (by omega), msf_ne (by omega)]

theorem ge0 {x : Nat} (h : x ≤ 1000000) : ¬ nI x < 0 := by
  rw [show (0 : Int32) = nI 0 from rfl, lt_nI h (by omega)]
  omega
theorem restore_pair (x : Int32) : Pair (f_X6_restore 650 x) (f_X7_restore 657 x) := by
  rintro M ⟨R, kp, n, tx, fl, hC, hM⟩
  obtain ⟨⟨a, C, L, P, s, ln, nn, hw⟩, ⟨nt, hh⟩, d, f⟩ := id hC
  cases hx : wi x 0 1 with
  | false =>
    refine mkS (v := -1) ⟨R, kp, n, tx, fl, hC, hM⟩ ?_ ?_
    · unfold f_X6_restore f_X6_isSlot
      rw [isWithin_ok, Option.bind_some, hx, Option.bind_some, if_pos bz_f0]
    · unfold f_X7_restore
      rw [in_ok, Option.bind_some, hx, if_pos bz_f0]
  | true =>
    obtain ⟨j, rfl, hj⟩ := wi01 hx
    cases hz : nz (fl j) with
    | false =>
      refine mkS (v := -3) ⟨R, kp, n, tx, fl, hC, hM⟩ ?_ ?_
      · unfold f_X6_restore f_X6_isSlot
        rw [isWithin_ok, Option.bind_some, hx, Option.bind_some, if_neg bz_t0, gd_of (inb_nI (by omega) (by omega)), ix_nI (by omega), (d j hj).1, hz, if_pos bz_f0]
      · unfold f_X7_restore
        rw [in_ok, Option.bind_some, hx, if_neg bz_t0, gd_of (inb_nI (by omega) (by omega)), ix_nI (by omega), hM.2.2.2.2 j hj, hz, if_pos bz_f0]
    | true =>
      have hkp := hh.2.2.2.1
      have h0 : ∀ k, k < 1808 → cpB (recR R kp) (6 + j) 0 k = blk R (6 + j) k := fun k hk => by
        rw [cpB_lo hk, recR_at hkp hk, if_neg (by unfold kp1; split <;> omega), if_neg (by omega)]
      obtain ⟨p1, C', L', P', s', ln', nn', p2⟩ := (d j hj).2 hz
      have hv : cpB (recR R kp) (6 + j) 0 1 = nI s' := (h0 1 (by omega)).trans p2.2.2.2.2.2.1.1
      have hs5 := p2.2.2.2.2.2.1.2
      refine mkP (v := nI s') (R' := cpB (recR R kp) (6 + j) 0) (kp' := kp1 kp) (n' := n) (tx' := tx) (fl' := fl) hM ?_ ?_
      · unfold f_X6_restore f_X6_isSlot
        rw [isWithin_ok, Option.bind_some, hx, Option.bind_some, if_neg bz_t0, gd_of (inb_nI (by omega) (by omega)), ix_nI (by omega), (d j hj).1, hz, if_neg bz_t0, if_neg (by decide)]
        obtain ⟨M1, nt', e1, c1, h1, n1, l1⟩ := noteC hC
        obtain ⟨q1, q2⟩ := (c1.2.2.1 j hj).2 hz
        obtain ⟨M2, e2, r2, f2⟩ := copyC (b := 130 + 65 * j) (b' := 0) (by omega) q1 p2
        have r2' := r2.row h0
        rw [e1, Option.bind_some, gd_of (inb_nI (by omega) (by omega)), e2, Option.bind_some]
        have m8 : M2 0 8 = nI s' := r2'.s.2.2.1.trans hv
        rw [m8]
        obtain ⟨M3, e3, c3, l3⟩ := keepC (v := nI s') c1 h1 n1 (ge0 (by omega)) r2' f2 (WFr.cong ⟨C', L', P', s', ln', nn', p2⟩ h0) (fun k hk => by unfold cpB; rw [if_neg (by omega)])
        rw [e3, Option.bind_some]
        exact ⟨M3, rfl, c3, l1.tr l3⟩
      · rintro M1 ⟨g1, g2, g3, g4, g5⟩
        unfold f_X7_restore
        rw [in_ok, Option.bind_some, hx, if_neg bz_t0, gd_of (inb_nI (by omega) (by omega)), ix_nI (by omega), show M1 (657 + 2) j = fl j from g5 j hj, hz, if_neg bz_t0]
        obtain ⟨M2, e2, k1, k2, k3, k4⟩ := rec_ok g2 hkp
        rw [e2, Option.bind_some, show (6 : Int32) = nI 6 from rfl, nI_add, show (1808 : Int32) = nI 1808 from rfl, mul_nI, show f_X7_copies 657 (nI (1808 * (6 + j))) 0 M2 = f_X7_copies 657 (nI (1808 * (6 + j))) (nI (1808 * 0)) M2 from rfl, copies_ok (by omega) (by omega) (by omega), Option.bind_some, gd_of (show inb 1 16272 = true by decide), show ix 1 = 1 from rfl]
        rw [g1] at k1
        refine ⟨msf M2 658 (cpB (M2 658) (6 + j) 0), ?_, ⟨?_, ?_, ?_, fun k hk => ?_, fun y hy => ?_⟩, fun p hp => ?_⟩
        · rw [show (657 + 1 : Nat) = 658 from rfl, msf_at, k1, hv]
        · rw [msf_at, k1]
        · rw [msf_ne (by omega), k2]
        · rw [msf_ne (by omega), k3 4 (by omega)]; exact g3
        · rw [msf_ne (by omega), k4 _ (by omega) (by omega)]; exact g4 k hk
        · rw [msf_ne (by omega), k4 _ (by omega) (by omega)]; exact g5 y hy
        · rw [msf_ne (by omega), k4 _ (by omega) (by omega)]
