/-! PURE, the class alone: by program out of the same part of whole -/
/-! PURE: setPoint on both sides, the class -/
theorem lt_of_le_ne32 {a b : Int32} (h : a ≤ b) (hn : b ≠ a) : a < b := by
  rw [i_le] at h
  rw [i_lt]
  have : b.toInt ≠ a.toInt := fun e => hn (Int32.toInt_inj.mp e)
  omega
theorem lt_tr {a b c : Int32} (h1 : a < b) (h2 : b < c) : a < c := by
  rw [i_lt] at *
  omega
theorem lt_irr {a : Int32} (h : a < a) : False := by
  rw [i_lt] at h
  omega
theorem le_lt_tr {a b c : Int32} (h1 : a ≤ b) (h2 : b < c) : a < c := by
  rw [i_lt] at *
  rw [i_le] at h1
  omega
theorem putC_found {M : MM} {b P p : Nat} {r : Nat → Int32} {x1 x2 : Int32} (hR : Rep M b r) (hw : WFp r P) (hp : p < P) (hf : r (18 + 2 * p) = x1) : ∃ M', f_X3_put (b + 3) x1 x2 M = some (nI P, M') ∧ Rep M' b (ptS r p P x1 x2) ∧ Fr b M M' ∧ WFp (ptS r p P x1 x2) P := by
  obtain ⟨⟨w4, w8⟩, wb, wd⟩ := hw
  have hPn : Pn r = P := by unfold Pn; rw [w4, ix_nI (by omega)]
  obtain ⟨g0, g1, g2, g3⟩ := hR.2
  rw [hPn] at g0 g1 g2 g3
  have c2 : M (b + 3) 2 = nI P := hR.s.2.2.2.2.2.2.2.2.2.2.2.trans w4
  obtain ⟨pl, q1, q2, q3, q4⟩ := place_ok (f := x1) c2 w8
  rw [show b + 3 + 1 = b + 4 from rfl] at q2 q3
  obtain ⟨j, j1, j2, j3⟩ := g2 p hp
  rw [hf] at j2
  have hjl : pl = j := by
    by_cases z : j < pl
    · have := q2 j z
      rw [j2] at this
      exact (lt_irr this).elim
    · by_cases y : pl < j
      · have := le_lt_tr (q3 (by omega)) (g1 pl j y j1)
        rw [j2] at this
        exact (lt_irr this).elim
      · omega
  subst hjl
  have v := @ptS_v r p P x1 x2
  have hfr : ∀ q, ptS r p P x1 x2 (18 + 2 * q) = r (18 + 2 * q) := fun q => by
    by_cases z : q = p
    · subst z
      rw [v.2.1, hf]
    · exact ptS_at (by omega) (by omega) (by omega)
  have s5 : ms M (b + 5) pl x2 (b + 4) = M (b + 4) := ms_ne (by omega)
  refine ⟨ms M (b + 5) pl x2, ?_, Rep.pt8 hR (fun o i a1 a2 a3 a4 => by rw [ms_ne (by omega)]) (by rw [ms_ne (by omega), v.1]; exact c2) (fun k a b c => ptS_at b (by omega) (by omega)) ⟨by rw [ptS_Pn w8]; exact w8, by rw [ptS_Pn w8, s5]; exact g1, fun q hq => ?_, fun i hi => ?_⟩, Fr.put (o := 5) Fr.rf (by omega), ⟨v.1, w8⟩, fun q hq => by rw [hfr]; exact wb q hq, fun q q' hq hq' e => wd q q' hq hq' (by rw [hfr, hfr] at e; exact e)⟩
  · unfold f_X3_put
    rw [q4, Option.bind_some, c2, if_neg (by rw [le_nI (by omega) (by omega)]; omega), gd_of (inb_nI (by omega) (by omega)), gd_of (inb_nI (by omega) (by omega)), ix_nI (by omega), show b + 3 + 1 = b + 4 from rfl, show b + 3 + 2 = b + 5 from rfl, if_pos j2, ms_ne (show b + 3 ≠ b + 5 by omega), c2]
  · rw [ptS_Pn w8] at hq
    rw [ptS_Pn w8, s5]
    by_cases z : q = p
    · subst z
      exact ⟨pl, j1, by rw [v.2.1]; exact j2, by rw [v.2.2, ms_eq]⟩
    · obtain ⟨i, i1, i2, i3⟩ := g2 q hq
      have hne : i ≠ pl := fun e => z (wd q p hq hp (by rw [hf, ← i2, e]; exact j2))
      exact ⟨i, i1, by rw [hfr]; exact i2, by rw [ms_ni hne, ptS_at (by omega) (by omega) (by omega)]; exact i3⟩
  · rw [ptS_Pn w8] at hi
    rw [ptS_Pn w8, s5]
    by_cases z : i = pl
    · subst z
      exact ⟨p, hp, by rw [v.2.1]; exact j2, by rw [v.2.2, ms_eq]⟩
    · obtain ⟨q, a, c, d⟩ := g3 i hi
      have hne : q ≠ p := fun e => by
        subst e
        rw [hf, ← j2] at c
        rcases Nat.lt_or_gt_of_ne z with y | y
        · have := g1 i pl y j1
          rw [c] at this
          exact lt_irr this
        · have := g1 pl i y hi
          rw [c] at this
          exact lt_irr this
      exact ⟨q, a, by rw [hfr]; exact c, by rw [ms_ni z, ptS_at (by omega) (by omega) (by omega)]; exact d⟩
theorem insF_lt {f : Nat → Int32} {pl P i : Nat} {x : Int32} (h : i < pl) : insF f pl x P i = f i := by
  unfold insF
  rw [if_neg (by omega), if_neg (by omega)]
theorem insF_eq {f : Nat → Int32} {pl P : Nat} {x : Int32} : insF f pl x P pl = x := by
  unfold insF
  rw [if_pos rfl]
theorem insF_gt {f : Nat → Int32} {pl P i : Nat} {x : Int32} (h : pl ≤ i) (h2 : i < P) : insF f pl x P (i + 1) = f i := by
  unfold insF
  rw [if_neg (by omega), if_pos (by omega), Nat.add_sub_cancel]
theorem putC_new {M : MM} {b P : Nat} {r : Nat → Int32} {x1 x2 : Int32} (hR : Rep M b r) (hw : WFp r P) (hx : Sm x1 2000) (hn : ∀ q, q < P → r (18 + 2 * q) ≠ x1) : (P = 8 → f_X3_put (b + 3) x1 x2 M = some (-4, M)) ∧ (P < 8 → ∃ M', f_X3_put (b + 3) x1 x2 M = some (nI (P + 1), M') ∧ Rep M' b (ptS r P (P + 1) x1 x2) ∧ Fr b M M' ∧ WFp (ptS r P (P + 1) x1 x2) (P + 1)) := by
  obtain ⟨⟨w4, w8⟩, wb, wd⟩ := hw
  have hPn : Pn r = P := by unfold Pn; rw [w4, ix_nI (by omega)]
  obtain ⟨g0, g1, g2, g3⟩ := hR.2
  rw [hPn] at g0 g1 g2 g3
  have c2 : M (b + 3) 2 = nI P := hR.s.2.2.2.2.2.2.2.2.2.2.2.trans w4
  obtain ⟨pl, q1, q2, q3, q4⟩ := place_ok (f := x1) c2 w8
  rw [show b + 3 + 1 = b + 4 from rfl] at q2 q3
  have hno : ∀ j, j < P → M (b + 4) j ≠ x1 := fun j hj e => by
    obtain ⟨q, a, c, d⟩ := g3 j hj
    exact hn q a (c.symm.trans e)
  have hhi : ∀ j, pl ≤ j → j < P → x1 < M (b + 4) j := fun j h1 h2 => by
    have h3 := lt_of_le_ne32 (q3 (by omega)) (hno pl (by omega))
    by_cases z : j = pl
    · rw [z]; exact h3
    · exact lt_tr h3 (g1 pl j (by omega) h2)
  have e36 : f_X3_put (b + 3) x1 x2 M = f_X3_put_36 (b + 3) x1 x2 (nI pl) M := by
    unfold f_X3_put
    rw [q4, Option.bind_some, c2]
    by_cases z : pl = P
    · rw [if_pos (by rw [le_nI (by omega) (by omega)]; omega)]
    · rw [if_neg (by rw [le_nI (by omega) (by omega)]; omega), gd_of (inb_nI (by omega) (by omega)), ix_nI (by omega), show b + 3 + 1 = b + 4 from rfl, if_neg (hno pl (by omega))]
  rw [e36]
  unfold f_X3_put_36
  rw [c2]
  constructor
  · intro h
    subst h
    rw [if_neg (by decide)]
  · intro h
    rw [if_pos (by rw [show (8 : Int32) = nI 8 from rfl, lt_nI (by omega) (by omega)]; exact h)]
    have e54 := put54 (x1 := x1) (x2 := x2) (pl := pl) c2 h (P - pl) P FU (by omega) (by omega) (by unfold FU; omega)
    rw [sF_P, sF_P, msf_id, msf_id] at e54
    rw [e54]
    generalize hM' : ms (msf (msf M (b + 4) (insF (M (b + 4)) pl x1 P)) (b + 5) (insF (M (b + 5)) pl x2 P)) (b + 3) 2 (nI (P + 1)) = M'
    have s4 : M' (b + 4) = insF (M (b + 4)) pl x1 P := by rw [← hM', ms_ne (by omega), msf_ne (by omega), msf_at]
    have s5 : M' (b + 5) = insF (M (b + 5)) pl x2 P := by rw [← hM', ms_ne (by omega), msf_at]
    have s3 : M' (b + 3) 2 = nI (P + 1) := by rw [← hM', ms_eq]
    have v := @ptS_v r P (P + 1) x1 x2
    have hPn' := @ptS_Pn r P (P + 1) x1 x2 (by omega)
    have hfr : ∀ q, q < P → ptS r P (P + 1) x1 x2 (18 + 2 * q) = r (18 + 2 * q) ∧ ptS r P (P + 1) x1 x2 (19 + 2 * q) = r (19 + 2 * q) := fun q hq => ⟨ptS_at (by omega) (by omega) (by omega), ptS_at (by omega) (by omega) (by omega)⟩
    refine ⟨M', rfl, Rep.pt8 hR (fun o i a1 a2 a3 a4 => ?_) (by rw [s3, v.1]) (fun k a b c => ptS_at b (by omega) (by omega)) ⟨by rw [hPn']; omega, ?_, fun q hq => ?_, fun i hi => ?_⟩, ?_, ⟨v.1, by omega⟩, fun q hq => ?_, fun q q' hq hq' e => ?_⟩
    · rw [← hM']
      by_cases z : o = 3
      · subst z
        rw [ms_ni (by omega), msf_ne (by omega), msf_ne (by omega)]
      · rw [ms_ne (by omega), msf_ne (by omega), msf_ne (by omega)]
    · rw [hPn', s4]
      intro j k hjk hk
      by_cases a : k < pl
      · rw [insF_lt a, insF_lt (by omega)]
        exact g1 j k hjk (by omega)
      · by_cases c : k = pl
        · subst c
          rw [insF_eq, insF_lt hjk]
          exact q2 j hjk
        · obtain ⟨k, rfl⟩ : ∃ k', k = k' + 1 := ⟨k - 1, by omega⟩
          rw [insF_gt (by omega) (by omega)]
          by_cases d : j < pl
          · rw [insF_lt d]
            exact g1 j k (by omega) (by omega)
          · by_cases f : j = pl
            · subst f
              rw [insF_eq]
              exact hhi k (by omega) (by omega)
            · obtain ⟨j, rfl⟩ : ∃ j', j = j' + 1 := ⟨j - 1, by omega⟩
              rw [insF_gt (by omega) (by omega)]
              exact g1 j k (by omega) (by omega)
    · rw [hPn'] at hq
      rw [hPn', s4, s5]
      by_cases z : q = P
      · subst z
        exact ⟨pl, by omega, by rw [insF_eq, v.2.1], by rw [insF_eq, v.2.2]⟩
      · obtain ⟨i, i1, i2, i3⟩ := g2 q (by omega)
        rw [(hfr q (by omega)).1, (hfr q (by omega)).2]
        by_cases y : i < pl
        · exact ⟨i, by omega, by rw [insF_lt y]; exact i2, by rw [insF_lt y]; exact i3⟩
        · exact ⟨i + 1, by omega, by rw [insF_gt (by omega) (by omega)]; exact i2, by rw [insF_gt (by omega) (by omega)]; exact i3⟩
    · rw [hPn'] at hi
      rw [hPn', s4, s5]
      by_cases z : i = pl
      · subst z
        exact ⟨P, by omega, by rw [insF_eq, v.2.1], by rw [insF_eq, v.2.2]⟩
      · by_cases y : i < pl
        · obtain ⟨q, a, c, d⟩ := g3 i (by omega)
          exact ⟨q, by omega, by rw [insF_lt y, (hfr q a).1]; exact c, by rw [insF_lt y, (hfr q a).2]; exact d⟩
        · obtain ⟨i, rfl⟩ : ∃ i', i = i' + 1 := ⟨i - 1, by omega⟩
          obtain ⟨q, a, c, d⟩ := g3 i (by omega)
          exact ⟨q, by omega, by rw [insF_gt (by omega) (by omega), (hfr q a).1]; exact c, by rw [insF_gt (by omega) (by omega), (hfr q a).2]; exact d⟩
    · rw [← hM']
      exact Fr.put (o := 3) (Fr.putf (o := 5) (Fr.putf (o := 4) Fr.rf (by omega)) (by omega)) (by omega)
    · by_cases z : q = P
      · subst z
        rw [v.2.1]; exact hx
      · rw [(hfr q (by omega)).1]
        exact wb q (by omega)
    · by_cases z : q = P
      · by_cases y : q' = P
        · omega
        · subst z
          rw [v.2.1, (hfr q' (by omega)).1] at e
          exact absurd e.symm (hn q' (by omega))
      · by_cases y : q' = P
        · subst y
          rw [v.2.1, (hfr q (by omega)).1] at e
          exact absurd e (hn q (by omega))
        · rw [(hfr q (by omega)).1, (hfr q' (by omega)).1] at e
          exact wd q q' (by omega) (by omega) e
