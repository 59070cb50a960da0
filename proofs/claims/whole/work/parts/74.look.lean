/-! PURE: what only looks, both sides -/
def Look (fc fm : MM → Option Int32) : Prop := ∀ M, INV M → ∃ v, fc M = some v ∧ fm M = some v
theorem lookC {M : MM} {R : Nat → Int32} {L o : Nat} {x : Int32} {g : Nat → Int32} (hR : Rep M 0 R) (h0 : R 0 = nI L ∧ L ≤ 100) (hg : ∀ i, i < 100 → M o i = g i) : (wi x 0 (nI L - 1) = false → f_X6_lookAtLine 650 o 100 x M = some (-1)) ∧ ∀ j, j < L → x = nI j → f_X6_lookAtLine 650 o 100 x M = some (g j) := by
  unfold f_X6_lookAtLine f_X6_lookAtLine_18
  rw [hasLine_ok hR, Option.bind_some, h0.1]
  constructor
  · intro h
    rw [h, if_pos bz_f0]
  · rintro j hj rfl
    rw [(wi_ix (by omega)).mpr ⟨j, hj, rfl⟩, if_neg bz_t0, gd_of (inb_nI (by omega) (by omega)), ix_nI (by omega), hg j (by omega)]
theorem lineM {M : MM} {L : Nat} {x : Int32} (h0 : M 658 0 = nI L) : f_X7_isLine 657 x M = some (wi x 0 (nI L - 1)) := by rw [isLine_ok, h0]
theorem frequency_look (x : Int32) : Look (f_X6_frequency 650 x) (f_X7_frequency 657 x) := by
  rintro M ⟨R, kp, n, tx, fl, hC, hM⟩
  obtain ⟨⟨a, C, L, P, s, ln, nn, hw⟩, -⟩ := hC
  have h0 := hw.2.1.1
  have hl := lookC (x := x) a h0 (o := 0 + 1 + 1) (g := fun i => R (208 + i)) (fun i hi => (a.r hi).1)
  unfold f_X6_frequency f_X7_frequency f_X7_frequency_22
  rw [lineM (by rw [hM.1]; exact h0.1), Option.bind_some]
  cases hx : wi x 0 (nI L - 1) with
  | false => exact ⟨-1, by rw [hl.1 hx, Option.bind_some], by rw [if_pos bz_f0]⟩
  | true =>
    obtain ⟨j, hj, rfl⟩ := (wi_ix (by omega)).mp hx
    refine ⟨R (208 + j), by rw [hl.2 j hj rfl, Option.bind_some], ?_⟩
    rw [if_neg bz_t0, show (208 : Int32) = nI 208 from rfl, nI_add, gd_of (inb_nI (by omega) (by omega)), ix_nI (by omega), show M (657 + 1) = R from hM.1]
theorem controlGain_look (x : Int32) : Look (f_X6_controlGain 650 x) (f_X7_controlGain 657 x) := by
  rintro M ⟨R, kp, n, tx, fl, hC, hM⟩
  obtain ⟨⟨a, C, L, P, s, ln, nn, hw⟩, -⟩ := hC
  have h0 := hw.2.1.1
  have hl := lookC (x := x) a h0 (o := 0 + 8) (g := fun i => R (1508 + i)) (fun i hi => (a.r hi).2.1)
  unfold f_X6_controlGain f_X7_controlGain f_X7_controlGain_22
  rw [lineM (by rw [hM.1]; exact h0.1), Option.bind_some]
  cases hx : wi x 0 (nI L - 1) with
  | false => exact ⟨-1, by rw [hl.1 hx, Option.bind_some], by rw [if_pos bz_f0]⟩
  | true =>
    obtain ⟨j, hj, rfl⟩ := (wi_ix (by omega)).mp hx
    refine ⟨R (1508 + j), by rw [hl.2 j hj rfl, Option.bind_some], ?_⟩
    rw [if_neg bz_t0, show (1508 : Int32) = nI 1508 from rfl, nI_add, gd_of (inb_nI (by omega) (by omega)), ix_nI (by omega), show M (657 + 1) = R from hM.1]
theorem driveAt_look (x : Int32) : Look (f_X6_driveAt 650 x) (f_X7_driveAt 657 x) := by
  rintro M ⟨R, kp, n, tx, fl, hC, hM⟩
  obtain ⟨⟨a, C, L, P, s, ln, nn, hw⟩, -⟩ := hC
  have h0 := hw.2.1.1
  have hl := lookC (x := x) a h0 (o := 0 + 9) (g := fun i => R (1608 + i)) (fun i hi => (a.r hi).2.2.1)
  unfold f_X6_driveAt f_X7_driveAt f_X7_driveAt_22
  rw [lineM (by rw [hM.1]; exact h0.1), Option.bind_some]
  cases hx : wi x 0 (nI L - 1) with
  | false => exact ⟨-1, by rw [hl.1 hx, Option.bind_some], by rw [if_pos bz_f0]⟩
  | true =>
    obtain ⟨j, hj, rfl⟩ := (wi_ix (by omega)).mp hx
    refine ⟨R (1608 + j), by rw [hl.2 j hj rfl, Option.bind_some], ?_⟩
    rw [if_neg bz_t0, show (1608 : Int32) = nI 1608 from rfl, nI_add, gd_of (inb_nI (by omega) (by omega)), ix_nI (by omega), show M (657 + 1) = R from hM.1]
theorem notchedBy_look (x : Int32) : Look (f_X6_notchedBy 650 x) (f_X7_notchedBy 657 x) := by
  rintro M ⟨R, kp, n, tx, fl, hC, hM⟩
  obtain ⟨⟨a, C, L, P, s, ln, nn, hw⟩, -⟩ := hC
  have h0 := hw.2.1.1
  have hl := lookC (x := x) a h0 (o := 0 + 10) (g := fun i => R (1708 + i)) (fun i hi => (a.r hi).2.2.2)
  unfold f_X6_notchedBy f_X7_notchedBy f_X7_notchedBy_22
  rw [lineM (by rw [hM.1]; exact h0.1), Option.bind_some]
  cases hx : wi x 0 (nI L - 1) with
  | false => exact ⟨-1, by rw [hl.1 hx, Option.bind_some], by rw [if_pos bz_f0]⟩
  | true =>
    obtain ⟨j, hj, rfl⟩ := (wi_ix (by omega)).mp hx
    refine ⟨R (1708 + j), by rw [hl.2 j hj rfl, Option.bind_some], ?_⟩
    rw [if_neg bz_t0, show (1708 : Int32) = nI 1708 from rfl, nI_add, gd_of (inb_nI (by omega) (by omega)), ix_nI (by omega), show M (657 + 1) = R from hM.1]
theorem lin26 (a c j : Nat) : (nI a + 6 * nI j) + nI c = nI (a + 6 * j + c) := by
  rw [show (6 : Int32) = nI 6 from rfl, lin, nI_add]
theorem level_look (x y : Int32) : Look (f_X6_level 650 x y) (f_X7_level 657 x y) := by
  rintro M ⟨R, kp, n, tx, fl, hC, hM⟩
  obtain ⟨⟨a, C, L, P, s, ln, nn, hw⟩, -⟩ := hC
  have h0 := hw.2.1.1
  have h5 := hw.1.1
  have hCn : Cn R = C := by unfold Cn; rw [h5.1, ix_nI (by omega)]
  unfold f_X6_level f_X7_level f_X7_level_34 f_X7_level_35
  rw [hasChC a h5.1, Option.bind_some, lineM (by rw [hM.1]; exact h0.1), Option.bind_some, isChM (by rw [hM.1]; exact h5.1), Option.bind_some]
  cases hy : wi y 0 (nI C - 1) with
  | false =>
    rw [if_pos bz_f0]
    refine ⟨-1, rfl, ?_⟩
    cases wi x 0 (nI L - 1) with
    | false => rw [if_pos bz_f0]
    | true => rw [if_neg bz_t0, if_pos bz_f0]
  | true =>
    obtain ⟨c, hc, rfl⟩ := (wi_ix (by omega)).mp hy
    rw [if_neg bz_t0, gd_of (inb_nI (by omega) (by omega)), ix_nI (by omega)]
    have hl := lookC (x := x) a h0 (o := 0 + 6 + 5 + 9 * c + 7) (g := fun i => R (308 + 6 * i + c)) (fun i hi => by
      rw [show 0 + 6 + 5 + 9 * c + 7 = 0 + (18 + 9 * c) by omega]
      exact (a.cl (by omega) (by omega) hi).1)
    cases hx : wi x 0 (nI L - 1) with
    | false => exact ⟨-1, by rw [hl.1 hx, Option.bind_some], by rw [if_pos bz_f0]⟩
    | true =>
      obtain ⟨j, hj, rfl⟩ := (wi_ix (by omega)).mp hx
      refine ⟨R (308 + 6 * j + c), by rw [hl.2 j hj rfl, Option.bind_some], ?_⟩
      rw [if_neg bz_t0, if_neg bz_t0, show (308 : Int32) = nI 308 from rfl, lin26, gd_of (inb_nI (by omega) (by omega)), ix_nI (by omega), show M (657 + 1) = R from hM.1]
theorem averaged_look (x y : Int32) : Look (f_X6_averaged 650 x y) (f_X7_averaged 657 x y) := by
  rintro M ⟨R, kp, n, tx, fl, hC, hM⟩
  obtain ⟨⟨a, C, L, P, s, ln, nn, hw⟩, -⟩ := hC
  have h0 := hw.2.1.1
  have h5 := hw.1.1
  have hCn : Cn R = C := by unfold Cn; rw [h5.1, ix_nI (by omega)]
  unfold f_X6_averaged f_X7_averaged f_X7_averaged_34 f_X7_averaged_35
  rw [hasChC a h5.1, Option.bind_some, lineM (by rw [hM.1]; exact h0.1), Option.bind_some, isChM (by rw [hM.1]; exact h5.1), Option.bind_some]
  cases hy : wi y 0 (nI C - 1) with
  | false =>
    rw [if_pos bz_f0]
    refine ⟨-1, rfl, ?_⟩
    cases wi x 0 (nI L - 1) with
    | false => rw [if_pos bz_f0]
    | true => rw [if_neg bz_t0, if_pos bz_f0]
  | true =>
    obtain ⟨c, hc, rfl⟩ := (wi_ix (by omega)).mp hy
    rw [if_neg bz_t0, gd_of (inb_nI (by omega) (by omega)), ix_nI (by omega)]
    have hl := lookC (x := x) a h0 (o := 0 + 6 + 5 + 9 * c + 8) (g := fun i => R (908 + 6 * i + c)) (fun i hi => by
      rw [show 0 + 6 + 5 + 9 * c + 8 = 0 + (19 + 9 * c) by omega]
      exact (a.cl (by omega) (by omega) hi).2)
    cases hx : wi x 0 (nI L - 1) with
    | false => exact ⟨-1, by rw [hl.1 hx, Option.bind_some], by rw [if_pos bz_f0]⟩
    | true =>
      obtain ⟨j, hj, rfl⟩ := (wi_ix (by omega)).mp hx
      refine ⟨R (908 + 6 * j + c), by rw [hl.2 j hj rfl, Option.bind_some], ?_⟩
      rw [if_neg bz_t0, if_neg bz_t0, show (908 : Int32) = nI 908 from rfl, lin26, gd_of (inb_nI (by omega) (by omega)), ix_nI (by omega), show M (657 + 1) = R from hM.1]
theorem smF2 {f : Int32} (h : wi f 1 2000 = true) : Sm f 2000 := by
  have b := wi_t h
  have t1 : (1 : Int32).toInt = 1 := rfl
  exact ⟨by omega, b.2⟩
theorem gain_look (x f : Int32) : Look (f_X6_gain 650 x f) (f_X7_gain 657 x f) := by
  rintro M ⟨R, kp, n, tx, fl, hC, hM⟩
  obtain ⟨⟨a, C, L, P, s, ln, nn, hw⟩, -⟩ := hC
  have h5 := hw.1.1
  have hCn : Cn R = C := by unfold Cn; rw [h5.1, ix_nI (by omega)]
  unfold f_X6_gain f_X7_gain f_X7_gain_32
  rw [hasChC a h5.1, Option.bind_some, isChM (by rw [hM.1]; exact h5.1), Option.bind_some, isFrequency_ok, Option.bind_some, in_ok, Option.bind_some]
  cases hy : wi x 0 (nI C - 1) with
  | false => exact ⟨-1, by rw [if_pos bz_f0], by rw [if_pos bz_f0]⟩
  | true =>
    obtain ⟨c, hc, rfl⟩ := (wi_ix (by omega)).mp hy
    rw [if_neg bz_t0, if_neg bz_t0]
    cases hf : wi f 1 2000 with
    | false => exact ⟨-2, by rw [if_pos bz_f0], by rw [if_pos bz_f0]⟩
    | true =>
      have ok := (hw.1.2.1 c hc).2.1
      refine ⟨gainR R c f, ?_, ?_⟩
      · rw [if_neg bz_t0, gd_of (inb_nI (by omega) (by omega)), ix_nI (by omega), show 0 + 6 + 5 + 9 * c = 0 + (11 + 9 * c) by omega, gainC_ok a (by omega) (by omega) ok (smF2 hf), Option.bind_some]
      · rw [if_neg bz_t0, gainM_ok (by omega) (by rw [hM.1]; exact ok) (smF2 hf), Option.bind_some, hM.1]
theorem limit_look (x f : Int32) : Look (f_X6_limit 650 x f) (f_X7_limit 657 x f) := by
  rintro M ⟨R, kp, n, tx, fl, hC, hM⟩
  obtain ⟨⟨a, C, L, P, s, ln, nn, hw⟩, -⟩ := hC
  have h5 := hw.1.1
  have hCn : Cn R = C := by unfold Cn; rw [h5.1, ix_nI (by omega)]
  unfold f_X6_limit f_X7_limit f_X7_limit_32
  rw [hasChC a h5.1, Option.bind_some, isChM (by rw [hM.1]; exact h5.1), Option.bind_some, isFrequency_ok, Option.bind_some, in_ok, Option.bind_some]
  cases hy : wi x 0 (nI C - 1) with
  | false => exact ⟨-1, by rw [if_pos bz_f0], by rw [if_pos bz_f0]⟩
  | true =>
    obtain ⟨c, hc, rfl⟩ := (wi_ix (by omega)).mp hy
    rw [if_neg bz_t0, if_neg bz_t0]
    cases hf : wi f 1 2000 with
    | false => exact ⟨-2, by rw [if_pos bz_f0], by rw [if_pos bz_f0]⟩
    | true =>
      obtain ⟨N, k1, k2, -⟩ := (hw.1.2.1 c hc).2.2.1
      refine ⟨limR R c f, ?_, ?_⟩
      · rw [if_neg bz_t0, gd_of (inb_nI (by omega) (by omega)), ix_nI (by omega), show 0 + 6 + 5 + 9 * c = 0 + (11 + 9 * c) by omega, limC_ok a (by omega) (by omega) ⟨N, k1, k2⟩, Option.bind_some]
      · rw [if_neg bz_t0, limM_ok (by omega) (by rw [hM.1]; exact ⟨N, k1, k2⟩), Option.bind_some, hM.1]
