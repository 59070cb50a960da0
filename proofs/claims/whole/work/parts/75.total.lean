/-! PURE: target, channel and total on both sides -/
theorem target_look (f : Int32) : Look (f_X6_target 650 f) (f_X7_target 657 f) := by
  rintro M ⟨R, kp, n, tx, fl, hC, hM⟩
  obtain ⟨⟨a, C, L, P, s, ln, nn, hw⟩, -⟩ := hC
  have h4 := hw.2.2.1.1
  unfold f_X6_target f_X7_target f_X7_target_33
  rw [isFrequency_ok, Option.bind_some, in_ok, Option.bind_some]
  cases hf : wi f 1 2000 with
  | false => exact ⟨-2, by rw [if_pos bz_f0], by rw [if_pos bz_f0]⟩
  | true =>
    rw [if_neg bz_t0, if_neg bz_t0, gd_of (show inb 4 16272 = true by decide), show ix 4 = 4 from rfl, show M (657 + 1) 4 = nI P by rw [show M (657 + 1) = R from hM.1]; exact h4.1]
    by_cases hP : P = 0
    · refine ⟨-6, ?_, by rw [if_pos (by rw [hP]; rfl)]⟩
      unfold f_X3_targetAt
      rw [if_pos (by rw [show M (0 + 3) 2 = R 4 from a.s.2.2.2.2.2.2.2.2.2.2.2, h4.1, hP]; rfl), Option.bind_some]
    · have H := WF.pt hw.2.2.1 (by omega)
      refine ⟨tgtV R f, ?_, ?_⟩
      · rw [tgtC_val a H (smF2 hf), Option.bind_some]
      · rw [if_neg (by rw [show (0 : Int32) = nI 0 from rfl, eq_nI (by omega) (by omega)]; exact hP), tgtM_val (by rw [hM.1]; exact H) (smF2 hf), Option.bind_some, hM.1]
theorem bzc {M : MM} {a : Nat} {v : Int32} (h : M a 0 = v) (hv : v = 0 ∨ v = 1) : f_X0_propertyOf a 0 M = some v := by
  unfold f_X0_propertyOf f_X0_propertyOf_56
  rw [if_pos rfl, h]
  rcases hv with rfl | rfl
  · rw [if_pos (by decide)]; rfl
  · rw [if_neg (by decide)]; rfl
theorem channel_look (x y : Int32) : Look (f_X6_channel 650 x y) (f_X7_channel 657 x y) := by
  rintro M ⟨R, kp, n, tx, fl, hC, hM⟩
  obtain ⟨⟨a, C, L, P, s, ln, nn, hw⟩, -⟩ := hC
  have h5 := hw.1.1
  have hCn : Cn R = C := by unfold Cn; rw [h5.1, ix_nI (by omega)]
  unfold f_X6_channel f_X7_channel f_X7_channel_63
  rw [hasChC a h5.1, Option.bind_some, isChM (by rw [hM.1]; exact h5.1), Option.bind_some, isWithin_ok, Option.bind_some, in_ok, Option.bind_some]
  cases hx : wi x 0 (nI C - 1) with
  | false => exact ⟨-1, by rw [if_pos bz_f0], by rw [if_pos bz_f0]⟩
  | true =>
    obtain ⟨c, hc, rfl⟩ := (wi_ix (by omega)).mp hx
    rw [if_neg bz_t0, if_neg bz_t0]
    cases hy : wi y 0 7 with
    | false => exact ⟨-2, by rw [if_pos bz_f0], by rw [if_pos bz_f0]⟩
    | true =>
      obtain ⟨w, rfl, -, hw7⟩ := wi_nI (a := 0) (b := 7) (by omega) (by omega) hy
      rw [if_neg bz_t0, if_neg bz_t0, gd_of (inb_nI (by omega) (by omega)), ix_nI (by omega), show 0 + 6 + 5 + 9 * c = 0 + (11 + 9 * c) by omega]
      obtain ⟨c0, c1, c2, c9, c14, c15, c16, c17⟩ := a.c (c := c) (by omega) (by omega)
      have oc : ∀ w, w < 29 → f_X7_ofChannel 657 (nI c) (nI w) M = some (R (34 + 29 * c + w)) := fun w hw => by rw [ofCh_ok (by omega) hw, hM.1]
      rcases (show w = 0 ∨ w = 1 ∨ w = 2 ∨ w = 3 ∨ w = 4 ∨ w = 5 ∨ w = 6 ∨ w = 7 by omega) with rfl | rfl | rfl | rfl | rfl | rfl | rfl | rfl
      · refine ⟨R (34 + 29 * c), ?_, ?_⟩
        · rw [show nI 0 = 0 from rfl, bzc c0 (hw.1.2.1 c hc).1, Option.bind_some]
        · rw [if_neg (by decide), oc 0 (by omega), Option.bind_some]; rfl
      · refine ⟨R (34 + 29 * c + 1), ?_, ?_⟩
        · rw [show f_X0_propertyOf (0 + (11 + 9 * c)) (nI 1) M = some (M (0 + (11 + 9 * c)) 1) from rfl, c1, Option.bind_some]
        · rw [if_neg (by decide), oc 1 (by omega), Option.bind_some]
      · refine ⟨R (34 + 29 * c + 2), ?_, ?_⟩
        · rw [show f_X0_propertyOf (0 + (11 + 9 * c)) (nI 2) M = some (M (0 + (11 + 9 * c)) 2) from rfl, c2, Option.bind_some]
        · rw [if_neg (by decide), oc 2 (by omega), Option.bind_some]
      · refine ⟨R (34 + 29 * c + 12), ?_, ?_⟩
        · rw [show f_X0_propertyOf (0 + (11 + 9 * c)) (nI 3) M = some (M (0 + (11 + 9 * c)) 9) from rfl, c9, Option.bind_some]
        · rw [if_pos (by decide), if_pos (by decide), show (12 : Int32) = nI 12 from rfl, oc 12 (by omega), Option.bind_some]
      · refine ⟨R (34 + 29 * c + 25), ?_, ?_⟩
        · rw [show f_X0_propertyOf (0 + (11 + 9 * c)) (nI 4) M = some (M (0 + (11 + 9 * c)) 14) from rfl, c14, Option.bind_some]
        · rw [if_pos (by decide), if_neg (by decide), show (25 : Int32) + nI 4 - 4 = nI 25 from rfl, oc 25 (by omega), Option.bind_some]
      · refine ⟨R (34 + 29 * c + 26), ?_, ?_⟩
        · rw [show f_X0_propertyOf (0 + (11 + 9 * c)) (nI 5) M = some (M (0 + (11 + 9 * c)) 15) from rfl, c15, Option.bind_some]
        · rw [if_pos (by decide), if_neg (by decide), show (25 : Int32) + nI 5 - 4 = nI 26 from rfl, oc 26 (by omega), Option.bind_some]
      · refine ⟨R (34 + 29 * c + 27), ?_, ?_⟩
        · rw [show f_X0_propertyOf (0 + (11 + 9 * c)) (nI 6) M = some (M (0 + (11 + 9 * c)) 16) from rfl, c16, Option.bind_some]
        · rw [if_pos (by decide), if_neg (by decide), show (25 : Int32) + nI 6 - 4 = nI 27 from rfl, oc 27 (by omega), Option.bind_some]
      · refine ⟨R (34 + 29 * c + 28), ?_, ?_⟩
        · rw [show f_X0_propertyOf (0 + (11 + 9 * c)) (nI 7) M = some (M (0 + (11 + 9 * c)) 17) from rfl, c17, Option.bind_some]
        · rw [if_pos (by decide), if_neg (by decide), show (25 : Int32) + nI 7 - 4 = nI 28 from rfl, oc 28 (by omega), Option.bind_some]
theorem total_look (x : Int32) : Look (f_X6_total 650 x) (f_X7_total 657 x) := by
  rintro M ⟨R, kp, n, tx, fl, hC, hM⟩
  obtain ⟨⟨a, C, L, P, s, ln, nn, hw⟩, ⟨nt, hh⟩, -, ht⟩ := hC
  have h1 := hw.2.2.2.2.2.1
  have h7 := hw.2.2.2.2.2.2.2.1
  obtain ⟨t1, t2, t3, t4, t5, t6, t7, t8, t9, t10, t11, t12⟩ := a.s
  have e := hM.1
  unfold f_X6_total f_X7_total f_X7_total_111 f_X7_total_136 f_X7_total_159
  rw [isWithin_ok, Option.bind_some, in_ok, Option.bind_some]
  cases hx : wi x 0 19 with
  | false => exact ⟨-2, by rw [if_pos bz_f0], by rw [if_pos bz_f0]⟩
  | true =>
    obtain ⟨w, rfl, -, h19⟩ := wi_nI (a := 0) (b := 19) (by omega) (by omega) hx
    rw [if_neg bz_t0, if_neg bz_t0]
    by_cases hb : w < 14
    · rw [if_pos (by rw [show (14 : Int32) = nI 14 from rfl, lt_nI (by omega) (by omega)]; exact hb)]
      rcases (show w = 0 ∨ w = 1 ∨ w = 2 ∨ w = 3 ∨ w = 4 ∨ w = 5 ∨ w = 6 ∨ w = 7 ∨ w = 8 ∨ w = 9 ∨ w = 10 ∨ w = 11 ∨ w = 12 ∨ w = 13 by omega) with rfl | rfl | rfl | rfl | rfl | rfl | rfl | rfl | rfl | rfl | rfl | rfl | rfl | rfl
      · exact ⟨R 1, congrArg some t3, by show some (M 658 1) = _; rw [e]⟩
      · by_cases z : R 1 = 0
        · refine ⟨-6, ?_, ?_⟩
          · show (Option.bind (if M 0 8 = 0 then some (-6) else some (M 0 9)) fun v6 => some v6) = _
            rw [if_pos (t3.trans z), Option.bind_some]
          · show (if M 658 1 = 0 then some (-6) else some (M 658 2)) = _
            rw [e, if_pos z]
        · refine ⟨R 2, ?_, ?_⟩
          · show (Option.bind (if M 0 8 = 0 then some (-6) else some (M 0 9)) fun v6 => some v6) = _
            rw [if_neg (fun q => z (t3.symm.trans q)), Option.bind_some]
            exact congrArg some t4
          · show (if M 658 1 = 0 then some (-6) else some (M 658 2)) = _
            rw [e, if_neg z]
      · exact ⟨R 3, congrArg some t5, by show some (M 658 3) = _; rw [e]⟩
      · exact ⟨R 0, congrArg some t1, by show some (M 658 0) = _; rw [e]⟩
      · exact ⟨R 4, congrArg some t12, by show some (M 658 4) = _; rw [e]⟩
      · exact ⟨R 5, congrArg some t2, by show some (M 658 5) = _; rw [e]⟩
      · exact ⟨R 6, congrArg some t7, by show some (M 658 6) = _; rw [e]⟩
      · refine ⟨R 7, ?_, by show some (M 658 7) = _; rw [e]⟩
        show (Option.bind (if bz (nz (M 0 11)) = 0 then some (bz false) else some (bz true)) fun v6 => some v6) = _
        rw [show M 0 11 = R 7 from t6]
        rcases h7 with q | q <;> rw [q] <;> rfl
      · exact ⟨R 8, congrArg some t8, by show some (M 658 8) = _; rw [e]⟩
      · exact ⟨R 9, congrArg some t9, by show some (M 658 9) = _; rw [e]⟩
      · exact ⟨R 10, congrArg some t10, by show some (M 658 10) = _; rw [e]⟩
      · exact ⟨R 11, congrArg some t11, by show some (M 658 11) = _; rw [e]⟩
      · exact ⟨nI kp, congrArg some hh.2.2.1, congrArg some hM.2.1⟩
      · exact ⟨nI n, congrArg some ht.1, congrArg some hM.2.2.1⟩
    · rw [if_neg (by rw [show (14 : Int32) = nI 14 from rfl, lt_nI (by omega) (by omega)]; exact hb)]
      obtain ⟨j, rfl⟩ : ∃ j, w = 14 + j := ⟨w - 14, by omega⟩
      have ej : nI (14 + j) - 14 = nI j := by
        rw [show (14 : Int32) = nI 14 from rfl, sub_nI (by omega)]
        congr 1; omega
      have ne : ∀ (x : Int32) (k : Nat), k < 14 → x = nI k → ¬ nI (14 + j) = x := fun x k hk hx => by rw [hx, eq_nI (by omega) (by omega)]; omega
      refine ⟨R (12 + j), ?_, ?_⟩
      · rw [ej, gd_of (inb_nI (by omega) (by omega)), ix_nI (by omega), a.g (i := j) (by omega)]
      · rw [ej, if_neg (ne 0 0 (by omega) rfl), if_neg (ne 1 1 (by omega) rfl), if_neg (ne 2 2 (by omega) rfl), if_neg (ne 3 3 (by omega) rfl), if_neg (ne 4 4 (by omega) rfl), if_neg (ne 5 5 (by omega) rfl), if_neg (ne 6 6 (by omega) rfl), if_neg (ne 7 7 (by omega) rfl), if_neg (ne 8 8 (by omega) rfl), if_neg (ne 9 9 (by omega) rfl), if_neg (ne 10 10 (by omega) rfl), if_neg (ne 11 11 (by omega) rfl), if_neg (ne 12 12 (by omega) rfl), if_neg (ne 13 13 (by omega) rfl), if_neg (by rw [show (13 : Int32) = nI 13 from rfl, le_nI (by omega) (by omega)]; omega), setting_ok (by omega), Option.bind_some, e]
