/-! PURE: counting in the reference; both loops -/
theorem of2 {c : Nat} {M : MM} (hc : c < 6) : f_X7_ofChannel 657 (nI c) 2 M = some (M 658 (34 + 29 * c + 2)) := ofCh_ok (w := 2) hc (by omega)
theorem of25 {c : Nat} {M : MM} (hc : c < 6) : f_X7_ofChannel 657 (nI c) 25 M = some (M 658 (34 + 29 * c + 25)) := ofCh_ok (w := 25) hc (by omega)
theorem of26 {c : Nat} {M : MM} (hc : c < 6) : f_X7_ofChannel 657 (nI c) 26 M = some (M 658 (34 + 29 * c + 26)) := ofCh_ok (w := 26) hc (by omega)
theorem of27 {c : Nat} {M : MM} (hc : c < 6) : f_X7_ofChannel 657 (nI c) 27 M = some (M 658 (34 + 29 * c + 27)) := ofCh_ok (w := 27) hc (by omega)
theorem of28 {c : Nat} {M : MM} (hc : c < 6) : f_X7_ofChannel 657 (nI c) 28 M = some (M 658 (34 + 29 * c + 28)) := ofCh_ok (w := 28) hc (by omega)
theorem se25 {c : Nat} {v : Int32} {M : MM} (hc : c < 6) : f_X7_setChannel 657 (nI c) 25 v M = some (msf M 658 (upd (M 658) (34 + 29 * c + 25) v)) := setCh_ok (w := 25) hc (by omega)
theorem se26 {c : Nat} {v : Int32} {M : MM} (hc : c < 6) : f_X7_setChannel 657 (nI c) 26 v M = some (msf M 658 (upd (M 658) (34 + 29 * c + 26) v)) := setCh_ok (w := 26) hc (by omega)
theorem se27 {c : Nat} {v : Int32} {M : MM} (hc : c < 6) : f_X7_setChannel 657 (nI c) 27 v M = some (msf M 658 (upd (M 658) (34 + 29 * c + 27) v)) := setCh_ok (w := 27) hc (by omega)
theorem se28 {c : Nat} {v : Int32} {M : MM} (hc : c < 6) : f_X7_setChannel 657 (nI c) 28 v M = some (msf M 658 (upd (M 658) (34 + 29 * c + 28) v)) := setCh_ok (w := 28) hc (by omega)
theorem set2 {M : MM} : f_X7_setting 657 2 M = some (M 658 14) := setting_ok (k := 2) (by omega)
theorem greater_ok {x y : Int32} {M : MM} : f_X7_greater x y M = some (if x < y then y else x) := by
  unfold f_X7_greater f_X7_greater_10
  by_cases h : x < y
  · rw [if_pos h, if_pos (by rw [i_lt] at h; rw [i_le]; omega)]
  · rw [if_neg h]
    by_cases h2 : x ≤ y
    · rw [if_pos h2]
      congr 1
      rw [i_lt] at h; rw [i_le] at h2; rw [i_eq]; omega
    · rw [if_neg h2]
theorem watchM_step {M : MM} {c ln C k : Nat} {x2 lv : Int32} (h5 : M 658 5 = nI C) (hC : C ≤ 6) (hc : c < C) (hln : ln < 100) (hN : ∃ N, M 658 (34 + 29 * c + 12) = nI N ∧ N ≤ 4) (hl : M 658 (308 + 6 * ln + c) = lv) : ∃ M', f_X7_watches_12 657 (k + 1) (nI ln) x2 (nI c) M = f_X7_watches_12 657 k (nI ln) (if x2 = -6 ∧ ¬ wStep (M 658) c lv (limR (M 658) c (M 658 (208 + ln))) (34 + 29 * c + 28) < M 658 14 then nI c else x2) (nI (c + 1)) M' ∧ M' = msf M 658 (wStep (M 658) c lv (limR (M 658) c (M 658 (208 + ln)))) := by
  have h6 : c < 6 := by omega
  have ei : (308 : Int32) + 6 * nI ln + nI c = nI (308 + 6 * ln + c) := by
    rw [show (308 : Int32) + 6 * nI ln = nI (308 + 6 * ln) from lin 308 6 ln, nI_add]
  have ej : (208 : Int32) + nI ln = nI (208 + ln) := nI_add 208 ln
  refine ⟨_, ?_, rfl⟩
  rw [f_X7_watches_12.eq_2, show (5 : Int32) = nI 5 from rfl, gd_of (inb_nI (by omega) (by omega)), ix_nI (show 5 ≤ 1000000 by omega)]
  simp only [Nat.reduceAdd]
  rw [h5, if_neg (by rw [le_nI (by omega) (by omega)]; omega), ei, ej, gd_of (inb_nI (by omega) (by omega)), gd_of (inb_nI (by omega) (by omega)), ix_nI (by omega), ix_nI (by omega), limM_ok h6 hN, Option.bind_some, hl]
  -- the end of a step, for any row behind the first writes
  have tail : ∀ q2 : Nat → Int32, q2 (34 + 29 * c + 2) = M 658 (34 + 29 * c + 2) → q2 (34 + 29 * c + 28) = M 658 (34 + 29 * c + 28) → q2 14 = M 658 14 → f_X7_watches_153 657 (fun u0 u1 u2 uM => f_X7_watches_12 657 k u0 u1 u2 uM) (nI ln) x2 (nI c) lv (msf M 658 q2) = f_X7_watches_12 657 k (nI ln) (if x2 = -6 ∧ ¬ (if lv ≤ M 658 (34 + 29 * c + 2) then 0 else M 658 (34 + 29 * c + 28) + 1) < M 658 14 then nI c else x2) (nI (c + 1)) (msf M 658 (upd q2 (34 + 29 * c + 28) (if lv ≤ M 658 (34 + 29 * c + 2) then 0 else M 658 (34 + 29 * c + 28) + 1))) := by
    intro q2 e2 e28 e14
    unfold f_X7_watches_153 f_X7_watches_181 f_X7_watches_209 f_X7_watches_210
    simp only [of2 h6, of28 h6, se28 h6, set2, Option.bind_some, msf_at, msf_msf, e2, e28, upd_eq, nI_1, upd_ne (show 14 ≠ 34 + 29 * c + 28 by omega), e14]
    by_cases w : lv ≤ M 658 (34 + 29 * c + 2)
    · rw [if_pos w, if_pos w]
      by_cases v : x2 = -6
      · rw [if_pos v]
        by_cases u : (0 : Int32) < M 658 14
        · rw [if_pos u, if_neg (fun z => z.2 u)]
        · rw [if_neg u, if_pos ⟨v, u⟩]
      · rw [if_neg v, if_neg (fun z => v z.1)]
    · rw [if_neg w, if_neg w]
      by_cases v : x2 = -6
      · rw [if_pos v]
        by_cases u : M 658 (34 + 29 * c + 28) + 1 < M 658 14
        · rw [if_pos u, if_neg (fun z => z.2 u)]
        · rw [if_neg u, if_pos ⟨v, u⟩]
      · rw [if_neg v, if_neg (fun z => v z.1)]
  rw [wStep_28]
  generalize hlim : limR (M 658) c (M 658 (208 + ln)) = lim at *
  unfold f_X7_watches_74 f_X7_watches_75 f_X7_watches_99
  by_cases ov : lim = -6 ∨ lv ≤ lim
  · have ew : wStep (M 658) c lv lim = upd (upd (M 658) (34 + 29 * c + 25) 0) (34 + 29 * c + 28) (if lv ≤ M 658 (34 + 29 * c + 2) then 0 else M 658 (34 + 29 * c + 28) + 1) := by
      unfold wStep
      rw [if_pos ov]
    rw [ew, ← tail (upd (M 658) (34 + 29 * c + 25) 0) (upd_ne (by omega)) (upd_ne (by omega)) (upd_ne (by omega))]
    simp only [bz_f0, if_true, se25 h6, Option.bind_some]
    by_cases q1 : lim = -6
    · rw [if_pos q1]
    · rw [if_neg q1, if_pos (ov.resolve_left q1)]
  · have q1 : ¬ lim = -6 := fun z => ov (Or.inl z)
    have q2 : ¬ lv ≤ lim := fun z => ov (Or.inr z)
    have ew : wStep (M 658) c lv lim = upd (upd (upd (upd (M 658) (34 + 29 * c + 25) (M 658 (34 + 29 * c + 25) + 1)) (34 + 29 * c + 26) (if M 658 (34 + 29 * c + 26) < M 658 (34 + 29 * c + 25) + 1 then M 658 (34 + 29 * c + 25) + 1 else M 658 (34 + 29 * c + 26))) (34 + 29 * c + 27) (if M 658 (34 + 29 * c + 27) < lv - lim then lv - lim else M 658 (34 + 29 * c + 27))) (34 + 29 * c + 28) (if lv ≤ M 658 (34 + 29 * c + 2) then 0 else M 658 (34 + 29 * c + 28) + 1) := by
      unfold wStep
      rw [if_neg ov]
    rw [ew, ← tail _ (by rw [upd_ne (by omega), upd_ne (by omega), upd_ne (by omega)]) (by rw [upd_ne (by omega), upd_ne (by omega), upd_ne (by omega)]) (by rw [upd_ne (by omega), upd_ne (by omega), upd_ne (by omega)]), if_neg q1, if_neg q2, if_neg bz_t0, of25 h6, Option.bind_some, se25 h6, Option.bind_some, if_neg bz_t0]
    simp only [of25 h6, of26 h6, of27 h6, se26 h6, se27 h6, greater_ok, Option.bind_some, msf_at, msf_msf, upd_eq, upd_ne (show 34 + 29 * c + 26 ≠ 34 + 29 * c + 25 by omega), upd_ne (show 34 + 29 * c + 27 ≠ 34 + 29 * c + 25 by omega), upd_ne (show 34 + 29 * c + 27 ≠ 34 + 29 * c + 26 by omega)]
