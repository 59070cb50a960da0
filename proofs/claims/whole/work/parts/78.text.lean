/-! PURE: append and clearText on both sides -/
theorem CI.txt {M M' : MM} {R : Nat → Int32} {kp n n' : Nat} {tx tx' fl : Nat → Int32} (h : CI M R kp n tx fl) (e : ∀ q, q < 655 → M' q = M q) (ht : CT M' n' tx') : CI M' R kp n' tx' fl := by
  obtain ⟨⟨a, b⟩, ⟨nt, c⟩, d, f⟩ := h
  exact ⟨⟨a.congr (fun o ho => e _ (by omega)), b⟩, ⟨nt, c.mono (fun q _ _ => e q (by omega)) (fun _ _ _ _ _ => rfl)⟩, d.mono (fun q _ _ => e q (by omega)) (e _ (by omega)) (fun _ _ _ _ _ => rfl), ht⟩
theorem append_pair (x : Int32) : Pair (f_X6_append 650 x) (f_X7_append 657 x) := by
  rintro M ⟨R, kp, n, tx, fl, hC, hM⟩
  obtain ⟨-, -, -, t1, t2, t3⟩ := id hC
  cases hx : wi x 32 126 with
  | false =>
    refine mkS (v := -2) ⟨R, kp, n, tx, fl, hC, hM⟩ ?_ ?_
    · unfold f_X6_append f_X5_add
      rw [isWithin_ok, Option.bind_some, hx, if_pos bz_f0, Option.bind_some]
    · unfold f_X7_append
      rw [in_ok, Option.bind_some, hx, if_pos bz_f0]
  | true =>
    have hb := wi_t hx
    have b1 : (32 : Int32).toInt = 32 := rfl
    have b2 : (126 : Int32).toInt = 126 := rfl
    by_cases h80 : n = 80
    · refine mkS (v := -4) ⟨R, kp, n, tx, fl, hC, hM⟩ ?_ ?_
      · unfold f_X6_append f_X5_add
        rw [isWithin_ok, Option.bind_some, hx, if_neg bz_t0, t1, if_neg (by rw [h80]; decide), Option.bind_some]
      · unfold f_X7_append
        rw [in_ok, Option.bind_some, hx, if_neg bz_t0, hM.2.2.1, if_pos (by rw [h80]; rfl)]
    · refine mkP (v := nI (n + 1)) (R' := R) (kp' := kp) (n' := n + 1) (tx' := upd tx n x) (fl' := fl) hM ?_ (fun M1 g => ?_)
      · unfold f_X6_append f_X5_add
        rw [isWithin_ok, Option.bind_some, hx, if_neg bz_t0, t1, if_pos (by rw [show (80 : Int32) = nI 80 from rfl, lt_nI (by omega) (by omega)]; omega), gd_of (inb_nI (by omega) (by omega)), ix_nI (by omega), ms_ne (show 655 ≠ 655 + 1 by omega), t1, nI_1, Option.bind_some, ms_eq]
        refine ⟨ms (ms M 656 n x) 655 1 (nI (n + 1)), rfl, hC.txt (fun q hq => by rw [ms_ne (by omega), ms_ne (by omega)]) ⟨ms_eq _ _ _ _, by omega, fun k hk => ?_⟩, fun q hq => by rw [ms_ne (by omega), ms_ne (by omega)]⟩
        rw [ms_ne (by omega)]
        by_cases q : k = n
        · subst q
          rw [ms_eq, upd_eq]
          exact ⟨rfl, by omega, by omega⟩
        · rw [ms_ni q, upd_ne q]
          exact t3 k (by omega)
      · obtain ⟨g1, g2, g3, g4, g5⟩ := g
        unfold f_X7_append
        rw [in_ok, Option.bind_some, hx, if_neg bz_t0, g3, if_neg (by rw [show (80 : Int32) = nI 80 from rfl, eq_nI (by omega) (by omega)]; exact h80), gd_of (inb_nI (by omega) (by omega)), ix_nI (by omega), ms_ne (show 657 ≠ 657 + 3 by omega), g3, nI_1, ms_eq]
        refine ⟨_, rfl, ⟨?_, ?_, ms_eq _ _ _ _, fun k hk => ?_, fun y hy => ?_⟩, fun q hq => by rw [ms_ne (by omega), ms_ne (by omega)]⟩
        · rw [ms_ne (by omega), ms_ne (by omega)]; exact g1
        · rw [ms_ni (by omega), ms_ne (by omega)]; exact g2
        · rw [ms_ne (by omega)]
          by_cases q : k = n
          · subst q
            rw [ms_eq, upd_eq]
          · rw [ms_ni q, upd_ne q]
            exact g4 k (by omega)
        · rw [ms_ne (by omega), ms_ne (by omega)]; exact g5 y hy
theorem clearText_pair : Pair (f_X6_clearText 650) (f_X7_clearText 657) := by
  rintro M ⟨R, kp, n, tx, fl, hC, hM⟩
  obtain ⟨-, -, -, t1, t2, t3⟩ := id hC
  refine mkP (v := nI n) (R' := R) (kp' := kp) (n' := 0) (tx' := tx) (fl' := fl) hM ⟨ms M 655 1 0, ?_, hC.txt (fun q hq => ms_ne (by omega)) ⟨ms_eq _ _ _ _, by omega, fun k hk => by omega⟩, fun q hq => ms_ne (by omega)⟩ (fun M1 g => ?_)
  · unfold f_X6_clearText
    rw [t1]
  · obtain ⟨g1, g2, g3, g4, g5⟩ := g
    unfold f_X7_clearText
    rw [g3]
    exact ⟨ms M1 657 4 0, rfl, ⟨(ms_ne (by omega)).trans g1, (congrFun (ms_at _ _ _ _) 1).trans ((upd_ne (by omega)).trans g2), ms_eq _ _ _ _, fun k hk => by omega, fun y hy => by rw [ms_ne (by omega)]; exact g5 y hy⟩, fun q hq => ms_ne (by omega)⟩
