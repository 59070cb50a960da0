/-! PURE, the class alone: by program out of the same part of whole -/
/-! PURE: the reference forgets a run; gains are forgotten, both sides -/
theorem msU {M : MM} {k : Nat} {v : Int32} : ms M 658 k v = msf M 658 (upd (M 658) k v) := rfl
def chZ (r : Nat → Int32) (j : Nat) : Nat → Int32 := fun k => if 34 ≤ k ∧ k < 34 + 29 * j ∧ 25 ≤ (k - 34) % 29 then 0 else r k
theorem chZ_step {r : Nat → Int32} {j : Nat} : upd (upd (upd (upd (chZ r j) (34 + 29 * j + 25) 0) (34 + 29 * j + 26) 0) (34 + 29 * j + 27) 0) (34 + 29 * j + 28) 0 = chZ r (j + 1) := by
  funext k
  by_cases q : 34 + 29 * j + 25 ≤ k ∧ k ≤ 34 + 29 * j + 28
  · have : chZ r (j + 1) k = 0 := by
      unfold chZ
      rw [if_pos (by omega)]
    rw [this]
    rcases (show k = 34 + 29 * j + 25 ∨ k = 34 + 29 * j + 26 ∨ k = 34 + 29 * j + 27 ∨ k = 34 + 29 * j + 28 by omega) with rfl | rfl | rfl | rfl
    · rw [upd_ne (by omega), upd_ne (by omega), upd_ne (by omega), upd_eq]
    · rw [upd_ne (by omega), upd_ne (by omega), upd_eq]
    · rw [upd_ne (by omega), upd_eq]
    · rw [upd_eq]
  · rw [upd_ne (by omega), upd_ne (by omega), upd_ne (by omega), upd_ne (by omega)]
    unfold chZ
    by_cases x : 34 ≤ k ∧ k < 34 + 29 * j ∧ 25 ≤ (k - 34) % 29
    · rw [if_pos x, if_pos (by omega)]
    · rw [if_neg x, if_neg (by omega)]
theorem frS_eq (r : Nat → Int32) : upd (upd (upd (upd (upd (chZ (fillR (fillR r 308 908 (-6)) 1608 1808 (-6)) 6) 6 0) 7 1) 8 0) 9 (-6)) 10 (-6) = frS r := by
  funext k
  unfold frS
  by_cases z : k = 6 ∨ k = 7 ∨ k = 8 ∨ k = 9 ∨ k = 10
  · rcases z with rfl | rfl | rfl | rfl | rfl
    · rw [if_neg (by omega), if_pos (by omega)]; rfl
    · rw [if_neg (by omega), if_neg (by omega), if_pos rfl]; rfl
    · rw [if_neg (by omega), if_pos (by omega)]; rfl
    · rw [if_pos (by omega)]; rfl
    · rw [if_pos (by omega)]; rfl
  · rw [upd_ne (by omega), upd_ne (by omega), upd_ne (by omega), upd_ne (by omega), upd_ne (by omega)]
    unfold chZ fillR
    by_cases y : (308 ≤ k ∧ k < 908) ∨ (1608 ≤ k ∧ k < 1808)
    · rw [if_neg (by omega), if_pos (show (308 ≤ k ∧ k < 908) ∨ (1608 ≤ k ∧ k < 1808) ∨ k = 9 ∨ k = 10 by omega)]
      by_cases x : 1608 ≤ k ∧ k < 1808
      · rw [if_pos x]
      · rw [if_neg x, if_pos (by omega)]
    · rw [if_neg (show ¬ ((308 ≤ k ∧ k < 908) ∨ (1608 ≤ k ∧ k < 1808) ∨ k = 9 ∨ k = 10) by omega)]
      by_cases x : 34 ≤ k ∧ k < 208 ∧ 25 ≤ (k - 34) % 29
      · rw [if_pos (by omega), if_pos (by omega)]
      · rw [if_neg (by omega), if_neg (by omega), if_neg (by omega), if_neg (show ¬ ((34 ≤ k ∧ k < 208 ∧ 25 ≤ (k - 34) % 29) ∨ k = 6 ∨ k = 8) by omega), if_neg (by omega)]
/-- what is averaged is forgotten -/
def gnS (r : Nat → Int32) : Nat → Int32 := fillR r 908 1608 (-6)
theorem gnC_step {r : Nat → Int32} {j : Nat} : updIf (gnC r j) (pG j) (-6) = gnC r (j + 1) := by
  funext k
  by_cases z : 908 ≤ k ∧ k < 1508 ∧ (k - 908) % 6 = j
  · rw [updIf_t (by unfold pG; rw [decide_eq_true z.1, decide_eq_true z.2.1, decide_eq_true z.2.2]; rfl)]
    unfold gnC
    rw [if_pos (by omega)]
  · rw [updIf_f (by
      unfold pG
      by_cases a : 908 ≤ k
      · by_cases b : k < 1508
        · rw [decide_eq_false (show ¬ (k - 908) % 6 = j from fun e => z ⟨a, b, e⟩), Bool.and_false]
        · rw [decide_eq_false b, Bool.and_false]; rfl
      · rw [decide_eq_false a]; rfl)]
    unfold gnC
    by_cases y : 908 ≤ k ∧ k < 1508 ∧ (k - 908) % 6 < j
    · rw [if_pos y, if_pos (by omega)]
    · rw [if_neg y, if_neg (by omega)]
theorem gainsC_loop {b C : Nat} {r : Nat → Int32} (hC : C ≤ 6) (h5 : r 5 = nI C) : ∀ (d j k : Nat) (M : MM), j + d = C → d < k → Rep M b (gnC r j) → ∃ M', f_X4_forgetGains_2 b k (nI j) M = some M' ∧ Rep M' b (updIf (gnC r C) (pR 1508) (-6)) ∧ Fr b M M' := by
  intro d
  induction d with
  | zero =>
    intro j k M hj hk hR
    obtain ⟨k, rfl⟩ : ∃ k', k = k' + 1 := ⟨k - 1, by omega⟩
    have : j = C := by omega
    subst this
    have m3 : M b 3 = nI j := hR.s.2.1.trans ((show gnC r j 5 = r 5 from by unfold gnC; rw [if_neg (by omega)]).trans h5)
    unfold f_X4_forgetGains_2
    rw [if_pos (by rw [m3]; exact Int32.le_refl _), fill_ok (by omega), Option.bind_some]
    exact ⟨_, rfl, Rep.fill (o := 8) (v := -6) hR (by omega) (by omega) pR8 (fun k hk => pR_lo hk (by omega)), Fr.putf Fr.rf (by omega)⟩
  | succ d ih =>
    intro j k M hj hk hR
    obtain ⟨k, rfl⟩ : ∃ k', k = k' + 1 := ⟨k - 1, by omega⟩
    have m3 : M b 3 = nI C := hR.s.2.1.trans ((show gnC r j 5 = r 5 from by unfold gnC; rw [if_neg (by omega)]).trans h5)
    unfold f_X4_forgetGains_2 f_X0_forgetGains
    rw [if_neg (by rw [m3, le_nI (by omega) (by omega)]; omega), gd_of (inb_nI (by omega) (by omega)), ix_nI (by omega), fill_ok (by omega), Option.bind_some, Option.bind_some, nI_1, show b + 6 + 5 + 9 * j + 8 = b + (19 + 9 * j) by omega]
    have R1 := Rep.fill (o := 19 + 9 * j) (v := -6) hR (by omega) (by omega) (pG_ok j (by omega)) (fun k hk => pG_lo hk)
    rw [gnC_step] at R1
    obtain ⟨M', e, q1, q2⟩ := ih (j + 1) k _ (by omega) (by omega) R1
    exact ⟨M', e, q1, (Fr.putf Fr.rf (by omega)).tr q2⟩
theorem gainsC {M : MM} {b C : Nat} {r : Nat → Int32} (hR : Rep M b r) (hc : WFc r C) : ∃ M', f_X4_forgetGains b M = some M' ∧ Rep M' b (gnS r) ∧ Fr b M M' := by
  have h6 := hc.1.2
  have e0 : gnC r 0 = r := by
    funext k
    unfold gnC
    rw [if_neg (by omega)]
  obtain ⟨M', e, q1, q2⟩ := gainsC_loop (b := b) h6 hc.1.1 C 0 FU M (by omega) (by unfold FU; omega) (by rw [e0]; exact hR)
  refine ⟨M', e, q1.row (fun k hk => ?_), q2⟩
  unfold gnS fillR
  by_cases y : 1508 ≤ k ∧ k < 1608
  · rw [updIf_t (pR_t y), if_pos (by omega)]
  · rw [updIf_f (pR_f (by omega))]
    unfold gnC
    by_cases x : 908 ≤ k ∧ k < 1508
    · rw [if_pos (show 908 ≤ k ∧ k < 1608 by omega)]
      by_cases v : (k - 908) % 6 < C
      · rw [if_pos (by omega)]
      · rw [if_neg (by omega)]
        have := ((hc.2.2 ((k - 908) % 6) (by omega) (by omega)).2 ((k - 908) / 6) (by omega)).2
        rw [show 908 + 6 * ((k - 908) / 6) + (k - 908) % 6 = k by omega] at this
        exact this.symm
    · rw [if_neg (by omega), if_neg (by omega)]
