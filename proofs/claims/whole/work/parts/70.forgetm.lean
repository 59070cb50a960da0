/-! PURE: the reference forgets a run; gains are forgotten, both sides -/
theorem msU {M : MM} {k : Nat} {v : Int32} : ms M 658 k v = msf M 658 (upd (M 658) k v) := rfl
theorem fgM4 {r : Nat → Int32} : ∀ (d j k : Nat) (M : MM), j + d = 908 → d < k → 308 ≤ j → f_X7_forgets_4 657 k (nI j) (msf M 658 (fillR r 308 j (-6))) = f_X7_forgets_29 657 FU 1608 (msf M 658 (fillR r 308 908 (-6))) := by
  intro d
  induction d with
  | zero =>
    intro j k M hj hk h3
    obtain ⟨k, rfl⟩ : ∃ k', k = k' + 1 := ⟨k - 1, by omega⟩
    have : j = 908 := by omega
    subst this
    unfold f_X7_forgets_4
    rw [if_pos (show (908 : Int32) ≤ nI 908 by decide)]
  | succ d ih =>
    intro j k M hj hk h3
    obtain ⟨k, rfl⟩ : ∃ k', k = k' + 1 := ⟨k - 1, by omega⟩
    unfold f_X7_forgets_4
    rw [if_neg (by rw [show (908 : Int32) = nI 908 from rfl, le_nI (by omega) (by omega)]; omega), gd_of (inb_nI (by omega) (by omega)), ix_nI (by omega), nI_1, show (657 + 1 : Nat) = 658 from rfl, ms_msf, fillR_succ _ h3]
    exact ih (j + 1) k M (by omega) (by omega) (by omega)
theorem fgM29 {r : Nat → Int32} : ∀ (d j k : Nat) (M : MM), j + d = 1808 → d < k → 1608 ≤ j → f_X7_forgets_29 657 k (nI j) (msf M 658 (fillR r 1608 j (-6))) = f_X7_forgets_52 657 FU 0 (msf M 658 (fillR r 1608 1808 (-6))) := by
  intro d
  induction d with
  | zero =>
    intro j k M hj hk h3
    obtain ⟨k, rfl⟩ : ∃ k', k = k' + 1 := ⟨k - 1, by omega⟩
    have : j = 1808 := by omega
    subst this
    unfold f_X7_forgets_29
    rw [if_pos (show (1808 : Int32) ≤ nI 1808 by decide)]
  | succ d ih =>
    intro j k M hj hk h3
    obtain ⟨k, rfl⟩ : ∃ k', k = k' + 1 := ⟨k - 1, by omega⟩
    unfold f_X7_forgets_29
    rw [if_neg (by rw [show (1808 : Int32) = nI 1808 from rfl, le_nI (by omega) (by omega)]; omega), gd_of (inb_nI (by omega) (by omega)), ix_nI (by omega), nI_1, show (657 + 1 : Nat) = 658 from rfl, ms_msf, fillR_succ _ h3]
    exact ih (j + 1) k M (by omega) (by omega) (by omega)
def chZ (r : Nat → Int32) (j : Nat) : Nat → Int32 := fun k => if 34 ≤ k ∧ k < 34 + 29 * j ∧ 25 ≤ (k - 34) % 29 then 0 else r k
theorem chZ_step {r : Nat → Int32} {j : Nat} : upd (upd (upd (upd (chZ r j) (34 + 29 * j + 25) 0) (34 + 29 * j + 26) 0) (34 + 29 * j + 27) 0) (34 + 29 * j + 28) 0 = chZ r (j + 1) := by
  funext k
  by_cases q : 34 + 29 * j + 25 ≤ k ∧ k ≤ 34 + 29 * j + 28
  · have : chZ r (j + 1) k = 0 := by
      unfold chZ
      rw [if_pos (by omega)]
    rw [this]
    rcases (show k = 34 + 29 * j + 25 ∨ k = 34 + 29 * j + 26 ∨ k = 34 + 29 * j + 27 ∨ k = 34 + 29 * j + 28 by omega) with rfl | rfl | rfl | rfl
    · rw [upd_ne (by omega), upd_ne (by omega), upd_ne (by omega), upd_eq]
    · rw [upd_ne (by omega), upd_ne (by omega), upd_eq]
    · rw [upd_ne (by omega), upd_eq]
    · rw [upd_eq]
  · rw [upd_ne (by omega), upd_ne (by omega), upd_ne (by omega), upd_ne (by omega)]
    unfold chZ
    by_cases x : 34 ≤ k ∧ k < 34 + 29 * j ∧ 25 ≤ (k - 34) % 29
    · rw [if_pos x, if_pos (by omega)]
    · rw [if_neg x, if_neg (by omega)]
theorem fg61 {rec : Int32 → MM → Option MM} {c k : Nat} {M : MM} {r : Nat → Int32} (hc : c < 6) (hk : 5 ≤ k) : f_X7_forgets_61 657 rec k (nI c) 25 (msf M 658 (chZ r c)) = rec (nI (c + 1)) (msf M 658 (chZ r (c + 1))) := by
  obtain ⟨k, rfl⟩ : ∃ k', k = k' + 1 + 1 + 1 + 1 + 1 := ⟨k - 5, by omega⟩
  have st : ∀ (k w : Nat) (g : Nat → Int32), 25 ≤ w → w < 29 → f_X7_forgets_61 657 rec (k + 1) (nI c) (nI w) (msf M 658 g) = f_X7_forgets_61 657 rec k (nI c) (nI (w + 1)) (msf M 658 (upd g (34 + 29 * c + w) 0)) := fun k w g h1 h2 => by
    rw [f_X7_forgets_61, if_neg (by rw [show (29 : Int32) = nI 29 from rfl, le_nI (by omega) (by omega)]; omega), setCh_ok hc h2, Option.bind_some, nI_1, msf_at, msf_msf]
  rw [show (25 : Int32) = nI 25 from rfl, st _ 25 _ (by omega) (by omega), st _ 26 _ (by omega) (by omega), st _ 27 _ (by omega) (by omega), st _ 28 _ (by omega) (by omega), chZ_step, f_X7_forgets_61, if_pos (show (29 : Int32) ≤ nI (28 + 1) by decide), nI_1]
theorem fg52 {r : Nat → Int32} : ∀ (d j k : Nat) (M : MM), j + d = 6 → d < k → f_X7_forgets_52 657 k (nI j) (msf M 658 (chZ r j)) = some (msf M 658 (upd (upd (upd (upd (upd (chZ r 6) 6 0) 7 1) 8 0) 9 (-6)) 10 (-6))) := by
  intro d
  induction d with
  | zero =>
    intro j k M hj hk
    obtain ⟨k, rfl⟩ : ∃ k', k = k' + 1 := ⟨k - 1, by omega⟩
    have : j = 6 := by omega
    subst this
    rw [f_X7_forgets_52, if_pos (show (6 : Int32) ≤ nI 6 by decide), gd_of (show inb 6 16272 = true by decide), gd_of (show inb 7 16272 = true by decide), gd_of (show inb 8 16272 = true by decide), gd_of (show inb 9 16272 = true by decide), gd_of (show inb 10 16272 = true by decide), show ix 6 = 6 from rfl, show ix 7 = 7 from rfl, show ix 8 = 8 from rfl, show ix 9 = 9 from rfl, show ix 10 = 10 from rfl, show (657 + 1 : Nat) = 658 from rfl, ms_msf, ms_msf, ms_msf, ms_msf, ms_msf]
  | succ d ih =>
    intro j k M hj hk
    obtain ⟨k, rfl⟩ : ∃ k', k = k' + 1 := ⟨k - 1, by omega⟩
    rw [f_X7_forgets_52, if_neg (by rw [show (6 : Int32) = nI 6 from rfl, le_nI (by omega) (by omega)]; omega), fg61 (by omega) (by unfold FU; omega)]
    exact ih (j + 1) k M (by omega) (by omega)
theorem frS_eq (r : Nat → Int32) : upd (upd (upd (upd (upd (chZ (fillR (fillR r 308 908 (-6)) 1608 1808 (-6)) 6) 6 0) 7 1) 8 0) 9 (-6)) 10 (-6) = frS r := by
  funext k
  unfold frS
  by_cases z : k = 6 ∨ k = 7 ∨ k = 8 ∨ k = 9 ∨ k = 10
  · rcases z with rfl | rfl | rfl | rfl | rfl
    · rw [if_neg (by omega), if_pos (by omega)]; rfl
    · rw [if_neg (by omega), if_neg (by omega), if_pos rfl]; rfl
    · rw [if_neg (by omega), if_pos (by omega)]; rfl
    · rw [if_pos (by omega)]; rfl
    · rw [if_pos (by omega)]; rfl
  · rw [upd_ne (by omega), upd_ne (by omega), upd_ne (by omega), upd_ne (by omega), upd_ne (by omega)]
    unfold chZ fillR
    by_cases y : (308 ≤ k ∧ k < 908) ∨ (1608 ≤ k ∧ k < 1808)
    · rw [if_neg (by omega), if_pos (show (308 ≤ k ∧ k < 908) ∨ (1608 ≤ k ∧ k < 1808) ∨ k = 9 ∨ k = 10 by omega)]
      by_cases x : 1608 ≤ k ∧ k < 1808
      · rw [if_pos x]
      · rw [if_neg x, if_pos (by omega)]
    · rw [if_neg (show ¬ ((308 ≤ k ∧ k < 908) ∨ (1608 ≤ k ∧ k < 1808) ∨ k = 9 ∨ k = 10) by omega)]
      by_cases x : 34 ≤ k ∧ k < 208 ∧ 25 ≤ (k - 34) % 29
      · rw [if_pos (by omega), if_pos (by omega)]
      · rw [if_neg (by omega), if_neg (by omega), if_neg (by omega), if_neg (show ¬ ((34 ≤ k ∧ k < 208 ∧ 25 ≤ (k - 34) % 29) ∨ k = 6 ∨ k = 8) by omega), if_neg (by omega)]
theorem forgetM {M : MM} : f_X7_forgets 657 M = some (msf M 658 (frS (M 658))) := by
  unfold f_X7_forgets
  have a := fgM4 (r := M 658) 600 308 FU M (by omega) (by unfold FU; omega) (by omega)
  rw [fillR_0, msf_id] at a
  have b := fgM29 (r := fillR (M 658) 308 908 (-6)) 200 1608 FU M (by omega) (by unfold FU; omega) (by omega)
  rw [fillR_0] at b
  have e0 : ∀ g, chZ g 0 = g := fun g => by
    funext k
    unfold chZ
    rw [if_neg (by omega)]
  have c := fg52 (r := fillR (fillR (M 658) 308 908 (-6)) 1608 1808 (-6)) 6 0 FU M (by omega) (by unfold FU; omega)
  rw [e0] at c
  rw [show (308 : Int32) = nI 308 from rfl, a, show (1608 : Int32) = nI 1608 from rfl, b, show (0 : Int32) = nI 0 from rfl, c]
  rw [frS_eq]
/-- what is averaged is forgotten -/
def gnS (r : Nat → Int32) : Nat → Int32 := fillR r 908 1608 (-6)
theorem gnM_loop {r : Nat → Int32} : ∀ (d j k : Nat) (M : MM), j + d = 1608 → d < k → 908 ≤ j → f_X7_forgetsGains_4 657 k (nI j) (msf M 658 (fillR r 908 j (-6))) = some (msf M 658 (gnS r)) := by
  intro d
  induction d with
  | zero =>
    intro j k M hj hk h3
    obtain ⟨k, rfl⟩ : ∃ k', k = k' + 1 := ⟨k - 1, by omega⟩
    have : j = 1608 := by omega
    subst this
    unfold f_X7_forgetsGains_4
    rw [if_pos (show (1608 : Int32) ≤ nI 1608 by decide)]
    rfl
  | succ d ih =>
    intro j k M hj hk h3
    obtain ⟨k, rfl⟩ : ∃ k', k = k' + 1 := ⟨k - 1, by omega⟩
    unfold f_X7_forgetsGains_4
    rw [if_neg (by rw [show (1608 : Int32) = nI 1608 from rfl, le_nI (by omega) (by omega)]; omega), gd_of (inb_nI (by omega) (by omega)), ix_nI (by omega), nI_1, show (657 + 1 : Nat) = 658 from rfl, ms_msf, fillR_succ _ h3]
    exact ih (j + 1) k M (by omega) (by omega) (by omega)
theorem gainsM {M : MM} : f_X7_forgetsGains 657 M = some (msf M 658 (gnS (M 658))) := by
  unfold f_X7_forgetsGains
  have a := gnM_loop (r := M 658) 700 908 FU M (by omega) (by unfold FU; omega) (by omega)
  rw [fillR_0, msf_id] at a
  exact a
theorem gnC_step {r : Nat → Int32} {j : Nat} : updIf (gnC r j) (pG j) (-6) = gnC r (j + 1) := by
  funext k
  by_cases z : 908 ≤ k ∧ k < 1508 ∧ (k - 908) % 6 = j
  · rw [updIf_t (by unfold pG; rw [decide_eq_true z.1, decide_eq_true z.2.1, decide_eq_true z.2.2]; rfl)]
    unfold gnC
    rw [if_pos (by omega)]
  · rw [updIf_f (by
      unfold pG
      by_cases a : 908 ≤ k
      · by_cases b : k < 1508
        · rw [decide_eq_false (show ¬ (k - 908) % 6 = j from fun e => z ⟨a, b, e⟩), Bool.and_false]
        · rw [decide_eq_false b, Bool.and_false]; rfl
      · rw [decide_eq_false a]; rfl)]
    unfold gnC
    by_cases y : 908 ≤ k ∧ k < 1508 ∧ (k - 908) % 6 < j
    · rw [if_pos y, if_pos (by omega)]
    · rw [if_neg y, if_neg (by omega)]
theorem gainsC_loop {b C : Nat} {r : Nat → Int32} (hC : C ≤ 6) (h5 : r 5 = nI C) : ∀ (d j k : Nat) (M : MM), j + d = C → d < k → Rep M b (gnC r j) → ∃ M', f_X4_forgetGains_2 b k (nI j) M = some M' ∧ Rep M' b (updIf (gnC r C) (pR 1508) (-6)) ∧ Fr b M M' := by
  intro d
  induction d with
  | zero =>
    intro j k M hj hk hR
    obtain ⟨k, rfl⟩ : ∃ k', k = k' + 1 := ⟨k - 1, by omega⟩
    have : j = C := by omega
    subst this
    have m3 : M b 3 = nI j := hR.s.2.1.trans ((show gnC r j 5 = r 5 from by unfold gnC; rw [if_neg (by omega)]).trans h5)
    unfold f_X4_forgetGains_2
    rw [if_pos (by rw [m3]; exact Int32.le_refl _), fill_ok (by omega), Option.bind_some]
    exact ⟨_, rfl, Rep.fill (o := 8) (v := -6) hR (by omega) (by omega) pR8 (fun k hk => pR_lo hk (by omega)), Fr.putf Fr.rf (by omega)⟩
  | succ d ih =>
    intro j k M hj hk hR
    obtain ⟨k, rfl⟩ : ∃ k', k = k' + 1 := ⟨k - 1, by omega⟩
    have m3 : M b 3 = nI C := hR.s.2.1.trans ((show gnC r j 5 = r 5 from by unfold gnC; rw [if_neg (by omega)]).trans h5)
    unfold f_X4_forgetGains_2 f_X0_forgetGains
    rw [if_neg (by rw [m3, le_nI (by omega) (by omega)]; omega), gd_of (inb_nI (by omega) (by omega)), ix_nI (by omega), fill_ok (by omega), Option.bind_some, Option.bind_some, nI_1, show b + 6 + 5 + 9 * j + 8 = b + (19 + 9 * j) by omega]
    have R1 := Rep.fill (o := 19 + 9 * j) (v := -6) hR (by omega) (by omega) (pG_ok j (by omega)) (fun k hk => pG_lo hk)
    rw [gnC_step] at R1
    obtain ⟨M', e, q1, q2⟩ := ih (j + 1) k _ (by omega) (by omega) R1
    exact ⟨M', e, q1, (Fr.putf Fr.rf (by omega)).tr q2⟩
theorem gainsC {M : MM} {b C : Nat} {r : Nat → Int32} (hR : Rep M b r) (hc : WFc r C) : ∃ M', f_X4_forgetGains b M = some M' ∧ Rep M' b (gnS r) ∧ Fr b M M' := by
  have h6 := hc.1.2
  have e0 : gnC r 0 = r := by
    funext k
    unfold gnC
    rw [if_neg (by omega)]
  obtain ⟨M', e, q1, q2⟩ := gainsC_loop (b := b) h6 hc.1.1 C 0 FU M (by omega) (by unfold FU; omega) (by rw [e0]; exact hR)
  refine ⟨M', e, q1.row (fun k hk => ?_), q2⟩
  unfold gnS fillR
  by_cases y : 1508 ≤ k ∧ k < 1608
  · rw [updIf_t (pR_t y), if_pos (by omega)]
  · rw [updIf_f (pR_f (by omega))]
    unfold gnC
    by_cases x : 908 ≤ k ∧ k < 1508
    · rw [if_pos (show 908 ≤ k ∧ k < 1608 by omega)]
      by_cases v : (k - 908) % 6 < C
      · rw [if_pos (by omega)]
      · rw [if_neg (by omega)]
        have := ((hc.2.2 ((k - 908) % 6) (by omega) (by omega)).2 ((k - 908) / 6) (by omega)).2
        rw [show 908 + 6 * ((k - 908) / 6) + (k - 908) % 6 = k by omega] at this
        exact this.symm
    · rw [if_neg (by omega), if_neg (by omega)]
