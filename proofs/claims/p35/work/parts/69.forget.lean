/-! PURE, the class alone: by program out of the same part of whole -/
/-! PURE: what a run has left is forgotten, both sides -/
theorem updIf_t {f : Nat → Int32} {p : Nat → Bool} {v : Int32} {k : Nat} (h : p k = true) : updIf f p v k = v := by unfold updIf; rw [if_pos h]
theorem updIf_f {f : Nat → Int32} {p : Nat → Bool} {v : Int32} {k : Nat} (h : p k = false) : updIf f p v k = f k := by unfold updIf; rw [if_neg (by rw [h]; decide)]
theorem Rep.fill {M : MM} {b o : Nat} {r : Nat → Int32} {v : Int32} {p : Nat → Bool} (h : Rep M b r) (ho : o < 65) (h45 : o ≠ 4 ∧ o ≠ 5) (hp : ∀ o', o' < 65 → ∀ i, i < 100 → tr o' i < 5000 → p (tr o' i) = decide (o' = o)) (hlo : ∀ k, k < 208 → p k = false) : Rep (msf M (b + o) (fillR (M (b + o)) 0 100 v)) b (updIf r p v) := by
  have e5 : updIf r p v 5 = r 5 := updIf_f (hlo 5 (by omega))
  refine ⟨fun o2 i2 a1 a2 a3 a4 => ?_, h.2.cong (fun j _ => by rw [msf_ne (by omega)]) (fun j _ => by rw [msf_ne (by omega)]) (updIf_f (hlo _ (by omega))) (fun k q1 q2 => updIf_f (hlo _ (by omega)))⟩
  have a5 := (inS.row a1 e5 (fun c hc => updIf_f (hlo _ (by omega)))).mp a4
  have hq := hp o2 a1 i2 a2 a3
  by_cases q : o2 = o
  · subst q
    rw [msf_at, updIf_t (by rw [hq]; exact decide_eq_true rfl)]
    unfold fillR
    rw [if_pos (by omega)]
  · rw [msf_ne (by omega), updIf_f (by rw [hq]; exact decide_eq_false q)]
    exact h.1 o2 i2 a1 a2 a3 a5
def pL (c k : Nat) : Bool := decide (308 ≤ k) && decide (k < 908) && decide ((k - 308) % 6 = c)
def pG (c k : Nat) : Bool := decide (908 ≤ k) && decide (k < 1508) && decide ((k - 908) % 6 = c)
def pR (a k : Nat) : Bool := decide (a ≤ k) && decide (k < a + 100)
theorem pL_ok : ∀ c, c < 6 → ∀ o', o' < 65 → ∀ i, i < 100 → tr o' i < 5000 → pL c (tr o' i) = decide (o' = 18 + 9 * c) := by decide +kernel
theorem pG_ok : ∀ c, c < 6 → ∀ o', o' < 65 → ∀ i, i < 100 → tr o' i < 5000 → pG c (tr o' i) = decide (o' = 19 + 9 * c) := by decide +kernel
theorem pR8 : ∀ o', o' < 65 → ∀ i, i < 100 → tr o' i < 5000 → pR 1508 (tr o' i) = decide (o' = 8) := by decide +kernel
theorem pR9 : ∀ o', o' < 65 → ∀ i, i < 100 → tr o' i < 5000 → pR 1608 (tr o' i) = decide (o' = 9) := by decide +kernel
theorem pR10 : ∀ o', o' < 65 → ∀ i, i < 100 → tr o' i < 5000 → pR 1708 (tr o' i) = decide (o' = 10) := by decide +kernel
theorem pL_lo {c k : Nat} (h : k < 208) : pL c k = false := by unfold pL; rw [decide_eq_false (show ¬ 308 ≤ k by omega)]; rfl
theorem pG_lo {c k : Nat} (h : k < 208) : pG c k = false := by unfold pG; rw [decide_eq_false (show ¬ 908 ≤ k by omega)]; rfl
theorem pR_lo {a k : Nat} (h : k < 208) (ha : 208 ≤ a) : pR a k = false := by unfold pR; rw [decide_eq_false (show ¬ a ≤ k by omega)]; rfl
/-- the channels below j have forgotten the run -/
def frC (r : Nat → Int32) (j : Nat) : Nat → Int32 := fun k => if 308 ≤ k ∧ k < 908 ∧ (k - 308) % 6 < j then -6 else if 34 ≤ k ∧ k < 34 + 29 * j ∧ 25 ≤ (k - 34) % 29 then 0 else r k
def gnC (r : Nat → Int32) (j : Nat) : Nat → Int32 := fun k => if 908 ≤ k ∧ k < 1508 ∧ (k - 908) % 6 < j then -6 else r k
theorem frC_step {r : Nat → Int32} {j : Nat} (hj : j < 6) : upd (upd (upd (upd (updIf (frC r j) (pL j) (-6)) (34 + 29 * j + 25) 0) (34 + 29 * j + 26) 0) (34 + 29 * j + 27) 0) (34 + 29 * j + 28) 0 = frC r (j + 1) := by
  funext k
  by_cases q : 34 + 29 * j + 25 ≤ k ∧ k ≤ 34 + 29 * j + 28
  · have : frC r (j + 1) k = 0 := by
      unfold frC
      rw [if_neg (by omega), if_pos (by omega)]
    rw [this]
    rcases (show k = 34 + 29 * j + 25 ∨ k = 34 + 29 * j + 26 ∨ k = 34 + 29 * j + 27 ∨ k = 34 + 29 * j + 28 by omega) with rfl | rfl | rfl | rfl
    · rw [upd_ne (by omega), upd_ne (by omega), upd_ne (by omega), upd_eq]
    · rw [upd_ne (by omega), upd_ne (by omega), upd_eq]
    · rw [upd_ne (by omega), upd_eq]
    · rw [upd_eq]
  · rw [upd_ne (by omega), upd_ne (by omega), upd_ne (by omega), upd_ne (by omega)]
    by_cases z : 308 ≤ k ∧ k < 908 ∧ (k - 308) % 6 = j
    · rw [updIf_t (by unfold pL; rw [decide_eq_true z.1, decide_eq_true z.2.1, decide_eq_true z.2.2]; rfl)]
      unfold frC
      rw [if_pos (by omega)]
    · rw [updIf_f (by
        unfold pL
        by_cases a : 308 ≤ k
        · by_cases b : k < 908
          · rw [decide_eq_false (show ¬ (k - 308) % 6 = j from fun e => z ⟨a, b, e⟩), Bool.and_false]
          · rw [decide_eq_false b, Bool.and_false]; rfl
        · rw [decide_eq_false a]; rfl)]
      unfold frC
      by_cases y : 308 ≤ k ∧ k < 908 ∧ (k - 308) % 6 < j
      · rw [if_pos y, if_pos (by omega)]
      · rw [if_neg y, if_neg (show ¬ (308 ≤ k ∧ k < 908 ∧ (k - 308) % 6 < j + 1) by omega)]
        by_cases x : 34 ≤ k ∧ k < 34 + 29 * j ∧ 25 ≤ (k - 34) % 29
        · rw [if_pos x, if_pos (by omega)]
        · rw [if_neg x, if_neg (show ¬ (34 ≤ k ∧ k < 34 + 29 * (j + 1) ∧ 25 ≤ (k - 34) % 29) by omega)]
theorem frC_at {r : Nat → Int32} {j k : Nat} (h1 : ¬ (308 ≤ k ∧ k < 908)) (h2 : ¬ (34 ≤ k ∧ k < 208 ∧ 25 ≤ (k - 34) % 29)) (hj : j ≤ 6) : frC r j k = r k := by
  unfold frC
  rw [if_neg (by omega), if_neg (by omega)]
/-- the whole of it, as the reference does it -/
def frS (r : Nat → Int32) : Nat → Int32 := fun k => if (308 ≤ k ∧ k < 908) ∨ (1608 ≤ k ∧ k < 1808) ∨ k = 9 ∨ k = 10 then -6 else if (34 ≤ k ∧ k < 208 ∧ 25 ≤ (k - 34) % 29) ∨ k = 6 ∨ k = 8 then 0 else if k = 7 then 1 else r k
theorem forgetC_loop {b C : Nat} {r : Nat → Int32} (hC : C ≤ 6) (h5 : r 5 = nI C) : ∀ (d j k : Nat) (M : MM), j + d = C → d < k → Rep M b (frC r j) → ∃ M', f_X4_forgetRun_2 b k (nI j) M = some M' ∧ Rep M' b (upd (upd (upd (upd (upd (updIf (updIf (frC r C) (pR 1608) (-6)) (pR 1708) (-6)) 7 1) 6 0) 8 0) 9 (-6)) 10 (-6)) ∧ Fr b M M' := by
  intro d
  induction d with
  | zero =>
    intro j k M hj hk hR
    obtain ⟨k, rfl⟩ : ∃ k', k = k' + 1 := ⟨k - 1, by omega⟩
    have : j = C := by omega
    subst this
    have m3 : M b 3 = nI j := hR.s.2.1.trans ((frC_at (by omega) (by omega) hC).trans h5)
    unfold f_X4_forgetRun_2
    rw [if_pos (by rw [m3]; exact Int32.le_refl _), fill_ok (by omega), Option.bind_some, fill_ok (by omega), Option.bind_some]
    have R1 := Rep.fill (o := 9) (v := -6) hR (by omega) (by omega) pR9 (fun k hk => pR_lo hk (by omega))
    have R2 := Rep.fill (o := 10) (v := -6) R1 (by omega) (by omega) pR10 (fun k hk => pR_lo hk (by omega))
    have R3 := Rep.put (o := 0) (i := 11) (v := bz true) R2 (k := 7) rfl (by omega) (by omega) (by omega) (n0' _ (by omega) (by omega) (by omega))
    have R4 := Rep.put (o := 0) (i := 12) (v := 0) R3 (k := 6) rfl (by omega) (by omega) (by omega) (n0' _ (by omega) (by omega) (by omega))
    have R5 := Rep.put (o := 0) (i := 13) (v := 0) R4 (k := 8) rfl (by omega) (by omega) (by omega) (n0' _ (by omega) (by omega) (by omega))
    have R6 := Rep.put (o := 0) (i := 14) (v := -6) R5 (k := 9) rfl (by omega) (by omega) (by omega) (n0' _ (by omega) (by omega) (by omega))
    have R7 := Rep.put (o := 0) (i := 15) (v := -6) R6 (k := 10) rfl (by omega) (by omega) (by omega) (n0' _ (by omega) (by omega) (by omega))
    exact ⟨_, rfl, R7, Fr.put (o := 0) (Fr.put (o := 0) (Fr.put (o := 0) (Fr.put (o := 0) (Fr.put (o := 0) (Fr.putf (Fr.putf Fr.rf (by omega)) (by omega)) (by omega)) (by omega)) (by omega)) (by omega)) (by omega)⟩
  | succ d ih =>
    intro j k M hj hk hR
    obtain ⟨k, rfl⟩ : ∃ k', k = k' + 1 := ⟨k - 1, by omega⟩
    have m3 : M b 3 = nI C := hR.s.2.1.trans ((frC_at (by omega) (by omega) (by omega)).trans h5)
    have t := tr_c14 j (by omega)
    unfold f_X4_forgetRun_2 f_X0_forgetRun
    rw [if_neg (by rw [m3, le_nI (by omega) (by omega)]; omega), gd_of (inb_nI (by omega) (by omega)), ix_nI (by omega), fill_ok (by omega), Option.bind_some, Option.bind_some, nI_1, show b + 6 + 5 + 9 * j + 7 = b + (18 + 9 * j) by omega, show b + 6 + 5 + 9 * j = b + (11 + 9 * j) by omega]
    have R1 := Rep.fill (o := 18 + 9 * j) (v := -6) hR (by omega) (by omega) (pL_ok j (by omega)) (fun k hk => pL_lo hk)
    have R2 := Rep.put (o := 11 + 9 * j) (i := 14) (v := 0) R1 t.1 (by omega) (by omega) (by omega) ⟨by omega, by omega, fun c hc => by omega⟩
    have R3 := Rep.put (o := 11 + 9 * j) (i := 15) (v := 0) R2 t.2.1 (by omega) (by omega) (by omega) ⟨by omega, by omega, fun c hc => by omega⟩
    have R4 := Rep.put (o := 11 + 9 * j) (i := 16) (v := 0) R3 t.2.2.1 (by omega) (by omega) (by omega) ⟨by omega, by omega, fun c hc => by omega⟩
    have R5 := Rep.put (o := 11 + 9 * j) (i := 17) (v := 0) R4 t.2.2.2.1 (by omega) (by omega) (by omega) ⟨by omega, by omega, fun c hc => by omega⟩
    rw [frC_step (by omega)] at R5
    obtain ⟨M', e, q1, q2⟩ := ih (j + 1) k _ (by omega) (by omega) R5
    exact ⟨M', e, q1, (Fr.put (Fr.put (Fr.put (Fr.put (Fr.putf Fr.rf (by omega)) (by omega)) (by omega)) (by omega)) (by omega)).tr q2⟩
theorem pR_t {a k : Nat} (h : a ≤ k ∧ k < a + 100) : pR a k = true := by unfold pR; rw [decide_eq_true h.1, decide_eq_true h.2]; rfl
theorem pR_f {a k : Nat} (h : ¬ (a ≤ k ∧ k < a + 100)) : pR a k = false := by
  unfold pR
  by_cases q : a ≤ k
  · rw [decide_eq_false (show ¬ k < a + 100 from fun z => h ⟨q, z⟩), Bool.and_false]
  · rw [decide_eq_false q]; rfl
theorem forgetC {M : MM} {b C : Nat} {r : Nat → Int32} (hR : Rep M b r) (hc : WFc r C) : ∃ M', f_X4_forgetRun b M = some M' ∧ Rep M' b (frS r) ∧ Fr b M M' := by
  have h6 := hc.1.2
  have e0 : frC r 0 = r := by
    funext k
    unfold frC
    rw [if_neg (by omega), if_neg (by omega)]
  obtain ⟨M', e, q1, q2⟩ := forgetC_loop (b := b) h6 hc.1.1 C 0 FU M (by omega) (by unfold FU; omega) (by rw [e0]; exact hR)
  refine ⟨M', e, q1.row (fun k hk => ?_), q2⟩
  unfold frS
  by_cases z : k = 6 ∨ k = 7 ∨ k = 8 ∨ k = 9 ∨ k = 10
  · rcases z with rfl | rfl | rfl | rfl | rfl
    · rw [if_neg (by omega), if_pos (by omega)]; rfl
    · rw [if_neg (by omega), if_neg (by omega), if_pos rfl]; rfl
    · rw [if_neg (by omega), if_pos (by omega)]; rfl
    · rw [if_pos (by omega)]; rfl
    · rw [if_pos (by omega)]; rfl
  · rw [upd_ne (by omega), upd_ne (by omega), upd_ne (by omega), upd_ne (by omega), upd_ne (by omega)]
    by_cases y : 1708 ≤ k
    · rw [updIf_t (pR_t ⟨y, by omega⟩), if_pos (by omega)]
    · rw [updIf_f (pR_f (by omega))]
      by_cases x : 1608 ≤ k
      · rw [updIf_t (pR_t ⟨x, by omega⟩), if_pos (by omega)]
      · rw [updIf_f (pR_f (by omega))]
        by_cases w : 308 ≤ k ∧ k < 908
        · rw [if_pos (by omega)]
          unfold frC
          by_cases v : (k - 308) % 6 < C
          · rw [if_pos (by omega)]
          · rw [if_neg (by omega), if_neg (by omega)]
            have := ((hc.2.2 ((k - 308) % 6) (by omega) (by omega)).2 ((k - 308) / 6) (by omega)).1
            rw [show 308 + 6 * ((k - 308) / 6) + (k - 308) % 6 = k by omega] at this
            exact this.symm
        · rw [if_neg (by omega)]
          by_cases v : 34 ≤ k ∧ k < 208 ∧ 25 ≤ (k - 34) % 29
          · rw [if_pos (by omega)]
            unfold frC
            rw [if_neg (by omega)]
            by_cases u : k < 34 + 29 * C
            · rw [if_pos (by omega)]
            · rw [if_neg (by omega)]
              obtain ⟨-, -, -, -, n1, n2, n3, n4⟩ := (hc.2.2 ((k - 34) / 29) (by omega) (by omega)).1
              rcases (show (k - 34) % 29 = 25 ∨ (k - 34) % 29 = 26 ∨ (k - 34) % 29 = 27 ∨ (k - 34) % 29 = 28 by omega) with g | g | g | g
              · rw [show 34 + 29 * ((k - 34) / 29) + 25 = k by omega] at n1; exact n1.symm
              · rw [show 34 + 29 * ((k - 34) / 29) + 26 = k by omega] at n2; exact n2.symm
              · rw [show 34 + 29 * ((k - 34) / 29) + 27 = k by omega] at n3; exact n3.symm
              · rw [show 34 + 29 * ((k - 34) / 29) + 28 = k by omega] at n4; exact n4.symm
          · rw [if_neg (by omega), if_neg (by omega), frC_at w v h6]
