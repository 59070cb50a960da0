/-! PURE, the class alone: by program out of the same part of whole -/
/-! PURE: start on both sides -/
theorem cnF_mono {ct : Nat → Bool} {j : Nat} : ∀ {C : Nat}, j ≤ C → 0 < cnF ct j → 0 < cnF ct C
  | 0, h, q => by have : j = 0 := by omega
                  subst this; exact q
  | C + 1, h, q => by
    by_cases z : j = C + 1
    · subst z; exact q
    · have := cnF_mono (ct := ct) (C := C) (by omega) q
      rw [cnF]
      split <;> omega
def refN (r : Nat → Int32) (C L P s : Nat) : Nat := if restB s = false then 1 else if L = 0 then 2 else if P = 0 then 3 else if cnF (ctR r) C = 0 then 4 else 0
theorem refN_le {r : Nat → Int32} {C L P s : Nat} : refN r C L P s ≤ 4 := by
  unfold refN
  split
  · omega
  · split
    · omega
    · split
      · omega
      · split <;> omega
theorem refC_loop {M : MM} {b C : Nat} {r : Nat → Int32} (hR : Rep M b r) (h5 : r 5 = nI C ∧ C ≤ 6) (hct : ∀ c, c < C → r (34 + 29 * c) = 0 ∨ r (34 + 29 * c) = 1) : ∀ (d j k : Nat), j + d = C → d < k → cnF (ctR r) j = 0 → f_X4_reasonToRefuse_35 b M k (nI j) = some (if cnF (ctR r) C = 0 then 4 else 0) := by
  have hCn : Cn r = C := by unfold Cn; rw [h5.1, ix_nI (by omega)]
  intro d
  induction d with
  | zero =>
    intro j k hj hk h0
    obtain ⟨k, rfl⟩ : ∃ k', k = k' + 1 := ⟨k - 1, by omega⟩
    have : j = C := by omega
    subst this
    unfold f_X4_reasonToRefuse_35
    rw [show M b 3 = nI j from hR.s.2.1.trans h5.1, if_pos (Int32.le_refl _), if_pos h0]
  | succ d ih =>
    intro j k hj hk h0
    obtain ⟨k, rfl⟩ : ∃ k', k = k' + 1 := ⟨k - 1, by omega⟩
    unfold f_X4_reasonToRefuse_35
    rw [show M b 3 = nI C from hR.s.2.1.trans h5.1, if_neg (by rw [le_nI (by omega) (by omega)]; omega), gd_of (inb_nI (by omega) (by omega)), ix_nI (by omega), show b + 6 + 5 + 9 * j = b + (11 + 9 * j) by omega, (hR.c (c := j) (by omega) (by omega)).1, nI_1]
    rcases hct j (by omega) with e | e
    · rw [e, if_pos (by decide)]
      refine ih (j + 1) k (by omega) (by omega) ?_
      rw [cnF, h0]
      have : ctR r j = false := by unfold ctR; rw [e]; decide
      rw [this]; rfl
    · rw [e, if_neg (by decide)]
      have : 0 < cnF (ctR r) C := cnF_mono (j := j + 1) (by omega) (by
        rw [cnF]
        have : ctR r j = true := by unfold ctR; rw [e]; decide
        rw [this, if_pos rfl]; omega)
      rw [if_neg (by omega)]
theorem refuseC {M : MM} {b C L P s ln nn : Nat} {r : Nat → Int32} (hR : Rep M b r) (hw : WF r C L P s ln nn) : f_X4_reasonToRefuse b M = some (nI (refN r C L P s)) := by
  have h1 := hw.2.2.2.2.2.1
  unfold f_X4_reasonToRefuse refN
  rw [restsC hR h1, Option.bind_some]
  cases hb : restB s with
  | false => rw [if_pos bz_f0, if_pos rfl]; rfl
  | true =>
    rw [if_neg bz_t0, if_neg (show ¬ true = false by decide), show M (b + 1) 1 = nI L from hR.s.1.trans hw.2.1.1.1]
    by_cases hL : L = 0
    · rw [if_pos (by rw [hL]; rfl), if_pos hL]; rfl
    · rw [if_neg (by rw [show (0 : Int32) = nI 0 from rfl, eq_nI (by have := hw.2.1.1.2; omega) (by omega)]; exact hL), if_neg hL, show M (b + 3) 2 = nI P from hR.s.2.2.2.2.2.2.2.2.2.2.2.trans hw.2.2.1.1.1]
      by_cases hP : P = 0
      · rw [if_pos (by rw [hP]; rfl), if_pos hP]; rfl
      · rw [if_neg (by rw [show (0 : Int32) = nI 0 from rfl, eq_nI (by have := hw.2.2.1.1.2; omega) (by omega)]; exact hP), if_neg hP]
        have := refC_loop hR hw.1.1 (fun c hc => (hw.1.2.1 c hc).1) C 0 FU (by omega) (by have := hw.1.1.2; unfold FU; omega) rfl
        rw [show (0 : Int32) = nI 0 from rfl, this]
        split <;> rfl
def startS (r : Nat → Int32) (x : Int32) : Nat → Int32 := upd (upd (upd (upd (upd (frS r) 11 0) 1 1) 2 0) 3 x) 1608 x
theorem frS_at {r : Nat → Int32} {k : Nat} (h1 : ¬ ((308 ≤ k ∧ k < 908) ∨ (1608 ≤ k ∧ k < 1808))) (h2 : ¬ (6 ≤ k ∧ k ≤ 10)) (h3 : ¬ (34 ≤ k ∧ k < 208 ∧ 25 ≤ (k - 34) % 29)) : frS r k = r k := by
  unfold frS
  rw [if_neg (by omega), if_neg (by omega), if_neg (by omega)]
theorem startS_at {r : Nat → Int32} {x : Int32} {k : Nat} (h1 : ¬ ((308 ≤ k ∧ k < 908) ∨ (1608 ≤ k ∧ k < 1808))) (h2 : ¬ (6 ≤ k ∧ k ≤ 11)) (h3 : ¬ (34 ≤ k ∧ k < 208 ∧ 25 ≤ (k - 34) % 29)) (h4 : ¬ (1 ≤ k ∧ k ≤ 3)) : startS r x k = r k := by
  unfold startS
  rw [upd_ne (by omega), upd_ne (by omega), upd_ne (by omega), upd_ne (by omega), upd_ne (by omega), frS_at h1 (by omega) h3]
theorem startWF {r : Nat → Int32} {C L P s ln nn : Nat} {x : Int32} (h : WF r C L P s ln nn) (hL : 0 < L) (hP : 0 < P) (hct : 0 < cnF (ctR r) C) (hx : okD x) : WF (startS r x) C L P 1 0 nn := by
  obtain ⟨hc, hl, hp, hst, ha, h1, h2, h7, h8, h9⟩ := h
  have h6 := hc.1.2
  have eA : ∀ k, k < 208 → startS r x k = frS r k ∨ k ≤ 11 := fun k hk => by
    by_cases q : k ≤ 11
    · exact Or.inr q
    · left; unfold startS; rw [upd_ne (by omega), upd_ne (by omega), upd_ne (by omega), upd_ne (by omega), upd_ne (by omega)]
  have z : ∀ c w, c < 6 → 25 ≤ w → w < 29 → startS r x (34 + 29 * c + w) = 0 := fun c w a b d => by
    rw [(eA _ (by omega)).resolve_right (by omega)]
    unfold frS
    rw [if_neg (by omega), if_pos (by omega)]
  have y : ∀ c w, c < 6 → w < 25 → startS r x (34 + 29 * c + w) = r (34 + 29 * c + w) := fun c w a b => startS_at (by omega) (by omega) (by omega) (by omega)
  have hcn : cnF (ctR (startS r x)) C = cnF (ctR r) C := cnF_cong (fun c hc => by
    unfold ctR
    have := y c 0 (by omega) (by omega)
    rw [Nat.add_zero] at this
    rw [this])
  have six : ∀ k c, k < 100 → c < 6 → startS r x (308 + 6 * k + c) = -6 := fun k c a b => by
    unfold startS
    rw [upd_ne (by omega), upd_ne (by omega), upd_ne (by omega), upd_ne (by omega), upd_ne (by omega)]
    unfold frS
    rw [if_pos (by omega)]
  refine ⟨⟨by rw [startS_at (by omega) (by omega) (by omega) (by omega)]; exact hc.1, fun c hcc => chOK_cong (fun w hw => y c w (by omega) hw) (by rw [z c 26 (by omega) (by omega) (by omega)]; decide) (hc.2.1 c hcc), fun c g1 g2 => ?_⟩, WFl_cong (startS_at (by omega) (by omega) (by omega) (by omega)) (fun k hk => startS_at (by omega) (by omega) (by omega) (by omega)) hl, WFp_cong (startS_at (by omega) (by omega) (by omega) (by omega)) (fun k hk => startS_at (by omega) (by omega) (by omega) (by omega)) hp, WFs_cong ⟨startS_at (by omega) (by omega) (by omega) (by omega), startS_at (by omega) (by omega) (by omega) (by omega), startS_at (by omega) (by omega) (by omega) (by omega), startS_at (by omega) (by omega) (by omega) (by omega), startS_at (by omega) (by omega) (by omega) (by omega), startS_at (by omega) (by omega) (by omega) (by omega)⟩ hst, ⟨fun c k a b => by rw [startS_at (by omega) (by omega) (by omega) (by omega)]; exact ha.1 c k a b, fun k hk => by rw [startS_at (by omega) (by omega) (by omega) (by omega)]; exact ha.2 k hk⟩, ⟨rfl, by omega⟩, ⟨rfl, by omega⟩, Or.inr rfl, fun _ => ⟨hL, hP, by rw [hcn]; exact hct, hx, rfl⟩, fun h => by omega⟩
  obtain ⟨⟨n1, n2, n3, n4, n5, n6, n7, n8⟩, n9⟩ := hc.2.2 c g1 g2
  exact ⟨⟨by rw [y c 5 g2 (by omega)]; exact n1, by rw [y c 8 g2 (by omega)]; exact n2, by rw [y c 11 g2 (by omega)]; exact n3, by rw [y c 12 g2 (by omega)]; exact n4, z c 25 g2 (by omega) (by omega), z c 26 g2 (by omega) (by omega), z c 27 g2 (by omega) (by omega), z c 28 g2 (by omega) (by omega)⟩, fun k hk => ⟨six k c hk g2, by rw [startS_at (by omega) (by omega) (by omega) (by omega)]; exact (n9 k hk).2⟩⟩
theorem refN0 {r : Nat → Int32} {C L P s : Nat} (h : refN r C L P s = 0) : restB s = true ∧ 0 < L ∧ 0 < P ∧ 0 < cnF (ctR r) C := by
  unfold refN at h
  split at h
  · omega
  · rename_i a
    split at h
    · omega
    · split at h
      · omega
      · split at h
        · omega
        · refine ⟨?_, by omega, by omega, by omega⟩
          cases hb : restB s with
          | true => rfl
          | false => exact absurd hb a
theorem WF.up11 {r : Nat → Int32} {C L P s ln nn : Nat} (h : WF r C L P s ln nn) (v : Int32) : WF (upd r 11 v) C L P s ln nn := by
  obtain ⟨p1, p2, p3, p4, p5, h1, h2, h7, h8, h9⟩ := h
  obtain ⟨q1, q2, q3, q4, q5⟩ := freeEq.parts (freeEq.put (i := 11) (v := v) (by omega)) ⟨p1, p2, p3, p4, p5⟩
  have e : ∀ k, k ≠ 11 → upd r 11 v k = r k := fun k hk => upd_ne hk
  have hct : cnF (ctR (upd r 11 v)) C = cnF (ctR r) C := cnF_cong (fun c hc => by unfold ctR; rw [e _ (by omega)])
  exact ⟨q1, q2, q3, q4, q5, by rw [e 1 (by omega)]; exact h1, by rw [e 2 (by omega)]; exact h2, by rw [e 7 (by omega)]; exact h7, by rw [e 3 (by omega), e 9 (by omega), hct]; exact h8, by rw [e 3 (by omega)]; exact h9⟩
theorem beginC {M : MM} {b C L P s ln nn : Nat} {r : Nat → Int32} {x : Int32} (hR : Rep M b r) (hw : WF r C L P s ln nn) (hx : wi x 1 1000 = true) : (refN r C L P s = 0 → ∃ M', f_X4_begin b x M = some (nI L, M') ∧ Rep M' b (startS r x) ∧ Fr b M M') ∧ (refN r C L P s ≠ 0 → ∃ M', f_X4_begin b x M = some (-5, M') ∧ Rep M' b (upd r 11 (nI (refN r C L P s))) ∧ Fr b M M') := by
  have hle := refN_le (r := r) (C := C) (L := L) (P := P) (s := s)
  unfold f_X4_begin
  rw [isWithin_ok, Option.bind_some, hx, if_neg bz_t0, refuseC hR hw, Option.bind_some, ms_eq]
  have R1 : Rep (ms M b 16 (nI (refN r C L P s))) b (upd r 11 (nI (refN r C L P s))) := Rep.put (o := 0) hR (k := 11) rfl (by omega) (by omega) (by omega) (n0' _ (by omega) (by omega) (by omega))
  have F1 : Fr b M (ms M b 16 (nI (refN r C L P s))) := Fr.put (o := 0) Fr.rf (by omega)
  constructor
  · intro h0
    rw [h0] at R1 F1 ⊢
    rw [if_pos (show nI 0 = 0 from rfl)]
    obtain ⟨M2, e2, R2, F2⟩ := forgetC R1 (hw.up11 (nI 0)).1
    rw [e2, Option.bind_some, gd_of (show inb 0 100 = true by decide), show ix 0 = 0 from rfl]
    have R3 := Rep.put (o := 9) (i := 0) (v := x) (k := 1608) (Rep.put (o := 0) (i := 10) (v := x) (Rep.put (o := 0) (i := 9) (v := 0) (Rep.put (o := 0) (i := 8) (v := 1) R2 (k := 1) rfl (by omega) (by omega) (by omega) (n0' _ (by omega) (by omega) (by omega))) (k := 2) rfl (by omega) (by omega) (by omega) (n0' _ (by omega) (by omega) (by omega))) (k := 3) rfl (by omega) (by omega) (by omega) (n0' _ (by omega) (by omega) (by omega))) rfl (by omega) (by omega) (by omega) (n0' _ (by omega) (by omega) (by omega))
    have e : ∀ k, k < 1808 → startS r x k = (upd (upd (upd (upd (frS (upd r 11 (nI 0))) 1 1) 2 0) 3 x) 1608 x) k := fun k hk => by
      unfold startS
      by_cases a : k = 1608
      · rw [a, upd_eq, upd_eq]
      · rw [upd_ne a, upd_ne a]
        by_cases c : k = 3
        · rw [c, upd_eq, upd_eq]
        · rw [upd_ne c, upd_ne c]
          by_cases d : k = 2
          · rw [d, upd_eq, upd_eq]
          · rw [upd_ne d, upd_ne d]
            by_cases f : k = 1
            · rw [f, upd_eq, upd_eq]
            · rw [upd_ne f, upd_ne f]
              by_cases g : k = 11
              · rw [g, upd_eq, frS_at (by omega) (by omega) (by omega), upd_eq]; rfl
              · rw [upd_ne g]
                unfold frS
                rw [upd_ne g]
    have R4 := R3.row e
    refine ⟨_, ?_, R4, (F1.tr F2).tr (Fr.put (o := 9) (Fr.put (o := 0) (Fr.put (o := 0) (Fr.put (o := 0) Fr.rf (by omega)) (by omega)) (by omega)) (by omega))⟩
    have hl := R4.s.1
    rw [startS_at (by omega) (by omega) (by omega) (by omega), hw.2.1.1.1] at hl
    exact congrArg (fun v => some (v, _)) hl
  · intro hn
    rw [if_neg (by rw [show (0 : Int32) = nI 0 from rfl, eq_nI (by omega) (by omega)]; exact hn)]
    exact ⟨_, rfl, R1, F1⟩
theorem startS_hi {r : Nat → Int32} {x : Int32} {k : Nat} (hk : 1808 ≤ k) : startS r x k = r k := startS_at (by omega) (by omega) (by omega) (by omega)
theorem okD_of {x : Int32} (h : wi x 1 1000 = true) : okD x := by
  have b := wi_t h
  have t1 : (1 : Int32).toInt = 1 := rfl
  have t2 : (1000 : Int32).toInt = 1000 := rfl
  exact ⟨by omega, by omega⟩
