/-! PURE: the law's loop ends with true -/
theorem pairStep {fc fm : MM → Option (Int32 × MM)} {M : MM} {K : MM → Option Bool} (h : Pair fc fm) (inv : INV M) (nx : ∀ M, INV M → K M = some true) : (Option.bind (fc M) fun v => Option.bind (fm v.2) fun w => if v.1 = w.1 then K w.2 else some false) = some true := by
  obtain ⟨v, M1, M2, e1, e2, i2⟩ := h M inv
  rw [e1, Option.bind_some]
  dsimp only
  rw [e2, Option.bind_some]
  dsimp only
  rw [if_pos rfl]
  exact nx M2 i2
theorem lookStep {fc fm : MM → Option Int32} {M : MM} {K : MM → Option Bool} (h : Look fc fm) (inv : INV M) (nx : ∀ M, INV M → K M = some true) : (Option.bind (fc M) fun v => Option.bind (fm M) fun w => if v = w then K M else some false) = some true := by
  obtain ⟨v, e1, e2⟩ := h M inv
  rw [e1, Option.bind_some, e2, Option.bind_some, if_pos rfl]
  exact nx M inv
theorem law_end {L i : Nat} (hL : L ≤ 3072) (hi : i ≤ 4000) : (nI L - 6 < nI i) ↔ L < i + 6 := by
  have k6 : (6 : Int32).toInt = 6 := rfl
  have a := nI_toInt (n := L) (by omega)
  have b := nI_toInt (n := i) (by omega)
  have e : (nI L - 6).toInt = (L : Int) - 6 := by rw [sub32, a, k6] <;> rw [a, k6] <;> omega
  rw [i_lt, e, b]
  omega
theorem lit_nI {i c : Nat} {x : Int32} (h : x = nI c) : nI i + x = nI (i + c) := by rw [h, nI_add]
set_option maxHeartbeats 4000000 in
set_option maxRecDepth 100000 in
theorem law_ok {xs : Nat → Int32} {L : Nat} (hL : L ≤ 3072) : ∀ (k i : Nat) (M : MM), INV M → L < i + k → 0 < k → i ≤ 3100 → f_L_law_18 xs L k (nI i) M = some true := by
  intro k
  induction k with
  | zero => intro i M _ _ h; omega
  | succ k ih =>
    intro i M hinv hk _ hi
    rw [f_L_law_18]
    by_cases hend : nI L - 6 < nI i
    · rw [if_pos hend]
    · rw [if_neg hend]
      rw [law_end hL (by omega)] at hend
      have G0 := fun (α : Type) => gd_of (α := α) (inb_nI (k := i) (L := L) (by omega) (by omega))
      have G1 : ∀ (α : Type) (q : Option α), gd (inb (nI i + 1) L) q = q := fun α => gd_of (α := α) (by rw [lit_nI (show (1 : Int32) = nI 1 from rfl)]; exact inb_nI (by omega) (by omega))
      have G2 : ∀ (α : Type) (q : Option α), gd (inb (nI i + 2) L) q = q := fun α => gd_of (α := α) (by rw [lit_nI (show (2 : Int32) = nI 2 from rfl)]; exact inb_nI (by omega) (by omega))
      have G3 : ∀ (α : Type) (q : Option α), gd (inb (nI i + 3) L) q = q := fun α => gd_of (α := α) (by rw [lit_nI (show (3 : Int32) = nI 3 from rfl)]; exact inb_nI (by omega) (by omega))
      have G4 : ∀ (α : Type) (q : Option α), gd (inb (nI i + 4) L) q = q := fun α => gd_of (α := α) (by rw [lit_nI (show (4 : Int32) = nI 4 from rfl)]; exact inb_nI (by omega) (by omega))
      have G5 : ∀ (α : Type) (q : Option α), gd (inb (nI i + 5) L) q = q := fun α => gd_of (α := α) (by rw [lit_nI (show (5 : Int32) = nI 5 from rfl)]; exact inb_nI (by omega) (by omega))
      have nx : ∀ M, INV M → f_L_law_1084 xs L (fun u0 uM => f_L_law_18 xs L k u0 uM) (nI i) M = some true := fun M h => by
        unfold f_L_law_1084
        rw [lit_nI (show (6 : Int32) = nI 6 from rfl)]
        exact ih (i + 6) M h (by omega) (by omega) (by omega)
      rw [G0]
      generalize xs (ix (nI i)) &&& 31 = op
      by_cases z0 : op = 0
      · rw [if_pos z0]
        simp only [G1, G2, G3]
        exact pairStep (setLines_pair _ _ _) hinv nx
      rw [if_neg z0]
      by_cases z1 : op = 1
      · rw [if_pos z1]
        simp only [G1, G2]
        exact pairStep (setPoint_pair _ _) hinv nx
      rw [if_neg z1]
      by_cases z2 : op = 2
      · rw [if_pos z2]
        unfold f_L_law_266 f_L_law_293
        simp only [G1, G2, G3]
        by_cases y : xs (ix (nI i + 1)) = 0
        · simp only [if_pos y]
          exact pairStep (addChannel_pair false _ _) hinv nx
        · simp only [if_neg y]
          exact pairStep (addChannel_pair true _ _) hinv nx
      rw [if_neg z2]
      by_cases z3 : op = 3
      · rw [if_pos z3]
        simp only [G1, G2, G3, G4, G5]
        exact pairStep (setMode_pair _ _ _ _ _) hinv nx
      rw [if_neg z3]
      by_cases z4 : op = 4
      · rw [if_pos z4]
        simp only [G1, G2, G3, G4]
        exact pairStep (addNotch_pair _ _ _ _) hinv nx
      rw [if_neg z4]
      by_cases z5 : op = 5
      · rw [if_pos z5]
        simp only [G1, G2]
        exact pairStep (set_pair _ _) hinv nx
      rw [if_neg z5]
      by_cases z6 : op = 6
      · rw [if_pos z6]
        simp only [G1]
        exact pairStep (start_pair _) hinv nx
      rw [if_neg z6]
      by_cases z7 : op = 7
      · rw [if_pos z7]
        simp only [G1]
        exact pairStep (step_pair _) hinv nx
      rw [if_neg z7]
      by_cases z8 : op = 8
      · rw [if_pos z8]
        unfold f_L_law_520 f_L_law_537
        simp only [G1, G2, G3]
        by_cases y : xs (ix (nI i + 1)) = 0
        · simp only [if_pos y]
          exact pairStep (hold_pair false) hinv nx
        · simp only [if_neg y]
          exact pairStep (hold_pair true) hinv nx
      rw [if_neg z8]
      by_cases z9 : op = 9
      · rw [if_pos z9]
        exact pairStep (abort_pair) hinv nx
      rw [if_neg z9]
      by_cases z10 : op = 10
      · rw [if_pos z10]
        simp only [G1]
        exact pairStep (append_pair _) hinv nx
      rw [if_neg z10]
      by_cases z11 : op = 11
      · rw [if_pos z11]
        exact pairStep (clearText_pair) hinv nx
      rw [if_neg z11]
      by_cases z12 : op = 12
      · rw [if_pos z12]
        exact pairStep (faultPosition_pair) hinv nx
      rw [if_neg z12]
      by_cases z13 : op = 13
      · rw [if_pos z13]
        exact pairStep (run_pair) hinv nx
      rw [if_neg z13]
      by_cases z14 : op = 14
      · rw [if_pos z14]
        exact pairStep (undo_pair) hinv nx
      rw [if_neg z14]
      by_cases z15 : op = 15
      · rw [if_pos z15]
        simp only [G1]
        exact pairStep (save_pair _) hinv nx
      rw [if_neg z15]
      by_cases z16 : op = 16
      · rw [if_pos z16]
        simp only [G1]
        exact pairStep (restore_pair _) hinv nx
      rw [if_neg z16]
      by_cases z17 : op = 17
      · rw [if_pos z17]
        simp only [G1]
        exact lookStep (frequency_look _) hinv nx
      rw [if_neg z17]
      by_cases z18 : op = 18
      · rw [if_pos z18]
        simp only [G1]
        exact lookStep (target_look _) hinv nx
      rw [if_neg z18]
      by_cases z19 : op = 19
      · rw [if_pos z19]
        simp only [G1, G2]
        exact lookStep (gain_look _ _) hinv nx
      rw [if_neg z19]
      by_cases z20 : op = 20
      · rw [if_pos z20]
        simp only [G1, G2]
        exact lookStep (limit_look _ _) hinv nx
      rw [if_neg z20]
      by_cases z21 : op = 21
      · rw [if_pos z21]
        simp only [G1, G2]
        exact lookStep (channel_look _ _) hinv nx
      rw [if_neg z21]
      by_cases z22 : op = 22
      · rw [if_pos z22]
        simp only [G1, G2]
        exact lookStep (level_look _ _) hinv nx
      rw [if_neg z22]
      by_cases z23 : op = 23
      · rw [if_pos z23]
        simp only [G1, G2]
        exact lookStep (averaged_look _ _) hinv nx
      rw [if_neg z23]
      by_cases z24 : op = 24
      · rw [if_pos z24]
        simp only [G1]
        exact lookStep (controlGain_look _) hinv nx
      rw [if_neg z24]
      by_cases z25 : op = 25
      · rw [if_pos z25]
        simp only [G1]
        exact lookStep (driveAt_look _) hinv nx
      rw [if_neg z25]
      by_cases z26 : op = 26
      · rw [if_pos z26]
        simp only [G1]
        exact lookStep (notchedBy_look _) hinv nx
      rw [if_neg z26]
      by_cases z27 : op = 27
      · rw [if_pos z27]
        simp only [G1, G2]
        exact lookStep (resonance_look _ _) hinv nx
      rw [if_neg z27]
      by_cases z28 : op = 28
      · rw [if_pos z28]
        simp only [G1]
        exact lookStep (total_look _) hinv nx
      rw [if_neg z28]
      by_cases z29 : op = 29
      · rw [if_pos z29]
        exact pairStep (loopsLeft_pair) hinv nx
      rw [if_neg z29]
      by_cases z30 : op = 30
      · rw [if_pos z30]
        simp only [G1]
        exact pairStep (wouldAbort_pair _) hinv nx
      rw [if_neg z30]
      by_cases z31 : op = 31
      · rw [if_pos z31]
        simp only [G1, G2]
        exact pairStep (highest_pair _ _) hinv nx
      rw [if_neg z31]
      exact nx M hinv
