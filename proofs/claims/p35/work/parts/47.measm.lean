/-! PURE, the class alone: by program out of the same part of whole -/
/-! PURE: measuring in the reference; the control level -/
theorem lin2 (a ln c : Nat) : nI a + (nI 6 * nI ln + nI c) = nI (a + 6 * ln + c) := by rw [mul_nI, nI_add, nI_add]; congr 1; omega
/-- nothing of the class and of the reference's other cells is changed -/
def Mo (M M' : MM) : Prop := ∀ q, q ≠ 658 → q ≠ 661 → M' q = M q
theorem Mo.rf {M : MM} : Mo M M := fun _ _ _ => rfl
theorem Mo.tr {M M1 M2 : MM} (h1 : Mo M M1) (h2 : Mo M1 M2) : Mo M M2 := fun q a b => (h2 q a b).trans (h1 q a b)
-- the control level
def cnF (ct : Nat → Bool) : Nat → Nat
  | 0 => 0
  | c + 1 => cnF ct c + (if ct c = true then 1 else 0)
def smF (ct : Nat → Bool) (lv : Nat → Int32) : Nat → Int
  | 0 => 0
  | c + 1 => smF ct lv c + (if ct c = true then (lv c).toInt else 0)
def mxF (ct : Nat → Bool) (lv : Nat → Int32) : Nat → Int32
  | 0 => 0
  | c + 1 => if ct c = true ∧ (cnF ct c = 0 ∨ mxF ct lv c < lv c) then lv c else mxF ct lv c
def mnF (ct : Nat → Bool) (lv : Nat → Int32) : Nat → Int32
  | 0 => 0
  | c + 1 => if ct c = true ∧ (cnF ct c = 0 ∨ lv c < mnF ct lv c) then lv c else mnF ct lv c
theorem cnF_le (ct : Nat → Bool) : ∀ c, cnF ct c ≤ c
  | 0 => Nat.le_refl _
  | c + 1 => by
    have := cnF_le ct c
    rw [cnF]
    split <;> omega
theorem smF_bd {ct : Nat → Bool} {lv : Nat → Int32} {B : Int} (hB : 0 ≤ B) : ∀ {c : Nat}, (∀ j, j < c → 0 ≤ (lv j).toInt ∧ (lv j).toInt ≤ B) → 0 ≤ smF ct lv c ∧ smF ct lv c ≤ cnF ct c * B
  | 0, _ => by simp [smF, cnF]
  | c + 1, h => by
    have h1 := smF_bd (ct := ct) hB (c := c) (fun j hj => h j (by omega))
    have h2 := h c (by omega)
    rw [smF, cnF]
    split
    · have : ((cnF ct c + 1 : Nat) : Int) * B = cnF ct c * B + B := by rw [Int.natCast_add, Int.add_mul]; simp
      omega
    · simp only [Int.add_zero, Nat.add_zero]; exact h1
theorem mm_bd {ct : Nat → Bool} {lv : Nat → Int32} {d : Int32} (hd : okD d) : ∀ {c : Nat}, (∀ j, j < c → LvB (lv j) d) → LvB (mxF ct lv c) d ∧ LvB (mnF ct lv c) d
  | 0, _ => by
    have h0 : (0 : Int32).toInt = 0 := by decide
    have := hd.1
    constructor <;> (show 0 ≤ (0 : Int32).toInt ∧ (0 : Int32).toInt ≤ 155 * d.toInt) <;> omega
  | c + 1, h => by
    have h1 := mm_bd (ct := ct) hd (c := c) (fun j hj => h j (by omega))
    have h2 := h c (by omega)
    rw [mxF, mnF]
    constructor
    · split
      · exact h2
      · exact h1.1
    · split
      · exact h2
      · exact h1.2
def clS (st : Int32) (ct : Nat → Bool) (lv : Nat → Int32) (C : Nat) : Int32 := if st = 0 then Int32.ofInt (smF ct lv C / cnF ct C) else if st = 1 then mxF ct lv C else mnF ct lv C
theorem clS_bd {st : Int32} {ct : Nat → Bool} {lv : Nat → Int32} {C : Nat} {d : Int32} (hd : okD d) (hC : C ≤ 6) (hc : 0 < cnF ct C) (h : ∀ j, j < C → LvB (lv j) d) : LvB (clS st ct lv C) d ∧ 0 ≤ smF ct lv C / cnF ct C ∧ smF ct lv C / cnF ct C ≤ 155 * d.toInt := by
  have hm := mm_bd (ct := ct) hd h
  have hs := smF_bd (ct := ct) (lv := lv) (B := 155 * d.toInt) (by have := hd.1; omega) (fun j hj => h j hj)
  have q0 : 0 ≤ smF ct lv C / cnF ct C := Int.ediv_nonneg hs.1 (by omega)
  have q1 : smF ct lv C / cnF ct C ≤ 155 * d.toInt := Int.ediv_le_of_le_mul (by omega) (by rw [Int.mul_comm]; exact hs.2)
  refine ⟨?_, q0, q1⟩
  unfold clS
  have := hd.2
  split
  · unfold LvB
    rw [Int32.toInt_ofInt_of_le (by omega) (by omega)]
    exact ⟨q0, q1⟩
  · split
    · exact hm.1
    · exact hm.2
