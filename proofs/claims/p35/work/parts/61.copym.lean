/-! PURE, the class alone: by program out of the same part of whole -/
/-! PURE: blocks of the reference's row -/
def blk (R : Nat → Int32) (i : Nat) : Nat → Int32 := fun k => R (1808 * i + k)
/-- block i of R laid over block j -/
def cpB (R : Nat → Int32) (i j : Nat) : Nat → Int32 := fun k => if 1808 * j ≤ k ∧ k < 1808 * j + 1808 then R (1808 * i + (k - 1808 * j)) else R k
def cpP (R : Nat → Int32) (i j n : Nat) : Nat → Int32 := fun k => if 1808 * j ≤ k ∧ k < 1808 * j + n then R (1808 * i + (k - 1808 * j)) else R k
theorem cpP_0 (R : Nat → Int32) (i j : Nat) : cpP R i j 0 = R := by
  funext k
  unfold cpP
  rw [if_neg (by omega)]
theorem cpP_succ {R : Nat → Int32} {i j n : Nat} (hij : i ≠ j) (hn : n < 1808) : upd (cpP R i j n) (1808 * j + n) (cpP R i j n (1808 * i + n)) = cpP R i j (n + 1) := by
  funext k
  have e : cpP R i j n (1808 * i + n) = R (1808 * i + n) := by
    unfold cpP
    rw [if_neg (by omega)]
  rw [e]
  by_cases q : k = 1808 * j + n
  · subst q
    rw [upd_eq]
    unfold cpP
    rw [if_pos (by omega)]
    congr 1
    omega
  · rw [upd_ne q]
    unfold cpP
    by_cases z : 1808 * j ≤ k ∧ k < 1808 * j + n
    · rw [if_pos z, if_pos (by omega)]
    · rw [if_neg z, if_neg (by omega)]
theorem cpB_at {R : Nat → Int32} {i j a : Nat} {k : Nat} (hk : k < 1808) : blk (cpB R i j) a k = if a = j then blk R i k else blk R a k := by
  unfold blk cpB
  by_cases q : a = j
  · subst q
    rw [if_pos rfl, if_pos (by omega)]
    congr 1
    omega
  · rw [if_neg q, if_neg (by omega)]
/-- the history's blocks one down -/
def shF (R : Nat → Int32) : Nat → Nat → Int32
  | 0 => R
  | n + 1 => cpB (shF R n) (n + 2) (n + 1)
theorem shF_at {R : Nat → Int32} {n a k : Nat} (hk : k < 1808) : blk (shF R n) a k = if 1 ≤ a ∧ a ≤ n then blk R (a + 1) k else blk R a k := by
  induction n generalizing a with
  | zero => rw [if_neg (by omega)]; rfl
  | succ n ih =>
    rw [shF, cpB_at hk]
    by_cases q : a = n + 1
    · subst q
      rw [if_pos rfl, if_pos (by omega), ih, if_neg (by omega)]
    · rw [if_neg q, ih]
      by_cases z : 1 ≤ a ∧ a ≤ n
      · rw [if_pos z, if_pos (by omega)]
      · rw [if_neg z, if_neg (by omega)]
def recR (R : Nat → Int32) (kp : Nat) : Nat → Int32 := if kp = 5 then cpB (shF R 4) 0 5 else cpB R 0 (kp + 1)
def kp1 (kp : Nat) : Nat := if kp = 5 then 5 else kp + 1
theorem recR_at {R : Nat → Int32} {kp a k : Nat} (hkp : kp ≤ 5) (hk : k < 1808) : blk (recR R kp) a k = if a = kp1 kp then blk R 0 k else if kp = 5 ∧ 1 ≤ a ∧ a < 5 then blk R (a + 1) k else blk R a k := by
  unfold recR kp1
  by_cases q : kp = 5
  · subst q
    rw [if_pos rfl, if_pos rfl, cpB_at hk, shF_at hk, shF_at hk, if_neg (show ¬ (1 ≤ 0 ∧ 0 ≤ 4) by omega)]
    by_cases z : a = 5
    · rw [if_pos z, if_pos z]
    · rw [if_neg z, if_neg z]
      by_cases y : 1 ≤ a ∧ a ≤ 4
      · rw [if_pos y, if_pos (by omega)]
      · rw [if_neg y, if_neg (by omega)]
  · rw [if_neg q, if_neg q, cpB_at hk, if_neg (show ¬ (kp = 5 ∧ 1 ≤ a ∧ a < 5) by omega)]
