/-! PURE, the class alone: by program out of the same part of whole -/
/-! PURE: an act of the text, both sides -/
theorem numB_wi {q : Nat × Int32} {lo hi : Int32} (h : numB q lo hi = true) : wi q.2 lo hi = true := by
  unfold numB at h
  rw [Bool.and_eq_true] at h
  exact h.2
theorem upd_same {f : Nat → Int32} {k : Nat} : upd f k (f k) = f := by
  funext x
  by_cases q : x = k
  · subst q; rw [upd_eq]
  · rw [upd_ne q]
/-- what an act does, the class, then the reference -/
def DoC (r : Nat → Int32) (c a b : Int32) (ok : Bool) (r' : Nat → Int32) : Prop := ∀ M : MM, Rep M 0 r → M 655 3 = c → (c = 103 ∨ c = 115 ∨ c = 99 → M 655 5 = a) → (c = 99 → M 655 6 = b) → ∃ v M', f_X6_carryOutAct 650 M = some (v, M') ∧ (v < 0 ↔ ok = false) ∧ Rep M' 0 r' ∧ Fr 0 M M'
theorem neg_f {v : Int32} (h : v < 0) : v < 0 ↔ false = false := ⟨fun _ => rfl, fun _ => h⟩
theorem neg_t {v : Int32} (h : ¬ v < 0) : v < 0 ↔ true = false := ⟨fun z => absurd z h, fun z => absurd z (by decide)⟩
theorem lpS_rest {X : Nat} {r : Nat → Int32} (h : ¬ (r 1 = 1 ∨ r 1 = 2 ∨ r 1 = 3)) : lpS X 0 r = (r, 0) := by
  cases X with
  | zero => rfl
  | succ X => rw [lpS, if_neg h]
