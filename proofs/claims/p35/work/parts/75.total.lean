/-! PURE, the class alone: by program out of the same part of whole -/
theorem bzc {M : MM} {a : Nat} {v : Int32} (h : M a 0 = v) (hv : v = 0 ∨ v = 1) : f_X0_propertyOf a 0 M = some v := by
  unfold f_X0_propertyOf f_X0_propertyOf_56
  rw [if_pos rfl, h]
  rcases hv with rfl | rfl
  · rw [if_pos (by decide)]; rfl
  · rw [if_neg (by decide)]; rfl
