/-! PURE, the class alone: by program out of the same part of whole -/
/-! PURE: levels, measured and averaged gains: the class's ints and the reference's longs -/
def lvS (g d : Int32) : Int32 := Int64.toInt32 (g.toInt64 * d.toInt64 / 1000)
def mgS (lv d : Int32) : Int32 := Int64.toInt32 (lv.toInt64 * 1000 / d.toInt64)
def avS (n old v : Int32) : Int32 := if old = -6 then v else Int64.toInt32 ((old.toInt64 * (n - 1).toInt64 + v.toInt64) / n.toInt64)
def okD (d : Int32) : Prop := 1 ≤ d.toInt ∧ d.toInt ≤ 100000
def LvB (lv d : Int32) : Prop := 0 ≤ lv.toInt ∧ lv.toInt ≤ 155 * d.toInt
def okA (x : Int32) : Prop := x = -6 ∨ Sm x 155000
theorem k1000 : (1000 : Int64).toInt = 1000 := by decide
theorem lvS_toInt {g d : Int32} (hg : Sm g 155000) (hd : okD d) : (lvS g d).toInt = g.toInt * d.toInt / 1000 ∧ LvB (lvS g d) d := by
  obtain ⟨g1, g2⟩ := hg
  obtain ⟨d1, d2⟩ := hd
  have h0 : 0 ≤ g.toInt * d.toInt := Int.mul_nonneg g1 (by omega)
  have h1 : g.toInt * d.toInt ≤ 155000 * d.toInt := Int.mul_le_mul_of_nonneg_right g2 (by omega)
  have e1 : (g.toInt64 * d.toInt64).toInt = g.toInt * d.toInt := by rw [mul64, i2l_toInt, i2l_toInt] <;> rw [i2l_toInt, i2l_toInt] <;> omega
  have e2 : (g.toInt64 * d.toInt64 / 1000).toInt = g.toInt * d.toInt / 1000 := by rw [div64, e1, k1000] <;> first | rw [e1]; exact h0 | decide
  have e3 : (lvS g d).toInt = g.toInt * d.toInt / 1000 := by
    unfold lvS
    rw [l2i_toInt, e2] <;> rw [e2] <;> omega
  refine ⟨e3, ?_⟩
  unfold LvB
  rw [e3]
  omega
theorem mgS_toInt {lv d : Int32} (hl : LvB lv d) (hd : okD d) : (mgS lv d).toInt = lv.toInt * 1000 / d.toInt ∧ Sm (mgS lv d) 155000 := by
  obtain ⟨l1, l2⟩ := hl
  obtain ⟨d1, d2⟩ := hd
  have e1 : (lv.toInt64 * 1000).toInt = lv.toInt * 1000 := by rw [mul64, i2l_toInt, k1000] <;> rw [i2l_toInt, k1000] <;> omega
  have e2 : (lv.toInt64 * 1000 / d.toInt64).toInt = lv.toInt * 1000 / d.toInt := by
    rw [div64, e1, i2l_toInt]
    · rw [e1]; omega
    · rw [i2l_toInt]; omega
  have q0 : 0 ≤ lv.toInt * 1000 / d.toInt := Int.ediv_nonneg (by omega) (by omega)
  have q1 : lv.toInt * 1000 / d.toInt ≤ 155000 := Int.ediv_le_of_le_mul (by omega) (by omega)
  have e3 : (mgS lv d).toInt = lv.toInt * 1000 / d.toInt := by
    unfold mgS
    rw [l2i_toInt, e2] <;> rw [e2] <;> omega
  exact ⟨e3, by unfold Sm; rw [e3]; omega⟩
theorem mgC_ok {lv d : Int32} {M : MM} (hd : okD d) : f_X6_measuredGain lv d M = some (mgS lv d) := by
  unfold f_X6_measuredGain f_X6_measuredGain_18 mgS
  obtain ⟨d1, d2⟩ := hd
  have h0 : (0 : Int32).toInt = 0 := by decide
  rw [if_neg (by rw [i_le, h0]; omega), gd_of]
  refine nzl_of (fun e => ?_)
  have := congrArg Int64.toInt e
  rw [i2l_toInt] at this
  have h1 : (0 : Int64).toInt = 0 := by decide
  omega
theorem avS_toInt {n old v : Int32} (hn : 1 ≤ n.toInt ∧ n.toInt ≤ 8) (ho : Sm old 155000) (hv : Sm v 155000) : (avS n old v).toInt = (old.toInt * (n.toInt - 1) + v.toInt) / n.toInt ∧ Sm (avS n old v) 155000 := by
  obtain ⟨o1, o2⟩ := ho
  obtain ⟨v1, v2⟩ := hv
  have hne : ¬ old = -6 := fun e => by rw [e] at o1; exact absurd o1 (by decide)
  have s1 : (n - 1).toInt = n.toInt - 1 := by
    have : (1 : Int32).toInt = 1 := by decide
    rw [sub32, this] <;> rw [this] <;> omega
  have p0 : 0 ≤ old.toInt * (n.toInt - 1) := Int.mul_nonneg o1 (by omega)
  have p1 : old.toInt * (n.toInt - 1) ≤ 155000 * (n.toInt - 1) := Int.mul_le_mul_of_nonneg_right o2 (by omega)
  have e1 : (old.toInt64 * (n - 1).toInt64).toInt = old.toInt * (n.toInt - 1) := by rw [mul64, i2l_toInt, i2l_toInt, s1] <;> rw [i2l_toInt, i2l_toInt, s1] <;> omega
  have e2 : (old.toInt64 * (n - 1).toInt64 + v.toInt64).toInt = old.toInt * (n.toInt - 1) + v.toInt := by rw [add64, e1, i2l_toInt] <;> rw [e1, i2l_toInt] <;> omega
  have e3 : ((old.toInt64 * (n - 1).toInt64 + v.toInt64) / n.toInt64).toInt = (old.toInt * (n.toInt - 1) + v.toInt) / n.toInt := by
    rw [div64, e2, i2l_toInt]
    · rw [e2]; omega
    · rw [i2l_toInt]; omega
  have q0 : 0 ≤ (old.toInt * (n.toInt - 1) + v.toInt) / n.toInt := Int.ediv_nonneg (by omega) (by omega)
  have q1 : (old.toInt * (n.toInt - 1) + v.toInt) / n.toInt ≤ 155000 := Int.ediv_le_of_le_mul (by omega) (by omega)
  have e4 : (avS n old v).toInt = (old.toInt * (n.toInt - 1) + v.toInt) / n.toInt := by
    unfold avS
    rw [if_neg hne, l2i_toInt, e3] <;> rw [e3] <;> omega
  exact ⟨e4, by unfold Sm; rw [e4]; omega⟩
theorem avS_ok {n old v : Int32} (hn : 1 ≤ n.toInt ∧ n.toInt ≤ 8) (ho : okA old) (hv : Sm v 155000) : Sm (avS n old v) 155000 := by
  rcases ho with rfl | ho
  · unfold avS; rw [if_pos rfl]; exact hv
  · exact (avS_toInt hn ho hv).2
theorem avC_ok {n old v : Int32} {M : MM} (hn : 1 ≤ n.toInt ∧ n.toInt ≤ 8) (ho : okA old) (hv : Sm v 155000) : f_X6_averagedGain old v n M = some (avS n old v) := by
  unfold f_X6_averagedGain f_X6_averagedGain_10
  have h0 : (0 : Int32).toInt = 0 := by decide
  rcases ho with rfl | ho
  · unfold avS; rw [if_pos rfl, if_pos rfl]
  · obtain ⟨a1, -⟩ := avS_toInt hn ho hv
    obtain ⟨o1, o2⟩ := ho
    obtain ⟨v1, v2⟩ := hv
    have hne : ¬ old = -6 := fun e => by rw [e] at o1; exact absurd o1 (by decide)
    have hn0 : ¬ n = 0 := fun e => by rw [e, h0] at hn; omega
    rw [if_neg hne, if_pos (by rw [i_lt, h0]; omega), gd_of (nz_of hn0)]
    congr 1
    rw [i_eq, a1]
    have s1 : (n - 1).toInt = n.toInt - 1 := by
      have : (1 : Int32).toInt = 1 := by decide
      rw [sub32, this] <;> rw [this] <;> omega
    have p0 : 0 ≤ old.toInt * (n.toInt - 1) := Int.mul_nonneg o1 (by omega)
    have p1 : old.toInt * (n.toInt - 1) ≤ 155000 * (n.toInt - 1) := Int.mul_le_mul_of_nonneg_right o2 (by omega)
    have e1 : (old * (n - 1)).toInt = old.toInt * (n.toInt - 1) := by rw [mul32, s1] <;> rw [s1] <;> omega
    have e2 : (old * (n - 1) + v).toInt = old.toInt * (n.toInt - 1) + v.toInt := by rw [add32, e1] <;> rw [e1] <;> omega
    rw [div32, e2]
    · rw [e2]; omega
    · omega
