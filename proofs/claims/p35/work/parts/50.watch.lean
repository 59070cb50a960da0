/-! PURE, the class alone: by program out of the same part of whole -/
/-! PURE: counting what is above limits, both sides -/
def wStep (q : Nat → Int32) (c : Nat) (lv lim : Int32) : Nat → Int32 :=
  let q2 := if lim = -6 ∨ lv ≤ lim then upd q (34 + 29 * c + 25) 0 else
    upd (upd (upd q (34 + 29 * c + 25) (q (34 + 29 * c + 25) + 1)) (34 + 29 * c + 26) (if q (34 + 29 * c + 26) < q (34 + 29 * c + 25) + 1 then q (34 + 29 * c + 25) + 1 else q (34 + 29 * c + 26))) (34 + 29 * c + 27) (if q (34 + 29 * c + 27) < lv - lim then lv - lim else q (34 + 29 * c + 27))
  upd q2 (34 + 29 * c + 28) (if lv ≤ q (34 + 29 * c + 2) then 0 else q (34 + 29 * c + 28) + 1)
theorem upd_self {f : Nat → Int32} {k : Nat} {v : Int32} (h : f k = v) : upd f k v = f := by
  funext j
  by_cases e : j = k
  · subst e; rw [upd_eq, h]
  · rw [upd_ne e]
/-- what a step of the watch leaves -/
theorem wStep_un {q : Nat → Int32} {c : Nat} {lv lim : Int32} {k : Nat} (h : ¬ (34 + 29 * c + 25 ≤ k ∧ k ≤ 34 + 29 * c + 28)) : wStep q c lv lim k = q k := by
  unfold wStep
  rw [upd_ne (by omega)]
  split
  · rw [upd_ne (by omega)]
  · rw [upd_ne (by omega), upd_ne (by omega), upd_ne (by omega)]
theorem wStep_28 {q : Nat → Int32} {c : Nat} {lv lim : Int32} : wStep q c lv lim (34 + 29 * c + 28) = if lv ≤ q (34 + 29 * c + 2) then 0 else q (34 + 29 * c + 28) + 1 := by
  unfold wStep
  rw [upd_eq]
theorem wStep_26 {q : Nat → Int32} {c : Nat} {lv lim : Int32} (h : 0 ≤ (q (34 + 29 * c + 26)).toInt) : 0 ≤ (wStep q c lv lim (34 + 29 * c + 26)).toInt := by
  unfold wStep
  rw [upd_ne (by omega)]
  split
  · rw [upd_ne (by omega)]; exact h
  · rw [upd_ne (by omega), upd_eq]
    split
    · rename_i w; rw [i_lt] at w; omega
    · exact h
theorem watchC_step {M : MM} {b c : Nat} {q : Nat → Int32} {f lv : Int32} (h : Rep M b q) (hc : c < Cn q) (h6 : c < 6) (hN : ∃ N, q (34 + 29 * c + 12) = nI N ∧ N ≤ 4) (hl : M (b + (11 + 9 * c)) 12 = lv) (hp : 0 ≤ (q (34 + 29 * c + 26)).toInt) : ∃ M', f_X0_countLoop (b + (11 + 9 * c)) f M = some M' ∧ Rep M' b (wStep q c lv (limR q c f)) ∧ (∀ z, z ≠ b + (11 + 9 * c) → M' z = M z) ∧ M' (b + (11 + 9 * c)) 12 = lv ∧ M' (b + (11 + 9 * c)) 13 = M (b + (11 + 9 * c)) 13 ∧ Fr b M M' := by
  have el := limC_ok (f := f) h hc h6 hN
  have hcc := h.c hc h6
  have t := tr_c14 c h6
  have m2 := hcc.2.2.1
  have m14 := hcc.2.2.2.2.1
  have m15 := hcc.2.2.2.2.2.1
  have m16 := hcc.2.2.2.2.2.2.1
  have m17 := hcc.2.2.2.2.2.2.2
  generalize hA : b + (11 + 9 * c) = A at *
  generalize limR q c f = lim at *
  have nc : ∀ i, 34 + 29 * c + 25 ≤ i → i ≤ 34 + 29 * c + 28 → i ≠ 4 ∧ i ≠ 5 ∧ ∀ c', c' < 6 → 46 + 29 * c' ≠ i := fun i _ _ => ⟨by omega, by omega, fun _ _ => by omega⟩
  have P14 : ∀ {M : MM} {q : Nat → Int32} {v : Int32}, Rep M b q → Rep (ms M A 14 v) b (upd q (34 + 29 * c + 25) v) := fun h => hA ▸ Rep.put h t.1 (by omega) (by omega) (by omega) (nc _ (by omega) (by omega))
  have P15 : ∀ {M : MM} {q : Nat → Int32} {v : Int32}, Rep M b q → Rep (ms M A 15 v) b (upd q (34 + 29 * c + 26) v) := fun h => hA ▸ Rep.put h t.2.1 (by omega) (by omega) (by omega) (nc _ (by omega) (by omega))
  have P16 : ∀ {M : MM} {q : Nat → Int32} {v : Int32}, Rep M b q → Rep (ms M A 16 v) b (upd q (34 + 29 * c + 27) v) := fun h => hA ▸ Rep.put h t.2.2.1 (by omega) (by omega) (by omega) (nc _ (by omega) (by omega))
  have P17 : ∀ {M : MM} {q : Nat → Int32} {v : Int32}, Rep M b q → Rep (ms M A 17 v) b (upd q (34 + 29 * c + 28) v) := fun h => hA ▸ Rep.put h t.2.2.2.1 (by omega) (by omega) (by omega) (nc _ (by omega) (by omega))
  have F1 : ∀ {M1 : MM} {i : Nat} {v : Int32}, Fr b M M1 → Fr b M (ms M1 A i v) := fun h => hA ▸ Fr.put h (by omega)
  unfold f_X0_countLoop f_X0_countLoop_24 f_X0_countLoop_25 f_X0_countLoop_41 f_X0_countLoop_80 f_X0_countLoop_102
  rw [el, Option.bind_some, hl]
  by_cases ov : lim = -6 ∨ lv ≤ lim
  · have hmx : (if M A 15 < 0 then (0 : Int32) else M A 15) = M A 15 := if_neg (by rw [m15, i_lt, z0]; omega)
    refine ⟨ms (ms (ms M A 14 0) A 15 (M A 15)) A 17 (if lv ≤ M A 2 then 0 else M A 17 + 1), ?_, ?_, ?_, ?_, ?_, F1 (F1 (F1 Fr.rf))⟩
    · simp (disch := decide) only [bz_f0, if_true, ms_eq, ms_ni, hmx, hl]
      have key : (if lv ≤ M A 2 then some (ms (ms (ms M A 14 0) A 15 (M A 15)) A 17 0) else some (ms (ms (ms M A 14 0) A 15 (M A 15)) A 17 (M A 17 + 1))) = some (ms (ms (ms M A 14 0) A 15 (M A 15)) A 17 (if lv ≤ M A 2 then 0 else M A 17 + 1)) := by
        split <;> rfl
      by_cases q1 : lim = -6
      · rw [if_pos q1]; exact key
      · rw [if_neg q1, if_pos (ov.resolve_left q1)]; exact key
    · unfold wStep
      dsimp only
      rw [if_pos ov, ← m2, ← m17]
      have e15 : upd (upd q (34 + 29 * c + 25) 0) (34 + 29 * c + 26) (M A 15) = upd q (34 + 29 * c + 25) 0 := upd_self (by rw [upd_ne (by omega)]; exact m15.symm)
      have := P17 (v := if lv ≤ M A 2 then 0 else M A 17 + 1) (P15 (v := M A 15) (P14 (v := 0) h))
      rw [e15] at this
      exact this
    · intro z hz
      rw [ms_ne hz, ms_ne hz, ms_ne hz]
    · rw [ms_ni (by decide), ms_ni (by decide), ms_ni (by decide)]; exact hl
    · rw [ms_ni (by decide), ms_ni (by decide), ms_ni (by decide)]
  · have q1 : ¬ lim = -6 := fun z => ov (Or.inl z)
    have q2 : ¬ lv ≤ lim := fun z => ov (Or.inr z)
    refine ⟨ms (ms (ms (ms M A 14 (M A 14 + 1)) A 15 (if M A 15 < M A 14 + 1 then M A 14 + 1 else M A 15)) A 16 (if M A 16 < lv - lim then lv - lim else M A 16)) A 17 (if lv ≤ M A 2 then 0 else M A 17 + 1), ?_, ?_, ?_, ?_, ?_, F1 (F1 (F1 (F1 Fr.rf)))⟩
    · simp (disch := decide) only [bz_t0, if_false, ms_eq, ms_ni, hl]
      rw [if_neg q1, if_neg q2]
      split <;> rfl
    · unfold wStep
      dsimp only
      rw [if_neg ov, ← m2, ← m17, ← m14, ← m15, ← m16]
      exact P17 (P16 (P15 (P14 h)))
    · intro z hz
      rw [ms_ne hz, ms_ne hz, ms_ne hz, ms_ne hz]
    · rw [ms_ni (by decide), ms_ni (by decide), ms_ni (by decide), ms_ni (by decide)]; exact hl
    · rw [ms_ni (by decide), ms_ni (by decide), ms_ni (by decide), ms_ni (by decide)]
