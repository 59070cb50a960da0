/-! PURE, the class alone: by program out of the same part of whole -/
/-! PURE: wouldAbort on both sides -/
theorem meas_s {s : Nat} (h : measB s = true) : s = 1 ∨ s = 2 := of_decide_eq_true h
theorem loop9 {r : Nat → Int32} {C L P s ln nn : Nat} (h : WF r C L P s ln nn) (hs : s = 1 ∨ s = 2) : loopS r 1 = 3 ∨ ((loopS r 1 = 1 ∨ loopS r 1 = 2 ∨ loopS r 1 = 5) ∧ loopS r 9 = -6) := by
  rw [loopS_m h hs]
  have hw : WF (upd r 8 (r 8 + 1)) C L P s ln nn := h.up8 _
  clear h
  generalize upd r 8 (r 8 + 1) = r' at hw
  have h6 := hw.1.1.2
  have hln := hw.2.2.2.2.2.2.1.2
  obtain ⟨a1, a2, a3, a4, a5⟩ := hw.2.2.2.2.2.2.2.2.1 hs
  have lo : ∀ k, k < 34 → wS r' C ln nn k = r' k := fun k hk => wS_un (by omega) (by omega) (by omega) (fun j hj => by omega)
  have w9 : wS r' C ln nn 9 = -6 := (lo 9 (by omega)).trans a5
  have w1 : wS r' C ln nn 1 = 1 ∨ wS r' C ln nn 1 = 2 ∨ wS r' C ln nn 1 = 5 := by
    rw [lo 1 (by omega), hw.2.2.2.2.2.1.1]
    rcases hs with rfl | rfl
    · exact Or.inl rfl
    · exact Or.inr (Or.inl rfl)
  have go : ∀ (w : Nat → Int32) (j : Nat) (mg : Nat → Int32) (cl : Int32), goR w C j mg cl 1 = w 1 ∧ goR w C j mg cl 9 = w 9 := fun w j mg cl => by
    have ⟨z, nt, e⟩ : ∃ z nt, goR w C j mg cl = goS w j z nt := ⟨_, _, rfl⟩
    rw [e]
    exact ⟨goS_at (by omega) (by omega) (by omega), goS_at (by omega) (by omega) (by omega)⟩
  unfold mloopS
  by_cases o : offS r' C ln nn = -6
  · rw [if_pos o]
    right
    by_cases z : r' 1 = 1
    · rw [if_pos z]
      unfold sweepS
      cases stepL (nz (wS r' C ln nn 7)) ln L with
      | some j =>
        dsimp only
        rw [(go _ _ _ _).1, (go _ _ _ _).2]
        exact ⟨w1, w9⟩
      | none =>
        dsimp only
        split
        · rw [(go _ _ _ _).1, (go _ _ _ _).2, upd_ne (by omega), upd_ne (by omega), upd_ne (by omega), upd_ne (by omega)]
          exact ⟨w1, w9⟩
        · rw [upd_ne (show 1 ≠ 3 by omega), upd_eq, upd_ne (show 9 ≠ 3 by omega), upd_ne (show 9 ≠ 1 by omega), upd_ne (show 9 ≠ 6 by omega)]
          exact ⟨Or.inr (Or.inr rfl), w9⟩
    · rw [if_neg z, (go _ _ _ _).1, (go _ _ _ _).2]
      exact ⟨w1, w9⟩
  · rw [if_neg o]
    left
    rw [upd_ne (by omega), upd_ne (by omega), upd_eq]
/-- loops as long as it measures -/
noncomputable def msL : Nat → (Nat → Int32) → (Nat → Int32)
  | 0, r => r
  | d + 1, r => if r 1 = 1 ∨ r 1 = 2 then msL d (loopS r) else r
theorem meas_iff {r : Nat → Int32} {s : Nat} (h1 : r 1 = nI s ∧ s ≤ 5) : (r 1 = 1 ∨ r 1 = 2) ↔ measB s = true := by
  rw [h1.1]
  rcases (show s = 0 ∨ s = 1 ∨ s = 2 ∨ s = 3 ∨ s = 4 ∨ s = 5 by omega) with rfl | rfl | rfl | rfl | rfl | rfl <;> decide
/-- in a forecast that began measuring: the abort channel says -6, or the state is 3 -/
def Q9 (r : Nat → Int32) : Prop := r 1 = 3 ∨ r 9 = -6
theorem waC {X : Nat} (hX : X ≤ 300) : ∀ (d j k : Nat) (M : MM) (r : Nat → Int32), j + d = X → d < k → Rep M 65 r → WFr r → ∃ M', f_X6_wouldAbort_40 650 k (nI X) (nI j) M = some (msL d r 9, M') ∧ Fr 65 M M' := by
  intro d
  induction d with
  | zero =>
    intro j k M r hj hk hR hw
    obtain ⟨k, rfl⟩ : ∃ k', k = k' + 1 := ⟨k - 1, by omega⟩
    rw [f_X6_wouldAbort_40, if_pos (by rw [le_nI (by omega) (by omega)]; omega)]
    unfold f_X6_wouldAbort_68
    exact ⟨M, by rw [show M 65 14 = r 9 from hR.s.2.2.2.2.2.2.2.2.1]; rfl, Fr.rf⟩
  | succ d ih =>
    intro j k M r hj hk hR hw
    obtain ⟨k, rfl⟩ : ∃ k', k = k' + 1 := ⟨k - 1, by omega⟩
    obtain ⟨C, L, P, s, ln, nn, hw'⟩ := id hw
    have h1 := hw'.2.2.2.2.2.1
    rw [f_X6_wouldAbort_40, if_neg (by rw [le_nI (by omega) (by omega)]; omega), measuresC hR h1, Option.bind_some, msL]
    cases hb : measB s with
    | false =>
      rw [if_pos bz_f0, if_neg (by rw [meas_iff h1, hb]; decide)]
      unfold f_X6_wouldAbort_68
      exact ⟨M, by rw [show M 65 14 = r 9 from hR.s.2.2.2.2.2.2.2.2.1], Fr.rf⟩
    | true =>
      have hs := meas_s hb
      rw [if_neg bz_t0, if_pos ((meas_iff h1).mpr hb)]
      obtain ⟨M1, e1, R1, -, F1⟩ := loopC_ok hw' (by omega) hR
      obtain ⟨s', ln', hw1⟩ := loopS_WF hw' (by omega)
      rw [e1, Option.bind_some, nI_1]
      obtain ⟨M2, e2, F2⟩ := ih (j + 1) k M1 (loopS r) (by omega) (by omega) R1 ⟨C, L, P, s', ln', nn, hw1⟩
      exact ⟨M2, e2, F1.tr F2⟩
