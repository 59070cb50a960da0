/-! PURE, the class alone: by program out of the same part of whole -/
theorem goR_WF {w : Nat → Int32} {C L P ln nn j : Nat} {mg : Nat → Int32} {cl : Int32} (H : SW w C L P ln nn) (hj : j < L) (h1 : w 1 = 1 ∨ w 1 = 2) (hct : 0 < cnF (ctR w) C) (h9 : w 9 = -6) : ∃ s', (s' = 1 ∨ s' = 2) ∧ WF (goR w C j mg cl) C L P s' j nn := by
  have hL := H.1.2.1.1.2
  have ⟨z, nt, e, hz⟩ : ∃ z nt, goR w C j mg cl = goS w j z nt ∧ okD z := ⟨_, _, rfl, cutD_ok _⟩
  rw [e]
  have at' : ∀ k, k < 1608 → k ≠ 2 → k ≠ 3 → goS w j z nt k = w k := fun k a b c => goS_at a b c
  obtain ⟨p1, p2, p3, p4, p5⟩ := freeEq.parts (freeEq.go (nx := j) (z := z) (nt := nt)) H.1
  have hc : cnF (ctR (goS w j z nt)) C = cnF (ctR w) C := cnF_cong (fun c hc => by have := H.1.1.1.2; unfold ctR; rw [at' _ (by omega) (by omega) (by omega)])
  have rest : (goS w j z nt 7 = 0 ∨ goS w j z nt 7 = 1) := by rw [at' 7 (by omega) (by omega) (by omega)]; exact H.2.2.2.2
  have c3 : ∀ s, (s = 1 ∨ s = 2 → j < L ∧ 0 < P ∧ 0 < cnF (ctR (goS w j z nt)) C ∧ okD (goS w j z nt 3) ∧ goS w j z nt 9 = -6) := fun s _ => ⟨hj, H.2.2.1, by rw [hc]; exact hct, by rw [goS_2.2]; exact hz, by rw [at' 9 (by omega) (by omega) (by omega)]; exact h9⟩
  rcases h1 with h1 | h1
  · exact ⟨1, Or.inl rfl, p1, p2, p3, p4, p5, ⟨by rw [at' 1 (by omega) (by omega) (by omega)]; exact h1, by omega⟩, ⟨goS_2.1, by omega⟩, rest, c3 1, fun h => by omega⟩
  · exact ⟨2, Or.inr rfl, p1, p2, p3, p4, p5, ⟨by rw [at' 1 (by omega) (by omega) (by omega)]; exact h1, by omega⟩, ⟨goS_2.1, by omega⟩, rest, c3 2, fun h => by omega⟩
theorem stepL_lt {up : Bool} {ln L : Nat} (hl : ln < L) (hL : L ≤ 100) : (stepL up ln L).getD ln < L := by
  cases h : stepL up ln L with
  | none => exact hl
  | some j => exact (stepL_some hl hL h).2.1
theorem loopS_WF {r : Nat → Int32} {C L P s ln nn : Nat} (h : WF r C L P s ln nn) (hs : s = 1 ∨ s = 2 ∨ s = 3) : ∃ s' ln', WF (loopS r) C L P s' ln' nn := by
  have h1 := h.2.2.2.2.2.1
  by_cases q : s = 3
  · subst q
    unfold loopS
    rw [if_pos (show r 1 = 3 from h1.1)]
    obtain ⟨hc, hl, hp, hst, ha, -, h2, h7, h8, h9⟩ := h
    have fe : freeEq r (rampS (upd r 8 (r 8 + 1))) := ((freeEq.put (by omega)).tr (freeEq.put (by omega))).tr (freeEq.put (by omega))
    obtain ⟨p1, p2, p3, p4, p5⟩ := fe.parts ⟨hc, hl, hp, hst, ha⟩
    have e2 : rampS (upd r 8 (r 8 + 1)) 2 = r 2 := by unfold rampS; rw [upd_ne (by omega), upd_ne (by omega), upd_ne (by omega)]
    have e7 : rampS (upd r 8 (r 8 + 1)) 7 = r 7 := by unfold rampS; rw [upd_ne (by omega), upd_ne (by omega), upd_ne (by omega)]
    have e3 : rampS (upd r 8 (r 8 + 1)) 3 = r 3 * r 16 / 100 := by unfold rampS; rw [upd_ne (by omega), upd_eq, upd_ne (by omega), upd_ne (by omega)]
    have e1 : rampS (upd r 8 (r 8 + 1)) 1 = if r 3 * r 16 / 100 = 0 then 4 else 3 := by unfold rampS; rw [upd_eq, upd_ne (show 3 ≠ 8 by omega), upd_ne (show 16 ≠ 8 by omega)]
    by_cases z : r 3 * r 16 / 100 = 0
    · rw [if_pos z] at e1
      exact ⟨4, ln, p1, p2, p3, p4, p5, ⟨e1, by omega⟩, ⟨e2.trans h2.1, h2.2⟩, by rw [e7]; exact h7, fun h => by omega, fun _ => e3.trans z⟩
    · rw [if_neg z] at e1
      exact ⟨3, ln, p1, p2, p3, p4, p5, ⟨e1, by omega⟩, ⟨e2.trans h2.1, h2.2⟩, by rw [e7]; exact h7, fun h => by omega, fun h => by omega⟩
  · have hs2 : s = 1 ∨ s = 2 := by omega
    rw [loopS_m h hs2]
    generalize hr : upd r 8 (r 8 + 1) = r'
    have hw : WF r' C L P s ln nn := by rw [← hr]; exact h.up8 _
    clear hr h1 h
    have HS := hw.sw hs2
    obtain ⟨hc, hl, hp, hst, ha, g1, h2, h7, h8, h9⟩ := id hw
    obtain ⟨a1, a2, a3, a4, a5⟩ := h8 hs2
    have h6 := hc.1.2
    have hL := hl.1.2
    have lo : ∀ k, k < 34 → wS r' C ln nn k = r' k := fun k hk => wS_un (by omega) (by omega) (by omega) (fun j hj => by omega)
    have hct : cnF (ctR (wS r' C ln nn)) C = cnF (ctR r') C := cnF_cong (fun c hc => by
      unfold ctR
      rw [wS_un (by omega) (by omega) (by omega) (fun j hj => by omega)])
    have w1 : wS r' C ln nn 1 = 1 ∨ wS r' C ln nn 1 = 2 := by
      rw [lo 1 (by omega), g1.1]
      rcases hs2 with rfl | rfl
      · exact Or.inl rfl
      · exact Or.inr rfl
    have w9 : wS r' C ln nn 9 = -6 := (lo 9 (by omega)).trans a5
    have wct : 0 < cnF (ctR (wS r' C ln nn)) C := by rw [hct]; exact a3
    have ofGo : ∀ (w : Nat → Int32) (j : Nat), SW w C L P ln nn → j < L → (w 1 = 1 ∨ w 1 = 2) → 0 < cnF (ctR w) C → w 9 = -6 → ∃ s' ln', WF (goR w C j (mgV r' ln) (clR r' C (r' (208 + ln)) (r' 3))) C L P s' ln' nn := fun w j a b c d e => by
      obtain ⟨s', _, h⟩ := goR_WF (mg := mgV r' ln) (cl := clR r' C (r' (208 + ln)) (r' 3)) a b c d e
      exact ⟨s', j, h⟩
    unfold mloopS
    by_cases o : offS r' C ln nn = -6
    · rw [if_pos o]
      by_cases z : r' 1 = 1
      · rw [if_pos z]
        unfold sweepS
        cases hst2 : stepL (nz (wS r' C ln nn 7)) ln L with
        | some j =>
          dsimp only
          exact ofGo _ j HS (stepL_some a1 hL hst2).2.1 w1 wct w9
        | none =>
          dsimp only
          split
          · have e : ∀ k, k ≠ 6 → k ≠ 7 → (upd (upd (wS r' C ln nn) 6 (wS r' C ln nn 6 + 1)) 7 (bz (!(nz (wS r' C ln nn 7))))) k = wS r' C ln nn k := fun k a b => by rw [upd_ne b, upd_ne a]
            refine ofGo _ _ (HS.free ((freeEq.put (by omega)).tr (freeEq.put (by omega))) (e 2 (by omega) (by omega)) (e 3 (by omega) (by omega)) (by rw [upd_eq]; exact bz_01 _)) (stepL_lt a1 hL) (by rw [e 1 (by omega) (by omega)]; exact w1) ?_ (by rw [e 9 (by omega) (by omega)]; exact w9)
            rw [cnF_cong (ct' := ctR _) (ct := ctR (wS r' C ln nn)) (fun c hc => by unfold ctR; rw [e _ (by omega) (by omega)])]
            exact wct
          · obtain ⟨p1, p2, p3, p4, p5⟩ := freeEq.parts (((freeEq.put (r := wS r' C ln nn) (i := 6) (v := wS r' C ln nn 6 + 1) (by omega)).tr (freeEq.put (i := 1) (v := 5) (by omega))).tr (freeEq.put (i := 3) (v := 0) (by omega))) HS.1
            refine ⟨5, ln, p1, p2, p3, p4, p5, ⟨by rw [upd_ne (by omega), upd_eq]; rfl, by omega⟩, ⟨by rw [upd_ne (by omega), upd_ne (by omega), upd_ne (by omega)]; exact HS.2.1.1, h2.2⟩, by rw [upd_ne (by omega), upd_ne (by omega), upd_ne (by omega)]; exact HS.2.2.2.2, fun h => by omega, fun _ => upd_eq _ _ _⟩
      · rw [if_neg z]
        exact ofGo _ ln HS a1 w1 wct w9
    · rw [if_neg o]
      obtain ⟨p1, p2, p3, p4, p5⟩ := freeEq.parts (((freeEq.put (r := wS r' C ln nn) (i := 1) (v := 3) (by omega)).tr (freeEq.put (i := 9) (v := offS r' C ln nn) (by omega))).tr (freeEq.put (i := 10) (v := nI ln) (by omega))) HS.1
      refine ⟨3, ln, p1, p2, p3, p4, p5, ⟨by rw [upd_ne (by omega), upd_ne (by omega), upd_eq]; rfl, by omega⟩, ⟨by rw [upd_ne (by omega), upd_ne (by omega), upd_ne (by omega)]; exact HS.2.1.1, h2.2⟩, by rw [upd_ne (by omega), upd_ne (by omega), upd_ne (by omega)]; exact HS.2.2.2.2, fun h => by omega, fun h => by omega⟩
