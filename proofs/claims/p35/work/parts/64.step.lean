/-! PURE, the class alone: by program out of the same part of whole -/
/-! PURE: step, hold and abort on both sides -/
theorem MI.mo {M M' : MM} {R r' : Nat → Int32} {kp n : Nat} {tx fl : Nat → Int32} (h : MI M R kp n tx fl) (e : Mo M M') (er : M' 658 = r') : MI M' r' kp n tx fl := by
  obtain ⟨a, b, c, d, f⟩ := h
  exact ⟨er, by rw [e _ (by omega) (by omega)]; exact b, by rw [e _ (by omega) (by omega)]; exact c, fun k hk => by rw [e _ (by omega) (by omega)]; exact d k hk, fun x hx => by rw [e _ (by omega) (by omega)]; exact f x hx⟩
theorem Mo.hi {M M' : MM} (e : Mo M M') : Hi M M' := fun q hq => e q (by omega) (by omega)
theorem Mo.row {M : MM} {f : Nat → Int32} : Mo M (msf M 658 f) := fun _ a _ => msf_ne a
def restB (s : Nat) : Bool := decide (s = 0 ∨ 4 ≤ s)
def measB (s : Nat) : Bool := decide (s = 1 ∨ s = 2)
theorem measuresC {M : MM} {b s : Nat} {r : Nat → Int32} (hR : Rep M b r) (h1 : r 1 = nI s ∧ s ≤ 5) : f_X4_measures b M = some (measB s) := by
  have m8 : M b 8 = nI s := hR.s.2.2.1.trans h1.1
  unfold f_X4_measures f_X4_measures_16 f_X4_measures_21
  rw [m8]
  rcases (show s = 0 ∨ s = 1 ∨ s = 2 ∨ s = 3 ∨ s = 4 ∨ s = 5 by omega) with rfl | rfl | rfl | rfl | rfl | rfl <;> rfl
theorem restsC {M : MM} {b s : Nat} {r : Nat → Int32} (hR : Rep M b r) (h1 : r 1 = nI s ∧ s ≤ 5) : f_X4_rests b M = some (restB s) := by
  have m8 : M b 8 = nI s := hR.s.2.2.1.trans h1.1
  unfold f_X4_rests f_X4_rests_19 f_X4_rests_20
  rw [measuresC hR h1, Option.bind_some, m8]
  rcases (show s = 0 ∨ s = 1 ∨ s = 2 ∨ s = 3 ∨ s = 4 ∨ s = 5 by omega) with rfl | rfl | rfl | rfl | rfl | rfl <;> rfl
theorem goR_hi {w : Nat → Int32} {C j : Nat} {mg : Nat → Int32} {cl : Int32} (hj : j < 100) {k : Nat} (hk : 1808 ≤ k) : goR w C j mg cl k = w k := by
  have ⟨z, nt, e⟩ : ∃ z nt, goR w C j mg cl = goS w j z nt := ⟨_, _, rfl⟩
  rw [e]
  unfold goS
  rw [upd_ne (by omega), upd_ne (by omega), upd_ne (by omega), upd_ne (by omega)]
theorem loopS_hi {r : Nat → Int32} {C L P s ln nn : Nat} (h : WF r C L P s ln nn) (hs : s = 1 ∨ s = 2 ∨ s = 3) {k : Nat} (hk : 1808 ≤ k) : loopS r k = r k := by
  have h1 := h.2.2.2.2.2.1
  by_cases q : s = 3
  · subst q
    unfold loopS
    rw [if_pos (show r 1 = 3 from h1.1)]
    unfold rampS
    rw [upd_ne (by omega), upd_ne (by omega), upd_ne (by omega)]
  · have hs2 : s = 1 ∨ s = 2 := by omega
    rw [loopS_m h hs2]
    have h6 := h.1.1.2
    have hL := h.2.1.1.2
    have hln := h.2.2.2.2.2.2.1.2
    have e0 : upd r 8 (r 8 + 1) k = r k := upd_ne (by omega)
    rw [← e0]
    generalize upd r 8 (r 8 + 1) = r'
    have e1 : wS r' C ln nn k = r' k := wS_un (by omega) (by omega) (by omega) (fun j hj => by omega)
    unfold mloopS sweepS
    split
    · split
      · cases hst2 : stepL (nz (wS r' C ln nn 7)) ln L with
        | some j =>
          dsimp only
          have : ln < L := (h.2.2.2.2.2.2.2.2.1 hs2).1
          rw [goR_hi (by have := (stepL_some this hL hst2).2.1; omega) hk, e1]
        | none =>
          dsimp only
          have : ln < L := (h.2.2.2.2.2.2.2.2.1 hs2).1
          split
          · rw [goR_hi (by have := stepL_lt (up := !(nz (wS r' C ln nn 7))) this hL; omega) hk, upd_ne (by omega), upd_ne (by omega), e1]
          · rw [upd_ne (by omega), upd_ne (by omega), upd_ne (by omega), e1]
      · rw [goR_hi hln hk, e1]
    · rw [upd_ne (by omega), upd_ne (by omega), upd_ne (by omega), e1]
noncomputable def lpS : Nat → Nat → (Nat → Int32) → (Nat → Int32) × Nat
  | 0, j, r => (r, j)
  | d + 1, j, r => if r 1 = 1 ∨ r 1 = 2 ∨ r 1 = 3 then lpS d (j + 1) (loopS r) else (r, j)
theorem runs_iff {r : Nat → Int32} {s : Nat} (h1 : r 1 = nI s ∧ s ≤ 5) : (r 1 = 1 ∨ r 1 = 2 ∨ r 1 = 3) ↔ restB s = false := by
  rw [h1.1]
  rcases (show s = 0 ∨ s = 1 ∨ s = 2 ∨ s = 3 ∨ s = 4 ∨ s = 5 by omega) with rfl | rfl | rfl | rfl | rfl | rfl <;> decide
theorem rest_s {s : Nat} (h : restB s = false) : s = 1 ∨ s = 2 ∨ s = 3 := by
  unfold restB at h
  have := of_decide_eq_false h
  omega
theorem lpS_WF : ∀ (d j : Nat) (r : Nat → Int32), WFr r → WFr (lpS d j r).1 ∧ (lpS d j r).2 ≤ j + d ∧ ∀ k, 1808 ≤ k → (lpS d j r).1 k = r k
  | 0, j, r, h => ⟨h, Nat.le_refl _, fun _ _ => rfl⟩
  | d + 1, j, r, h => by
    obtain ⟨C, L, P, s, ln, nn, hw⟩ := id h
    rw [lpS]
    have hi := runs_iff hw.2.2.2.2.2.1
    by_cases q : r 1 = 1 ∨ r 1 = 2 ∨ r 1 = 3
    · rw [if_pos q]
      have hs := rest_s (hi.mp q)
      obtain ⟨s', ln', hw'⟩ := loopS_WF hw hs
      obtain ⟨a, b, c⟩ := lpS_WF d (j + 1) (loopS r) ⟨C, L, P, s', ln', nn, hw'⟩
      exact ⟨a, by omega, fun k hk => (c k hk).trans (loopS_hi hw hs hk)⟩
    · rw [if_neg q]
      exact ⟨h, by omega, fun _ _ => rfl⟩
theorem lpC {b X : Nat} (hX : X ≤ 1000) : ∀ (d j k : Nat) (M : MM) (r : Nat → Int32), j + d = X → d < k → Rep M b r → WFr r → ∃ M', f_X4_doLoops_25 b k (nI X) (nI j) M = some (nI (lpS d j r).2, M') ∧ Rep M' b (lpS d j r).1 ∧ Fr b M M' := by
  intro d
  induction d with
  | zero =>
    intro j k M r hj hk hR hw
    obtain ⟨k, rfl⟩ : ∃ k', k = k' + 1 := ⟨k - 1, by omega⟩
    unfold f_X4_doLoops_25
    rw [if_pos (by rw [le_nI (by omega) (by omega)]; omega)]
    exact ⟨M, rfl, hR, Fr.rf⟩
  | succ d ih =>
    intro j k M r hj hk hR hw
    obtain ⟨k, rfl⟩ : ∃ k', k = k' + 1 := ⟨k - 1, by omega⟩
    obtain ⟨C, L, P, s, ln, nn, hw'⟩ := id hw
    have h1 := hw'.2.2.2.2.2.1
    unfold f_X4_doLoops_25
    rw [if_neg (by rw [le_nI (by omega) (by omega)]; omega), restsC hR h1, Option.bind_some, lpS]
    cases hb : restB s with
    | true =>
      rw [if_neg bz_t0, if_neg (by rw [runs_iff h1, hb]; decide)]
      exact ⟨M, rfl, hR, Fr.rf⟩
    | false =>
      have hs := rest_s hb
      rw [if_pos bz_f0, if_pos ((runs_iff h1).mpr hb)]
      obtain ⟨M1, e1, R1, -, F1⟩ := loopC_ok hw' hs hR
      obtain ⟨s', ln', hw1⟩ := loopS_WF hw' hs
      rw [e1, Option.bind_some, nI_1]
      obtain ⟨M2, e2, R2, F2⟩ := ih (j + 1) k M1 (loopS r) (by omega) (by omega) R1 ⟨C, L, P, s', ln', nn, hw1⟩
      exact ⟨M2, e2, R2, F1.tr F2⟩
