/-! PURE, the class alone: by program out of the same part of whole -/
/-! PURE: highest on both sides -/
def mx2 (v w : Int32) : Int32 := if v < w then w else v
noncomputable def hgL (c : Nat) : Nat → Int32 → (Nat → Int32) → Int32
  | 0, v, _ => v
  | d + 1, v, r => if r 1 = 1 ∨ r 1 = 2 then hgL c d (mx2 v (loopS r (308 + 6 * ix (r 2) + c))) (loopS r) else v
theorem hgC {X C c : Nat} (hX : X ≤ 300) (hc : c < C) (h6 : C ≤ 6) : ∀ (d j k : Nat) (v : Int32) (M : MM) (r : Nat → Int32), j + d = X → d < k → Rep M 65 r → (∃ L P s ln nn, WF r C L P s ln nn) → ∃ M', f_X6_highest_44 650 k (nI c) (nI X) v (nI j) M = some (hgL c d v r, M') ∧ Fr 65 M M' := by
  intro d
  induction d with
  | zero =>
    intro j k v M r hj hk hR hw
    obtain ⟨k, rfl⟩ : ∃ k', k = k' + 1 := ⟨k - 1, by omega⟩
    rw [f_X6_highest_44, if_pos (by rw [le_nI (by omega) (by omega)]; omega)]
    exact ⟨M, rfl, Fr.rf⟩
  | succ d ih =>
    intro j k v M r hj hk hR hw
    obtain ⟨k, rfl⟩ : ∃ k', k = k' + 1 := ⟨k - 1, by omega⟩
    obtain ⟨L, P, s, ln, nn, hw'⟩ := id hw
    have h1 := hw'.2.2.2.2.2.1
    have h2 := hw'.2.2.2.2.2.2.1
    rw [f_X6_highest_44, if_neg (by rw [le_nI (by omega) (by omega)]; omega), measuresC hR h1, Option.bind_some, hgL]
    cases hb : measB s with
    | false =>
      rw [if_pos bz_f0, if_neg (by rw [meas_iff h1, hb]; decide)]
      exact ⟨M, rfl, Fr.rf⟩
    | true =>
      have hs := meas_s hb
      rw [if_neg bz_t0, if_pos ((meas_iff h1).mpr hb)]
      obtain ⟨M1, e1, R1, o1, F1⟩ := loopC_ok hw' (by omega) hR
      obtain ⟨s', ln', hw1⟩ := loopS_WF hw' (by omega)
      have ec : M1 (65 + 6 + 5 + 9 * c) 12 = loopS r (308 + 6 * ix (r 2) + c) := by
        rw [show 65 + 6 + 5 + 9 * c = 65 + (11 + 9 * c) by omega, o1 (by omega) c hc, h2.1, ix_nI (by omega)]
      rw [e1, Option.bind_some, gd_of (inb_nI (by omega) (by omega)), ix_nI (show c ≤ 1000000 by omega), ec, nI_1]
      obtain ⟨M2, e2, F2⟩ := ih (j + 1) k (mx2 v (loopS r (308 + 6 * ix (r 2) + c))) M1 (loopS r) (by omega) (by omega) R1 ⟨L, P, s', ln', nn, hw1⟩
      exact ⟨M2, e2, F1.tr F2⟩
