/-! PURE, the class alone: by program out of the same part of whole -/
/-! PURE: the next line, both sides -/
def SW (w : Nat → Int32) (C L P ln nn : Nat) : Prop := (WFc w C ∧ WFl w L ∧ WFp w P ∧ WFs w nn ∧ WFa w C) ∧ (w 2 = nI ln ∧ ln < L) ∧ 0 < P ∧ okD (w 3) ∧ (w 7 = 0 ∨ w 7 = 1)
theorem SW.go {w : Nat → Int32} {C L P ln nn j : Nat} (h : SW w C L P ln nn) (hj : j < L) : GoH w C P j := by
  obtain ⟨⟨hc, hl, hp, hs, ha⟩, -, h0, hd, -⟩ := h
  exact ⟨WF.not hc, WF.pt hp h0, by have := hl.1.2; omega, hl.2 j hj, hd, hs.2.2.1⟩
theorem SW.free {w w' : Nat → Int32} {C L P ln nn : Nat} (h : SW w C L P ln nn) (e : freeEq w w') (e2 : w' 2 = w 2) (e3 : w' 3 = w 3) (e7 : w' 7 = 0 ∨ w' 7 = 1) : SW w' C L P ln nn :=
  ⟨e.parts h.1, by rw [e2]; exact h.2.1, h.2.2.1, by rw [e3]; exact h.2.2.2.1, e7⟩
theorem bz_01 (b : Bool) : bz b = 0 ∨ bz b = 1 := by cases b <;> simp [bz]
theorem ahead_ok {M : MM} {b ln : Nat} {w : Nat → Int32} (hR : Rep M b w) (h2 : w 2 = nI ln) : f_X4_lineAhead b M = some (laV (nz (w 7)) ln) := by
  have m9 : M b 9 = nI ln := hR.s.2.2.2.1.trans h2
  have m11 : M b 11 = w 7 := hR.s.2.2.2.2.2.1
  unfold f_X4_lineAhead f_X4_lineAhead_22 laV
  rw [m9, m11]
  cases nz (w 7) with
  | true => rw [if_neg bz_t0, if_pos rfl]
  | false => rw [if_pos bz_f0, if_neg (by decide)]
theorem hasLine_ok {M : MM} {b : Nat} {w : Nat → Int32} {x : Int32} (hR : Rep M b w) : f_X4_hasLine b x M = some (wi x 0 (w 0 - 1)) := by
  unfold f_X4_hasLine
  rw [isWithin_ok, Option.bind_some, show M (b + 1) 1 = w 0 from hR.s.1]
theorem n0' : ∀ k, k ≠ 4 → k ≠ 5 → (k < 34 ∨ 300 < k) → k ≠ 4 ∧ k ≠ 5 ∧ ∀ c', c' < 6 → 46 + 29 * c' ≠ k := fun k a b c => ⟨a, b, fun _ _ => by omega⟩
theorem sweepC_ok {M : MM} {b C L P ln nn : Nat} {w : Nat → Int32} {mg : Nat → Int32} {cl : Int32} (H : SW w C L P ln nn) (hR : Rep M b w) (hmg : ∀ c, c < C → M (b + (11 + 9 * c)) 13 = mg c) : ∃ M', (Option.bind (f_X4_nextLine b M) fun v7 => f_X4_doLoop_91 b cl v7.1 v7.2) = some M' ∧ Rep M' b (sweepS w C ln L mg cl) ∧ (∀ o, 11 ≤ o → M' (b + o) = M (b + o)) ∧ Fr b M M' := by
  have hL := H.1.2.1.1.2
  have h0 := H.1.2.1.1.1
  have hln := H.2.1.2
  have go : ∀ (M1 : MM) (w1 : Nat → Int32) (j : Nat), Rep M1 b w1 → SW w1 C L P ln nn → j < L → (∀ o, 11 ≤ o → M1 (b + o) = M (b + o)) → Fr b M M1 → ∃ M', f_X4_doLoop_91 b cl (nI j) M1 = some M' ∧ Rep M' b (goR w1 C j mg cl) ∧ (∀ o, 11 ≤ o → M' (b + o) = M (b + o)) ∧ Fr b M M' := by
    intro M1 w1 j hR1 H1 hj ho hF
    obtain ⟨M', e, r1, r2, r3⟩ := goC_ok (cl := cl) (mg := mg) (H1.go hj) hR1 (fun c hc => by rw [ho _ (by omega)]; exact hmg c hc)
    refine ⟨M', ?_, r1, fun o h => (r2 o h).trans (ho o h), hF.tr r3⟩
    unfold f_X4_doLoop_91
    rw [if_neg (ne6_nI (by omega)), e, Option.bind_some]
  unfold f_X4_nextLine
  rw [ahead_ok hR H.2.1.1, Option.bind_some, hasLine_ok hR, Option.bind_some, h0]
  unfold sweepS
  cases hst : stepL (nz (w 7)) ln L with
  | some j =>
    obtain ⟨e1, e2, e3⟩ := stepL_some hln hL hst
    rw [e3, if_neg bz_t0, Option.bind_some, e1]
    exact go M w j hR H e2 (fun _ _ => rfl) Fr.rf
  | none =>
    have e3 := stepL_none hln hL hst
    rw [e3, if_pos bz_f0, show (5 : Int32) = nI 5 from rfl, gd_of (inb_nI (by omega) (by omega)), ix_nI (by omega)]
    have m12 : M b 12 = w 6 := hR.s.2.2.2.2.2.2.1
    have m11 : M b 11 = w 7 := hR.s.2.2.2.2.2.1
    have m5 : M (b + 7) 5 = w 17 := hR.g (i := 5) (by omega)
    rw [ms_eq, ms_ne (show b + 7 ≠ b by omega), ms_ni (show 11 ≠ 12 by omega), m5, m12, m11]
    have R6 : Rep (ms M b 12 (w 6 + 1)) b (upd w 6 (w 6 + 1)) := Rep.put (o := 0) hR (k := 6) rfl (by omega) (by omega) (by omega) (n0' _ (by omega) (by omega) (by omega))
    dsimp only
    by_cases q : w 6 + 1 < w 17
    · rw [if_pos q, if_pos q]
      have R7 : Rep (ms (ms M b 12 (w 6 + 1)) b 11 (bz (!(nz (w 7))))) b (upd (upd w 6 (w 6 + 1)) 7 (bz (!(nz (w 7))))) := Rep.put (o := 0) R6 (k := 7) rfl (by omega) (by omega) (by omega) (n0' _ (by omega) (by omega) (by omega))
      have H7 : SW (upd (upd w 6 (w 6 + 1)) 7 (bz (!(nz (w 7))))) C L P ln nn := H.free ((freeEq.put (by omega)).tr (freeEq.put (by omega))) (by rw [upd_ne (by omega), upd_ne (by omega)]) (by rw [upd_ne (by omega), upd_ne (by omega)]) (by rw [upd_eq]; exact bz_01 _)
      have body : ∀ sb : Bool, sb = (!(nz (w 7))) → ∃ M', (Option.bind (f_X4_nextLine_54 b sb (ms M b 12 (w 6 + 1))) fun v7 => f_X4_doLoop_91 b cl v7.1 v7.2) = some M' ∧ Rep M' b (goR (upd (upd w 6 (w 6 + 1)) 7 (bz (!(nz (w 7))))) C ((stepL (!(nz (w 7))) ln L).getD ln) mg cl) ∧ (∀ o, 11 ≤ o → M' (b + o) = M (b + o)) ∧ Fr b M M' := by
        intro sb hsb
        subst hsb
        have ho : ∀ o, 11 ≤ o → (ms (ms M b 12 (w 6 + 1)) b 11 (bz (!(nz (w 7))))) (b + o) = M (b + o) := fun o h => by rw [ms_ne (by omega), ms_ne (by omega)]
        have hF : Fr b M (ms (ms M b 12 (w 6 + 1)) b 11 (bz (!(nz (w 7))))) := Fr.put (o := 0) (Fr.put (o := 0) Fr.rf (by omega)) (by omega)
        unfold f_X4_nextLine_54 f_X4_nextLine_78
        rw [ahead_ok R7 H7.2.1.1, Option.bind_some, hasLine_ok R7, Option.bind_some, show (upd (upd w 6 (w 6 + 1)) 7 (bz (!(nz (w 7))))) 0 = nI L by rw [upd_ne (by omega), upd_ne (by omega)]; exact h0, upd_eq, nz_bz]
        cases hs2 : stepL (!(nz (w 7))) ln L with
        | some j =>
          obtain ⟨a1, a2, a3⟩ := stepL_some hln hL hs2
          rw [a3, if_neg bz_t0, Option.bind_some, a1]
          exact go _ _ j R7 H7 a2 ho hF
        | none =>
          rw [stepL_none hln hL hs2, if_pos bz_f0, Option.bind_some]
          have m9 : (ms (ms M b 12 (w 6 + 1)) b 11 (bz (!(nz (w 7))))) b 9 = nI ln := R7.s.2.2.2.1.trans H7.2.1.1
          dsimp only
          rw [m9]
          exact go _ _ ln R7 H7 hln ho hF
      cases hz : nz (w 7) with
      | true => rw [if_neg bz_t0]; have := body false (by rw [hz]; rfl); rw [hz] at this; exact this
      | false => rw [if_pos bz_f0]; have := body true (by rw [hz]; rfl); rw [hz] at this; exact this
    · rw [if_neg q, if_neg q, Option.bind_some]
      refine ⟨ms (ms (ms M b 12 (w 6 + 1)) b 8 5) b 10 0, ?_, ?_, fun o h => by rw [ms_ne (by omega), ms_ne (by omega), ms_ne (by omega)], Fr.put (o := 0) (Fr.put (o := 0) (Fr.put (o := 0) Fr.rf (by omega)) (by omega)) (by omega)⟩
      · unfold f_X4_doLoop_91
        rw [if_pos rfl]
      · exact Rep.put (o := 0) (Rep.put (o := 0) R6 (k := 1) rfl (by omega) (by omega) (by omega) (n0' _ (by omega) (by omega) (by omega))) (k := 3) rfl (by omega) (by omega) (by omega) (n0' _ (by omega) (by omega) (by omega))
theorem la_t (ln : Nat) : nI ln + 1 = laV true ln := rfl
theorem la_f (ln : Nat) : nI ln + (-1) = laV false ln := by
  show nI ln + (-1) = nI ln - 1
  rw [Int32.sub_eq_add_neg]
