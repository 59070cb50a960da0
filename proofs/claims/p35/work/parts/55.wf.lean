/-! PURE, the class alone: by program out of the same part of whole -/
/-! PURE: what holds of a row at all times -/
def chOK (r : Nat → Int32) (c : Nat) : Prop := (r (34 + 29 * c) = 0 ∨ r (34 + 29 * c) = 1) ∧ okG r c ∧ (∃ N, r (34 + 29 * c + 12) = nI N ∧ N ≤ 4 ∧ ∀ j, j < N → Sm (r (34 + 29 * c + (15 + 3 * j))) 200000) ∧ 0 ≤ (r (34 + 29 * c + 26)).toInt
def chNew (r : Nat → Int32) (c : Nat) : Prop := (r (34 + 29 * c + 5) = 0 ∧ r (34 + 29 * c + 8) = 0 ∧ r (34 + 29 * c + 11) = 0 ∧ r (34 + 29 * c + 12) = 0 ∧ r (34 + 29 * c + 25) = 0 ∧ r (34 + 29 * c + 26) = 0 ∧ r (34 + 29 * c + 27) = 0 ∧ r (34 + 29 * c + 28) = 0) ∧ ∀ k, k < 100 → r (308 + 6 * k + c) = -6 ∧ r (908 + 6 * k + c) = -6
def WFc (r : Nat → Int32) (C : Nat) : Prop := (r 5 = nI C ∧ C ≤ 6) ∧ (∀ c, c < C → chOK r c) ∧ ∀ c, C ≤ c → c < 6 → chNew r c
def WFl (r : Nat → Int32) (L : Nat) : Prop := (r 0 = nI L ∧ L ≤ 100) ∧ ∀ k, k < L → Sm (r (208 + k)) 2000
def WFp (r : Nat → Int32) (P : Nat) : Prop := (r 4 = nI P ∧ P ≤ 8) ∧ (∀ p, p < P → Sm (r (18 + 2 * p)) 2000) ∧ ∀ p q, p < P → q < P → r (18 + 2 * p) = r (18 + 2 * q) → p = q
def WFs (r : Nat → Int32) (nn : Nat) : Prop := (r 12 = 0 ∨ r 12 = 1 ∨ r 12 = 2) ∧ (r 13 = nI nn ∧ 1 ≤ nn ∧ nn ≤ 8) ∧ Sm (r 15) 100 ∧ 0 ≤ (r 14).toInt ∧ 0 ≤ (r 16).toInt ∧ 0 ≤ (r 17).toInt
def WFa (r : Nat → Int32) (C : Nat) : Prop := (∀ c k, c < C → k < 100 → okA (r (908 + 6 * k + c))) ∧ ∀ k, k < 100 → okA (r (1508 + k))
def WFh (r : Nat → Int32) (C L P s ln : Nat) : Prop := (r 1 = nI s ∧ s ≤ 5) ∧ (r 2 = nI ln ∧ ln < 100) ∧ (r 7 = 0 ∨ r 7 = 1) ∧ (s = 1 ∨ s = 2 → ln < L ∧ 0 < P ∧ 0 < cnF (ctR r) C ∧ okD (r 3) ∧ r 9 = -6) ∧ (s = 0 ∨ s = 4 ∨ s = 5 → r 3 = 0)
def WF (r : Nat → Int32) (C L P s ln nn : Nat) : Prop := WFc r C ∧ WFl r L ∧ WFp r P ∧ WFs r nn ∧ WFa r C ∧ WFh r C L P s ln
theorem okG_cong {r r' : Nat → Int32} {c : Nat} (h : ∀ w, w < 25 → r' (34 + 29 * c + w) = r (34 + 29 * c + w)) (g : okG r c) : okG r' c := by
  refine ⟨by rw [h _ (by omega)]; exact g.1, fun j hj => ?_⟩
  rw [h _ (by omega), h _ (by omega), h _ (by omega)]
  exact g.2 j hj
theorem chOK_cong {r r' : Nat → Int32} {c : Nat} (h : ∀ w, w < 25 → r' (34 + 29 * c + w) = r (34 + 29 * c + w)) (h26 : 0 ≤ (r' (34 + 29 * c + 26)).toInt) (g : chOK r c) : chOK r' c := by
  obtain ⟨g1, g2, ⟨N, g3, g4, g5⟩, -⟩ := g
  refine ⟨?_, okG_cong h g2, ⟨N, by rw [h 12 (by omega)]; exact g3, g4, fun j hj => ?_⟩, h26⟩
  · have := h 0 (by omega)
    rw [Nat.add_zero] at this
    rw [this]; exact g1
  · rw [h _ (by omega)]; exact g5 j hj
theorem chNew_cong {r r' : Nat → Int32} {c : Nat} (h : ∀ w, w < 29 → r' (34 + 29 * c + w) = r (34 + 29 * c + w)) (h2 : ∀ k, k < 100 → r' (308 + 6 * k + c) = r (308 + 6 * k + c) ∧ r' (908 + 6 * k + c) = r (908 + 6 * k + c)) (g : chNew r c) : chNew r' c := by
  obtain ⟨⟨g1, g2, g3, g4, g5, g6, g7, g8⟩, g9⟩ := g
  refine ⟨⟨?_, ?_, ?_, ?_, ?_, ?_, ?_, ?_⟩, fun k hk => by rw [(h2 k hk).1, (h2 k hk).2]; exact g9 k hk⟩ <;> (rw [h _ (by omega)]; assumption)
theorem WFl_cong {r r' : Nat → Int32} {L : Nat} (h0 : r' 0 = r 0) (h : ∀ k, k < 100 → r' (208 + k) = r (208 + k)) (g : WFl r L) : WFl r' L := ⟨by rw [h0]; exact g.1, fun k hk => by rw [h k (by have := g.1.2; omega)]; exact g.2 k hk⟩
theorem WFp_cong {r r' : Nat → Int32} {P : Nat} (h0 : r' 4 = r 4) (h : ∀ k, k < 16 → r' (18 + k) = r (18 + k)) (g : WFp r P) : WFp r' P := by
  have h8 := g.1.2
  refine ⟨by rw [h0]; exact g.1, fun p hp => by rw [h _ (by omega)]; exact g.2.1 p hp, fun p q hp hq e => g.2.2 p q hp hq ?_⟩
  rw [h _ (by omega), h _ (by omega)] at e
  exact e
theorem WFs_cong {r r' : Nat → Int32} {nn : Nat} (h : r' 12 = r 12 ∧ r' 13 = r 13 ∧ r' 14 = r 14 ∧ r' 15 = r 15 ∧ r' 16 = r 16 ∧ r' 17 = r 17) (g : WFs r nn) : WFs r' nn := by
  unfold WFs
  rw [h.1, h.2.1, h.2.2.1, h.2.2.2.1, h.2.2.2.2.1, h.2.2.2.2.2]
  exact g
theorem cnF_cong {ct ct' : Nat → Bool} : ∀ {C : Nat}, (∀ c, c < C → ct' c = ct c) → cnF ct' C = cnF ct C
  | 0, _ => rfl
  | C + 1, h => by rw [cnF, cnF, cnF_cong (fun c hc => h c (by omega)), h C (by omega)]
-- what the parts of a loop ask
theorem WF.pt {r : Nat → Int32} {P : Nat} (h : WFp r P) (h0 : 0 < P) : PtH r P := by
  obtain ⟨⟨h4, h8⟩, hb, hd⟩ := h
  have hPn : Pn r = P := by unfold Pn; rw [h4, ix_nI (by omega)]
  refine ⟨h4, h8, h0, hb, ?_⟩
  rintro x y z ⟨p, hp, e1, e2⟩ ⟨q, hq, e3, e4⟩
  rw [hPn] at hp hq
  have := hd p q hp hq (e1.trans e3.symm)
  subst this
  exact e2.symm.trans e4
theorem limR_okL {r : Nat → Int32} {c : Nat} (h : ∃ N, r (34 + 29 * c + 12) = nI N ∧ N ≤ 4 ∧ ∀ j, j < N → Sm (r (34 + 29 * c + (15 + 3 * j))) 200000) (f : Int32) : okL (limR r c f) := by
  obtain ⟨N, h1, h2, h3⟩ := h
  have e : Nn r c = N := by
    unfold Nn
    rw [show 46 + 29 * c = 34 + 29 * c + 12 by omega, h1, ix_nI (by omega)]
  unfold limR
  rw [e]
  exact limS_ok h3
theorem WF.not {r : Nat → Int32} {C : Nat} (h : WFc r C) : NotH r C := ⟨h.1, fun c hc => by
  obtain ⟨N, a, b, -⟩ := (h.2.1 c hc).2.2.1
  exact ⟨N, a, b⟩, fun c f hc => limR_okL (h.2.1 c hc).2.2.1 f⟩
theorem WF.wat {r : Nat → Int32} {C : Nat} (h : WFc r C) : WatH r C := ⟨h.1, fun c hc => by
  obtain ⟨N, a, b, -⟩ := (h.2.1 c hc).2.2.1
  exact ⟨N, a, b⟩, fun c hc => (h.2.1 c hc).2.2.2⟩
theorem WF.meas {r : Nat → Int32} {C L P s ln nn : Nat} (h : WF r C L P s ln nn) (hs : s = 1 ∨ s = 2) : MeasH r C ln nn (r (208 + ln)) (r 3) := by
  obtain ⟨hc, hl, hp, ⟨s1, s2, s3⟩, ha, ⟨h1, h2, h7, h8, h9⟩⟩ := h
  obtain ⟨a1, a2, a3, a4, a5⟩ := h8 hs
  exact ⟨hc.1, h2, ⟨rfl, hl.2 ln a1⟩, ⟨rfl, a4⟩, s2, fun c hcc => (hc.2.1 c hcc).2.1, fun c hcc => ha.1 c ln hcc (by omega), ha.2 ln (by omega), s1, fun c hcc => (hc.2.1 c hcc).1, a3⟩
