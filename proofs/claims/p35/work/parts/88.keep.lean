/-! PURE: what the law's actions do keeps a row good -/
def gEq (r r' : Nat → Int32) : Prop := ∀ k, (k = 8 ∨ k = 16 ∨ (34 ≤ k ∧ k < 208 ∧ ((k - 34) % 29 = 0 ∨ (12 ≤ (k - 34) % 29 ∧ (k - 34) % 29 ≤ 27))) ∨ (208 ≤ k ∧ k < 308) ∨ (1608 ≤ k ∧ k < 1808)) → r' k = r k
theorem GR.of {r r' : Nat → Int32} {C L P P' s s' ln ln' nn nn' B : Nat} (h : GR r C L P s ln nn B) (hw' : WF r' C L P' s' ln' nn') (e : gEq r r') (hP : 0 < P') (hln : s' ≠ 0 → ln' < L) (h3 : s' = 3 → okD (r' 3)) : GR r' C L P' s' ln' nn' B := by
  obtain ⟨hw, hg, ⟨g1, g2, g3⟩, -⟩ := h
  have hC := hw.1.1.2
  have hL := hw.2.1.1.2
  refine ⟨hw', hg.cong hw.nOK ⟨e _ (by omega), fun k hk => e _ (by omega), fun c x hc a b => e _ (by omega)⟩ (e _ (by omega)) (fun c x hc a b => e _ (by omega)) (fun k hk => ⟨e _ (by omega), e _ (by omega)⟩), ⟨g1, hP, ?_⟩, hln, h3⟩
  rw [cnF_cong (ct' := ctR r') (ct := ctR r) (fun c hc => by unfold ctR; rw [e _ (by omega)])]
  exact g3
theorem GR.start {r : Nat → Int32} {C L P s ln nn B : Nat} {x : Int32} (h : GR r C L P s ln nn B) (hw' : WF (startS r x) C L P 1 0 nn) (hx : okD x) : GR (startS r x) C L P 1 0 nn B := by
  obtain ⟨hw, ⟨i1, -, i3, i4, -, -⟩, ⟨g1, g2, g3⟩, -⟩ := h
  have hC := hw.1.1.2
  have hL := hw.2.1.1.2
  have z : ∀ c w, c < 6 → 25 ≤ w → w < 29 → startS r x (34 + 29 * c + w) = 0 := fun c w a b d => by
    unfold startS
    rw [upd_ne (by omega), upd_ne (by omega), upd_ne (by omega), upd_ne (by omega), upd_ne (by omega)]
    unfold frS
    rw [if_neg (by omega), if_pos (by omega)]
  have six : ∀ k, 1608 < k → k < 1808 → startS r x k = -6 := fun k a b => by
    unfold startS
    rw [upd_ne (by omega), upd_ne (by omega), upd_ne (by omega), upd_ne (by omega), upd_ne (by omega)]
    unfold frS
    rw [if_pos (by omega)]
  have fr : ∀ k, k < L → startS r x (208 + k) = r (208 + k) := fun k hk => startS_at (by omega) (by omega) (by omega) (by omega)
  refine ⟨hw', ⟨(startS_at (by omega) (by omega) (by omega) (by omega)).trans i1, ⟨0, ?_, by omega, fun c hc => ⟨0, 0, z c 25 (by omega) (by omega) (by omega), z c 26 (by omega) (by omega) (by omega), by omega, by omega, ?_, ?_⟩⟩, fun k hk => ?_, fun k hk => ?_, fun k hk => ?_, fun k hk => Or.inl (six _ (by omega) (by omega))⟩, ⟨g1, g2, ?_⟩, fun _ => g1, fun q => by omega⟩
  · unfold startS
    rw [upd_ne (by omega), upd_ne (by omega), upd_ne (by omega), upd_ne (by omega), upd_ne (by omega)]
    unfold frS
    rw [if_neg (by omega), if_pos (by omega)]
    rfl
  · rw [z c 27 (by omega) (by omega) (by omega)]; decide
  · rw [z c 27 (by omega) (by omega) (by omega)]; exact ⟨fun _ => rfl, fun _ => rfl⟩
  · rw [fr k (by omega), fr (k + 1) (by omega)]; exact i3 k hk
  · rw [fr k hk]; exact i4 k hk
  · by_cases y : k = 0
    · subst y
      right
      unfold startS
      rw [upd_eq]; exact hx
    · exact Or.inl (six _ (by omega) (by omega))
  · rw [cnF_cong (ct' := ctR (startS r x)) (ct := ctR r) (fun c hc => by unfold ctR; rw [startS_at (by omega) (by omega) (by omega) (by omega)])]
    exact g3
theorem limR_not {r : Nat → Int32} {c N : Nat} {f a b l : Int32} (hN : r (34 + 29 * c + 12) = nI N) (h4 : N < 4) (hl : l ≠ -6) (h : limR r c f ≠ -6) : limR (notS r c N a b l) c f ≠ -6 := by
  have e1 : Nn r c = N := by
    unfold Nn
    rw [show 46 + 29 * c = 34 + 29 * c + 12 by omega, hN, ix_nI (by omega)]
  have e2 : Nn (notS r c N a b l) c = N + 1 := by
    unfold Nn notS
    rw [show 46 + 29 * c = 34 + 29 * c + 12 by omega, upd_eq, ix_nI (by omega)]
  unfold limR at h ⊢
  rw [e1] at h
  rw [e2, limS]
  have lN : rLi (notS r c N a b l) c N = l := by
    unfold rLi notS
    rw [upd_ne (by omega), upd_eq]
  have ec := limS_cong (fr := rFr (notS r c N a b l) c) (to := rTo (notS r c N a b l) c) (li := rLi (notS r c N a b l) c) (fr' := rFr r c) (to' := rTo r c) (li' := rLi r c) (f := f) N (fun j hj => by
    unfold rFr rTo rLi
    exact ⟨notS_at (by omega) (by omega), notS_at (by omega) (by omega), notS_at (by omega) (by omega)⟩)
  split
  · rw [lN]; exact hl
  · rw [ec]; exact h
theorem GR.notch {r : Nat → Int32} {C L P s ln nn B c N : Nat} {a b l : Int32} (h : GR r C L P s ln nn B) (hw' : WF (notS r c N a b l) C L P s ln nn) (hc : c < C) (hN : r (34 + 29 * c + 12) = nI N) (h4 : N < 4) (hl : l ≠ -6) : GR (notS r c N a b l) C L P s ln nn B := by
  obtain ⟨hw, ⟨i1, ⟨q, i2, i2', i2''⟩, i3, i4, i5, i6⟩, ⟨g1, g2, g3⟩, k1, k2⟩ := h
  have hC := hw.1.1.2
  have hL := hw.2.1.1.2
  have at' : ∀ k, ¬ (34 + 29 * c + 12 ≤ k ∧ k ≤ 34 + 29 * c + 24) → notS r c N a b l k = r k := fun k hk => notS_at (by omega) (by omega)
  refine ⟨hw', ⟨(at' _ (by omega)).trans i1, ⟨q, (at' _ (by omega)).trans i2, i2', fun c' hc' => (i2'' c' hc').cong (fun x y1 y2 => at' _ (by omega))⟩, fun k hk => ?_, fun k hk => ?_, fun k hk => ?_, fun k hk => ?_⟩, ⟨g1, g2, ?_⟩, k1, fun z => by rw [at' _ (by omega)]; exact k2 z⟩
  · rw [at' _ (by omega), at' _ (by omega)]; exact i3 k hk
  · rw [at' _ (by omega)]; exact i4 k hk
  · rw [at' _ (by omega)]; exact i5 k hk
  · rw [at' _ (by omega), at' _ (by omega)]
    rcases i6 k hk with z | ⟨c', hc', z1, z2⟩
    · exact Or.inl z
    · refine Or.inr ⟨c', hc', z1, ?_⟩
      by_cases y : c' = c
      · subst y
        exact limR_not hN h4 hl z2
      · rw [limR_cong (r := r) (fun x y1 y2 => at' _ (by omega)) (hw.nOK c' hc')]
        exact z2
  · rw [cnF_cong (ct' := ctR (notS r c N a b l)) (ct := ctR r) (fun c hc => by unfold ctR; rw [at' _ (by omega)])]
    exact g3
theorem GR.lp : ∀ (d j : Nat) (r : Nat → Int32) (C L P s ln nn B : Nat), GR r C L P s ln nn B → B + d < 900000 → ∃ s' ln', GR (lpS d j r).1 C L P s' ln' nn (B + d) ∧ (lpS d j r).1 8 = r 8 + nI ((lpS d j r).2 - j) ∧ (restB s' = false → (lpS d j r).2 = j + d)
  | 0, j, r, C, L, P, s, ln, nn, B, h, hB => ⟨s, ln, h, by rw [lpS, Nat.sub_self]; exact (Int32.add_zero _).symm, fun _ => rfl⟩
  | d + 1, j, r, C, L, P, s, ln, nn, B, h, hB => by
    have h1 := h.1.2.2.2.2.2.1
    by_cases q : r 1 = 1 ∨ r 1 = 2 ∨ r 1 = 3
    · obtain ⟨s1, ln1, g1, -, e8⟩ := h.loop (rest_s ((runs_iff h1).mp q)) (by omega)
      obtain ⟨s', ln', g', k8, kr⟩ := GR.lp d (j + 1) (loopS r) C L P s1 ln1 nn (B + 1) g1 (by omega)
      rw [lpS_go q]
      refine ⟨s', ln', g'.mono (by omega), ?_, fun z => by have := kr z; omega⟩
      have ge := (lpS_ge d (j + 1) (loopS r)).1
      rw [k8, e8, Int32.add_assoc, show (1 : Int32) = nI 1 from rfl, nI_add]
      congr 2
      omega
    · rw [lpS_stop q]
      refine ⟨s, ln, h.mono (by omega), by rw [Nat.sub_self]; exact (Int32.add_zero _).symm, fun z => ?_⟩
      exact absurd ((runs_iff h1).mpr z) q
theorem GR.hold {r : Nat → Int32} {C L P s ln nn B q' : Nat} (h : GR r C L P s ln nn B) (hs : s = 1 ∨ s = 2) (hq : q' = 1 ∨ q' = 2) : GR (upd r 1 (nI q')) C L P q' ln nn B := h.of (h.1.st hs hq) (fun k hk => upd_ne (by omega)) h.2.2.1.2.1 (fun _ => h.2.2.2.1 (by omega)) (fun z => by omega)
theorem GR.abort {r : Nat → Int32} {C L P s ln nn B : Nat} (h : GR r C L P s ln nn B) (hs : s = 1 ∨ s = 2) : GR (abS r) C L P 3 ln nn B := h.of (abS_WF h.1) (fun k hk => by unfold abS; rw [upd_ne (by omega), upd_ne (by omega), upd_ne (by omega)]) h.2.2.1.2.1 (fun _ => h.2.2.2.1 (by omega)) (fun _ => by
  rw [show abS r 3 = r 3 by unfold abS; rw [upd_ne (by omega), upd_ne (by omega), upd_ne (by omega)]]
  exact (h.1.2.2.2.2.2.2.2.2.1 hs).2.2.2.1)
