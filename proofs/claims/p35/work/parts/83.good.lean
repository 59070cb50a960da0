/-! PURE: what the law asks of a row at all times (GR), and that loops keep it -/
def CN (w : Nat → Int32) (c q : Nat) : Prop := ∃ a m, w (34 + 29 * c + 25) = nI a ∧ w (34 + 29 * c + 26) = nI m ∧ a ≤ m ∧ m ≤ q ∧ 0 ≤ (w (34 + 29 * c + 27)).toInt ∧ (m = 0 ↔ w (34 + 29 * c + 27) = 0)
def GC (w : Nat → Int32) (C L B : Nat) : Prop := w 16 = 50 ∧ (∃ q, w 8 = nI q ∧ q ≤ B ∧ ∀ c, c < C → CN w c q) ∧ (∀ k, k + 1 < L → w (208 + k) < w (208 + (k + 1))) ∧ (∀ k, k < L → wi (w (208 + k)) 1 2000 = true) ∧ (∀ k, k < L → w (1608 + k) = -6 ∨ okD (w (1608 + k))) ∧ ∀ k, k < L → w (1708 + k) = -6 ∨ ∃ c, c < C ∧ w (1708 + k) = nI c ∧ limR w c (w (208 + k)) ≠ -6
def GR (r : Nat → Int32) (C L P s ln nn B : Nat) : Prop := WF r C L P s ln nn ∧ GC r C L B ∧ (0 < L ∧ 0 < P ∧ 0 < cnF (ctR r) C) ∧ (s ≠ 0 → ln < L) ∧ (s = 3 → okD (r 3))
theorem GC.mono {w : Nat → Int32} {C L B B' : Nat} (h : GC w C L B) (hB : B ≤ B') : GC w C L B' := by
  obtain ⟨h1, ⟨q, h2, h3, h4⟩, h5⟩ := h
  exact ⟨h1, ⟨q, h2, by omega, h4⟩, h5⟩
theorem GR.mono {r : Nat → Int32} {C L P s ln nn B B' : Nat} (h : GR r C L P s ln nn B) (hB : B ≤ B') : GR r C L P s ln nn B' := ⟨h.1, h.2.1.mono hB, h.2.2⟩
theorem CN.cong {w w' : Nat → Int32} {c q : Nat} (h : CN w c q) (e : ∀ x, 25 ≤ x → x ≤ 27 → w' (34 + 29 * c + x) = w (34 + 29 * c + x)) : CN w' c q := by
  unfold CN
  rw [e 25 (by omega) (by omega), e 26 (by omega) (by omega), e 27 (by omega) (by omega)]
  exact h
/-- the places that GC reads, but for lines' drives and what notched them -/
def gcEq (w w' : Nat → Int32) (C L : Nat) : Prop := w' 16 = w 16 ∧ (∀ k, k < L → w' (208 + k) = w (208 + k)) ∧ ∀ c x, c < C → 12 ≤ x → x ≤ 24 → w' (34 + 29 * c + x) = w (34 + 29 * c + x)
def nOK (w : Nat → Int32) (C : Nat) : Prop := ∀ c, c < C → ∃ N, w (34 + 29 * c + 12) = nI N ∧ N ≤ 4
theorem gcEq.lim {w w' : Nat → Int32} {C L c : Nat} (e : gcEq w w' C L) (hN : nOK w C) (hc : c < C) (f : Int32) : limR w' c f = limR w c f := limR_cong (fun x a b => e.2.2 c x hc a b) (hN c hc)
theorem GC.cong {w w' : Nat → Int32} {C L B : Nat} (h : GC w C L B) (hN : nOK w C) (e : gcEq w w' C L) (e8 : w' 8 = w 8) (ec : ∀ c x, c < C → 25 ≤ x → x ≤ 27 → w' (34 + 29 * c + x) = w (34 + 29 * c + x)) (ed : ∀ k, k < L → w' (1608 + k) = w (1608 + k) ∧ w' (1708 + k) = w (1708 + k)) : GC w' C L B := by
  obtain ⟨h1, ⟨q, h2, h3, h4⟩, h5, h6, h7, h8⟩ := h
  refine ⟨e.1.trans h1, ⟨q, e8.trans h2, h3, fun c hc => (h4 c hc).cong (fun x a b => ec c x hc a b)⟩, fun k hk => ?_, fun k hk => ?_, fun k hk => ?_, fun k hk => ?_⟩
  · rw [e.2.1 k (by omega), e.2.1 (k + 1) (by omega)]; exact h5 k hk
  · rw [e.2.1 k hk]; exact h6 k hk
  · rw [(ed k hk).1]; exact h7 k hk
  · rw [(ed k hk).2, e.2.1 k hk]
    rcases h8 k hk with z | ⟨c, hc, z1, z2⟩
    · exact Or.inl z
    · exact Or.inr ⟨c, hc, z1, by rw [e.lim hN hc]; exact z2⟩
theorem GC.go {w : Nat → Int32} {C L B j : Nat} {z nt : Int32} (h : GC w C L B) (hN : nOK w C) (hC : C ≤ 6) (hL : L ≤ 100) (hj : j < L) (hz : okD z) (hnt : nt = -6 ∨ ∃ c, c < C ∧ nt = nI c ∧ limR w c (w (208 + j)) ≠ -6) : GC (goS w j z nt) C L B := by
  have at' : ∀ k, k < 1608 → k ≠ 2 → k ≠ 3 → goS w j z nt k = w k := fun k a b c => goS_at a b c
  have e : gcEq w (goS w j z nt) C L := ⟨at' _ (by omega) (by omega) (by omega), fun k hk => at' _ (by omega) (by omega) (by omega), fun c x hc a b => at' _ (by omega) (by omega) (by omega)⟩
  obtain ⟨h1, ⟨q, h2, h3, h4⟩, h5, h6, h7, h8⟩ := h
  refine ⟨e.1.trans h1, ⟨q, (at' 8 (by omega) (by omega) (by omega)).trans h2, h3, fun c hc => (h4 c hc).cong (fun x a b => at' _ (by omega) (by omega) (by omega))⟩, fun k hk => ?_, fun k hk => ?_, fun k hk => ?_, fun k hk => ?_⟩
  · rw [e.2.1 k (by omega), e.2.1 (k + 1) (by omega)]; exact h5 k hk
  · rw [e.2.1 k hk]; exact h6 k hk
  · by_cases y : k = j
    · subst y
      right
      unfold goS
      rw [upd_ne (by omega), upd_ne (by omega), upd_eq]
      exact hz
    · have : goS w j z nt (1608 + k) = w (1608 + k) := by
        unfold goS
        rw [upd_ne (by omega), upd_ne (by omega), upd_ne (by omega), upd_ne (by omega)]
      rw [this]; exact h7 k hk
  · rw [e.2.1 k hk]
    by_cases y : k = j
    · subst y
      have : goS w k z nt (1708 + k) = nt := by
        unfold goS
        rw [upd_ne (by omega), upd_ne (by omega), upd_ne (by omega), upd_eq]
      rw [this]
      rcases hnt with z1 | ⟨c, hc, z1, z2⟩
      · exact Or.inl z1
      · exact Or.inr ⟨c, hc, z1, by rw [e.lim hN hc]; exact z2⟩
    · have : goS w j z nt (1708 + k) = w (1708 + k) := by
        unfold goS
        rw [upd_ne (by omega), upd_ne (by omega), upd_ne (by omega), upd_ne (by omega)]
      rw [this]
      rcases h8 k hk with z1 | ⟨c, hc, z1, z2⟩
      · exact Or.inl z1
      · exact Or.inr ⟨c, hc, z1, by rw [e.lim hN hc]; exact z2⟩
theorem nF_nt {r : Nat → Int32} {nx : Nat} {f : Int32} {mg : Nat → Int32} {x0 : Int64} : ∀ C, (nF r nx f mg x0 C).2 = -6 ∨ ∃ c, c < C ∧ (nF r nx f mg x0 C).2 = nI c ∧ limR r c f ≠ -6
  | 0 => Or.inl rfl
  | C + 1 => by
    have ih := nF_nt (r := r) (nx := nx) (f := f) (mg := mg) (x0 := x0) C
    rw [nF]
    unfold nStep
    by_cases o : limR r C f = -6 ∨ gN r nx mg C ≤ 0 ∨ (nF r nx f mg x0 C).1 ≤ ntQ (limR r C f) (gN r nx mg C)
    · rw [if_pos o]
      rcases ih with z | ⟨c, hc, z⟩
      · exact Or.inl z
      · exact Or.inr ⟨c, by omega, z⟩
    · rw [if_neg o]
      exact Or.inr ⟨C, by omega, rfl, fun z => o (Or.inl z)⟩
theorem GC.gor {w : Nat → Int32} {C L B j : Nat} {mg : Nat → Int32} {cl : Int32} (h : GC w C L B) (hN : nOK w C) (hC : C ≤ 6) (hL : L ≤ 100) (hj : j < L) : GC (goR w C j mg cl) C L B := by
  unfold goR
  exact h.go hN hC hL hj (cutD_ok _) (nF_nt C)
theorem CN.step {q : Nat → Int32} {c n : Nat} {lv lim : Int32} (h : CN q c n) (hn : n < 900000) (hl : 0 ≤ lv.toInt ∧ lv.toInt ≤ 15500000) (hm : okL lim) : CN (wStep q c lv lim) c (n + 1) := by
  obtain ⟨a, m, h1, h2, h3, h4, h5, h6⟩ := h
  by_cases o : lim = -6 ∨ lv ≤ lim
  · have e : ∀ k, k ≠ 34 + 29 * c + 28 → wStep q c lv lim k = upd q (34 + 29 * c + 25) 0 k := fun k hk => by
      unfold wStep
      rw [if_pos o, upd_ne hk]
    refine ⟨0, m, ?_, ?_, by omega, by omega, ?_, ?_⟩
    · rw [e _ (by omega), upd_eq]; rfl
    · rw [e _ (by omega), upd_ne (by omega)]; exact h2
    · rw [e _ (by omega), upd_ne (by omega)]; exact h5
    · rw [e _ (by omega), upd_ne (by omega)]; exact h6
  · have hlim : lim ≠ -6 := fun z => o (Or.inl z)
    have hle : ¬ lv ≤ lim := fun z => o (Or.inr z)
    obtain ⟨b1, b2⟩ := hm.resolve_left hlim
    rw [i_le] at hle
    have hsub : (lv - lim).toInt = lv.toInt - lim.toInt := sub32 (by omega) (by omega)
    have e : ∀ k, k ≠ 34 + 29 * c + 28 → wStep q c lv lim k = upd (upd (upd q (34 + 29 * c + 25) (nI (a + 1))) (34 + 29 * c + 26) (nI (if m < a + 1 then a + 1 else m))) (34 + 29 * c + 27) (if q (34 + 29 * c + 27) < lv - lim then lv - lim else q (34 + 29 * c + 27)) k := fun k hk => by
      unfold wStep
      rw [if_neg o, upd_ne hk, h1, h2, nI_1]
      congr 2
      by_cases z : m < a + 1
      · rw [if_pos ((lt_nI (by omega) (by omega)).mpr z), if_pos z]
      · rw [if_neg (fun y => z ((lt_nI (by omega) (by omega)).mp y)), if_neg z]
    have e27 : wStep q c lv lim (34 + 29 * c + 27) = if q (34 + 29 * c + 27) < lv - lim then lv - lim else q (34 + 29 * c + 27) := by rw [e _ (by omega), upd_eq]
    have p27 : 0 < (wStep q c lv lim (34 + 29 * c + 27)).toInt := by
      rw [e27]
      split
      · omega
      · rename_i w; rw [i_lt] at w; omega
    refine ⟨a + 1, if m < a + 1 then a + 1 else m, ?_, ?_, ?_, ?_, by omega, ?_⟩
    · rw [e _ (by omega), upd_ne (by omega), upd_ne (by omega), upd_eq]
    · rw [e _ (by omega), upd_ne (by omega), upd_eq]
    · split <;> omega
    · split <;> omega
    · constructor
      · intro z
        exfalso
        split at z <;> omega
      · intro z
        rw [z, z0] at p27
        omega
theorem wRow_CN {r : Nat → Int32} {f : Int32} {lv : Nat → Int32} {n : Nat} (hn : n < 900000) : ∀ C, (∀ c, c < C → CN r c n) → (∀ c, c < C → 0 ≤ (lv c).toInt ∧ (lv c).toInt ≤ 15500000) → (∀ c, c < C → okL (limR r c f)) → ∀ c, c < C → CN (wRow r f lv C) c (n + 1)
  | 0, _, _, _ => fun c hc => by omega
  | C + 1, h1, h2, h3 => fun c hc => by
    rw [wRow]
    by_cases e : c = C
    · subst e
      refine CN.step ((h1 c hc).cong (fun x a b => wRow_un (fun j hj => by omega))) hn (h2 c hc) (h3 c hc)
    · exact (wRow_CN hn C (fun c hc => h1 c (by omega)) (fun c hc => h2 c (by omega)) (fun c hc => h3 c (by omega)) c (by omega)).cong (fun x a b => wStep_un (by omega))
theorem WF.nOK {r : Nat → Int32} {C L P s ln nn : Nat} (h : WF r C L P s ln nn) : nOK r C := fun c hc => by
  obtain ⟨N, a, b, -⟩ := (h.1.2.1 c hc).2.2.1
  exact ⟨N, a, b⟩
/-- the row behind the watch -/
theorem GC.ws {r : Nat → Int32} {C L P s ln nn B : Nat} (h : GC r C L B) (hw : WF r C L P s ln nn) (hs : s = 1 ∨ s = 2) (hB : B < 900000) : GC (wS (upd r 8 (r 8 + 1)) C ln nn) C L (B + 1) ∧ gcEq (upd r 8 (r 8 + 1)) (wS (upd r 8 (r 8 + 1)) C ln nn) C L := by
  obtain ⟨h1, ⟨q, h2, h3, h4⟩, h5, h6, h7, h8⟩ := h
  have hw1 := hw.up8 (r 8 + 1)
  have hN := hw1.nOK
  have hC6 := hw.1.1.2
  have hL := hw.2.1.1.2
  have Me := hw1.meas hs
  have e8 : ∀ k, k ≠ 8 → upd r 8 (r 8 + 1) k = r k := fun k hk => upd_ne hk
  have v8 : upd r 8 (r 8 + 1) 8 = nI (q + 1) := by rw [upd_eq, h2, nI_1]
  generalize upd r 8 (r 8 + 1) = r1 at *
  have un : ∀ k, (k < 34 ∨ (208 ≤ k ∧ k < 308) ∨ 1608 ≤ k) → wS r1 C ln nn k = r1 k := fun k hk => wS_un (by have := hw.2.2.2.2.2.2.1.2; omega) (by have := hw.2.2.2.2.2.2.1.2; omega) (by have := hw.2.2.2.2.2.2.1.2; omega) (fun j hj => by omega)
  have mid : ∀ c x, c < C → x ≤ 24 → wS r1 C ln nn (34 + 29 * c + x) = r1 (34 + 29 * c + x) := fun c x hc hx => wS_un (by omega) (by omega) (by omega) (fun j hj => by omega)
  have eq : gcEq r1 (wS r1 C ln nn) C L := ⟨un 16 (by omega), fun k hk => un _ (by omega), fun c x hc a b => mid c x hc (by omega)⟩
  have lo : lowEq r1 (measS r1 C ln (r1 (208 + ln)) (r1 3) (nI nn)) := fun k hk => by rw [measS, upd_ne (by omega), mRow_un (by omega) (by omega)]
  have hlv := Me.lv
  refine ⟨⟨(un 16 (by omega)).trans ((e8 16 (by omega)).trans h1), ⟨q + 1, (un 8 (by omega)).trans v8, by omega, ?_⟩, fun k hk => ?_, fun k hk => ?_, fun k hk => ?_, fun k hk => ?_⟩, eq⟩
  · unfold wS
    refine wRow_CN (by omega) C (fun c hc => (h4 c hc).cong (fun x a b => ?_)) (fun c hc => (hlv c hc).abs Me.2.2.2.1.2) (fun c hc => ?_)
    · rw [lo _ (by omega), e8 _ (by omega)]
    · rw [limR_cong (r := r1) (fun x a b => lo _ (by omega)) (hN c hc)]
      exact limR_okL (hw1.1.2.1 c hc).2.2.1 _
  · rw [un _ (by omega), un _ (by omega), e8 _ (by omega), e8 _ (by omega)]; exact h5 k hk
  · rw [un _ (by omega), e8 _ (by omega)]; exact h6 k hk
  · rw [un _ (by omega), e8 _ (by omega)]; exact h7 k hk
  · rw [un _ (by omega), un _ (by omega), e8 _ (by omega), e8 _ (by omega)]
    rcases h8 k hk with z | ⟨c, hc, z1, z2⟩
    · exact Or.inl z
    · refine Or.inr ⟨c, hc, z1, ?_⟩
      rw [eq.lim hN hc, limR_cong (r := r) (fun x a b => e8 _ (by omega)) (hw.nOK c hc)]
      exact z2
/-- a loop keeps it -/
theorem GR.loop {r : Nat → Int32} {C L P s ln nn B : Nat} (h : GR r C L P s ln nn B) (hs : s = 1 ∨ s = 2 ∨ s = 3) (hB : B < 900000) : ∃ s' ln', GR (loopS r) C L P s' ln' nn (B + 1) ∧ (s = 3 → s' = 3 ∨ s' = 4) ∧ loopS r 8 = r 8 + 1 := by
  obtain ⟨hw, hg, ⟨g1, g2, g3⟩, hln, h3⟩ := h
  obtain ⟨s', ln', hw'⟩ := loopS_WF hw hs
  have hC6 := hw.1.1.2
  have hL := hw.2.1.1.2
  have h1 := hw.2.2.2.2.2.1
  have h2 := hw.2.2.2.2.2.2.1
  have h1' := hw'.2.2.2.2.2.1
  have h2' := hw'.2.2.2.2.2.2.1
  by_cases q : s = 3
  · subst q
    have hd := h3 rfl
    have e : loopS r = rampS (upd r 8 (r 8 + 1)) := by unfold loopS; rw [if_pos (show r 1 = 3 from h1.1)]
    have at' : ∀ k, k ≠ 8 → k ≠ 3 → k ≠ 1 → loopS r k = r k := fun k a b c => by rw [e]; unfold rampS; rw [upd_ne c, upd_ne b, upd_ne a]
    have a8 : loopS r 8 = r 8 + 1 := by rw [e]; unfold rampS; rw [upd_ne (by omega), upd_ne (by omega), upd_eq]
    have a3 : loopS r 3 = r 3 * 50 / 100 := by rw [e]; unfold rampS; rw [upd_ne (by omega), upd_eq, upd_ne (by omega), upd_ne (by omega), hg.1]
    have a1 : loopS r 1 = if r 3 * 50 / 100 = 0 then 4 else 3 := by rw [e]; unfold rampS; rw [upd_eq, upd_ne (show 3 ≠ 8 by omega), upd_ne (show 16 ≠ 8 by omega), hg.1]
    have k50 : (50 : Int32).toInt = 50 := by decide
    have k100 : (100 : Int32).toInt = 100 := by decide
    obtain ⟨d1, d2⟩ := hd
    have em : (r 3 * 50).toInt = (r 3).toInt * 50 := by rw [mul32 (by rw [k50]; omega) (by rw [k50]; omega), k50]
    have ed : (r 3 * 50 / 100).toInt = (r 3).toInt * 50 / 100 := by rw [div32 (by omega) (by omega), em, k100]
    have hs' : s' = 3 ∧ okD (loopS r 3) ∨ s' = 4 := by
      by_cases z : r 3 * 50 / 100 = 0
      · rw [if_pos z, h1'.1] at a1
        exact Or.inr ((eq_nI (by omega) (by omega)).mp (show nI s' = nI 4 from a1))
      · rw [if_neg z, h1'.1] at a1
        refine Or.inl ⟨(eq_nI (by omega) (by omega)).mp (show nI s' = nI 3 from a1), ?_⟩
        have z' : (r 3 * 50 / 100).toInt ≠ 0 := fun y => z (i_eq.mpr (y.trans z0.symm))
        rw [a3]
        exact ⟨by omega, by omega⟩
    have el : ln' = ln := by
      have := at' 2 (by omega) (by omega) (by omega)
      rw [h2'.1, h2.1] at this
      exact (eq_nI (by omega) (by omega)).mp this
    refine ⟨s', ln', ⟨hw', ?_, ⟨g1, g2, ?_⟩, fun _ => by rw [el]; exact hln (by omega), fun z => ?_⟩, fun _ => ?_, a8⟩
    · obtain ⟨i1, ⟨n, i2, i3, i4⟩, i5, i6, i7, i8⟩ := hg
      refine ⟨(at' 16 (by omega) (by omega) (by omega)).trans i1, ⟨n + 1, by rw [a8, i2, nI_1], by omega, fun c hc => ?_⟩, fun k hk => ?_, fun k hk => ?_, fun k hk => ?_, fun k hk => ?_⟩
      · obtain ⟨a, m, j1, j2, j3, j4, j5⟩ := (i4 c hc).cong (w' := loopS r) (fun x a b => at' _ (by omega) (by omega) (by omega))
        exact ⟨a, m, j1, j2, j3, by omega, j5⟩
      · rw [at' _ (by omega) (by omega) (by omega), at' _ (by omega) (by omega) (by omega)]; exact i5 k hk
      · rw [at' _ (by omega) (by omega) (by omega)]; exact i6 k hk
      · rw [at' _ (by omega) (by omega) (by omega)]; exact i7 k hk
      · rw [at' _ (by omega) (by omega) (by omega), at' _ (by omega) (by omega) (by omega)]
        rcases i8 k hk with z | ⟨c, hc, z1, z2⟩
        · exact Or.inl z
        · exact Or.inr ⟨c, hc, z1, by rw [limR_cong (r := r) (fun x a b => at' _ (by omega) (by omega) (by omega)) (hw.nOK c hc)]; exact z2⟩
    · rw [cnF_cong (ct' := ctR (loopS r)) (ct := ctR r) (fun c hc => by unfold ctR; rw [at' _ (by omega) (by omega) (by omega)])]
      exact g3
    · rcases hs' with ⟨-, y⟩ | y
      · exact y
      · omega
    · rcases hs' with ⟨y, -⟩ | y
      · exact Or.inl y
      · exact Or.inr y
  · have hs2 : s = 1 ∨ s = 2 := by omega
    obtain ⟨gw, ew⟩ := hg.ws hw hs2 hB
    have hw1 := hw.up8 (r 8 + 1)
    have hN1 := hw1.nOK
    obtain ⟨a1, a2, a3, a4, a5⟩ := hw.2.2.2.2.2.2.2.2.1 hs2
    have HS := hw1.sw hs2
    have em := loopS_m hw hs2
    have ct1 : ∀ c, c < C → ctR (upd r 8 (r 8 + 1)) c = ctR r c := fun c hc => by unfold ctR; rw [upd_ne (by omega)]
    have e38 : upd r 8 (r 8 + 1) 3 = r 3 := upd_ne (by omega)
    have e88 : upd r 8 (r 8 + 1) 8 = r 8 + 1 := upd_eq _ _ _
    generalize upd r 8 (r 8 + 1) = r1 at *
    have lo : ∀ k, k < 34 → wS r1 C ln nn k = r1 k := fun k hk => wS_un (by omega) (by omega) (by omega) (fun j hj => by omega)
    have hNw : nOK (wS r1 C ln nn) C := fun c hc => by
      obtain ⟨N, n1, n2⟩ := hN1 c hc
      exact ⟨N, (ew.2.2 c 12 hc (by omega) (by omega)).trans n1, n2⟩
    have hct : cnF (ctR (wS r1 C ln nn)) C = cnF (ctR r) C := cnF_cong (fun c hc => by
      rw [← ct1 c hc]
      unfold ctR
      rw [wS_un (by omega) (by omega) (by omega) (fun j hj => by omega)])
    -- what is to be shown of the row behind the loop
    have fin : GC (loopS r) C L (B + 1) → cnF (ctR (loopS r)) C = cnF (ctR (wS r1 C ln nn)) C → loopS r 8 = wS r1 C ln nn 8 → (∃ j, j < L ∧ loopS r 2 = nI j) → (s' = 3 → okD (loopS r 3)) → ∃ s' ln', GR (loopS r) C L P s' ln' nn (B + 1) ∧ (s = 3 → s' = 3 ∨ s' = 4) ∧ loopS r 8 = r 8 + 1 := fun b1 b2 b3 ⟨j, b4, b5⟩ b6 => by
      refine ⟨s', ln', ⟨hw', b1, ⟨g1, g2, by rw [b2, hct]; exact g3⟩, fun _ => ?_, b6⟩, fun z => absurd z q, by rw [b3, lo 8 (by omega), e88]⟩
      have := (eq_nI (by omega) (by omega)).mp (h2'.1.symm.trans b5)
      omega
    have n3 : loopS r 1 ≠ 3 → s' ≠ 3 := fun z y => z (by rw [h1'.1, y]; rfl)
    have ofGo : ∀ (w : Nat → Int32) (j : Nat), GC w C L (B + 1) → nOK w C → j < L → (∀ k, k ≠ 6 → k ≠ 7 → w k = wS r1 C ln nn k) → loopS r = goR w C j (mgV r1 ln) (clR r1 C (r1 (208 + ln)) (r1 3)) → ∃ s' ln', GR (loopS r) C L P s' ln' nn (B + 1) ∧ (s = 3 → s' = 3 ∨ s' = 4) ∧ loopS r 8 = r 8 + 1 := fun w j b1 b2 b3 b4 b5 => by
      have gg := b1.gor (mg := mgV r1 ln) (cl := clR r1 C (r1 (208 + ln)) (r1 3)) b2 hC6 hL b3
      have ⟨z, nt, e, hz⟩ : ∃ z nt, goR w C j (mgV r1 ln) (clR r1 C (r1 (208 + ln)) (r1 3)) = goS w j z nt ∧ okD z := ⟨_, _, rfl, cutD_ok _⟩
      rw [e] at b5 gg
      rw [← b5] at gg
      have at' : ∀ k, k < 1608 → k ≠ 2 → k ≠ 3 → loopS r k = w k := fun k a b c => by rw [b5]; exact goS_at a b c
      refine fin gg (cnF_cong (fun c hc => ?_)) ?_ ⟨j, b3, by rw [b5]; exact goS_2.1⟩ (fun _ => by rw [b5, goS_2.2]; exact hz)
      · unfold ctR
        rw [at' _ (by omega) (by omega) (by omega), b4 _ (by omega) (by omega)]
      · rw [at' _ (by omega) (by omega) (by omega), b4 _ (by omega) (by omega)]
    rw [em] at fin ofGo n3 ⊢
    unfold mloopS at fin ofGo n3 ⊢
    by_cases o : offS r1 C ln nn = -6
    · rw [if_pos o] at fin ofGo n3 ⊢
      by_cases z : r1 1 = 1
      · rw [if_pos z] at fin ofGo n3 ⊢
        unfold sweepS at fin ofGo n3 ⊢
        cases hst2 : stepL (nz (wS r1 C ln nn 7)) ln L with
        | some j =>
          rw [hst2] at fin ofGo n3
          dsimp only at fin ofGo n3 ⊢
          exact ofGo _ j gw hNw (stepL_some a1 hL hst2).2.1 (fun _ _ _ => rfl) rfl
        | none =>
          rw [hst2] at fin ofGo n3
          dsimp only at fin ofGo n3 ⊢
          by_cases y : wS r1 C ln nn 6 + 1 < wS r1 C ln nn 17
          · rw [if_pos y] at fin ofGo n3 ⊢
            have e : ∀ k, k ≠ 6 → k ≠ 7 → (upd (upd (wS r1 C ln nn) 6 (wS r1 C ln nn 6 + 1)) 7 (bz (!(nz (wS r1 C ln nn 7))))) k = wS r1 C ln nn k := fun k a b => by rw [upd_ne b, upd_ne a]
            refine ofGo _ _ (gw.cong hNw ⟨e _ (by omega) (by omega), fun k hk => e _ (by omega) (by omega), fun c x hc a b => e _ (by omega) (by omega)⟩ (e _ (by omega) (by omega)) (fun c x hc a b => e _ (by omega) (by omega)) (fun k hk => ⟨e _ (by omega) (by omega), e _ (by omega) (by omega)⟩)) (fun c hc => ?_) (stepL_lt a1 hL) e rfl
            obtain ⟨N, n1, n2⟩ := hNw c hc
            exact ⟨N, (e _ (by omega) (by omega)).trans n1, n2⟩
          · rw [if_neg y] at fin ofGo n3 ⊢
            have e : ∀ k, k ≠ 6 → k ≠ 1 → k ≠ 3 → (upd (upd (upd (wS r1 C ln nn) 6 (wS r1 C ln nn 6 + 1)) 1 5) 3 0) k = wS r1 C ln nn k := fun k a b c => by rw [upd_ne c, upd_ne b, upd_ne a]
            refine fin (gw.cong hNw ⟨e _ (by omega) (by omega) (by omega), fun k hk => e _ (by omega) (by omega) (by omega), fun c x hc a b => e _ (by omega) (by omega) (by omega)⟩ (e _ (by omega) (by omega) (by omega)) (fun c x hc a b => e _ (by omega) (by omega) (by omega)) (fun k hk => ⟨e _ (by omega) (by omega) (by omega), e _ (by omega) (by omega) (by omega)⟩)) (cnF_cong (fun c hc => ?_)) (e _ (by omega) (by omega) (by omega)) ⟨ln, a1, ?_⟩ (fun y => absurd y (n3 ?_))
            · unfold ctR
              rw [e _ (by omega) (by omega) (by omega)]
            · rw [e _ (by omega) (by omega) (by omega)]; exact HS.2.1.1
            · rw [upd_ne (by omega), upd_eq]; decide
      · rw [if_neg z] at fin ofGo n3 ⊢
        exact ofGo _ ln gw hNw a1 (fun _ _ _ => rfl) rfl
    · rw [if_neg o] at fin ofGo n3 ⊢
      have e : ∀ k, k ≠ 1 → k ≠ 9 → k ≠ 10 → (upd (upd (upd (wS r1 C ln nn) 1 3) 9 (offS r1 C ln nn)) 10 (nI ln)) k = wS r1 C ln nn k := fun k a b c => by rw [upd_ne c, upd_ne b, upd_ne a]
      refine fin (gw.cong hNw ⟨e _ (by omega) (by omega) (by omega), fun k hk => e _ (by omega) (by omega) (by omega), fun c x hc a b => e _ (by omega) (by omega) (by omega)⟩ (e _ (by omega) (by omega) (by omega)) (fun c x hc a b => e _ (by omega) (by omega) (by omega)) (fun k hk => ⟨e _ (by omega) (by omega) (by omega), e _ (by omega) (by omega) (by omega)⟩)) (cnF_cong (fun c hc => ?_)) (e _ (by omega) (by omega) (by omega)) ⟨ln, a1, ?_⟩ (fun _ => ?_)
      · unfold ctR
        rw [e _ (by omega) (by omega) (by omega)]
      · rw [e _ (by omega) (by omega) (by omega)]; exact HS.2.1.1
      · rw [e _ (by omega) (by omega) (by omega), lo 3 (by omega), e38]; exact a4
