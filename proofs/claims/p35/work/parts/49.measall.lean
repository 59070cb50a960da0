/-! PURE, the class alone: by program out of the same part of whole -/
/-! PURE: a whole measuring, both sides -/
def ctR (r : Nat → Int32) : Nat → Bool := fun c => nz (r (34 + 29 * c))
def lvR (r : Nat → Int32) (f d : Int32) : Nat → Int32 := fun c => lvS (gainR r c f) d
def clR (r : Nat → Int32) (C : Nat) (f d : Int32) : Int32 := clS (r 12) (ctR r) (lvR r f d) C
def measS (r : Nat → Int32) (C ln : Nat) (f d n : Int32) : Nat → Int32 := upd (mRow r ln f d n C) (1508 + ln) (avS n (r (1508 + ln)) (mgS (clR r C f d) d))
def MeasH (r : Nat → Int32) (C ln nn : Nat) (f d : Int32) : Prop := (r 5 = nI C ∧ C ≤ 6) ∧ (r 2 = nI ln ∧ ln < 100) ∧ (r (208 + ln) = f ∧ Sm f 2000) ∧ (r 3 = d ∧ okD d) ∧ (r 13 = nI nn ∧ 1 ≤ nn ∧ nn ≤ 8) ∧ (∀ c, c < C → okG r c) ∧ (∀ c, c < C → okA (r (908 + 6 * ln + c))) ∧ okA (r (1508 + ln)) ∧ (r 12 = 0 ∨ r 12 = 1 ∨ r 12 = 2) ∧ (∀ c, c < C → r (34 + 29 * c) = 0 ∨ r (34 + 29 * c) = 1) ∧ 0 < cnF (ctR r) C
theorem MeasH.lv {r : Nat → Int32} {C ln nn : Nat} {f d : Int32} (H : MeasH r C ln nn f d) : ∀ c, c < C → LvB (lvR r f d c) d := fun c hc => (lvS_toInt (gainR_bd (H.2.2.2.2.2.1 c hc) H.2.2.1.2) H.2.2.2.1.2).2
theorem LvB.abs {x d : Int32} (h : LvB x d) (hd : okD d) : 0 ≤ x.toInt ∧ x.toInt ≤ 15500000 := ⟨h.1, by have := h.2; have := hd.2; omega⟩
theorem measC_loop {M : MM} {b C ln nn : Nat} {r : Nat → Int32} {f d : Int32} (H : MeasH r C ln nn f d) : ∀ (d' j k : Nat) (M' : MM), j + d' = C → d' < k → Rep M' b (mRow r ln f d (nI nn) j) → (∀ c, c < j → M' (b + (11 + 9 * c)) 12 = lvR r f d c ∧ M' (b + (11 + 9 * c)) 13 = mgS (lvR r f d c) d) → Fr b M M' → ∃ M'', f_X4_measureLevels_9 b k f (nI nn) (nI j) M' = some (clR r C f d, M'') ∧ Rep M'' b (measS r C ln f d (nI nn)) ∧ (∀ c, c < C → M'' (b + (11 + 9 * c)) 12 = lvR r f d c ∧ M'' (b + (11 + 9 * c)) 13 = mgS (lvR r f d c) d) ∧ Fr b M M'' := by
  have hlv := H.lv
  obtain ⟨⟨h5, hC⟩, ⟨h2, hln⟩, ⟨h208, hf⟩, ⟨h3, hd⟩, ⟨h13, hn⟩, hg, ha, hac, hst, hct, hcn⟩ := H
  have hCn : Cn r = C := by unfold Cn; rw [h5, ix_nI (by omega)]
  have hnt : 1 ≤ (nI nn).toInt ∧ (nI nn).toInt ≤ 8 := by rw [nI_toInt (by omega)]; omega
  intro d'
  induction d' with
  | zero =>
    intro j k M' h1 hk hR hL hF
    obtain ⟨k, rfl⟩ : ∃ k', k = k' + 1 := ⟨k - 1, by omega⟩
    have e : j = C := by omega
    subst e
    have s := hR.s
    have m3 : M' b 3 = nI j := s.2.1.trans ((mRow_low 5 (by omega)).trans h5)
    have m9 : M' b 9 = nI ln := s.2.2.2.1.trans ((mRow_low 2 (by omega)).trans h2)
    have m10 : M' b 10 = d := s.2.2.2.2.1.trans ((mRow_low 3 (by omega)).trans h3)
    have mst : M' (b + 7) 0 = r 12 := (hR.g (i := 0) (by omega)).trans (mRow_low 12 (by omega))
    have hCq : Cn (mRow r ln f d (nI nn) j) = j := by rw [low_Cn mRow_low, hCn]
    have hcl := clS_bd (st := r 12) (ct := ctR r) (lv := lvR r f d) hd hC hcn hlv
    have ec : f_X4_controlLevel b M' = some (clR r j f d) := ctlC_ok m3 hC mst (fun c hc => by
      rw [(hR.c (by rw [hCq]; exact hc) (by omega)).1, mRow_low _ (by omega)]; rfl) (fun c hc => (hL c hc).1) (fun c hc => (hlv c hc).abs hd) hcn hst
    have m8 : M' (b + 8) ln = r (1508 + ln) := (hR.r hln).2.1.trans (mRow_un (by omega) (by omega))
    have hmg := mgS_toInt (lv := clR r j f d) hcl.1 hd
    refine ⟨ms M' (b + 8) ln (avS (nI nn) (r (1508 + ln)) (mgS (clR r j f d) d)), ?_, ?_, ?_, Fr.put hF (by omega)⟩
    · rw [f_X4_measureLevels_9.eq_2, m3, if_pos (Int32.le_refl _), ec, Option.bind_some, m10, mgC_ok hd, Option.bind_some, m9, gd_of (inb_nI hln (by omega)), ix_nI (by omega), m8, avC_ok hnt hac hmg.2, Option.bind_some, gd_of (inb_nI hln (by omega))]
    · exact Rep.put hR (tr_8 ln hln).2.1 (by omega) hln (by omega) ⟨by omega, by omega, fun _ _ => by omega⟩
    · intro c hc
      rw [ms_ne (by omega)]
      exact hL c hc
  | succ d' ih =>
    intro j k M' h1 hk hR hL hF
    obtain ⟨k, rfl⟩ : ∃ k', k = k' + 1 := ⟨k - 1, by omega⟩
    have s := hR.s
    have m3 : M' b 3 = nI C := s.2.1.trans ((mRow_low 5 (by omega)).trans h5)
    have m9 : M' b 9 = nI ln := s.2.2.2.1.trans ((mRow_low 2 (by omega)).trans h2)
    have m10 : M' b 10 = d := s.2.2.2.2.1.trans ((mRow_low 3 (by omega)).trans h3)
    obtain ⟨M1, e1, R1, l1, l2, o1, F1⟩ := measC_step hR (by rw [hCn]; omega) (by omega) hln (hg j (by omega)) hf hd hnt (ha j (by omega))
    obtain ⟨M2, e2, r2⟩ := ih (j + 1) k M1 (by omega) (by omega) R1 (fun c hc => by
      by_cases q : c = j
      · subst q; exact ⟨l1, l2⟩
      · rw [o1 _ (by omega) (by omega) (by omega)]
        exact hL c (by omega)) (hF.tr F1)
    refine ⟨M2, ?_, r2⟩
    rw [f_X4_measureLevels_9.eq_2, m3, if_neg (by rw [le_nI (by omega) (by omega)]; omega), gd_of (inb_nI (by omega) (by omega)), ix_nI (by omega), m9, m10, show b + 6 + 5 + 9 * j = b + (11 + 9 * j) by omega, e1, Option.bind_some, nI_1]
    exact e2
theorem measC_ok {M : MM} {b C ln nn : Nat} {r : Nat → Int32} {f d : Int32} (H : MeasH r C ln nn f d) (hR : Rep M b r) : ∃ M', f_X4_measureLevels b f M = some (clR r C f d, M') ∧ Rep M' b (measS r C ln f d (nI nn)) ∧ (∀ c, c < C → M' (b + (11 + 9 * c)) 12 = lvR r f d c ∧ M' (b + (11 + 9 * c)) 13 = mgS (lvR r f d c) d) ∧ Fr b M M' := by
  obtain ⟨M', e, q⟩ := measC_loop (M := M) (b := b) H C 0 FU M (by omega) (by have := H.1.2; unfold FU; omega) hR (fun c hc => by omega) Fr.rf
  refine ⟨M', ?_, q⟩
  unfold f_X4_measureLevels
  rw [show (1 : Int32) = nI 1 from rfl, gd_of (inb_nI (by omega) (by omega)), ix_nI (by omega), hR.g (by omega), show r (12 + 1) = nI nn from H.2.2.2.2.1.1]
  exact e
