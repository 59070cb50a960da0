/-! PURE, the class alone: by program out of the same part of whole -/
/-! PURE: a loop, both sides -/
theorem WF.up8 {r : Nat → Int32} {C L P s ln nn : Nat} (h : WF r C L P s ln nn) (v : Int32) : WF (upd r 8 v) C L P s ln nn := by
  obtain ⟨p1, p2, p3, p4, p5, h1, h2, h7, h8, h9⟩ := h
  obtain ⟨q1, q2, q3, q4, q5⟩ := freeEq.parts (freeEq.put (i := 8) (v := v) (by omega)) ⟨p1, p2, p3, p4, p5⟩
  have e : ∀ k, k ≠ 8 → upd r 8 v k = r k := fun k hk => upd_ne hk
  have hct : cnF (ctR (upd r 8 v)) C = cnF (ctR r) C := cnF_cong (fun c hc => by unfold ctR; rw [e _ (by omega)])
  refine ⟨q1, q2, q3, q4, q5, ?_, ?_, ?_, ?_, ?_⟩
  · rw [e 1 (by omega)]; exact h1
  · rw [e 2 (by omega)]; exact h2
  · rw [e 7 (by omega)]; exact h7
  · rw [e 3 (by omega), e 9 (by omega), hct]; exact h8
  · rw [e 3 (by omega)]; exact h9
theorem WF.sw {r : Nat → Int32} {C L P s ln nn : Nat} (h : WF r C L P s ln nn) (hs : s = 1 ∨ s = 2) : SW (wS r C ln nn) C L P ln nn := by
  have hw := wS_WF h hs
  obtain ⟨hc, hl, hp, hst, ha, h1, h2, h7, h8, h9⟩ := h
  obtain ⟨a1, a2, a3, a4, a5⟩ := h8 hs
  have h6 := hc.1.2
  have lo : ∀ k, k < 34 → wS r C ln nn k = r k := fun k hk => wS_un (by omega) (by omega) (by omega) (fun j hj => by omega)
  exact ⟨hw, by rw [lo 2 (by omega)]; exact ⟨h2.1, a1⟩, a2, by rw [lo 3 (by omega)]; exact a4, by rw [lo 7 (by omega)]; exact h7⟩
theorem mloopC_ok {M : MM} {b C L P s ln nn : Nat} {r : Nat → Int32} (h : WF r C L P s ln nn) (hs : s = 1 ∨ s = 2) (hR : Rep M b r) : ∃ M', (gd (inb (M b 9) 100) (Option.bind (f_X4_measureLevels b (M (b + 1 + 1) (ix (M b 9))) M) fun v3 => Option.bind (f_X4_countLoop b (M (b + 1 + 1) (ix (M b 9))) v3.2) fun v4 => if v4.1 = (-6) then (if (v4.2 b 8) = 2 then (f_X4_doLoop_91 b v3.1 (v4.2 b 9) v4.2) else (Option.bind (f_X4_nextLine b v4.2) fun v7 => f_X4_doLoop_91 b v3.1 v7.1 v7.2)) else (Option.bind (f_X4_beginAbort b v4.1 v4.2) fun v8 => some v8))) = some M' ∧ Rep M' b (mloopS r C L ln nn) ∧ (∀ c, c < C → M' (b + (11 + 9 * c)) 12 = mloopS r C L ln nn (308 + 6 * ln + c)) ∧ Fr b M M' := by
  have HM := h.meas hs
  have HS := h.sw hs
  have hwf := wS_WF h hs
  obtain ⟨hc, hl, hp, hst, ha, h1, h2, h7, h8, h9⟩ := id h
  obtain ⟨a1, a2, a3, a4, a5⟩ := h8 hs
  have h6 := hc.1.2
  have lo : ∀ k, k < 34 → wS r C ln nn k = r k := fun k hk => wS_un (by omega) (by omega) (by omega) (fun j hj => by omega)
  have m9 : M b 9 = nI ln := hR.s.2.2.2.1.trans h2.1
  have mf : M (b + 1 + 1) ln = r (208 + ln) := (hR.r h2.2).1
  have hlow : ∀ k, k < 308 → measS r C ln (r (208 + ln)) (r 3) (nI nn) k = r k := fun k hk => by
    rw [measS, upd_ne (by omega)]; exact mRow_un (by omega) (by omega)
  have HW : WatH (measS r C ln (r (208 + ln)) (r 3) (nI nn)) C := by
    have w := WF.wat hc
    refine ⟨by rw [hlow 5 (by omega)]; exact w.1, fun c hcc => by rw [hlow _ (by omega)]; exact w.2.1 c hcc, fun c hcc => by rw [hlow _ (by omega)]; exact w.2.2 c hcc⟩
  obtain ⟨M1, e1, R1, l1, F1⟩ := measC_ok HM hR
  obtain ⟨M2, e2, R2, l2, F2⟩ := watchC_ok (f := r (208 + ln)) HW R1 (fun c hcc => (l1 c hcc).1)
  have lev : ∀ c, c < C → wS r C ln nn (308 + 6 * ln + c) = lvR r (r (208 + ln)) (r 3) c := fun c hcc => by
    unfold wS
    rw [wRow_un (fun j hj => by omega), measS, upd_ne (by omega), mRow_lv h2.2 hcc h6]
    rfl
  have R2 : Rep M2 b (wS r C ln nn) := R2
  have mg2 : ∀ c, c < C → M2 (b + (11 + 9 * c)) 13 = mgV r ln c := fun c hcc => (l2 c hcc).2.trans (l1 c hcc).2
  have m28 : M2 b 8 = nI s := R2.s.2.2.1.trans ((lo 1 (by omega)).trans h1.1)
  have m29 : M2 b 9 = nI ln := R2.s.2.2.2.1.trans ((lo 2 (by omega)).trans h2.1)
  rw [m9, gd_of (inb_nI h2.2 (by omega)), ix_nI (by omega), mf, e1, Option.bind_some, e2, Option.bind_some]
  dsimp only
  have h1' : (r 1 = 1) ↔ s = 1 := by rw [h1.1, show (1 : Int32) = nI 1 from rfl]; exact eq_nI (by omega) (by omega)
  have goLev : ∀ (w : Nat → Int32) (nx : Nat) (c : Nat), (∀ k, 34 ≤ k → w k = wS r C ln nn k) → goR w C nx (mgV r ln) (clR r C (r (208 + ln)) (r 3)) (308 + 6 * ln + c) = wS r C ln nn (308 + 6 * ln + c) ∨ 100 ≤ c := fun w nx c hw => by
    by_cases q : c < 100
    · left
      unfold goR
      rw [goS_at (by omega) (by omega) (by omega), hw _ (by omega)]
    · right; omega
  unfold mloopS
  change ∃ M', (if offS r C ln nn = -6 then _ else _) = some M' ∧ _
  by_cases o : offS r C ln nn = -6
  · rw [if_pos o, if_pos o]
    rcases hs with rfl | rfl
    · obtain ⟨M3, e3, R3, o3, F3⟩ := sweepC_ok (mg := mgV r ln) (cl := clR r C (r (208 + ln)) (r 3)) HS R2 mg2
      rw [if_neg (by rw [m28]; decide), if_pos (h1'.mpr rfl)]
      refine ⟨M3, e3, R3, fun c hcc => ?_, (F1.tr F2).tr F3⟩
      rw [o3 _ (by omega), (l2 c hcc).1]
      have : sweepS (wS r C ln nn) C ln L (mgV r ln) (clR r C (r (208 + ln)) (r 3)) (308 + 6 * ln + c) = wS r C ln nn (308 + 6 * ln + c) := by
        unfold sweepS
        cases stepL (nz (wS r C ln nn 7)) ln L with
        | some j =>
          dsimp only
          exact (goLev _ j c (fun _ _ => rfl)).resolve_right (by omega)
        | none =>
          dsimp only
          split
          · exact (goLev _ _ c (fun k hk => by rw [upd_ne (by omega), upd_ne (by omega)])).resolve_right (by omega)
          · rw [upd_ne (by omega), upd_ne (by omega), upd_ne (by omega)]
      rw [this, lev c hcc]
    · obtain ⟨M3, e3, R3, o3, F3⟩ := goC_ok (mg := mgV r ln) (cl := clR r C (r (208 + ln)) (r 3)) (HS.go a1) R2 mg2
      rw [if_pos (show M2 b 8 = 2 from m28), if_neg (fun z => absurd (h1'.mp z) (by decide)), m29]
      unfold f_X4_doLoop_91
      rw [if_neg (ne6_nI (by omega)), e3, Option.bind_some]
      refine ⟨M3, rfl, R3, fun c hcc => ?_, (F1.tr F2).tr F3⟩
      rw [o3 _ (by omega), (l2 c hcc).1, (goLev _ ln c (fun _ _ => rfl)).resolve_right (by omega), lev c hcc]
  · rw [if_neg o, if_neg o]
    unfold f_X4_beginAbort
    rw [Option.bind_some, ms_ni (show 9 ≠ 14 by omega), ms_ni (show 9 ≠ 8 by omega), m29]
    refine ⟨_, rfl, ?_, fun c hcc => ?_, Fr.put (o := 0) (Fr.put (o := 0) (Fr.put (o := 0) (F1.tr F2) (by omega)) (by omega)) (by omega)⟩
    · exact Rep.put (o := 0) (Rep.put (o := 0) (Rep.put (o := 0) R2 (k := 1) rfl (by omega) (by omega) (by omega) (n0' _ (by omega) (by omega) (by omega))) (k := 9) rfl (by omega) (by omega) (by omega) (n0' _ (by omega) (by omega) (by omega))) (k := 10) rfl (by omega) (by omega) (by omega) (n0' _ (by omega) (by omega) (by omega))
    · rw [ms_ne (by omega), ms_ne (by omega), ms_ne (by omega), (l2 c hcc).1, upd_ne (by omega), upd_ne (by omega), upd_ne (by omega), lev c hcc]
theorem WF.ix {r : Nat → Int32} {C L P s ln nn : Nat} (h : WF r C L P s ln nn) : Cn r = C ∧ _root_.Int32.toNatClampNeg (r 0) = L ∧ _root_.Int32.toNatClampNeg (r 2) = ln ∧ _root_.Int32.toNatClampNeg (r 13) = nn := by
  obtain ⟨hc, hl, hp, hst, ha, h1, h2, h7, h8, h9⟩ := h
  refine ⟨?_, ?_, ?_, ?_⟩
  · unfold Cn; rw [hc.1.1]; exact tn_nI (by have := hc.1.2; omega)
  · rw [hl.1.1]; exact tn_nI (by have := hl.1.2; omega)
  · rw [h2.1]; exact tn_nI (by omega)
  · rw [hst.2.1.1]; exact tn_nI (by have := hst.2.1.2.2; omega)
theorem loopS_m {r : Nat → Int32} {C L P s ln nn : Nat} (h : WF r C L P s ln nn) (hs : s = 1 ∨ s = 2) : loopS r = mloopS (upd r 8 (r 8 + 1)) C L ln nn := by
  obtain ⟨e1, e2, e3, e4⟩ := h.ix
  have h1 := h.2.2.2.2.2.1
  unfold loopS
  rw [if_neg (by rw [h1.1, show (3 : Int32) = nI 3 from rfl, eq_nI (by omega) (by omega)]; omega)]
  show mloopS (upd r 8 (r 8 + 1)) (Cn r) (Int32.toNatClampNeg (r 0)) (Int32.toNatClampNeg (r 2)) (Int32.toNatClampNeg (r 13)) = _
  rw [e1, e2, e3, e4]
theorem loopC_ok {M : MM} {b C L P s ln nn : Nat} {r : Nat → Int32} (h : WF r C L P s ln nn) (hs : s = 1 ∨ s = 2 ∨ s = 3) (hR : Rep M b r) : ∃ M', f_X4_doLoop b M = some M' ∧ Rep M' b (loopS r) ∧ (s ≠ 3 → ∀ c, c < C → M' (b + (11 + 9 * c)) 12 = loopS r (308 + 6 * ln + c)) ∧ Fr b M M' := by
  have h1 := h.2.2.2.2.2.1
  have m8 : M b 8 = nI s := hR.s.2.2.1.trans h1.1
  have m13 : M b 13 = r 8 := hR.s.2.2.2.2.2.2.2.1
  have R8 : Rep (ms M b 13 (r 8 + 1)) b (upd r 8 (r 8 + 1)) := Rep.put (o := 0) hR (k := 8) rfl (by omega) (by omega) (by omega) (n0' _ (by omega) (by omega) (by omega))
  have F8 : Fr b M (ms M b 13 (r 8 + 1)) := Fr.put (o := 0) Fr.rf (by omega)
  unfold f_X4_doLoop
  rw [ms_ni (show 8 ≠ 13 by omega), m8, m13]
  by_cases q : s = 3
  · subst q
    rw [if_pos (show nI 3 = 3 from rfl)]
    unfold loopS
    rw [if_pos (show r 1 = 3 from h1.1)]
    unfold f_X4_rampDown f_X4_rampDown_30 rampS
    have m10 : ms M b 13 (r 8 + 1) b 10 = r 3 := R8.s.2.2.2.2.1
    have m16 : ms M b 13 (r 8 + 1) (b + 7) 4 = r 16 := R8.g (i := 4) (by omega)
    rw [show (4 : Int32) = nI 4 from rfl, gd_of (inb_nI (by omega) (by omega)), ix_nI (by omega), ms_eq, m10, m16, upd_ne (show 3 ≠ 8 by omega), upd_ne (show 16 ≠ 8 by omega)]
    have R3 : Rep (ms (ms M b 13 (r 8 + 1)) b 10 (r 3 * r 16 / 100)) b (upd (upd r 8 (r 8 + 1)) 3 (r 3 * r 16 / 100)) := Rep.put (o := 0) R8 (k := 3) rfl (by omega) (by omega) (by omega) (n0' _ (by omega) (by omega) (by omega))
    have F3 : Fr b M (ms (ms M b 13 (r 8 + 1)) b 10 (r 3 * r 16 / 100)) := Fr.put (o := 0) F8 (by omega)
    by_cases z : r 3 * r 16 / 100 = 0
    · rw [if_pos z, if_pos z, Option.bind_some]
      exact ⟨_, rfl, Rep.put (o := 0) R3 (k := 1) rfl (by omega) (by omega) (by omega) (n0' _ (by omega) (by omega) (by omega)), fun h => absurd rfl h, Fr.put (o := 0) F3 (by omega)⟩
    · rw [if_neg z, if_neg z, Option.bind_some]
      refine ⟨_, rfl, ?_, fun h => absurd rfl h, F3⟩
      rw [upd_self (f := upd (upd r 8 (r 8 + 1)) 3 (r 3 * r 16 / 100)) (k := 1) (v := 3) (by rw [upd_ne (by omega), upd_ne (by omega)]; exact h1.1)]
      exact R3
  · have hs2 : s = 1 ∨ s = 2 := by omega
    obtain ⟨-, hl, -, -, -, -, h2, -, h8, -⟩ := h.up8 (r 8 + 1)
    have hw : wi (ms M b 13 (r 8 + 1) b 9) 0 (upd r 8 (r 8 + 1) 0 - 1) = true := by
      rw [hl.1.1, show ms M b 13 (r 8 + 1) b 9 = nI ln from R8.s.2.2.2.1.trans h2.1]
      exact (wi_ix (by have := hl.1.2; omega)).mpr ⟨ln, (h8 hs2).1, rfl⟩
    rw [if_neg (by rw [show (3 : Int32) = nI 3 from rfl, eq_nI (by omega) (by omega)]; exact q), loopS_m h hs2, hasLine_ok R8, Option.bind_some, hw, if_neg bz_t0]
    obtain ⟨M', e, r1, r2, r3⟩ := mloopC_ok (h.up8 (r 8 + 1)) hs2 R8
    exact ⟨M', e, r1, fun _ => r2, F8.tr r3⟩
