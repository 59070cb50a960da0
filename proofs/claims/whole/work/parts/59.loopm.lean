/-! PURE: a loop on the model's side; what holds of its row -/
theorem loopM_ok {M : MM} {C L P s ln nn : Nat} (h : WF (M 658) C L P s ln nn) (hs : s = 1 ∨ s = 2 ∨ s = 3) : ∃ M', f_X7_loop 657 M = some M' ∧ M' 658 = loopS (M 658) ∧ Mo M M' := by
  have h1 := h.2.2.2.2.2.1
  unfold f_X7_loop
  rw [show (8 : Int32) = nI 8 from rfl, show (1 : Int32) = nI 1 from rfl, show (4 : Int32) = nI 4 from rfl]
  rw [gd_of (show inb (nI 8) 16272 = true from inb_nI (by omega) (by omega)), gd_of (show inb (nI 8) 16272 = true from inb_nI (by omega) (by omega)), gd_of (show inb (nI 1) 16272 = true from inb_nI (by omega) (by omega)), ix_nI (show 8 ≤ 1000000 by omega), ix_nI (show 1 ≤ 1000000 by omega)]
  simp only [Nat.reduceAdd]
  rw [show ∀ v, ms M 658 8 v = msf M 658 (upd (M 658) 8 v) from fun _ => rfl, show nI 1 = (1 : Int32) from rfl]
  rw [msf_at, upd_ne (show 1 ≠ 8 by omega)]
  by_cases q : s = 3
  · subst q
    have q3 : M 658 1 = 3 := h1.1
    rw [if_pos q3]
    unfold loopS
    rw [if_pos q3]
    unfold rampS
    rw [show (3 : Int32) = nI 3 from rfl, gd_of (show inb (nI 3) 16272 = true from inb_nI (by omega) (by omega)), show f_X7_setting 657 (nI 4) (msf M 658 (upd (M 658) 8 (M 658 8 + 1))) = some (M 658 16) from (setting_ok (k := 4) (by omega)).trans (by rw [msf_at, upd_ne (by omega)]), Option.bind_some, gd_of (show inb (nI 3) 16272 = true from inb_nI (by omega) (by omega)), gd_of (show inb (nI 3) 16272 = true from inb_nI (by omega) (by omega)), ix_nI (show 3 ≤ 1000000 by omega)]
    rw [ms_msf, msf_at, upd_eq, upd_ne (show 3 ≠ 8 by omega), upd_ne (show 16 ≠ 8 by omega)]
    unfold f_X7_loop_61
    rw [gd_of (show inb (bz true) 16272 = true by decide), show ix (bz true) = 1 from rfl, ms_msf, ms_msf]
    by_cases z : M 658 3 * M 658 16 / 100 = 0
    · rw [if_pos z, if_pos z]
      exact ⟨_, rfl, msf_at _ _ _, fun q a b => msf_ne a⟩
    · rw [if_neg z, if_neg z]
      exact ⟨_, rfl, msf_at _ _ _, fun q a b => msf_ne a⟩
  · have hs2 : s = 1 ∨ s = 2 := by omega
    have q3 : ¬ M 658 1 = 3 := by rw [h1.1, show (3 : Int32) = nI 3 from rfl, eq_nI (by omega) (by omega)]; exact q
    rw [if_neg q3, loopS_m h hs2]
    generalize hr : upd (M 658) 8 (M 658 8 + 1) = r
    have hw : WF r C L P s ln nn := by rw [← hr]; exact h.up8 _
    have HM := hw.meas hs2
    have HS := hw.sw hs2
    obtain ⟨hc, hl, hp, hst, ha, g1, h2, h7, h8, h9⟩ := id hw
    obtain ⟨a1, a2, a3, a4, a5⟩ := h8 hs2
    have h6 := hc.1.2
    have lo : ∀ k, k < 34 → wS r C ln nn k = r k := fun k hk => wS_un (by omega) (by omega) (by omega) (fun j hj => by omega)
    have hlow : ∀ k, k < 308 → measS r C ln (r (208 + ln)) (r 3) (nI nn) k = r k := fun k hk => by
      rw [measS, upd_ne (by omega)]; exact mRow_un (by omega) (by omega)
    have HW : WatH (measS r C ln (r (208 + ln)) (r 3) (nI nn)) C := by
      have w := WF.wat hc
      have hx : ∀ k, k < 208 → measS r C ln (r (208 + ln)) (r 3) (nI nn) k = r k := fun k hk => hlow k (by omega)
      refine ⟨by rw [hlow 5 (by omega)]; exact w.1, fun c hcc => by rw [hlow _ (by omega)]; exact w.2.1 c hcc, fun c hcc => by rw [hlow _ (by omega)]; exact w.2.2 c hcc⟩
    obtain ⟨M1, e1, R1, l1, F1⟩ := measM_ok (M := msf M 658 r) (C := C) (ln := ln) (nn := nn) (f := r (208 + ln)) (d := r 3) (by rw [msf_at]; exact HM)
    rw [msf_at] at e1 R1 l1
    obtain ⟨M2, e2, R2, F2⟩ := watchM_ok (M := M1) (C := C) (ln := ln) (f := r (208 + ln)) (lv := lvR r (r (208 + ln)) (r 3)) (by rw [R1]; exact HW) (by rw [R1, hlow 2 (by omega)]; exact h2.1) h2.2 (by rw [R1, hlow _ (by omega)]) (fun c hcc => by rw [R1, measS, upd_ne (by omega), mRow_lv h2.2 hcc h6]; rfl)
    rw [R1] at e2 R2
    have R2 : M2 658 = wS r C ln nn := R2
    have mg2 : ∀ c, c < C → M2 661 c = mgV r ln c := fun c hcc => by rw [F2 661 (by omega)]; exact l1 c hcc
    have F : Mo M M2 := fun q a b => (F2 q a).trans ((F1 q a b).trans (msf_ne a))
    have m21 : M2 658 1 = nI s := by rw [R2, lo 1 (by omega)]; exact g1.1
    have m22 : M2 658 2 = nI ln := by rw [R2, lo 2 (by omega)]; exact h2.1
    have h1' : (r 1 = 1) ↔ s = 1 := by rw [g1.1, show (1 : Int32) = nI 1 from rfl]; exact eq_nI (by omega) (by omega)
    rw [e1, Option.bind_some]
    dsimp only
    rw [e2, Option.bind_some]
    dsimp only
    unfold mloopS
    change ∃ M', (if offS r C ln nn = -6 then _ else _) = some M' ∧ _
    rw [show (2 : Int32) = nI 2 from rfl, show (7 : Int32) = nI 7 from rfl, show (9 : Int32) = nI 9 from rfl, show (10 : Int32) = nI 10 from rfl, gd_of (show inb (nI 2) 16272 = true from inb_nI (by omega) (by omega)), gd_of (show inb (nI 7) 16272 = true from inb_nI (by omega) (by omega)), gd_of (show inb (nI 9) 16272 = true from inb_nI (by omega) (by omega)), gd_of (show inb (nI 10) 16272 = true from inb_nI (by omega) (by omega)), ix_nI (show 2 ≤ 1000000 by omega), ix_nI (show 7 ≤ 1000000 by omega), ix_nI (show 9 ≤ 1000000 by omega), ix_nI (show 10 ≤ 1000000 by omega)]
    by_cases o : offS r C ln nn = -6
    · rw [if_pos o, if_pos o]
      rcases hs2 with rfl | rfl
      · rw [if_pos (show M2 658 1 = 1 from m21), if_pos (h1'.mpr rfl), m22]
        have := sweepM_ok (M := M2) (C := C) (L := L) (P := P) (ln := ln) (nn := nn) (mg := mgV r ln) (cl := clR r C (r (208 + ln)) (r 3)) (by rw [R2]; exact HS) mg2
        rw [this]
        exact ⟨_, rfl, by rw [msf_at, R2], fun q a b => (msf_ne a).trans (F q a b)⟩
      · rw [if_neg (by rw [m21]; decide), if_neg (fun z => absurd (h1'.mp z) (by decide)), m22]
        unfold f_X7_loop_252
        have := goM_ok (M := M2) (C := C) (P := P) (nx := ln) (mg := mgV r ln) (cl := clR r C (r (208 + ln)) (r 3)) (by rw [R2]; exact HS.go a1) mg2
        rw [this, Option.bind_some]
        exact ⟨_, rfl, by rw [msf_at, R2], fun q a b => (msf_ne a).trans (F q a b)⟩
    · rw [if_neg o, if_neg o]
      refine ⟨_, rfl, ?_, fun q a b => (ms_ne a).trans ((ms_ne a).trans ((ms_ne a).trans (F q a b)))⟩
      rw [ms_at, ms_at, ms_at, R2, upd_ne (show 2 ≠ 9 by omega), upd_ne (show 2 ≠ 1 by omega), lo 2 (by omega), h2.1]
      rfl
theorem goR_WF {w : Nat → Int32} {C L P ln nn j : Nat} {mg : Nat → Int32} {cl : Int32} (H : SW w C L P ln nn) (hj : j < L) (h1 : w 1 = 1 ∨ w 1 = 2) (hct : 0 < cnF (ctR w) C) (h9 : w 9 = -6) : ∃ s', (s' = 1 ∨ s' = 2) ∧ WF (goR w C j mg cl) C L P s' j nn := by
  have hL := H.1.2.1.1.2
  have ⟨z, nt, e, hz⟩ : ∃ z nt, goR w C j mg cl = goS w j z nt ∧ okD z := ⟨_, _, rfl, cutD_ok _⟩
  rw [e]
  have at' : ∀ k, k < 1608 → k ≠ 2 → k ≠ 3 → goS w j z nt k = w k := fun k a b c => goS_at a b c
  obtain ⟨p1, p2, p3, p4, p5⟩ := freeEq.parts (freeEq.go (nx := j) (z := z) (nt := nt)) H.1
  have hc : cnF (ctR (goS w j z nt)) C = cnF (ctR w) C := cnF_cong (fun c hc => by have := H.1.1.1.2; unfold ctR; rw [at' _ (by omega) (by omega) (by omega)])
  have rest : (goS w j z nt 7 = 0 ∨ goS w j z nt 7 = 1) := by rw [at' 7 (by omega) (by omega) (by omega)]; exact H.2.2.2.2
  have c3 : ∀ s, (s = 1 ∨ s = 2 → j < L ∧ 0 < P ∧ 0 < cnF (ctR (goS w j z nt)) C ∧ okD (goS w j z nt 3) ∧ goS w j z nt 9 = -6) := fun s _ => ⟨hj, H.2.2.1, by rw [hc]; exact hct, by rw [goS_2.2]; exact hz, by rw [at' 9 (by omega) (by omega) (by omega)]; exact h9⟩
  rcases h1 with h1 | h1
  · exact ⟨1, Or.inl rfl, p1, p2, p3, p4, p5, ⟨by rw [at' 1 (by omega) (by omega) (by omega)]; exact h1, by omega⟩, ⟨goS_2.1, by omega⟩, rest, c3 1, fun h => by omega⟩
  · exact ⟨2, Or.inr rfl, p1, p2, p3, p4, p5, ⟨by rw [at' 1 (by omega) (by omega) (by omega)]; exact h1, by omega⟩, ⟨goS_2.1, by omega⟩, rest, c3 2, fun h => by omega⟩
theorem stepL_lt {up : Bool} {ln L : Nat} (hl : ln < L) (hL : L ≤ 100) : (stepL up ln L).getD ln < L := by
  cases h : stepL up ln L with
  | none => exact hl
  | some j => exact (stepL_some hl hL h).2.1
theorem loopS_WF {r : Nat → Int32} {C L P s ln nn : Nat} (h : WF r C L P s ln nn) (hs : s = 1 ∨ s = 2 ∨ s = 3) : ∃ s' ln', WF (loopS r) C L P s' ln' nn := by
  have h1 := h.2.2.2.2.2.1
  by_cases q : s = 3
  · subst q
    unfold loopS
    rw [if_pos (show r 1 = 3 from h1.1)]
    obtain ⟨hc, hl, hp, hst, ha, -, h2, h7, h8, h9⟩ := h
    have fe : freeEq r (rampS (upd r 8 (r 8 + 1))) := ((freeEq.put (by omega)).tr (freeEq.put (by omega))).tr (freeEq.put (by omega))
    obtain ⟨p1, p2, p3, p4, p5⟩ := fe.parts ⟨hc, hl, hp, hst, ha⟩
    have e2 : rampS (upd r 8 (r 8 + 1)) 2 = r 2 := by unfold rampS; rw [upd_ne (by omega), upd_ne (by omega), upd_ne (by omega)]
    have e7 : rampS (upd r 8 (r 8 + 1)) 7 = r 7 := by unfold rampS; rw [upd_ne (by omega), upd_ne (by omega), upd_ne (by omega)]
    have e3 : rampS (upd r 8 (r 8 + 1)) 3 = r 3 * r 16 / 100 := by unfold rampS; rw [upd_ne (by omega), upd_eq, upd_ne (by omega), upd_ne (by omega)]
    have e1 : rampS (upd r 8 (r 8 + 1)) 1 = if r 3 * r 16 / 100 = 0 then 4 else 3 := by unfold rampS; rw [upd_eq, upd_ne (show 3 ≠ 8 by omega), upd_ne (show 16 ≠ 8 by omega)]
    by_cases z : r 3 * r 16 / 100 = 0
    · rw [if_pos z] at e1
      exact ⟨4, ln, p1, p2, p3, p4, p5, ⟨e1, by omega⟩, ⟨e2.trans h2.1, h2.2⟩, by rw [e7]; exact h7, fun h => by omega, fun _ => e3.trans z⟩
    · rw [if_neg z] at e1
      exact ⟨3, ln, p1, p2, p3, p4, p5, ⟨e1, by omega⟩, ⟨e2.trans h2.1, h2.2⟩, by rw [e7]; exact h7, fun h => by omega, fun h => by omega⟩
  · have hs2 : s = 1 ∨ s = 2 := by omega
    rw [loopS_m h hs2]
    generalize hr : upd r 8 (r 8 + 1) = r'
    have hw : WF r' C L P s ln nn := by rw [← hr]; exact h.up8 _
    clear hr h1 h
    have HS := hw.sw hs2
    obtain ⟨hc, hl, hp, hst, ha, g1, h2, h7, h8, h9⟩ := id hw
    obtain ⟨a1, a2, a3, a4, a5⟩ := h8 hs2
    have h6 := hc.1.2
    have hL := hl.1.2
    have lo : ∀ k, k < 34 → wS r' C ln nn k = r' k := fun k hk => wS_un (by omega) (by omega) (by omega) (fun j hj => by omega)
    have hct : cnF (ctR (wS r' C ln nn)) C = cnF (ctR r') C := cnF_cong (fun c hc => by
      unfold ctR
      rw [wS_un (by omega) (by omega) (by omega) (fun j hj => by omega)])
    have w1 : wS r' C ln nn 1 = 1 ∨ wS r' C ln nn 1 = 2 := by
      rw [lo 1 (by omega), g1.1]
      rcases hs2 with rfl | rfl
      · exact Or.inl rfl
      · exact Or.inr rfl
    have w9 : wS r' C ln nn 9 = -6 := (lo 9 (by omega)).trans a5
    have wct : 0 < cnF (ctR (wS r' C ln nn)) C := by rw [hct]; exact a3
    have ofGo : ∀ (w : Nat → Int32) (j : Nat), SW w C L P ln nn → j < L → (w 1 = 1 ∨ w 1 = 2) → 0 < cnF (ctR w) C → w 9 = -6 → ∃ s' ln', WF (goR w C j (mgV r' ln) (clR r' C (r' (208 + ln)) (r' 3))) C L P s' ln' nn := fun w j a b c d e => by
      obtain ⟨s', _, h⟩ := goR_WF (mg := mgV r' ln) (cl := clR r' C (r' (208 + ln)) (r' 3)) a b c d e
      exact ⟨s', j, h⟩
    unfold mloopS
    by_cases o : offS r' C ln nn = -6
    · rw [if_pos o]
      by_cases z : r' 1 = 1
      · rw [if_pos z]
        unfold sweepS
        cases hst2 : stepL (nz (wS r' C ln nn 7)) ln L with
        | some j =>
          dsimp only
          exact ofGo _ j HS (stepL_some a1 hL hst2).2.1 w1 wct w9
        | none =>
          dsimp only
          split
          · have e : ∀ k, k ≠ 6 → k ≠ 7 → (upd (upd (wS r' C ln nn) 6 (wS r' C ln nn 6 + 1)) 7 (bz (!(nz (wS r' C ln nn 7))))) k = wS r' C ln nn k := fun k a b => by rw [upd_ne b, upd_ne a]
            refine ofGo _ _ (HS.free ((freeEq.put (by omega)).tr (freeEq.put (by omega))) (e 2 (by omega) (by omega)) (e 3 (by omega) (by omega)) (by rw [upd_eq]; exact bz_01 _)) (stepL_lt a1 hL) (by rw [e 1 (by omega) (by omega)]; exact w1) ?_ (by rw [e 9 (by omega) (by omega)]; exact w9)
            rw [cnF_cong (ct' := ctR _) (ct := ctR (wS r' C ln nn)) (fun c hc => by unfold ctR; rw [e _ (by omega) (by omega)])]
            exact wct
          · obtain ⟨p1, p2, p3, p4, p5⟩ := freeEq.parts (((freeEq.put (r := wS r' C ln nn) (i := 6) (v := wS r' C ln nn 6 + 1) (by omega)).tr (freeEq.put (i := 1) (v := 5) (by omega))).tr (freeEq.put (i := 3) (v := 0) (by omega))) HS.1
            refine ⟨5, ln, p1, p2, p3, p4, p5, ⟨by rw [upd_ne (by omega), upd_eq]; rfl, by omega⟩, ⟨by rw [upd_ne (by omega), upd_ne (by omega), upd_ne (by omega)]; exact HS.2.1.1, h2.2⟩, by rw [upd_ne (by omega), upd_ne (by omega), upd_ne (by omega)]; exact HS.2.2.2.2, fun h => by omega, fun _ => upd_eq _ _ _⟩
      · rw [if_neg z]
        exact ofGo _ ln HS a1 w1 wct w9
    · rw [if_neg o]
      obtain ⟨p1, p2, p3, p4, p5⟩ := freeEq.parts (((freeEq.put (r := wS r' C ln nn) (i := 1) (v := 3) (by omega)).tr (freeEq.put (i := 9) (v := offS r' C ln nn) (by omega))).tr (freeEq.put (i := 10) (v := nI ln) (by omega))) HS.1
      refine ⟨3, ln, p1, p2, p3, p4, p5, ⟨by rw [upd_ne (by omega), upd_ne (by omega), upd_eq]; rfl, by omega⟩, ⟨by rw [upd_ne (by omega), upd_ne (by omega), upd_ne (by omega)]; exact HS.2.1.1, h2.2⟩, by rw [upd_ne (by omega), upd_ne (by omega), upd_ne (by omega)]; exact HS.2.2.2.2, fun h => by omega, fun h => by omega⟩
