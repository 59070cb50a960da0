/-! PURE, the class alone: by program out of the same part of whole -/
/-! PURE: a loop, as a function of the row; what it keeps -/
def stepL (up : Bool) (ln L : Nat) : Option Nat := if up = true then (if ln + 1 < L then some (ln + 1) else none) else (if 0 < ln then some (ln - 1) else none)
def laV (up : Bool) (ln : Nat) : Int32 := if up = true then nI ln + 1 else nI ln - 1
theorem stepL_some {up : Bool} {ln L j : Nat} (hl : ln < L) (hL : L ≤ 100) (h : stepL up ln L = some j) : laV up ln = nI j ∧ j < L ∧ wi (laV up ln) 0 (nI L - 1) = true := by
  have e : laV up ln = nI j ∧ j < L := by
    unfold stepL at h
    unfold laV
    cases up with
    | true =>
      rw [if_pos rfl] at h ⊢
      by_cases q : ln + 1 < L
      · rw [if_pos q] at h; cases h
        exact ⟨nI_1 _, q⟩
      · rw [if_neg q] at h; cases h
    | false =>
      rw [if_neg (by decide)] at h ⊢
      by_cases q : 0 < ln
      · rw [if_pos q] at h; cases h
        exact ⟨by rw [show (1 : Int32) = nI 1 from rfl, sub_nI q], by omega⟩
      · rw [if_neg q] at h; cases h
  exact ⟨e.1, e.2, (wi_ix (by omega)).mpr ⟨j, e.2, e.1⟩⟩
theorem stepL_none {up : Bool} {ln L : Nat} (hl : ln < L) (hL : L ≤ 100) (h : stepL up ln L = none) : wi (laV up ln) 0 (nI L - 1) = false := by
  rw [← Bool.not_eq_true]
  intro q
  obtain ⟨j, hj, e⟩ := (wi_ix (by omega)).mp q
  unfold stepL at h
  unfold laV at e
  cases up with
  | true =>
    rw [if_pos rfl] at h e
    rw [nI_1, eq_nI (by omega) (by omega)] at e
    rw [if_pos (by omega)] at h
    cases h
  | false =>
    rw [if_neg (by decide)] at h e
    by_cases z : 0 < ln
    · rw [if_pos z] at h; cases h
    · have : ln = 0 := by omega
      subst this
      have := congrArg Int32.toInt e
      rw [nI_toInt (by omega)] at this
      have h2 : (nI 0 - 1).toInt = -1 := by decide
      omega
noncomputable def sweepS (w : Nat → Int32) (C ln L : Nat) (mg : Nat → Int32) (cl : Int32) : Nat → Int32 :=
  match stepL (nz (w 7)) ln L with
  | some j => goR w C j mg cl
  | none => if w 6 + 1 < w 17 then goR (upd (upd w 6 (w 6 + 1)) 7 (bz (!(nz (w 7))))) C ((stepL (!(nz (w 7))) ln L).getD ln) mg cl else upd (upd (upd w 6 (w 6 + 1)) 1 5) 3 0
def wS (r : Nat → Int32) (C ln nn : Nat) : Nat → Int32 := wRow (measS r C ln (r (208 + ln)) (r 3) (nI nn)) (r (208 + ln)) (lvR r (r (208 + ln)) (r 3)) C
def offS (r : Nat → Int32) (C ln nn : Nat) : Int32 := offF (measS r C ln (r (208 + ln)) (r 3) (nI nn)) (r (208 + ln)) (lvR r (r (208 + ln)) (r 3)) C
def mgV (r : Nat → Int32) (ln : Nat) : Nat → Int32 := fun c => mgS (lvR r (r (208 + ln)) (r 3) c) (r 3)
/-- a loop in the states sweeping and holding, behind the count of loops -/
noncomputable def mloopS (r : Nat → Int32) (C L ln nn : Nat) : Nat → Int32 :=
  if offS r C ln nn = -6 then (if r 1 = 1 then sweepS (wS r C ln nn) C ln L (mgV r ln) (clR r C (r (208 + ln)) (r 3)) else goR (wS r C ln nn) C ln (mgV r ln) (clR r C (r (208 + ln)) (r 3)))
  else upd (upd (upd (wS r C ln nn) 1 3) 9 (offS r C ln nn)) 10 (nI ln)
def rampS (r : Nat → Int32) : Nat → Int32 := upd (upd r 3 (r 3 * r 16 / 100)) 1 (if r 3 * r 16 / 100 = 0 then 4 else 3)
noncomputable def loopS (r : Nat → Int32) : Nat → Int32 :=
  if r 1 = 3 then rampS (upd r 8 (r 8 + 1)) else mloopS (upd r 8 (r 8 + 1)) (Cn r) (ix (r 0)) (ix (r 2)) (ix (r 13))
theorem wS_un {r : Nat → Int32} {C ln nn k : Nat} (h1 : ¬ (308 + 6 * ln ≤ k ∧ k < 308 + 6 * ln + C)) (h2 : ¬ (908 + 6 * ln ≤ k ∧ k < 908 + 6 * ln + C)) (h3 : k ≠ 1508 + ln) (h4 : ∀ j, j < C → ¬ (34 + 29 * j + 25 ≤ k ∧ k ≤ 34 + 29 * j + 28)) : wS r C ln nn k = r k := by
  unfold wS
  rw [wRow_un h4, measS, upd_ne h3, mRow_un h1 h2]
theorem wRow_26 {r : Nat → Int32} {f : Int32} {lv : Nat → Int32} {c : Nat} (h : 0 ≤ (r (34 + 29 * c + 26)).toInt) : ∀ C, 0 ≤ (wRow r f lv C (34 + 29 * c + 26)).toInt
  | 0 => h
  | C + 1 => by
    have ih := wRow_26 (f := f) (lv := lv) h C
    rw [wRow]
    by_cases e : c = C
    · subst e; exact wStep_26 ih
    · rw [wStep_un (by omega)]; exact ih
theorem wS_WF {r : Nat → Int32} {C L P s ln nn : Nat} (h : WF r C L P s ln nn) (hs : s = 1 ∨ s = 2) : WFc (wS r C ln nn) C ∧ WFl (wS r C ln nn) L ∧ WFp (wS r C ln nn) P ∧ WFs (wS r C ln nn) nn ∧ WFa (wS r C ln nn) C := by
  have M := h.meas hs
  obtain ⟨hc, hl, hp, hst, ha, hh⟩ := h
  have h6 := hc.1.2
  have hln := hh.2.1.2
  have lo : ∀ k, k < 34 → wS r C ln nn k = r k := fun k hk => wS_un (by omega) (by omega) (by omega) (fun j hj => by omega)
  have mid : ∀ c w, w < 25 → c < 6 → wS r C ln nn (34 + 29 * c + w) = r (34 + 29 * c + w) := fun c w hw hcc => wS_un (by omega) (by omega) (by omega) (fun j hj => by omega)
  have fr : ∀ k, k < 100 → wS r C ln nn (208 + k) = r (208 + k) := fun k hk => wS_un (by omega) (by omega) (by omega) (fun j hj => by omega)
  have nt : 1 ≤ (nI nn).toInt ∧ (nI nn).toInt ≤ 8 := by have := hst.2.1; rw [nI_toInt (by omega)]; omega
  refine ⟨⟨?_, fun c hcc => ?_, fun c h1 h2 => ?_⟩, ?_, ?_, ?_, fun c k hcc hk => ?_, fun k hk => ?_⟩
  · rw [lo 5 (by omega)]; exact hc.1
  · refine chOK_cong (fun w hw => mid c w hw (by omega)) ?_ (hc.2.1 c hcc)
    unfold wS
    refine wRow_26 ?_ C
    rw [measS, upd_ne (by omega), mRow_un (by omega) (by omega)]
    exact (hc.2.1 c hcc).2.2.2
  · exact chNew_cong (fun w hw => wS_un (by omega) (by omega) (by omega) (fun j hj => by omega)) (fun k hk => ⟨wS_un (by omega) (by omega) (by omega) (fun j hj => by omega), wS_un (by omega) (by omega) (by omega) (fun j hj => by omega)⟩) (hc.2.2 c h1 h2)
  · exact WFl_cong (lo 0 (by omega)) fr hl
  · exact WFp_cong (lo 4 (by omega)) (fun k hk => lo _ (by omega)) hp
  · exact WFs_cong ⟨lo 12 (by omega), lo 13 (by omega), lo 14 (by omega), lo 15 (by omega), lo 16 (by omega), lo 17 (by omega)⟩ hst
  · by_cases e : k = ln
    · subst e
      unfold wS
      rw [wRow_un (fun j hj => by omega), measS, upd_ne (by omega), mRow_av hln hcc h6]
      exact Or.inr (avS_ok nt (ha.1 c k hcc hk) (mgS_toInt (M.lv c hcc) M.2.2.2.1.2).2)
    · rw [wS_un (by omega) (by omega) (by omega) (fun j hj => by omega)]
      exact ha.1 c k hcc hk
  · by_cases e : k = ln
    · subst e
      unfold wS
      rw [wRow_un (fun j hj => by omega), measS, upd_eq]
      have cb := clS_bd (st := r 12) (ct := ctR r) (lv := lvR r (r (208 + k)) (r 3)) M.2.2.2.1.2 h6 M.2.2.2.2.2.2.2.2.2.2 M.lv
      exact Or.inr (avS_ok nt (ha.2 k hk) (mgS_toInt (lv := clR r C (r (208 + k)) (r 3)) cb.1 M.2.2.2.1.2).2)
    · rw [wS_un (by omega) (by omega) (by omega) (fun j hj => by omega)]
      exact ha.2 k hk
/-- rows that differ in the free places alone -/
def freeEq (r r' : Nat → Int32) : Prop := ∀ k, k < 1608 → ¬ (k = 1 ∨ k = 2 ∨ k = 3 ∨ k = 6 ∨ k = 7 ∨ k = 8 ∨ k = 9 ∨ k = 10 ∨ k = 11) → r' k = r k
theorem freeEq.parts {r r' : Nat → Int32} {C L P nn : Nat} (e : freeEq r r') (h : WFc r C ∧ WFl r L ∧ WFp r P ∧ WFs r nn ∧ WFa r C) : WFc r' C ∧ WFl r' L ∧ WFp r' P ∧ WFs r' nn ∧ WFa r' C := by
  obtain ⟨hc, hl, hp, hs, ha⟩ := h
  have h6 := hc.1.2
  refine ⟨⟨?_, fun c hcc => chOK_cong (fun w hw => e _ (by omega) (by omega)) ?_ (hc.2.1 c hcc), fun c h1 h2 => chNew_cong (fun w hw => e _ (by omega) (by omega)) (fun k hk => ⟨e _ (by omega) (by omega), e _ (by omega) (by omega)⟩) (hc.2.2 c h1 h2)⟩, WFl_cong (e _ (by omega) (by omega)) (fun k hk => e _ (by omega) (by omega)) hl, WFp_cong (e _ (by omega) (by omega)) (fun k hk => e _ (by omega) (by omega)) hp, WFs_cong ⟨e _ (by omega) (by omega), e _ (by omega) (by omega), e _ (by omega) (by omega), e _ (by omega) (by omega), e _ (by omega) (by omega), e _ (by omega) (by omega)⟩ hs, fun c k hcc hk => ?_, fun k hk => ?_⟩
  · rw [e 5 (by omega) (by omega)]; exact hc.1
  · rw [e _ (by omega) (by omega)]; exact (hc.2.1 c hcc).2.2.2
  · rw [e _ (by omega) (by omega)]; exact ha.1 c k hcc hk
  · rw [e _ (by omega) (by omega)]; exact ha.2 k hk
theorem freeEq.tr {r r' r'' : Nat → Int32} (h1 : freeEq r r') (h2 : freeEq r' r'') : freeEq r r'' := fun k a b => (h2 k a b).trans (h1 k a b)
theorem freeEq.put {r : Nat → Int32} {i : Nat} {v : Int32} (h : i = 1 ∨ i = 2 ∨ i = 3 ∨ i = 6 ∨ i = 7 ∨ i = 8 ∨ i = 9 ∨ i = 10 ∨ i = 11 ∨ 1608 ≤ i) : freeEq r (upd r i v) := fun k a b => upd_ne (by omega)
theorem freeEq.go {r : Nat → Int32} {nx : Nat} {z nt : Int32} : freeEq r (goS r nx z nt) :=
  (((freeEq.put (by omega)).tr (freeEq.put (by omega))).tr (freeEq.put (by omega))).tr (freeEq.put (by omega))
theorem goS_at {r : Nat → Int32} {nx : Nat} {z nt : Int32} {k : Nat} (h : k < 1608) (h2 : k ≠ 2) (h3 : k ≠ 3) : goS r nx z nt k = r k := by
  unfold goS
  rw [upd_ne h3, upd_ne h2, upd_ne (by omega), upd_ne (by omega)]
theorem goS_2 {r : Nat → Int32} {nx : Nat} {z nt : Int32} : goS r nx z nt 2 = nI nx ∧ goS r nx z nt 3 = z := by
  unfold goS
  exact ⟨by rw [upd_ne (by omega), upd_eq], upd_eq _ _ _⟩
