/-! PURE, the class alone: by program out of the same part of whole -/
/-! PURE: setPoint on both sides -/
theorem Rep.pt8 {M M' : MM} {b : Nat} {r r' : Nat → Int32} (h : Rep M b r) (e : ∀ o i, o < 65 → o ≠ 4 → o ≠ 5 → ¬ (o = 3 ∧ i = 2) → M' (b + o) i = M (b + o) i) (e32 : M' (b + 3) 2 = r' 4) (er : ∀ k, k < 1808 → k ≠ 4 → ¬ (18 ≤ k ∧ k < 34) → r' k = r k) (hp : PRel M' b r') : Rep M' b r' := by
  refine ⟨fun o i a1 a2 a3 a4 => ?_, hp⟩
  have ht := tr_lt o a1 i a2 a3
  have hn := tr_nopt o a1 i a2 a3
  have h4 : o ≠ 4 := fun q => by subst q; have := (tr_45 i a2).1; omega
  have h5 : o ≠ 5 := fun q => by subst q; have := (tr_45 i a2).2; omega
  by_cases z : o = 3 ∧ i = 2
  · obtain ⟨rfl, rfl⟩ := z
    exact e32
  · have hk : tr o i ≠ 4 := fun q => z (tr_inj (o := 3) (i := 2) (by omega) (by omega) a1 a2 (show tr 3 2 < 5000 from by decide) (q.trans (show 4 = tr 3 2 from rfl)))
    rw [e o i a1 h4 h5 z, er _ ht hk hn]
    exact h.1 o i a1 a2 a3 ((inS.row a1 (er 5 (by omega) (by omega) (by omega)) (fun c hc => er _ (by omega) (by omega) (by omega))).mp a4)
def sF (f : Nat → Int32) (t P : Nat) : Nat → Int32 := fun i => if t < i ∧ i ≤ P then f (i - 1) else f i
def insF (f : Nat → Int32) (pl : Nat) (x : Int32) (P : Nat) : Nat → Int32 := fun i => if i = pl then x else if pl < i ∧ i ≤ P then f (i - 1) else f i
theorem sF_P (f : Nat → Int32) (P : Nat) : sF f P P = f := by
  funext i
  unfold sF
  rw [if_neg (by omega)]
theorem sF_step {f : Nat → Int32} {t P : Nat} (h : t + 1 ≤ P) : upd (sF f (t + 1) P) (t + 1) (sF f (t + 1) P t) = sF f t P := by
  funext i
  by_cases q : i = t + 1
  · subst q
    rw [upd_eq]
    unfold sF
    rw [if_neg (by omega), if_pos (by omega), Nat.add_sub_cancel]
  · rw [upd_ne q]
    unfold sF
    by_cases z : t + 1 < i ∧ i ≤ P
    · rw [if_pos z, if_pos (by omega)]
    · rw [if_neg z, if_neg (by omega)]
theorem insF_of {f : Nat → Int32} {pl P : Nat} {x : Int32} : upd (sF f pl P) pl x = insF f pl x P := by
  funext i
  by_cases q : i = pl
  · subst q
    rw [upd_eq]
    unfold insF
    rw [if_pos rfl]
  · rw [upd_ne q]
    unfold sF insF
    rw [if_neg q]
theorem dec_nI (t : Nat) : nI (t + 1) + (-1) = nI t := by
  rw [← nI_1, Int32.add_assoc, show (1 : Int32) + (-1) = 0 from by decide, Int32.add_zero]
theorem ms2_msf {M : MM} {p q i j : Nat} {F G : Nat → Int32} {x y : Int32} (h : q ≠ p) : ms (ms (msf (msf M p F) q G) p i x) q j y = msf (msf M p (upd F i x)) q (upd G j y) := by
  have e : ms (msf (msf M p F) q G) p i x = msf (msf M p (upd F i x)) q G := by
    rw [ms, msf_swap h, msf_msf, msf_ne (Ne.symm h), msf_at]
  rw [e, ms_msf]
theorem put54 {b P pl : Nat} {M : MM} {x1 x2 : Int32} (hP : M (b + 3) 2 = nI P) (h8 : P < 8) : ∀ (d t k : Nat), t = pl + d → t ≤ P → d < k → f_X3_put_54 (b + 3) k x1 x2 (nI pl) (nI t) (msf (msf M (b + 4) (sF (M (b + 4)) t P)) (b + 5) (sF (M (b + 5)) t P)) = some (nI (P + 1), ms (msf (msf M (b + 4) (insF (M (b + 4)) pl x1 P)) (b + 5) (insF (M (b + 5)) pl x2 P)) (b + 3) 2 (nI (P + 1))) := by
  intro d
  induction d with
  | zero =>
    intro t k ht hle hk
    obtain ⟨k, rfl⟩ : ∃ k', k = k' + 1 := ⟨k - 1, by omega⟩
    have : t = pl := by omega
    subst this
    rw [f_X3_put_54, if_pos (Int32.le_refl _), gd_of (inb_nI (by omega) (by omega)), gd_of (inb_nI (by omega) (by omega)), ix_nI (by omega), show b + 3 + 1 = b + 4 from rfl, show b + 3 + 2 = b + 5 from rfl]
    have e : ms (ms (msf (msf M (b + 4) (sF (M (b + 4)) t P)) (b + 5) (sF (M (b + 5)) t P)) (b + 4) t x1) (b + 5) t x2 = msf (msf M (b + 4) (insF (M (b + 4)) t x1 P)) (b + 5) (insF (M (b + 5)) t x2 P) := by
      rw [ms2_msf (show b + 5 ≠ b + 4 by omega), insF_of, insF_of]
    rw [e, msf_ne (show b + 3 ≠ b + 5 by omega), msf_ne (show b + 3 ≠ b + 4 by omega), hP, nI_1, ms_eq]
  | succ d ih =>
    intro t k ht hle hk
    obtain ⟨k, rfl⟩ : ∃ k', k = k' + 1 := ⟨k - 1, by omega⟩
    obtain ⟨t, rfl⟩ : ∃ t', t = t' + 1 := ⟨t - 1, by omega⟩
    rw [f_X3_put_54, if_neg (by rw [le_nI (by omega) (by omega)]; omega), show nI (t + 1) - 1 = nI t by rw [show (1 : Int32) = nI 1 from rfl, sub_nI (by omega)]; rfl, dec_nI, gd_of (inb_nI (by omega) (by omega)), gd_of (inb_nI (by omega) (by omega)), gd_of (inb_nI (by omega) (by omega)), gd_of (inb_nI (by omega) (by omega)), ix_nI (by omega), ix_nI (by omega), show b + 3 + 1 = b + 4 from rfl, show b + 3 + 2 = b + 5 from rfl]
    have e : ms (ms (msf (msf M (b + 4) (sF (M (b + 4)) (t + 1) P)) (b + 5) (sF (M (b + 5)) (t + 1) P)) (b + 4) (t + 1) (msf (msf M (b + 4) (sF (M (b + 4)) (t + 1) P)) (b + 5) (sF (M (b + 5)) (t + 1) P) (b + 4) t)) (b + 5) (t + 1) (ms (msf (msf M (b + 4) (sF (M (b + 4)) (t + 1) P)) (b + 5) (sF (M (b + 5)) (t + 1) P)) (b + 4) (t + 1) (msf (msf M (b + 4) (sF (M (b + 4)) (t + 1) P)) (b + 5) (sF (M (b + 5)) (t + 1) P) (b + 4) t) (b + 5) t) = msf (msf M (b + 4) (sF (M (b + 4)) t P)) (b + 5) (sF (M (b + 5)) t P) := by
      rw [ms_ne (show b + 5 ≠ b + 4 by omega), msf_at, msf_ne (show b + 4 ≠ b + 5 by omega), msf_at]
      rw [ms2_msf (show b + 5 ≠ b + 4 by omega), sF_step (by omega), sF_step (by omega)]
    rw [e]
    exact ih t k (by omega) (by omega) (by omega)
def ptS (r : Nat → Int32) (p P : Nat) (x1 x2 : Int32) : Nat → Int32 := upd (upd (upd r (18 + 2 * p) x1) (19 + 2 * p) x2) 4 (nI P)
theorem ptS_at {r : Nat → Int32} {p P k : Nat} {x1 x2 : Int32} (h : k ≠ 4) (h2 : k ≠ 18 + 2 * p) (h3 : k ≠ 19 + 2 * p) : ptS r p P x1 x2 k = r k := by
  unfold ptS
  rw [upd_ne h, upd_ne h3, upd_ne h2]
theorem ptS_v {r : Nat → Int32} {p P : Nat} {x1 x2 : Int32} : ptS r p P x1 x2 4 = nI P ∧ ptS r p P x1 x2 (18 + 2 * p) = x1 ∧ ptS r p P x1 x2 (19 + 2 * p) = x2 := by
  unfold ptS
  refine ⟨upd_eq _ _ _, ?_, ?_⟩
  · rw [upd_ne (by omega), upd_ne (by omega), upd_eq]
  · rw [upd_ne (by omega), upd_eq]
theorem ptS_Pn {r : Nat → Int32} {p P : Nat} {x1 x2 : Int32} (h : P ≤ 8) : Pn (ptS r p P x1 x2) = P := by
  unfold Pn
  rw [ptS_v.1, ix_nI (by omega)]
theorem ptWF {r : Nat → Int32} {C L P P' s ln nn p : Nat} {x1 x2 : Int32} (h : WF r C L P s ln nn) (hp : p < 8) (hr : restB s = true) (hp' : WFp (ptS r p P' x1 x2) P') : WF (ptS r p P' x1 x2) C L P' s ln nn := by
  obtain ⟨hc, hl, -, hst, ha, h1, h2, h7, h8, h9⟩ := h
  have hs : ¬ (s = 1 ∨ s = 2) := by
    unfold restB at hr
    have := of_decide_eq_true hr
    omega
  have h6 := hc.1.2
  have e : ∀ k, k ≠ 4 → ¬ (18 ≤ k ∧ k < 34) → ptS r p P' x1 x2 k = r k := fun k a b => ptS_at a (by omega) (by omega)
  refine ⟨WFc_cong (fun k hk => e k (by omega) (by omega)) hc, WFl_cong (e _ (by omega) (by omega)) (fun k hk => e _ (by omega) (by omega)) hl, hp', WFs_cong ⟨e _ (by omega) (by omega), e _ (by omega) (by omega), e _ (by omega) (by omega), e _ (by omega) (by omega), e _ (by omega) (by omega), e _ (by omega) (by omega)⟩ hst, ⟨fun c k a b => by rw [e _ (by omega) (by omega)]; exact ha.1 c k a b, fun k hk => by rw [e _ (by omega) (by omega)]; exact ha.2 k hk⟩, by rw [e _ (by omega) (by omega)]; exact h1, by rw [e _ (by omega) (by omega)]; exact h2, by rw [e _ (by omega) (by omega)]; exact h7, fun q => absurd q hs, fun q => by rw [e _ (by omega) (by omega)]; exact h9 q⟩
