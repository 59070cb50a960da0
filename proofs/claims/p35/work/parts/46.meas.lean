/-! PURE, the class alone: by program out of the same part of whole -/
/-! PURE: measuring, channel by channel -/
def mRow (r : Nat → Int32) (ln : Nat) (f d n : Int32) : Nat → Nat → Int32
  | 0 => r
  | c + 1 => upd (upd (mRow r ln f d n c) (308 + 6 * ln + c) (lvS (gainR r c f) d)) (908 + 6 * ln + c) (avS n (r (908 + 6 * ln + c)) (mgS (lvS (gainR r c f) d) d))
theorem mRow_un {r : Nat → Int32} {ln : Nat} {f d n : Int32} {k : Nat} : ∀ {c : Nat}, ¬ (308 + 6 * ln ≤ k ∧ k < 308 + 6 * ln + c) → ¬ (908 + 6 * ln ≤ k ∧ k < 908 + 6 * ln + c) → mRow r ln f d n c k = r k
  | 0, _, _ => rfl
  | c + 1, h1, h2 => by
    rw [mRow, upd_ne (by omega), upd_ne (by omega)]
    exact mRow_un (by omega) (by omega)
theorem mRow_lv {r : Nat → Int32} {ln : Nat} {f d n : Int32} {j : Nat} (hl : ln < 100) : ∀ {c : Nat}, j < c → c ≤ 6 → mRow r ln f d n c (308 + 6 * ln + j) = lvS (gainR r j f) d
  | c + 1, h1, h6 => by
    rw [mRow, upd_ne (by omega)]
    by_cases e : j = c
    · subst e; rw [upd_eq]
    · rw [upd_ne (by omega)]
      exact mRow_lv hl (by omega) (by omega)
theorem mRow_av {r : Nat → Int32} {ln : Nat} {f d n : Int32} {j : Nat} (hl : ln < 100) : ∀ {c : Nat}, j < c → c ≤ 6 → mRow r ln f d n c (908 + 6 * ln + j) = avS n (r (908 + 6 * ln + j)) (mgS (lvS (gainR r j f) d) d)
  | c + 1, h1, h6 => by
    rw [mRow]
    by_cases e : j = c
    · subst e; rw [upd_eq]
    · rw [upd_ne (by omega), upd_ne (by omega)]
      exact mRow_av hl (by omega) (by omega)
/-- the rows of the channels alone -/
def lowEq (r r' : Nat → Int32) : Prop := ∀ k, k < 308 → r' k = r k
theorem mRow_low {r : Nat → Int32} {ln : Nat} {f d n : Int32} {c : Nat} : lowEq r (mRow r ln f d n c) := fun _ _ => mRow_un (by omega) (by omega)
theorem low_Cn {r r' : Nat → Int32} (h : lowEq r r') : Cn r' = Cn r := by unfold Cn; rw [h 5 (by omega)]
theorem low_gainR {r r' : Nat → Int32} (h : lowEq r r') {c : Nat} (hc : c < 6) (f : Int32) : gainR r' c f = gainR r c f := by
  unfold gainR gainS
  dsimp only
  rw [h (34 + 29 * c + 1) (by omega), h (34 + 29 * c + (3 + 3 * 0)) (by omega), h (34 + 29 * c + (4 + 3 * 0)) (by omega), h (34 + 29 * c + (5 + 3 * 0)) (by omega), h (34 + 29 * c + (3 + 3 * 1)) (by omega), h (34 + 29 * c + (4 + 3 * 1)) (by omega), h (34 + 29 * c + (5 + 3 * 1)) (by omega), h (34 + 29 * c + (3 + 3 * 2)) (by omega), h (34 + 29 * c + (4 + 3 * 2)) (by omega), h (34 + 29 * c + (5 + 3 * 2)) (by omega)]
theorem low_okG {r r' : Nat → Int32} (h : lowEq r r') {c : Nat} (hc : c < 6) (g : okG r c) : okG r' c := by
  refine ⟨by rw [h _ (by omega)]; exact g.1, fun j hj => ?_⟩
  rw [h _ (by omega), h _ (by omega), h _ (by omega)]
  exact g.2 j hj
theorem measC_step {M : MM} {b c ln : Nat} {r : Nat → Int32} {f d n : Int32} (h : Rep M b (mRow r ln f d n c)) (hc : c < Cn r) (h6 : c < 6) (hln : ln < 100) (hg : okG r c) (hf : Sm f 2000) (hd : okD d) (hn : 1 ≤ n.toInt ∧ n.toInt ≤ 8) (ha : okA (r (908 + 6 * ln + c))) : ∃ M', f_X0_measure (b + (11 + 9 * c)) (nI ln) f d n M = some M' ∧ Rep M' b (mRow r ln f d n (c + 1)) ∧ M' (b + (11 + 9 * c)) 12 = lvS (gainR r c f) d ∧ M' (b + (11 + 9 * c)) 13 = mgS (lvS (gainR r c f) d) d ∧ (∀ q, q ≠ b + (11 + 9 * c) → q ≠ b + (18 + 9 * c) → q ≠ b + (19 + 9 * c) → M' q = M q) ∧ Fr b M M' := by
  have hC : c < Cn (mRow r ln f d n c) := by rw [low_Cn mRow_low]; exact hc
  have eg := gainC_ok h hC h6 (low_okG mRow_low h6 hg) hf
  rw [low_gainR mRow_low h6] at eg
  have hb := gainR_bd hg hf
  have lv := lvS_toInt hb hd
  have mg := mgS_toInt lv.2 hd
  have er : M (b + (19 + 9 * c)) ln = r (908 + 6 * ln + c) := by
    rw [(h.cl hC h6 hln).2]
    exact mRow_un (by omega) (by omega)
  have tc := tr_cl c h6 ln hln
  have t12 := tr_c14 c h6
  refine ⟨ms (ms (ms (ms M (b + (11 + 9 * c)) 12 (lvS (gainR r c f) d)) (b + (11 + 9 * c)) 13 (mgS (lvS (gainR r c f) d) d)) (b + (18 + 9 * c)) ln (lvS (gainR r c f) d)) (b + (19 + 9 * c)) ln (avS n (r (908 + 6 * ln + c)) (mgS (lvS (gainR r c f) d) d)), ?_, ?_, ?_, ?_, ?_, ?_⟩
  · unfold f_X0_measure
    rw [eg, Option.bind_some]
    show Option.bind (f_X6_measuredGain ((ms M (b + (11 + 9 * c)) 12 (lvS (gainR r c f) d)) (b + (11 + 9 * c)) 12) d (ms M (b + (11 + 9 * c)) 12 (lvS (gainR r c f) d))) _ = _
    rw [ms_eq, mgC_ok hd, Option.bind_some, gd_of (inb_nI hln (by omega)), gd_of (inb_nI hln (by omega)), ix_nI (by omega), show b + (11 + 9 * c) + 7 = b + (18 + 9 * c) by omega, show b + (11 + 9 * c) + 8 = b + (19 + 9 * c) by omega]
    show Option.bind (f_X6_averagedGain ((ms (ms (ms M (b + (11 + 9 * c)) 12 (lvS (gainR r c f) d)) (b + (11 + 9 * c)) 13 (mgS (lvS (gainR r c f) d) d)) (b + (18 + 9 * c)) ln ((ms (ms M (b + (11 + 9 * c)) 12 (lvS (gainR r c f) d)) (b + (11 + 9 * c)) 13 (mgS (lvS (gainR r c f) d) d)) (b + (11 + 9 * c)) 12)) (b + (19 + 9 * c)) ln) ((ms (ms (ms M (b + (11 + 9 * c)) 12 (lvS (gainR r c f) d)) (b + (11 + 9 * c)) 13 (mgS (lvS (gainR r c f) d) d)) (b + (18 + 9 * c)) ln ((ms (ms M (b + (11 + 9 * c)) 12 (lvS (gainR r c f) d)) (b + (11 + 9 * c)) 13 (mgS (lvS (gainR r c f) d) d)) (b + (11 + 9 * c)) 12)) (b + (11 + 9 * c)) 13) n (ms (ms (ms M (b + (11 + 9 * c)) 12 (lvS (gainR r c f) d)) (b + (11 + 9 * c)) 13 (mgS (lvS (gainR r c f) d) d)) (b + (18 + 9 * c)) ln ((ms (ms M (b + (11 + 9 * c)) 12 (lvS (gainR r c f) d)) (b + (11 + 9 * c)) 13 (mgS (lvS (gainR r c f) d) d)) (b + (11 + 9 * c)) 12))) (fun v6 => gd (inb (nI ln) 100) (some (ms (ms (ms (ms M (b + (11 + 9 * c)) 12 (lvS (gainR r c f) d)) (b + (11 + 9 * c)) 13 (mgS (lvS (gainR r c f) d) d)) (b + (18 + 9 * c)) ln ((ms (ms M (b + (11 + 9 * c)) 12 (lvS (gainR r c f) d)) (b + (11 + 9 * c)) 13 (mgS (lvS (gainR r c f) d) d)) (b + (11 + 9 * c)) 12)) (b + (19 + 9 * c)) ln v6))) = _
    rw [ms_ni (show 12 ≠ 13 by omega), ms_eq, ms_ne (show b + (19 + 9 * c) ≠ b + (18 + 9 * c) by omega), ms_ne (show b + (19 + 9 * c) ≠ b + (11 + 9 * c) by omega), ms_ne (show b + (19 + 9 * c) ≠ b + (11 + 9 * c) by omega), er, ms_ne (show b + (11 + 9 * c) ≠ b + (18 + 9 * c) by omega), ms_eq, avC_ok hn ha mg.2, Option.bind_some, gd_of (inb_nI hln (by omega))]
  · rw [mRow]
    refine Rep.put (Rep.put (Rep.un (Rep.un h (by rw [t12.2.2.2.2.1]; omega) (by omega)) (by rw [t12.2.2.2.2.2]; omega) (by omega)) tc.1 (by omega) hln (by omega) ⟨by omega, by omega, fun _ _ => by omega⟩) tc.2 (by omega) hln (by omega) ⟨by omega, by omega, fun _ _ => by omega⟩
  · rw [ms_ne (by omega), ms_ne (by omega), ms_ni (by omega), ms_eq]
  · rw [ms_ne (by omega), ms_ne (by omega), ms_eq]
  · intro q h1 h2 h3
    rw [ms_ne h3, ms_ne h2, ms_ne h1, ms_ne h1]
  · exact Fr.put (Fr.put (Fr.put (Fr.put Fr.rf (by omega)) (by omega)) (by omega)) (by omega)
