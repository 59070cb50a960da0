/-! PURE, the class alone: by program out of the same part of whole -/
/-! PURE: setMode and addNotch on both sides -/
theorem WF.ch {r r' : Nat → Int32} {C L P s ln nn c : Nat} (h : WF r C L P s ln nn) (hcc : c < C) (e : ∀ k, ¬ (34 + 29 * c < k ∧ k < 34 + 29 * c + 25) → r' k = r k) (ok : chOK r' c) : WF r' C L P s ln nn := by
  obtain ⟨hc, hl, hp, hst, ha, h1, h2, h7, h8, h9⟩ := h
  have h6 := hc.1.2
  have hct : cnF (ctR r') C = cnF (ctR r) C := cnF_cong (fun c' hc' => by unfold ctR; rw [e _ (by omega)])
  refine ⟨⟨by rw [e 5 (by omega)]; exact hc.1, fun c' hc' => ?_, fun c' g1 g2 => chNew_cong (fun w hw => e _ (by omega)) (fun k hk => ⟨e _ (by omega), e _ (by omega)⟩) (hc.2.2 c' g1 g2)⟩, WFl_cong (e _ (by omega)) (fun k hk => e _ (by omega)) hl, WFp_cong (e _ (by omega)) (fun k hk => e _ (by omega)) hp, WFs_cong ⟨e _ (by omega), e _ (by omega), e _ (by omega), e _ (by omega), e _ (by omega), e _ (by omega)⟩ hst, ⟨fun c' k a b => by rw [e _ (by omega)]; exact ha.1 c' k a b, fun k hk => by rw [e _ (by omega)]; exact ha.2 k hk⟩, by rw [e 1 (by omega)]; exact h1, by rw [e 2 (by omega)]; exact h2, by rw [e 7 (by omega)]; exact h7, by rw [e 3 (by omega), e 9 (by omega), hct]; exact h8, by rw [e 3 (by omega)]; exact h9⟩
  by_cases q : c' = c
  · subst q; exact ok
  · exact chOK_cong (fun w hw => e _ (by omega)) (by rw [e _ (by omega)]; exact (hc.2.1 c' hc').2.2.2) (hc.2.1 c' hc')
theorem hasChC {M : MM} {b C : Nat} {r : Nat → Int32} {x : Int32} (hR : Rep M b r) (h5 : r 5 = nI C) : f_X4_hasChannel b x M = some (wi x 0 (nI C - 1)) := by
  unfold f_X4_hasChannel
  rw [isWithin_ok, Option.bind_some, show M b 3 = r 5 from hR.s.2.1, h5]
def modeS (r : Nat → Int32) (c m : Nat) (f w p : Int32) : Nat → Int32 := upd (upd (upd r (34 + 29 * c + (3 + 3 * m)) f) (34 + 29 * c + (4 + 3 * m)) w) (34 + 29 * c + (5 + 3 * m)) p
theorem modeS_at {r : Nat → Int32} {c m k : Nat} {f w p : Int32} (h : ¬ (34 + 29 * c + (3 + 3 * m) ≤ k ∧ k ≤ 34 + 29 * c + (5 + 3 * m))) : modeS r c m f w p k = r k := by
  unfold modeS
  rw [upd_ne (by omega), upd_ne (by omega), upd_ne (by omega)]
def modeWhy (m f w p : Int32) : Int32 := if wi m 0 2 = true then (if wi f 1 2000 = true ∧ wi w 1 500 = true ∧ wi p 0 50000 = true then 0 else -2) else -1
theorem modeS_ch {r : Nat → Int32} {c m : Nat} {f w p : Int32} (h : chOK r c) (hm : m < 3) (hf : wi f 1 2000 = true) (hw : wi w 1 500 = true) (hp : wi p 0 50000 = true) : chOK (modeS r c m f w p) c := by
  obtain ⟨g1, g2, ⟨N, g3, g4, g5⟩, g6⟩ := h
  have b1 := wi_t hf
  have b2 := wi_t hw
  have b3 := wi_t hp
  have t1 : (1 : Int32).toInt = 1 := rfl
  have t2 : (2000 : Int32).toInt = 2000 := rfl
  have t3 : (500 : Int32).toInt = 500 := rfl
  have t4 : (50000 : Int32).toInt = 50000 := rfl
  have t5 : (0 : Int32).toInt = 0 := rfl
  refine ⟨by rw [modeS_at (by omega)]; exact g1, ⟨by rw [modeS_at (by omega)]; exact g2.1, fun j hj => ?_⟩, ⟨N, by rw [modeS_at (by omega)]; exact g3, g4, fun j hj => by rw [modeS_at (by omega)]; exact g5 j hj⟩, by rw [modeS_at (by omega)]; exact g6⟩
  by_cases q : j = m
  · subst q
    rw [show modeS r c j f w p (34 + 29 * c + (3 + 3 * j)) = f by unfold modeS; rw [upd_ne (by omega), upd_ne (by omega), upd_eq], show modeS r c j f w p (34 + 29 * c + (4 + 3 * j)) = w by unfold modeS; rw [upd_ne (by omega), upd_eq], show modeS r c j f w p (34 + 29 * c + (5 + 3 * j)) = p by unfold modeS; rw [upd_eq]]
    unfold okM
    refine ⟨⟨?_, ?_⟩, ⟨?_, ?_⟩, ?_, ?_⟩ <;> omega
  · rw [modeS_at (by omega), modeS_at (by omega), modeS_at (by omega)]
    exact g2.2 j hj
theorem modeC {M : MM} {b c : Nat} {r : Nat → Int32} {x2 f w p : Int32} (hR : Rep M b r) (hc : c < Cn r) (h6 : c < 6) (ok : chOK r c) : (modeWhy x2 f w p ≠ 0 → f_X0_putMode (b + (11 + 9 * c)) x2 f w p M = some (modeWhy x2 f w p, M)) ∧ (modeWhy x2 f w p = 0 → ∃ m, m < 3 ∧ x2 = nI m ∧ (wi f 1 2000 = true ∧ wi w 1 500 = true ∧ wi p 0 50000 = true) ∧ ∃ M', f_X0_putMode (b + (11 + 9 * c)) x2 f w p M = some (gainR (modeS r c m f w p) c f, M') ∧ Rep M' b (modeS r c m f w p) ∧ Fr b M M') := by
  unfold f_X0_putMode f_X0_putMode_40 modeWhy
  rw [isWithin_ok, Option.bind_some, isFrequency_ok, Option.bind_some, isWithin_ok, Option.bind_some, isWithin_ok, Option.bind_some]
  cases hx : wi x2 0 2 with
  | false =>
    rw [if_pos bz_f0, if_neg (by decide)]
    exact ⟨fun _ => rfl, fun h => absurd h (by decide)⟩
  | true =>
    rw [if_neg bz_t0, if_pos rfl]
    cases h1 : wi f 1 2000 with
    | false =>
      rw [if_pos bz_f0, if_neg (fun h => absurd h.1 (by decide))]
      exact ⟨fun _ => rfl, fun h => absurd h (by decide)⟩
    | true =>
      rw [if_neg bz_t0]
      cases h2 : wi w 1 500 with
      | false =>
        rw [if_pos bz_f0, if_neg (fun h => absurd h.2.1 (by decide))]
        exact ⟨fun _ => rfl, fun h => absurd h (by decide)⟩
      | true =>
        rw [if_neg bz_t0]
        cases h3 : wi p 0 50000 with
        | false =>
          rw [if_pos bz_f0, if_neg (fun h => absurd h.2.2 (by decide))]
          exact ⟨fun _ => rfl, fun h => absurd h (by decide)⟩
        | true =>
          rw [if_neg bz_t0, if_pos ⟨rfl, rfl, rfl⟩]
          obtain ⟨m, rfl, -, hm⟩ := wi_nI (a := 0) (b := 2) (by omega) (by omega) hx
          refine ⟨fun h => absurd rfl h, fun _ => ⟨m, by omega, rfl, ⟨rfl, rfl, rfl⟩, ms (ms (ms M (b + (12 + 9 * c)) m f) (b + (13 + 9 * c)) m w) (b + (14 + 9 * c)) m p, ?_⟩⟩
          have t := tr_cm c h6 m (by omega)
          have R1 : Rep (ms (ms (ms M (b + (12 + 9 * c)) m f) (b + (13 + 9 * c)) m w) (b + (14 + 9 * c)) m p) b (modeS r c m f w p) :=
            Rep.put (Rep.put (Rep.put hR t.1 (by omega) (by omega) (by omega) ⟨by omega, by omega, fun c' hc' => by omega⟩) t.2.1 (by omega) (by omega) (by omega) ⟨by omega, by omega, fun c' hc' => by omega⟩) t.2.2 (by omega) (by omega) (by omega) ⟨by omega, by omega, fun c' hc' => by omega⟩
          have bf := wi_t h1
          have hf : Sm f 2000 := ⟨by have t1 : (1 : Int32).toInt = 1 := rfl; omega, bf.2⟩
          have hcn : c < Cn (modeS r c m f w p) := by unfold Cn; rw [modeS_at (by omega)]; exact hc
          rw [gd_of (inb_nI (by omega) (by omega)), gd_of (inb_nI (by omega) (by omega)), gd_of (inb_nI (by omega) (by omega)), ix_nI (by omega), show b + (11 + 9 * c) + 1 = b + (12 + 9 * c) by omega, show b + (11 + 9 * c) + 2 = b + (13 + 9 * c) by omega, show b + (11 + 9 * c) + 3 = b + (14 + 9 * c) by omega, gainC_ok R1 hcn h6 (modeS_ch ok (by omega) h1 h2 h3).2.1 hf, Option.bind_some]
          exact ⟨rfl, R1, Fr.put (Fr.put (Fr.put Fr.rf (by omega)) (by omega)) (by omega)⟩
theorem modeNeg {m f w p : Int32} (h : modeWhy m f w p ≠ 0) : modeWhy m f w p < 0 := by
  unfold modeWhy at h ⊢
  by_cases a : wi m 0 2 = true
  · rw [if_pos a] at h ⊢
    by_cases b : wi f 1 2000 = true ∧ wi w 1 500 = true ∧ wi p 0 50000 = true
    · rw [if_pos b] at h; exact absurd rfl h
    · rw [if_neg b]; decide
  · rw [if_neg a]; decide
theorem Sm0 {x : Int32} {B : Nat} (h : Sm x B) : ¬ x < 0 := by
  rw [Int32.lt_iff_toInt_lt]
  have : (0 : Int32).toInt = 0 := rfl
  have := h.1
  omega
