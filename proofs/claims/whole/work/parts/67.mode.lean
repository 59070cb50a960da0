/-! PURE: setMode and addNotch on both sides -/
theorem WF.ch {r r' : Nat → Int32} {C L P s ln nn c : Nat} (h : WF r C L P s ln nn) (hcc : c < C) (e : ∀ k, ¬ (34 + 29 * c < k ∧ k < 34 + 29 * c + 25) → r' k = r k) (ok : chOK r' c) : WF r' C L P s ln nn := by
  obtain ⟨hc, hl, hp, hst, ha, h1, h2, h7, h8, h9⟩ := h
  have h6 := hc.1.2
  have hct : cnF (ctR r') C = cnF (ctR r) C := cnF_cong (fun c' hc' => by unfold ctR; rw [e _ (by omega)])
  refine ⟨⟨by rw [e 5 (by omega)]; exact hc.1, fun c' hc' => ?_, fun c' g1 g2 => chNew_cong (fun w hw => e _ (by omega)) (fun k hk => ⟨e _ (by omega), e _ (by omega)⟩) (hc.2.2 c' g1 g2)⟩, WFl_cong (e _ (by omega)) (fun k hk => e _ (by omega)) hl, WFp_cong (e _ (by omega)) (fun k hk => e _ (by omega)) hp, WFs_cong ⟨e _ (by omega), e _ (by omega), e _ (by omega), e _ (by omega), e _ (by omega), e _ (by omega)⟩ hst, ⟨fun c' k a b => by rw [e _ (by omega)]; exact ha.1 c' k a b, fun k hk => by rw [e _ (by omega)]; exact ha.2 k hk⟩, by rw [e 1 (by omega)]; exact h1, by rw [e 2 (by omega)]; exact h2, by rw [e 7 (by omega)]; exact h7, by rw [e 3 (by omega), e 9 (by omega), hct]; exact h8, by rw [e 3 (by omega)]; exact h9⟩
  by_cases q : c' = c
  · subst q; exact ok
  · exact chOK_cong (fun w hw => e _ (by omega)) (by rw [e _ (by omega)]; exact (hc.2.1 c' hc').2.2.2) (hc.2.1 c' hc')
theorem hasChC {M : MM} {b C : Nat} {r : Nat → Int32} {x : Int32} (hR : Rep M b r) (h5 : r 5 = nI C) : f_X4_hasChannel b x M = some (wi x 0 (nI C - 1)) := by
  unfold f_X4_hasChannel
  rw [isWithin_ok, Option.bind_some, show M b 3 = r 5 from hR.s.2.1, h5]
theorem isChM {M : MM} {C : Nat} {x : Int32} (h5 : M 658 5 = nI C) : f_X7_isChannel 657 x M = some (wi x 0 (nI C - 1)) := by
  unfold f_X7_isChannel
  rw [gd_of (show inb 5 16272 = true by decide), in_ok, Option.bind_some, show ix 5 = 5 from rfl, show M (657 + 1) 5 = nI C from h5]
def modeS (r : Nat → Int32) (c m : Nat) (f w p : Int32) : Nat → Int32 := upd (upd (upd r (34 + 29 * c + (3 + 3 * m)) f) (34 + 29 * c + (4 + 3 * m)) w) (34 + 29 * c + (5 + 3 * m)) p
theorem modeS_at {r : Nat → Int32} {c m k : Nat} {f w p : Int32} (h : ¬ (34 + 29 * c + (3 + 3 * m) ≤ k ∧ k ≤ 34 + 29 * c + (5 + 3 * m))) : modeS r c m f w p k = r k := by
  unfold modeS
  rw [upd_ne (by omega), upd_ne (by omega), upd_ne (by omega)]
def modeWhy (m f w p : Int32) : Int32 := if wi m 0 2 = true then (if wi f 1 2000 = true ∧ wi w 1 500 = true ∧ wi p 0 50000 = true then 0 else -2) else -1
theorem modeS_ch {r : Nat → Int32} {c m : Nat} {f w p : Int32} (h : chOK r c) (hm : m < 3) (hf : wi f 1 2000 = true) (hw : wi w 1 500 = true) (hp : wi p 0 50000 = true) : chOK (modeS r c m f w p) c := by
  obtain ⟨g1, g2, ⟨N, g3, g4, g5⟩, g6⟩ := h
  have b1 := wi_t hf
  have b2 := wi_t hw
  have b3 := wi_t hp
  have t1 : (1 : Int32).toInt = 1 := rfl
  have t2 : (2000 : Int32).toInt = 2000 := rfl
  have t3 : (500 : Int32).toInt = 500 := rfl
  have t4 : (50000 : Int32).toInt = 50000 := rfl
  have t5 : (0 : Int32).toInt = 0 := rfl
  refine ⟨by rw [modeS_at (by omega)]; exact g1, ⟨by rw [modeS_at (by omega)]; exact g2.1, fun j hj => ?_⟩, ⟨N, by rw [modeS_at (by omega)]; exact g3, g4, fun j hj => by rw [modeS_at (by omega)]; exact g5 j hj⟩, by rw [modeS_at (by omega)]; exact g6⟩
  by_cases q : j = m
  · subst q
    rw [show modeS r c j f w p (34 + 29 * c + (3 + 3 * j)) = f by unfold modeS; rw [upd_ne (by omega), upd_ne (by omega), upd_eq], show modeS r c j f w p (34 + 29 * c + (4 + 3 * j)) = w by unfold modeS; rw [upd_ne (by omega), upd_eq], show modeS r c j f w p (34 + 29 * c + (5 + 3 * j)) = p by unfold modeS; rw [upd_eq]]
    unfold okM
    refine ⟨⟨?_, ?_⟩, ⟨?_, ?_⟩, ?_, ?_⟩ <;> omega
  · rw [modeS_at (by omega), modeS_at (by omega), modeS_at (by omega)]
    exact g2.2 j hj
theorem modeC {M : MM} {b c : Nat} {r : Nat → Int32} {x2 f w p : Int32} (hR : Rep M b r) (hc : c < Cn r) (h6 : c < 6) (ok : chOK r c) : (modeWhy x2 f w p ≠ 0 → f_X0_putMode (b + (11 + 9 * c)) x2 f w p M = some (modeWhy x2 f w p, M)) ∧ (modeWhy x2 f w p = 0 → ∃ m, m < 3 ∧ x2 = nI m ∧ (wi f 1 2000 = true ∧ wi w 1 500 = true ∧ wi p 0 50000 = true) ∧ ∃ M', f_X0_putMode (b + (11 + 9 * c)) x2 f w p M = some (gainR (modeS r c m f w p) c f, M') ∧ Rep M' b (modeS r c m f w p) ∧ Fr b M M') := by
  unfold f_X0_putMode f_X0_putMode_40 modeWhy
  rw [isWithin_ok, Option.bind_some, isFrequency_ok, Option.bind_some, isWithin_ok, Option.bind_some, isWithin_ok, Option.bind_some]
  cases hx : wi x2 0 2 with
  | false =>
    rw [if_pos bz_f0, if_neg (by decide)]
    exact ⟨fun _ => rfl, fun h => absurd h (by decide)⟩
  | true =>
    rw [if_neg bz_t0, if_pos rfl]
    cases h1 : wi f 1 2000 with
    | false =>
      rw [if_pos bz_f0, if_neg (fun h => absurd h.1 (by decide))]
      exact ⟨fun _ => rfl, fun h => absurd h (by decide)⟩
    | true =>
      rw [if_neg bz_t0]
      cases h2 : wi w 1 500 with
      | false =>
        rw [if_pos bz_f0, if_neg (fun h => absurd h.2.1 (by decide))]
        exact ⟨fun _ => rfl, fun h => absurd h (by decide)⟩
      | true =>
        rw [if_neg bz_t0]
        cases h3 : wi p 0 50000 with
        | false =>
          rw [if_pos bz_f0, if_neg (fun h => absurd h.2.2 (by decide))]
          exact ⟨fun _ => rfl, fun h => absurd h (by decide)⟩
        | true =>
          rw [if_neg bz_t0, if_pos ⟨rfl, rfl, rfl⟩]
          obtain ⟨m, rfl, -, hm⟩ := wi_nI (a := 0) (b := 2) (by omega) (by omega) hx
          refine ⟨fun h => absurd rfl h, fun _ => ⟨m, by omega, rfl, ⟨rfl, rfl, rfl⟩, ms (ms (ms M (b + (12 + 9 * c)) m f) (b + (13 + 9 * c)) m w) (b + (14 + 9 * c)) m p, ?_⟩⟩
          have t := tr_cm c h6 m (by omega)
          have R1 : Rep (ms (ms (ms M (b + (12 + 9 * c)) m f) (b + (13 + 9 * c)) m w) (b + (14 + 9 * c)) m p) b (modeS r c m f w p) :=
            Rep.put (Rep.put (Rep.put hR t.1 (by omega) (by omega) (by omega) ⟨by omega, by omega, fun c' hc' => by omega⟩) t.2.1 (by omega) (by omega) (by omega) ⟨by omega, by omega, fun c' hc' => by omega⟩) t.2.2 (by omega) (by omega) (by omega) ⟨by omega, by omega, fun c' hc' => by omega⟩
          have bf := wi_t h1
          have hf : Sm f 2000 := ⟨by have t1 : (1 : Int32).toInt = 1 := rfl; omega, bf.2⟩
          have hcn : c < Cn (modeS r c m f w p) := by unfold Cn; rw [modeS_at (by omega)]; exact hc
          rw [gd_of (inb_nI (by omega) (by omega)), gd_of (inb_nI (by omega) (by omega)), gd_of (inb_nI (by omega) (by omega)), ix_nI (by omega), show b + (11 + 9 * c) + 1 = b + (12 + 9 * c) by omega, show b + (11 + 9 * c) + 2 = b + (13 + 9 * c) by omega, show b + (11 + 9 * c) + 3 = b + (14 + 9 * c) by omega, gainC_ok R1 hcn h6 (modeS_ch ok (by omega) h1 h2 h3).2.1 hf, Option.bind_some]
          exact ⟨rfl, R1, Fr.put (Fr.put (Fr.put Fr.rf (by omega)) (by omega)) (by omega)⟩
theorem modeNeg {m f w p : Int32} (h : modeWhy m f w p ≠ 0) : modeWhy m f w p < 0 := by
  unfold modeWhy at h ⊢
  by_cases a : wi m 0 2 = true
  · rw [if_pos a] at h ⊢
    by_cases b : wi f 1 2000 = true ∧ wi w 1 500 = true ∧ wi p 0 50000 = true
    · rw [if_pos b] at h; exact absurd rfl h
    · rw [if_neg b]; decide
  · rw [if_neg a]; decide
theorem Sm0 {x : Int32} {B : Nat} (h : Sm x B) : ¬ x < 0 := by
  rw [Int32.lt_iff_toInt_lt]
  have : (0 : Int32).toInt = 0 := rfl
  have := h.1
  omega
theorem setMode_pair (x x2 f w p : Int32) : Pair (f_X6_setMode 650 x x2 f w p) (f_X7_setMode 657 x x2 f w p) := by
  rintro M ⟨R, kp, n, tx, fl, hC, hM⟩
  obtain ⟨⟨a, C, L, P, s, ln, nn, hw⟩, ⟨nt, hh⟩, d, ff⟩ := id hC
  have hkp := hh.2.2.2.1
  have h5 := hw.1.1
  have hWR : WFr R := ⟨C, L, P, s, ln, nn, hw⟩
  have modelWhy : ∀ M1, MI M1 R kp n tx fl → wi x 0 (nI C - 1) = true → modeWhy x2 f w p ≠ 0 → f_X7_setMode 657 x x2 f w p M1 = some (modeWhy x2 f w p, M1) := by
    intro M1 g hx hz
    unfold f_X7_setMode f_X7_setMode_17 f_X7_setMode_53
    rw [isChM (by rw [g.1]; exact h5.1), Option.bind_some, hx, if_neg bz_t0, in_ok, Option.bind_some, in_ok, Option.bind_some, in_ok, Option.bind_some, in_ok, Option.bind_some]
    unfold modeWhy at hz ⊢
    cases h0 : wi x2 0 2 with
    | false => rw [if_pos bz_f0, if_neg (by decide)]
    | true =>
      rw [h0, if_pos rfl] at hz
      rw [if_neg bz_t0, if_pos rfl]
      cases h1 : wi f 1 2000 with
      | false => rw [if_pos bz_f0, if_neg (fun h => absurd h.1 (by decide))]
      | true =>
        rw [if_neg bz_t0]
        cases h2 : wi w 1 500 with
        | false => rw [if_pos bz_f0, if_neg (fun h => absurd h.2.1 (by decide))]
        | true =>
          rw [if_neg bz_t0]
          cases h3 : wi p 0 50000 with
          | false => rw [if_pos bz_f0, if_neg (fun h => absurd h.2.2 (by decide))]
          | true =>
            rw [h1, h2, h3, if_pos ⟨rfl, rfl, rfl⟩] at hz
            exact absurd rfl hz
  cases hx : wi x 0 (nI C - 1) with
  | false =>
    refine mkS (v := -1) ⟨R, kp, n, tx, fl, hC, hM⟩ ?_ ?_
    · unfold f_X6_setMode
      rw [hasChC a h5.1, Option.bind_some, hx, if_pos bz_f0]
    · unfold f_X7_setMode f_X7_setMode_17
      rw [isChM (by rw [hM.1]; exact h5.1), Option.bind_some, hx, if_pos bz_f0]
  | true =>
    obtain ⟨c, hcC, rfl⟩ := (wi_ix (by omega)).mp hx
    obtain ⟨M1, nt', e1, c1, h1, n1, l1⟩ := noteC hC
    have hCn : Cn R = C := by unfold Cn; rw [h5.1, ix_nI (by omega)]
    by_cases hz : modeWhy x2 f w p = 0
    · have hr : ∀ k, k < 1808 → recR R kp k = R k := fun k hk => recR_0 hkp hk
      have hw1 : WF (recR R kp) C L P s ln nn := hw.cong hr
      have hCn1 : c < Cn (recR R kp) := by unfold Cn; rw [hw1.1.1.1, ix_nI (by omega)]; exact hcC
      obtain ⟨m, hm, rfl, ⟨y1, y2, y3⟩, M2, e2, r2, f2⟩ := (modeC (x2 := x2) (f := f) (w := w) (p := p) (c1.1.1.row hr) hCn1 (by omega) (hw1.1.2.1 c hcC)).2 hz
      have hok := modeS_ch (hw1.1.2.1 c hcC) hm y1 y2 y3
      have bf := wi_t y1
      have hf : Sm f 2000 := ⟨by have t1 : (1 : Int32).toInt = 1 := rfl; omega, bf.2⟩
      have hx2 : wi (nI m) 0 2 = true := wi_of (by rw [nI_toInt (by omega)]; exact Int.natCast_nonneg _) (by rw [nI_toInt (by omega), show (2 : Int32).toInt = 2 from rfl]; omega)
      have hw2 : WF (modeS (recR R kp) c m f w p) C L P s ln nn := hw1.ch hcC (fun k hk => modeS_at (by omega)) hok
      refine mkP (v := gainR (modeS (recR R kp) c m f w p) c f) (R' := modeS (recR R kp) c m f w p) (kp' := kp1 kp) (n' := n) (tx' := tx) (fl' := fl) hM ?_ (fun M1 g => ?_)
      · obtain ⟨M3, e3, c3, l3⟩ := keepC c1 h1 n1 (Sm0 (gainR_bd hok.2.1 hf)) r2 f2 ⟨C, L, P, s, ln, nn, hw2⟩ (fun k hk => modeS_at (by omega))
        unfold f_X6_setMode
        rw [hasChC a h5.1, Option.bind_some, hx, if_neg bz_t0, e1, Option.bind_some, gd_of (inb_nI (by omega) (by omega)), ix_nI (by omega), show 0 + 6 + 5 + 9 * c = 0 + (11 + 9 * c) by omega, e2, Option.bind_some, e3, Option.bind_some]
        exact ⟨M3, rfl, c3, l1.tr l3⟩
      · obtain ⟨M2, e2, m2, l2⟩ := recM g hkp
        unfold f_X7_setMode
        rw [isChM (by rw [g.1]; exact h5.1), Option.bind_some, hx, if_neg bz_t0, in_ok, Option.bind_some, hx2, if_neg bz_t0, in_ok, Option.bind_some, y1, if_neg bz_t0, in_ok, Option.bind_some, y2, if_neg bz_t0, in_ok, Option.bind_some, y3, if_neg bz_t0, e2, Option.bind_some]
        rw [show (3 : Int32) = nI 3 from rfl, show (1 : Int32) = nI 1 from rfl, show (2 : Int32) = nI 2 from rfl, lin, nI_add, nI_add, setCh_ok (by omega) (by omega), Option.bind_some, setCh_ok (by omega) (by omega), Option.bind_some, setCh_ok (by omega) (by omega), Option.bind_some]
        simp only [msf_at, msf_msf]
        rw [m2.1, show 3 + 3 * m + 1 = 4 + 3 * m by omega, show 3 + 3 * m + 2 = 5 + 3 * m by omega]
        have eM : upd (upd (upd (recR R kp) (34 + 29 * c + (3 + 3 * m)) f) (34 + 29 * c + (4 + 3 * m)) w) (34 + 29 * c + (5 + 3 * m)) p = modeS (recR R kp) c m f w p := rfl
        rw [eM, gainM_ok (by omega) (by rw [msf_at]; exact hok.2.1) hf, Option.bind_some, msf_at]
        exact ⟨_, rfl, m2.mo Mo.row (msf_at _ _ _), l2.tr Mo.row.hi⟩
    · refine mkP (v := modeWhy x2 f w p) hM ?_ (fun M1 g => ⟨M1, modelWhy M1 g hx hz, g, Hi.rf⟩)
      have e2 := (modeC (x2 := x2) (f := f) (w := w) (p := p) c1.1.1 (by rw [hCn]; exact hcC) (by omega) (hw.1.2.1 c hcC)).1 hz
      unfold f_X6_setMode f_X6_recorded f_X6_recorded_11
      rw [hasChC a h5.1, Option.bind_some, hx, if_neg bz_t0, e1, Option.bind_some, gd_of (inb_nI (by omega) (by omega)), ix_nI (by omega), show 0 + 6 + 5 + 9 * c = 0 + (11 + 9 * c) by omega, e2, Option.bind_some]
      dsimp only
      rw [if_pos (modeNeg hz), Option.bind_some]
      exact ⟨M1, rfl, c1, l1⟩
