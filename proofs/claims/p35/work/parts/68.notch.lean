/-! PURE, the class alone: by program out of the same part of whole -/
/-! PURE: addNotch on both sides -/
theorem Rep.cntN {M : MM} {b c N : Nat} {r : Nat → Int32} (h : Rep M b r) (h6 : c < 6) (hN : Nn r c = N) (h4 : N < 4) (q1 : M (b + (15 + 9 * c)) N = r (34 + 29 * c + (13 + 3 * N))) (q2 : M (b + (16 + 9 * c)) N = r (34 + 29 * c + (14 + 3 * N))) (q3 : M (b + (17 + 9 * c)) N = r (34 + 29 * c + (15 + 3 * N))) : Rep (ms M (b + (11 + 9 * c)) 9 (nI (N + 1))) b (upd r (34 + 29 * c + 12) (nI (N + 1))) := by
  have t0 := (tr_c0 c h6).2.2.2
  refine ⟨fun o i a1 a2 a3 a4 => ?_, h.2.cong (fun j _ => by rw [ms_ne (by omega)]) (fun j _ => by rw [ms_ne (by omega)]) (upd_ne (by omega)) (fun k _ _ => upd_ne (by omega))⟩
  by_cases q : tr o i = 34 + 29 * c + 12
  · obtain ⟨rfl, rfl⟩ := tr_inj (o := 11 + 9 * c) (i := 9) (by omega) (by omega) a1 a2 (by omega) (q.trans t0.symm)
    rw [t0, ms_eq, upd_eq]
  · rw [upd_ne q]
    have e : ms M (b + (11 + 9 * c)) 9 (nI (N + 1)) (b + o) i = M (b + o) i := by
      by_cases z : o = 11 + 9 * c
      · subst z
        exact ms_ni (fun y => q (by rw [y]; exact t0))
      · rw [ms_ne (by omega)]
    rw [e]
    by_cases y : inS r o i
    · exact h.1 o i a1 a2 a3 y
    · have hC : Cn (upd r (34 + 29 * c + 12) (nI (N + 1))) = Cn r := by unfold Cn; rw [upd_ne (by omega)]
      have hNo : ∀ c', c' ≠ c → Nn (upd r (34 + 29 * c + 12) (nI (N + 1))) c' = Nn r c' := fun c' hc' => by unfold Nn; rw [upd_ne (by omega)]
      have hNc : Nn (upd r (34 + 29 * c + 12) (nI (N + 1))) c = N + 1 := by
        unfold Nn
        rw [show 46 + 29 * c = 34 + 29 * c + 12 by omega, upd_eq, ix_nI (by omega)]
      unfold inS at y a4
      rw [hC] at a4
      rcases a4 with a4 | ⟨a4, a5⟩
      · exact absurd (Or.inl a4) y
      · by_cases z : (o - 11) / 9 = c
        · rw [z, hNc] at a5
          by_cases w : 4 ≤ (o - 11) % 9 ∧ (o - 11) % 9 ≤ 6
          · by_cases v : i < N
            · exact absurd (Or.inr ⟨a4, fun _ => by rw [z, hN]; exact v⟩) y
            · by_cases lo : o < 11
              · exact absurd (Or.inl lo) y
              · have hi : i = N := by have := a5 w; omega
                subst hi
                have t := tr_cn c h6 i h4
                rcases (show o = 15 + 9 * c ∨ o = 16 + 9 * c ∨ o = 17 + 9 * c by omega) with e | e | e <;> subst e
                · rw [t.1]; exact q1
                · rw [t.2.1]; exact q2
                · rw [t.2.2]; exact q3
          · exact absurd (Or.inr ⟨a4, fun x => absurd x w⟩) y
        · rw [hNo _ z] at a5
          exact absurd (Or.inr ⟨a4, a5⟩) y
def notS (r : Nat → Int32) (c N : Nat) (f t l : Int32) : Nat → Int32 := upd (upd (upd (upd r (34 + 29 * c + (13 + 3 * N)) f) (34 + 29 * c + (14 + 3 * N)) t) (34 + 29 * c + (15 + 3 * N)) l) (34 + 29 * c + 12) (nI (N + 1))
theorem notS_at {r : Nat → Int32} {c N k : Nat} {f t l : Int32} (h : ¬ (34 + 29 * c + (13 + 3 * N) ≤ k ∧ k ≤ 34 + 29 * c + (15 + 3 * N))) (h2 : k ≠ 34 + 29 * c + 12) : notS r c N f t l k = r k := by
  unfold notS
  rw [upd_ne h2, upd_ne (by omega), upd_ne (by omega), upd_ne (by omega)]
def notOK (f t l : Int32) : Prop := wi f 1 2000 = true ∧ wi t f 2000 = true ∧ wi l 1 200000 = true
theorem notS_ch {r : Nat → Int32} {c N : Nat} {f t l : Int32} (h : chOK r c) (hN : r (34 + 29 * c + 12) = nI N) (h4 : N < 4) (ho : notOK f t l) : chOK (notS r c N f t l) c := by
  obtain ⟨g1, g2, ⟨N', g3, g4, g5⟩, g6⟩ := h
  have : N' = N := (eq_nI (by omega) (by omega)).mp (g3.symm.trans hN)
  subst this
  have b3 := wi_t ho.2.2
  have t1 : (1 : Int32).toInt = 1 := rfl
  have t2 : (200000 : Int32).toInt = 200000 := rfl
  refine ⟨by rw [notS_at (by omega) (by omega)]; exact g1, ⟨by rw [notS_at (by omega) (by omega)]; exact g2.1, fun j hj => by rw [notS_at (by omega) (by omega), notS_at (by omega) (by omega), notS_at (by omega) (by omega)]; exact g2.2 j hj⟩, ⟨N' + 1, by unfold notS; rw [upd_eq], by omega, fun j hj => ?_⟩, by rw [notS_at (by omega) (by omega)]; exact g6⟩
  by_cases q : j = N'
  · subst q
    rw [show notS r c j f t l (34 + 29 * c + (15 + 3 * j)) = l by unfold notS; rw [upd_ne (by omega), upd_eq]]
    exact ⟨by omega, by omega⟩
  · rw [notS_at (by omega) (by omega)]
    exact g5 j (by omega)
theorem notC {M : MM} {b c N : Nat} {r : Nat → Int32} {f t l : Int32} (hR : Rep M b r) (hc : c < Cn r) (h6 : c < 6) (hN : r (34 + 29 * c + 12) = nI N) (h4 : N ≤ 4) : (¬ notOK f t l → f_X0_putNotch (b + (11 + 9 * c)) f t l M = some (-2, M)) ∧ (notOK f t l → N = 4 → f_X0_putNotch (b + (11 + 9 * c)) f t l M = some (-4, M)) ∧ (notOK f t l → N < 4 → ∃ M', f_X0_putNotch (b + (11 + 9 * c)) f t l M = some (nI N, M') ∧ Rep M' b (notS r c N f t l) ∧ Fr b M M') := by
  have m9 : M (b + (11 + 9 * c)) 9 = nI N := (hR.c hc h6).2.2.2.1.trans hN
  have hNn : Nn r c = N := by
    unfold Nn
    rw [show 46 + 29 * c = 34 + 29 * c + 12 by omega, hN, ix_nI (by omega)]
  unfold f_X0_putNotch f_X0_putNotch_28 notOK
  rw [isFrequency_ok, Option.bind_some, isWithin_ok, Option.bind_some, isWithin_ok, Option.bind_some]
  cases h1 : wi f 1 2000 with
  | false =>
    rw [if_pos bz_f0]
    exact ⟨fun _ => rfl, fun h => absurd h.1 (by decide), fun h => absurd h.1 (by decide)⟩
  | true =>
    rw [if_neg bz_t0]
    cases h2 : wi t f 2000 with
    | false =>
      rw [if_pos bz_f0]
      exact ⟨fun _ => rfl, fun h => absurd h.2.1 (by decide), fun h => absurd h.2.1 (by decide)⟩
    | true =>
      rw [if_neg bz_t0]
      cases h3 : wi l 1 200000 with
      | false =>
        rw [if_pos bz_f0]
        exact ⟨fun _ => rfl, fun h => absurd h.2.2 (by decide), fun h => absurd h.2.2 (by decide)⟩
      | true =>
        rw [if_neg bz_t0, m9]
        refine ⟨fun h => absurd ⟨rfl, rfl, rfl⟩ h, fun _ e => ?_, fun _ hlt => ?_⟩
        · rw [if_neg (by rw [show (4 : Int32) = nI 4 from rfl, lt_nI (by omega) (by omega)]; omega)]
        · rw [if_pos (by rw [show (4 : Int32) = nI 4 from rfl, lt_nI (by omega) (by omega)]; exact hlt), gd_of (inb_nI (by omega) (by omega)), ix_nI (by omega), ms_ne (show b + (11 + 9 * c) ≠ b + (11 + 9 * c) + 4 by omega), m9, gd_of (inb_nI (by omega) (by omega)), ix_nI (by omega), ms_ne (show b + (11 + 9 * c) ≠ b + (11 + 9 * c) + 5 by omega), ms_ne (show b + (11 + 9 * c) ≠ b + (11 + 9 * c) + 4 by omega), m9, gd_of (inb_nI (by omega) (by omega)), ix_nI (by omega), ms_ne (show b + (11 + 9 * c) ≠ b + (11 + 9 * c) + 6 by omega), ms_ne (show b + (11 + 9 * c) ≠ b + (11 + 9 * c) + 5 by omega), ms_ne (show b + (11 + 9 * c) ≠ b + (11 + 9 * c) + 4 by omega), m9, nI_1, ms_eq, show nI (N + 1) - 1 = nI N by rw [show (1 : Int32) = nI 1 from rfl, sub_nI (by omega)]; rfl]
          have tt := tr_cn c h6 N (by omega)
          rw [show b + (11 + 9 * c) + 4 = b + (15 + 9 * c) by omega, show b + (11 + 9 * c) + 5 = b + (16 + 9 * c) by omega, show b + (11 + 9 * c) + 6 = b + (17 + 9 * c) by omega]
          have R1 : Rep (ms (ms (ms M (b + (15 + 9 * c)) N f) (b + (16 + 9 * c)) N t) (b + (17 + 9 * c)) N l) b (upd (upd (upd r (34 + 29 * c + (13 + 3 * N)) f) (34 + 29 * c + (14 + 3 * N)) t) (34 + 29 * c + (15 + 3 * N)) l) :=
            Rep.put (Rep.put (Rep.put hR tt.1 (by omega) (by omega) (by omega) ⟨by omega, by omega, fun c' hc' => by omega⟩) tt.2.1 (by omega) (by omega) (by omega) ⟨by omega, by omega, fun c' hc' => by omega⟩) tt.2.2 (by omega) (by omega) (by omega) ⟨by omega, by omega, fun c' hc' => by omega⟩
          have hNn2 : Nn (upd (upd (upd r (34 + 29 * c + (13 + 3 * N)) f) (34 + 29 * c + (14 + 3 * N)) t) (34 + 29 * c + (15 + 3 * N)) l) c = N := by
            rw [← hNn]
            unfold Nn
            rw [upd_ne (by omega), upd_ne (by omega), upd_ne (by omega)]
          refine ⟨_, rfl, Rep.cntN R1 h6 hNn2 hlt ?_ ?_ ?_, Fr.put (Fr.put (Fr.put (Fr.put Fr.rf (by omega)) (by omega)) (by omega)) (by omega)⟩
          · rw [ms_ne (by omega), ms_ne (by omega), ms_eq, upd_ne (by omega), upd_ne (by omega), upd_eq]
          · rw [ms_ne (by omega), ms_eq, upd_ne (by omega), upd_eq]
          · rw [ms_eq, upd_eq]
