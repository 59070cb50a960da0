/-! PURE: faultPosition on both sides -/
def FE (e : Option (Int32 × MM)) (K : MM → Option (Int32 × MM)) (M : MM) (g : Nat → Int32) (r : Bool × Nat) : Prop := ∃ g', g' 6 = nI r.2 ∧ (∀ i, i ≠ 6 → i ≠ 7 → g' i = g i) ∧ (r.1 = true → e = K (msf M 657 g')) ∧ (r.1 = false → e = some (nI r.2, msf M 657 g'))
theorem FE.no {K : MM → Option (Int32 × MM)} {M : MM} {g g1 : Nat → Int32} {q : Nat} (h6 : g1 6 = nI q) (ho : ∀ i, i ≠ 6 → i ≠ 7 → g1 i = g i) : FE (f_X7_faultPosition_60 657 (msf M 657 g1)) K M g (false, q) := by
  refine ⟨g1, h6, ho, fun h => absurd (show false = true from h) (by decide), fun _ => ?_⟩
  unfold f_X7_faultPosition_60
  rw [msf_at, h6]
theorem tailM {M : MM} {n q : Nat} {tx g g1 : Nat → Int32} {K : MM → Option (Int32 × MM)} (h : TXM M n tx) (h4 : g1 4 = nI n) (h6 : g1 6 = nI q) (hq : q ≤ n) (ho : ∀ i, i ≠ 6 → i ≠ 7 → g1 i = g i) : FE (Option.bind (f_X7_takes 657 59 (msf M 657 g1)) fun v7 => if (bz v7.1) = 0 then (f_X7_faultPosition_60 657 v7.2) else (K v7.2)) K M g (sgT tx n q 59) := by
  obtain ⟨g2, e2, a2, c2⟩ := takesM (c := 59) h h4 h6 hq
  have ho2 : ∀ i, i ≠ 6 → i ≠ 7 → g2 i = g i := fun i q1 q2 => (c2 i q1).trans (ho i q1 q2)
  rw [e2, Option.bind_some]
  dsimp only
  unfold sgT
  by_cases z : pk tx n q = 59
  · rw [if_pos z] at a2
    rw [if_neg (by rw [bz_dec]; exact fun u => u z), if_pos z]
    exact ⟨g2, a2, ho2, fun _ => rfl, fun y => absurd (show true = false from y) (by decide)⟩
  · rw [if_neg z] at a2
    rw [if_pos (by rw [bz_dec]; exact z), if_neg z]
    exact FE.no a2 ho2
theorem sglM {M : MM} {n q : Nat} {tx g g1 : Nat → Int32} {lo hi : Int32} {K : MM → Option (Int32 × MM)} (h : TXM M n tx) (h4 : g1 4 = nI n) (h6 : g1 6 = nI q) (hq : q ≤ n) (ho : ∀ i, i ≠ 6 → i ≠ 7 → g1 i = g i) : ∃ g2, f_X7_takesNumber 657 lo hi (msf M 657 g1) = some (numB (nm tx n q) lo hi, msf M 657 g2) ∧ FE (if (bz (numB (nm tx n q) lo hi)) = 0 then (f_X7_faultPosition_60 657 (msf M 657 g2)) else (Option.bind (f_X7_takes 657 59 (msf M 657 g2)) fun v7 => if (bz v7.1) = 0 then (f_X7_faultPosition_60 657 v7.2) else (K v7.2))) K M g (sglS tx n q lo hi) := by
  obtain ⟨g2, e2, a2, b2, c2⟩ := takesNumM (lo := lo) (hi := hi) h h4 h6 hq
  have ho2 : ∀ i, i ≠ 6 → i ≠ 7 → g2 i = g i := fun i q1 q2 => (c2 i q1 q2).trans (ho i q1 q2)
  refine ⟨g2, e2, ?_⟩
  unfold sglS
  cases hb : numB (nm tx n q) lo hi with
  | false =>
    rw [hb, if_neg (by decide)] at a2
    rw [if_pos bz_f0, if_neg (by decide)]
    exact FE.no a2 ho2
  | true =>
    rw [hb, if_pos rfl] at a2
    rw [if_neg bz_t0, if_pos rfl]
    exact tailM h ((c2 4 (by omega) (by omega)).trans h4) a2 (nm_le hq) ho2
theorem faultStep {M : MM} {n p k : Nat} {tx g : Nat → Int32} (h : TXM M n tx) (h4 : g 4 = nI n) (h6 : g 6 = nI p) (hp : p < n) : FE (f_X7_faultPosition_5 657 (k + 1) (msf M 657 g)) (f_X7_faultPosition_5 657 k) M g (actS tx n p) := by
  have h80 := h.1
  rw [f_X7_faultPosition_5, msf_at, h4, h6, if_neg (by rw [le_nI (by omega) (by omega)]; omega), peekM h h4 h6 (by omega), Option.bind_some, nI_1, ms_msf]
  generalize hG : upd g 6 (nI (p + 1)) = G
  have G4 : G 4 = nI n := by rw [← hG, upd_ne (by omega)]; exact h4
  have G6 : G 6 = nI (p + 1) := by rw [← hG, upd_eq]
  have Go : ∀ i, i ≠ 6 → i ≠ 7 → G i = g i := fun i a b => by rw [← hG, upd_ne a]
  unfold f_X7_takesAct f_X7_takesAct_85 f_X7_takesAct_86 actS
  by_cases z1 : pk tx n p = 99
  · rw [z1, show f_X7_isLetter 99 (msf M 657 g) = some true from rfl, Option.bind_some, if_neg bz_t0, if_pos rfl, if_pos rfl]
    obtain ⟨g1, e1, a1, b1, c1⟩ := takesNumM (lo := 0) (hi := 5) h G4 G6 hp
    have ho1 : ∀ i, i ≠ 6 → i ≠ 7 → g1 i = g i := fun i q1 q2 => (c1 i q1 q2).trans (Go i q1 q2)
    rw [e1, Option.bind_some]
    dsimp only
    unfold setS
    cases hb : numB (nm tx n (p + 1)) 0 5 with
    | false =>
      rw [hb, if_neg (by decide)] at a1
      rw [if_pos bz_f0, Option.bind_some]
      dsimp only
      rw [if_pos bz_f0, if_neg (show ¬ false = true by decide)]
      exact FE.no a1 ho1
    | true =>
      rw [hb, if_pos rfl] at a1
      rw [if_neg bz_t0, if_pos rfl]
      have g14 := (c1 4 (by omega) (by omega)).trans G4
      obtain ⟨g2, e2, a2, c2⟩ := takesM (c := 61) h g14 a1 (nm_le hp)
      have ho2 : ∀ i, i ≠ 6 → i ≠ 7 → g2 i = g i := fun i q1 q2 => (c2 i q1).trans (ho1 i q1 q2)
      rw [e2, Option.bind_some]
      dsimp only
      by_cases z : pk tx n (p + 1 + (nm tx n (p + 1)).1) = 61
      · rw [if_pos z] at a2
        rw [if_neg (show ¬ bz (decide (pk tx n (p + 1 + (nm tx n (p + 1)).1) = 61)) = 0 by rw [bz_dec]; exact fun u => u z), if_pos z]
        obtain ⟨g3, e3, f3⟩ := sglM (g := g) (K := f_X7_faultPosition_5 657 k) (lo := 0) (hi := 100) h ((c2 4 (by omega)).trans g14) a2 (pkt_lt z (by decide)) ho2
        rw [e3, Option.bind_some]
        dsimp only
        cases hb2 : numB (nm tx n (p + 1 + (nm tx n (p + 1)).1 + 1)) 0 100 with
        | false =>
          rw [hb2] at f3
          rw [if_pos bz_f0, Option.bind_some]
          exact f3
        | true =>
          rw [hb2] at f3
          rw [if_neg bz_t0, Option.bind_some]
          exact f3
      · rw [if_neg z] at a2
        rw [if_pos (show bz (decide (pk tx n (p + 1 + (nm tx n (p + 1)).1) = 61)) = 0 by rw [bz_dec]; exact z), if_neg z, Option.bind_some]
        dsimp only
        rw [if_pos bz_f0]
        exact FE.no a2 ho2
  · rw [if_neg z1, if_neg z1]
    by_cases z2 : pk tx n p = 103
    · rw [z2, show f_X7_isLetter 103 (msf M 657 g) = some true from rfl, Option.bind_some, if_neg bz_t0, if_pos rfl, if_pos rfl]
      obtain ⟨g3, e3, f3⟩ := sglM (g := g) (K := f_X7_faultPosition_5 657 k) (lo := 1) (hi := 999) h G4 G6 hp Go
      rw [e3, Option.bind_some, Option.bind_some]
      exact f3
    · rw [if_neg z2, if_neg z2]
      by_cases z3 : pk tx n p = 115
      · rw [z3, show f_X7_isLetter 115 (msf M 657 g) = some true from rfl, Option.bind_some, if_neg bz_t0, if_pos rfl, if_pos rfl]
        obtain ⟨g3, e3, f3⟩ := sglM (g := g) (K := f_X7_faultPosition_5 657 k) (lo := 1) (hi := 50) h G4 G6 hp Go
        rw [e3, Option.bind_some, Option.bind_some]
        exact f3
      · rw [if_neg z3, if_neg z3]
        have fin : FE (Option.bind (some (true, msf M 657 G)) fun v5 => if (bz v5.1) = 0 then (f_X7_faultPosition_60 657 v5.2) else (Option.bind (f_X7_takes 657 59 v5.2) fun v7 => if (bz v7.1) = 0 then (f_X7_faultPosition_60 657 v7.2) else (f_X7_faultPosition_5 657 k v7.2))) (f_X7_faultPosition_5 657 k) M g (sgT tx n (p + 1) 59) := by
          rw [Option.bind_some]
          dsimp only
          rw [if_neg bz_t0]
          exact tailM h G4 G6 hp Go
        by_cases z4 : pk tx n p = 104
        · rw [if_pos z4, z4, show f_X7_isLetter 104 (msf M 657 g) = some true from rfl, Option.bind_some, if_neg bz_t0]
          exact fin
        · rw [if_neg z4]
          by_cases z5 : pk tx n p = 114
          · rw [if_pos z5, z5, show f_X7_isLetter 114 (msf M 657 g) = some true from rfl, Option.bind_some, if_neg bz_t0]
            exact fin
          · rw [if_neg z5]
            by_cases z6 : pk tx n p = 120
            · rw [if_pos z6, z6, show f_X7_isLetter 120 (msf M 657 g) = some true from rfl, Option.bind_some, if_neg bz_t0]
              exact fin
            · rw [if_neg z6]
              unfold f_X7_isLetter f_X7_isLetter_36 f_X7_isLetter_41
              rw [if_neg z2, if_neg z3, if_neg z4, if_neg z5, if_neg z6, if_neg z1, Option.bind_some, if_pos bz_f0]
              exact ⟨g, h6, fun _ _ _ => rfl, fun y => absurd (show false = true from y) (by decide), fun _ => rfl⟩
def faultS (tx : Nat → Int32) (n : Nat) : Nat → Nat → Int32
  | 0, _ => -6
  | f + 1, p => if n ≤ p then -6 else if (actS tx n p).1 = true then faultS tx n f (actS tx n p).2 else nI (actS tx n p).2
theorem faultC {M : MM} {n : Nat} {tx : Nat → Int32} (h : TXC M n tx) : ∀ (f j k p : Nat) (g : Nat → Int32), n < p + f → f ≤ k → p ≤ n → j ≤ p → g 1 = nI n → g 2 = nI p → ∃ g', f_X5_findFault_6 655 k (nI j) (msf M 655 g) = some (faultS tx n f p, msf M 655 g') ∧ g' 1 = nI n := by
  have h80 := h.1
  intro f
  induction f with
  | zero => intro j k p g a b c; omega
  | succ f ih =>
    intro j k p g hf hk hp hj h1 h2
    obtain ⟨k, rfl⟩ : ∃ k', k = k' + 1 := ⟨k - 1, by omega⟩
    rw [f_X5_findFault_6, msf_at, h1, h2, faultS]
    unfold f_X5_findFault_41
    by_cases q : n ≤ p
    · rw [if_pos q, if_pos (show nI n ≤ nI p by rw [le_nI (by omega) (by omega)]; exact q)]
      refine ⟨g, ?_, h1⟩
      split <;> rfl
    · rw [if_neg q, if_neg (by rw [show (80 : Int32) = nI 80 from rfl, le_nI (by omega) (by omega)]; omega), if_neg (show ¬ nI n ≤ nI p by rw [le_nI (by omega) (by omega)]; exact q)]
      obtain ⟨g', e, a1, a2, -⟩ := readActC h h1 h2 hp
      obtain ⟨l1, l2⟩ := actS_le (tx := tx) hp
      rw [e, Option.bind_some]
      dsimp only
      cases hb : (actS tx n p).1 with
      | false =>
        rw [if_pos bz_f0, if_neg (by decide), msf_at, a2]
        exact ⟨g', rfl, a1⟩
      | true =>
        rw [if_neg bz_t0, if_pos rfl, nI_1]
        have := (l2 hb).2
        exact ih (j + 1) k (actS tx n p).2 g' (by omega) (by omega) l1 (by omega) a1 a2
theorem faultM {M : MM} {n : Nat} {tx : Nat → Int32} (h : TXM M n tx) : ∀ (f k p : Nat) (g : Nat → Int32), n < p + f → f ≤ k → p ≤ n → g 4 = nI n → g 6 = nI p → ∃ g', f_X7_faultPosition_5 657 k (msf M 657 g) = some (faultS tx n f p, msf M 657 g') ∧ ∀ i, i ≠ 6 → i ≠ 7 → g' i = g i := by
  have h80 := h.1
  intro f
  induction f with
  | zero => intro k p g a b c; omega
  | succ f ih =>
    intro k p g hf hk hp h4 h6
    obtain ⟨k, rfl⟩ : ∃ k', k = k' + 1 := ⟨k - 1, by omega⟩
    rw [faultS]
    by_cases q : n ≤ p
    · rw [if_pos q, f_X7_faultPosition_5, msf_at, h4, h6, if_pos (show nI n ≤ nI p by rw [le_nI (by omega) (by omega)]; exact q)]
      exact ⟨g, rfl, fun _ _ _ => rfl⟩
    · rw [if_neg q]
      obtain ⟨g', a, b, c, d⟩ := faultStep (k := k) h h4 h6 (show p < n by omega)
      obtain ⟨l1, l2⟩ := actS_le (tx := tx) hp
      cases hb : (actS tx n p).1 with
      | false =>
        rw [if_neg (by decide), d hb]
        exact ⟨g', rfl, b⟩
      | true =>
        rw [if_pos rfl, c hb]
        have := (l2 hb).2
        obtain ⟨g2, e2, b2⟩ := ih k (actS tx n p).2 g' (by omega) (by omega) l1 ((b 4 (by omega) (by omega)).trans h4) a
        exact ⟨g2, e2, fun i q1 q2 => (b2 i q1 q2).trans (b i q1 q2)⟩
theorem CI.tx' {M : MM} {R : Nat → Int32} {kp n : Nat} {tx fl g : Nat → Int32} (h : CI M R kp n tx fl) (h1 : g 1 = nI n) : CI (msf M 655 g) R kp n tx fl := h.txt (fun q hq => msf_ne (by omega)) ⟨by rw [msf_at]; exact h1, h.2.2.2.2.1, fun k hk => by rw [msf_ne (by omega)]; exact h.2.2.2.2.2 k hk⟩
theorem MI.tx' {M : MM} {R : Nat → Int32} {kp n : Nat} {tx fl g : Nat → Int32} (h : MI M R kp n tx fl) (ho : ∀ i, i ≠ 6 → i ≠ 7 → g i = M 657 i) : MI (msf M 657 g) R kp n tx fl := by
  obtain ⟨a, b, c, d, e⟩ := h
  exact ⟨by rw [msf_ne (by omega)]; exact a, by rw [msf_at, ho 1 (by omega) (by omega)]; exact b, by rw [msf_at, ho 4 (by omega) (by omega)]; exact c, fun k hk => by rw [msf_ne (by omega)]; exact d k hk, fun x hx => by rw [msf_ne (by omega)]; exact e x hx⟩
theorem CI.txc {M : MM} {R : Nat → Int32} {kp n : Nat} {tx fl : Nat → Int32} (h : CI M R kp n tx fl) : TXC M n tx := ⟨h.2.2.2.2.1, fun k hk => (h.2.2.2.2.2 k hk).1⟩
theorem MI.txm {M : MM} {R : Nat → Int32} {kp n : Nat} {tx fl : Nat → Int32} (h : MI M R kp n tx fl) (h80 : n ≤ 80) : TXM M n tx := ⟨h80, h.2.2.2.1⟩
theorem findC {M : MM} {R : Nat → Int32} {kp n : Nat} {tx fl : Nat → Int32} (h : CI M R kp n tx fl) : ∃ M1, f_X5_findFault 655 M = some (faultS tx n 81 0, M1) ∧ CI M1 R kp n tx fl ∧ Lo M M1 := by
  have h80 := h.2.2.2.2.1
  obtain ⟨g', e, a⟩ := faultC h.txc 81 0 FU 0 (upd (M 655) 2 0) (by omega) (by unfold FU; omega) (by omega) (by omega) ((upd_ne (by omega)).trans h.2.2.2.1) (upd_eq _ _ _)
  refine ⟨msf M 655 g', ?_, h.tx' a, fun q hq => msf_ne (by omega)⟩
  unfold f_X5_findFault f_X5_rewind
  rw [Option.bind_some]
  exact e
theorem findM {M : MM} {R : Nat → Int32} {kp n : Nat} {tx fl : Nat → Int32} (h : MI M R kp n tx fl) (h80 : n ≤ 80) : ∃ M1, f_X7_faultPosition 657 M = some (faultS tx n 81 0, M1) ∧ MI M1 R kp n tx fl ∧ Hi M M1 := by
  obtain ⟨g', e, a⟩ := faultM (h.txm h80) 81 FU 0 (upd (M 657) 6 0) (by omega) (by unfold FU; omega) (by omega) ((upd_ne (by omega)).trans h.2.2.1) (upd_eq _ _ _)
  refine ⟨msf M 657 g', ?_, h.tx' (fun i q1 q2 => (a i q1 q2).trans (upd_ne q1)), fun q hq => msf_ne (by omega)⟩
  unfold f_X7_faultPosition
  exact e
theorem faultPosition_pair : Pair (f_X6_faultPosition 650) (f_X7_faultPosition 657) := by
  rintro M ⟨R, kp, n, tx, fl, hC, hM⟩
  refine mkP (v := faultS tx n 81 0) (R' := R) (kp' := kp) (n' := n) (tx' := tx) (fl' := fl) hM ?_ (fun M1 g => findM g hC.2.2.2.2.1)
  obtain ⟨M1, e, c, l⟩ := findC hC
  refine ⟨M1, ?_, c, l⟩
  unfold f_X6_faultPosition
  rw [e, Option.bind_some]
