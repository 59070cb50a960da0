/-! PURE, the class alone: by program out of the same part of whole -/
/-! PURE: the acts of the text, faultPosition on both sides -/
def nm (tx : Nat → Int32) (n p : Nat) : Nat × Int32 := numS tx n p 3 0 0
theorem nm_le {tx : Nat → Int32} {n p : Nat} (h : p ≤ n) : p + (nm tx n p).1 ≤ n := (numS_le 3 0 0 (by omega)).1
theorem readC {M : MM} {n p : Nat} {tx g : Nat → Int32} {lo hi : Int32} (h : TXC M n tx) (h1 : g 1 = nI n) (h2 : g 2 = nI p) (hp : p ≤ n) : ∃ g', f_X5_readNumber 655 lo hi (msf M 655 g) = some (numB (nm tx n p) lo hi, msf M 655 g') ∧ g' 2 = nI (if numB (nm tx n p) lo hi = true then p + (nm tx n p).1 else p) ∧ g' 4 = (nm tx n p).2 ∧ ∀ i, i ≠ 2 → i ≠ 4 → g' i = g i := by
  unfold f_X5_readNumber
  rw [msf_at, h2, ms_msf]
  have := numC (p := p) (lo := lo) (hi := hi) h 3 0 FU (upd g 4 0) (by omega) (by unfold FU; omega) ((upd_ne (by omega)).trans h1) ((upd_ne (by omega)).trans h2) (by omega)
  rw [upd_eq] at this
  obtain ⟨g', e, a, b, c⟩ := this
  exact ⟨g', e, a, b, fun i q1 q2 => by rw [c i q1 q2, upd_ne q2]⟩
theorem firstC {M : MM} {n p : Nat} {tx g : Nat → Int32} {lo hi : Int32} (h : TXC M n tx) (h1 : g 1 = nI n) (h2 : g 2 = nI p) (hp : p ≤ n) : ∃ g', f_X5_readFirst 655 lo hi (msf M 655 g) = some (numB (nm tx n p) lo hi, msf M 655 g') ∧ g' 2 = nI (if numB (nm tx n p) lo hi = true then p + (nm tx n p).1 else p) ∧ g' 5 = (nm tx n p).2 ∧ ∀ i, i ≠ 2 → i ≠ 4 → i ≠ 5 → g' i = g i := by
  obtain ⟨g', e, a, b, c⟩ := readC (lo := lo) (hi := hi) h h1 h2 hp
  unfold f_X5_readFirst
  rw [e, Option.bind_some]
  dsimp only
  rw [msf_at, ms_msf, b]
  exact ⟨_, rfl, by rw [upd_ne (by omega)]; exact a, upd_eq _ _ _, fun i q1 q2 q3 => by rw [upd_ne q3]; exact c i q1 q2⟩
theorem secondC {M : MM} {n p : Nat} {tx g : Nat → Int32} {lo hi : Int32} (h : TXC M n tx) (h1 : g 1 = nI n) (h2 : g 2 = nI p) (hp : p ≤ n) : ∃ g', f_X5_readSecond 655 lo hi (msf M 655 g) = some (numB (nm tx n p) lo hi, msf M 655 g') ∧ g' 2 = nI (if numB (nm tx n p) lo hi = true then p + (nm tx n p).1 else p) ∧ g' 6 = (nm tx n p).2 ∧ ∀ i, i ≠ 2 → i ≠ 4 → i ≠ 6 → g' i = g i := by
  obtain ⟨g', e, a, b, c⟩ := readC (lo := lo) (hi := hi) h h1 h2 hp
  unfold f_X5_readSecond
  rw [e, Option.bind_some]
  dsimp only
  rw [msf_at, ms_msf, b]
  exact ⟨_, rfl, by rw [upd_ne (by omega)]; exact a, upd_eq _ _ _, fun i q1 q2 q3 => by rw [upd_ne q3]; exact c i q1 q2⟩
theorem signC {M : MM} {n p : Nat} {tx g : Nat → Int32} {c : Int32} (h : TXC M n tx) (h1 : g 1 = nI n) (h2 : g 2 = nI p) (hp : p ≤ n) : ∃ g', f_X5_readSign 655 c (msf M 655 g) = some (decide (pk tx n p = c), msf M 655 g') ∧ g' 2 = nI (if pk tx n p = c then p + 1 else p) ∧ ∀ i, i ≠ 2 → g' i = g i := by
  unfold f_X5_readSign
  rw [hereC h h1 h2 hp, Option.bind_some, msf_at, ms_msf, h2, nI_1]
  by_cases q : pk tx n p = c
  · rw [if_pos q, decide_eq_true q, if_pos q]
    exact ⟨_, rfl, upd_eq _ _ _, fun i a => upd_ne a⟩
  · rw [if_neg q, decide_eq_false q, if_neg q]
    exact ⟨g, rfl, h2, fun _ _ => rfl⟩
/-- the sign behind an act -/
def sgT (tx : Nat → Int32) (n q : Nat) (c : Int32) : Bool × Nat := if pk tx n q = c then (true, q + 1) else (false, q)
/-- a number, then a semicolon -/
def sglS (tx : Nat → Int32) (n p : Nat) (lo hi : Int32) : Bool × Nat := if numB (nm tx n p) lo hi = true then sgT tx n (p + (nm tx n p).1) 59 else (false, p)
def setS (tx : Nat → Int32) (n p : Nat) : Bool × Nat := if numB (nm tx n p) 0 5 = true then (if pk tx n (p + (nm tx n p).1) = 61 then sglS tx n (p + (nm tx n p).1 + 1) 0 100 else (false, p + (nm tx n p).1)) else (false, p)
def isL (c : Int32) : Prop := c = 104 ∨ c = 114 ∨ c = 120
def actS (tx : Nat → Int32) (n p : Nat) : Bool × Nat := if pk tx n p = 99 then setS tx n (p + 1) else if pk tx n p = 103 then sglS tx n (p + 1) 1 999 else if pk tx n p = 115 then sglS tx n (p + 1) 1 50 else if pk tx n p = 104 then sgT tx n (p + 1) 59 else if pk tx n p = 114 then sgT tx n (p + 1) 59 else if pk tx n p = 120 then sgT tx n (p + 1) 59 else (false, p)
theorem sgT_le {tx : Nat → Int32} {n q : Nat} {c : Int32} (h : q ≤ n) (hc : ¬ (-6 : Int32) = c) : (sgT tx n q c).2 ≤ n ∧ q ≤ (sgT tx n q c).2 ∧ ((sgT tx n q c).1 = true → q + 1 = (sgT tx n q c).2 ∧ pk tx n q = c) := by
  unfold sgT
  by_cases z : pk tx n q = c
  · have := pkt_lt z hc
    rw [if_pos z]
    exact ⟨by show q + 1 ≤ n; omega, by show q ≤ q + 1; omega, fun _ => ⟨rfl, z⟩⟩
  · rw [if_neg z]
    exact ⟨h, Nat.le_refl _, fun y => absurd (show false = true from y) (by decide)⟩
theorem sglS_le {tx : Nat → Int32} {n p : Nat} {lo hi : Int32} (h : p ≤ n) : (sglS tx n p lo hi).2 ≤ n ∧ p ≤ (sglS tx n p lo hi).2 ∧ ((sglS tx n p lo hi).1 = true → numB (nm tx n p) lo hi = true ∧ pk tx n (p + (nm tx n p).1) = 59 ∧ p + (nm tx n p).1 + 1 = (sglS tx n p lo hi).2) := by
  have hn := nm_le (tx := tx) h
  unfold sglS
  by_cases z : numB (nm tx n p) lo hi = true
  · rw [if_pos z]
    obtain ⟨a, b, c⟩ := sgT_le (tx := tx) (c := 59) hn (by decide)
    exact ⟨a, by omega, fun y => ⟨z, (c y).2, (c y).1⟩⟩
  · rw [if_neg z]
    exact ⟨h, Nat.le_refl _, fun y => absurd (show false = true from y) (by decide)⟩
theorem setS_le {tx : Nat → Int32} {n p : Nat} (h : p ≤ n) : (setS tx n p).2 ≤ n ∧ p ≤ (setS tx n p).2 ∧ ((setS tx n p).1 = true → numB (nm tx n p) 0 5 = true ∧ pk tx n (p + (nm tx n p).1) = 61 ∧ (sglS tx n (p + (nm tx n p).1 + 1) 0 100).1 = true ∧ setS tx n p = sglS tx n (p + (nm tx n p).1 + 1) 0 100) := by
  have hn := nm_le (tx := tx) h
  unfold setS
  by_cases z : numB (nm tx n p) 0 5 = true
  · rw [if_pos z]
    by_cases y : pk tx n (p + (nm tx n p).1) = 61
    · rw [if_pos y]
      have := pkt_lt y (by decide)
      obtain ⟨a, b, c⟩ := sglS_le (tx := tx) (lo := 0) (hi := 100) (show p + (nm tx n p).1 + 1 ≤ n by omega)
      exact ⟨a, by omega, fun x => ⟨z, y, x, rfl⟩⟩
    · rw [if_neg y]
      exact ⟨hn, by show p ≤ p + _; omega, fun y => absurd (show false = true from y) (by decide)⟩
  · rw [if_neg z]
    exact ⟨h, Nat.le_refl _, fun y => absurd (show false = true from y) (by decide)⟩
theorem actS_le {tx : Nat → Int32} {n p : Nat} (h : p ≤ n) : (actS tx n p).2 ≤ n ∧ ((actS tx n p).1 = true → p < n ∧ p + 1 ≤ (actS tx n p).2) := by
  unfold actS
  have hlt : ∀ c : Int32, ¬ (-6 : Int32) = c → pk tx n p = c → p + 1 ≤ n := fun c hc e => pkt_lt e hc
  by_cases z1 : pk tx n p = 99
  · rw [if_pos z1]
    have h1 := hlt _ (by decide) z1
    obtain ⟨a, b, c⟩ := setS_le (tx := tx) h1
    exact ⟨a, fun _ => ⟨h1, b⟩⟩
  · rw [if_neg z1]
    by_cases z2 : pk tx n p = 103
    · rw [if_pos z2]
      have h1 := hlt _ (by decide) z2
      obtain ⟨a, b, c⟩ := sglS_le (tx := tx) (lo := 1) (hi := 999) h1
      exact ⟨a, fun _ => ⟨h1, b⟩⟩
    · rw [if_neg z2]
      by_cases z3 : pk tx n p = 115
      · rw [if_pos z3]
        have h1 := hlt _ (by decide) z3
        obtain ⟨a, b, c⟩ := sglS_le (tx := tx) (lo := 1) (hi := 50) h1
        exact ⟨a, fun _ => ⟨h1, b⟩⟩
      · rw [if_neg z3]
        have fin : ∀ c : Int32, ¬ (-6 : Int32) = c → pk tx n p = c → (sgT tx n (p + 1) 59).2 ≤ n ∧ ((sgT tx n (p + 1) 59).1 = true → p < n ∧ p + 1 ≤ (sgT tx n (p + 1) 59).2) := fun c hc e => by
          have h1 := hlt c hc e
          obtain ⟨a, b, c⟩ := sgT_le (tx := tx) (c := 59) h1 (by decide)
          exact ⟨a, fun _ => ⟨h1, b⟩⟩
        by_cases z4 : pk tx n p = 104
        · rw [if_pos z4]; exact fin _ (by decide) z4
        · rw [if_neg z4]
          by_cases z5 : pk tx n p = 114
          · rw [if_pos z5]; exact fin _ (by decide) z5
          · rw [if_neg z5]
            by_cases z6 : pk tx n p = 120
            · rw [if_pos z6]; exact fin _ (by decide) z6
            · rw [if_neg z6]
              exact ⟨h, fun y => absurd (show false = true from y) (by decide)⟩
theorem bz_dec {P : Prop} [Decidable P] : bz (decide P) = 0 ↔ ¬ P := by
  by_cases h : P
  · rw [decide_eq_true h]; exact ⟨fun z => absurd z (by decide), fun z => absurd h z⟩
  · rw [decide_eq_false h]; exact ⟨fun _ => h, fun _ => rfl⟩
/-- a number and the sign behind it, the class -/
theorem sglC {M : MM} {n p : Nat} {tx g : Nat → Int32} {lo hi : Int32} (h : TXC M n tx) (h1 : g 1 = nI n) (h2 : g 2 = nI p) (hp : p ≤ n) {F T : MM → Option (Bool × MM)} (hF : ∀ N, F N = some (false, N)) (hT : ∀ N, T N = some (true, N)) : ∃ g', (Option.bind (f_X5_readFirst 655 lo hi (msf M 655 g)) fun v12 => if (bz v12.1) = 0 then F v12.2 else (Option.bind (f_X5_readSign 655 59 v12.2) fun v14 => if (bz v14.1) = 0 then F v14.2 else T v14.2)) = some ((sglS tx n p lo hi).1, msf M 655 g') ∧ g' 2 = nI (sglS tx n p lo hi).2 ∧ g' 5 = (nm tx n p).2 ∧ ∀ i, i ≠ 2 → i ≠ 4 → i ≠ 5 → g' i = g i := by
  obtain ⟨g1, e1, a1, b1, c1⟩ := firstC (lo := lo) (hi := hi) h h1 h2 hp
  rw [e1, Option.bind_some]
  dsimp only
  unfold sglS
  cases hb : numB (nm tx n p) lo hi with
  | false =>
    rw [hb] at a1
    rw [if_pos bz_f0, hF, if_neg (by decide)]
    exact ⟨g1, rfl, by rw [a1, if_neg (by decide)], b1, c1⟩
  | true =>
    rw [hb, if_pos rfl] at a1
    rw [if_neg bz_t0, if_pos rfl]
    obtain ⟨g2, e2, a2, c2⟩ := signC (c := 59) h ((c1 1 (by omega) (by omega) (by omega)).trans h1) a1 (nm_le hp)
    rw [e2, Option.bind_some]
    dsimp only
    unfold sgT
    by_cases z : pk tx n (p + (nm tx n p).1) = 59
    · rw [if_neg (by rw [bz_dec]; exact fun w => w z), hT, if_pos z]
      rw [if_pos z] at a2
      exact ⟨g2, rfl, a2, by rw [c2 5 (by omega)]; exact b1, fun i q1 q2 q3 => by rw [c2 i q1]; exact c1 i q1 q2 q3⟩
    · rw [if_pos (by rw [bz_dec]; exact z), hF, if_neg z]
      rw [if_neg z] at a2
      exact ⟨g2, rfl, a2, by rw [c2 5 (by omega)]; exact b1, fun i q1 q2 q3 => by rw [c2 i q1]; exact c1 i q1 q2 q3⟩
theorem readActC {M : MM} {n p : Nat} {tx g : Nat → Int32} (h : TXC M n tx) (h1 : g 1 = nI n) (h2 : g 2 = nI p) (hp : p ≤ n) : ∃ g', f_X5_readAct 655 (msf M 655 g) = some ((actS tx n p).1, msf M 655 g') ∧ g' 1 = nI n ∧ g' 2 = nI (actS tx n p).2 ∧ g' 3 = pk tx n p ∧ ((pk tx n p = 103 ∨ pk tx n p = 115 ∨ pk tx n p = 99) → g' 5 = (nm tx n (p + 1)).2) ∧ ((actS tx n p).1 = true → pk tx n p = 99 → g' 6 = (nm tx n (p + 1 + (nm tx n (p + 1)).1 + 1)).2) := by
  unfold f_X5_readAct f_X5_readAct_143
  rw [hereC h h1 h2 hp, Option.bind_some]
  simp only [ms_msf, msf_at]
  rw [upd_eq, upd_ne (show 2 ≠ 3 by omega), h2, nI_1]
  generalize hG : upd (upd g 3 (pk tx n p)) 2 (nI (p + 1)) = G
  have G1 : G 1 = nI n := by rw [← hG, upd_ne (by omega), upd_ne (by omega)]; exact h1
  have G2 : G 2 = nI (p + 1) := by rw [← hG, upd_eq]
  have G3 : G 3 = pk tx n p := by rw [← hG, upd_ne (by omega), upd_eq]
  unfold actS
  by_cases z1 : pk tx n p = 99
  · rw [if_pos z1, if_pos z1]
    have hlt := pkt_lt z1 (by decide)
    obtain ⟨g1, e1, a1, b1, c1⟩ := firstC (lo := 0) (hi := 5) h G1 G2 hlt
    rw [e1, Option.bind_some]
    dsimp only
    unfold setS f_X5_readAct_211 f_X5_readAct_212
    have g11 := (c1 1 (by omega) (by omega) (by omega)).trans G1
    have g13 := (c1 3 (by omega) (by omega) (by omega)).trans G3
    cases hb : numB (nm tx n (p + 1)) 0 5 with
    | false =>
      rw [hb] at a1
      rw [if_pos bz_f0, if_neg (by decide)]
      exact ⟨g1, rfl, g11, by rw [a1, if_neg (by decide)], g13, fun _ => b1, fun y => absurd (show false = true from y) (by decide)⟩
    | true =>
      rw [hb, if_pos rfl] at a1
      rw [if_neg bz_t0, if_pos rfl]
      have hn := nm_le (tx := tx) (n := n) hlt
      obtain ⟨g2, e2, a2, c2⟩ := signC (c := 61) h g11 a1 hn
      rw [e2, Option.bind_some]
      dsimp only
      have g21 := (c2 1 (by omega)).trans g11
      have g23 := (c2 3 (by omega)).trans g13
      have g25 := (c2 5 (by omega)).trans b1
      by_cases z : pk tx n (p + 1 + (nm tx n (p + 1)).1) = 61
      · rw [if_neg (by rw [bz_dec]; exact fun w => w z), if_pos z]
        rw [if_pos z] at a2
        have hlt2 := pkt_lt z (by decide)
        obtain ⟨g3, e3, a3, b3, c3⟩ := secondC (lo := 0) (hi := 100) h g21 a2 hlt2
        rw [e3, Option.bind_some]
        dsimp only
        have g31 := (c3 1 (by omega) (by omega) (by omega)).trans g21
        have g33 := (c3 3 (by omega) (by omega) (by omega)).trans g23
        have g35 := (c3 5 (by omega) (by omega) (by omega)).trans g25
        unfold sglS
        cases hb2 : numB (nm tx n (p + 1 + (nm tx n (p + 1)).1 + 1)) 0 100 with
        | false =>
          rw [hb2] at a3
          rw [if_pos bz_f0, if_neg (by decide)]
          exact ⟨g3, rfl, g31, by rw [a3, if_neg (by decide)], g33, fun _ => g35, fun y => absurd (show false = true from y) (by decide)⟩
        | true =>
          rw [hb2, if_pos rfl] at a3
          rw [if_neg bz_t0, if_pos rfl]
          obtain ⟨g4, e4, a4, c4⟩ := signC (c := 59) h g31 a3 (nm_le hlt2)
          rw [e4, Option.bind_some]
          dsimp only
          have g41 := (c4 1 (by omega)).trans g31
          have g43 := (c4 3 (by omega)).trans g33
          have g45 := (c4 5 (by omega)).trans g35
          have g46 := (c4 6 (by omega)).trans b3
          unfold sgT
          by_cases w : pk tx n (p + 1 + (nm tx n (p + 1)).1 + 1 + (nm tx n (p + 1 + (nm tx n (p + 1)).1 + 1)).1) = 59
          · rw [if_neg (by rw [bz_dec]; exact fun u => u w), if_pos w]
            rw [if_pos w] at a4
            exact ⟨g4, rfl, g41, a4, g43, fun _ => g45, fun _ _ => g46⟩
          · rw [if_pos (by rw [bz_dec]; exact w), if_neg w]
            rw [if_neg w] at a4
            exact ⟨g4, rfl, g41, a4, g43, fun _ => g45, fun y => absurd (show false = true from y) (by decide)⟩
      · rw [if_pos (by rw [bz_dec]; exact z), if_neg z]
        rw [if_neg z] at a2
        exact ⟨g2, rfl, g21, a2, g23, fun _ => g25, fun y => absurd (show false = true from y) (by decide)⟩
  · rw [if_neg z1, if_neg z1]
    by_cases z2 : pk tx n p = 103
    · rw [if_pos z2, if_pos z2]
      obtain ⟨g', e, a, b, c⟩ := sglC (lo := 1) (hi := 999) h G1 G2 (pkt_lt z2 (by decide)) (F := f_X5_readAct_106 655) (T := f_X5_readAct_107 655 true) (fun _ => rfl) (fun _ => rfl)
      exact ⟨g', e, (c 1 (by omega) (by omega) (by omega)).trans G1, a, (c 3 (by omega) (by omega) (by omega)).trans G3, fun _ => b, fun _ y => absurd y z1⟩
    · rw [if_neg z2, if_neg z2]
      have fin : ∀ c : Int32, ¬ (-6 : Int32) = c → pk tx n p = c → c ≠ 115 → ∃ g', (Option.bind (f_X5_readSign 655 59 (msf M 655 G)) fun v1 => some (v1.1, v1.2)) = some ((sgT tx n (p + 1) 59).1, msf M 655 g') ∧ g' 1 = nI n ∧ g' 2 = nI (sgT tx n (p + 1) 59).2 ∧ g' 3 = pk tx n p ∧ ((pk tx n p = 103 ∨ pk tx n p = 115 ∨ pk tx n p = 99) → g' 5 = (nm tx n (p + 1)).2) ∧ ((sgT tx n (p + 1) 59).1 = true → pk tx n p = 99 → g' 6 = (nm tx n (p + 1 + (nm tx n (p + 1)).1 + 1)).2) := fun c hc e hne => by
        obtain ⟨g2, e2, a2, c2⟩ := signC (c := 59) h G1 G2 (pkt_lt e hc)
        rw [e2, Option.bind_some]
        unfold sgT
        have hq : ¬ (pk tx n p = 103 ∨ pk tx n p = 115 ∨ pk tx n p = 99) := fun y => y.elim z2 (fun y => y.elim (fun y => hne (e.symm.trans y)) z1)
        by_cases w : pk tx n (p + 1) = 59
        · rw [if_pos w] at a2
          rw [if_pos w, decide_eq_true w]
          exact ⟨g2, rfl, (c2 1 (by omega)).trans G1, a2, (c2 3 (by omega)).trans G3, fun y => absurd y hq, fun _ y => absurd y z1⟩
        · rw [if_neg w] at a2
          rw [if_neg w, decide_eq_false w]
          exact ⟨g2, rfl, (c2 1 (by omega)).trans G1, a2, (c2 3 (by omega)).trans G3, fun y => absurd y hq, fun _ y => absurd y z1⟩
      by_cases z4 : pk tx n p = 104
      · rw [if_pos z4, if_neg (by rw [z4]; decide), if_pos z4]
        exact fin _ (by decide) z4 (by decide)
      · rw [if_neg z4]
        by_cases z5 : pk tx n p = 114
        · rw [if_pos z5, if_neg (by rw [z5]; decide), if_neg z4, if_pos z5]
          exact fin _ (by decide) z5 (by decide)
        · rw [if_neg z5]
          by_cases z3 : pk tx n p = 115
          · rw [if_pos z3, if_pos z3]
            obtain ⟨g', e, a, b, c⟩ := sglC (lo := 1) (hi := 50) h G1 G2 (pkt_lt z3 (by decide)) (F := f_X5_readAct_141 655) (T := f_X5_readAct_142 655 true) (fun _ => rfl) (fun _ => rfl)
            exact ⟨g', e, (c 1 (by omega) (by omega) (by omega)).trans G1, a, (c 3 (by omega) (by omega) (by omega)).trans G3, fun _ => b, fun _ y => absurd y z1⟩
          · rw [if_neg z3, if_neg z3, if_neg z4, if_neg z5]
            by_cases z6 : pk tx n p = 120
            · rw [if_pos z6, if_pos z6]
              exact fin _ (by decide) z6 (by decide)
            · rw [if_neg z6, if_neg z6]
              exact ⟨upd g 3 (pk tx n p), rfl, (upd_ne (by omega)).trans h1, (upd_ne (by omega)).trans h2, upd_eq _ _ _, fun y => y.elim (fun y => absurd y z2) (fun y => y.elim (fun y => absurd y z3) (fun y => absurd y z1)), fun _ y => absurd y z1⟩
