/-! THE ABSTRACT MEMORY: every object and array of the class and of the reference has a number (its place); M gives the ints that stand in it; what refers to what never changes. -/
abbrev MM : Type := Nat → Nat → Int32
def bz (b : Bool) : Int32 := if b = true then 1 else 0
def nz (x : Int32) : Bool := !(x == 0)
def msf (M : MM) (a : Nat) (f : Nat → Int32) : MM := fun b => if b = a then f else M b
def ms (M : MM) (a i : Nat) (v : Int32) : MM := msf M a (upd (M a) i v)
/-- kind and length of the places of a State: 0 Channel, 1 History, 2 Lines, 3 Profile, 4 State, 5 Text, 6 ShakerSweep, 7 the reference; 8 ints, 9 booleans, 10 channels, 11 states -/
def stK (o : Nat) : Nat × Nat := match o with
  | 0 => (4, 0)
  | 1 => (2, 0)
  | 2 => (8, 100)
  | 3 => (3, 0)
  | 4 => (8, 8)
  | 5 => (8, 8)
  | 6 => (10, 6)
  | 7 => (8, 6)
  | 8 => (8, 100)
  | 9 => (8, 100)
  | 10 => (8, 100)
  | o => match (o - 11) % 9 with
    | 0 => (0, 0)
    | 1 => (8, 3)
    | 2 => (8, 3)
    | 3 => (8, 3)
    | 4 => (8, 4)
    | 5 => (8, 4)
    | 6 => (8, 4)
    | _ => (8, 100)
def kd (k : Nat) : Nat × Nat := if k < 650 then stK (k % 65) else match k - 650 with
  | 0 => (6, 0)
  | 1 => (1, 0)
  | 2 => (11, 6)
  | 3 => (11, 2)
  | 4 => (9, 2)
  | 5 => (5, 0)
  | 6 => (8, 80)
  | 7 => (7, 0)
  | 8 => (8, 16272)
  | 9 => (9, 2)
  | 10 => (8, 80)
  | 11 => (8, 6)
  | _ => (12, 0)
def fsC (ad : Nat → Nat) (k : Nat) (r : Nat → Int32) : List Value := [.int (bz (nz (r 0))), .int (r 1), .int (r 2), .ref (ad (k + 1)), .ref (ad (k + 2)), .ref (ad (k + 3)), .ref (ad (k + 4)), .ref (ad (k + 5)), .ref (ad (k + 6)), .int (r 9), .ref (ad (k + 7)), .ref (ad (k + 8)), .int (r 12), .int (r 13), .int (r 14), .int (r 15), .int (r 16), .int (r 17)]
def fsH (ad : Nat → Nat) (k : Nat) (r : Nat → Int32) : List Value := [.ref (ad (k + 1)), .int (r 1), .int (r 2)]
def fsL (ad : Nat → Nat) (k : Nat) (r : Nat → Int32) : List Value := [.ref (ad (k + 1)), .int (r 1)]
def fsP (ad : Nat → Nat) (k : Nat) (r : Nat → Int32) : List Value := [.ref (ad (k + 1)), .ref (ad (k + 2)), .int (r 2)]
def fsS (ad : Nat → Nat) (k : Nat) (r : Nat → Int32) : List Value := [.ref (ad (k + 1)), .ref (ad (k + 3)), .ref (ad (k + 6)), .int (r 3), .ref (ad (k + 7)), .ref (ad (k + 8)), .ref (ad (k + 9)), .ref (ad (k + 10)), .int (r 8), .int (r 9), .int (r 10), .int (bz (nz (r 11))), .int (r 12), .int (r 13), .int (r 14), .int (r 15), .int (r 16)]
def fsT (ad : Nat → Nat) (k : Nat) (r : Nat → Int32) : List Value := [.ref (ad (k + 1)), .int (r 1), .int (r 2), .int (r 3), .int (r 4), .int (r 5), .int (r 6)]
def fsX (ad : Nat → Nat) : List Value := [.ref (ad 0), .ref (ad 65), .ref (ad 651), .ref (ad 653), .ref (ad 654), .ref (ad 655)]
def fsM (ad : Nat → Nat) (k : Nat) (r : Nat → Int32) : List Value := [.ref (ad (k + 1)), .int (r 1), .ref (ad (k + 2)), .ref (ad (k + 3)), .int (r 4), .ref (ad (k + 4)), .int (r 6), .int (r 7)]
def bzr (r : Nat → Int32) : Nat → Int32 := fun j => bz (nz (r j))
def chA (ad : Nat → Nat) (k : Nat) : Nat → Option Nat := fun j => some (ad (k + 5 + 9 * j))
def stA (ad : Nat → Nat) (k : Nat) : Nat → Option Nat := fun j => some (ad (if k = 652 then 260 + 65 * j else 130 + 65 * j))
def cellF (dA : Nat → ClassId) (ad : Nat → Nat) (k : Nat) (r : Nat → Int32) : va_E := match (kd k).1 with
  | 0 => .inr (0, fsC ad k r)
  | 1 => .inr (1, fsH ad k r)
  | 2 => .inr (2, fsL ad k r)
  | 3 => .inr (3, fsP ad k r)
  | 4 => .inr (4, fsS ad k r)
  | 5 => .inr (5, fsT ad k r)
  | 6 => .inr (6, fsX ad)
  | 7 => .inr (7, fsM ad k r)
  | 8 => .inl (dA 0, (kd k).2, .inl r)
  | 9 => .inl (dA 1, (kd k).2, .inl (bzr r))
  | 10 => .inl (dA 2, (kd k).2, .inr (.inr (.inr (.inr (chA ad k)))))
  | _ => .inl (dA 3, (kd k).2, .inr (.inr (.inr (.inr (stA ad k)))))
def wl (dA : Nat → ClassId) (ad : Nat → Nat) (lo n : Nat) (M : MM) : va_W := (List.range n).map (fun i => (ad (lo + i), cellF dA ad (lo + i) (M (lo + i))))
def tysA (dA : Nat → ClassId) : List (ClassId × FieldType) := [(dA 0, .int), (dA 1, .boolean), (dA 2, .object "ShakerSweep$Channel"), (dA 3, .object "ShakerSweep$State")]
/-- what a reference is known to be -/
def tO (lo n c w a : Nat) : Prop := lo ≤ a ∧ a + w ≤ lo + n ∧ (kd a).1 = c
abbrev tCh (lo n a : Nat) : Prop := tO lo n 0 9 a
abbrev tLn (lo n a : Nat) : Prop := tO lo n 2 2 a
abbrev tPf (lo n a : Nat) : Prop := tO lo n 3 3 a
abbrev tSt (lo n a : Nat) : Prop := tO lo n 4 65 a
abbrev tTx (lo n a : Nat) : Prop := tO lo n 5 2 a
abbrev tHi (lo n a : Nat) : Prop := tO lo n 1 2 a ∧ a = 651 ∧ lo = 0
abbrev tSS (lo n a : Nat) : Prop := tO lo n 6 7 a ∧ a = 650 ∧ lo = 0
abbrev tMo (lo n a : Nat) : Prop := tO lo n 7 5 a
def tIA (lo n L a : Nat) : Prop := lo ≤ a ∧ a + 1 ≤ lo + n ∧ kd a = (8, L)
def tZA (lo n L a : Nat) : Prop := lo ≤ a ∧ a + 1 ≤ lo + n ∧ kd a = (9, L)
def tCA (lo n a : Nat) : Prop := lo ≤ a ∧ a + 59 ≤ lo + n ∧ kd a = (10, 6)
def tSA (lo n L a : Nat) : Prop := lo ≤ a ∧ a + 1 ≤ lo + n ∧ kd a = (11, L) ∧ lo = 0 ∧ 650 ≤ n
theorem kd_st {a : Nat} (h : (kd a).1 = 4) : kd (a + 1) = (2, 0) ∧ kd (a + 3) = (3, 0) ∧ kd (a + 6) = (10, 6) ∧ kd (a + 7) = (8, 6) ∧ kd (a + 8) = (8, 100) ∧ kd (a + 9) = (8, 100) ∧ kd (a + 10) = (8, 100) := by
  have key : ∀ a, a < 700 → (kd a).1 = 4 → kd (a + 1) = (2, 0) ∧ kd (a + 3) = (3, 0) ∧ kd (a + 6) = (10, 6) ∧ kd (a + 7) = (8, 6) ∧ kd (a + 8) = (8, 100) ∧ kd (a + 9) = (8, 100) ∧ kd (a + 10) = (8, 100) := by decide +kernel
  rcases Nat.lt_or_ge a 700 with q | q
  · exact key a q h
  · exfalso
    obtain ⟨d, rfl⟩ := Nat.exists_eq_add_of_le q
    simp only [kd, show ¬ (700 + d < 650) by omega, if_false, show 700 + d - 650 = d + 50 by omega] at h
    revert h; simp
theorem kd_big (d : Nat) : kd (700 + d) = (12, 0) := by
  simp only [kd, show ¬ (700 + d < 650) by omega, if_false, show 700 + d - 650 = d + 50 by omega]
theorem kd_lt {a c : Nat} (h : (kd a).1 = c) (hc : c ≠ 12) : a < 700 := by
  rcases Nat.lt_or_ge a 700 with q | q
  · exact q
  · obtain ⟨d, rfl⟩ := Nat.exists_eq_add_of_le q
    rw [kd_big] at h
    exact absurd h.symm hc
theorem kd_all {P : Nat → Prop} {c : Nat} (hc : c ≠ 12) (key : ∀ a, a < 700 → (kd a).1 = c → P a) : ∀ a, (kd a).1 = c → P a := fun a h => key a (kd_lt h hc) h
theorem kd_0j : ∀ a, (kd a).1 = 0 → ∀ j, j < 9 → kd (a + j) = stK (11 + j) := kd_all (by decide) (by decide +kernel)
theorem kd_0 (a : Nat) (h : (kd a).1 = 0) : kd (a + 1) = (8, 3) ∧ kd (a + 2) = (8, 3) ∧ kd (a + 3) = (8, 3) ∧ kd (a + 4) = (8, 4) ∧ kd (a + 5) = (8, 4) ∧ kd (a + 6) = (8, 4) ∧ kd (a + 7) = (8, 100) ∧ kd (a + 8) = (8, 100) := ⟨kd_0j a h 1 (by omega), kd_0j a h 2 (by omega), kd_0j a h 3 (by omega), kd_0j a h 4 (by omega), kd_0j a h 5 (by omega), kd_0j a h 6 (by omega), kd_0j a h 7 (by omega), kd_0j a h 8 (by omega)⟩
theorem kd_2 : ∀ a, (kd a).1 = 2 → kd (a + 1) = (8, 100) := kd_all (by decide) (by decide +kernel)
theorem kd_3 : ∀ a, (kd a).1 = 3 → kd (a + 1) = (8, 8) ∧ kd (a + 2) = (8, 8) := kd_all (by decide) (by decide +kernel)
theorem kd_5 : ∀ a, (kd a).1 = 5 → kd (a + 1) = (8, 80) := kd_all (by decide) (by decide +kernel)
theorem kd_7 : ∀ a, (kd a).1 = 7 → kd (a + 1) = (8, 16272) ∧ kd (a + 2) = (9, 2) ∧ kd (a + 3) = (8, 80) ∧ kd (a + 4) = (8, 6) := kd_all (by decide) (by decide +kernel)
theorem kd_10 : ∀ a, (kd a).1 = 10 → ∀ j, j < 6 → kd (a + 5 + 9 * j) = (0, 0) := kd_all (by decide) (by decide +kernel)
theorem kd_11 : ∀ a, (kd a).1 = 11 → (a = 652 ∨ a = 653) := kd_all (by decide) (by decide +kernel)
theorem kd_sts : ∀ j, j < 10 → kd (65 * j) = (4, 0) := by decide +kernel
-- references out of references
theorem rC1 {lo n a : Nat} (h : tCh lo n a) : tIA lo n 3 (a + 1) := ⟨by have := h.1; omega, by have := h.2.1; omega, (kd_0 a h.2.2).1⟩
theorem rC2 {lo n a : Nat} (h : tCh lo n a) : tIA lo n 3 (a + 2) := ⟨by have := h.1; omega, by have := h.2.1; omega, (kd_0 a h.2.2).2.1⟩
theorem rC3 {lo n a : Nat} (h : tCh lo n a) : tIA lo n 3 (a + 3) := ⟨by have := h.1; omega, by have := h.2.1; omega, (kd_0 a h.2.2).2.2.1⟩
theorem rC4 {lo n a : Nat} (h : tCh lo n a) : tIA lo n 4 (a + 4) := ⟨by have := h.1; omega, by have := h.2.1; omega, (kd_0 a h.2.2).2.2.2.1⟩
theorem rC5 {lo n a : Nat} (h : tCh lo n a) : tIA lo n 4 (a + 5) := ⟨by have := h.1; omega, by have := h.2.1; omega, (kd_0 a h.2.2).2.2.2.2.1⟩
theorem rC6 {lo n a : Nat} (h : tCh lo n a) : tIA lo n 4 (a + 6) := ⟨by have := h.1; omega, by have := h.2.1; omega, (kd_0 a h.2.2).2.2.2.2.2.1⟩
theorem rC7 {lo n a : Nat} (h : tCh lo n a) : tIA lo n 100 (a + 7) := ⟨by have := h.1; omega, by have := h.2.1; omega, (kd_0 a h.2.2).2.2.2.2.2.2.1⟩
theorem rC8 {lo n a : Nat} (h : tCh lo n a) : tIA lo n 100 (a + 8) := ⟨by have := h.1; omega, by have := h.2.1; omega, (kd_0 a h.2.2).2.2.2.2.2.2.2⟩
theorem rL1 {lo n a : Nat} (h : tLn lo n a) : tIA lo n 100 (a + 1) := ⟨by have := h.1; omega, by have := h.2.1; omega, kd_2 a h.2.2⟩
theorem rP1 {lo n a : Nat} (h : tPf lo n a) : tIA lo n 8 (a + 1) := ⟨by have := h.1; omega, by have := h.2.1; omega, (kd_3 a h.2.2).1⟩
theorem rP2 {lo n a : Nat} (h : tPf lo n a) : tIA lo n 8 (a + 2) := ⟨by have := h.1; omega, by have := h.2.1; omega, (kd_3 a h.2.2).2⟩
theorem rT1 {lo n a : Nat} (h : tTx lo n a) : tIA lo n 80 (a + 1) := ⟨by have := h.1; omega, by have := h.2.1; omega, kd_5 a h.2.2⟩
theorem rS1 {lo n a : Nat} (h : tSt lo n a) : tLn lo n (a + 1) := ⟨by have := h.1; omega, by have := h.2.1; omega, by rw [(kd_st h.2.2).1]⟩
theorem rS3 {lo n a : Nat} (h : tSt lo n a) : tPf lo n (a + 3) := ⟨by have := h.1; omega, by have := h.2.1; omega, by rw [(kd_st h.2.2).2.1]⟩
theorem rS6 {lo n a : Nat} (h : tSt lo n a) : tCA lo n (a + 6) := ⟨by have := h.1; omega, by have := h.2.1; omega, (kd_st h.2.2).2.2.1⟩
theorem rS7 {lo n a : Nat} (h : tSt lo n a) : tIA lo n 6 (a + 7) := ⟨by have := h.1; omega, by have := h.2.1; omega, (kd_st h.2.2).2.2.2.1⟩
theorem rS8 {lo n a : Nat} (h : tSt lo n a) : tIA lo n 100 (a + 8) := ⟨by have := h.1; omega, by have := h.2.1; omega, (kd_st h.2.2).2.2.2.2.1⟩
theorem rS9 {lo n a : Nat} (h : tSt lo n a) : tIA lo n 100 (a + 9) := ⟨by have := h.1; omega, by have := h.2.1; omega, (kd_st h.2.2).2.2.2.2.2.1⟩
theorem rS10 {lo n a : Nat} (h : tSt lo n a) : tIA lo n 100 (a + 10) := ⟨by have := h.1; omega, by have := h.2.1; omega, (kd_st h.2.2).2.2.2.2.2.2⟩
theorem rCA {lo n a j : Nat} (h : tCA lo n a) (hj : j < 6) : tCh lo n (a + 5 + 9 * j) := ⟨by have := h.1; omega, by have := h.2.1; omega, by rw [kd_10 a (by rw [h.2.2]) j hj]⟩
theorem rM1 {lo n a : Nat} (h : tMo lo n a) : tIA lo n 16272 (a + 1) := ⟨by have := h.1; omega, by have := h.2.1; omega, (kd_7 a h.2.2).1⟩
theorem rM2 {lo n a : Nat} (h : tMo lo n a) : tZA lo n 2 (a + 2) := ⟨by have := h.1; omega, by have := h.2.1; omega, (kd_7 a h.2.2).2.1⟩
theorem rM3 {lo n a : Nat} (h : tMo lo n a) : tIA lo n 80 (a + 3) := ⟨by have := h.1; omega, by have := h.2.1; omega, (kd_7 a h.2.2).2.2.1⟩
theorem rM4 {lo n a : Nat} (h : tMo lo n a) : tIA lo n 6 (a + 4) := ⟨by have := h.1; omega, by have := h.2.1; omega, (kd_7 a h.2.2).2.2.2⟩
theorem rSA {lo n a j L : Nat} (h : tSA lo n L a) (hj : j < L) : tSt lo n (if a = 652 then 260 + 65 * j else 130 + 65 * j) := by
  obtain ⟨h1, h2, h3, h4, h5⟩ := h
  rcases kd_11 a (by rw [h3]) with rfl | rfl
  · have hL : L = 6 := by have := (Prod.mk.inj (h3.symm.trans (by decide +kernel : kd 652 = (11, 6)))).2; omega
    refine ⟨by omega, by simp; omega, ?_⟩
    rw [if_pos rfl, show 260 + 65 * j = 65 * (4 + j) by omega, kd_sts (4 + j) (by omega)]
  · have hL : L = 2 := by have := (Prod.mk.inj (h3.symm.trans (by decide +kernel : kd 653 = (11, 2)))).2; omega
    refine ⟨by omega, by simp; omega, ?_⟩
    rw [if_neg (by decide), show 130 + 65 * j = 65 * (2 + j) by omega, kd_sts (2 + j) (by omega)]
theorem rX0 {lo n a : Nat} (h : tSS lo n a) : tSt lo n 0 := ⟨by have := h.2.2; omega, by have h1 := h.1.2.1; have h2 := h.2.1; omega, by decide +kernel⟩
theorem rX1 {lo n a : Nat} (h : tSS lo n a) : tSt lo n 65 := ⟨by have := h.2.2; omega, by have h1 := h.1.2.1; have h2 := h.2.1; omega, by decide +kernel⟩
theorem rX2 {lo n a : Nat} (h : tSS lo n a) : tHi lo n 651 := ⟨⟨by have := h.2.2; omega, by have h1 := h.1.2.1; have h2 := h.2.1; omega, by decide +kernel⟩, rfl, h.2.2⟩
theorem rX3 {lo n a : Nat} (h : tSS lo n a) : tSA lo n 2 653 := ⟨by have := h.2.2; omega, by have h1 := h.1.2.1; have h2 := h.2.1; omega, by decide +kernel, h.2.2, by have h1 := h.1.2.1; have h2 := h.2.1; have h3 := h.2.2; omega⟩
theorem rX4 {lo n a : Nat} (h : tSS lo n a) : tZA lo n 2 654 := ⟨by have := h.2.2; omega, by have h1 := h.1.2.1; have h2 := h.2.1; omega, by decide +kernel⟩
theorem rX5 {lo n a : Nat} (h : tSS lo n a) : tTx lo n 655 := ⟨by have := h.2.2; omega, by have h1 := h.1.2.1; have h2 := h.2.1; omega, by decide +kernel⟩
theorem rH1 {lo n a : Nat} (h : tHi lo n a) : tSA lo n 6 (a + 1) := by
  obtain ⟨h1, h2, h3⟩ := h
  subst h2
  exact ⟨by omega, by have := h1.2.1; omega, by decide +kernel, h3, by have := h1.2.1; omega⟩
-- cells
theorem cC {lo n a : Nat} (h : tCh lo n a) (dA : Nat → ClassId) (ad : Nat → Nat) (r : Nat → Int32) : cellF dA ad a r = .inr (0, fsC ad a r) := by unfold cellF; rw [h.2.2]; rfl
theorem cH {lo n a : Nat} (h : tHi lo n a) (dA : Nat → ClassId) (ad : Nat → Nat) (r : Nat → Int32) : cellF dA ad a r = .inr (1, fsH ad a r) := by unfold cellF; rw [h.1.2.2]; rfl
theorem cL {lo n a : Nat} (h : tLn lo n a) (dA : Nat → ClassId) (ad : Nat → Nat) (r : Nat → Int32) : cellF dA ad a r = .inr (2, fsL ad a r) := by unfold cellF; rw [h.2.2]; rfl
theorem cP {lo n a : Nat} (h : tPf lo n a) (dA : Nat → ClassId) (ad : Nat → Nat) (r : Nat → Int32) : cellF dA ad a r = .inr (3, fsP ad a r) := by unfold cellF; rw [h.2.2]; rfl
theorem cS {lo n a : Nat} (h : tSt lo n a) (dA : Nat → ClassId) (ad : Nat → Nat) (r : Nat → Int32) : cellF dA ad a r = .inr (4, fsS ad a r) := by unfold cellF; rw [h.2.2]; rfl
theorem cT {lo n a : Nat} (h : tTx lo n a) (dA : Nat → ClassId) (ad : Nat → Nat) (r : Nat → Int32) : cellF dA ad a r = .inr (5, fsT ad a r) := by unfold cellF; rw [h.2.2]; rfl
theorem cX {lo n a : Nat} (h : tSS lo n a) (dA : Nat → ClassId) (ad : Nat → Nat) (r : Nat → Int32) : cellF dA ad a r = .inr (6, fsX ad) := by unfold cellF; rw [h.1.2.2]; rfl
theorem cM {lo n a : Nat} (h : tMo lo n a) (dA : Nat → ClassId) (ad : Nat → Nat) (r : Nat → Int32) : cellF dA ad a r = .inr (7, fsM ad a r) := by unfold cellF; rw [h.2.2]; rfl
theorem cI {lo n L a : Nat} (h : tIA lo n L a) (dA : Nat → ClassId) (ad : Nat → Nat) (r : Nat → Int32) : cellF dA ad a r = .inl (dA 0, L, .inl r) := by unfold cellF; rw [h.2.2]; rfl
theorem cZ {lo n L a : Nat} (h : tZA lo n L a) (dA : Nat → ClassId) (ad : Nat → Nat) (r : Nat → Int32) : cellF dA ad a r = .inl (dA 1, L, .inl (bzr r)) := by unfold cellF; rw [h.2.2]; rfl
theorem cCA {lo n a : Nat} (h : tCA lo n a) (dA : Nat → ClassId) (ad : Nat → Nat) (r : Nat → Int32) : cellF dA ad a r = .inl (dA 2, 6, .inr (.inr (.inr (.inr (chA ad a))))) := by unfold cellF; rw [h.2.2]; rfl
theorem cSA {lo n L a : Nat} (h : tSA lo n L a) (dA : Nat → ClassId) (ad : Nat → Nat) (r : Nat → Int32) : cellF dA ad a r = .inl (dA 3, L, .inr (.inr (.inr (.inr (stA ad a))))) := by unfold cellF; rw [h.2.2.1]; rfl
theorem wl_at {dA : Nat → ClassId} {ad : Nat → Nat} {lo n a w : Nat} {M : MM} (h1 : lo ≤ a) (h2 : a + (w + 1) ≤ lo + n) {E : va_E} (h : cellF dA ad a (M a) = E) : (wl dA ad lo n M)[a - lo]? = some (ad a, E) := by
  have h3 : a - lo < n := by omega
  simp only [wl, List.getElem?_map, List.getElem?_range h3, Option.map_some, show lo + (a - lo) = a by omega, h]
theorem wl_set {dA : Nat → ClassId} {ad : Nat → Nat} {lo n a w : Nat} {M : MM} {f : Nat → Int32} (h1 : lo ≤ a) (h2 : a + (w + 1) ≤ lo + n) {E : va_E} (h : cellF dA ad a f = E) : (wl dA ad lo n M).set (a - lo) (ad a, E) = wl dA ad lo n (msf M a f) := by
  apply List.ext_getElem?
  intro k
  have hl : (wl dA ad lo n M).length = n := by simp [wl]
  by_cases hk : k = a - lo
  · subst hk
    rw [List.getElem?_set_self (by rw [hl]; omega)]
    rw [wl_at (w := w) (M := msf M a f) h1 h2 (E := E) (by rw [← h]; simp [msf])]
  · rw [List.getElem?_set_ne (Ne.symm hk)]
    simp only [wl, List.getElem?_map]
    rcases Nat.lt_or_ge k n with q | q
    · simp only [List.getElem?_range q, Option.map_some]
      have : lo + k ≠ a := by omega
      simp [msf, this]
    · simp [List.getElem?_eq_none, q]
theorem wl_addr {dA : Nat → ClassId} {ad : Nat → Nat} {lo n : Nat} {M M' : MM} {q : Nat} (h : ∃ (k : Nat) (E : va_E), (wl dA ad lo n M)[k]? = some (q, E)) : ∃ (k : Nat) (E : va_E), (wl dA ad lo n M')[k]? = some (q, E) := by
  obtain ⟨k, E, h⟩ := h
  have hk : k < n := by
    have := (List.getElem?_eq_some_iff.mp h).1
    simpa [wl] using this
  refine ⟨k, cellF dA ad (lo + k) (M' (lo + k)), ?_⟩
  simp only [wl, List.getElem?_map, List.getElem?_range hk, Option.map_some] at h ⊢
  injection h with h
  injection h with h3 h4
  rw [h3]
theorem wl_A {dA : Nat → ClassId} {ad : Nat → Nat} {lo n sz : Nat} (M M' : MM) : va_A (wl dA ad lo n M) sz = va_A (wl dA ad lo n M') sz := by
  funext q
  apply propext
  exact ⟨fun h => h.elim (fun h => Or.inl (wl_addr h)) Or.inr, fun h => h.elim (fun h => Or.inl (wl_addr h)) Or.inr⟩
theorem wl_D {dA : Nat → ClassId} {ad : Nat → Nat} {lo n : Nat} {A : Nat → Prop} {M : MM} (h : va_D A (wl dA ad lo n M)) (M' : MM) : va_D A (wl dA ad lo n M') := by
  have key : ∀ (i : Nat) (p : Nat × va_E), (wl dA ad lo n M')[i]? = some p → ∃ E, (wl dA ad lo n M)[i]? = some (p.1, E) := by
    intro i p hi
    have hk : i < n := by
      have := (List.getElem?_eq_some_iff.mp hi).1
      simpa [wl] using this
    refine ⟨cellF dA ad (lo + i) (M (lo + i)), ?_⟩
    simp only [wl, List.getElem?_map, List.getElem?_range hk, Option.map_some] at hi ⊢
    injection hi with hi
    rw [← hi]
  refine ⟨fun i j p q hi hj e => ?_, fun k q hk => ?_⟩
  · obtain ⟨E1, h1⟩ := key i p hi
    obtain ⟨E2, h2⟩ := key j q hj
    exact h.1 i j _ _ h1 h2 e
  · obtain ⟨E1, h1⟩ := key k q hk
    exact h.2 k (q.1, E1) h1
