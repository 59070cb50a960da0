/-! PURE, the class alone: by program out of the same part of whole -/
/-! PURE: bounded arithmetic; the gain of a channel -/
theorem bm64 {z : Int} (h1 : -4611686018427387904 ≤ z) (h2 : z ≤ 4611686018427387904) : z.bmod (2 ^ 64) = z := by
  apply Int.bmod_eq_of_le_mul_two <;> omega
theorem bm32 {z : Int} (h1 : -2147483648 ≤ z) (h2 : z < 2147483648) : z.bmod (2 ^ 32) = z := by
  apply Int.bmod_eq_of_le_mul_two <;> omega
theorem add64 {a b : Int64} (h1 : -4611686018427387904 ≤ a.toInt + b.toInt) (h2 : a.toInt + b.toInt ≤ 4611686018427387904) : (a + b).toInt = a.toInt + b.toInt := by rw [Int64.toInt_add, bm64 h1 h2]
theorem sub64 {a b : Int64} (h1 : -4611686018427387904 ≤ a.toInt - b.toInt) (h2 : a.toInt - b.toInt ≤ 4611686018427387904) : (a - b).toInt = a.toInt - b.toInt := by rw [Int64.toInt_sub, bm64 h1 h2]
theorem mul64 {a b : Int64} (h1 : -4611686018427387904 ≤ a.toInt * b.toInt) (h2 : a.toInt * b.toInt ≤ 4611686018427387904) : (a * b).toInt = a.toInt * b.toInt := by rw [Int64.toInt_mul, bm64 h1 h2]
theorem div64 {a b : Int64} (ha : 0 ≤ a.toInt) (hb : 0 < b.toInt) : (a / b).toInt = a.toInt / b.toInt := by
  rw [Int64.toInt_div_of_ne_right _ _ (fun e => by rw [e] at hb; exact absurd hb (by decide)), Int.tdiv_eq_ediv_of_nonneg ha]
theorem add32 {a b : Int32} (h1 : -2147483648 ≤ a.toInt + b.toInt) (h2 : a.toInt + b.toInt < 2147483648) : (a + b).toInt = a.toInt + b.toInt := by rw [Int32.toInt_add, bm32 h1 h2]
theorem sub32 {a b : Int32} (h1 : -2147483648 ≤ a.toInt - b.toInt) (h2 : a.toInt - b.toInt < 2147483648) : (a - b).toInt = a.toInt - b.toInt := by rw [Int32.toInt_sub, bm32 h1 h2]
theorem mul32 {a b : Int32} (h1 : -2147483648 ≤ a.toInt * b.toInt) (h2 : a.toInt * b.toInt < 2147483648) : (a * b).toInt = a.toInt * b.toInt := by rw [Int32.toInt_mul, bm32 h1 h2]
theorem div32 {a b : Int32} (ha : 0 ≤ a.toInt) (hb : 0 < b.toInt) : (a / b).toInt = a.toInt / b.toInt := by
  rw [Int32.toInt_div_of_ne_right _ _ (fun e => by rw [e] at hb; exact absurd hb (by decide)), Int.tdiv_eq_ediv_of_nonneg ha]
theorem l2i_toInt {x : Int64} (h1 : -2147483648 ≤ x.toInt) (h2 : x.toInt < 2147483648) : x.toInt32.toInt = x.toInt := by rw [Int64.toInt_toInt32, bm32 h1 h2]
theorem i2l_toInt (x : Int32) : x.toInt64.toInt = x.toInt := Int32.toInt_toInt64 x
theorem l2i_i2l {x : Int64} (h1 : -2147483648 ≤ x.toInt) (h2 : x.toInt < 2147483648) : x.toInt32.toInt64 = x := Int64.toInt_inj.mp (by rw [i2l_toInt, l2i_toInt h1 h2])
/-- between 0 and B -/
def Sm (x : Int32) (B : Nat) : Prop := 0 ≤ x.toInt ∧ x.toInt ≤ B
theorem Sm.nat {x : Int32} {B : Nat} (h : Sm x B) : ∃ j : Nat, x = nI j ∧ j ≤ B ∧ j < 2 ^ 31 := by
  obtain ⟨j, e, q, q2⟩ := nI_ofInt h.1
  exact ⟨j, e, by have := h.2; omega, q2⟩
theorem Sm.of {j B : Nat} (h : j ≤ B) (hB : B < 2 ^ 31) : Sm (nI j) B := by
  unfold Sm; rw [nI_toInt (by omega)]; omega
theorem Sm.mono {x : Int32} {B B' : Nat} (h : Sm x B) (hB : B ≤ B') : Sm x B' := ⟨h.1, by have := h.2; omega⟩
theorem Sm.tol {x : Int32} {B : Nat} (h : Sm x B) : x.toInt64.toInt = x.toInt := i2l_toInt x
theorem lcp_le0 (x y : Int64) : (lcp x y ≤ 0) ↔ x ≤ y := by
  unfold lcp lg_cmp
  rw [Int64.le_iff_toInt_le]
  by_cases h1 : x > y
  · have := Int64.lt_iff_toInt_lt.mp h1
    rw [if_pos h1]
    constructor
    · intro h; exact absurd h (by decide)
    · intro h; omega
  · have h2 : ¬ y.toInt < x.toInt := fun q => h1 (Int64.lt_iff_toInt_lt.mpr q)
    rw [if_neg h1]
    constructor
    · intro _; omega
    · intro _
      by_cases h3 : x = y
      · rw [if_pos h3]; decide
      · rw [if_neg h3]; decide
theorem lcp_lt0 (x y : Int64) : (lcp x y < 0) ↔ x < y := by
  unfold lcp lg_cmp
  rw [Int64.lt_iff_toInt_lt]
  by_cases h1 : x > y
  · have := Int64.lt_iff_toInt_lt.mp h1
    rw [if_pos h1]
    constructor
    · intro h; exact absurd h (by decide)
    · intro h; omega
  · have h2 : ¬ y.toInt < x.toInt := fun q => h1 (Int64.lt_iff_toInt_lt.mpr q)
    rw [if_neg h1]
    by_cases h3 : x = y
    · rw [if_pos h3, h3]
      constructor
      · intro h; exact absurd h (by decide)
      · intro h; omega
    · rw [if_neg h3]
      have : x.toInt ≠ y.toInt := fun q => h3 (Int64.toInt_inj.mp q)
      constructor
      · intro _; omega
      · intro _; decide
theorem lcp_ge0 (x y : Int64) : (0 ≤ lcp x y) ↔ y ≤ x := by
  rw [← nlt_le, lcp_lt0, Int64.not_lt]
theorem lcp_gt0 (x y : Int64) : (0 < lcp x y) ↔ y < x := by
  rw [← nle_lt, lcp_le0, Int64.not_le]
/-- what a mode adds -/
def modD (ce wd f : Int32) : Int64 := wd.toInt64 * wd.toInt64 + (f - ce).toInt64 * (f - ce).toInt64
def modQ (ce wd pk f : Int32) : Int64 := pk.toInt64 * (wd.toInt64 * wd.toInt64) / modD ce wd f
def okM (ce wd pk : Int32) : Prop := Sm ce 2000 ∧ (1 ≤ wd.toInt ∧ wd.toInt ≤ 500) ∧ Sm pk 50000
theorem sq_bd {x : Int} {B : Int} (h1 : -B ≤ x) (h2 : x ≤ B) : 0 ≤ x * x ∧ x * x ≤ B * B := by
  rcases Int.le_total 0 x with h | h
  · exact ⟨Int.mul_nonneg h h, Int.mul_le_mul h2 h2 h (by omega)⟩
  · have e : x * x = (-x) * (-x) := by rw [Int.neg_mul_neg]
    rw [e]
    exact ⟨Int.mul_nonneg (by omega) (by omega), Int.mul_le_mul (by omega) (by omega) (by omega) (by omega)⟩
theorem modD_toInt {ce wd pk f : Int32} (h : okM ce wd pk) (hf : Sm f 2000) : (modD ce wd f).toInt = wd.toInt * wd.toInt + (f.toInt - ce.toInt) * (f.toInt - ce.toInt) ∧ 1 ≤ wd.toInt * wd.toInt ∧ wd.toInt * wd.toInt ≤ 250000 ∧ 0 ≤ (f.toInt - ce.toInt) * (f.toInt - ce.toInt) ∧ (f.toInt - ce.toInt) * (f.toInt - ce.toInt) ≤ 4000000 := by
  obtain ⟨⟨c1, c2⟩, ⟨w1, w2⟩, p⟩ := h
  obtain ⟨f1, f2⟩ := hf
  have hw := sq_bd (x := wd.toInt) (B := 500) (by omega) (by omega)
  have hw1 : 1 * 1 ≤ wd.toInt * wd.toInt := Int.mul_le_mul w1 w1 (by omega) (by omega)
  have ho := sq_bd (x := f.toInt - ce.toInt) (B := 2000) (by omega) (by omega)
  have es : (f - ce).toInt = f.toInt - ce.toInt := sub32 (by omega) (by omega)
  have e1 : (wd.toInt64 * wd.toInt64).toInt = wd.toInt * wd.toInt := by rw [mul64, i2l_toInt] <;> rw [i2l_toInt] <;> omega
  have e2 : ((f - ce).toInt64 * (f - ce).toInt64).toInt = (f.toInt - ce.toInt) * (f.toInt - ce.toInt) := by rw [mul64, i2l_toInt, es] <;> rw [i2l_toInt, es] <;> omega
  refine ⟨?_, by omega, by omega, ho.1, by omega⟩
  unfold modD
  rw [add64, e1, e2] <;> rw [e1, e2] <;> omega
theorem modQ_bd {ce wd pk f : Int32} (h : okM ce wd pk) (hf : Sm f 2000) : 0 ≤ (modQ ce wd pk f).toInt ∧ (modQ ce wd pk f).toInt ≤ pk.toInt := by
  obtain ⟨eD, w1, w2, o1, o2⟩ := modD_toInt h hf
  obtain ⟨hc, hw, ⟨p1, p2⟩⟩ := h
  have e1 : (wd.toInt64 * wd.toInt64).toInt = wd.toInt * wd.toInt := by rw [mul64, i2l_toInt] <;> rw [i2l_toInt] <;> omega
  have hp : pk.toInt * (wd.toInt * wd.toInt) ≤ 50000 * 250000 := Int.mul_le_mul p2 w2 (by omega) (by omega)
  have hp0 : 0 ≤ pk.toInt * (wd.toInt * wd.toInt) := Int.mul_nonneg p1 (by omega)
  have e2 : (pk.toInt64 * (wd.toInt64 * wd.toInt64)).toInt = pk.toInt * (wd.toInt * wd.toInt) := by rw [mul64, i2l_toInt, e1] <;> rw [i2l_toInt, e1] <;> omega
  unfold modQ
  rw [div64 (by rw [e2]; exact hp0) (by rw [eD]; omega), e2, eD]
  constructor
  · exact Int.ediv_nonneg hp0 (by omega)
  · refine Int.ediv_le_of_le_mul (by omega) ?_
    exact Int.mul_le_mul_of_nonneg_left (by omega) p1
theorem modD_pos {ce wd pk f : Int32} (h : okM ce wd pk) (hf : Sm f 2000) : ¬ modD ce wd f ≤ 0 ∧ ¬ modD ce wd f = 0 := by
  obtain ⟨eD, w1, w2, o1, o2⟩ := modD_toInt h hf
  have h0 : (0 : Int64).toInt = 0 := by decide
  constructor
  · rw [Int64.le_iff_toInt_le, eD, h0]; omega
  · intro e; rw [e, h0] at eD; omega
def gainS (ba : Int32) (ce wd pk : Nat → Int32) (f : Int32) : Int32 := ba + (modQ (ce 0) (wd 0) (pk 0) f).toInt32 + (modQ (ce 1) (wd 1) (pk 1) f).toInt32 + (modQ (ce 2) (wd 2) (pk 2) f).toInt32
theorem gainS_bd {ba : Int32} {ce wd pk : Nat → Int32} {f : Int32} (hb : Sm ba 5000) (h : ∀ j, j < 3 → okM (ce j) (wd j) (pk j)) (hf : Sm f 2000) : Sm (gainS ba ce wd pk f) 155000 := by
  have b0 := modQ_bd (h 0 (by omega)) hf
  have b1 := modQ_bd (h 1 (by omega)) hf
  have b2 := modQ_bd (h 2 (by omega)) hf
  have p0 := (h 0 (by omega)).2.2.2
  have p1 := (h 1 (by omega)).2.2.2
  have p2 := (h 2 (by omega)).2.2.2
  obtain ⟨a1, a2⟩ := hb
  unfold gainS Sm
  have e0 := l2i_toInt (x := modQ (ce 0) (wd 0) (pk 0) f) (by omega) (by omega)
  have e1 := l2i_toInt (x := modQ (ce 1) (wd 1) (pk 1) f) (by omega) (by omega)
  have e2 := l2i_toInt (x := modQ (ce 2) (wd 2) (pk 2) f) (by omega) (by omega)
  have s0 := add32 (a := ba) (b := (modQ (ce 0) (wd 0) (pk 0) f).toInt32) (by omega) (by omega)
  have s1 := add32 (a := ba + (modQ (ce 0) (wd 0) (pk 0) f).toInt32) (b := (modQ (ce 1) (wd 1) (pk 1) f).toInt32) (by omega) (by omega)
  have s2 := add32 (a := ba + (modQ (ce 0) (wd 0) (pk 0) f).toInt32 + (modQ (ce 1) (wd 1) (pk 1) f).toInt32) (b := (modQ (ce 2) (wd 2) (pk 2) f).toInt32) (by omega) (by omega)
  omega
theorem gainA_step {a : Nat} {M : MM} {f : Int32} {y : Int64} {j k : Nat} (hj : j < 3) (h : okM (M (a + 1) j) (M (a + 2) j) (M (a + 3) j)) (hf : Sm f 2000) : f_X0_gainAt_9 a M (k + 1) f y (nI j) = f_X0_gainAt_9 a M k f (y + modQ (M (a + 1) j) (M (a + 2) j) (M (a + 3) j) f) (nI (j + 1)) := by
  conv => lhs; unfold f_X0_gainAt_9
  have hp := modD_pos h hf
  rw [if_neg (by rw [show (3 : Int32) = nI 3 from rfl, le_nI (by omega) (by omega)]; omega)]
  simp only [gd_of (inb_nI hj (by omega)), ix_nI (show j ≤ 1000000 by omega), f_X0_gainAt_80, nI_1]
  show (if lcp (modD (M (a + 1) j) (M (a + 2) j) f) 0 ≤ 0 then _ else gd (nzl (modD (M (a + 1) j) (M (a + 2) j) f)) _) = _
  rw [if_neg (by rw [lcp_le0]; exact hp.1), gd_of (nzl_of hp.2)]
  rfl
theorem gainA_ok {a : Nat} {M : MM} {f : Int32} (h : ∀ j, j < 3 → okM (M (a + 1) j) (M (a + 2) j) (M (a + 3) j)) (hf : Sm f 2000) : f_X0_gainAt a f M = some (gainS (M a 1) (M (a + 1)) (M (a + 2)) (M (a + 3)) f) := by
  unfold f_X0_gainAt
  rw [show FU = 4996 + 1 + 1 + 1 + 1 from rfl, show (0 : Int32) = nI 0 from rfl, gainA_step (by omega) (h 0 (by omega)) hf, gainA_step (by omega) (h 1 (by omega)) hf, gainA_step (by omega) (h 2 (by omega)) hf]
  unfold f_X0_gainAt_9
  rw [if_pos (by decide)]
  simp only [Int64.toInt32_add, Int32.toInt32_toInt64, gainS]
def gainR (r : Nat → Int32) (c : Nat) (f : Int32) : Int32 := gainS (r (34 + 29 * c + 1)) (fun j => r (34 + 29 * c + (3 + 3 * j))) (fun j => r (34 + 29 * c + (4 + 3 * j))) (fun j => r (34 + 29 * c + (5 + 3 * j))) f
def okG (r : Nat → Int32) (c : Nat) : Prop := Sm (r (34 + 29 * c + 1)) 5000 ∧ ∀ j, j < 3 → okM (r (34 + 29 * c + (3 + 3 * j))) (r (34 + 29 * c + (4 + 3 * j))) (r (34 + 29 * c + (5 + 3 * j)))
theorem gainC_ok {b c : Nat} {M : MM} {r : Nat → Int32} {f : Int32} (h : Rep M b r) (hc : c < Cn r) (h6 : c < 6) (hg : okG r c) (hf : Sm f 2000) : f_X0_gainAt (b + (11 + 9 * c)) f M = some (gainR r c f) := by
  have q : ∀ j, j < 3 → M (b + (11 + 9 * c) + 1) j = r (34 + 29 * c + (3 + 3 * j)) ∧ M (b + (11 + 9 * c) + 2) j = r (34 + 29 * c + (4 + 3 * j)) ∧ M (b + (11 + 9 * c) + 3) j = r (34 + 29 * c + (5 + 3 * j)) := fun j hj => by
    rw [show b + (11 + 9 * c) + 1 = b + (12 + 9 * c) by omega, show b + (11 + 9 * c) + 2 = b + (13 + 9 * c) by omega, show b + (11 + 9 * c) + 3 = b + (14 + 9 * c) by omega]
    exact h.cm hc h6 hj
  rw [gainA_ok (fun j hj => by rw [(q j hj).1, (q j hj).2.1, (q j hj).2.2]; exact hg.2 j hj) hf]
  unfold gainR gainS
  rw [(h.c hc h6).2.1, (q 0 (by omega)).1, (q 0 (by omega)).2.1, (q 0 (by omega)).2.2, (q 1 (by omega)).1, (q 1 (by omega)).2.1, (q 1 (by omega)).2.2, (q 2 (by omega)).1, (q 2 (by omega)).2.1, (q 2 (by omega)).2.2]
theorem gainR_bd {r : Nat → Int32} {c : Nat} {f : Int32} (h : okG r c) (hf : Sm f 2000) : Sm (gainR r c f) 155000 := gainS_bd h.1 h.2 hf
