/-! PURE, the class alone: by program out of the same part of whole -/
/-! PURE: the text, its bytes and its numbers, both sides -/
def pk (tx : Nat → Int32) (n p : Nat) : Int32 := if p < n then tx p else -6
def TXC (M : MM) (n : Nat) (tx : Nat → Int32) : Prop := n ≤ 80 ∧ ∀ k, k < n → M 656 k = tx k
def TXM (M : MM) (n : Nat) (tx : Nat → Int32) : Prop := n ≤ 80 ∧ ∀ k, k < n → M 660 k = tx k
theorem pkt_lt {tx : Nat → Int32} {n p : Nat} {c : Int32} (h : pk tx n p = c) (hc : ¬ (-6 : Int32) = c) : p < n := by
  unfold pk at h
  by_cases q : p < n
  · exact q
  · rw [if_neg q] at h
    exact absurd h hc
theorem pk_dg {tx : Nat → Int32} {n p : Nat} (h : wi (pk tx n p) 48 57 = true) : p < n ∧ pk tx n p = tx p := by
  have q : p < n := by
    by_cases q : p < n
    · exact q
    · unfold pk at h
      rw [if_neg q] at h
      exact absurd h (by decide)
  exact ⟨q, by unfold pk; rw [if_pos q]⟩
theorem hereC {M : MM} {n p : Nat} {tx g : Nat → Int32} (h : TXC M n tx) (h1 : g 1 = nI n) (h2 : g 2 = nI p) (hp : p ≤ n) : f_X5_here 655 (msf M 655 g) = some (pk tx n p) := by
  have h80 := h.1
  unfold f_X5_here f_X5_here_31 pk
  rw [msf_at, h1, h2, isWithin_ok, Option.bind_some]
  by_cases q : p < n
  · have hw : wi (nI p) 0 (nI n - 1) = true := (wi_ix (by omega)).mpr ⟨p, q, rfl⟩
    rw [hw, if_neg bz_t0, gd_of (inb_nI (by omega) (by omega)), ix_nI (by omega), if_pos q, show (655 + 1 : Nat) = 656 from rfl, msf_ne (by omega), h.2 p q]
  · have hw : wi (nI p) 0 (nI n - 1) = false := by
      cases hz : wi (nI p) 0 (nI n - 1) with
      | false => rfl
      | true =>
        obtain ⟨j, hj, e⟩ := (wi_ix (by omega)).mp hz
        have := (eq_nI (by omega) (by omega)).mp e
        omega
    rw [hw, if_pos bz_f0, if_neg q]
def numS (tx : Nat → Int32) (n p : Nat) : Nat → Nat → Int32 → Nat × Int32
  | 0, j, v => (j, v)
  | f + 1, j, v => if wi (pk tx n (p + j)) 48 57 = true ∧ (j = 0 ∨ ¬ v = 0) then numS tx n p f (j + 1) (v * 10 + pk tx n (p + j) - 48) else (j, v)
def numB (q : Nat × Int32) (lo hi : Int32) : Bool := decide (¬ q.1 = 0) && wi q.2 lo hi
theorem numS_le {tx : Nat → Int32} {n p : Nat} : ∀ (f j : Nat) (v : Int32), p + j ≤ n → p + (numS tx n p f j v).1 ≤ n ∧ j ≤ (numS tx n p f j v).1 := by
  intro f
  induction f with
  | zero => intro j v h; exact ⟨h, Nat.le_refl _⟩
  | succ f ih =>
    intro j v h
    rw [numS]
    by_cases q : wi (pk tx n (p + j)) 48 57 = true ∧ (j = 0 ∨ ¬ v = 0)
    · rw [if_pos q]
      have := (pk_dg q.1).1
      obtain ⟨a, b⟩ := ih (j + 1) (v * 10 + pk tx n (p + j) - 48) (by omega)
      exact ⟨a, by omega⟩
    · rw [if_neg q]
      exact ⟨h, Nat.le_refl _⟩
theorem numB_0 {v lo hi : Int32} : numB (0, v) lo hi = false := rfl
theorem numB_n {j : Nat} {v lo hi : Int32} (h : ¬ j = 0) : numB (j, v) lo hi = wi v lo hi := by
  unfold numB
  rw [decide_eq_true (show ¬ (j, v).1 = 0 from h), Bool.true_and]
theorem end80C {M : MM} {j p : Nat} {g : Nat → Int32} {lo hi : Int32} (hj : j ≤ 3) (hp : p ≤ 80) (h2 : g 2 = nI (p + j)) : ∃ g', f_X5_readNumber_80 655 lo hi (nI p) (nI j) (msf M 655 g) = some (numB (j, g 4) lo hi, msf M 655 g') ∧ g' 2 = nI (if numB (j, g 4) lo hi = true then p + j else p) ∧ g' 4 = g 4 ∧ ∀ i, i ≠ 2 → i ≠ 4 → g' i = g i := by
  unfold f_X5_readNumber_80
  by_cases q : j = 0
  · subst q
    rw [if_pos (show nI 0 = 0 from rfl), numB_0]
    exact ⟨g, rfl, by rw [if_neg (by decide)]; exact h2, rfl, fun _ _ _ => rfl⟩
  · rw [if_neg (by rw [show (0 : Int32) = nI 0 from rfl, eq_nI (by omega) (by omega)]; exact q), isWithin_ok, Option.bind_some, msf_at, numB_n q]
    cases hw : wi (g 4) lo hi with
    | false =>
      rw [if_pos bz_f0, ms_msf]
      exact ⟨upd g 2 (nI p), rfl, by rw [upd_eq, if_neg (by decide)], upd_ne (by omega), fun i a b => upd_ne a⟩
    | true =>
      rw [if_neg bz_t0]
      exact ⟨g, rfl, by rw [if_pos rfl]; exact h2, rfl, fun _ _ _ => rfl⟩
theorem numC {M : MM} {n p : Nat} {tx : Nat → Int32} {lo hi : Int32} (h : TXC M n tx) : ∀ (f j k : Nat) (g : Nat → Int32), f + j = 3 → f < k → g 1 = nI n → g 2 = nI (p + j) → p + j ≤ n → ∃ g', f_X5_readNumber_13 655 k lo hi (nI p) (nI j) (msf M 655 g) = some (numB (numS tx n p f j (g 4)) lo hi, msf M 655 g') ∧ g' 2 = nI (if numB (numS tx n p f j (g 4)) lo hi = true then p + (numS tx n p f j (g 4)).1 else p) ∧ g' 4 = (numS tx n p f j (g 4)).2 ∧ ∀ i, i ≠ 2 → i ≠ 4 → g' i = g i := by
  have h80 := h.1
  intro f
  induction f with
  | zero =>
    intro j k g hj hk h1 h2 hp
    obtain ⟨k, rfl⟩ : ∃ k', k = k' + 1 := ⟨k - 1, by omega⟩
    rw [f_X5_readNumber_13, if_pos (by rw [show (3 : Int32) = nI 3 from rfl, le_nI (by omega) (by omega)]; omega)]
    exact end80C (by omega) (by omega) h2
  | succ f ih =>
    intro j k g hj hk h1 h2 hp
    obtain ⟨k, rfl⟩ : ∃ k', k = k' + 1 := ⟨k - 1, by omega⟩
    rw [f_X5_readNumber_13, if_neg (by rw [show (3 : Int32) = nI 3 from rfl, le_nI (by omega) (by omega)]; omega), hereC h h1 h2 hp, Option.bind_some, isWithin_ok, Option.bind_some, numS]
    have stop : ¬ (wi (pk tx n (p + j)) 48 57 = true ∧ (j = 0 ∨ ¬ g 4 = 0)) → ∃ g', f_X5_readNumber_80 655 lo hi (nI p) (nI j) (msf M 655 g) = some (numB (if wi (pk tx n (p + j)) 48 57 = true ∧ (j = 0 ∨ ¬ g 4 = 0) then numS tx n p f (j + 1) (g 4 * 10 + pk tx n (p + j) - 48) else (j, g 4)) lo hi, msf M 655 g') ∧ g' 2 = nI (if numB (if wi (pk tx n (p + j)) 48 57 = true ∧ (j = 0 ∨ ¬ g 4 = 0) then numS tx n p f (j + 1) (g 4 * 10 + pk tx n (p + j) - 48) else (j, g 4)) lo hi = true then p + (if wi (pk tx n (p + j)) 48 57 = true ∧ (j = 0 ∨ ¬ g 4 = 0) then numS tx n p f (j + 1) (g 4 * 10 + pk tx n (p + j) - 48) else (j, g 4)).1 else p) ∧ g' 4 = (if wi (pk tx n (p + j)) 48 57 = true ∧ (j = 0 ∨ ¬ g 4 = 0) then numS tx n p f (j + 1) (g 4 * 10 + pk tx n (p + j) - 48) else (j, g 4)).2 ∧ ∀ i, i ≠ 2 → i ≠ 4 → g' i = g i := fun hn => by
      rw [if_neg hn]
      exact end80C (by omega) (by omega) h2
    have go : (wi (pk tx n (p + j)) 48 57 = true ∧ (j = 0 ∨ ¬ g 4 = 0)) → ∃ g', f_X5_readNumber_45 655 (fun u0 u1 u2 u3 uM => f_X5_readNumber_13 655 k u0 u1 u2 u3 uM) lo hi (nI p) (nI j) (msf M 655 g) = some (numB (if wi (pk tx n (p + j)) 48 57 = true ∧ (j = 0 ∨ ¬ g 4 = 0) then numS tx n p f (j + 1) (g 4 * 10 + pk tx n (p + j) - 48) else (j, g 4)) lo hi, msf M 655 g') ∧ g' 2 = nI (if numB (if wi (pk tx n (p + j)) 48 57 = true ∧ (j = 0 ∨ ¬ g 4 = 0) then numS tx n p f (j + 1) (g 4 * 10 + pk tx n (p + j) - 48) else (j, g 4)) lo hi = true then p + (if wi (pk tx n (p + j)) 48 57 = true ∧ (j = 0 ∨ ¬ g 4 = 0) then numS tx n p f (j + 1) (g 4 * 10 + pk tx n (p + j) - 48) else (j, g 4)).1 else p) ∧ g' 4 = (if wi (pk tx n (p + j)) 48 57 = true ∧ (j = 0 ∨ ¬ g 4 = 0) then numS tx n p f (j + 1) (g 4 * 10 + pk tx n (p + j) - 48) else (j, g 4)).2 ∧ ∀ i, i ≠ 2 → i ≠ 4 → g' i = g i := fun hy => by
      have hlt := (pk_dg hy.1).1
      rw [if_pos hy]
      unfold f_X5_readNumber_45
      rw [hereC h h1 h2 hp, Option.bind_some]
      simp only [msf_at, ms_msf]
      rw [upd_ne (show 2 ≠ 4 by omega), h2, nI_1, nI_1]
      have := ih (j + 1) k (upd (upd g 4 (g 4 * 10 + pk tx n (p + j) - 48)) 2 (nI (p + j + 1))) (by omega) (by omega) (by rw [upd_ne (by omega), upd_ne (by omega)]; exact h1) (by rw [upd_eq]; rfl) (by omega)
      rw [show upd (upd g 4 (g 4 * 10 + pk tx n (p + j) - 48)) 2 (nI (p + j + 1)) 4 = g 4 * 10 + pk tx n (p + j) - 48 by rw [upd_ne (by omega), upd_eq]] at this
      obtain ⟨g', e, a, b, c⟩ := this
      exact ⟨g', e, a, b, fun i q1 q2 => by rw [c i q1 q2, upd_ne q1, upd_ne q2]⟩
    cases hd : wi (pk tx n (p + j)) 48 57 with
    | false =>
      rw [if_pos bz_f0]
      rw [hd] at stop
      exact stop (fun z => absurd z.1 (by decide))
    | true =>
      rw [if_neg bz_t0]
      rw [hd] at stop go
      by_cases q : j = 0
      · rw [if_pos (by rw [show (0 : Int32) = nI 0 from rfl, le_nI (by omega) (by omega)]; omega)]
        exact go ⟨rfl, Or.inl q⟩
      · rw [if_neg (by rw [show (0 : Int32) = nI 0 from rfl, le_nI (by omega) (by omega)]; omega)]
        by_cases z : g 4 = 0
        · rw [if_pos (by rw [msf_at]; exact z)]
          exact stop (fun y => y.2.elim q (fun w => w z))
        · rw [if_neg (by rw [msf_at]; exact z)]
          exact go ⟨rfl, Or.inr z⟩
def VI (tx : Nat → Int32) (p j : Nat) (v : Int32) : Prop := (1 ≤ j → (v = 0 ↔ tx p = 48)) ∧ 0 ≤ v.toInt ∧ (j = 0 → v.toInt ≤ 0) ∧ (j = 1 → v.toInt ≤ 9) ∧ (j = 2 → v.toInt ≤ 99) ∧ (j = 3 → v.toInt ≤ 999)
theorem VI.step {tx : Nat → Int32} {n p j : Nat} {v : Int32} (h : VI tx p j v) (hj : j < 3) (hd : wi (pk tx n (p + j)) 48 57 = true) (hv : j = 0 ∨ ¬ v = 0) : VI tx p (j + 1) (v * 10 + pk tx n (p + j) - 48) := by
  obtain ⟨a, b, c, d, e, f⟩ := h
  have cb := wi_t hd
  have k48 : (48 : Int32).toInt = 48 := rfl
  have k57 : (57 : Int32).toInt = 57 := rfl
  have k10 : (10 : Int32).toInt = 10 := rfl
  have k0 : (0 : Int32).toInt = 0 := rfl
  have hp := (pk_dg hd).2
  generalize pk tx n (p + j) = x at *
  have e1 : (v * 10).toInt = v.toInt * 10 := by rw [mul32, k10] <;> rw [k10] <;> omega
  have e2 : (v * 10 + x).toInt = v.toInt * 10 + x.toInt := by rw [add32, e1] <;> rw [e1] <;> omega
  have e3 : (v * 10 + x - 48).toInt = v.toInt * 10 + x.toInt - 48 := by rw [sub32, e2, k48] <;> rw [e2, k48] <;> omega
  refine ⟨fun _ => ?_, by rw [e3]; omega, fun h => by omega, fun h => by rw [e3]; omega, fun h => by rw [e3]; omega, fun h => by rw [e3]; omega⟩
  by_cases q : j = 0
  · subst q
    rw [Nat.add_zero] at hp
    rw [i_eq, e3, k0, ← hp, i_eq, k48]
    omega
  · have hvn := hv.resolve_left q
    have h0 : v.toInt ≠ 0 := fun z => hvn (Int32.toInt_inj.mp (by rw [z, k0]))
    constructor
    · intro z
      rw [i_eq, e3, k0] at z
      omega
    · intro z
      exact absurd ((a (by omega)).mpr z) hvn
