/-! PURE, the class alone: by program out of the same part of whole -/
/-! PURE: plain facts of numbers, guards, memory -/
theorem gd_t {α : Type} (k : Option α) : gd true k = k := rfl
theorem gd_of {α : Type} {b : Bool} (h : b = true) (k : Option α) : gd b k = k := by rw [h]; rfl
theorem inb_nI {k L : Nat} (h : k < L) (hL : L ≤ 1000000) : inb (nI k) L = true := by
  have h1 : ¬ nI k < 0 := nI_pos (by omega)
  have h2 : (nI k).toNatClampNeg = k := nI_clamp (by omega)
  simp [inb, h1, h2, h]
theorem ix_nI {k : Nat} (h : k ≤ 1000000) : ix (nI k) = k := nI_clamp (by omega)
theorem tn_nI {k : Nat} (h : k ≤ 1000000) : (nI k).toNatClampNeg = k := nI_clamp (by omega)
theorem le_nI {a b : Nat} (ha : a ≤ 1000000) (hb : b ≤ 1000000) : nI a ≤ nI b ↔ a ≤ b := nI_leI (by omega) (by omega)
theorem lt_nI {a b : Nat} (ha : a ≤ 1000000) (hb : b ≤ 1000000) : nI a < nI b ↔ a < b := nI_ltI (by omega) (by omega)
theorem eq_nI {a b : Nat} (ha : a ≤ 1000000) (hb : b ≤ 1000000) : nI a = nI b ↔ a = b := nI_eq (by omega) (by omega)
theorem sub_nI {a b : Nat} (h : b ≤ a) : nI a - nI b = nI (a - b) := by
  have : nI a = nI (a - b) + nI b := by rw [nI_add]; congr 1; omega
  rw [this, Int32.add_sub_cancel]
theorem mul_nI (a b : Nat) : nI a * nI b = nI (a * b) := by
  show Int32.ofNat a * Int32.ofNat b = Int32.ofNat (a * b)
  exact (Int32.ofNat_mul a b).symm
theorem ch_nI {c w : Nat} : (34 + 29 * nI c) + nI w = nI (34 + 29 * c + w) := by
  show (nI 34 + nI 29 * nI c) + nI w = _
  rw [mul_nI, nI_add, nI_add]
theorem ne6_nI {a : Nat} (h : a ≤ 1000000) : ¬ nI a = -6 := by
  intro e
  have h1 := nI_toInt (n := a) (by omega)
  rw [e] at h1
  have h2 : (-6 : Int32).toInt = -6 := by decide
  omega
theorem bz_eq0 (b : Bool) : (bz b = 0) ↔ b = false := by cases b <;> simp [bz]
theorem bz_true : bz true = 1 := rfl
theorem bz_false : bz false = 0 := rfl
theorem nz_0 : nz 0 = false := rfl
theorem nz_1 : nz 1 = true := rfl
theorem nz_of {x : Int32} (h : ¬ x = 0) : nz x = true := by simp [nz, h]
theorem nzl_of {x : Int64} (h : ¬ x = 0) : nzl x = true := by simp [nzl, h]
-- memory
theorem ms_eq (M : MM) (a i : Nat) (v : Int32) : ms M a i v a i = v := by simp [ms, msf, upd]
theorem ms_ne {M : MM} {a b i : Nat} {v : Int32} (h : b ≠ a) : ms M a i v b = M b := by simp [ms, msf, h]
theorem ms_ni {M : MM} {a b i j : Nat} {v : Int32} (h : j ≠ i) : ms M a i v b j = M b j := by
  by_cases e : b = a
  · subst e; simp [ms, msf, upd, h]
  · rw [ms_ne e]
theorem ms_at (M : MM) (a i : Nat) (v : Int32) : ms M a i v a = upd (M a) i v := by simp [ms, msf]
theorem msf_at (M : MM) (a : Nat) (f : Nat → Int32) : msf M a f a = f := by simp [msf]
theorem msf_ne {M : MM} {a b : Nat} {f : Nat → Int32} (h : b ≠ a) : msf M a f b = M b := by simp [msf, h]
theorem msf_msf (M : MM) (a : Nat) (f g : Nat → Int32) : msf (msf M a f) a g = msf M a g := by
  funext b; by_cases e : b = a <;> simp [msf, e]
theorem ms_msf (M : MM) (a i : Nat) (f : Nat → Int32) (v : Int32) : ms (msf M a f) a i v = msf M a (upd f i v) := by
  rw [ms, msf_msf, msf_at]
theorem msf_id (M : MM) (a : Nat) : msf M a (M a) = M := by
  funext b; by_cases e : b = a
  · subst e; simp [msf]
  · simp [msf, e]
theorem msf_swap {M : MM} {a b : Nat} (h : a ≠ b) (f g : Nat → Int32) : msf (msf M a f) b g = msf (msf M b g) a f := by
  funext x
  by_cases e : x = b
  · subst e; rw [msf_at, msf_ne (Ne.symm h), msf_at]
  · by_cases e2 : x = a
    · subst e2; rw [msf_ne e, msf_at, msf_at]
    · rw [msf_ne e, msf_ne e2, msf_ne e2, msf_ne e]
theorem upd_eq (f : Nat → Int32) (k : Nat) (v : Int32) : upd f k v k = v := by simp [upd]
theorem upd_ne {f : Nat → Int32} {k j : Nat} {v : Int32} (h : j ≠ k) : upd f k v j = f j := by simp [upd, h]
def updIf (f : Nat → Int32) (p : Nat → Bool) (v : Int32) : Nat → Int32 := fun j => if p j = true then v else f j
/-- a row whose first L places are v -/
def fillR (f : Nat → Int32) (lo hi : Nat) (v : Int32) : Nat → Int32 := fun j => if lo ≤ j ∧ j < hi then v else f j
theorem fillR_succ (f : Nat → Int32) {lo j : Nat} (h : lo ≤ j) (v : Int32) : upd (fillR f lo j v) j v = fillR f lo (j + 1) v := by
  funext x
  by_cases e : x = j
  · subst e; simp [upd, fillR, h]
  · simp only [upd, if_neg e, fillR]
    congr 1
    apply propext
    constructor <;> intro q <;> omega
theorem fillR_0 (f : Nat → Int32) (lo : Nat) (v : Int32) : fillR f lo lo v = f := by
  funext x
  simp only [fillR]
  rw [if_neg (by omega)]
theorem fill_loop (a L : Nat) (v : Int32) (hL : L ≤ 1000000) : ∀ (d j k : Nat) (M : MM), j + d = L → d < k → f_J7_fill_53178_5 a L k v (nI j) (nI L) M = some (msf M a (fillR (M a) j L v)) := by
  intro d
  induction d with
  | zero =>
    intro j k M h1 h2
    have hj : j = L := by omega
    subst hj
    obtain ⟨k, rfl⟩ : ∃ k', k = k' + 1 := ⟨k - 1, by omega⟩
    unfold f_J7_fill_53178_5
    rw [if_pos ((le_nI hL hL).mpr (Nat.le_refl _)), fillR_0, msf_id]
  | succ d ih =>
    intro j k M h1 h2
    obtain ⟨k, rfl⟩ : ∃ k', k = k' + 1 := ⟨k - 1, by omega⟩
    unfold f_J7_fill_53178_5
    rw [if_neg (by rw [le_nI hL (by omega)]; omega), gd_of (inb_nI (by omega) hL), ix_nI (by omega), nI_1, ih (j + 1) k _ (by omega) (by omega), ms_at, ms, msf_msf]
    congr 2
    funext x
    simp only [fillR, upd]
    by_cases e : x = j
    · subst e
      rw [if_neg (by omega), if_pos rfl, if_pos (by omega)]
    · rw [if_neg e]
      congr 1
      apply propext
      constructor <;> intro q <;> omega
theorem fill_ok {a L : Nat} {v : Int32} {M : MM} (hL : L ≤ 4000) : f_J7_fill_53178 a L v M = some (msf M a (fillR (M a) 0 L v)) := by
  unfold f_J7_fill_53178
  exact fill_loop a L v (by omega) L 0 FU M (by omega) (by unfold FU; omega)
