/-! PURE: measuring in the reference; the control level -/
theorem lin2 (a ln c : Nat) : nI a + (nI 6 * nI ln + nI c) = nI (a + 6 * ln + c) := by rw [mul_nI, nI_add, nI_add]; congr 1; omega
/-- nothing of the class and of the reference's other cells is changed -/
def Mo (M M' : MM) : Prop := ∀ q, q ≠ 658 → q ≠ 661 → M' q = M q
theorem Mo.rf {M : MM} : Mo M M := fun _ _ _ => rfl
theorem Mo.tr {M M1 M2 : MM} (h1 : Mo M M1) (h2 : Mo M1 M2) : Mo M M2 := fun q a b => (h2 q a b).trans (h1 q a b)
theorem measM_step {M : MM} {c ln C nn k : Nat} {r : Nat → Int32} {f d : Int32} (h : M 658 = mRow r ln f d (nI nn) c) (h5 : r 5 = nI C) (h13 : r 13 = nI nn) (hC : C ≤ 6) (hc : c < C) (hln : ln < 100) (hg : okG r c) (hf : Sm f 2000) (hd : okD d) (hn : 1 ≤ nn ∧ nn ≤ 8) : ∃ M', f_X7_measures_29 657 (k + 1) (nI ln) f d.toInt64 (nI c) M = f_X7_measures_29 657 k (nI ln) f d.toInt64 (nI (c + 1)) M' ∧ M' 658 = mRow r ln f d (nI nn) (c + 1) ∧ M' 661 = upd (M 661) c (mgS (lvS (gainR r c f) d) d) ∧ Mo M M' := by
  have e5 : M 658 5 = nI C := by rw [h, mRow_low 5 (by omega)]; exact h5
  have e13 : M 658 13 = nI nn := by rw [h, mRow_low 13 (by omega)]; exact h13
  have eg : f_X7_gainOf 657 (nI c) f M = some (gainR r c f) := by
    rw [gainM_ok (by omega) (by rw [h]; exact low_okG mRow_low (by omega) hg) hf, h, low_gainR mRow_low (by omega)]
  have hd0 : nzl d.toInt64 = true := nzl_of (fun e => by
    have := congrArg Int64.toInt e
    rw [i2l_toInt] at this
    have h1 : (0 : Int64).toInt = 0 := by decide
    have := hd.1
    omega)
  have i1 : (308 : Int32) + (6 * nI ln + nI c) = nI (308 + 6 * ln + c) := lin2 308 ln c
  have i2 : (908 : Int32) + (6 * nI ln + nI c) = nI (908 + 6 * ln + c) := lin2 908 ln c
  have ea : M 658 (908 + 6 * ln + c) = r (908 + 6 * ln + c) := by rw [h]; exact mRow_un (by omega) (by omega)
  refine ⟨ms (ms (ms M 658 (308 + 6 * ln + c) (lvS (gainR r c f) d)) 661 c (mgS (lvS (gainR r c f) d) d)) 658 (908 + 6 * ln + c) (avS (nI nn) (r (908 + 6 * ln + c)) (mgS (lvS (gainR r c f) d) d)), ?_, ?_, ?_, ?_⟩
  · rw [f_X7_measures_29.eq_2, show (5 : Int32) = nI 5 from rfl, gd_of (inb_nI (by omega) (by omega)), ix_nI (show 5 ≤ 1000000 by omega)]
    simp only [Nat.reduceAdd]
    rw [e5, if_neg (by rw [le_nI (by omega) (by omega)]; omega), eg, Option.bind_some, i1, i2, gd_of (inb_nI (by omega) (by omega)), gd_of hd0, gd_of (inb_nI (by omega) (by omega)), gd_of (inb_nI (by omega) (by omega)), gd_of (inb_nI (by omega) (by omega)), ix_nI (by omega), ix_nI (by omega), ix_nI (by omega)]
    change Option.bind (f_X7_averagedBy 657 ((ms (ms M 658 (308 + 6 * ln + c) (lvS (gainR r c f) d)) 661 c (mgS (lvS (gainR r c f) d) d)) 658 (908 + 6 * ln + c)) ((ms (ms M 658 (308 + 6 * ln + c) (lvS (gainR r c f) d)) 661 c (mgS (lvS (gainR r c f) d) d)) 661 c) (ms (ms M 658 (308 + 6 * ln + c) (lvS (gainR r c f) d)) 661 c (mgS (lvS (gainR r c f) d) d))) (fun v15 => gd (inb (nI (908 + 6 * ln + c)) 16272) (f_X7_measures_29 657 k (nI ln) f d.toInt64 (nI c + 1) (ms (ms (ms M 658 (308 + 6 * ln + c) (lvS (gainR r c f) d)) 661 c (mgS (lvS (gainR r c f) d) d)) 658 (908 + 6 * ln + c) v15))) = _
    rw [ms_eq, ms_ne (show 658 ≠ 661 by omega), ms_ni (show 908 + 6 * ln + c ≠ 308 + 6 * ln + c by omega), ea, avM_ok (k := nn) (by rw [ms_ne (show 658 ≠ 661 by omega), ms_ni (show 13 ≠ 308 + 6 * ln + c by omega)]; exact e13) hn.1 hn.2, Option.bind_some, gd_of (inb_nI (by omega) (by omega)), nI_1]
  · rw [ms_at, ms_ne (show 658 ≠ 661 by omega), ms_at, h, mRow]
  · rw [ms_ne (show 661 ≠ 658 by omega), ms_at, ms_ne (show 661 ≠ 658 by omega)]
  · intro q q1 q2
    rw [ms_ne q1, ms_ne q2, ms_ne q1]
-- the control level
def cnF (ct : Nat → Bool) : Nat → Nat
  | 0 => 0
  | c + 1 => cnF ct c + (if ct c = true then 1 else 0)
def smF (ct : Nat → Bool) (lv : Nat → Int32) : Nat → Int
  | 0 => 0
  | c + 1 => smF ct lv c + (if ct c = true then (lv c).toInt else 0)
def mxF (ct : Nat → Bool) (lv : Nat → Int32) : Nat → Int32
  | 0 => 0
  | c + 1 => if ct c = true ∧ (cnF ct c = 0 ∨ mxF ct lv c < lv c) then lv c else mxF ct lv c
def mnF (ct : Nat → Bool) (lv : Nat → Int32) : Nat → Int32
  | 0 => 0
  | c + 1 => if ct c = true ∧ (cnF ct c = 0 ∨ lv c < mnF ct lv c) then lv c else mnF ct lv c
theorem cnF_le (ct : Nat → Bool) : ∀ c, cnF ct c ≤ c
  | 0 => Nat.le_refl _
  | c + 1 => by
    have := cnF_le ct c
    rw [cnF]
    split <;> omega
theorem smF_bd {ct : Nat → Bool} {lv : Nat → Int32} {B : Int} (hB : 0 ≤ B) : ∀ {c : Nat}, (∀ j, j < c → 0 ≤ (lv j).toInt ∧ (lv j).toInt ≤ B) → 0 ≤ smF ct lv c ∧ smF ct lv c ≤ cnF ct c * B
  | 0, _ => by simp [smF, cnF]
  | c + 1, h => by
    have h1 := smF_bd (ct := ct) hB (c := c) (fun j hj => h j (by omega))
    have h2 := h c (by omega)
    rw [smF, cnF]
    split
    · have : ((cnF ct c + 1 : Nat) : Int) * B = cnF ct c * B + B := by rw [Int.natCast_add, Int.add_mul]; simp
      omega
    · simp only [Int.add_zero, Nat.add_zero]; exact h1
theorem mm_bd {ct : Nat → Bool} {lv : Nat → Int32} {d : Int32} (hd : okD d) : ∀ {c : Nat}, (∀ j, j < c → LvB (lv j) d) → LvB (mxF ct lv c) d ∧ LvB (mnF ct lv c) d
  | 0, _ => by
    have h0 : (0 : Int32).toInt = 0 := by decide
    have := hd.1
    constructor <;> (show 0 ≤ (0 : Int32).toInt ∧ (0 : Int32).toInt ≤ 155 * d.toInt) <;> omega
  | c + 1, h => by
    have h1 := mm_bd (ct := ct) hd (c := c) (fun j hj => h j (by omega))
    have h2 := h c (by omega)
    rw [mxF, mnF]
    constructor
    · split
      · exact h2
      · exact h1.1
    · split
      · exact h2
      · exact h1.2
def clS (st : Int32) (ct : Nat → Bool) (lv : Nat → Int32) (C : Nat) : Int32 := if st = 0 then Int32.ofInt (smF ct lv C / cnF ct C) else if st = 1 then mxF ct lv C else mnF ct lv C
theorem clS_bd {st : Int32} {ct : Nat → Bool} {lv : Nat → Int32} {C : Nat} {d : Int32} (hd : okD d) (hC : C ≤ 6) (hc : 0 < cnF ct C) (h : ∀ j, j < C → LvB (lv j) d) : LvB (clS st ct lv C) d ∧ 0 ≤ smF ct lv C / cnF ct C ∧ smF ct lv C / cnF ct C ≤ 155 * d.toInt := by
  have hm := mm_bd (ct := ct) hd h
  have hs := smF_bd (ct := ct) (lv := lv) (B := 155 * d.toInt) (by have := hd.1; omega) (fun j hj => h j hj)
  have q0 : 0 ≤ smF ct lv C / cnF ct C := Int.ediv_nonneg hs.1 (by omega)
  have q1 : smF ct lv C / cnF ct C ≤ 155 * d.toInt := Int.ediv_le_of_le_mul (by omega) (by rw [Int.mul_comm]; exact hs.2)
  refine ⟨?_, q0, q1⟩
  unfold clS
  have := hd.2
  split
  · unfold LvB
    rw [Int32.toInt_ofInt_of_le (by omega) (by omega)]
    exact ⟨q0, q1⟩
  · split
    · exact hm.1
    · exact hm.2
