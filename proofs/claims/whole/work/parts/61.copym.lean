/-! PURE: blocks of the reference's row -/
def blk (R : Nat → Int32) (i : Nat) : Nat → Int32 := fun k => R (1808 * i + k)
/-- block i of R laid over block j -/
def cpB (R : Nat → Int32) (i j : Nat) : Nat → Int32 := fun k => if 1808 * j ≤ k ∧ k < 1808 * j + 1808 then R (1808 * i + (k - 1808 * j)) else R k
def cpP (R : Nat → Int32) (i j n : Nat) : Nat → Int32 := fun k => if 1808 * j ≤ k ∧ k < 1808 * j + n then R (1808 * i + (k - 1808 * j)) else R k
theorem cpP_0 (R : Nat → Int32) (i j : Nat) : cpP R i j 0 = R := by
  funext k
  unfold cpP
  rw [if_neg (by omega)]
theorem cpP_succ {R : Nat → Int32} {i j n : Nat} (hij : i ≠ j) (hn : n < 1808) : upd (cpP R i j n) (1808 * j + n) (cpP R i j n (1808 * i + n)) = cpP R i j (n + 1) := by
  funext k
  have e : cpP R i j n (1808 * i + n) = R (1808 * i + n) := by
    unfold cpP
    rw [if_neg (by omega)]
  rw [e]
  by_cases q : k = 1808 * j + n
  · subst q
    rw [upd_eq]
    unfold cpP
    rw [if_pos (by omega)]
    congr 1
    omega
  · rw [upd_ne q]
    unfold cpP
    by_cases z : 1808 * j ≤ k ∧ k < 1808 * j + n
    · rw [if_pos z, if_pos (by omega)]
    · rw [if_neg z, if_neg (by omega)]
theorem copies_loop {i j : Nat} (hi : i ≤ 8) (hj : j ≤ 8) (hij : i ≠ j) : ∀ (d n k : Nat) (M : MM), n + d = 1808 → d < k → f_X7_copies_2 657 k (nI (1808 * i)) (nI (1808 * j)) (nI n) (msf M 658 (cpP (M 658) i j n)) = some (msf M 658 (cpP (M 658) i j 1808)) := by
  intro d
  induction d with
  | zero =>
    intro n k M hn hk
    obtain ⟨k, rfl⟩ : ∃ k', k = k' + 1 := ⟨k - 1, by omega⟩
    have : n = 1808 := by omega
    subst this
    unfold f_X7_copies_2
    rw [if_pos (by rw [show (1808 : Int32) = nI 1808 from rfl]; exact Int32.le_refl _)]
  | succ d ih =>
    intro n k M hn hk
    obtain ⟨k, rfl⟩ : ∃ k', k = k' + 1 := ⟨k - 1, by omega⟩
    unfold f_X7_copies_2
    rw [if_neg (by rw [show (1808 : Int32) = nI 1808 from rfl, le_nI (by omega) (by omega)]; omega), nI_add, nI_add, gd_of (inb_nI (by omega) (by omega)), gd_of (inb_nI (by omega) (by omega)), ix_nI (by omega), ix_nI (by omega), nI_1]
    rw [show (657 + 1 : Nat) = 658 from rfl, ms_msf, msf_at, cpP_succ hij (by omega)]
    exact ih (n + 1) k M (by omega) (by omega)
theorem copies_ok {M : MM} {i j : Nat} (hi : i ≤ 8) (hj : j ≤ 8) (hij : i ≠ j) : f_X7_copies 657 (nI (1808 * i)) (nI (1808 * j)) M = some (msf M 658 (cpB (M 658) i j)) := by
  unfold f_X7_copies
  have := copies_loop (M := M) hi hj hij 1808 0 FU (by omega) (by unfold FU; omega)
  rw [cpP_0, msf_id] at this
  exact this
theorem cpB_at {R : Nat → Int32} {i j a : Nat} {k : Nat} (hk : k < 1808) : blk (cpB R i j) a k = if a = j then blk R i k else blk R a k := by
  unfold blk cpB
  by_cases q : a = j
  · subst q
    rw [if_pos rfl, if_pos (by omega)]
    congr 1
    omega
  · rw [if_neg q, if_neg (by omega)]
/-- the history's blocks one down -/
def shF (R : Nat → Int32) : Nat → Nat → Int32
  | 0 => R
  | n + 1 => cpB (shF R n) (n + 2) (n + 1)
theorem shF_at {R : Nat → Int32} {n a k : Nat} (hk : k < 1808) : blk (shF R n) a k = if 1 ≤ a ∧ a ≤ n then blk R (a + 1) k else blk R a k := by
  induction n generalizing a with
  | zero => rw [if_neg (by omega)]; rfl
  | succ n ih =>
    rw [shF, cpB_at hk]
    by_cases q : a = n + 1
    · subst q
      rw [if_pos rfl, if_pos (by omega), ih, if_neg (by omega)]
    · rw [if_neg q, ih]
      by_cases z : 1 ≤ a ∧ a ≤ n
      · rw [if_pos z, if_pos (by omega)]
      · rw [if_neg z, if_neg (by omega)]
def recR (R : Nat → Int32) (kp : Nat) : Nat → Int32 := if kp = 5 then cpB (shF R 4) 0 5 else cpB R 0 (kp + 1)
def kp1 (kp : Nat) : Nat := if kp = 5 then 5 else kp + 1
theorem recR_at {R : Nat → Int32} {kp a k : Nat} (hkp : kp ≤ 5) (hk : k < 1808) : blk (recR R kp) a k = if a = kp1 kp then blk R 0 k else if kp = 5 ∧ 1 ≤ a ∧ a < 5 then blk R (a + 1) k else blk R a k := by
  unfold recR kp1
  by_cases q : kp = 5
  · subst q
    rw [if_pos rfl, if_pos rfl, cpB_at hk, shF_at hk, shF_at hk, if_neg (show ¬ (1 ≤ 0 ∧ 0 ≤ 4) by omega)]
    by_cases z : a = 5
    · rw [if_pos z, if_pos z]
    · rw [if_neg z, if_neg z]
      by_cases y : 1 ≤ a ∧ a ≤ 4
      · rw [if_pos y, if_pos (by omega)]
      · rw [if_neg y, if_neg (by omega)]
  · rw [if_neg q, if_neg q, cpB_at hk, if_neg (show ¬ (kp = 5 ∧ 1 ≤ a ∧ a < 5) by omega)]
theorem rec_loop : ∀ (d n k : Nat) (M : MM) (R : Nat → Int32), n + d = 4 → d < k → M 657 1 = 5 → M 658 = shF R n → f_X7_records_10 657 k (nI (n + 1)) M = some (msf (ms (ms M 657 1 4) 657 1 5) 658 (cpB (shF R 4) 0 5)) := by
  intro d
  induction d with
  | zero =>
    intro n k M R hn hk h1 hR
    obtain ⟨k, rfl⟩ : ∃ k', k = k' + 1 := ⟨k - 1, by omega⟩
    have : n = 4 := by omega
    subst this
    unfold f_X7_records_10 f_X7_records_47
    rw [if_pos (by decide), h1, ms_eq, ms_eq, show (5 - 1 : Int32) = 4 from rfl, show (4 + 1 : Int32) = 5 from rfl]
    rw [show (0 : Int32) = nI (1808 * 0) from rfl, show (1808 * 5 : Int32) = nI (1808 * 5) from rfl, copies_ok (by omega) (by omega) (by omega), Option.bind_some]
    rw [ms_ne (show 658 ≠ 657 by omega), ms_ne (show 658 ≠ 657 by omega), hR]
  | succ d ih =>
    intro n k M R hn hk h1 hR
    obtain ⟨k, rfl⟩ : ∃ k', k = k' + 1 := ⟨k - 1, by omega⟩
    unfold f_X7_records_10
    rw [if_neg (by rw [show (5 : Int32) = nI 5 from rfl, le_nI (by omega) (by omega)]; omega), nI_1, show (1808 : Int32) = nI 1808 from rfl, mul_nI, mul_nI, copies_ok (by omega) (by omega) (by omega), Option.bind_some]
    have := ih (n + 1) k (msf M 658 (cpB (M 658) (n + 1 + 1) (n + 1))) R (by omega) (by omega) (by rw [msf_ne (by omega)]; exact h1) (by rw [msf_at, hR]; rfl)
    rw [this]
    congr 1
    funext q
    by_cases z : q = 658
    · subst z; rw [msf_at, msf_at]
    · rw [msf_ne z, msf_ne z]
      by_cases y : q = 657
      · subst y
        rw [ms_at, ms_at, ms_at, ms_at, msf_ne (by omega)]
      · rw [ms_ne y, ms_ne y, msf_ne z, ms_ne y, ms_ne y]
theorem rec_ok {M : MM} {kp : Nat} (h : M 657 1 = nI kp) (hkp : kp ≤ 5) : ∃ M', f_X7_records 657 M = some M' ∧ M' 658 = recR (M 658) kp ∧ M' 657 1 = nI (kp1 kp) ∧ (∀ i, i ≠ 1 → M' 657 i = M 657 i) ∧ ∀ q, q ≠ 657 → q ≠ 658 → M' q = M q := by
  unfold f_X7_records
  rw [h]
  by_cases q : kp = 5
  · subst q
    rw [if_pos (show nI 5 = 5 from rfl), show (1 : Int32) = nI (0 + 1) from rfl, rec_loop 4 0 FU M (M 658) (by omega) (by unfold FU; omega) h rfl]
    refine ⟨_, rfl, ?_, ?_, fun i hi => ?_, fun p h1 h2 => ?_⟩
    · rw [msf_at]; rfl
    · rw [msf_ne (by omega), ms_eq]; rfl
    · rw [msf_ne (by omega), ms_ni hi, ms_ni hi]
    · rw [msf_ne h2, ms_ne h1, ms_ne h1]
  · rw [if_neg (by rw [show (5 : Int32) = nI 5 from rfl, eq_nI (by omega) (by omega)]; exact q)]
    unfold f_X7_records_47
    rw [h, ms_eq, nI_1, show (0 : Int32) = nI (1808 * 0) from rfl, show (1808 : Int32) = nI 1808 from rfl, mul_nI, copies_ok (by omega) (by omega) (by omega), Option.bind_some]
    have e1 : kp1 kp = kp + 1 := by unfold kp1; rw [if_neg q]
    have e2 : recR (M 658) kp = cpB (M 658) 0 (kp + 1) := by unfold recR; rw [if_neg q]
    refine ⟨_, rfl, ?_, ?_, fun i hi => ?_, fun p h1 h2 => ?_⟩
    · rw [msf_at, ms_ne (by omega), e2]
    · rw [msf_ne (by omega), ms_eq, e1]
    · rw [msf_ne (by omega), ms_ni hi]
    · rw [msf_ne h2, ms_ne h1]
