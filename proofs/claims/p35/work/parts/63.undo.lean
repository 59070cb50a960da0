/-! PURE, the class alone: by program out of the same part of whole -/
/-! PURE: undo, save and restore on both sides -/
def INV (M : MM) : Prop := ∃ R kp n tx fl, CI M R kp n tx fl ∧ MI M R kp n tx fl
def Pair (fc fm : MM → Option (Int32 × MM)) : Prop := ∀ M, INV M → ∃ v M1 M2, fc M = some (v, M1) ∧ fm M1 = some (v, M2) ∧ INV M2
theorem mkP {M : MM} {R R' : Nat → Int32} {kp n kp' n' : Nat} {tx fl tx' fl' : Nat → Int32} {v : Int32} {fc fm : MM → Option (Int32 × MM)} (hm : MI M R kp n tx fl) (c : ∃ M1, fc M = some (v, M1) ∧ CI M1 R' kp' n' tx' fl' ∧ Lo M M1) (m : ∀ M1, MI M1 R kp n tx fl → ∃ M2, fm M1 = some (v, M2) ∧ MI M2 R' kp' n' tx' fl' ∧ Hi M1 M2) : ∃ v M1 M2, fc M = some (v, M1) ∧ fm M1 = some (v, M2) ∧ INV M2 := by
  obtain ⟨M1, e1, c1, l1⟩ := c
  obtain ⟨M2, e2, m2, l2⟩ := m M1 (hm.lo l1)
  exact ⟨v, M1, M2, e1, e2, R', kp', n', tx', fl', c1.hi l2, m2⟩
theorem mkS {M : MM} {v : Int32} {fc fm : MM → Option (Int32 × MM)} (h : INV M) (c : fc M = some (v, M)) (m : fm M = some (v, M)) : ∃ v M1 M2, fc M = some (v, M1) ∧ fm M1 = some (v, M2) ∧ INV M2 := ⟨v, M, M, c, m, h⟩
theorem Hi.rf {M : MM} : Hi M M := fun _ _ => rfl
theorem Hi.tr {M M1 M2 : MM} (h1 : Hi M M1) (h2 : Hi M1 M2) : Hi M M2 := fun q h => (h2 q h).trans (h1 q h)
theorem cpB_lo {R : Nat → Int32} {i k : Nat} (hk : k < 1808) : cpB R i 0 k = blk R i k := by
  have := cpB_at (R := R) (i := i) (j := 0) (a := 0) hk
  rw [blk0, if_pos rfl] at this
  exact this
theorem wi01 {x : Int32} (h : wi x 0 1 = true) : ∃ j : Nat, x = nI j ∧ j < 2 := by
  obtain ⟨j, e, -, h2⟩ := wi_nI (a := 0) (b := 1) (by omega) (by omega) h
  exact ⟨j, e, by omega⟩
theorem ge0 {x : Nat} (h : x ≤ 1000000) : ¬ nI x < 0 := by
  rw [show (0 : Int32) = nI 0 from rfl, lt_nI h (by omega)]
  omega
