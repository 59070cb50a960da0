/-! PURE, the class alone: by program out of the same part of whole -/
/-! PURE: what only looks, both sides -/
def Look (fc fm : MM → Option Int32) : Prop := ∀ M, INV M → ∃ v, fc M = some v ∧ fm M = some v
theorem lookC {M : MM} {R : Nat → Int32} {L o : Nat} {x : Int32} {g : Nat → Int32} (hR : Rep M 0 R) (h0 : R 0 = nI L ∧ L ≤ 100) (hg : ∀ i, i < 100 → M o i = g i) : (wi x 0 (nI L - 1) = false → f_X6_lookAtLine 650 o 100 x M = some (-1)) ∧ ∀ j, j < L → x = nI j → f_X6_lookAtLine 650 o 100 x M = some (g j) := by
  unfold f_X6_lookAtLine f_X6_lookAtLine_18
  rw [hasLine_ok hR, Option.bind_some, h0.1]
  constructor
  · intro h
    rw [h, if_pos bz_f0]
  · rintro j hj rfl
    rw [(wi_ix (by omega)).mpr ⟨j, hj, rfl⟩, if_neg bz_t0, gd_of (inb_nI (by omega) (by omega)), ix_nI (by omega), hg j (by omega)]
theorem lin26 (a c j : Nat) : (nI a + 6 * nI j) + nI c = nI (a + 6 * j + c) := by
  rw [show (6 : Int32) = nI 6 from rfl, lin, nI_add]
theorem smF2 {f : Int32} (h : wi f 1 2000 = true) : Sm f 2000 := by
  have b := wi_t h
  have t1 : (1 : Int32).toInt = 1 := rfl
  exact ⟨by omega, b.2⟩
