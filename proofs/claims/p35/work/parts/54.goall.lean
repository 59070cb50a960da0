/-! PURE, the class alone: by program out of the same part of whole -/
/-! PURE: the next drive, whole, both sides -/
def fd0 (r : Nat → Int32) (nx : Nat) (d v cl : Int32) : Int64 := if r (1508 + nx) ≤ 0 then (if cl ≤ 0 then 2 * d.toInt64 else d.toInt64 * v.toInt64 / cl.toInt64) else v.toInt64 * 1000 / (r (1508 + nx)).toInt64
def loS (d : Int32) : Int64 := d.toInt64 - d.toInt64 / 2
def hiS (d rise : Int32) : Int64 := d.toInt64 + d.toInt64 * rise.toInt64 / 100 + 1
def x0S (d rise : Int32) (y : Int64) : Int64 := if (if loS d ≤ y then y else loS d) ≤ hiS d rise then (if loS d ≤ y then y else loS d) else hiS d rise
theorem k2 : (2 : Int64).toInt = 2 := by decide
theorem k100 : (100 : Int64).toInt = 100 := by decide
theorem k1 : (1 : Int64).toInt = 1 := by decide
theorem lo_eq {d : Int32} (hd : okD d) : (d - d / 2).toInt64 = loS d := by
  obtain ⟨d1, d2⟩ := hd
  have e1 : (d / 2).toInt = d.toInt / 2 := by rw [div32 (by omega) (by decide), show (2 : Int32).toInt = 2 by decide]
  have e2 : (d.toInt64 / 2).toInt = d.toInt / 2 := by rw [div64 (by rw [i2l_toInt]; omega) (by decide), i2l_toInt, k2]
  apply Int64.toInt_inj.mp
  unfold loS
  rw [i2l_toInt, sub32 (by omega) (by omega), e1, sub64 (by rw [i2l_toInt]; omega) (by rw [i2l_toInt]; omega), i2l_toInt, e2]
theorem hi_eq {d rise : Int32} (hd : okD d) (hr : Sm rise 100) : (d + d * rise / 100 + 1).toInt64 = hiS d rise := by
  obtain ⟨d1, d2⟩ := hd
  obtain ⟨r1, r2⟩ := hr
  have p0 : 0 ≤ d.toInt * rise.toInt := Int.mul_nonneg (by omega) r1
  have p1 : d.toInt * rise.toInt ≤ 100000 * 100 := Int.mul_le_mul d2 r2 r1 (by omega)
  have e1 : (d * rise).toInt = d.toInt * rise.toInt := mul32 (by omega) (by omega)
  have e2 : (d * rise / 100).toInt = d.toInt * rise.toInt / 100 := by rw [div32 (by omega) (by decide), e1, show (100 : Int32).toInt = 100 by decide]
  have e3 : (d + d * rise / 100).toInt = d.toInt + d.toInt * rise.toInt / 100 := by rw [add32 (by omega) (by omega), e2]
  have e4 : (d + d * rise / 100 + 1).toInt = d.toInt + d.toInt * rise.toInt / 100 + 1 := by
    have : (1 : Int32).toInt = 1 := by decide
    rw [add32 (by omega) (by omega), e3, this]
  have f1 : (d.toInt64 * rise.toInt64).toInt = d.toInt * rise.toInt := by rw [mul64, i2l_toInt, i2l_toInt] <;> rw [i2l_toInt, i2l_toInt] <;> omega
  have f2 : (d.toInt64 * rise.toInt64 / 100).toInt = d.toInt * rise.toInt / 100 := by rw [div64 (by omega) (by decide), f1, k100]
  have f3 : (d.toInt64 + d.toInt64 * rise.toInt64 / 100).toInt = d.toInt + d.toInt * rise.toInt / 100 := by rw [add64, i2l_toInt, f2] <;> rw [i2l_toInt, f2] <;> omega
  apply Int64.toInt_inj.mp
  unfold hiS
  rw [i2l_toInt, e4, add64, f3, k1] <;> rw [f3, k1] <;> omega
noncomputable def goR (r : Nat → Int32) (C nx : Nat) (mg : Nat → Int32) (cl : Int32) : Nat → Int32 :=
  let w := nF r nx (r (208 + nx)) mg (x0S (r 3) (r 15) (fd0 r nx (r 3) (tgtV r (r (208 + nx))) cl)) C
  goS r nx (cutD w.1) w.2
def GoH (r : Nat → Int32) (C P nx : Nat) : Prop := NotH r C ∧ PtH r P ∧ nx < 100 ∧ Sm (r (208 + nx)) 2000 ∧ okD (r 3) ∧ Sm (r 15) 100
theorem goC_ok {M : MM} {b C P nx : Nat} {r : Nat → Int32} {mg : Nat → Int32} {cl : Int32} (H : GoH r C P nx) (hR : Rep M b r) (hmg : ∀ c, c < C → M (b + (11 + 9 * c)) 13 = mg c) : ∃ M', f_X4_goTo b (nI nx) cl M = some M' ∧ Rep M' b (goR r C nx mg cl) ∧ (∀ o, 11 ≤ o → M' (b + o) = M (b + o)) ∧ Fr b M M' := by
  obtain ⟨hN, hP, hnx, hf, hd, hr⟩ := H
  have m10 : M b 10 = r 3 := hR.s.2.2.2.2.1
  have m2 : M (b + 1 + 1) nx = r (208 + nx) := (hR.r hnx).1
  have m8 : M (b + 8) nx = r (1508 + nx) := (hR.r hnx).2.1
  have mr : M (b + 7) 3 = r 15 := hR.g (i := 3) (by omega)
  obtain ⟨M', e, q⟩ := goC_loop (M := M) (b := b) (nx := nx) (f := r (208 + nx)) (mg := mg) (x0 := x0S (r 3) (r 15) (fd0 r nx (r 3) (tgtV r (r (208 + nx))) cl)) hN hR hnx hmg C 0 FU (by omega) (by have := hN.1.2; unfold FU; omega)
  refine ⟨M', ?_, q⟩
  unfold f_X4_goTo f_X4_wantedDrive
  rw [gd_of (inb_nI hnx (by omega)), ix_nI (by omega), m2, tgtC_val hR hP hf, Option.bind_some, gd_of (inb_nI hnx (by omega)), m8, m10, show (3 : Int32) = nI 3 from rfl, ix_nI (by omega), mr, lo_eq hd, hi_eq hd hr]
  have ew : (if r (1508 + nx) ≤ 0 then (if cl ≤ 0 then some (2 * (r 3).toInt64) else gd (nzl cl.toInt64) (some ((r 3).toInt64 * (tgtV r (r (208 + nx))).toInt64 / cl.toInt64))) else gd (nzl (r (1508 + nx)).toInt64) (some ((tgtV r (r (208 + nx))).toInt64 * 1000 / (r (1508 + nx)).toInt64))) = some (fd0 r nx (r 3) (tgtV r (r (208 + nx))) cl) := by
    unfold fd0
    by_cases q1 : r (1508 + nx) ≤ 0
    · rw [if_pos q1, if_pos q1]
      by_cases q2 : cl ≤ 0
      · rw [if_pos q2, if_pos q2]
      · rw [if_neg q2, if_neg q2, gd_of (g0 q2).1]
    · rw [if_neg q1, if_neg q1, gd_of (g0 q1).1]
  rw [ew, Option.bind_some, gd_of (inb_nI (show 3 < 6 by omega) (by omega))]
  generalize fd0 r nx (r 3) (tgtV r (r (208 + nx))) cl = y at e ⊢
  have ex : (if hiS (r 3) (r 15) < (if loS (r 3) < y then y else loS (r 3)) then hiS (r 3) (r 15) else (if loS (r 3) < y then y else loS (r 3))) = x0S (r 3) (r 15) y := by
    unfold x0S
    have e1 : (if loS (r 3) < y then y else loS (r 3)) = (if loS (r 3) ≤ y then y else loS (r 3)) := by
      by_cases a : loS (r 3) < y
      · rw [if_pos a, if_pos (by rw [Int64.lt_iff_toInt_lt] at a; rw [Int64.le_iff_toInt_le]; omega)]
      · rw [if_neg a]
        by_cases a2 : loS (r 3) ≤ y
        · rw [if_pos a2]
          rw [Int64.lt_iff_toInt_lt] at a; rw [Int64.le_iff_toInt_le] at a2
          exact Int64.toInt_inj.mp (by omega)
        · rw [if_neg a2]
    rw [e1]
    generalize (if loS (r 3) ≤ y then y else loS (r 3)) = w
    by_cases a : hiS (r 3) (r 15) < w
    · rw [if_pos a, if_neg (Int64.not_le.mpr a)]
    · rw [if_neg a, if_pos (Int64.not_lt.mp a)]
  rw [ex]
  exact e
