/-! PURE: the next drive, whole, both sides -/
def fd0 (r : Nat → Int32) (nx : Nat) (d v cl : Int32) : Int64 := if r (1508 + nx) ≤ 0 then (if cl ≤ 0 then 2 * d.toInt64 else d.toInt64 * v.toInt64 / cl.toInt64) else v.toInt64 * 1000 / (r (1508 + nx)).toInt64
def loS (d : Int32) : Int64 := d.toInt64 - d.toInt64 / 2
def hiS (d rise : Int32) : Int64 := d.toInt64 + d.toInt64 * rise.toInt64 / 100 + 1
def x0S (d rise : Int32) (y : Int64) : Int64 := if (if loS d ≤ y then y else loS d) ≤ hiS d rise then (if loS d ≤ y then y else loS d) else hiS d rise
theorem k2 : (2 : Int64).toInt = 2 := by decide
theorem k100 : (100 : Int64).toInt = 100 := by decide
theorem k1 : (1 : Int64).toInt = 1 := by decide
theorem lo_eq {d : Int32} (hd : okD d) : (d - d / 2).toInt64 = loS d := by
  obtain ⟨d1, d2⟩ := hd
  have e1 : (d / 2).toInt = d.toInt / 2 := by rw [div32 (by omega) (by decide), show (2 : Int32).toInt = 2 by decide]
  have e2 : (d.toInt64 / 2).toInt = d.toInt / 2 := by rw [div64 (by rw [i2l_toInt]; omega) (by decide), i2l_toInt, k2]
  apply Int64.toInt_inj.mp
  unfold loS
  rw [i2l_toInt, sub32 (by omega) (by omega), e1, sub64 (by rw [i2l_toInt]; omega) (by rw [i2l_toInt]; omega), i2l_toInt, e2]
theorem hi_eq {d rise : Int32} (hd : okD d) (hr : Sm rise 100) : (d + d * rise / 100 + 1).toInt64 = hiS d rise := by
  obtain ⟨d1, d2⟩ := hd
  obtain ⟨r1, r2⟩ := hr
  have p0 : 0 ≤ d.toInt * rise.toInt := Int.mul_nonneg (by omega) r1
  have p1 : d.toInt * rise.toInt ≤ 100000 * 100 := Int.mul_le_mul d2 r2 r1 (by omega)
  have e1 : (d * rise).toInt = d.toInt * rise.toInt := mul32 (by omega) (by omega)
  have e2 : (d * rise / 100).toInt = d.toInt * rise.toInt / 100 := by rw [div32 (by omega) (by decide), e1, show (100 : Int32).toInt = 100 by decide]
  have e3 : (d + d * rise / 100).toInt = d.toInt + d.toInt * rise.toInt / 100 := by rw [add32 (by omega) (by omega), e2]
  have e4 : (d + d * rise / 100 + 1).toInt = d.toInt + d.toInt * rise.toInt / 100 + 1 := by
    have : (1 : Int32).toInt = 1 := by decide
    rw [add32 (by omega) (by omega), e3, this]
  have f1 : (d.toInt64 * rise.toInt64).toInt = d.toInt * rise.toInt := by rw [mul64, i2l_toInt, i2l_toInt] <;> rw [i2l_toInt, i2l_toInt] <;> omega
  have f2 : (d.toInt64 * rise.toInt64 / 100).toInt = d.toInt * rise.toInt / 100 := by rw [div64 (by omega) (by decide), f1, k100]
  have f3 : (d.toInt64 + d.toInt64 * rise.toInt64 / 100).toInt = d.toInt + d.toInt * rise.toInt / 100 := by rw [add64, i2l_toInt, f2] <;> rw [i2l_toInt, f2] <;> omega
  apply Int64.toInt_inj.mp
  unfold hiS
  rw [i2l_toInt, e4, add64, f3, k1] <;> rw [f3, k1] <;> omega
noncomputable def goR (r : Nat → Int32) (C nx : Nat) (mg : Nat → Int32) (cl : Int32) : Nat → Int32 :=
  let w := nF r nx (r (208 + nx)) mg (x0S (r 3) (r 15) (fd0 r nx (r 3) (tgtV r (r (208 + nx))) cl)) C
  goS r nx (cutD w.1) w.2
def GoH (r : Nat → Int32) (C P nx : Nat) : Prop := NotH r C ∧ PtH r P ∧ nx < 100 ∧ Sm (r (208 + nx)) 2000 ∧ okD (r 3) ∧ Sm (r 15) 100
theorem goC_ok {M : MM} {b C P nx : Nat} {r : Nat → Int32} {mg : Nat → Int32} {cl : Int32} (H : GoH r C P nx) (hR : Rep M b r) (hmg : ∀ c, c < C → M (b + (11 + 9 * c)) 13 = mg c) : ∃ M', f_X4_goTo b (nI nx) cl M = some M' ∧ Rep M' b (goR r C nx mg cl) ∧ (∀ o, 11 ≤ o → M' (b + o) = M (b + o)) ∧ Fr b M M' := by
  obtain ⟨hN, hP, hnx, hf, hd, hr⟩ := H
  have m10 : M b 10 = r 3 := hR.s.2.2.2.2.1
  have m2 : M (b + 1 + 1) nx = r (208 + nx) := (hR.r hnx).1
  have m8 : M (b + 8) nx = r (1508 + nx) := (hR.r hnx).2.1
  have mr : M (b + 7) 3 = r 15 := hR.g (i := 3) (by omega)
  obtain ⟨M', e, q⟩ := goC_loop (M := M) (b := b) (nx := nx) (f := r (208 + nx)) (mg := mg) (x0 := x0S (r 3) (r 15) (fd0 r nx (r 3) (tgtV r (r (208 + nx))) cl)) hN hR hnx hmg C 0 FU (by omega) (by have := hN.1.2; unfold FU; omega)
  refine ⟨M', ?_, q⟩
  unfold f_X4_goTo f_X4_wantedDrive
  rw [gd_of (inb_nI hnx (by omega)), ix_nI (by omega), m2, tgtC_val hR hP hf, Option.bind_some, gd_of (inb_nI hnx (by omega)), m8, m10, show (3 : Int32) = nI 3 from rfl, ix_nI (by omega), mr, lo_eq hd, hi_eq hd hr]
  have ew : (if r (1508 + nx) ≤ 0 then (if cl ≤ 0 then some (2 * (r 3).toInt64) else gd (nzl cl.toInt64) (some ((r 3).toInt64 * (tgtV r (r (208 + nx))).toInt64 / cl.toInt64))) else gd (nzl (r (1508 + nx)).toInt64) (some ((tgtV r (r (208 + nx))).toInt64 * 1000 / (r (1508 + nx)).toInt64))) = some (fd0 r nx (r 3) (tgtV r (r (208 + nx))) cl) := by
    unfold fd0
    by_cases q1 : r (1508 + nx) ≤ 0
    · rw [if_pos q1, if_pos q1]
      by_cases q2 : cl ≤ 0
      · rw [if_pos q2, if_pos q2]
      · rw [if_neg q2, if_neg q2, gd_of (g0 q2).1]
    · rw [if_neg q1, if_neg q1, gd_of (g0 q1).1]
  rw [ew, Option.bind_some, gd_of (inb_nI (show 3 < 6 by omega) (by omega))]
  generalize fd0 r nx (r 3) (tgtV r (r (208 + nx))) cl = y at e ⊢
  have ex : (if hiS (r 3) (r 15) < (if loS (r 3) < y then y else loS (r 3)) then hiS (r 3) (r 15) else (if loS (r 3) < y then y else loS (r 3))) = x0S (r 3) (r 15) y := by
    unfold x0S
    have e1 : (if loS (r 3) < y then y else loS (r 3)) = (if loS (r 3) ≤ y then y else loS (r 3)) := by
      by_cases a : loS (r 3) < y
      · rw [if_pos a, if_pos (by rw [Int64.lt_iff_toInt_lt] at a; rw [Int64.le_iff_toInt_le]; omega)]
      · rw [if_neg a]
        by_cases a2 : loS (r 3) ≤ y
        · rw [if_pos a2]
          rw [Int64.lt_iff_toInt_lt] at a; rw [Int64.le_iff_toInt_le] at a2
          exact Int64.toInt_inj.mp (by omega)
        · rw [if_neg a2]
    rw [e1]
    generalize (if loS (r 3) ≤ y then y else loS (r 3)) = w
    by_cases a : hiS (r 3) (r 15) < w
    · rw [if_pos a, if_neg (Int64.not_le.mpr a)]
    · rw [if_neg a, if_pos (Int64.not_lt.mp a)]
  rw [ex]
  exact e
theorem goM_loop {M : MM} {C nx : Nat} {f : Int32} {mg : Nat → Int32} {x0 : Int64} (H : NotH (M 658) C) (hnx : nx < 100) (hmg : ∀ c, c < C → M 661 c = mg c) : ∀ (d j k : Nat), j + d = C → d < k → f_X7_goesTo_158 657 k (nI nx) f (nF (M 658) nx f mg x0 j).1 (nF (M 658) nx f mg x0 j).2 (nI j) M = some (msf M 658 (goS (M 658) nx (cutD (nF (M 658) nx f mg x0 C).1) (nF (M 658) nx f mg x0 C).2)) := by
  obtain ⟨⟨h5, hC⟩, hN, hl⟩ := H
  intro d
  induction d with
  | zero =>
    intro j k h1 h2
    obtain ⟨k, rfl⟩ : ∃ k', k = k' + 1 := ⟨k - 1, by omega⟩
    have e : j = C := by omega
    subst e
    generalize nF (M 658) nx f mg x0 j = w
    obtain ⟨y, nt⟩ := w
    rw [f_X7_goesTo_158.eq_2, show (5 : Int32) = nI 5 from rfl, gd_of (inb_nI (by omega) (by omega)), ix_nI (show 5 ≤ 1000000 by omega)]
    simp only [Nat.reduceAdd]
    rw [h5, if_pos (Int32.le_refl _)]
    have e1 : (1708 : Int32) + nI nx = nI (1708 + nx) := nI_add 1708 nx
    have e2 : (1608 : Int32) + nI nx = nI (1608 + nx) := nI_add 1608 nx
    have key : ∀ s : Int64, f_X7_goesTo_301 657 (nI nx) nt s M = some (msf M 658 (goS (M 658) nx s.toInt32 nt)) := by
      intro s
      unfold f_X7_goesTo_301 goS
      simp only [Nat.reduceAdd]
      rw [e1, e2, show (2 : Int32) = nI 2 from rfl, show (3 : Int32) = nI 3 from rfl, gd_of (inb_nI (by omega) (by omega)), gd_of (inb_nI (by omega) (by omega)), gd_of (inb_nI (by omega) (by omega)), gd_of (inb_nI (by omega) (by omega)), ix_nI (by omega), ix_nI (by omega), ix_nI (by omega), ix_nI (by omega)]
      rw [show ms M 658 (1708 + nx) nt = msf M 658 (upd (M 658) (1708 + nx) nt) from rfl, ms_msf, ms_msf, ms_msf]
    unfold f_X7_goesTo_286 cutD
    simp only [key]
    by_cases q : y ≤ 100000
    · rw [if_pos ((lcp_le0 _ _).mpr q), if_pos q]
      by_cases q2 : 1 ≤ y
      · rw [if_pos ((lcp_ge0 _ _).mpr q2), if_pos q2]
      · rw [if_neg (fun z => q2 ((lcp_ge0 _ _).mp z)), if_neg q2]
    · rw [if_neg (fun z => q ((lcp_le0 _ _).mp z)), if_neg q, if_pos (by decide)]
  | succ d ih =>
    intro j k h1 h2
    obtain ⟨k, rfl⟩ : ∃ k', k = k' + 1 := ⟨k - 1, by omega⟩
    have hj : j < C := by omega
    have e1 := ih (j + 1) k (by omega) (by omega)
    have ei : (908 : Int32) + 6 * nI nx + nI j = nI (908 + 6 * nx + j) := by
      rw [show (908 : Int32) + 6 * nI nx = nI (908 + 6 * nx) from lin 908 6 nx, nI_add]
    rw [← e1, f_X7_goesTo_158.eq_2, show (5 : Int32) = nI 5 from rfl, gd_of (inb_nI (by omega) (by omega)), ix_nI (show 5 ≤ 1000000 by omega)]
    simp only [Nat.reduceAdd]
    rw [h5, if_neg (by rw [le_nI (by omega) (by omega)]; omega), limM_ok (by omega) (hN j hj), Option.bind_some, ei, gd_of (inb_nI (by omega) (by omega)), gd_of (inb_nI (by omega) (by omega)), ix_nI (by omega), ix_nI (by omega), hmg j hj]
    have key : ∀ s0 : Int32, f_X7_goesTo_215 657 (fun u0 u1 u2 u3 u4 uM => f_X7_goesTo_158 657 k u0 u1 u2 u3 u4 uM) (nI nx) f (nF (M 658) nx f mg x0 j).1 (nF (M 658) nx f mg x0 j).2 (nI j) (limR (M 658) j f) s0 M = f_X7_goesTo_158 657 k (nI nx) f (nStep (limR (M 658) j f) s0 j (nF (M 658) nx f mg x0 j)).1 (nStep (limR (M 658) j f) s0 j (nF (M 658) nx f mg x0 j)).2 (nI (j + 1)) M := by
      intro s0
      generalize nF (M 658) nx f mg x0 j = w
      obtain ⟨y, nt⟩ := w
      unfold f_X7_goesTo_215 f_X7_goesTo_263 nStep
      rw [nI_1]
      by_cases q1 : limR (M 658) j f = -6
      · rw [if_pos q1, if_pos (Or.inl q1)]
      · by_cases q2 : s0 ≤ 0
        · rw [if_neg q1, if_pos q2, if_pos (Or.inr (Or.inl q2))]
        · rw [if_neg q1, if_neg q2, gd_of (g0 q2).1, gd_of (g0 q2).1]
          show (if lcp y (ntQ (limR (M 658) j f) s0) ≤ 0 then _ else f_X7_goesTo_158 657 k (nI nx) f (ntQ (limR (M 658) j f) s0) (nI j) (nI (j + 1)) M) = _
          by_cases q3 : y ≤ ntQ (limR (M 658) j f) s0
          · rw [if_pos ((lcp_le0 _ _).mpr q3), if_pos (Or.inr (Or.inr q3))]
          · rw [if_neg (fun z => q3 ((lcp_le0 _ _).mp z)), if_neg (fun z => z.elim q1 (fun z => z.elim q2 q3))]
    rw [key, key, nF]
    unfold gN
    by_cases q : M 658 (908 + 6 * nx + j) = -6
    · rw [if_pos q, if_pos q]
    · rw [if_neg q, if_neg q]
theorem goM_ok {M : MM} {C P nx : Nat} {mg : Nat → Int32} {cl : Int32} (H : GoH (M 658) C P nx) (hmg : ∀ c, c < C → M 661 c = mg c) : f_X7_goesTo 657 (nI nx) cl M = some (msf M 658 (goR (M 658) C nx mg cl)) := by
  obtain ⟨hN, hP, hnx, hf, hd, hr⟩ := H
  have e := goM_loop (M := M) (nx := nx) (f := M 658 (208 + nx)) (mg := mg) (x0 := x0S (M 658 3) (M 658 15) (fd0 (M 658) nx (M 658 3) (tgtV (M 658) (M 658 (208 + nx))) cl)) hN hnx hmg C 0 FU (by omega) (by have := hN.1.2; unfold FU; omega)
  have e1 : (208 : Int32) + nI nx = nI (208 + nx) := nI_add 208 nx
  have e2 : (1508 : Int32) + nI nx = nI (1508 + nx) := nI_add 1508 nx
  have key : ∀ y : Int64, f_X7_goesTo_86 657 (nI nx) (M 658 (208 + nx)) (M 658 3).toInt64 y M = f_X7_goesTo_158 657 FU (nI nx) (M 658 (208 + nx)) (x0S (M 658 3) (M 658 15) y) (-6) 0 M := by
    intro y
    unfold f_X7_goesTo_86 f_X7_goesTo_132 f_X7_goesTo_149 x0S
    rw [show f_X7_setting 657 3 M = some (M 658 15) from setting_ok (k := 3) (by omega), Option.bind_some]
    show (if 0 ≤ lcp y (loS (M 658 3)) then (if lcp y (hiS (M 658 3) (M 658 15)) ≤ 0 then f_X7_goesTo_158 657 FU (nI nx) (M 658 (208 + nx)) y (-6) 0 M else f_X7_goesTo_158 657 FU (nI nx) (M 658 (208 + nx)) (hiS (M 658 3) (M 658 15)) (-6) 0 M) else (if lcp (loS (M 658 3)) (hiS (M 658 3) (M 658 15)) ≤ 0 then f_X7_goesTo_158 657 FU (nI nx) (M 658 (208 + nx)) (loS (M 658 3)) (-6) 0 M else f_X7_goesTo_158 657 FU (nI nx) (M 658 (208 + nx)) (hiS (M 658 3) (M 658 15)) (-6) 0 M)) = _
    have fin : ∀ w : Int64, (if lcp w (hiS (M 658 3) (M 658 15)) ≤ 0 then f_X7_goesTo_158 657 FU (nI nx) (M 658 (208 + nx)) w (-6) 0 M else f_X7_goesTo_158 657 FU (nI nx) (M 658 (208 + nx)) (hiS (M 658 3) (M 658 15)) (-6) 0 M) = f_X7_goesTo_158 657 FU (nI nx) (M 658 (208 + nx)) (if w ≤ hiS (M 658 3) (M 658 15) then w else hiS (M 658 3) (M 658 15)) (-6) 0 M := by
      intro w
      by_cases q : w ≤ hiS (M 658 3) (M 658 15)
      · rw [if_pos ((lcp_le0 _ _).mpr q), if_pos q]
      · rw [if_neg (fun z => q ((lcp_le0 _ _).mp z)), if_neg q]
    rw [fin, fin]
    by_cases q : loS (M 658 3) ≤ y
    · rw [if_pos ((lcp_ge0 _ _).mpr q), if_pos q]
    · rw [if_neg (fun z => q ((lcp_ge0 _ _).mp z)), if_neg q]
  unfold f_X7_goesTo
  rw [show (3 : Int32) = nI 3 from rfl, e1, e2, gd_of (inb_nI (by omega) (by omega)), gd_of (inb_nI (by omega) (by omega)), gd_of (inb_nI (by omega) (by omega)), ix_nI (by omega), ix_nI (by omega), ix_nI (by omega)]
  simp only [Nat.reduceAdd]
  rw [tgtM_val hP hf, Option.bind_some, Option.bind_some, gd_of (inb_nI (by omega) (by omega))]
  simp only [key]
  have e : ∀ y, y = fd0 (M 658) nx (M 658 3) (tgtV (M 658) (M 658 (208 + nx))) cl → f_X7_goesTo_158 657 FU (nI nx) (M 658 (208 + nx)) (x0S (M 658 3) (M 658 15) y) (-6) 0 M = some (msf M 658 (goR (M 658) C nx mg cl)) := fun y hy => by rw [hy]; exact e
  by_cases q1 : M 658 (1508 + nx) ≤ 0
  · rw [if_pos q1]
    by_cases q2 : cl ≤ 0
    · rw [if_pos q2]
      exact e _ (by unfold fd0; rw [if_pos q1, if_pos q2])
    · rw [if_neg q2, gd_of (g0 q2).1]
      exact e _ (by unfold fd0; rw [if_pos q1, if_neg q2])
  · rw [if_neg q1, gd_of (g0 q1).1]
    exact e _ (by unfold fd0; rw [if_neg q1])
