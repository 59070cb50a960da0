/-! PURE, the class alone: by program out of the same part of whole -/
/-! PURE: the drive for the next line, both sides -/
noncomputable def tgtV (r : Nat → Int32) (f : Int32) : Int32 := Classical.epsilon (fun v => Tg (PtR r) f v)
def PtH (r : Nat → Int32) (P : Nat) : Prop := r 4 = nI P ∧ P ≤ 8 ∧ 0 < P ∧ (∀ j, j < P → Sm (r (18 + 2 * j)) 2000) ∧ ∀ x y z, PtR r x y → PtR r x z → y = z
theorem tgtV_of {r : Nat → Int32} {P : Nat} {f v : Int32} (H : PtH r P) (h : Tg (PtR r) f v) : v = tgtV r f :=
  Tg.uniq H.2.2.2.2 h (Classical.epsilon_spec (p := fun v => Tg (PtR r) f v) ⟨v, h⟩)
theorem tgtC_val {M : MM} {b P : Nat} {r : Nat → Int32} {f : Int32} (hR : Rep M b r) (H : PtH r P) (hf : Sm f 2000) : f_X3_targetAt (b + 3) f M = some (tgtV r f) := by
  obtain ⟨h4, h8, h0, hb, hfn⟩ := id H
  have hPn : Pn r = P := by unfold Pn; rw [h4, ix_nI (by omega)]
  have hs := hR.2.2.1
  have hp := hR.2.pts
  rw [hPn] at hs hp
  have hb2 : ∀ j, j < P → Sm (M (b + 3 + 1) j) 2000 := fun j hj => by
    obtain ⟨p, q1, q2, -⟩ := hR.2.2.2.2 j (by rw [hPn]; exact hj)
    rw [hPn] at q1
    show Sm (M (b + 4) j) 2000
    rw [q2]
    exact hb p q1
  obtain ⟨v, e1, t1⟩ := tgtA_ok (a := b + 3) (hR.s.2.2.2.2.2.2.2.2.2.2.2.trans h4) h8 h0 hs hb2 hf
  rw [e1, tgtV_of H (Tg.cong hp t1)]
-- the notches of the next line
def ntQ (lim g : Int32) : Int64 := lim.toInt64 * 1000 / g.toInt64
def nStep (lim g : Int32) (c : Nat) (x : Int64 × Int32) : Int64 × Int32 := if lim = -6 ∨ g ≤ 0 ∨ x.1 ≤ ntQ lim g then x else (ntQ lim g, nI c)
def gN (r : Nat → Int32) (nx : Nat) (mg : Nat → Int32) (c : Nat) : Int32 := if r (908 + 6 * nx + c) = -6 then mg c else r (908 + 6 * nx + c)
def nF (r : Nat → Int32) (nx : Nat) (f : Int32) (mg : Nat → Int32) (x0 : Int64) : Nat → Int64 × Int32
  | 0 => (x0, -6)
  | c + 1 => nStep (limR r c f) (gN r nx mg c) c (nF r nx f mg x0 c)
def okL (lim : Int32) : Prop := lim = -6 ∨ Sm lim 200000
theorem limS_ok {fr to li : Nat → Int32} {f : Int32} : ∀ {N : Nat}, (∀ j, j < N → Sm (li j) 200000) → okL (limS fr to li f N)
  | 0, _ => Or.inl rfl
  | n + 1, h => by
    rw [limS]
    split
    · exact Or.inr (h n (by omega))
    · exact limS_ok (fun j hj => h j (by omega))
theorem g0 {g : Int32} (h : ¬ g ≤ 0) : nzl g.toInt64 = true ∧ 1 ≤ g.toInt := by
  have h1 : 1 ≤ g.toInt := by rw [i_le, z0] at h; omega
  refine ⟨nzl_of (fun e => ?_), h1⟩
  have := congrArg Int64.toInt e
  rw [i2l_toInt, show (0 : Int64).toInt = 0 by decide] at this
  omega
theorem ntQ_bd {lim g : Int32} (hl : Sm lim 200000) (hg : ¬ g ≤ 0) : 0 ≤ (ntQ lim g).toInt ∧ (ntQ lim g).toInt ≤ 200000000 := by
  have h1 := (g0 hg).2
  obtain ⟨l1, l2⟩ := hl
  have e1 : (lim.toInt64 * 1000).toInt = lim.toInt * 1000 := by rw [mul64, i2l_toInt, k1000] <;> rw [i2l_toInt, k1000] <;> omega
  unfold ntQ
  rw [div64 (by rw [e1]; omega) (by rw [i2l_toInt]; omega), e1, i2l_toInt]
  constructor
  · exact Int.ediv_nonneg (by omega) (by omega)
  · refine Int.ediv_le_of_le_mul (by omega) ?_
    have : 200000000 * 1 ≤ 200000000 * g.toInt := Int.mul_le_mul_of_nonneg_left h1 (by omega)
    omega
theorem ntC_ok {M : MM} {b c nx : Nat} {r : Nat → Int32} {f : Int32} (hR : Rep M b r) (hc : c < Cn r) (h6 : c < 6) (hN : ∃ N, r (34 + 29 * c + 12) = nI N ∧ N ≤ 4) (hnx : nx < 100) : f_X0_notchedDrive (b + (11 + 9 * c)) (nI nx) f M = some (if limR r c f = -6 ∨ (if r (908 + 6 * nx + c) = -6 then M (b + (11 + 9 * c)) 13 else r (908 + 6 * nx + c)) ≤ 0 then -6 else Int64.toInt32 (ntQ (limR r c f) (if r (908 + 6 * nx + c) = -6 then M (b + (11 + 9 * c)) 13 else r (908 + 6 * nx + c)))) := by
  have key : ∀ s0 : Int32, f_X0_notchedDrive_30 (b + (11 + 9 * c)) M (limR r c f) s0 = some (if limR r c f = -6 ∨ s0 ≤ 0 then -6 else Int64.toInt32 (ntQ (limR r c f) s0)) := by
    intro s0
    unfold f_X0_notchedDrive_30 f_X0_notchedDrive_57 f_X0_notchedDrive_59
    by_cases q1 : limR r c f = -6
    · rw [if_pos q1, if_pos (Or.inl q1)]
    · by_cases q2 : s0 ≤ 0
      · rw [if_neg q1, if_pos q2, if_pos (Or.inr q2)]
      · rw [if_neg q1, if_neg q2, gd_of (g0 q2).1, if_neg (fun z => z.elim q1 q2)]; rfl
  unfold f_X0_notchedDrive
  rw [limC_ok hR hc h6 hN, Option.bind_some, gd_of (inb_nI hnx (by omega)), gd_of (inb_nI hnx (by omega)), ix_nI (by omega), show b + (11 + 9 * c) + 8 = b + (19 + 9 * c) by omega, (hR.cl hc h6 hnx).2]
  by_cases q : r (908 + 6 * nx + c) = -6
  · rw [if_pos q, if_pos q, key]
  · rw [if_neg q, if_neg q, key]
theorem cut_eq (y : Int64) : (if (if 100000 < y then 100000 else y) < 1 then 1 else (if 100000 < y then 100000 else y)) = (if y ≤ 100000 then (if 1 ≤ y then y else 1) else 100000) := by
  have a : (100000 : Int64).toInt = 100000 := by decide
  have b : (1 : Int64).toInt = 1 := by decide
  by_cases h : 100000 < y
  · rw [if_pos h, if_neg (by decide), if_neg (by rw [Int64.le_iff_toInt_le]; rw [Int64.lt_iff_toInt_lt] at h; omega)]
  · rw [if_neg h, if_pos (Int64.not_lt.mp h)]
    by_cases h2 : y < 1
    · rw [if_pos h2, if_neg (by rw [Int64.le_iff_toInt_le]; rw [Int64.lt_iff_toInt_lt] at h2; omega)]
    · rw [if_neg h2, if_pos (Int64.not_lt.mp h2)]
def cutD (y : Int64) : Int32 := Int64.toInt32 (if y ≤ 100000 then (if 1 ≤ y then y else 1) else 100000)
theorem cutD_ok (y : Int64) : okD (cutD y) := by
  have a : (100000 : Int64).toInt = 100000 := by decide
  have b : (1 : Int64).toInt = 1 := by decide
  unfold cutD okD
  by_cases h : y ≤ 100000
  · rw [if_pos h]
    rw [Int64.le_iff_toInt_le, a] at h
    by_cases h2 : 1 ≤ y
    · rw [if_pos h2]
      rw [Int64.le_iff_toInt_le, b] at h2
      rw [l2i_toInt (by omega) (by omega)]; omega
    · rw [if_neg h2]; decide
  · rw [if_neg h]; decide
def goS (r : Nat → Int32) (nx : Nat) (z nt : Int32) : Nat → Int32 := upd (upd (upd (upd r (1708 + nx) nt) (1608 + nx) z) 2 (nI nx)) 3 z
theorem upd_swap {f : Nat → Int32} {i j : Nat} {x y : Int32} (h : i ≠ j) : upd (upd f i x) j y = upd (upd f j y) i x := by
  funext k
  by_cases a : k = j
  · subst a; rw [upd_eq, upd_ne (Ne.symm h), upd_eq]
  · rw [upd_ne a]
    by_cases b : k = i
    · subst b; rw [upd_eq, upd_eq]
    · rw [upd_ne b, upd_ne b, upd_ne a]
def NotH (r : Nat → Int32) (C : Nat) : Prop := (r 5 = nI C ∧ C ≤ 6) ∧ (∀ c, c < C → ∃ N, r (34 + 29 * c + 12) = nI N ∧ N ≤ 4) ∧ ∀ c f, c < C → okL (limR r c f)
theorem goC_loop {M : MM} {b C nx : Nat} {r : Nat → Int32} {f : Int32} {mg : Nat → Int32} {x0 : Int64} (H : NotH r C) (hR : Rep M b r) (hnx : nx < 100) (hmg : ∀ c, c < C → M (b + (11 + 9 * c)) 13 = mg c) : ∀ (d j k : Nat), j + d = C → d < k → ∃ M', f_X4_goTo_81 b k (nI nx) f (nF r nx f mg x0 j).1 (nF r nx f mg x0 j).2 (nI j) M = some M' ∧ Rep M' b (goS r nx (cutD (nF r nx f mg x0 C).1) (nF r nx f mg x0 C).2) ∧ (∀ o, 11 ≤ o → M' (b + o) = M (b + o)) ∧ Fr b M M' := by
  obtain ⟨⟨h5, hC⟩, hN, hl⟩ := H
  have hCn : Cn r = C := by unfold Cn; rw [h5, ix_nI (by omega)]
  have m3 : M b 3 = nI C := hR.s.2.1.trans h5
  intro d
  induction d with
  | zero =>
    intro j k h1 h2
    obtain ⟨k, rfl⟩ : ∃ k', k = k' + 1 := ⟨k - 1, by omega⟩
    have e : j = C := by omega
    subst e
    generalize nF r nx f mg x0 j = w
    obtain ⟨y, nt⟩ := w
    refine ⟨ms (ms (ms (ms M b 10 (cutD y)) b 9 (nI nx)) (b + 9) nx (cutD y)) (b + 10) nx nt, ?_, ?_, ?_, ?_⟩
    · rw [f_X4_goTo_81.eq_2, m3, if_pos (Int32.le_refl _)]
      simp only [cut_eq]
      show gd (inb ((ms (ms M b 10 (cutD y)) b 9 (nI nx)) b 9) 100) (gd (inb ((ms (ms (ms M b 10 (cutD y)) b 9 (nI nx)) (b + 9) (ix ((ms (ms M b 10 (cutD y)) b 9 (nI nx)) b 9)) ((ms (ms M b 10 (cutD y)) b 9 (nI nx)) b 10)) b 9) 100) (some (ms (ms (ms (ms M b 10 (cutD y)) b 9 (nI nx)) (b + 9) (ix ((ms (ms M b 10 (cutD y)) b 9 (nI nx)) b 9)) ((ms (ms M b 10 (cutD y)) b 9 (nI nx)) b 10)) (b + 10) (ix ((ms (ms (ms M b 10 (cutD y)) b 9 (nI nx)) (b + 9) (ix ((ms (ms M b 10 (cutD y)) b 9 (nI nx)) b 9)) ((ms (ms M b 10 (cutD y)) b 9 (nI nx)) b 10)) b 9)) nt))) = _
      rw [ms_eq, gd_of (inb_nI hnx (by omega)), ix_nI (by omega), ms_ne (show b ≠ b + 9 by omega), ms_eq, ms_ni (show 10 ≠ 9 by omega), ms_eq, gd_of (inb_nI hnx (by omega)), ix_nI (by omega)]
    · have t := tr_8 nx hnx
      have e : goS r nx (cutD y) nt = upd (upd (upd (upd r 3 (cutD y)) 2 (nI nx)) (1608 + nx) (cutD y)) (1708 + nx) nt := by
        unfold goS
        rw [upd_swap (show 2 ≠ 3 by omega), upd_swap (show 1608 + nx ≠ 3 by omega), upd_swap (show 1608 + nx ≠ 2 by omega), upd_swap (show 1708 + nx ≠ 3 by omega), upd_swap (show 1708 + nx ≠ 2 by omega), upd_swap (show 1708 + nx ≠ 1608 + nx by omega)]
      rw [e]
      have n0 : ∀ k, k ≠ 4 → k ≠ 5 → (k < 34 ∨ 300 < k) → k ≠ 4 ∧ k ≠ 5 ∧ ∀ c', c' < 6 → 46 + 29 * c' ≠ k := fun k a b c => ⟨a, b, fun _ _ => by omega⟩
      refine Rep.put (Rep.put (Rep.put (o := 0) (Rep.put (o := 0) hR (k := 3) rfl (by omega) (by omega) (by omega) (n0 _ (by omega) (by omega) (by omega))) (k := 2) rfl (by omega) (by omega) (by omega) (n0 _ (by omega) (by omega) (by omega))) t.2.2.1 (by omega) hnx (by omega) (n0 _ (by omega) (by omega) (by omega))) t.2.2.2 (by omega) hnx (by omega) (n0 _ (by omega) (by omega) (by omega))
    · intro o ho
      rw [ms_ne (by omega), ms_ne (by omega), ms_ne (by omega), ms_ne (by omega)]
    · exact Fr.put (Fr.put (Fr.put (o := 0) (Fr.put (o := 0) Fr.rf (by omega)) (by omega)) (by omega)) (by omega)
  | succ d ih =>
    intro j k h1 h2
    obtain ⟨k, rfl⟩ : ∃ k', k = k' + 1 := ⟨k - 1, by omega⟩
    have hj : j < C := by omega
    obtain ⟨M', e1, r1⟩ := ih (j + 1) k (by omega) (by omega)
    refine ⟨M', ?_, r1⟩
    rw [← e1, f_X4_goTo_81.eq_2, m3, if_neg (by rw [le_nI (by omega) (by omega)]; omega), gd_of (inb_nI (by omega) (by omega)), ix_nI (by omega), show b + 6 + 5 + 9 * j = b + (11 + 9 * j) by omega, ntC_ok hR (by rw [hCn]; exact hj) (by omega) (hN j hj) hnx, Option.bind_some, hmg j hj]
    unfold f_X4_goTo_129
    rw [nI_1, nF, show (if r (908 + 6 * nx + j) = -6 then mg j else r (908 + 6 * nx + j)) = gN r nx mg j from rfl]
    generalize nF r nx f mg x0 j = w
    obtain ⟨y, nt⟩ := w
    unfold nStep
    by_cases q : limR r j f = -6 ∨ gN r nx mg j ≤ 0
    · rw [if_pos q, if_pos rfl, if_pos (q.elim Or.inl (fun z => Or.inr (Or.inl z)))]
    · have q1 : ¬ limR r j f = -6 := fun z => q (Or.inl z)
      have q2 : ¬ gN r nx mg j ≤ 0 := fun z => q (Or.inr z)
      have bd := ntQ_bd ((hl j f hj).resolve_left q1) q2
      have e64 : (ntQ (limR r j f) (gN r nx mg j)).toInt32.toInt64 = ntQ (limR r j f) (gN r nx mg j) := l2i_i2l (by omega) (by omega)
      have hne : ¬ (ntQ (limR r j f) (gN r nx mg j)).toInt32 = -6 := fun z => by
        have := congrArg Int32.toInt z
        rw [l2i_toInt (by omega) (by omega), show (-6 : Int32).toInt = -6 by decide] at this
        omega
      rw [if_neg q, if_neg hne, e64]
      by_cases q3 : y ≤ ntQ (limR r j f) (gN r nx mg j)
      · rw [if_pos ((lcp_le0 _ _).mpr q3), if_pos (Or.inr (Or.inr q3))]
      · rw [if_neg (fun z => q3 ((lcp_le0 _ _).mp z)), if_neg (fun z => z.elim q1 (fun z => z.elim q2 q3))]
