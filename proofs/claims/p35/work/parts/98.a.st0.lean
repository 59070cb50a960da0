/-! THE START: classes, tables of constants, the fields that nobody writes -/
theorem st_tA {args : Array Value} {s : State} (hts : ∀ w ∈ lw_tbl, w.before args s = true) : ∀ w ∈ tblA, w.before args s = true := fun w h => hts w (List.mem_filter.mp h).1
theorem st_AO2 {args : Array Value} {s : State} (hts : ∀ w ∈ lw_tbl, w.before args s = true) : AO2 s := ⟨va_AO.of (hts _ (List.mem_of_getElem? (i := 85) (by decide +kernel))), va_AO.of (hts _ (List.mem_of_getElem? (i := 251) (by decide +kernel)))⟩
theorem st_arI {args : Array Value} {s : State} {t : FieldType} (h : (Cond.arrayClass t).before args s = true) : ∃ c : ClassId, ArrOfT s c t ∧ s.vm.findClass ("[" ++ t.toString) = some c := by
  obtain ⟨c, k, comp, h1, h2, h3⟩ := Cond.arrayClass_spec (args := args) (first := s) (o := none) (idx := []) h
  exact ⟨c, fun N z => ⟨(fun k h => by cases h), k, h2, comp, h3⟩, h1⟩
theorem st_arO {C : String} {s : State} (h : va_AO C s) : ∃ c : ClassId, ArrOfT s c (.object C) ∧ va_RA s c (.object C) := by
  obtain ⟨comp, c, k, h1, -, h2, h3, h4⟩ := Cond.arrayOver_spec (args := #[]) (first := s) (o := none) (idx := []) h
  exact ⟨c, fun N z => ⟨(fun k h => by cases h), k, h2, comp, h3⟩, k, comp, h2, h3, h1, h4⟩
theorem st_K {args : Array Value} {s : State} (hts : ∀ w ∈ lw_tbl, w.before args s = true) : ∃ (D : va_G) (dA : Nat → ClassId), va_K D vwCl (tysA dA) s := by
  have hA := st_tA hts
  obtain ⟨c0, i0, k0⟩ := u_known (C := RX0) (T := TX0) (N := 18) (n := 18) hA inX0 (hA _ mt_X0)
  obtain ⟨c1, i1, k1⟩ := u_known (C := RX1) (T := TX1) (N := 3) (n := 3) hA inX1 (hA _ mt_X1)
  obtain ⟨c2, i2, k2⟩ := u_known (C := RX2) (T := TX2) (N := 2) (n := 2) hA inX2 (hA _ mt_X2)
  obtain ⟨c3, i3, k3⟩ := u_known (C := RX3) (T := TX3) (N := 3) (n := 3) hA inX3 (hA _ mt_X3)
  obtain ⟨c4, i4, k4⟩ := u_known (C := RX4) (T := TX4) (N := 17) (n := 17) hA inX4 (hA _ mt_X4)
  obtain ⟨c5, i5, k5⟩ := u_known (C := RX5) (T := TX5) (N := 7) (n := 7) hA inX5 (hA _ mt_X5)
  obtain ⟨c6, i6, k6⟩ := u_known (C := RX6) (T := TX6) (N := 6) (n := 6) hA inX6 (hA _ mt_X6)
  obtain ⟨a0, e0, f0⟩ := st_arI (hA _ kArI)
  obtain ⟨a1, e1, f1⟩ := st_arI (hA _ kArZ)
  obtain ⟨a2, e2, f2⟩ := st_arO (st_AO2 hts).1
  obtain ⟨a3, e3, f3⟩ := st_arO (st_AO2 hts).2
  refine ⟨(fun k => [c0, c1, c2, c3, c4, c5, c6].getD k 0, fun k => [i0, i1, i2, i3, i4, i5, i6].getD k (fun _ => 0)), fun k => [a0, a1, a2, a3].getD k 0, fun k q hq => ?_, fun k q hq => ?_⟩
  · match k, hq with
    | 0, hq => cases hq; exact k0
    | 1, hq => cases hq; exact k1
    | 2, hq => cases hq; exact k2
    | 3, hq => cases hq; exact k3
    | 4, hq => cases hq; exact k4
    | 5, hq => cases hq; exact k5
    | 6, hq => cases hq; exact k6
    | k + 7, hq => simp [vwCl] at hq
  · match k, hq with
    | 0, hq => cases hq; exact ⟨e0, f0⟩
    | 1, hq => cases hq; exact ⟨e1, f1⟩
    | 2, hq => cases hq; exact ⟨e2, f2⟩
    | 3, hq => cases hq; exact ⟨e3, f3⟩
    | k + 4, hq => simp [tysA] at hq
def gvL : List Cond := flatC (Jvm.Cond.and given_1 narrow_1)
theorem st_row {args : Array Value} {s : State} {f : String} {v : Nat → Int32} {A : Nat → Prop} (hts : ∀ w ∈ lw_tbl, w.before args s = true) (hgv : (Jvm.Cond.and given_1 narrow_1).before args s = true) (hl : Cond.laysStatic "ShakerSweep" f "[I" ∈ lw_tbl) (harr : Cond.arrayOf (.static "ShakerSweep" f "[I") .int ∈ gvL) (hlen : Cond.eq (.length (.static "ShakerSweep" f "[I")) (.int 6) ∈ gvL) (hel : ∀ j, j < 6 → Cond.eq (.elem (.static "ShakerSweep" f "[I") (.int (Int32.ofNat j))) (.int (v j)) ∈ gvL) (hA : ∀ a : Nat, a < s.heap.size → ¬ A a) : ∃ t, SF1 f v t A s s.heap := by
  have hs := flat_of_before _ hgv
  obtain ⟨t, h1, h2⟩ := va_Tof (N := 6) (f := fun j => .int (v j)) (A := A) (by decide) (hs _ harr) (va_eqt (hs _ hlen)) (fun j hj => va_eqt (hs _ (hel j hj))) hA
  exact ⟨t, va_Zref (hts _ hl) (hts _ (List.mem_filter.mp mi_X6).1) h1 hA, h2⟩
def enc (x : Int32) : Nat := if 0 ≤ x.toInt then 2 * x.toInt.toNat else 2 * (-x.toInt).toNat + 1
theorem dc_enc (x : Int32) : dcI (enc x) = x := by
  unfold dcI enc
  by_cases h : 0 ≤ x.toInt
  · rw [if_pos h, if_pos (by omega), show 2 * x.toInt.toNat / 2 = x.toInt.toNat by omega, Int.toNat_of_nonneg h]
    exact Int32.ofInt_toInt x
  · rw [if_neg h, if_neg (by omega), show (2 * (-x.toInt).toNat + 1) / 2 = (-x.toInt).toNat by omega, Int.toNat_of_nonneg (by omega), Int.neg_neg]
    exact Int32.ofInt_toInt x
theorem st_SF {args : Array Value} {s : State} {A : Nat → Prop} {b L : Nat} {xs : Nat → Int32} (hX : va_X b L xs s s.heap) (hbl : b < s.heap.size) (hts : ∀ w ∈ lw_tbl, w.before args s = true) (hgv : (Jvm.Cond.and given_1 narrow_1).before args s = true) (hA : ∀ a : Nat, a < s.heap.size → ¬ A a) : ∃ ad0 : Nat → Nat, ad0 1003 = b ∧ SF ad0 A s s.heap ∧ SCX ad0 L xs := by
  obtain ⟨t0, h0⟩ := st_row (f := "SETTING_LEAST") (v := sLE) (A := A) hts hgv (List.mem_of_getElem? (i := 445) (by decide +kernel)) (by decide +kernel) (by decide +kernel) (by decide +kernel) hA
  obtain ⟨t1, h1⟩ := st_row (f := "SETTING_GREATEST") (v := sGR) (A := A) hts hgv (List.mem_of_getElem? (i := 447) (by decide +kernel)) (by decide +kernel) (by decide +kernel) (by decide +kernel) hA
  obtain ⟨t2, h2⟩ := st_row (f := "SETTING_AT_FIRST") (v := sAF) (A := A) hts hgv (List.mem_of_getElem? (i := 153) (by decide +kernel)) (by decide +kernel) (by decide +kernel) (by decide +kernel) hA
  have hxs : (fun j => dcI ((fun k => if 2000 ≤ k then enc (xs (k - 2000)) else [t0, t1, t2, b, L].getD (k - 1000) 0) (2000 + j))) = xs := funext (fun j => by
    show dcI (if 2000 ≤ 2000 + j then enc (xs (2000 + j - 2000)) else _) = xs j
    rw [if_pos (by omega), show 2000 + j - 2000 = j by omega, dc_enc])
  refine ⟨fun k => if 2000 ≤ k then enc (xs (k - 2000)) else [t0, t1, t2, b, L].getD (k - 1000) 0, rfl, ⟨h0, h1, h2, ?_, hbl, hA b hbl⟩, rfl, hxs⟩
  rw [hxs]
  exact hX
