/-! THE START: the law's walk up to its loop, and the whole -/
theorem bk_0 : bk 0 0 65 := by unfold bk; decide +kernel
theorem bk_65 : bk 65 65 65 := by unfold bk; decide +kernel
theorem bk_130 : bk 130 130 65 := by unfold bk; decide +kernel
theorem bk_195 : bk 195 195 65 := by unfold bk; decide +kernel
set_option maxHeartbeats 4000000 in
set_option maxRecDepth 100000 in
theorem WX.cg {dA : Nat → ClassId} {u ad : Nat → Nat} (h : ∀ k, k < 657 → u k = ad k) : WE (WX dA u) (WX dA ad) := by
  unfold WX
  refine WE.app (show WE [(u 653, cellF dA u 653 (M0 653))] [(ad 653, cellF dA ad 653 (M0 653))] from WE.one (h _ (by omega)) (Or.inr ⟨dA 3, 2, stA u 653, stA ad 653, rfl, rfl, fun q hq => ?_⟩)) (WE.app (show WE [(u 650, cellF dA u 650 (M0 650))] [(ad 650, cellF dA ad 650 (M0 650))] from WE.one (h _ (by omega)) (Or.inl ?_)) ?_)
  · rcases (show q = 0 ∨ q = 1 by omega) with rfl | rfl
    · show some (u (130 + 65 * 0)) = some (ad (130 + 65 * 0))
      rw [h _ (by omega)]
    · show some (u (130 + 65 * 1)) = some (ad (130 + 65 * 1))
      rw [h _ (by omega)]
  · show (Sum.inr (6, [.ref (u 0), .ref (u 65), .ref (u 651), .ref (u 653), .ref (u 654), .ref (u 655)]) : va_E) = Sum.inr (6, [.ref (ad 0), .ref (ad 65), .ref (ad 651), .ref (ad 653), .ref (ad 654), .ref (ad 655)])
    rw [h 0 (by omega), h 65 (by omega), h 651 (by omega), h 653 (by omega), h 654 (by omega), h 655 (by omega)]
  refine WE.app (WE.blk bk_0 (fun i hi => h _ (by omega)) (fun _ _ => rfl)) (WE.app (WE.blk bk_65 (fun i hi => h _ (by omega)) (fun _ _ => rfl)) (WE.app ?_ (WE.app (WE.blk bkH0 (fun i hi => h _ (by omega)) (fun _ _ => rfl)) (WE.app (show WE [(u 654, cellF dA u 654 (M0 654))] [(ad 654, cellF dA ad 654 (M0 654))] from WE.one (h _ (by omega)) (Or.inl rfl)) (WE.app (WE.blk bkT (fun i hi => h _ (by omega)) (fun _ _ => rfl)) (WE.app (WE.blk bk_130 (fun i hi => h _ (by omega)) (fun _ _ => rfl)) (WE.blk bk_195 (fun i hi => h _ (by omega)) (fun _ _ => rfl))))))))
  show WE [(u 651, cellF dA u 651 (M0 651)), (u 652, cellF dA u 652 (M0 652))] [(ad 651, cellF dA ad 651 (M0 651)), (ad 652, cellF dA ad 652 (M0 652))]
  refine WE.cons (h 651 (by omega)) (Or.inl ?_) (WE.cons (h 652 (by omega)) (Or.inr ⟨dA 3, 6, stA u 652, stA ad 652, rfl, rfl, fun q hq => ?_⟩) WE.rf)
  · show (Sum.inr (1, fsH u 651 (M0 651)) : va_E) = Sum.inr (1, fsH ad 651 (M0 651))
    unfold fsH
    rw [h (651 + 1) (by omega)]
  · unfold stA
    rw [if_pos rfl, h _ (by omega)]
def cellA (dA : Nat → ClassId) (ad : Nat → Nat) (M : MM) (k : Nat) : Nat × va_E := (ad k, cellF dA ad k (M k))
theorem wl_rg {dA : Nat → ClassId} {ad : Nat → Nat} {lo n : Nat} {M : MM} : wl dA ad lo n M = (List.range' lo n).map (cellA dA ad M) := by
  rw [List.range'_eq_map_range, List.map_map]
  rfl
def plL : List Nat := List.range' 653 1 ++ (List.range' 650 1 ++ (List.range' 0 65 ++ (List.range' 65 65 ++ (List.range' 651 2 ++ (List.range' 260 390 ++ (List.range' 654 1 ++ (List.range' 655 2 ++ (List.range' 130 65 ++ List.range' 195 65))))))))
def plG (k : Nat) : Nat := if k < 130 then k + 2 else if k < 260 then k + 397 else if k < 650 then k - 126 else [1, 132, 133, 0, 524, 525, 526].getD (k - 650) 0
set_option maxRecDepth 100000 in
theorem pl_at : ∀ k, k < 657 → plL[plG k]? = some k := by decide +kernel
theorem WX.all {dA : Nat → ClassId} {ad : Nat → Nat} : WX dA ad = plL.map (cellA dA ad M0) := by
  unfold WX plL
  simp only [wl_rg, List.map_append]
theorem KW.perm {p : Program} {l : Launch} {e : Env} {R : Room} {s : State} {m : MethodId} {args : Array Value} {below : List Frame} {meth : Method} {c : Code} {D : va_G} {dA : Nat → ClassId} {ad : Nat → Nat} {nL : Nat} {A : Nat → Prop} {kc ks : Nat} {Q : State → Prop} {pc : Nat} {ls : List (Nat × Value)} {st : List Value} (k : KW p l e R s m args below meth c D nL A kc ks Q pc ls st (wl dA ad 0 657 M0)) : KW p l e R s m args below meth c D nL A kc ks Q pc ls st (WX dA ad) := by
  intro H locs la hP hD hS hl
  rw [WX.all] at hP hD
  have at' : ∀ (k : Nat) (q : Nat × va_E), (wl dA ad 0 657 M0)[k]? = some q → k < 657 ∧ (plL.map (cellA dA ad M0))[plG k]? = some q := fun k q hq => by
    have hk : k < 657 := by
      have := (List.getElem?_eq_some_iff.mp hq).1
      rw [wl_len] at this
      exact this
    refine ⟨hk, ?_⟩
    have e : (wl dA ad 0 657 M0)[k]? = some (cellA dA ad M0 k) := by
      rw [wl_rg, List.getElem?_map, List.getElem?_range' hk]
      simp
    rw [List.getElem?_map, pl_at k hk]
    exact e.symm.trans hq
  refine k H locs la (fun k q hq => hP _ q (at' k q hq).2) ⟨fun i j a b ha hb hab => ?_, fun k q hq => hD.2 _ q (at' k q hq).2⟩ hS hl
  obtain ⟨hi, h1⟩ := at' i a ha
  obtain ⟨hj, h2⟩ := at' j b hb
  have e := hD.1 _ _ a b h1 h2 hab
  have e1 := pl_at i hi
  rw [e, pl_at j hj] at e1
  exact (Option.some.inj e1).symm
set_option maxHeartbeats 4000000 in
set_option maxRecDepth 100000 in
/-- from the entry, for every script of at most 260 ints, the law comes to its end with true -/
theorem whole_start {p : Program} {e : Env} {s : State} {m : MethodId} {below : List Frame} {meth : Method} {c : Code} (l : Launch) (hflags : l.flags = flags0) {b L : Nat} {xs : Nat → Int32} (hL : L ≤ 260) (C0 : lw_At p s m meth c b L xs) : W p l e room_1 s m #[Value.ref b] below meth c s.heap [] 0 0 (lw_Z below #[Value.ref b] s) (entryFrame m ([Value.ref b] : List Value).toArray 11) := by
  obtain ⟨hx, hb, hr, hml, hown, hts, hX, hbl, hlocks, hgv⟩ := C0
  obtain ⟨D, dA, hK⟩ := st_K hts
  obtain ⟨ad0, hb0, hF, hC0⟩ := st_SF (A := fun q : Nat => s.heap.size ≤ q) hX hbl hts hgv (fun a h => Nat.not_le.mpr h)
  have X : KX p s m #[Value.ref b] meth c cL_law 11 RL D dA ad0 (fun q : Nat => s.heap.size ≤ q) := ⟨hx, hb, hml, hown, st_tA hts, hlocks, hK, fun _ h => h, hF, st_AO2 hts⟩
  have hl := lv_entry ([.ref b]) (n := 11) (Nat.le_of_ble_eq_true rfl)
  rw [lg_entry_eq]
  generalize (lg_sl ([.ref b]) ++ List.replicate (11 - (lg_sl ([.ref b])).length) Slot.unset).toArray = la at hl ⊢
  have hl : lv_has la 11 [(0, .ref b)] := hl
  suffices K : KW p l e room_1 s m #[Value.ref b] below meth c D 11 (fun q : Nat => s.heap.size ≤ q) 0 0 (lw_Z below #[Value.ref b] s) 0 [(0, .ref b)] [] [] from K s.heap [] la (fun k q h => by simp at h) ⟨fun i j p q h => by simp at h, fun k q h => by simp at h⟩ va_S.rf hl
  refine KW.new (ci := 6) (fs := fs0X6) (pc' := 3) X rfl inX6 tyX6 tyX6_ok mc_L_7 mt_X6 mi_X6 df_X6 (Nat.le_of_ble_eq_true rfl) (Nat.le_of_ble_eq_true rfl) dL_law_0 rfl (fun q => ?_)
  refine KW.dup (pc' := 4) X rfl dL_law_3 rfl ?_
  refine KW.callG (host := "") (pc' := 7) X kc_X6 yi_X6 (Or.inl mz_L_9) ⟨by decide, by decide, Nat.le_of_ble_eq_true rfl, Nat.le_of_ble_eq_true rfl⟩ (Nat.le_of_ble_eq_true rfl) dL_law_4 rfl (fun u hu hu0 => ?_)
  subst hu
  refine KW.astore (ls' := [(1, .ref (u 650)), (0, .ref b)]) (pc' := 8) X rfl (by decide) rfl dL_law_7 rfl ?_
  obtain ⟨ad, had⟩ : ∃ ad : Nat → Nat, ad = fun k => if 1000 ≤ k then ad0 k else u k := ⟨_, rfl⟩
  have a0 : ∀ k, 1000 ≤ k → ad k = ad0 k := fun k hk => by rw [had]; exact if_pos hk
  have a1 : ∀ k, k < 657 → u k = ad k := fun k hk => by rw [had]; exact (if_neg (by omega)).symm
  clear had
  refine KW.we (ws' := WX dA ad) (WX.cg a1) (KW.perm ?_)
  have hb1 : ad 1003 = b := (a0 1003 (by omega)).trans hb0
  have hC : SCX ad L xs := ⟨(a0 1004 (by omega)).trans hC0.1, (funext (fun j => by rw [a0 _ (by omega)])).trans hC0.2⟩
  subst hb1
  rw [a1 650 (by omega)]
  refine KW.aw (ls' := [(1, .ref 650), (0, .ref 1003)]) (st' := []) X a0 rfl rfl (fun Y => ?_)
  refine AW.sub (ls' := [(0, .ref 1003), (1, .ref 650)]) [1, 0] rfl ?_
  exact ok_L_law_8 Y hC ⟨⟨by omega, by omega, rfl⟩, rfl, rfl⟩ ⟨Nat.le_of_ble_eq_true rfl, Nat.le_of_ble_eq_true rfl, hr, fun _ h => h⟩ M0 (law8 hL m0_cp r0_WF r0_16 r0_15 rfl)
