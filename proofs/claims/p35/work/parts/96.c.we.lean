/-! CONSTRUCTORS: worlds that say the same; a row of constants is copied -/
def ceq (E E' : va_E) : Prop := E = E' ∨ ∃ (cA : ClassId) (n : Nat) (f g : Nat → Option Nat), E = .inl (cA, n, .inr (.inr (.inr (.inr f)))) ∧ E' = .inl (cA, n, .inr (.inr (.inr (.inr g)))) ∧ ∀ q, q < n → f q = g q
theorem arrV_cong {c : ClassId} {N : Nat} {f g : Nat → Value} (h : ∀ j, j < N → f j = g j) : arrV c N f = arrV c N g := by
  unfold arrV
  congr 1
  apply Array.ext
  · simp
  · intro i h1 h2
    simp at h1 h2
    simp [h i h1]
theorem ceq.at {D : va_G} {cl : List vw_C} {a : Nat} {E E' : va_E} {H : Heap} (h : ceq E E') (p : va_at D cl (a, E) H) : va_at D cl (a, E') H := by
  rcases h with rfl | ⟨cA, n, f, g, rfl, rfl, h⟩
  · exact p
  · show H[a]? = some (vp_cell cA (n, .inr (.inr (.inr (.inr g)))))
    rw [vp_cell_q, ← arrV_cong (f := fun j => va_rf (f j)) (fun j hj => by rw [h j hj])]
    exact p
def WE (ws ws' : va_W) : Prop := ws.length = ws'.length ∧ ∀ (k : Nat) (q : Nat × va_E), ws'[k]? = some q → ∃ E, ws[k]? = some (q.1, E) ∧ ceq E q.2
theorem WE.P {D : va_G} {cl : List vw_C} {ws ws' : va_W} {H : Heap} (h : WE ws ws') (p : va_P D cl ws H) : va_P D cl ws' H := fun k q hq => by
  obtain ⟨E, h1, h2⟩ := h.2 k q hq
  exact h2.at (p k _ h1)
theorem WE.D {A : Nat → Prop} {ws ws' : va_W} (h : WE ws ws') (d : va_D A ws) : va_D A ws' := ⟨fun i j p q hi hj e => by
  obtain ⟨E1, h1, -⟩ := h.2 i p hi
  obtain ⟨E2, h2, -⟩ := h.2 j q hj
  exact d.1 i j _ _ h1 h2 e, fun k q hq => by
  obtain ⟨E, h1, -⟩ := h.2 k q hq
  exact d.2 k (q.1, E) h1⟩
theorem WE.rf {ws : va_W} : WE ws ws := ⟨rfl, fun k q h => ⟨q.2, h, Or.inl rfl⟩⟩
theorem WE.app {w1 w1' w2 w2' : va_W} (h1 : WE w1 w1') (h2 : WE w2 w2') : WE (w1 ++ w2) (w1' ++ w2') := by
  refine ⟨by rw [List.length_append, List.length_append, h1.1, h2.1], fun k q hq => ?_⟩
  by_cases z : k < w1'.length
  · rw [List.getElem?_append_left z] at hq
    obtain ⟨E, a, b⟩ := h1.2 k q hq
    exact ⟨E, by rw [List.getElem?_append_left (by rw [h1.1]; exact z)]; exact a, b⟩
  · rw [List.getElem?_append_right (by omega)] at hq
    obtain ⟨E, a, b⟩ := h2.2 _ q hq
    exact ⟨E, by rw [List.getElem?_append_right (by rw [h1.1]; omega), h1.1]; exact a, b⟩
theorem WE.one {a a' : Nat} {E E' : va_E} (h : a = a') (h2 : ceq E E') : WE [(a, E)] [(a', E')] := by
  subst h
  refine ⟨rfl, fun k q hq => ?_⟩
  have hk : k = 0 := by
    have := (List.getElem?_eq_some_iff.mp hq).1
    simp at this
    exact this
  subst hk
  cases hq
  exact ⟨E, rfl, h2⟩
theorem WE.ofwl {dA : Nat → ClassId} {u ad : Nat → Nat} {lo lo' n : Nat} {M M' : MM} (ha : ∀ i, i < n → u (lo + i) = ad (lo' + i)) (hc : ∀ i, i < n → ceq (cellF dA u (lo + i) (M (lo + i))) (cellF dA ad (lo' + i) (M' (lo' + i)))) : WE (wl dA u lo n M) (wl dA ad lo' n M') := by
  refine ⟨by simp [wl], fun k q hq => ?_⟩
  have hk : k < n := by
    have := (List.getElem?_eq_some_iff.mp hq).1
    simpa [wl] using this
  simp only [wl, List.getElem?_map, List.getElem?_range hk, Option.map_some] at hq ⊢
  cases hq
  exact ⟨_, by rw [ha k hk], hc k hk⟩
def wdk (c : Nat) : Nat := match c with
  | 0 => 8
  | 1 => 1
  | 2 => 1
  | 3 => 2
  | 4 => 10
  | 5 => 1
  | 7 => 4
  | 10 => 50
  | _ => 0
theorem kd_10L : ∀ a, (kd a).1 = 10 → (kd a).2 = 6 := kd_all (by decide) (by decide +kernel)
theorem cell_sh {dA : Nat → ClassId} {u ad : Nat → Nat} {k k' : Nat} {r : Nat → Int32} (hk : kd k = kd k') (hn : (kd k).1 ≠ 6 ∧ (kd k).1 < 11) (h : ∀ d, d ≤ wdk (kd k).1 → u (k + d) = ad (k' + d)) : ceq (cellF dA u k r) (cellF dA ad k' r) := by
  have hL := kd_10L k
  unfold cellF
  rw [← hk]
  generalize kd k = x at *
  obtain ⟨c, L⟩ := x
  dsimp only at *
  rcases (show c = 0 ∨ c = 1 ∨ c = 2 ∨ c = 3 ∨ c = 4 ∨ c = 5 ∨ c = 7 ∨ c = 8 ∨ c = 9 ∨ c = 10 by omega) with rfl | rfl | rfl | rfl | rfl | rfl | rfl | rfl | rfl | rfl
  · left
    dsimp only [fsC]
    rw [h 1 (by decide), h 2 (by decide), h 3 (by decide), h 4 (by decide), h 5 (by decide), h 6 (by decide), h 7 (by decide), h 8 (by decide)]
    rfl
  · left
    dsimp only [fsH]
    rw [h 1 (by decide)]
    rfl
  · left
    dsimp only [fsL]
    rw [h 1 (by decide)]
    rfl
  · left
    dsimp only [fsP]
    rw [h 1 (by decide), h 2 (by decide)]
    rfl
  · left
    dsimp only [fsS]
    rw [h 1 (by decide), h 3 (by decide), h 6 (by decide), h 7 (by decide), h 8 (by decide), h 9 (by decide), h 10 (by decide)]
    rfl
  · left
    dsimp only [fsT]
    rw [h 1 (by decide)]
    rfl
  · left
    dsimp only [fsM]
    rw [h 1 (by decide), h 2 (by decide), h 3 (by decide), h 4 (by decide)]
    rfl
  · exact Or.inl rfl
  · exact Or.inl rfl
  · have := hL rfl
    subst this
    refine Or.inr ⟨_, _, _, _, rfl, rfl, fun q hq => ?_⟩
    unfold chA
    have hw : wdk 10 = 50 := rfl
    rw [Nat.add_assoc, Nat.add_assoc, h (5 + 9 * q) (by rw [hw]; omega)]
def bk (lo lo' n : Nat) : Prop := ∀ i, i < n → kd (lo + i) = kd (lo' + i) ∧ (kd (lo + i)).1 ≠ 6 ∧ (kd (lo + i)).1 < 11 ∧ i + wdk (kd (lo + i)).1 < n
theorem WE.blk {dA : Nat → ClassId} {u ad : Nat → Nat} {lo lo' n : Nat} {M M' : MM} (hb : bk lo lo' n) (ha : ∀ i, i < n → u (lo + i) = ad (lo' + i)) (hM : ∀ i, i < n → M (lo + i) = M' (lo' + i)) : WE (wl dA u lo n M) (wl dA ad lo' n M') := WE.ofwl ha (fun i hi => by
  obtain ⟨h1, h2, h3, h4⟩ := hb i hi
  rw [hM i hi]
  exact cell_sh h1 ⟨h2, h3⟩ (fun d hd => by rw [Nat.add_assoc, Nat.add_assoc]; exact ha _ (by omega)))
theorem wl_app {dA : Nat → ClassId} {ad : Nat → Nat} {lo n k : Nat} {M : MM} : wl dA ad lo (n + k) M = wl dA ad lo n M ++ wl dA ad (lo + n) k M := by
  unfold wl
  rw [List.range_add, List.map_append, List.map_map]
  congr 1
  apply List.map_congr_left
  intro i _
  simp [Nat.add_assoc]
theorem KW.we {p : Program} {l : Launch} {e : Env} {R : Room} {s : State} {m : MethodId} {args : Array Value} {below : List Frame} {meth : Method} {c : Code} {D : va_G} {nL : Nat} {A : Nat → Prop} {kc ks : Nat} {Q : State → Prop} {pc : Nat} {ls : List (Nat × Value)} {st : List Value} {ws ws' : va_W} (h : WE ws ws') (k : KW p l e R s m args below meth c D nL A kc ks Q pc ls st ws') : KW p l e R s m args below meth c D nL A kc ks Q pc ls st ws := fun H locs la hP hD hS hl => k H locs la (h.P hP) (h.D hD) hS hl
theorem SF.ad {ad ad' : Nat → Nat} {A : Nat → Prop} {U : State} {H : Heap} (h : SF ad A U H) (e : ∀ k, 1000 ≤ k → ad' k = ad k) : SF ad' A U H := by
  have e2 : (fun j => dcI (ad' (2000 + j))) = fun j => dcI (ad (2000 + j)) := funext (fun j => by rw [e _ (by omega)])
  unfold SF SCR
  rw [e 1000 (by omega), e 1001 (by omega), e 1002 (by omega), e 1003 (by omega), e 1004 (by omega), e2]
  exact h
/-- from the list of cells to the abstract memory -/
theorem KW.aw {p : Program} {l : Launch} {e : Env} {R : Room} {s : State} {m : MethodId} {args : Array Value} {below : List Frame} {meth : Method} {c : Code} {D : va_G} {dA : Nat → ClassId} {ad0 ad : Nat → Nat} {lo n nL : Nat} {A : Nat → Prop} {kc ks : Nat} {Q : State → Prop} {cc : ByteArray} {own : String} {pc : Nat} {ls ls' : List (Nat × Value)} {st st' : List Value} {M : MM} (X : KX p s m args meth c cc nL own D dA ad0 A) (h2 : ∀ k, 1000 ≤ k → ad k = ad0 k) (hl : cvl ad ls' = ls) (hst : st'.map (cv ad) = st) (k : CX p s m args meth c cc nL own D dA ad lo n A → AW p l e R s m args below meth c D dA ad lo n nL A kc ks Q pc ls' st' M) : KW p l e R s m args below meth c D nL A kc ks Q pc ls st (wl dA ad lo n M) := by
  subst hl hst
  exact fun H locs la hP hD hS h => k ⟨X.1, X.2.1, X.2.2.1, X.2.2.2.1, X.2.2.2.2.1, X.2.2.2.2.2.1, X.2.2.2.2.2.2.1, fun M' => wl_D hD M', X.2.2.2.2.2.2.2.1, X.2.2.2.2.2.2.2.2.1.ad h2⟩ H locs la hP hS h
theorem AW.kret {p : Program} {l : Launch} {e : Env} {R : Room} {s : State} {m : MethodId} {args : Array Value} {below : List Frame} {meth : Method} {c : Code} {D : va_G} {dA : Nat → ClassId} {ad0 ad : Nat → Nat} {lo n nL b : Nat} {A : Nat → Prop} {kc ks : Nat} {cc : ByteArray} {own : String} {pc : Nat} {ls : List (Nat × Value)} {M : MM} (X : CX p s m args meth c cc nL own D dA ad lo n A) (hr : meth.sig.returnType = none) (h1 : ad lo = b) (h2 : ∀ k, 1000 ≤ k → ad k = ad0 k) (hd : decode cc pc = .ok (.return_, 1)) : AW p l e R s m args below meth c D dA ad lo n nL A kc ks (MQ below (va_Qv (kpost b lo ad0) (KB D dA lo n M A) A) args s kc ks A) pc ls [] M := fun H locs la hP hS h =>
  W.vret X.1 X.2.1 hr (fun t ht hW => ⟨⟨ad, rfl, ⟨h1, h2⟩, by rw [ht]; exact hP, X.2.2.2.2.2.2.2.1 M⟩, hS.F ht⟩) hS.2.2 hd (hlocks := X.2.2.2.2.2.1)
section CPT
variable {p : Program} {l : Launch} {e : Env} {R : Room} {s : State} {m : MethodId} {args : Array Value} {below : List Frame} {meth : Method} {c : Code} {D : va_G} {dA : Nat → ClassId} {ad : Nat → Nat} {lo n nL : Nat} {A : Nat → Prop} {kc ks : Nat} {Q : State → Prop} {cc : ByteArray} {own : String}
variable {pc pc' : Nat} {ls ls' : List (Nat × Value)} {rest : List Value} {M : MM}
theorem AW.gsA {ix : Nat} (X : CX p s m args meth c cc nL own D dA ad lo n A) (hl : Cond.fieldLinkNest own ix "ShakerSweep" "SETTING_AT_FIRST" "[I" "ShakerSweep" ∈ tblA) (hd : decode cc pc = .ok (.getstatic ix, 3)) (hn : pc + 3 = pc') (k : AW p l e R s m args below meth c D dA ad lo n nL A kc ks Q pc' ls (.ref 1002 :: rest) M) : AW p l e R s m args below meth c D dA ad lo n nL A kc ks Q pc ls rest M := by
  subst hn
  intro H locs la hP hS h
  exact va_getsN X.1 X.2.1 X.2.2.2.2.2.2.2.2.2.2.2.1.1 hS X.2.2.2.1 (X.2.2.2.2.1 _ hl) (fun _ h => h) hd (k H locs la hP hS h)
theorem AW.alenA (X : CX p s m args meth c cc nL own D dA ad lo n A) (hd : decode cc pc = .ok (.arraylength, 1)) (hn : pc + 1 = pc') (k : AW p l e R s m args below meth c D dA ad lo n nL A kc ks Q pc' ls (.int 6 :: rest) M) : AW p l e R s m args below meth c D dA ad lo n nL A kc ks Q pc ls (.ref 1002 :: rest) M := by
  subst hn
  intro H locs la hP hS h
  exact va_tlen X.1 X.2.1 X.2.2.2.2.2.2.2.2.2.2.2.1.2 hS (show Int32.ofNat 6 = 6 from rfl) hd (k H locs la hP hS h)
theorem AW.acopyA {b L2 ix : Nat} (X : CX p s m args meth c cc nL own D dA ad lo n A) (tb : tIA lo n L2 b) (hR : 1 ≤ R.frames ∧ 8 + (nativeFrameWords "java/lang/System" "arraycopy" 5 + 11) ≤ R.locals) (hcat : (rest.map fun v => v.category).sum ≤ 8) (h5 : 6 ≤ L2) (hl : Cond.methodLink own ix arraycopyName ∈ tblA) (hd : decode cc pc = .ok (.invokestatic ix, 3)) (hn : pc + 3 = pc') (k : AW p l e R s m args below meth c D dA ad lo n nL A kc ks Q pc' ls rest (msf M b (va_cpy sAF (M b) 0 0 6))) : AW p l e R s m args below meth c D dA ad lo n nL A kc ks Q pc ls (.int 6 :: .int 0 :: .ref b :: .int 0 :: .ref 1002 :: rest) M := by
  subst hn
  intro H locs la hP hS hla T hT Xs
  have hK := X.2.2.2.2.2.2.1
  obtain ⟨scr, hs1, ⟨hs6, k0, hk0, cm0, hkk0⟩, hs3, hs4, -, hs5, hs7⟩ := X.2.2.2.2.2.2.2.2.2.2.2.1.2
  have ha1 : (wl dA ad lo n M)[b - lo]? = some (ad b, .inl (dA 0, L2, .inl (M b))) := wl_at (w := 0) tb.1 tb.2.1 (cI tb dA ad (M b))
  have hc0 : H[ad 1002]? = some scr := by rw [hS.2.1 _ (Array.getElem?_eq_some_iff.mp hs1).1 hs7]; exact hs1
  have hc1 : H[ad b]? = some (vp_cell (dA 0) (L2, .inl (M b))) := hP _ _ ha1
  have hDw := X.2.2.2.2.2.2.2.1 M
  obtain ⟨-, k1, hk1, cm1, hkk1⟩ := (hK.2 0 (dA 0, .int) rfl).1 L2 (fun j => .int (M b j))
  have z0 : (0 : Int32).toInt = 0 := rfl
  have z6 : (6 : Int32).toInt = 6 := rfl
  have c0 : (0 : Int32).toNatClampNeg = 0 := rfl
  have c6 : (6 : Int32).toNatClampNeg = 6 := rfl
  obtain ⟨vm', X', step⟩ := Xs.arraycopy X.1 X.2.2.2.1 (X.2.2.2.2.1 _ hl) (X.2.2.2.2.1 _ mAcN) (X.2.2.2.2.1 _ mAcS) (X.2.2.2.2.1 _ mSysI) (src := ad 1002) (dst := ad b) (cs := scr) (cd := vp_cell (dA 0) (L2, .inl (M b))) (srcPos := 0) (destPos := 0) (n := 6) (by rw [hT]; exact hc0) (by rw [hT]; exact hc1)
    hs6 (fun _ h => by cases h) hs3 (fun h => by cases h) hk0 hk1 hkk0 hkk1 (by simp [refKind]) (by decide) (by decide) (by decide)
    (by rw [z0, z6]; omega)
    (by rw [z0, z6]; show ¬ _ > ((arrV (dA 0) L2 (fun j => .int (M b j))).slots.size : Int); rw [arrV_size]; omega)
    (fun vm₁ _ i hi => by
      rw [c6] at hi
      have e : scr.slots.getD ((0 : Int32).toNatClampNeg + i) .null = .int (sAF i) := by
        rw [c0, Nat.zero_add, Array.getD_eq_getD_getElem?, hs5 _ hi]
        rfl
      refine ⟨?_, ?_⟩
      · rw [e]
        rfl
      · rw [e]
        exact trivial)
    (g := F0 m pc la (List.map (cv ad) (.int 6 :: .int 0 :: .ref b :: .int 0 :: .ref 1002 :: rest))) rfl (by rw [X.2.2.1]; exact hla.1) (rest := rest.map (cv ad)) rfl (by rw [X.2.1]; exact hd) hR.1 (by rw [map_cat]; show 2 * 0 + _ + _ ≤ _; omega)
  have e1 : copied scr (vp_cell (dA 0) (L2, .inl (M b))) 0 0 6 = vp_cell (dA 0) (L2, .inl (va_cpy sAF (M b) 0 0 6)) := va_copiedX (n0 := 6) (fun z => .int z) scr (dA 0) sAF (M b) hs5 (by decide)
  rw [e1] at X' step
  have hlt : ad b < H.size := (Array.getElem?_eq_some_iff.mp hc1).1
  have hheap : ((T.setVm vm').setCell (ad b) (vp_cell (dA 0) (L2, .inl (va_cpy sAF (M b) 0 0 6)))).heap = H.setIfInBounds (ad b) (vp_cell (dA 0) (L2, .inl (va_cpy sAF (M b) 0 0 6))) := by rw [← hT]; rfl
  have oq : ∀ q : Nat, q ≠ ad b → (H.setIfInBounds (ad b) (vp_cell (dA 0) (L2, .inl (va_cpy sAF (M b) 0 0 6))))[q]? = H[q]? := fun q hq => by simp [Array.getElem?_setIfInBounds, Ne.symm hq]
  have hP1 : va_P D vwCl ((wl dA ad lo n M).set (b - lo) (ad b, .inl (dA 0, L2, .inl (va_cpy sAF (M b) 0 0 6)))) (H.setIfInBounds (ad b) (vp_cell (dA 0) (L2, .inl (va_cpy sAF (M b) 0 0 6)))) := hP.set hDw ha1 (show (H.setIfInBounds (ad b) _)[ad b]? = some _ by simp [Array.getElem?_setIfInBounds, hlt]) oq
  rw [wl_set (w := 0) tb.1 tb.2.1 (cI tb dA ad _)] at hP1
  obtain ⟨t, a1, b1⟩ := k _ _ la hP1 ⟨by simp; exact hS.1, fun q g1 g2 => by
      rw [oq q (fun e => g2 (by rw [e]; exact hDw.2 _ _ ha1))]
      exact hS.2.1 q g1 g2, fun q hq => by
      rcases List.mem_append.mp hq with h | h
      · exact hS.2.2 q h
      · obtain ⟨z, -, hz⟩ := List.mem_map.mp h
        rw [← hz]
        exact hDw.2 _ _ ha1⟩ hla _ hheap X'
  exact ⟨t, step t a1, b1⟩
end CPT
set_option maxHeartbeats 4000000 in
set_option maxRecDepth 100000 in
theorem ok_copyRowA {lo n a1 : Nat} {M : MM} (h1 : tIA lo n 6 a1) : MC yX6_copyRow cX6_copyRow 2 none 1 40 lo n [.ref 1002, .ref a1] M none (msf M a1 (va_cpy sAF (M a1) 0 0 6)) := by
  refine MC.of (ls0 := [(0, .ref 1002), (1, .ref a1)]) (by decide) rfl (fun _ => Nat.le_of_ble_eq_true rfl) (fun p l e s m args below meth c D dA ad A X hr => ?_)
  replace X : CX p s m args meth c cX6_copyRow 2 RX6 D dA ad lo n A := X
  refine AW.aload_n (k0 := 0) (pc' := 1) X rfl rfl dX6_copyRow_0 rfl ?_
  refine AW.iconst (v := 0) (pc' := 2) X rfl dX6_copyRow_1 rfl ?_
  refine AW.aload_n (k0 := 1) (pc' := 3) X rfl rfl dX6_copyRow_2 rfl ?_
  refine AW.iconst (v := 0) (pc' := 4) X rfl dX6_copyRow_3 rfl ?_
  refine AW.aload_n (k0 := 0) (pc' := 5) X rfl rfl dX6_copyRow_4 rfl ?_
  refine AW.alenA (pc' := 6) X dX6_copyRow_5 rfl ?_
  refine AW.aload_n (k0 := 1) (pc' := 7) X rfl rfl dX6_copyRow_6 rfl ?_
  refine AW.alen (pc' := 8) (v := 6) X h1 rfl dX6_copyRow_7 rfl ?_
  refine AW.mmin (pc' := 11) X ⟨by decide, by decide, by decide, by decide⟩ (Nat.le_of_ble_eq_true rfl) ml_X6_230 dX6_copyRow_8 rfl ?_
  rw [show (if (6 : Int32) < 6 then (6 : Int32) else 6) = 6 from rfl]
  refine AW.acopyA (pc' := 14) X h1 ⟨by decide, by decide⟩ (Nat.le_of_ble_eq_true rfl) (by omega) ml_X6_233 dX6_copyRow_11 rfl ?_
  exact AW.vret X hr dX6_copyRow_14
