/-! CONSTRUCTORS: History and the reference; a world of any form -/
def KBg (D : va_G) (Wf : (Nat → Nat) → va_W) (A : Nat → Prop) : (Nat → Nat) → State → Prop := fun u t => va_P D vwCl (Wf u) t.heap ∧ va_D A (Wf u)
def KCg (y : MethodName) (cc : ByteArray) (mL fr lc mc ms lo ci : Nat) (fs : List Value) (Wf : (Nat → ClassId) → (Nat → Nat) → va_W) : Prop := ∀ (l : Launch) (D : va_G) (dA : Nat → ClassId) (ad0 : Nat → Nat) (sz h : Nat), Met l y (Cond.code y cc mL none :: tblG) { frames := fr, cells := mc, slots := ms, locals := lc } (va_Pc [.ref h] (KPc D dA ad0 sz h ci fs)) (va_Qv (kpost h lo ad0) (KBg D (Wf dA) (va_A [(h, .inr (ci, fs))] sz)) (va_A [(h, .inr (ci, fs))] sz)) mc ms (va_A [(h, .inr (ci, fs))] sz)
section KWR
variable {p : Program} {l : Launch} {e : Env} {R : Room} {s : State} {m : MethodId} {args : Array Value} {below : List Frame} {meth : Method} {c : Code} {D : va_G} {dA : Nat → ClassId} {ad0 : Nat → Nat} {nL : Nat} {A : Nat → Prop} {kc ks : Nat} {Q : State → Prop} {cc : ByteArray} {own : String}
variable {pc pc' : Nat} {ls ls' : List (Nat × Value)} {rest : List Value} {ws ws' : va_W}
theorem KW.callG {b ix mL fr lc mc ms lo ci : Nat} {y : MethodName} {cy : ByteArray} {fs : List Value} {Wf : (Nat → ClassId) → (Nat → Nat) → va_W} {host : String} (X : KX p s m args meth c cc nL own D dA ad0 A) (hM : KCg y cy mL fr lc mc ms lo ci fs Wf) (Y : YI y cy mL) (hl : Cond.methodLink own ix y ∈ tblA ∨ Cond.methodLinkNest own ix y host ∈ tblA) (hR : fr + 1 ≤ R.frames ∧ 8 + (mL + 11) + lc ≤ R.locals ∧ kc + mc ≤ R.cells ∧ ks + ms ≤ R.slots) (hcat : (rest.map fun v => v.category).sum ≤ 8) (hd : decode cc pc = .ok (.invokespecial ix, 3)) (hn : pc + 3 = pc') (k : ∀ u : Nat → Nat, u lo = b → (∀ k, 1000 ≤ k → u k = ad0 k) → KW p l e R s m args below meth c D nL A (kc + mc) (ks + ms) Q pc' ls rest (ws ++ Wf dA u)) : KW p l e R s m args below meth c D nL A kc ks Q pc ls (.ref b :: rest) (ws ++ [(b, .inr (ci, fs))]) := by
  subst hn
  intro H locs la hP hD hS h
  have hwa := X.2.2.2.2.1
  have hG := tblIn Y.2.2.1
  have hx : (ws ++ [(b, (.inr (ci, fs) : va_E))])[ws.length]? = some (b, .inr (ci, fs)) := by rw [List.getElem?_append_right (Nat.le_refl _), Nat.sub_self]; rfl
  have hPc : va_P D vwCl [(b, .inr (ci, fs))] H := fun k q hk => by
    have hk0 : k = 0 := by
      have := (List.getElem?_eq_some_iff.mp hk).1
      simp at this
      exact this
    subst hk0
    cases hk
    exact hP ws.length _ hx
  have hDc : va_D A [(b, (.inr (ci, fs) : va_E))] := ⟨fun i j a c ha hc _ => by
    have h1 := (List.getElem?_eq_some_iff.mp ha).1
    have h2 := (List.getElem?_eq_some_iff.mp hc).1
    simp at h1 h2
    omega, fun k q hk => by
    have hk0 : k = 0 := by
      have := (List.getElem?_eq_some_iff.mp hk).1
      simp at this
      exact this
    subst hk0
    cases hk
    exact hD.2 ws.length _ hx⟩
  have hF : ∀ q, va_A [(b, (.inr (ci, fs) : va_E))] H.size q → A q := fun q z => by
    rcases z with ⟨k, E, z⟩ | z
    · exact hDc.2 k (q, E) z
    · exact X.2.2.2.2.2.2.2.1 q (Nat.le_trans hS.1 z)
  have hrun : va_Run p l e R s m args below meth c H locs kc ks mc ms (F0 m pc la (.ref b :: rest)) rest (va_Qv (kpost b lo ad0) (KBg D (Wf dA) (va_A [(b, .inr (ci, fs))] H.size)) (va_A [(b, .inr (ci, fs))] H.size) (Value.ref b :: []).toArray) (va_A [(b, .inr (ci, fs))] H.size) := by
    rcases hl with hl | hl
    · exact va_runI (As := []) (rest := rest) ⟨X.1, X.2.1, X.2.2.1, X.2.2.2.1, hwa⟩ (hM l D dA ad0 H.size b) (cwI 0 hwa hG rfl rfl rfl (hwa _ Y.2.1) (hwa _ hl) (hwa _ Y.1) Y.2.2.2.1 Y.2.2.2.2 ⟨hR.1, hR.2.1⟩) ⟨KPc.blind, X.pre hPc hDc hS⟩ rfl rfl h.1 rfl (lv_room hcat) hd ⟨hR.2.2.1, hR.2.2.2⟩
    · exact va_runIN (As := []) (rest := rest) ⟨X.1, X.2.1, X.2.2.1, X.2.2.2.1, hwa⟩ (hM l D dA ad0 H.size b) ⟨va_cnB 0 hwa hG rfl rfl rfl (va_Nw.of rfl (hwa _ hl)) (hwa _ Y.2.1) Y.2.2.2.2 ⟨hR.1, hR.2.1⟩, Y.2.2.2.1, hwa _ Y.1⟩ ⟨KPc.blind, X.pre hPc hDc hS⟩ rfl rfl h.1 rfl (lv_room hcat) hd ⟨hR.2.2.1, hR.2.2.2⟩
  refine va_callv hrun hS (fun q _ z => hF q z) hF (fun u t H1 locs1 ht hvm hp hB hz hk1 hS1 => ?_)
  obtain ⟨hP1, hD1⟩ := hB
  rw [ht] at hP1
  obtain ⟨hP2, hD2⟩ := joinE hP hD hk1 hF hP1 hD1
  exact k u hp.1 hp.2 H1 locs1 la hP2 hD2 hS1 h
theorem KW.vretG (X : KX p s m args meth c cc nL own D dA ad0 A) {lo b : Nat} {Wf : (Nat → ClassId) → (Nat → Nat) → va_W} (u : Nat → Nat) (hr : meth.sig.returnType = none) (hw : ws = Wf dA u) (h1 : u lo = b) (h2 : ∀ k, 1000 ≤ k → u k = ad0 k) (hd : decode cc pc = .ok (.return_, 1)) : KW p l e R s m args below meth c D nL A kc ks (MQ below (va_Qv (kpost b lo ad0) (KBg D (Wf dA) A) A) args s kc ks A) pc ls [] ws := by
  subst hw
  intro H locs la hP hD hS h
  exact W.vret X.1 X.2.1 hr (fun t ht hW => ⟨⟨u, rfl, ⟨h1, h2⟩, by rw [ht]; exact hP, hD⟩, hS.F ht⟩) hS.2.2 hd (hlocks := X.2.2.2.2.2.1)
theorem KW.rot {wa wb : va_W} (k : KW p l e R s m args below meth c D nL A kc ks Q pc ls rest (wb ++ wa)) : KW p l e R s m args below meth c D nL A kc ks Q pc ls rest (wa ++ wb) := fun H locs la hP hD hS hl => by
  have key : ∀ (i : Nat) (q : Nat × va_E), (wb ++ wa)[i]? = some q → (wa ++ wb)[if i < wb.length then wa.length + i else i - wb.length]? = some q := fun i q hq => by
    by_cases z : i < wb.length
    · rw [if_pos z, List.getElem?_append_right (by omega), show wa.length + i - wa.length = i by omega]
      rw [List.getElem?_append_left z] at hq
      exact hq
    · rw [if_neg z]
      rw [List.getElem?_append_right (by omega)] at hq
      have := (List.getElem?_eq_some_iff.mp hq).1
      rw [List.getElem?_append_left this]
      exact hq
  refine k H locs la (fun i q hq => hP _ q (key i q hq)) ⟨fun i j a b ha hb hab => ?_, fun i q hq => hD.2 _ q (key i q hq)⟩ hS hl
  have h1 := hD.1 _ _ a b (key i a ha) (key j b hb) hab
  have l1 := (List.getElem?_eq_some_iff.mp ha).1
  have l2 := (List.getElem?_eq_some_iff.mp hb).1
  rw [List.length_append] at l1 l2
  by_cases z : i < wb.length
  · by_cases y : j < wb.length
    · rw [if_pos z, if_pos y] at h1; omega
    · rw [if_pos z, if_neg y] at h1; omega
  · by_cases y : j < wb.length
    · rw [if_neg z, if_pos y] at h1; omega
    · rw [if_neg z, if_neg y] at h1; omega
end KWR
theorem KCg.of {y : MethodName} {cc : ByteArray} {mL fr lc mc ms lo ci : Nat} {fs : List Value} {Wf : (Nat → ClassId) → (Nat → Nat) → va_W} (hy : plainName y.cls = true) (hyn : y.name = "<init>") (hmL : 1 ≤ mL)
    (K : ∀ (p : Program) (l : Launch) (e : Env) (s : State) (m : MethodId) (args : Array Value) (below : List Frame) (meth : Method) (c : Code) (D : va_G) (dA : Nat → ClassId) (ad0 : Nat → Nat) (A : Nat → Prop) (h : Nat), KX p s m args meth c cc mL y.cls D dA ad0 A → meth.sig.returnType = none → meth.name = "<init>" → KW p l e { frames := fr, cells := mc, slots := ms, locals := lc } s m args below meth c D mL A 0 0 (MQ below (va_Qv (kpost h lo ad0) (KBg D (Wf dA) A) A) args s mc ms A) 0 [(0, .ref h)] [] [(h, .inr (ci, fs))]) : KCg y cc mL fr lc mc ms lo ci fs Wf := by
  intro l D dA ad0 sz h
  refine Met.ofW (cc := cc) (maxL := mL) (ret := none) hy rfl ?_
  intro p e s m args below meth c s₁ B hml hv
  obtain ⟨rfl, hsz, hP, hK, hD0, hSF, hNW, hAO⟩ := hv
  have hts0 := atoms_spec (ws := Cond.code y cc mL none :: tblG) B.pre
  have hts : ∀ w ∈ tblA, w.before [Value.ref h].toArray s = true := fun w hw => by
    obtain ⟨h1, h2⟩ := List.mem_filter.mp hw
    rcases Bool.or_eq_true _ _ ▸ h2 with h3 | h3
    · exact hts0 w (List.mem_cons_of_mem _ (List.mem_filter.mpr ⟨h1, h3⟩))
    · exact va_Nw.use (nestOn h3) (hNW w hw h3)
  have hin : meth.name = "<init>" := (name_of_methodNamed B.named B.method).1.trans hyn
  subst hsz
  have hD := hD0.self (sz := s.heap.size)
  generalize hAe : va_A [(h, .inr (ci, fs))] s.heap.size = A at hD hSF ⊢
  have hA : ∀ q : Nat, s.heap.size ≤ q → A q := fun q h => by rw [← hAe]; exact Or.inr h
  have X : KX p s m [Value.ref h].toArray meth c cc mL y.cls D dA ad0 A := ⟨B.exec, B.bytes, hml, findClass_of_methodNamed B.named, hts, B.notSynchronized, hK, hA, hSF, hAO⟩
  have hl := lv_entry [Value.ref h] (n := mL) hmL
  rw [lg_entry_eq]
  generalize (lg_sl [Value.ref h] ++ List.replicate (mL - (lg_sl [Value.ref h]).length) Slot.unset).toArray = la at hl ⊢
  exact K p l e s m _ below meth c D dA ad0 A h X B.returns hin s.heap [] la hP hD va_S.rf hl
/-- what the reference's constructor leaves -/
def R0 : Nat → Int32 := gnS (frS (upd (upd (upd (upd (upd Z0 13 1) 14 1) 15 25) 16 50) 17 1))
/-- all memory behind the two constructors -/
def M0 : MM := fun k => if k < 650 then SM (k % 65) else if k = 658 then R0 else Z0
theorem M0_st {i j : Nat} (hi : i < 10) (hj : j < 65) : M0 (65 * i + j) = SM j := by
  unfold M0
  rw [if_pos (by omega), show (65 * i + j) % 65 = j by omega]
theorem M0_hi {k : Nat} (h : 650 ≤ k) (h2 : k ≠ 658) : M0 k = Z0 := by
  unfold M0
  rw [if_neg (by omega), if_neg h2]
theorem bkS : ∀ j, j < 10 → bk 0 (65 * j) 65 := by unfold bk; decide +kernel
theorem bkH : ∀ j, j < 7 → bk 260 260 (65 * j) := by unfold bk; decide +kernel
def WH (dA : Nat → ClassId) (u : Nat → Nat) : va_W := wl dA u 651 2 M0 ++ wl dA u 260 390 M0
def fhS (u : Nat → Nat) (b j : Nat) : Nat → Option Nat := fun c => if c < j then some (u (b + 65 * c)) else none
abbrev RmH : Room := { frames := 4, cells := 391, slots := 11310, locals := 85 }
section HIL
variable {p : Program} {l : Launch} {e : Env} {s : State} {m : MethodId} {args : Array Value} {below : List Frame} {meth : Method} {c : Code} {D : va_G} {dA : Nat → ClassId} {ad0 : Nat → Nat} {A : Nat → Prop} {Q : State → Prop}
set_option maxHeartbeats 4000000 in
set_option maxRecDepth 100000 in
theorem hi_loop (X : KX p s m args meth c cX1_init 2 RX1 D dA ad0 A) (h qa : Nat) (kk : ∀ u, KW p l e RmH s m args below meth c D 2 A 391 11310 Q 40 [(1, .int (nI 6)), (0, .ref h)] [] ([(h, .inr (1, [.ref qa, .int 0, .int 0])), (qa, .inl (dA 3, 6, .inr (.inr (.inr (.inr (fhS u 260 6))))))] ++ wl dA u 260 390 M0)) : ∀ (d j : Nat) (u : Nat → Nat), j + d = 6 → KW p l e RmH s m args below meth c D 2 A (1 + 65 * j) (6 + 1884 * j) Q 15 [(1, .int (nI j)), (0, .ref h)] [] ([(h, .inr (1, [.ref qa, .int 0, .int 0])), (qa, .inl (dA 3, 6, .inr (.inr (.inr (.inr (fhS u 260 j))))))] ++ wl dA u 260 (65 * j) M0) := by
  intro d
  induction d with
  | zero =>
    intro j u hj
    have : j = 6 := by omega
    subst this
    refine KW.iload (k0 := 0) (pc' := 16) X rfl rfl dX1_init_15 rfl ?_
    refine KW.bipush (v := 6) (pc' := 18) X rfl dX1_init_16 rfl ?_
    refine KW.icmp_ge (pc' := 21) (tgt := 40) X dX1_init_18 rfl rfl (fun _ => ?_) (fun q => absurd (show (6 : Int32) ≤ nI 6 by decide) q)
    exact kk u
  | succ d ih =>
    intro j u hj
    refine KW.iload (k0 := 0) (pc' := 16) X rfl rfl dX1_init_15 rfl ?_
    refine KW.bipush (v := 6) (pc' := 18) X rfl dX1_init_16 rfl ?_
    refine KW.icmp_ge (pc' := 21) (tgt := 40) X dX1_init_18 rfl rfl (fun q => ?_) (fun _ => ?_)
    · rw [show (6 : Int32) = nI 6 from rfl, le_nI (by omega) (by omega)] at q
      omega
    refine KW.aload (k0 := 1) (pc' := 22) X rfl rfl dX1_init_21 rfl ?_
    refine KW.getf (q0 := 0) (ci := 1) (fs := [.ref qa, .int 0, .int 0]) (v := .ref qa) (pc' := 25) X rfl rfl inX1 0 (by decide) rfl mf_X1_13 rfl dX1_init_22 rfl ?_
    refine KW.iload (k0 := 0) (pc' := 26) X rfl rfl dX1_init_25 rfl ?_
    refine KW.new (ci := 4) (fs := fs0X4) (pc' := 29) X rfl inX4 tyX4 tyX4_ok mc_X1_11 mt_X4 mi_X4 df_X4 (by show 1 + 65 * j + 1 ≤ 391; omega) (by show 6 + 1884 * j + 17 ≤ 11310; omega) dX1_init_26 rfl (fun q => ?_)
    refine KW.dup (pc' := 30) X rfl dX1_init_29 rfl ?_
    refine KW.callI (host := "") (pc' := 33) X kc_X4 yi_X4 (Or.inl mz_X1_17) ⟨by decide, by decide, by show 1 + 65 * j + 1 + 64 ≤ 391; omega, by show 6 + 1884 * j + 17 + 1867 ≤ 11310; omega⟩ (Nat.le_of_ble_eq_true rfl) dX1_init_30 rfl (fun u' hu' _ => ?_)
    subst hu'
    have hlen : ([(h, (.inr (1, [.ref qa, .int 0, .int 0]) : va_E)), (qa, .inl (dA 3, 6, .inr (.inr (.inr (.inr (fhS u 260 j))))))] ++ wl dA u 260 (65 * j) M0).length = 2 + 65 * j := by rw [List.length_append, wl_len]; rfl
    refine KW.aast (q0 := 1) (qk := 2 + 65 * j) (ci := 4) (t := 3) (vs := fsS u' 0 (SM 0)) (pc' := 34) (ws' := ([(h, .inr (1, [.ref qa, .int 0, .int 0])), (qa, .inl (dA 3, 6, .inr (.inr (.inr (.inr (va_up (fhS u 260 j) (ix (nI j)) (some (u' 0))))))))] ++ wl dA u 260 (65 * j) M0) ++ wl dA u' 0 65 SM) X rfl rfl (by rw [List.getElem?_append_right (by omega), hlen, Nat.sub_self]; rfl) rfl (inb_vp (inb_nI (by omega) (by omega))) rfl dX1_init_33 rfl ?_
    refine KW.iinc (z := 1) (k0 := 0) (v := nI (j + 1)) (ls' := [(1, .int (nI (j + 1))), (0, .ref h)]) (pc' := 37) X rfl (show nI j + Int32.ofInt 1 = nI (j + 1) from nI_1 j) (by decide) rfl dX1_init_34 rfl ?_
    refine KW.goto (pc' := 15) X dX1_init_37 rfl ?_
    have hu2 : ∀ k, k < 260 + 65 * j → (fun k => if k < 260 + 65 * j then u k else u' (k - (260 + 65 * j))) k = u k := fun k hk => if_pos hk
    have hu3 : ∀ k, ¬ k < 260 + 65 * j → (fun k => if k < 260 + 65 * j then u k else u' (k - (260 + 65 * j))) k = u' (k - (260 + 65 * j)) := fun k hk => if_neg hk
    generalize (fun k => if k < 260 + 65 * j then u k else u' (k - (260 + 65 * j))) = u2 at hu2 hu3
    have hf : va_up (fhS u 260 j) (ix (nI j)) (some (u' 0)) = fhS u2 260 (j + 1) := by
      funext x
      unfold va_up fhS
      rw [ix_nI (by omega)]
      by_cases z : x = j
      · subst z
        rw [if_pos rfl, if_pos (by omega), hu3 _ (by omega), Nat.sub_self]
      · rw [if_neg z]
        by_cases y : x < j
        · rw [if_pos y, if_pos (by omega), hu2 _ (by omega)]
        · rw [if_neg y, if_neg (by omega)]
    rw [hf]
    refine KW.we (ws' := [(h, .inr (1, [.ref qa, .int 0, .int 0])), (qa, .inl (dA 3, 6, .inr (.inr (.inr (.inr (fhS u2 260 (j + 1)))))))] ++ wl dA u2 260 (65 * (j + 1)) M0) ?_ (KW.cnt (by omega) (by omega) (ih (j + 1) u2 (by omega)))
    rw [show 65 * (j + 1) = 65 * j + 65 by omega, wl_app, List.append_assoc]
    have hb := bkS (4 + j) (by omega)
    rw [show 65 * (4 + j) = 260 + 65 * j by omega] at hb
    refine WE.app WE.rf (WE.app (WE.blk (bkH j (by omega)) (fun i hi => (hu2 _ (by omega)).symm) (fun _ _ => rfl)) (WE.blk hb (fun i hi => ?_) (fun i hi => ?_)))
    · rw [hu3 _ (by omega)]
      congr 1
      omega
    · rw [Nat.zero_add, show 260 + 65 * j + i = 65 * (4 + j) + i by omega, M0_st (by omega) hi]
end HIL
set_option maxHeartbeats 4000000 in
set_option maxRecDepth 100000 in
theorem kc_X1 : KCg yX1_init cX1_init 2 4 85 391 11310 651 1 fs0X1 WH := by
  refine KCg.of (by decide) rfl (by decide) (fun p l e s m args below meth c D dA ad0 A h X hr hin => ?_)
  replace X : KX p s m args meth c cX1_init 2 RX1 D dA ad0 A := X
  refine KW.aload (k0 := 0) (pc' := 1) X rfl rfl dX1_init_0 rfl ?_
  refine KW.objInit (pc' := 4) X mo_X1 ⟨by decide, by decide⟩ dX1_init_1 rfl ?_
  refine KW.aload (k0 := 0) (pc' := 5) X rfl rfl dX1_init_4 rfl ?_
  refine KW.bipush (v := 6) (pc' := 7) X rfl dX1_init_5 rfl ?_
  refine KW.newq (N := 6) (t := 3) (pc' := 10) X (Or.inr ⟨rfl, rfl⟩) mc_X1_11 (by decide) rfl (by decide) (Nat.le_of_ble_eq_true rfl) (Nat.le_of_ble_eq_true rfl) dX1_init_7 rfl (fun qa => ?_)
  refine KW.putF (q0 := 0) (ty := tyX1 0) (ws' := [(h, .inr (1, [.ref qa, .int 0, .int 0])), (qa, .inl (dA 3, 6, .inr (.inr (.inr (.inr (fun _ => none))))))]) (pc' := 13) X hin rfl rfl inX1 tyX1 tyX1_ok nmX1 0 (by decide) rfl mf_X1_13 rfl (tyX1_ok 0 (by decide)) rfl rfl (Nat.le_of_ble_eq_true rfl) rfl dX1_init_10 rfl ?_
  refine KW.iconst (v := 0) (pc' := 14) X rfl dX1_init_13 rfl ?_
  refine KW.istore (ls' := [(1, .int 0), (0, .ref h)]) (pc' := 15) X rfl (by decide) rfl dX1_init_14 rfl ?_
  refine hi_loop X h qa (fun u => ?_) 6 0 (fun _ => 0) rfl
  obtain ⟨ad, had⟩ : ∃ ad : Nat → Nat, ad = fun k => if 1000 ≤ k then ad0 k else if k = 651 then h else if k = 652 then qa else u k := ⟨_, rfl⟩
  have a0 : ∀ k, 1000 ≤ k → ad k = ad0 k := fun k hk => by rw [had]; exact if_pos hk
  have a1 : h = ad 651 := by rw [had]; rfl
  have a2 : qa = ad 652 := by rw [had]; rfl
  have a3 : ∀ k, k < 650 → u k = ad k := fun k hk => by rw [had]; exact ((if_neg (by omega)).trans ((if_neg (by omega)).trans (if_neg (by omega)))).symm
  clear had
  refine KW.we (ws' := WH dA ad) ?_ (KW.vretG X ad hr rfl a1.symm a0 dX1_init_40)
  refine WE.app ?_ (WE.blk (bkH 6 (by omega)) (fun i hi => a3 _ (by omega)) (fun _ _ => rfl))
  refine WE.cons a1 (Or.inl ?_) (WE.cons a2 (Or.inr ⟨dA 3, 6, fhS u 260 6, stA ad 652, rfl, rfl, fun q hq => ?_⟩) WE.rf)
  · rw [a2]; rfl
  · unfold fhS stA
    rw [if_pos hq, if_pos rfl, a3 _ (by omega)]
