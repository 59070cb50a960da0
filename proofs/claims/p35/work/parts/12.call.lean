/-! CONTRACTS over the abstract memory: MC says of a method that it returns rv and turns the memory M into M' -/
def MQc (D : va_G) (dA : Nat → ClassId) (ad : Nat → Nat) (lo n : Nat) (rv : Option Value) (M' : MM) (A : Nat → Prop) : Array Value → State → Outcome → State → Prop := fun _ st oc t => (oc = .returned rv ∧ va_P D vwCl (wl dA ad lo n M') t.heap) ∧ va_F A st t
def NW (U : State) : Prop := ∀ w ∈ tblA, isNest w = true → va_Nw w U
def MPc (D : va_G) (dA : Nat → ClassId) (ad : Nat → Nat) (lo n sz : Nat) (M : MM) (U : State) : Prop := U.heap.size = sz ∧ va_P D vwCl (wl dA ad lo n M) U.heap ∧ va_K D vwCl (tysA dA) U ∧ va_D (fun _ => True) (wl dA ad lo n M) ∧ SF ad (va_A (wl dA ad lo n M) sz) U U.heap ∧ NW U
def MC (y : MethodName) (cc : ByteArray) (mL : Nat) (ret : Option FieldType) (fr lc lo n : Nat) (av : List Value) (M : MM) (rv : Option Value) (M' : MM) : Prop := ∀ (l : Launch) (D : va_G) (dA : Nat → ClassId) (ad : Nat → Nat) (sz : Nat), Met l y (Cond.code y cc mL ret :: tblG) { frames := fr, cells := 0, slots := 0, locals := lc } (va_Pc (av.map (cv ad)) (MPc D dA ad lo n sz M)) (MQc D dA ad lo n rv M' (va_A (wl dA ad lo n M) sz)) 0 0 (va_A (wl dA ad lo n M) sz)
theorem lv_args_cv (ad : Nat → Nat) : ∀ (av : List Value) (i : Nat), lv_args i (av.map (cv ad)) = cvl ad (lv_args i av)
  | [], _ => rfl
  | v :: av, i => by
    simp only [List.map_cons, lv_args, cv_cat, cvl]
    rw [lv_args_cv ad av]
    rfl
theorem nestOn {w : Cond} (h : isNest w = true) : w.onTables = true := by cases w <;> first | rfl | (exact absurd h Bool.false_ne_true)
theorem nestWarm {w : Cond} (h : isNest w = true) {s U : State} (hW : s.WarmedH U.vm) (hZ : va_Nw w s) : va_Nw w U := by
  cases w <;> first | exact va_Nw.warmM hW hZ | exact va_Nw.warmF hW hZ | exact absurd h Bool.false_ne_true
theorem MC.of {y : MethodName} {cc : ByteArray} {mL : Nat} {ret : Option FieldType} {fr lc lo n : Nat} {av : List Value} {M : MM} {rv : Option Value} {M' : MM} {ls0 : List (Nat × Value)} (hy : plainName y.cls = true) (hls : lv_args 0 av = ls0) (hlen : ∀ ad, (lg_sl (av.map (cv ad))).length ≤ mL)
    (K : ∀ (p : Program) (l : Launch) (e : Env) (s : State) (m : MethodId) (args : Array Value) (below : List Frame) (meth : Method) (c : Code) (D : va_G) (dA : Nat → ClassId) (ad : Nat → Nat) (A : Nat → Prop), CX p s m args meth c cc mL y.cls D dA ad lo n A → meth.sig.returnType = ret → AW p l e { frames := fr, cells := 0, slots := 0, locals := lc } s m args below meth c D dA ad lo n mL A 0 0 (MQ below (MQc D dA ad lo n rv M' A) args s 0 0 A) 0 ls0 [] M) : MC y cc mL ret fr lc lo n av M rv M' := by
  intro l D dA ad sz
  refine Met.ofW (cc := cc) (maxL := mL) (ret := ret) hy rfl ?_
  intro p e s m args below meth c s₁ B hml hv
  obtain ⟨rfl, hsz, hP, hK, hD0, hSF, hNW⟩ := hv
  have hts0 := atoms_spec (ws := Cond.code y cc mL ret :: tblG) B.pre
  have hts : ∀ w ∈ tblA, w.before (av.map (cv ad)).toArray s = true := fun w hw => by
    obtain ⟨h1, h2⟩ := List.mem_filter.mp hw
    rcases Bool.or_eq_true _ _ ▸ h2 with h3 | h3
    · exact hts0 w (List.mem_cons_of_mem _ (List.mem_filter.mpr ⟨h1, h3⟩))
    · exact va_Nw.use (nestOn h3) (hNW w hw h3)
  subst hsz
  have hD := hD0.self (sz := s.heap.size)
  generalize hAe : va_A (wl dA ad lo n M) s.heap.size = A at hD hSF ⊢
  have hA : ∀ q : Nat, s.heap.size ≤ q → A q := fun q h => by rw [← hAe]; exact Or.inr h
  have X : CX p s m (av.map (cv ad)).toArray meth c cc mL y.cls D dA ad lo n A := ⟨B.exec, B.bytes, hml, findClass_of_methodNamed B.named, hts, B.notSynchronized, hK, fun M1 => wl_D hD M1, hA, hSF⟩
  have hl := lv_entry (av.map (cv ad)) (n := mL) (hlen ad)
  rw [lg_entry_eq]
  generalize (lg_sl (av.map (cv ad)) ++ List.replicate (mL - (lg_sl (av.map (cv ad))).length) Slot.unset).toArray = la at hl ⊢
  rw [lv_args_cv, hls] at hl
  exact K p l e s m _ below meth c D dA ad A X B.returns s.heap [] la hP va_S.rf hl
def MCa (ad : Nat → Nat) (y : MethodName) (cc : ByteArray) (mL : Nat) (ret : Option FieldType) (fr lc lo n : Nat) (av : List Value) (M : MM) (rv : Option Value) (M' : MM) : Prop := ∀ (l : Launch) (D : va_G) (dA : Nat → ClassId) (sz : Nat), Met l y (Cond.code y cc mL ret :: tblG) { frames := fr, cells := 0, slots := 0, locals := lc } (va_Pc (av.map (cv ad)) (MPc D dA ad lo n sz M)) (MQc D dA ad lo n rv M' (va_A (wl dA ad lo n M) sz)) 0 0 (va_A (wl dA ad lo n M) sz)
theorem MCa.of {ad : Nat → Nat} {y : MethodName} {cc : ByteArray} {mL : Nat} {ret : Option FieldType} {fr lc lo n : Nat} {av : List Value} {M : MM} {rv : Option Value} {M' : MM} {ls0 : List (Nat × Value)} (hy : plainName y.cls = true) (hls : lv_args 0 av = ls0) (hlen : ∀ ad : Nat → Nat, (lg_sl (av.map (cv ad))).length ≤ mL)
    (K : ∀ (p : Program) (l : Launch) (e : Env) (s : State) (m : MethodId) (args : Array Value) (below : List Frame) (meth : Method) (c : Code) (D : va_G) (dA : Nat → ClassId) (A : Nat → Prop), CX p s m args meth c cc mL y.cls D dA ad lo n A → meth.sig.returnType = ret → AW p l e { frames := fr, cells := 0, slots := 0, locals := lc } s m args below meth c D dA ad lo n mL A 0 0 (MQ below (MQc D dA ad lo n rv M' A) args s 0 0 A) 0 ls0 [] M) : MCa ad y cc mL ret fr lc lo n av M rv M' := by
  intro l D dA sz
  refine Met.ofW (cc := cc) (maxL := mL) (ret := ret) hy rfl ?_
  intro p e s m args below meth c s₁ B hml hv
  obtain ⟨rfl, hsz, hP, hK, hD0, hSF, hNW⟩ := hv
  have hts0 := atoms_spec (ws := Cond.code y cc mL ret :: tblG) B.pre
  have hts : ∀ w ∈ tblA, w.before (av.map (cv ad)).toArray s = true := fun w hw => by
    obtain ⟨h1, h2⟩ := List.mem_filter.mp hw
    rcases Bool.or_eq_true _ _ ▸ h2 with h3 | h3
    · exact hts0 w (List.mem_cons_of_mem _ (List.mem_filter.mpr ⟨h1, h3⟩))
    · exact va_Nw.use (nestOn h3) (hNW w hw h3)
  subst hsz
  have hD := hD0.self (sz := s.heap.size)
  generalize hAe : va_A (wl dA ad lo n M) s.heap.size = A at hD hSF ⊢
  have hA : ∀ q : Nat, s.heap.size ≤ q → A q := fun q h => by rw [← hAe]; exact Or.inr h
  have X : CX p s m (av.map (cv ad)).toArray meth c cc mL y.cls D dA ad lo n A := ⟨B.exec, B.bytes, hml, findClass_of_methodNamed B.named, hts, B.notSynchronized, hK, fun M1 => wl_D hD M1, hA, hSF⟩
  have hl := lv_entry (av.map (cv ad)) (n := mL) (hlen ad)
  rw [lg_entry_eq]
  generalize (lg_sl (av.map (cv ad)) ++ List.replicate (mL - (lg_sl (av.map (cv ad))).length) Slot.unset).toArray = la at hl ⊢
  rw [lv_args_cv, hls] at hl
  exact K p l e s m _ below meth c D dA A X B.returns s.heap [] la hP va_S.rf hl
theorem tblIn {y : MethodName} {cc : ByteArray} {mL : Nat} {ret : Option FieldType} (h : Cond.code y cc mL ret ∈ tblA) : GoodIn tblA (Cond.code y cc mL ret :: tblG) := fun w hw => by
  rcases List.mem_cons.mp hw with e | h2
  · subst e
    exact ⟨h, good_of_word rfl⟩
  · obtain ⟨h3, h4⟩ := List.mem_filter.mp h2
    exact ⟨List.mem_filter.mpr ⟨h3, by rw [h4]; rfl⟩, good_of_word h4⟩
/-- what the tables say of a method that is called -/
def YV (y : MethodName) (cc : ByteArray) (mL : Nat) (ret : Option FieldType) (na : Nat) : Prop := Cond.instanceMethod y ∈ tblA ∧ Cond.selects y.cls y y ∈ tblA ∧ Cond.initialized y.cls ∈ tblA ∧ Cond.code y cc mL ret ∈ tblA ∧ (y.cls ≠ "java/lang/invoke/MethodHandle" ∧ y.cls ≠ "java/lang/invoke/VarHandle" ∧ (parseMethodDescriptor y.desc).map (fun d => d.parameters.length) = some na)
def YS (y : MethodName) (cc : ByteArray) (mL : Nat) (ret : Option FieldType) (na : Nat) : Prop := Cond.static y ∈ tblA ∧ Cond.initialized y.cls ∈ tblA ∧ Cond.code y cc mL ret ∈ tblA ∧ (y.cls ≠ "java/lang/invoke/MethodHandle" ∧ y.cls ≠ "java/lang/invoke/VarHandle" ∧ (parseMethodDescriptor y.desc).map (fun d => d.parameters.length) = some na)
section AWC
variable {p : Program} {l : Launch} {e : Env} {R : Room} {s : State} {m : MethodId} {args : Array Value} {below : List Frame} {meth : Method} {c : Code} {D : va_G} {dA : Nat → ClassId} {ad : Nat → Nat} {lo n nL : Nat} {A : Nat → Prop} {kc ks : Nat} {Q : State → Prop} {cc : ByteArray} {own : String}
variable {pc pc' : Nat} {ls ls' : List (Nat × Value)} {rest st : List Value} {M M' : MM} {y : MethodName} {cy : ByteArray} {mL fr lc na ix : Nat} {ret : Option FieldType} {As : List Value} {rv : Option Value}
theorem MPc.blind {D : va_G} {dA : Nat → ClassId} {ad : Nat → Nat} {lo n sz : Nat} {M : MM} {av : List Value} : FrameBlind (va_Pc av (MPc D dA ad lo n sz M)) := fun a U g mk q => by
  obtain ⟨q0, q1, qP, qK, qD, qS, qN⟩ := q
  exact ⟨q0, q1, qP, va_K.moved (u := U) (U := U.calling g mk a) (Vm.Alike.refl U.vm) qK, qD, qS.step (u := U) (U := U.calling g mk a) (Vm.Alike.refl U.vm) (fun _ _ _ => rfl) (fun _ h => h), fun w hw hn => va_Nw.same (u := U) (U := U.calling g mk a) (nestOn hn) rfl (qN w hw hn)⟩
theorem CX.pre (X : CX p s m args meth c cc nL own D dA ad lo n A) {H : Heap} {locs : List Loc} (hP : va_P D vwCl (wl dA ad lo n M) H) (hS : va_S A s.heap H locs) (av : List Value) : ∀ U : State, U.heap = H → s.WarmedH U.vm → va_Pc av (MPc D dA ad lo n H.size M) av.toArray U := fun U hU hW => by
  refine ⟨rfl, by rw [hU], by rw [hU]; exact hP, va_K.moved hW.alike X.2.2.2.2.2.2.1, (X.2.2.2.2.2.2.2.1 M).weaken (fun _ _ _ _ => trivial), ?_, fun w hw hn => nestWarm hn hW (va_Nw.of (nestOn hn) (X.2.2.2.2.1 w hw))⟩
  rw [hU]
  refine X.2.2.2.2.2.2.2.2.2.step hW.alike (fun q h1 h2 => hS.2.1 q h1 h2) (fun q h => ?_)
  rcases h with ⟨k, E, h⟩ | h
  · exact (X.2.2.2.2.2.2.2.1 M).2 k (q, E) h
  · exact X.2.2.2.2.2.2.2.2.1 q (Nat.le_trans hS.1 h)
theorem AW.back (X : CX p s m args meth c cc nL own D dA ad lo n A) {H : Heap} {locs : List Loc} {la : Array Slot} {av : List Value} {a : Array Value} (hS : va_S A s.heap H locs) (h : lv_has la nL (cvl ad ls)) (hcv : rv.map (cv ad) = rv)
    (hr : va_Run p l e R s m args below meth c H locs kc ks 0 0 (F0 m pc la av) (rest.map (cv ad)) (MQc D dA ad lo n rv M' (va_A (wl dA ad lo n M) H.size) a) (va_A (wl dA ad lo n M) H.size)) (k : AW p l e R s m args below meth c D dA ad lo n nL A kc ks Q (pc + 3) ls (rv.toList ++ rest) M') : W p l e R s m args below meth c H locs kc ks Q (F0 m pc la av) := by
  have hF : ∀ q, va_A (wl dA ad lo n M) H.size q → A q := fun q z => by
    rcases z with ⟨k, E, z⟩ | z
    · exact (X.2.2.2.2.2.2.2.1 M).2 k (q, E) z
    · exact X.2.2.2.2.2.2.2.2.1 q (Nat.le_trans hS.1 z)
  intro T hT Xs
  obtain ⟨v, st₀, t, T', L, h0, X', hL, e1, e2, ⟨⟨hv, hP1⟩, hz, hk⟩, stp⟩ := hr T hT Xs
  cases hv
  rw [h0] at hz hk
  have hst : (rv.toList ++ rest.map (cv ad)) = (rv.toList ++ rest).map (cv ad) := by
    rw [List.map_append]
    congr 1
    cases rv with
    | none => rfl
    | some w => simp only [Option.map_some, Option.some.injEq] at hcv; simp [hcv]
  rw [hst] at stp
  obtain ⟨t2, a1, b1⟩ := k T'.heap (locs ++ L) la (by rw [e1]; exact hP1) ⟨Nat.le_trans hS.1 (by rw [e1]; exact hz), fun q h1 h2 => by rw [e1, hk q (Nat.lt_of_lt_of_le h1 hS.1) (fun z => h2 (hF q z))]; exact hS.2.1 q h1 h2, fun q hq => by
      rcases List.mem_append.mp hq with h | h
      · exact hS.2.2 q h
      · exact hF _ (hL q h)⟩ h T' rfl X'
  exact ⟨t2, stp t2 a1, b1⟩
theorem AW.callV {a w ci : Nat} {fs : List Value} {q : vw_C} (X : CX p s m args meth c cc nL own D dA ad lo n A) (hM : MC y cy mL ret fr lc lo n (.ref a :: As) M rv M') (Y : YV y cy mL ret na) (h1 : lo ≤ a) (h2 : a + (w + 1) ≤ lo + n) (he : cellF dA ad a (M a) = .inr (ci, fs)) (hc : vwCl[ci]? = some q) (hq : q.1 = y.cls) (hl : Cond.methodLink own ix y ∈ tblA) (hR : fr + 1 ≤ R.frames ∧ 8 + (mL + 11) + lc ≤ R.locals ∧ kc ≤ R.cells ∧ ks ≤ R.slots) (hna : As.length = na) (hcat : (rest.map fun v => v.category).sum ≤ 8) (hcv : rv.map (cv ad) = rv) (hst : st = As.reverse ++ .ref a :: rest) (hd : decode cc pc = .ok (.invokevirtual ix, 3)) (hn : pc + 3 = pc') (k : AW p l e R s m args below meth c D dA ad lo n nL A kc ks Q pc' ls (rv.toList ++ rest) M') : AW p l e R s m args below meth c D dA ad lo n nL A kc ks Q pc ls st M := by
  subst hn hst
  intro H locs la hP hS h
  have hwa := X.2.2.2.2.1
  have hG := tblIn Y.2.2.2.1
  refine AW.back X (M := M) (M' := M') (rv := rv) (rest := rest) (a := (Value.ref (ad a) :: As.map (cv ad)).toArray) hS h hcv ?_ k
  refine va_runV (C := y.cls) (ret := ret) (maxL := mL) (bytes := cy) (own := own) (index := ix) (As := As.map (cv ad)) (rest := rest.map (cv ad)) (n := na) ⟨X.1, X.2.1, X.2.2.1, X.2.2.2.1, hwa⟩ (hM l D dA ad H.size) ?_ ⟨MPc.blind, ?_, X.pre hP hS _⟩ rfl (by rw [List.length_map]; exact hna) h.1 (by simp [cv]) (lv_room (by rw [map_cat]; exact hcat)) hd ⟨hR.2.2.1, hR.2.2.2⟩
  · exact ⟨callB_of na hwa hG rfl rfl rfl (hwa _ Y.2.2.1) (hwa _ hl) Y.2.2.2.2 ⟨hR.1, hR.2.1⟩, hwa _ Y.1, hwa _ Y.2.1⟩
  · have := va_recv X.2.2.2.2.2.2.1 hP hc (wl_at h1 h2 he)
    rw [hq] at this
    exact this
theorem AW.callS (X : CX p s m args meth c cc nL own D dA ad lo n A) (hM : MC y cy mL ret fr lc lo n As M rv M') (Y : YS y cy mL ret na) (hl : Cond.methodLink own ix y ∈ tblA) (hR : fr + 1 ≤ R.frames ∧ 8 + (mL + 11) + lc ≤ R.locals ∧ kc ≤ R.cells ∧ ks ≤ R.slots) (hna : As.length = na) (hcat : (rest.map fun v => v.category).sum ≤ 8) (hcv : rv.map (cv ad) = rv) (hst : st = As.reverse ++ rest) (hd : decode cc pc = .ok (.invokestatic ix, 3)) (hn : pc + 3 = pc') (k : AW p l e R s m args below meth c D dA ad lo n nL A kc ks Q pc' ls (rv.toList ++ rest) M') : AW p l e R s m args below meth c D dA ad lo n nL A kc ks Q pc ls st M := by
  subst hn hst
  intro H locs la hP hS h
  have hwa := X.2.2.2.2.1
  have hG := tblIn Y.2.2.1
  refine AW.back X (M := M) (M' := M') (rv := rv) (rest := rest) (a := (As.map (cv ad)).toArray) hS h hcv ?_ k
  refine va_runS (ret := ret) (maxL := mL) (bytes := cy) (own := own) (index := ix) (As := As.map (cv ad)) (rest := rest.map (cv ad)) (n := na) ⟨X.1, X.2.1, X.2.2.1, X.2.2.2.1, hwa⟩ (hM l D dA ad H.size) ?_ ⟨MPc.blind, X.pre hP hS _⟩ rfl (by rw [List.length_map]; exact hna) h.1 (by simp) (lv_room (by rw [map_cat]; exact hcat)) hd ⟨hR.2.2.1, hR.2.2.2⟩
  exact ⟨callB_of na hwa hG rfl rfl rfl (hwa _ Y.2.1) (hwa _ hl) Y.2.2.2 ⟨hR.1, hR.2.1⟩, hwa _ Y.1⟩
theorem AW.callSa (X : CX p s m args meth c cc nL own D dA ad lo n A) (hM : MCa ad y cy mL ret fr lc lo n As M rv M') (Y : YS y cy mL ret na) (hl : Cond.methodLink own ix y ∈ tblA) (hR : fr + 1 ≤ R.frames ∧ 8 + (mL + 11) + lc ≤ R.locals ∧ kc ≤ R.cells ∧ ks ≤ R.slots) (hna : As.length = na) (hcat : (rest.map fun v => v.category).sum ≤ 8) (hcv : rv.map (cv ad) = rv) (hst : st = As.reverse ++ rest) (hd : decode cc pc = .ok (.invokestatic ix, 3)) (hn : pc + 3 = pc') (k : AW p l e R s m args below meth c D dA ad lo n nL A kc ks Q pc' ls (rv.toList ++ rest) M') : AW p l e R s m args below meth c D dA ad lo n nL A kc ks Q pc ls st M := by
  subst hn hst
  intro H locs la hP hS h
  have hwa := X.2.2.2.2.1
  have hG := tblIn Y.2.2.1
  refine AW.back X (M := M) (M' := M') (rv := rv) (rest := rest) (a := (As.map (cv ad)).toArray) hS h hcv ?_ k
  refine va_runS (ret := ret) (maxL := mL) (bytes := cy) (own := own) (index := ix) (As := As.map (cv ad)) (rest := rest.map (cv ad)) (n := na) ⟨X.1, X.2.1, X.2.2.1, X.2.2.2.1, hwa⟩ (hM l D dA H.size) ?_ ⟨MPc.blind, X.pre hP hS _⟩ rfl (by rw [List.length_map]; exact hna) h.1 (by simp) (lv_room (by rw [map_cat]; exact hcat)) hd ⟨hR.2.2.1, hR.2.2.2⟩
  exact ⟨callB_of na hwa hG rfl rfl rfl (hwa _ Y.2.1) (hwa _ hl) Y.2.2.2 ⟨hR.1, hR.2.1⟩, hwa _ Y.1⟩
theorem AW.callN {host : String} (X : CX p s m args meth c cc nL own D dA ad lo n A) (hM : MC y cy mL ret fr lc lo n As M rv M') (Y : YS y cy mL ret na) (hl : Cond.methodLinkNest own ix y host ∈ tblA) (hR : fr + 1 ≤ R.frames ∧ 8 + (mL + 11) + lc ≤ R.locals ∧ kc ≤ R.cells ∧ ks ≤ R.slots) (hna : As.length = na) (hcat : (rest.map fun v => v.category).sum ≤ 8) (hcv : rv.map (cv ad) = rv) (hst : st = As.reverse ++ rest) (hd : decode cc pc = .ok (.invokestatic ix, 3)) (hn : pc + 3 = pc') (k : AW p l e R s m args below meth c D dA ad lo n nL A kc ks Q pc' ls (rv.toList ++ rest) M') : AW p l e R s m args below meth c D dA ad lo n nL A kc ks Q pc ls st M := by
  subst hn hst
  intro H locs la hP hS h
  have hwa := X.2.2.2.2.1
  have hG := tblIn Y.2.2.1
  refine AW.back X (M := M) (M' := M') (rv := rv) (rest := rest) (a := (As.map (cv ad)).toArray) hS h hcv ?_ k
  refine va_runSN (ret := ret) (maxL := mL) (bytes := cy) (own := own) (index := ix) (As := As.map (cv ad)) (rest := rest.map (cv ad)) (n := na) ⟨X.1, X.2.1, X.2.2.1, X.2.2.2.1, hwa⟩ (hM l D dA ad H.size) ⟨va_cnB na hwa hG rfl rfl rfl (va_Nw.of rfl (hwa _ hl)) (hwa _ Y.2.1) Y.2.2.2 ⟨hR.1, hR.2.1⟩, hwa _ Y.1, trivial⟩ ⟨MPc.blind, X.pre hP hS _⟩ rfl (by rw [List.length_map]; exact hna) h.1 (by simp) (lv_room (by rw [map_cat]; exact hcat)) hd ⟨hR.2.2.1, hR.2.2.2⟩
theorem AW.iret {v : Int32} (X : CX p s m args meth c cc nL own D dA ad lo n A) (hr : meth.sig.returnType = some .int) (hd : decode cc pc = .ok (.ireturn, 1)) : AW p l e R s m args below meth c D dA ad lo n nL A 0 0 (MQ below (MQc D dA ad lo n (some (.int v)) M A) args s 0 0 A) pc ls [.int v] M := fun H locs la hP hS h =>
  W.iret X.1 X.2.1 hr (fun t ht hW => ⟨⟨rfl, by rw [ht]; exact hP⟩, hS.F ht⟩) hS.2.2 hd (hlocks := X.2.2.2.2.2.1)
theorem AW.zret {b : Bool} (X : CX p s m args meth c cc nL own D dA ad lo n A) (hr : meth.sig.returnType = some .boolean) (hd : decode cc pc = .ok (.ireturn, 1)) : AW p l e R s m args below meth c D dA ad lo n nL A 0 0 (MQ below (MQc D dA ad lo n (some (.int (bz b))) M A) args s 0 0 A) pc ls [.int (bz b)] M := fun H locs la hP hS h =>
  W.zret X.1 X.2.1 hr (by cases b <;> rfl) (fun t ht hW => ⟨⟨rfl, by rw [ht]; exact hP⟩, hS.F ht⟩) hS.2.2 hd (hlocks := X.2.2.2.2.2.1)
theorem AW.lret {v : Int64} (X : CX p s m args meth c cc nL own D dA ad lo n A) (hr : meth.sig.returnType = some .long) (hd : decode cc pc = .ok (.lreturn, 1)) : AW p l e R s m args below meth c D dA ad lo n nL A 0 0 (MQ below (MQc D dA ad lo n (some (.long v)) M A) args s 0 0 A) pc ls [.long v] M := fun H locs la hP hS h =>
  W.lret X.1 X.2.1 hr (fun t ht hW => ⟨⟨rfl, by rw [ht]; exact hP⟩, hS.F ht⟩) hS.2.2 hd (hlocks := X.2.2.2.2.2.1)
theorem AW.vret (X : CX p s m args meth c cc nL own D dA ad lo n A) (hr : meth.sig.returnType = none) (hd : decode cc pc = .ok (.return_, 1)) : AW p l e R s m args below meth c D dA ad lo n nL A 0 0 (MQ below (MQc D dA ad lo n none M A) args s 0 0 A) pc ls [] M := fun H locs la hP hS h =>
  W.vret X.1 X.2.1 hr (fun t ht hW => ⟨⟨rfl, by rw [ht]; exact hP⟩, hS.F ht⟩) hS.2.2 hd (hlocks := X.2.2.2.2.2.1)
end AWC
