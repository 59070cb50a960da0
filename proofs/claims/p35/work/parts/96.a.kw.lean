/-! CONSTRUCTORS: the machine over a list of cells; a rule an instruction; what a constructor gives -/
def AO2 (U : State) : Prop := va_AO "ShakerSweep$Channel" U ∧ va_AO "ShakerSweep$State" U
def KPc (D : va_G) (dA : Nat → ClassId) (ad0 : Nat → Nat) (sz h ci : Nat) (fs : List Value) (U : State) : Prop := U.heap.size = sz ∧ va_P D vwCl [(h, .inr (ci, fs))] U.heap ∧ va_K D vwCl (tysA dA) U ∧ va_D (fun _ => True) [(h, .inr (ci, fs))] ∧ SF ad0 (va_A [(h, .inr (ci, fs))] sz) U U.heap ∧ NW U ∧ AO2 U
def kpost (h lo : Nat) (ad0 : Nat → Nat) : (Nat → Nat) → Prop := fun u => u lo = h ∧ ∀ k, 1000 ≤ k → u k = ad0 k
def KB (D : va_G) (dA : Nat → ClassId) (lo n : Nat) (Mi : MM) (A : Nat → Prop) : (Nat → Nat) → State → Prop := fun u t => va_P D vwCl (wl dA u lo n Mi) t.heap ∧ va_D A (wl dA u lo n Mi)
def KC (y : MethodName) (cc : ByteArray) (mL fr lc mc ms lo n ci : Nat) (fs : List Value) (Mi : MM) : Prop := ∀ (l : Launch) (D : va_G) (dA : Nat → ClassId) (ad0 : Nat → Nat) (sz h : Nat), Met l y (Cond.code y cc mL none :: tblG) { frames := fr, cells := mc, slots := ms, locals := lc } (va_Pc [.ref h] (KPc D dA ad0 sz h ci fs)) (va_Qv (kpost h lo ad0) (KB D dA lo n Mi (va_A [(h, .inr (ci, fs))] sz)) (va_A [(h, .inr (ci, fs))] sz)) mc ms (va_A [(h, .inr (ci, fs))] sz)
def KX (p : Program) (s : State) (m : MethodId) (args : Array Value) (meth : Method) (c : Code) (cc : ByteArray) (nL : Nat) (own : String) (D : va_G) (dA : Nat → ClassId) (ad0 : Nat → Nat) (A : Nat → Prop) : Prop :=
  p.tables.exec = Jvm.exec ∧ c.code = cc ∧ c.maxLocals = nL ∧ s.vm.findClass own = some m.cls ∧ (∀ w ∈ tblA, w.before args s = true) ∧ meth.locks = false ∧ va_K D vwCl (tysA dA) s ∧ (∀ q, s.heap.size ≤ q → A q) ∧ SF ad0 A s s.heap ∧ AO2 s
def KW (p : Program) (l : Launch) (e : Env) (R : Room) (s : State) (m : MethodId) (args : Array Value) (below : List Frame) (meth : Method) (c : Code) (D : va_G) (nL : Nat) (A : Nat → Prop) (kc ks : Nat) (Q : State → Prop) (pc : Nat) (ls : List (Nat × Value)) (st : List Value) (ws : va_W) : Prop :=
  ∀ (H : Heap) (locs : List Loc) (la : Array Slot), va_P D vwCl ws H → va_D A ws → va_S A s.heap H locs → lv_has la nL ls → W p l e R s m args below meth c H locs kc ks Q (F0 m pc la st)
theorem kObjI : Cond.instanceMethod objectInit ∈ tblA := tA (List.mem_of_getElem? (i := 41) (by decide +kernel)) rfl
theorem kObjC : Cond.code objectInit ⟨#[0xb1]⟩ 1 none ∈ tblA := tA (List.mem_of_getElem? (i := 42) (by decide +kernel)) rfl
theorem kArI : Cond.arrayClass .int ∈ tblA := tA (List.mem_of_getElem? (i := 66) (by decide +kernel)) rfl
theorem kArZ : Cond.arrayClass .boolean ∈ tblA := tA (List.mem_of_getElem? (i := 296) (by decide +kernel)) rfl
theorem AO2.moved {u U : State} (hvm : u.vm.Alike U.vm) (h : AO2 u) : AO2 U := ⟨h.1.moved hvm, h.2.moved hvm⟩
theorem KPc.blind {D : va_G} {dA : Nat → ClassId} {ad0 : Nat → Nat} {sz h ci : Nat} {fs : List Value} {av : List Value} : FrameBlind (va_Pc av (KPc D dA ad0 sz h ci fs)) := fun a U g mk q => by
  obtain ⟨q0, q1, qP, qK, qD, qS, qN, qA⟩ := q
  exact ⟨q0, q1, qP, va_K.moved (u := U) (U := U.calling g mk a) (Vm.Alike.refl U.vm) qK, qD, qS.step (u := U) (U := U.calling g mk a) (Vm.Alike.refl U.vm) (fun _ _ _ => rfl) (fun _ h => h), fun w hw hn => va_Nw.same (u := U) (U := U.calling g mk a) (nestOn hn) rfl (qN w hw hn), qA.moved (u := U) (U := U.calling g mk a) (Vm.Alike.refl U.vm)⟩
theorem joinE {A0 : Nat → Prop} {D : va_G} {cl : List vw_C} {ws w1 : va_W} {x : Nat × va_E} {H H1 : Heap} (hP : va_P D cl (ws ++ [x]) H) (hD : va_D A0 (ws ++ [x])) (hk : ∀ q : Nat, q < H.size → ¬ va_A [x] H.size q → H1[q]? = H[q]?) (hF : ∀ q, va_A [x] H.size q → A0 q) (hP1 : va_P D cl w1 H1) (hD1 : va_D (va_A [x] H.size) w1) : va_P D cl (ws ++ w1) H1 ∧ va_D A0 (ws ++ w1) := by
  have at' : ∀ (k : Nat) (q : Nat × va_E), ws[k]? = some q → k < ws.length ∧ (ws ++ [x])[k]? = some q := fun k q hq => by
    have hl := (List.getElem?_eq_some_iff.mp hq).1
    exact ⟨hl, by rw [List.getElem?_append_left hl]; exact hq⟩
  have hx : (ws ++ [x])[ws.length]? = some x := by rw [List.getElem?_append_right (Nat.le_refl _), Nat.sub_self]; rfl
  have apart : ∀ (k : Nat) (q : Nat × va_E), ws[k]? = some q → q.1 < H.size ∧ ¬ va_A [x] H.size q.1 := fun k q hq => by
    obtain ⟨hl, h2⟩ := at' k q hq
    have hlt := (hP k q h2).lt
    refine ⟨hlt, fun h => ?_⟩
    rcases h with ⟨k2, e, h⟩ | h
    · have hk2 : k2 = 0 := by
        have := (List.getElem?_eq_some_iff.mp h).1
        simp at this
        exact this
      subst hk2
      have hxe : x = (q.1, e) := Option.some.inj h
      have := hD.1 k ws.length q x h2 hx (by rw [hxe])
      omega
    · omega
  refine ⟨va_P.app (fun k q hq => ?_) hP1, va_D.app ⟨fun i j a b ha hb hab => hD.1 i j a b (at' i a ha).2 (at' j b hb).2 hab, fun k q hq => hD.2 k q (at' k q hq).2⟩ (hD1.weaken (fun k q _ h => hF q.1 h)) (fun i j a b ha hb hab => ?_)⟩
  · obtain ⟨g1, g2⟩ := apart k q hq
    exact (hP k q (at' k q hq).2).kept (hk q.1 g1 g2)
  · exact (apart i a ha).2 (by rw [hab]; exact hD1.2 j b hb)
section KWR
variable {p : Program} {l : Launch} {e : Env} {R : Room} {s : State} {m : MethodId} {args : Array Value} {below : List Frame} {meth : Method} {c : Code} {D : va_G} {dA : Nat → ClassId} {ad0 : Nat → Nat} {nL : Nat} {A : Nat → Prop} {kc ks : Nat} {Q : State → Prop} {cc : ByteArray} {own : String}
variable {pc pc' : Nat} {ls ls' : List (Nat × Value)} {rest : List Value} {ws ws' : va_W}
theorem KW.aload {f : Fin 4} {i k0 x : Nat} (X : KX p s m args meth c cc nL own D dA ad0 A) (hi : (f : Nat) = i) (hl : ls[k0]? = some (i, .ref x)) (hd : decode cc pc = .ok (.aload_n f, 1)) (hn : pc + 1 = pc') (k : KW p l e R s m args below meth c D nL A kc ks Q pc' ls (.ref x :: rest) ws) : KW p l e R s m args below meth c D nL A kc ks Q pc ls rest ws := by
  subst hn
  exact fun H locs la hP hD hS h => lv_aload_n X.1 X.2.1 hd hi (lv_at h k0 hl) (k H locs la hP hD hS h)
theorem KW.iload {f : Fin 4} {i k0 : Nat} {x : Int32} (X : KX p s m args meth c cc nL own D dA ad0 A) (hi : (f : Nat) = i) (hl : ls[k0]? = some (i, .int x)) (hd : decode cc pc = .ok (.iload_n f, 1)) (hn : pc + 1 = pc') (k : KW p l e R s m args below meth c D nL A kc ks Q pc' ls (.int x :: rest) ws) : KW p l e R s m args below meth c D nL A kc ks Q pc ls rest ws := by
  subst hn
  exact fun H locs la hP hD hS h => lv_iload_n X.1 X.2.1 hd hi (lv_at h k0 hl) (k H locs la hP hD hS h)
theorem KW.iconst {z : Int} {v : Int32} (X : KX p s m args meth c cc nL own D dA ad0 A) (hv : Int32.ofInt z = v) (hd : decode cc pc = .ok (.iconst z, 1)) (hn : pc + 1 = pc') (k : KW p l e R s m args below meth c D nL A kc ks Q pc' ls (.int v :: rest) ws) : KW p l e R s m args below meth c D nL A kc ks Q pc ls rest ws := by
  subst hn
  exact fun H locs la hP hD hS h => lv_iconst X.1 X.2.1 hd hv (k H locs la hP hD hS h)
theorem KW.bipush {z : Int} {v : Int32} (X : KX p s m args meth c cc nL own D dA ad0 A) (hv : (Int8.ofInt z).toInt32 = v) (hd : decode cc pc = .ok (.bipush z, 2)) (hn : pc + 2 = pc') (k : KW p l e R s m args below meth c D nL A kc ks Q pc' ls (.int v :: rest) ws) : KW p l e R s m args below meth c D nL A kc ks Q pc ls rest ws := by
  subst hn
  exact fun H locs la hP hD hS h => lv_bipush X.1 X.2.1 hd hv (k H locs la hP hD hS h)
theorem KW.sipush {z : Int} {v : Int32} (X : KX p s m args meth c cc nL own D dA ad0 A) (hv : (Int16.ofInt z).toInt32 = v) (hd : decode cc pc = .ok (.sipush z, 3)) (hn : pc + 3 = pc') (k : KW p l e R s m args below meth c D nL A kc ks Q pc' ls (.int v :: rest) ws) : KW p l e R s m args below meth c D nL A kc ks Q pc ls rest ws := by
  subst hn
  exact fun H locs la hP hD hS h => lv_sipush X.1 X.2.1 hd hv (k H locs la hP hD hS h)
theorem KW.dup {v : Value} (X : KX p s m args meth c cc nL own D dA ad0 A) (hc : v.category = 1) (hd : decode cc pc = .ok (.dup, 1)) (hn : pc + 1 = pc') (k : KW p l e R s m args below meth c D nL A kc ks Q pc' ls (v :: v :: rest) ws) : KW p l e R s m args below meth c D nL A kc ks Q pc ls (v :: rest) ws := by
  subst hn
  exact fun H locs la hP hD hS h => lv_dup X.1 X.2.1 hd hc (k H locs la hP hD hS h)
theorem KW.istore {f : Fin 4} {i : Nat} {x : Int32} (X : KX p s m args meth c cc nL own D dA ad0 A) (hi : (f : Nat) = i) (hlt : i < nL) (hl : (i, Value.int x) :: ls.filter (fun q => !(q.1 == i) && !(q.1 + 1 == i && q.2.category == 2)) = ls') (hd : decode cc pc = .ok (.istore_n f, 1)) (hn : pc + 1 = pc') (k : KW p l e R s m args below meth c D nL A kc ks Q pc' ls' rest ws) : KW p l e R s m args below meth c D nL A kc ks Q pc ls (.int x :: rest) ws := by
  subst hn
  exact fun H locs la hP hD hS h => lv_istore_n X.1 X.2.1 hd hi h hlt hl (fun la h => k H locs la hP hD hS h)
theorem KW.astore {f : Fin 4} {i : Nat} {x : Nat} (X : KX p s m args meth c cc nL own D dA ad0 A) (hi : (f : Nat) = i) (hlt : i < nL) (hl : (i, Value.ref x) :: ls.filter (fun q => !(q.1 == i) && !(q.1 + 1 == i && q.2.category == 2)) = ls') (hd : decode cc pc = .ok (.astore_n f, 1)) (hn : pc + 1 = pc') (k : KW p l e R s m args below meth c D nL A kc ks Q pc' ls' rest ws) : KW p l e R s m args below meth c D nL A kc ks Q pc ls (.ref x :: rest) ws := by
  subst hn
  exact fun H locs la hP hD hS h => lv_astore_n X.1 X.2.1 hd hi h hlt hl (fun la h => k H locs la hP hD hS h)
theorem KW.iinc {i k0 : Nat} {z : Int} {x v : Int32} (X : KX p s m args meth c cc nL own D dA ad0 A) (hk : ls[k0]? = some (i, .int x)) (hv : x + Int32.ofInt z = v) (hlt : i < nL) (hl : (i, Value.int v) :: ls.filter (fun q => !(q.1 == i) && !(q.1 + 1 == i && q.2.category == 2)) = ls') (hd : decode cc pc = .ok (.iinc i z, 3)) (hn : pc + 3 = pc') (k : KW p l e R s m args below meth c D nL A kc ks Q pc' ls' rest ws) : KW p l e R s m args below meth c D nL A kc ks Q pc ls rest ws := by
  subst hn
  exact fun H locs la hP hD hS h => lv_iinc X.1 X.2.1 hd h hk hv hlt hl (fun la h => k H locs la hP hD hS h)
theorem KW.goto {off : Int} (X : KX p s m args meth c cc nL own D dA ad0 A) (hd : decode cc pc = .ok (.goto off, 3)) (ht : (pc : Int) + off = (pc' : Int)) (k : KW p l e R s m args below meth c D nL A kc ks Q pc' ls rest ws) : KW p l e R s m args below meth c D nL A kc ks Q pc ls rest ws := fun H locs la hP hD hS h => lv_goto X.1 X.2.1 hd ht (k H locs la hP hD hS h)
theorem KW.icmp_ge {x y : Int32} {off : Int} {tgt : Nat} (X : KX p s m args meth c cc nL own D dA ad0 A) (hd : decode cc pc = .ok (.if_icmp .ge off, 3)) (ht : (pc : Int) + off = (tgt : Int)) (hn : pc + 3 = pc') (kt : y ≤ x → KW p l e R s m args below meth c D nL A kc ks Q tgt ls rest ws) (kf : ¬ y ≤ x → KW p l e R s m args below meth c D nL A kc ks Q pc' ls rest ws) : KW p l e R s m args below meth c D nL A kc ks Q pc ls (.int y :: .int x :: rest) ws := by
  subst hn
  exact fun H locs la hP hD hS h => lv_icmp_ge X.1 X.2.1 hd ht (fun q => kt q H locs la hP hD hS h) (fun q => kf q H locs la hP hD hS h)
theorem KW.objInit {ix a : Nat} (X : KX p s m args meth c cc nL own D dA ad0 A) (hl : Cond.methodLink own ix objectInit ∈ tblA) (hR : 1 ≤ R.frames ∧ (rest.map fun v => v.category).sum + 12 ≤ R.locals) (hd : decode cc pc = .ok (.invokespecial ix, 3)) (hn : pc + 3 = pc') (k : KW p l e R s m args below meth c D nL A kc ks Q pc' ls rest ws) : KW p l e R s m args below meth c D nL A kc ks Q pc ls (.ref a :: rest) ws := by
  subst hn
  intro H locs la hP hD hS h
  refine W.objInit X.1 X.2.1 X.2.2.2.1 (X.2.2.2.2.1 _ hl) (X.2.2.2.2.1 _ kObjI) (X.2.2.2.2.1 _ kObjC) rfl (h.1.trans X.2.2.1.symm) rfl hd hR.1 (by show 2 * 0 + _ + 12 ≤ _; omega) ?_
  exact k H locs la hP hD hS h
theorem KW.newi {z : Int32} {N : Nat} (X : KX p s m args meth c cc nL own D dA ad0 A) (hz : ¬ z < 0) (hN : z.toNatClampNeg = N) (hb : N * 4 ≤ 536870912) (hc : kc + 1 ≤ R.cells) (hs : ks + N ≤ R.slots) (hd : decode cc pc = .ok (.newarray .int, 2)) (hn : pc + 2 = pc') (k : ∀ q, KW p l e R s m args below meth c D nL A (kc + 1) (ks + N) Q pc' ls (.ref q :: rest) (ws ++ [(q, .inl (dA 0, N, .inl (fun _ => 0)))])) : KW p l e R s m args below meth c D nL A kc ks Q pc ls (.int z :: rest) ws := by
  subst hn
  intro H locs la hP hD hS h
  refine va_newa (atype := .int) (ty := .int) (a0 := (N, .inl (fun _ => 0))) X.1 X.2.1 (X.2.2.2.2.1 _ kArI) rfl X.2.2.2.2.2.2.1 hP hD hS X.2.2.2.2.2.2.2.1 (fun _ => rfl) hz hN hb hc hs hd (fun q cA H1 hK1 hP1 hD1 hS1 => ?_)
  have e0 := (hK1.2 0 (dA 0, .int) rfl).2
  have e1 := (hK1.2 4 (cA, .int) rfl).2
  have e2 : cA = dA 0 := Option.some.inj (e1.symm.trans e0)
  subst e2
  exact k q H1 locs la hP1 hD1 hS1 h
theorem KW.newz {z : Int32} {N : Nat} (X : KX p s m args meth c cc nL own D dA ad0 A) (hz : ¬ z < 0) (hN : z.toNatClampNeg = N) (hb : N * 1 ≤ 536870912) (hc : kc + 1 ≤ R.cells) (hs : ks + N ≤ R.slots) (hd : decode cc pc = .ok (.newarray .boolean, 2)) (hn : pc + 2 = pc') (k : ∀ q, KW p l e R s m args below meth c D nL A (kc + 1) (ks + N) Q pc' ls (.ref q :: rest) (ws ++ [(q, .inl (dA 1, N, .inl (fun _ => 0)))])) : KW p l e R s m args below meth c D nL A kc ks Q pc ls (.int z :: rest) ws := by
  subst hn
  intro H locs la hP hD hS h
  refine va_newa (atype := .boolean) (ty := .boolean) (a0 := (N, .inl (fun _ => 0))) X.1 X.2.1 (X.2.2.2.2.1 _ kArZ) rfl X.2.2.2.2.2.2.1 hP hD hS X.2.2.2.2.2.2.2.1 (fun _ => rfl) hz hN hb hc hs hd (fun q cA H1 hK1 hP1 hD1 hS1 => ?_)
  have e0 := (hK1.2 1 (dA 1, .boolean) rfl).2
  have e1 := (hK1.2 4 (cA, .boolean) rfl).2
  have e2 : cA = dA 1 := Option.some.inj (e1.symm.trans e0)
  subst e2
  exact k q H1 locs la hP1 hD1 hS1 h
theorem KW.newq {z : Int32} {N ix t : Nat} {C : String} (X : KX p s m args meth c cc nL own D dA ad0 A) (ht : (t = 2 ∧ C = "ShakerSweep$Channel") ∨ (t = 3 ∧ C = "ShakerSweep$State")) (hl : Cond.classLink own ix C ∈ tblA) (hz : ¬ z < 0) (hN : z.toNatClampNeg = N) (hb : N * 4 ≤ 536870912) (hc : kc + 1 ≤ R.cells) (hs : ks + N ≤ R.slots) (hd : decode cc pc = .ok (.anewarray ix, 3)) (hn : pc + 3 = pc') (k : ∀ q, KW p l e R s m args below meth c D nL A (kc + 1) (ks + N) Q pc' ls (.ref q :: rest) (ws ++ [(q, .inl (dA t, N, .inr (.inr (.inr (.inr (fun _ => none))))))])) : KW p l e R s m args below meth c D nL A kc ks Q pc ls (.int z :: rest) ws := by
  subst hn
  intro H locs la hP hD hS h
  have hao : va_AO C s := by
    rcases ht with ⟨-, rfl⟩ | ⟨-, rfl⟩
    · exact X.2.2.2.2.2.2.2.2.2.1
    · exact X.2.2.2.2.2.2.2.2.2.2
  refine va_newq X.1 X.2.1 X.2.2.2.1 (X.2.2.2.2.1 _ hl) hao X.2.2.2.2.2.2.1 hP hD hS X.2.2.2.2.2.2.2.1 hz hN hb hc hs hd (fun q cA H1 hK1 hP1 hD1 hS1 => ?_)
  have e2 : cA = dA t := by
    obtain ⟨_, _, -, -, -, e1⟩ := (hK1.2 4 (cA, .object C) rfl).2
    rcases ht with ⟨rfl, rfl⟩ | ⟨rfl, rfl⟩
    · obtain ⟨_, _, -, -, -, e0⟩ := (hK1.2 2 (dA 2, .object "ShakerSweep$Channel") rfl).2
      exact Option.some.inj (e1.symm.trans e0)
    · obtain ⟨_, _, -, -, -, e0⟩ := (hK1.2 3 (dA 3, .object "ShakerSweep$State") rfl).2
      exact Option.some.inj (e1.symm.trans e0)
  subst e2
  exact k q H1 locs la hP1 hD1 hS1 h
theorem KW.new {ix N ci : Nat} {C : String} {T : u_T} {fs : List Value} (X : KX p s m args meth c cc nL own D dA ad0 A) (hc : vwCl[ci]? = some (C, T, N)) (hin : ∀ w ∈ u_ws C T N, w ∈ tblA) (ty : Nat → FieldType) (hty : ∀ k, k < N → parseFieldDescriptor (T k).2.2.1 = some (ty k)) (hl : Cond.classLink own ix C ∈ tblA) (hI : Cond.instantiable C N ∈ tblA) (hi : Cond.initialized C ∈ tblA) (hfs : ∀ j, j < N → defaultValue (ty j) = vp_V fs j) (hcl : kc + 1 ≤ R.cells) (hs : ks + N ≤ R.slots) (hd : decode cc pc = .ok (.new ix, 3)) (hn : pc + 3 = pc') (k : ∀ q, KW p l e R s m args below meth c D nL A (kc + 1) (ks + N) Q pc' ls (.ref q :: rest) (ws ++ [(q, .inr (ci, fs))])) : KW p l e R s m args below meth c D nL A kc ks Q pc ls rest ws := by
  subst hn
  intro H locs la hP hD hS h
  exact va_new X.1 X.2.1 X.2.2.2.2.1 hin ty hty X.2.2.2.1 (X.2.2.2.2.1 _ hl) (X.2.2.2.2.1 _ hI) (X.2.2.2.2.1 _ hi) X.2.2.2.2.2.2.1 hP hD hS X.2.2.2.2.2.2.2.1 hc hfs hcl hs hd (fun q H1 hP1 hD1 hS1 => k q H1 locs la hP1 hD1 hS1 h)
theorem KW.putF {a q0 ix N ci : Nat} {T : u_T} {fs : List Value} {v : Value} {ty : FieldType} (X : KX p s m args meth c cc nL own D dA ad0 A) (hinit : meth.name = "<init>") (he : ws[q0]? = some (a, .inr (ci, fs))) (hc : vwCl[ci]? = some (own, T, N)) (hin : ∀ w ∈ u_ws own T N, w ∈ tblA) (ty0 : Nat → FieldType) (hty : ∀ k, k < N → parseFieldDescriptor (T k).2.2.1 = some (ty0 k)) (hnm : ∀ a, a < N → ∀ b, b < N → a ≠ b → (T a).2.1 ≠ (T b).2.1) (k0 : Nat) (hk : k0 < N) (hT : (T k0).1 = own) (hl : Cond.fieldLink own ix own (T k0).2.1 (T k0).2.2.1 ∈ tblA) (hfin : (T k0).2.2.2 = true) (hpd : parseFieldDescriptor (T k0).2.2.1 = some ty) (hna : narrow ty v = v) (hfit : fits ty v = true) (hlen : k0 < fs.length) (hw : ws.set q0 (a, .inr (ci, fs.set k0 v)) = ws') (hd : decode cc pc = .ok (.putfield ix, 3)) (hn : pc + 3 = pc') (k : KW p l e R s m args below meth c D nL A kc ks Q pc' ls rest ws') : KW p l e R s m args below meth c D nL A kc ks Q pc ls (v :: .ref a :: rest) ws := by
  subst hn hw
  intro H locs la hP hD hS h
  exact va_putF X.1 X.2.1 X.2.2.2.2.1 hin ty0 hty hnm X.2.2.2.1 X.2.2.2.2.2.2.1 hP hD hS q0 he hc k0 hk (X.2.2.2.2.1 _ hl) (fun z hz => by rw [hT] at hz; exact hz) hfin hinit hT hpd hna hfit hlen hd (fun H1 locs1 hP1 hD1 hS1 => k H1 locs1 la hP1 hD1 hS1 h)
theorem KW.put {a q0 ix N ci : Nat} {T : u_T} {fs : List Value} {v : Value} {ty : FieldType} (X : KX p s m args meth c cc nL own D dA ad0 A) (he : ws[q0]? = some (a, .inr (ci, fs))) (hc : vwCl[ci]? = some (own, T, N)) (hin : ∀ w ∈ u_ws own T N, w ∈ tblA) (ty0 : Nat → FieldType) (hty : ∀ k, k < N → parseFieldDescriptor (T k).2.2.1 = some (ty0 k)) (hnm : ∀ a, a < N → ∀ b, b < N → a ≠ b → (T a).2.1 ≠ (T b).2.1) (k0 : Nat) (hk : k0 < N) (hT : (T k0).1 = own) (hl : Cond.fieldLink own ix own (T k0).2.1 (T k0).2.2.1 ∈ tblA) (hfin : (T k0).2.2.2 = false) (hpd : parseFieldDescriptor (T k0).2.2.1 = some ty) (hna : narrow ty v = v) (hfit : fits ty v = true) (hlen : k0 < fs.length) (hw : ws.set q0 (a, .inr (ci, fs.set k0 v)) = ws') (hd : decode cc pc = .ok (.putfield ix, 3)) (hn : pc + 3 = pc') (k : KW p l e R s m args below meth c D nL A kc ks Q pc' ls rest ws') : KW p l e R s m args below meth c D nL A kc ks Q pc ls (v :: .ref a :: rest) ws := by
  subst hn hw
  intro H locs la hP hD hS h
  exact va_put X.1 X.2.1 X.2.2.2.2.1 hin ty0 hty hnm X.2.2.2.1 X.2.2.2.2.2.2.1 hP hD hS q0 he hc k0 hk (X.2.2.2.2.1 _ hl) (fun z hz => by rw [hT] at hz; exact hz) hfin hpd hna hfit hlen hd (fun H1 locs1 hP1 hD1 hS1 => k H1 locs1 la hP1 hD1 hS1 h)
theorem KW.getf {a q0 ix N ci : Nat} {T : u_T} {fs : List Value} {v : Value} (X : KX p s m args meth c cc nL own D dA ad0 A) (he : ws[q0]? = some (a, .inr (ci, fs))) (hc : vwCl[ci]? = some (own, T, N)) (hin : ∀ w ∈ u_ws own T N, w ∈ tblA) (k0 : Nat) (hk : k0 < N) (hT : (T k0).1 = own) (hl : Cond.fieldLink own ix own (T k0).2.1 (T k0).2.2.1 ∈ tblA) (hv : fs[k0]? = some v) (hd : decode cc pc = .ok (.getfield ix, 3)) (hn : pc + 3 = pc') (k : KW p l e R s m args below meth c D nL A kc ks Q pc' ls (v :: rest) ws) : KW p l e R s m args below meth c D nL A kc ks Q pc ls (.ref a :: rest) ws := by
  subst hn
  intro H locs la hP hD hS h
  exact va_get X.1 X.2.1 X.2.2.2.2.1 hin X.2.2.2.1 X.2.2.2.2.2.2.1 hP q0 he hc k0 hk (X.2.2.2.2.1 _ hl) (fun z hz => by rw [hT] at hz; exact hz) hv hd (k H locs la hP hD hS h)
theorem KW.aast {a q0 qk ci t n v : Nat} {r : vw_C} {vs : List Value} {f : Nat → Option Nat} {i : Int32} (X : KX p s m args meth c cc nL own D dA ad0 A) (ha : ws[q0]? = some (a, .inl (dA t, n, .inr (.inr (.inr (.inr f)))))) (ht : (tysA dA)[t]? = some (dA t, .object r.1)) (hv : ws[qk]? = some (v, .inr (ci, vs))) (hc : vwCl[ci]? = some r) (hi : vp_in i n) (hw : ws.set q0 (a, .inl (dA t, n, .inr (.inr (.inr (.inr (va_up f i.toNatClampNeg (some v))))))) = ws') (hd : decode cc pc = .ok (.aastore, 1)) (hn : pc + 1 = pc') (k : KW p l e R s m args below meth c D nL A kc ks Q pc' ls rest ws') : KW p l e R s m args below meth c D nL A kc ks Q pc ls (.ref v :: .int i :: .ref a :: rest) ws := by
  subst hn hw
  intro H locs la hP hD hS h
  exact va_astq X.1 X.2.1 X.2.2.2.2.2.2.1 hP hD hS q0 t qk ci ha ht hv hc hi hd (fun H1 locs1 hP1 hD1 hS1 => k H1 locs1 la hP1 hD1 hS1 h)
theorem KX.pre (X : KX p s m args meth c cc nL own D dA ad0 A) {H : Heap} {locs : List Loc} {h ci : Nat} {fs : List Value} (hP : va_P D vwCl [(h, .inr (ci, fs))] H) (hD : va_D A [(h, .inr (ci, fs))]) (hS : va_S A s.heap H locs) : ∀ U : State, U.heap = H → s.WarmedH U.vm → va_Pc [.ref h] (KPc D dA ad0 H.size h ci fs) [Value.ref h].toArray U := fun U hU hW => by
  refine ⟨rfl, by rw [hU], by rw [hU]; exact hP, va_K.moved hW.alike X.2.2.2.2.2.2.1, hD.weaken (fun _ _ _ _ => trivial), ?_, fun w hw hn => nestWarm hn hW (va_Nw.of (nestOn hn) (X.2.2.2.2.1 w hw)), X.2.2.2.2.2.2.2.2.2.moved hW.alike⟩
  rw [hU]
  refine X.2.2.2.2.2.2.2.2.1.step hW.alike (fun q h1 h2 => hS.2.1 q h1 h2) (fun q h => ?_)
  rcases h with ⟨k, E, h⟩ | h
  · exact hD.2 k (q, E) h
  · exact X.2.2.2.2.2.2.2.1 q (Nat.le_trans hS.1 h)
/-- what the tables say of a constructor that is called -/
def YI (y : MethodName) (cc : ByteArray) (mL : Nat) : Prop := Cond.instanceMethod y ∈ tblA ∧ Cond.initialized y.cls ∈ tblA ∧ Cond.code y cc mL none ∈ tblA ∧ y.name = "<init>" ∧ (y.cls ≠ "java/lang/invoke/MethodHandle" ∧ y.cls ≠ "java/lang/invoke/VarHandle" ∧ (parseMethodDescriptor y.desc).map (fun d => d.parameters.length) = some 0)
theorem KW.callI {b ix mL fr lc mc ms lo n ci : Nat} {y : MethodName} {cy : ByteArray} {fs : List Value} {Mi : MM} {host : String} (X : KX p s m args meth c cc nL own D dA ad0 A) (hM : KC y cy mL fr lc mc ms lo n ci fs Mi) (Y : YI y cy mL) (hl : Cond.methodLink own ix y ∈ tblA ∨ Cond.methodLinkNest own ix y host ∈ tblA) (hR : fr + 1 ≤ R.frames ∧ 8 + (mL + 11) + lc ≤ R.locals ∧ kc + mc ≤ R.cells ∧ ks + ms ≤ R.slots) (hcat : (rest.map fun v => v.category).sum ≤ 8) (hd : decode cc pc = .ok (.invokespecial ix, 3)) (hn : pc + 3 = pc') (k : ∀ u : Nat → Nat, u lo = b → (∀ k, 1000 ≤ k → u k = ad0 k) → KW p l e R s m args below meth c D nL A (kc + mc) (ks + ms) Q pc' ls rest (ws ++ wl dA u lo n Mi)) : KW p l e R s m args below meth c D nL A kc ks Q pc ls (.ref b :: rest) (ws ++ [(b, .inr (ci, fs))]) := by
  subst hn
  intro H locs la hP hD hS h
  have hwa := X.2.2.2.2.1
  have hG := tblIn Y.2.2.1
  have hx : (ws ++ [(b, (.inr (ci, fs) : va_E))])[ws.length]? = some (b, .inr (ci, fs)) := by rw [List.getElem?_append_right (Nat.le_refl _), Nat.sub_self]; rfl
  have hPc : va_P D vwCl [(b, .inr (ci, fs))] H := fun k q hk => by
    have hk0 : k = 0 := by
      have := (List.getElem?_eq_some_iff.mp hk).1
      simp at this
      exact this
    subst hk0
    cases hk
    exact hP ws.length _ hx
  have hDc : va_D A [(b, (.inr (ci, fs) : va_E))] := ⟨fun i j a c ha hc _ => by
    have h1 := (List.getElem?_eq_some_iff.mp ha).1
    have h2 := (List.getElem?_eq_some_iff.mp hc).1
    simp at h1 h2
    omega, fun k q hk => by
    have hk0 : k = 0 := by
      have := (List.getElem?_eq_some_iff.mp hk).1
      simp at this
      exact this
    subst hk0
    cases hk
    exact hD.2 ws.length _ hx⟩
  have hF : ∀ q, va_A [(b, (.inr (ci, fs) : va_E))] H.size q → A q := fun q z => by
    rcases z with ⟨k, E, z⟩ | z
    · exact hDc.2 k (q, E) z
    · exact X.2.2.2.2.2.2.2.1 q (Nat.le_trans hS.1 z)
  have hrun : va_Run p l e R s m args below meth c H locs kc ks mc ms (F0 m pc la (.ref b :: rest)) rest (va_Qv (kpost b lo ad0) (KB D dA lo n Mi (va_A [(b, .inr (ci, fs))] H.size)) (va_A [(b, .inr (ci, fs))] H.size) (Value.ref b :: []).toArray) (va_A [(b, .inr (ci, fs))] H.size) := by
    rcases hl with hl | hl
    · exact va_runI (As := []) (rest := rest) ⟨X.1, X.2.1, X.2.2.1, X.2.2.2.1, hwa⟩ (hM l D dA ad0 H.size b) (cwI 0 hwa hG rfl rfl rfl (hwa _ Y.2.1) (hwa _ hl) (hwa _ Y.1) Y.2.2.2.1 Y.2.2.2.2 ⟨hR.1, hR.2.1⟩) ⟨KPc.blind, X.pre hPc hDc hS⟩ rfl rfl h.1 rfl (lv_room hcat) hd ⟨hR.2.2.1, hR.2.2.2⟩
    · exact va_runIN (As := []) (rest := rest) ⟨X.1, X.2.1, X.2.2.1, X.2.2.2.1, hwa⟩ (hM l D dA ad0 H.size b) ⟨va_cnB 0 hwa hG rfl rfl rfl (va_Nw.of rfl (hwa _ hl)) (hwa _ Y.2.1) Y.2.2.2.2 ⟨hR.1, hR.2.1⟩, Y.2.2.2.1, hwa _ Y.1⟩ ⟨KPc.blind, X.pre hPc hDc hS⟩ rfl rfl h.1 rfl (lv_room hcat) hd ⟨hR.2.2.1, hR.2.2.2⟩
  refine va_callv hrun hS (fun q _ z => hF q z) hF (fun u t H1 locs1 ht hvm hp hB hz hk1 hS1 => ?_)
  obtain ⟨hP1, hD1⟩ := hB
  rw [ht] at hP1
  obtain ⟨hP2, hD2⟩ := joinE hP hD hk1 hF hP1 hD1
  exact k u hp.1 hp.2 H1 locs1 la hP2 hD2 hS1 h
theorem KW.vret (X : KX p s m args meth c cc nL own D dA ad0 A) {lo n b : Nat} {Mi : MM} (u : Nat → Nat) (hr : meth.sig.returnType = none) (hw : ws = wl dA u lo n Mi) (h1 : u lo = b) (h2 : ∀ k, 1000 ≤ k → u k = ad0 k) (hd : decode cc pc = .ok (.return_, 1)) : KW p l e R s m args below meth c D nL A kc ks (MQ below (va_Qv (kpost b lo ad0) (KB D dA lo n Mi A) A) args s kc ks A) pc ls [] ws := by
  subst hw
  intro H locs la hP hD hS h
  exact W.vret X.1 X.2.1 hr (fun t ht hW => ⟨⟨u, rfl, ⟨h1, h2⟩, by rw [ht]; exact hP, hD⟩, hS.F ht⟩) hS.2.2 hd (hlocks := X.2.2.2.2.2.1)
end KWR
theorem KC.of {y : MethodName} {cc : ByteArray} {mL fr lc mc ms lo n ci : Nat} {fs : List Value} {Mi : MM} (hy : plainName y.cls = true) (hyn : y.name = "<init>") (hmL : 1 ≤ mL)
    (K : ∀ (p : Program) (l : Launch) (e : Env) (s : State) (m : MethodId) (args : Array Value) (below : List Frame) (meth : Method) (c : Code) (D : va_G) (dA : Nat → ClassId) (ad0 : Nat → Nat) (A : Nat → Prop) (h : Nat), KX p s m args meth c cc mL y.cls D dA ad0 A → meth.sig.returnType = none → meth.name = "<init>" → KW p l e { frames := fr, cells := mc, slots := ms, locals := lc } s m args below meth c D mL A 0 0 (MQ below (va_Qv (kpost h lo ad0) (KB D dA lo n Mi A) A) args s mc ms A) 0 [(0, .ref h)] [] [(h, .inr (ci, fs))]) : KC y cc mL fr lc mc ms lo n ci fs Mi := by
  intro l D dA ad0 sz h
  refine Met.ofW (cc := cc) (maxL := mL) (ret := none) hy rfl ?_
  intro p e s m args below meth c s₁ B hml hv
  obtain ⟨rfl, hsz, hP, hK, hD0, hSF, hNW, hAO⟩ := hv
  have hts0 := atoms_spec (ws := Cond.code y cc mL none :: tblG) B.pre
  have hts : ∀ w ∈ tblA, w.before [Value.ref h].toArray s = true := fun w hw => by
    obtain ⟨h1, h2⟩ := List.mem_filter.mp hw
    rcases Bool.or_eq_true _ _ ▸ h2 with h3 | h3
    · exact hts0 w (List.mem_cons_of_mem _ (List.mem_filter.mpr ⟨h1, h3⟩))
    · exact va_Nw.use (nestOn h3) (hNW w hw h3)
  have hin : meth.name = "<init>" := (name_of_methodNamed B.named B.method).1.trans hyn
  subst hsz
  have hD := hD0.self (sz := s.heap.size)
  generalize hAe : va_A [(h, .inr (ci, fs))] s.heap.size = A at hD hSF ⊢
  have hA : ∀ q : Nat, s.heap.size ≤ q → A q := fun q h => by rw [← hAe]; exact Or.inr h
  have X : KX p s m [Value.ref h].toArray meth c cc mL y.cls D dA ad0 A := ⟨B.exec, B.bytes, hml, findClass_of_methodNamed B.named, hts, B.notSynchronized, hK, hA, hSF, hAO⟩
  have hl := lv_entry [Value.ref h] (n := mL) hmL
  rw [lg_entry_eq]
  generalize (lg_sl [Value.ref h] ++ List.replicate (mL - (lg_sl [Value.ref h]).length) Slot.unset).toArray = la at hl ⊢
  exact K p l e s m _ below meth c D dA ad0 A h X B.returns hin s.heap [] la hP hD va_S.rf hl
