/-! THE ABSTRACT MACHINE: AW says of a frame over the abstract memory what W says of a frame over a heap; a rule an instruction. -/
def cv (ad : Nat → Nat) (v : Value) : Value := match v with
  | .ref a => .ref (ad a)
  | v => v
theorem cv_cat (ad : Nat → Nat) (v : Value) : (cv ad v).category = v.category := by cases v <;> rfl
def cvl (ad : Nat → Nat) (ls : List (Nat × Value)) : List (Nat × Value) := ls.map (fun q => (q.1, cv ad q.2))
def sLE (j : Nat) : Int32 := [0, 1, 1, 1, 10, 1].getD j 0
def sGR (j : Nat) : Int32 := [2, 8, 5, 100, 90, 9].getD j 0
def sAF (j : Nat) : Int32 := [0, 1, 1, 25, 50, 1].getD j 0
def SF1 (f : String) (v : Nat → Int32) (t : Nat) (A : Nat → Prop) (U : State) (H : Heap) : Prop := va_Z "ShakerSweep" f "[I" (.ref t) A U H ∧ va_T .int t 6 (fun j => .int (v j)) A U H
def dcI (n : Nat) : Int32 := if n % 2 = 0 then Int32.ofInt ((n / 2 : Nat) : Int) else Int32.ofInt (-((n / 2 : Nat) : Int))
def SCR (ad : Nat → Nat) (A : Nat → Prop) (U : State) (H : Heap) : Prop := va_X (ad 1003) (ad 1004) (fun j => dcI (ad (2000 + j))) U H ∧ ad 1003 < H.size ∧ ¬ A (ad 1003)
def SCX (ad : Nat → Nat) (L : Nat) (xs : Nat → Int32) : Prop := ad 1004 = L ∧ (fun j => dcI (ad (2000 + j))) = xs
def SF (ad : Nat → Nat) (A : Nat → Prop) (U : State) (H : Heap) : Prop := SF1 "SETTING_LEAST" sLE (ad 1000) A U H ∧ SF1 "SETTING_GREATEST" sGR (ad 1001) A U H ∧ SF1 "SETTING_AT_FIRST" sAF (ad 1002) A U H ∧ SCR ad A U H
theorem SF1.step {f : String} {v : Nat → Int32} {t : Nat} {A B : Nat → Prop} {u U : State} {H H1 : Heap} (h : SF1 f v t A u H) (hvm : u.vm.Alike U.vm) (hq : ∀ a : Nat, a < H.size → ¬ A a → H1[a]? = H[a]?) (hAB : ∀ q, B q → A q) : SF1 f v t B U H1 := by
  obtain ⟨hZ, hT⟩ := h
  exact ⟨((hZ.moved hvm).kept hq).narrow hAB, ((hT.moved hvm).kept hq).narrow hAB⟩
theorem SCR.step {ad : Nat → Nat} {A B : Nat → Prop} {u U : State} {H H1 : Heap} (h : SCR ad A u H) (hvm : u.vm.Alike U.vm) (hq : ∀ a : Nat, a < H.size → ¬ A a → H1[a]? = H[a]?) (hAB : ∀ q, B q → A q) : SCR ad B U H1 := by
  obtain ⟨h1, h2, h3⟩ := h
  have e := hq _ h2 h3
  refine ⟨(h1.moved hvm).kept e, ?_, fun z => h3 (hAB _ z)⟩
  obtain ⟨scr, h4, -⟩ := h1
  rw [h4] at e
  exact (Array.getElem?_eq_some_iff.mp e).1
theorem SF.step {ad : Nat → Nat} {A B : Nat → Prop} {u U : State} {H H1 : Heap} (h : SF ad A u H) (hvm : u.vm.Alike U.vm) (hq : ∀ a : Nat, a < H.size → ¬ A a → H1[a]? = H[a]?) (hAB : ∀ q, B q → A q) : SF ad B U H1 := ⟨h.1.step hvm hq hAB, h.2.1.step hvm hq hAB, h.2.2.1.step hvm hq hAB, h.2.2.2.step hvm hq hAB⟩
def CX (p : Program) (s : State) (m : MethodId) (args : Array Value) (meth : Method) (c : Code) (cc : ByteArray) (nL : Nat) (own : String) (D : va_G) (dA : Nat → ClassId) (ad : Nat → Nat) (lo n : Nat) (A : Nat → Prop) : Prop :=
  p.tables.exec = Jvm.exec ∧ c.code = cc ∧ c.maxLocals = nL ∧ s.vm.findClass own = some m.cls ∧ (∀ w ∈ tblA, w.before args s = true) ∧ meth.locks = false ∧ va_K D vwCl (tysA dA) s ∧ (∀ M, va_D A (wl dA ad lo n M)) ∧ (∀ q, s.heap.size ≤ q → A q) ∧ SF ad A s s.heap
def AW (p : Program) (l : Launch) (e : Env) (R : Room) (s : State) (m : MethodId) (args : Array Value) (below : List Frame) (meth : Method) (c : Code) (D : va_G) (dA : Nat → ClassId) (ad : Nat → Nat) (lo n nL : Nat) (A : Nat → Prop) (kc ks : Nat) (Q : State → Prop) (pc : Nat) (ls : List (Nat × Value)) (st : List Value) (M : MM) : Prop :=
  ∀ (H : Heap) (locs : List Loc) (la : Array Slot), va_P D vwCl (wl dA ad lo n M) H → va_S A s.heap H locs → lv_has la nL (cvl ad ls) → W p l e R s m args below meth c H locs kc ks Q (F0 m pc la (st.map (cv ad)))
theorem cvl_at {ad : Nat → Nat} {ls : List (Nat × Value)} {k i : Nat} {v : Value} (h : ls[k]? = some (i, v)) : (cvl ad ls)[k]? = some (i, cv ad v) := by
  simp [cvl, List.getElem?_map, h]
theorem cvl_st1 {ad : Nat → Nat} {ls ls' : List (Nat × Value)} {i : Nat} {v : Value} (h : (i, v) :: ls.filter (fun q => !(q.1 == i) && !(q.1 + 1 == i && q.2.category == 2)) = ls') : (i, cv ad v) :: (cvl ad ls).filter (fun q => !(q.1 == i) && !(q.1 + 1 == i && q.2.category == 2)) = cvl ad ls' := by
  rw [← h]
  simp only [cvl, List.map_cons, List.filter_map]
  congr 2
  apply List.filter_congr
  intro q _
  simp [cv_cat]
theorem cvl_st2 {ad : Nat → Nat} {ls ls' : List (Nat × Value)} {i : Nat} {v : Value} (h : (i, v) :: ls.filter (fun q => !(q.1 == i) && (!(q.1 == i + 1) && !(q.1 + 1 == i && q.2.category == 2))) = ls') : (i, cv ad v) :: (cvl ad ls).filter (fun q => !(q.1 == i) && (!(q.1 == i + 1) && !(q.1 + 1 == i && q.2.category == 2))) = cvl ad ls' := by
  rw [← h]
  simp only [cvl, List.map_cons, List.filter_map]
  congr 2
  apply List.filter_congr
  intro q _
  simp [cv_cat]
theorem cvl_sub {ad : Nat → Nat} {la : Array Slot} {nL : Nat} {ls ls' : List (Nat × Value)} (h : lv_has la nL (cvl ad ls)) (ks : List Nat) (hl : lv_pick ls ks = ls') : lv_has la nL (cvl ad ls') := by
  refine lv_sub h ks ?_
  rw [← hl]
  simp only [lv_pick, cvl, List.getElem?_map, List.map_filterMap]
theorem map_cat (ad : Nat → Nat) (st : List Value) : ((st.map (cv ad)).map fun v => v.category) = st.map fun v => v.category := by
  rw [List.map_map]
  apply List.map_congr_left
  intro v _
  exact cv_cat ad v
def lcp (x y : Int64) : Int32 := lg_cmp x y
section AWR
variable {p : Program} {l : Launch} {e : Env} {R : Room} {s : State} {m : MethodId} {args : Array Value} {below : List Frame} {meth : Method} {c : Code} {D : va_G} {dA : Nat → ClassId} {ad : Nat → Nat} {lo n nL : Nat} {A : Nat → Prop} {kc ks : Nat} {Q : State → Prop} {cc : ByteArray} {own : String}
variable {pc pc' : Nat} {ls ls' : List (Nat × Value)} {rest : List Value} {M : MM}
theorem AW.sub (pk0 : List Nat) (hl : lv_pick ls pk0 = ls') (k : AW p l e R s m args below meth c D dA ad lo n nL A kc ks Q pc ls' rest M) : AW p l e R s m args below meth c D dA ad lo n nL A kc ks Q pc ls rest M := fun H locs la hP hS h => k H locs la hP hS (cvl_sub h pk0 hl)
theorem AW.iconst {z : Int} {v : Int32} (X : CX p s m args meth c cc nL own D dA ad lo n A) (hv : Int32.ofInt z = v) (hd : decode cc pc = .ok (.iconst z, 1)) (hn : pc + 1 = pc') (k : AW p l e R s m args below meth c D dA ad lo n nL A kc ks Q pc' ls (.int v :: rest) M) : AW p l e R s m args below meth c D dA ad lo n nL A kc ks Q pc ls rest M := by
  subst hn
  intro H locs la hP hS h
  exact lv_iconst X.1 X.2.1 hd hv (k H locs la hP hS h)
theorem AW.bipush {z : Int} {v : Int32} (X : CX p s m args meth c cc nL own D dA ad lo n A) (hv : (Int8.ofInt z).toInt32 = v) (hd : decode cc pc = .ok (.bipush z, 2)) (hn : pc + 2 = pc') (k : AW p l e R s m args below meth c D dA ad lo n nL A kc ks Q pc' ls (.int v :: rest) M) : AW p l e R s m args below meth c D dA ad lo n nL A kc ks Q pc ls rest M := by
  subst hn
  intro H locs la hP hS h
  exact lv_bipush X.1 X.2.1 hd hv (k H locs la hP hS h)
theorem AW.sipush {z : Int} {v : Int32} (X : CX p s m args meth c cc nL own D dA ad lo n A) (hv : (Int16.ofInt z).toInt32 = v) (hd : decode cc pc = .ok (.sipush z, 3)) (hn : pc + 3 = pc') (k : AW p l e R s m args below meth c D dA ad lo n nL A kc ks Q pc' ls (.int v :: rest) M) : AW p l e R s m args below meth c D dA ad lo n nL A kc ks Q pc ls rest M := by
  subst hn
  intro H locs la hP hS h
  exact lv_sipush X.1 X.2.1 hd hv (k H locs la hP hS h)
theorem AW.lconst {z : Fin 2} {v : Int64} (X : CX p s m args meth c cc nL own D dA ad lo n A) (hv : Int64.ofNat (z : Nat) = v) (hd : decode cc pc = .ok (.lconst z, 1)) (hn : pc + 1 = pc') (k : AW p l e R s m args below meth c D dA ad lo n nL A kc ks Q pc' ls (.long v :: rest) M) : AW p l e R s m args below meth c D dA ad lo n nL A kc ks Q pc ls rest M := by
  subst hn
  intro H locs la hP hS h
  exact lv_lconst X.1 X.2.1 hd hv (k H locs la hP hS h)
theorem AW.ldc {ix : Nat} {v : Int32} (X : CX p s m args meth c cc nL own D dA ad lo n A) (hw : Jvm.Cond.constant own ix v ∈ tblA) (hd : decode cc pc = .ok (.ldc ix, 2)) (hn : pc + 2 = pc') (k : AW p l e R s m args below meth c D dA ad lo n nL A kc ks Q pc' ls (.int v :: rest) M) : AW p l e R s m args below meth c D dA ad lo n nL A kc ks Q pc ls rest M := by
  subst hn
  intro H locs la hP hS h
  exact lv_ldc X.1 X.2.1 X.2.2.2.1 (X.2.2.2.2.1 _ hw) hd (k H locs la hP hS h)
theorem AW.ldc2 {ix : Nat} {v : Int64} (X : CX p s m args meth c cc nL own D dA ad lo n A) (hw : Jvm.Cond.constantLong own ix v ∈ tblA) (hd : decode cc pc = .ok (.ldc2_w ix, 3)) (hn : pc + 3 = pc') (k : AW p l e R s m args below meth c D dA ad lo n nL A kc ks Q pc' ls (.long v :: rest) M) : AW p l e R s m args below meth c D dA ad lo n nL A kc ks Q pc ls rest M := by
  subst hn
  intro H locs la hP hS h
  exact lv_ldc2 X.1 X.2.1 X.2.2.2.1 (X.2.2.2.2.1 _ hw) hd (k H locs la hP hS h)
theorem AW.iload_n {f : Fin 4} {i k0 : Nat} {x : Int32} (X : CX p s m args meth c cc nL own D dA ad lo n A) (hi : (f : Nat) = i) (hl : ls[k0]? = some (i, .int x)) (hd : decode cc pc = .ok (.iload_n f, 1)) (hn : pc + 1 = pc') (k : AW p l e R s m args below meth c D dA ad lo n nL A kc ks Q pc' ls (.int x :: rest) M) : AW p l e R s m args below meth c D dA ad lo n nL A kc ks Q pc ls rest M := by
  subst hn
  intro H locs la hP hS h
  exact lv_iload_n X.1 X.2.1 hd hi (lv_at h k0 (cvl_at hl)) (k H locs la hP hS h)
theorem AW.iload {i k0 : Nat} {x : Int32} (X : CX p s m args meth c cc nL own D dA ad lo n A) (hl : ls[k0]? = some (i, .int x)) (hd : decode cc pc = .ok (.iload i, 2)) (hn : pc + 2 = pc') (k : AW p l e R s m args below meth c D dA ad lo n nL A kc ks Q pc' ls (.int x :: rest) M) : AW p l e R s m args below meth c D dA ad lo n nL A kc ks Q pc ls rest M := by
  subst hn
  intro H locs la hP hS h
  exact lv_iload X.1 X.2.1 hd (lv_at h k0 (cvl_at hl)) (k H locs la hP hS h)
theorem AW.lload_n {f : Fin 4} {i k0 : Nat} {x : Int64} (X : CX p s m args meth c cc nL own D dA ad lo n A) (hi : (f : Nat) = i) (hl : ls[k0]? = some (i, .long x)) (hd : decode cc pc = .ok (.lload_n f, 1)) (hn : pc + 1 = pc') (k : AW p l e R s m args below meth c D dA ad lo n nL A kc ks Q pc' ls (.long x :: rest) M) : AW p l e R s m args below meth c D dA ad lo n nL A kc ks Q pc ls rest M := by
  subst hn
  intro H locs la hP hS h
  exact lv_lload_n X.1 X.2.1 hd hi (lv_at h k0 (cvl_at hl)) (k H locs la hP hS h)
theorem AW.lload {i k0 : Nat} {x : Int64} (X : CX p s m args meth c cc nL own D dA ad lo n A) (hl : ls[k0]? = some (i, .long x)) (hd : decode cc pc = .ok (.lload i, 2)) (hn : pc + 2 = pc') (k : AW p l e R s m args below meth c D dA ad lo n nL A kc ks Q pc' ls (.long x :: rest) M) : AW p l e R s m args below meth c D dA ad lo n nL A kc ks Q pc ls rest M := by
  subst hn
  intro H locs la hP hS h
  exact lv_lload X.1 X.2.1 hd (lv_at h k0 (cvl_at hl)) (k H locs la hP hS h)
theorem AW.aload_n {f : Fin 4} {i k0 : Nat} {x : Nat} (X : CX p s m args meth c cc nL own D dA ad lo n A) (hi : (f : Nat) = i) (hl : ls[k0]? = some (i, .ref x)) (hd : decode cc pc = .ok (.aload_n f, 1)) (hn : pc + 1 = pc') (k : AW p l e R s m args below meth c D dA ad lo n nL A kc ks Q pc' ls (.ref x :: rest) M) : AW p l e R s m args below meth c D dA ad lo n nL A kc ks Q pc ls rest M := by
  subst hn
  intro H locs la hP hS h
  exact lv_aload_n X.1 X.2.1 hd hi (lv_at h k0 (cvl_at hl)) (k H locs la hP hS h)
theorem AW.aload {i k0 : Nat} {x : Nat} (X : CX p s m args meth c cc nL own D dA ad lo n A) (hl : ls[k0]? = some (i, .ref x)) (hd : decode cc pc = .ok (.aload i, 2)) (hn : pc + 2 = pc') (k : AW p l e R s m args below meth c D dA ad lo n nL A kc ks Q pc' ls (.ref x :: rest) M) : AW p l e R s m args below meth c D dA ad lo n nL A kc ks Q pc ls rest M := by
  subst hn
  intro H locs la hP hS h
  exact lv_aload X.1 X.2.1 hd (lv_at h k0 (cvl_at hl)) (k H locs la hP hS h)
theorem AW.istore_n {f : Fin 4} {i : Nat} {x : Int32} (X : CX p s m args meth c cc nL own D dA ad lo n A) (hi : (f : Nat) = i) (hlt : i < nL) (hl : (i, Value.int x) :: ls.filter (fun q => !(q.1 == i) && !(q.1 + 1 == i && q.2.category == 2)) = ls') (hd : decode cc pc = .ok (.istore_n f, 1)) (hn : pc + 1 = pc') (k : AW p l e R s m args below meth c D dA ad lo n nL A kc ks Q pc' ls' rest M) : AW p l e R s m args below meth c D dA ad lo n nL A kc ks Q pc ls (.int x :: rest) M := by
  subst hn
  intro H locs la hP hS h
  exact lv_istore_n X.1 X.2.1 hd hi h hlt (cvl_st1 (v := .int x) hl) (fun la h => (k H locs la hP hS h))
theorem AW.istore {i : Nat} {x : Int32} (X : CX p s m args meth c cc nL own D dA ad lo n A) (hlt : i < nL) (hl : (i, Value.int x) :: ls.filter (fun q => !(q.1 == i) && !(q.1 + 1 == i && q.2.category == 2)) = ls') (hd : decode cc pc = .ok (.istore i, 2)) (hn : pc + 2 = pc') (k : AW p l e R s m args below meth c D dA ad lo n nL A kc ks Q pc' ls' rest M) : AW p l e R s m args below meth c D dA ad lo n nL A kc ks Q pc ls (.int x :: rest) M := by
  subst hn
  intro H locs la hP hS h
  exact lv_istore X.1 X.2.1 hd h hlt (cvl_st1 (v := .int x) hl) (fun la h => (k H locs la hP hS h))
theorem AW.lstore_n {f : Fin 4} {i : Nat} {x : Int64} (X : CX p s m args meth c cc nL own D dA ad lo n A) (hi : (f : Nat) = i) (hlt : i + 1 < nL) (hl : (i, Value.long x) :: ls.filter (fun q => !(q.1 == i) && (!(q.1 == i + 1) && !(q.1 + 1 == i && q.2.category == 2))) = ls') (hd : decode cc pc = .ok (.lstore_n f, 1)) (hn : pc + 1 = pc') (k : AW p l e R s m args below meth c D dA ad lo n nL A kc ks Q pc' ls' rest M) : AW p l e R s m args below meth c D dA ad lo n nL A kc ks Q pc ls (.long x :: rest) M := by
  subst hn
  intro H locs la hP hS h
  exact lv_lstore_n X.1 X.2.1 hd hi h hlt (cvl_st2 (v := .long x) hl) (fun la h => (k H locs la hP hS h))
theorem AW.lstore {i : Nat} {x : Int64} (X : CX p s m args meth c cc nL own D dA ad lo n A) (hlt : i + 1 < nL) (hl : (i, Value.long x) :: ls.filter (fun q => !(q.1 == i) && (!(q.1 == i + 1) && !(q.1 + 1 == i && q.2.category == 2))) = ls') (hd : decode cc pc = .ok (.lstore i, 2)) (hn : pc + 2 = pc') (k : AW p l e R s m args below meth c D dA ad lo n nL A kc ks Q pc' ls' rest M) : AW p l e R s m args below meth c D dA ad lo n nL A kc ks Q pc ls (.long x :: rest) M := by
  subst hn
  intro H locs la hP hS h
  exact lv_lstore X.1 X.2.1 hd h hlt (cvl_st2 (v := .long x) hl) (fun la h => (k H locs la hP hS h))
theorem AW.astore_n {f : Fin 4} {i : Nat} {x : Nat} (X : CX p s m args meth c cc nL own D dA ad lo n A) (hi : (f : Nat) = i) (hlt : i < nL) (hl : (i, Value.ref x) :: ls.filter (fun q => !(q.1 == i) && !(q.1 + 1 == i && q.2.category == 2)) = ls') (hd : decode cc pc = .ok (.astore_n f, 1)) (hn : pc + 1 = pc') (k : AW p l e R s m args below meth c D dA ad lo n nL A kc ks Q pc' ls' rest M) : AW p l e R s m args below meth c D dA ad lo n nL A kc ks Q pc ls (.ref x :: rest) M := by
  subst hn
  intro H locs la hP hS h
  exact lv_astore_n X.1 X.2.1 hd hi h hlt (cvl_st1 (v := .ref x) hl) (fun la h => (k H locs la hP hS h))
theorem AW.astore {i : Nat} {x : Nat} (X : CX p s m args meth c cc nL own D dA ad lo n A) (hlt : i < nL) (hl : (i, Value.ref x) :: ls.filter (fun q => !(q.1 == i) && !(q.1 + 1 == i && q.2.category == 2)) = ls') (hd : decode cc pc = .ok (.astore i, 2)) (hn : pc + 2 = pc') (k : AW p l e R s m args below meth c D dA ad lo n nL A kc ks Q pc' ls' rest M) : AW p l e R s m args below meth c D dA ad lo n nL A kc ks Q pc ls (.ref x :: rest) M := by
  subst hn
  intro H locs la hP hS h
  exact lv_astore X.1 X.2.1 hd h hlt (cvl_st1 (v := .ref x) hl) (fun la h => (k H locs la hP hS h))
theorem AW.iinc {i k0 : Nat} {z : Int} {x y v : Int32} (X : CX p s m args meth c cc nL own D dA ad lo n A) (hk : ls[k0]? = some (i, .int x)) (hz : Int32.ofInt z = y) (hv : x + y = v) (hlt : i < nL) (hl : (i, Value.int v) :: ls.filter (fun q => !(q.1 == i) && !(q.1 + 1 == i && q.2.category == 2)) = ls') (hd : decode cc pc = .ok (.iinc i z, 3)) (hn : pc + 3 = pc') (k : AW p l e R s m args below meth c D dA ad lo n nL A kc ks Q pc' ls' rest M) : AW p l e R s m args below meth c D dA ad lo n nL A kc ks Q pc ls rest M := by
  subst hn
  intro H locs la hP hS h
  exact lv_iinc X.1 X.2.1 hd h (cvl_at hk) (by rw [hz]; exact hv) hlt (cvl_st1 (v := .int v) hl) (fun la h => (k H locs la hP hS h))
theorem AW.iadd {x y : Int32} (X : CX p s m args meth c cc nL own D dA ad lo n A)  (hd : decode cc pc = .ok (.iadd, 1)) (hn : pc + 1 = pc') (k : AW p l e R s m args below meth c D dA ad lo n nL A kc ks Q pc' ls (.int (x + y) :: rest) M) : AW p l e R s m args below meth c D dA ad lo n nL A kc ks Q pc ls (.int y :: .int x :: rest) M := by
  subst hn
  intro H locs la hP hS h
  exact lv_iadd X.1 X.2.1 hd (k H locs la hP hS h)
theorem AW.isub {x y : Int32} (X : CX p s m args meth c cc nL own D dA ad lo n A)  (hd : decode cc pc = .ok (.isub, 1)) (hn : pc + 1 = pc') (k : AW p l e R s m args below meth c D dA ad lo n nL A kc ks Q pc' ls (.int (x - y) :: rest) M) : AW p l e R s m args below meth c D dA ad lo n nL A kc ks Q pc ls (.int y :: .int x :: rest) M := by
  subst hn
  intro H locs la hP hS h
  exact lv_isub X.1 X.2.1 hd (k H locs la hP hS h)
theorem AW.imul {x y : Int32} (X : CX p s m args meth c cc nL own D dA ad lo n A)  (hd : decode cc pc = .ok (.imul, 1)) (hn : pc + 1 = pc') (k : AW p l e R s m args below meth c D dA ad lo n nL A kc ks Q pc' ls (.int (x * y) :: rest) M) : AW p l e R s m args below meth c D dA ad lo n nL A kc ks Q pc ls (.int y :: .int x :: rest) M := by
  subst hn
  intro H locs la hP hS h
  exact lv_imul X.1 X.2.1 hd (k H locs la hP hS h)
theorem AW.iand {x y : Int32} (X : CX p s m args meth c cc nL own D dA ad lo n A)  (hd : decode cc pc = .ok (.iand, 1)) (hn : pc + 1 = pc') (k : AW p l e R s m args below meth c D dA ad lo n nL A kc ks Q pc' ls (.int (x &&& y) :: rest) M) : AW p l e R s m args below meth c D dA ad lo n nL A kc ks Q pc ls (.int y :: .int x :: rest) M := by
  subst hn
  intro H locs la hP hS h
  exact lv_iand X.1 X.2.1 hd (k H locs la hP hS h)
theorem AW.ishr {x y : Int32} (X : CX p s m args meth c cc nL own D dA ad lo n A)  (hd : decode cc pc = .ok (.ishr, 1)) (hn : pc + 1 = pc') (k : AW p l e R s m args below meth c D dA ad lo n nL A kc ks Q pc' ls (.int (x >>> (y &&& 31)) :: rest) M) : AW p l e R s m args below meth c D dA ad lo n nL A kc ks Q pc ls (.int y :: .int x :: rest) M := by
  subst hn
  intro H locs la hP hS h
  exact lv_ishr X.1 X.2.1 hd (k H locs la hP hS h)
theorem AW.idiv {x y : Int32} (X : CX p s m args meth c cc nL own D dA ad lo n A) (hne : ¬ y = 0) (hd : decode cc pc = .ok (.idiv, 1)) (hn : pc + 1 = pc') (k : AW p l e R s m args below meth c D dA ad lo n nL A kc ks Q pc' ls (.int (x / y) :: rest) M) : AW p l e R s m args below meth c D dA ad lo n nL A kc ks Q pc ls (.int y :: .int x :: rest) M := by
  subst hn
  intro H locs la hP hS h
  exact lv_idiv X.1 X.2.1 hd hne (k H locs la hP hS h)
theorem AW.irem {x y : Int32} (X : CX p s m args meth c cc nL own D dA ad lo n A) (hne : ¬ y = 0) (hd : decode cc pc = .ok (.irem, 1)) (hn : pc + 1 = pc') (k : AW p l e R s m args below meth c D dA ad lo n nL A kc ks Q pc' ls (.int (x - x / y * y) :: rest) M) : AW p l e R s m args below meth c D dA ad lo n nL A kc ks Q pc ls (.int y :: .int x :: rest) M := by
  subst hn
  intro H locs la hP hS h
  exact lv_irem X.1 X.2.1 hd hne (k H locs la hP hS h)
theorem AW.ladd {x y : Int64} (X : CX p s m args meth c cc nL own D dA ad lo n A)  (hd : decode cc pc = .ok (.ladd, 1)) (hn : pc + 1 = pc') (k : AW p l e R s m args below meth c D dA ad lo n nL A kc ks Q pc' ls (.long (x + y) :: rest) M) : AW p l e R s m args below meth c D dA ad lo n nL A kc ks Q pc ls (.long y :: .long x :: rest) M := by
  subst hn
  intro H locs la hP hS h
  exact lv_ladd X.1 X.2.1 hd (k H locs la hP hS h)
theorem AW.lsub {x y : Int64} (X : CX p s m args meth c cc nL own D dA ad lo n A)  (hd : decode cc pc = .ok (.lsub, 1)) (hn : pc + 1 = pc') (k : AW p l e R s m args below meth c D dA ad lo n nL A kc ks Q pc' ls (.long (x - y) :: rest) M) : AW p l e R s m args below meth c D dA ad lo n nL A kc ks Q pc ls (.long y :: .long x :: rest) M := by
  subst hn
  intro H locs la hP hS h
  exact lv_lsub X.1 X.2.1 hd (k H locs la hP hS h)
theorem AW.lmul {x y : Int64} (X : CX p s m args meth c cc nL own D dA ad lo n A)  (hd : decode cc pc = .ok (.lmul, 1)) (hn : pc + 1 = pc') (k : AW p l e R s m args below meth c D dA ad lo n nL A kc ks Q pc' ls (.long (x * y) :: rest) M) : AW p l e R s m args below meth c D dA ad lo n nL A kc ks Q pc ls (.long y :: .long x :: rest) M := by
  subst hn
  intro H locs la hP hS h
  exact lv_lmul X.1 X.2.1 hd (k H locs la hP hS h)
theorem AW.ldiv {x y : Int64} (X : CX p s m args meth c cc nL own D dA ad lo n A) (hne : ¬ y = 0) (hd : decode cc pc = .ok (.ldiv, 1)) (hn : pc + 1 = pc') (k : AW p l e R s m args below meth c D dA ad lo n nL A kc ks Q pc' ls (.long (x / y) :: rest) M) : AW p l e R s m args below meth c D dA ad lo n nL A kc ks Q pc ls (.long y :: .long x :: rest) M := by
  subst hn
  intro H locs la hP hS h
  exact lv_ldiv X.1 X.2.1 hd hne (k H locs la hP hS h)
theorem AW.lcmp {x y : Int64} (X : CX p s m args meth c cc nL own D dA ad lo n A)  (hd : decode cc pc = .ok (.lcmp, 1)) (hn : pc + 1 = pc') (k : AW p l e R s m args below meth c D dA ad lo n nL A kc ks Q pc' ls (.int (lcp x y) :: rest) M) : AW p l e R s m args below meth c D dA ad lo n nL A kc ks Q pc ls (.long y :: .long x :: rest) M := by
  subst hn
  intro H locs la hP hS h
  exact W.lcmp X.1 X.2.1 hd (k H locs la hP hS h)
theorem AW.i2l {x : Int32} (X : CX p s m args meth c cc nL own D dA ad lo n A)  (hd : decode cc pc = .ok (.i2l, 1)) (hn : pc + 1 = pc') (k : AW p l e R s m args below meth c D dA ad lo n nL A kc ks Q pc' ls (.long x.toInt64 :: rest) M) : AW p l e R s m args below meth c D dA ad lo n nL A kc ks Q pc ls (.int x :: rest) M := by
  subst hn
  intro H locs la hP hS h
  exact lv_i2l X.1 X.2.1 hd rfl (k H locs la hP hS h)
theorem AW.l2i {x : Int64} (X : CX p s m args meth c cc nL own D dA ad lo n A)  (hd : decode cc pc = .ok (.l2i, 1)) (hn : pc + 1 = pc') (k : AW p l e R s m args below meth c D dA ad lo n nL A kc ks Q pc' ls (.int x.toInt32 :: rest) M) : AW p l e R s m args below meth c D dA ad lo n nL A kc ks Q pc ls (.long x :: rest) M := by
  subst hn
  intro H locs la hP hS h
  exact lv_l2i X.1 X.2.1 hd rfl (k H locs la hP hS h)
theorem AW.pop {v : Value} (X : CX p s m args meth c cc nL own D dA ad lo n A) (hc : v.category = 1) (hd : decode cc pc = .ok (.pop, 1)) (hn : pc + 1 = pc') (k : AW p l e R s m args below meth c D dA ad lo n nL A kc ks Q pc' ls rest M) : AW p l e R s m args below meth c D dA ad lo n nL A kc ks Q pc ls (v :: rest) M := by
  subst hn
  intro H locs la hP hS h
  exact lv_pop X.1 X.2.1 hd ((cv_cat ad v).trans hc) (k H locs la hP hS h)
theorem AW.dup {v : Value} (X : CX p s m args meth c cc nL own D dA ad lo n A) (hc : v.category = 1) (hd : decode cc pc = .ok (.dup, 1)) (hn : pc + 1 = pc') (k : AW p l e R s m args below meth c D dA ad lo n nL A kc ks Q pc' ls (v :: v :: rest) M) : AW p l e R s m args below meth c D dA ad lo n nL A kc ks Q pc ls (v :: rest) M := by
  subst hn
  intro H locs la hP hS h
  exact lv_dup X.1 X.2.1 hd ((cv_cat ad v).trans hc) (k H locs la hP hS h)
theorem AW.dup_x1 {v w : Value} (X : CX p s m args meth c cc nL own D dA ad lo n A) (hc : v.category = 1) (hc2 : w.category = 1) (hd : decode cc pc = .ok (.dup_x1, 1)) (hn : pc + 1 = pc') (k : AW p l e R s m args below meth c D dA ad lo n nL A kc ks Q pc' ls (v :: w :: v :: rest) M) : AW p l e R s m args below meth c D dA ad lo n nL A kc ks Q pc ls (v :: w :: rest) M := by
  subst hn
  intro H locs la hP hS h
  exact lv_dup_x1 X.1 X.2.1 hd ((cv_cat ad v).trans hc) ((cv_cat ad w).trans hc2) (k H locs la hP hS h)
theorem AW.dup2 {v w : Value} (X : CX p s m args meth c cc nL own D dA ad lo n A) (hc : v.category = 1) (hc2 : w.category = 1) (hd : decode cc pc = .ok (.dup2, 1)) (hn : pc + 1 = pc') (k : AW p l e R s m args below meth c D dA ad lo n nL A kc ks Q pc' ls (v :: w :: v :: w :: rest) M) : AW p l e R s m args below meth c D dA ad lo n nL A kc ks Q pc ls (v :: w :: rest) M := by
  subst hn
  intro H locs la hP hS h
  exact lv_dup2_11 X.1 X.2.1 hd ((cv_cat ad v).trans hc) ((cv_cat ad w).trans hc2) (k H locs la hP hS h)
theorem AW.goto {off : Int} (X : CX p s m args meth c cc nL own D dA ad lo n A) (hd : decode cc pc = .ok (.goto off, 3)) (ht : (pc : Int) + off = (pc' : Int)) (k : AW p l e R s m args below meth c D dA ad lo n nL A kc ks Q pc' ls rest M) : AW p l e R s m args below meth c D dA ad lo n nL A kc ks Q pc ls rest M := fun H locs la hP hS h => lv_goto X.1 X.2.1 hd ht (k H locs la hP hS h)
theorem AW.if_eq {x : Int32} {off : Int} {tgt : Nat} (X : CX p s m args meth c cc nL own D dA ad lo n A) (hd : decode cc pc = .ok (.ifCond .eq off, 3)) (ht : (pc : Int) + off = (tgt : Int)) (hn : pc + 3 = pc') (kt : x = 0 → AW p l e R s m args below meth c D dA ad lo n nL A kc ks Q tgt ls rest M) (kf : ¬ x = 0 → AW p l e R s m args below meth c D dA ad lo n nL A kc ks Q pc' ls rest M) : AW p l e R s m args below meth c D dA ad lo n nL A kc ks Q pc ls (.int x :: rest) M := by
  subst hn
  exact fun H locs la hP hS h => lv_if_eq X.1 X.2.1 hd ht (fun q => kt q H locs la hP hS h) (fun q => kf q H locs la hP hS h)
theorem AW.icmp_eq {x y : Int32} {off : Int} {tgt : Nat} (X : CX p s m args meth c cc nL own D dA ad lo n A) (hd : decode cc pc = .ok (.if_icmp .eq off, 3)) (ht : (pc : Int) + off = (tgt : Int)) (hn : pc + 3 = pc') (kt : x = y → AW p l e R s m args below meth c D dA ad lo n nL A kc ks Q tgt ls rest M) (kf : ¬ x = y → AW p l e R s m args below meth c D dA ad lo n nL A kc ks Q pc' ls rest M) : AW p l e R s m args below meth c D dA ad lo n nL A kc ks Q pc ls (.int y :: .int x :: rest) M := by
  subst hn
  exact fun H locs la hP hS h => lv_icmp_eq X.1 X.2.1 hd ht (fun q => kt q H locs la hP hS h) (fun q => kf q H locs la hP hS h)
theorem AW.if_ne {x : Int32} {off : Int} {tgt : Nat} (X : CX p s m args meth c cc nL own D dA ad lo n A) (hd : decode cc pc = .ok (.ifCond .ne off, 3)) (ht : (pc : Int) + off = (tgt : Int)) (hn : pc + 3 = pc') (kt : ¬ x = 0 → AW p l e R s m args below meth c D dA ad lo n nL A kc ks Q tgt ls rest M) (kf : x = 0 → AW p l e R s m args below meth c D dA ad lo n nL A kc ks Q pc' ls rest M) : AW p l e R s m args below meth c D dA ad lo n nL A kc ks Q pc ls (.int x :: rest) M := by
  subst hn
  exact fun H locs la hP hS h => lv_if_ne X.1 X.2.1 hd ht (fun q => kt q H locs la hP hS h) (fun q => kf q H locs la hP hS h)
theorem AW.icmp_ne {x y : Int32} {off : Int} {tgt : Nat} (X : CX p s m args meth c cc nL own D dA ad lo n A) (hd : decode cc pc = .ok (.if_icmp .ne off, 3)) (ht : (pc : Int) + off = (tgt : Int)) (hn : pc + 3 = pc') (kt : ¬ x = y → AW p l e R s m args below meth c D dA ad lo n nL A kc ks Q tgt ls rest M) (kf : x = y → AW p l e R s m args below meth c D dA ad lo n nL A kc ks Q pc' ls rest M) : AW p l e R s m args below meth c D dA ad lo n nL A kc ks Q pc ls (.int y :: .int x :: rest) M := by
  subst hn
  exact fun H locs la hP hS h => lv_icmp_ne X.1 X.2.1 hd ht (fun q => kt q H locs la hP hS h) (fun q => kf q H locs la hP hS h)
theorem AW.if_lt {x : Int32} {off : Int} {tgt : Nat} (X : CX p s m args meth c cc nL own D dA ad lo n A) (hd : decode cc pc = .ok (.ifCond .lt off, 3)) (ht : (pc : Int) + off = (tgt : Int)) (hn : pc + 3 = pc') (kt : x < 0 → AW p l e R s m args below meth c D dA ad lo n nL A kc ks Q tgt ls rest M) (kf : ¬ x < 0 → AW p l e R s m args below meth c D dA ad lo n nL A kc ks Q pc' ls rest M) : AW p l e R s m args below meth c D dA ad lo n nL A kc ks Q pc ls (.int x :: rest) M := by
  subst hn
  exact fun H locs la hP hS h => lv_if_lt X.1 X.2.1 hd ht (fun q => kt q H locs la hP hS h) (fun q => kf q H locs la hP hS h)
theorem AW.icmp_lt {x y : Int32} {off : Int} {tgt : Nat} (X : CX p s m args meth c cc nL own D dA ad lo n A) (hd : decode cc pc = .ok (.if_icmp .lt off, 3)) (ht : (pc : Int) + off = (tgt : Int)) (hn : pc + 3 = pc') (kt : x < y → AW p l e R s m args below meth c D dA ad lo n nL A kc ks Q tgt ls rest M) (kf : ¬ x < y → AW p l e R s m args below meth c D dA ad lo n nL A kc ks Q pc' ls rest M) : AW p l e R s m args below meth c D dA ad lo n nL A kc ks Q pc ls (.int y :: .int x :: rest) M := by
  subst hn
  exact fun H locs la hP hS h => lv_icmp_lt X.1 X.2.1 hd ht (fun q => kt q H locs la hP hS h) (fun q => kf q H locs la hP hS h)
theorem AW.if_ge {x : Int32} {off : Int} {tgt : Nat} (X : CX p s m args meth c cc nL own D dA ad lo n A) (hd : decode cc pc = .ok (.ifCond .ge off, 3)) (ht : (pc : Int) + off = (tgt : Int)) (hn : pc + 3 = pc') (kt : 0 ≤ x → AW p l e R s m args below meth c D dA ad lo n nL A kc ks Q tgt ls rest M) (kf : ¬ 0 ≤ x → AW p l e R s m args below meth c D dA ad lo n nL A kc ks Q pc' ls rest M) : AW p l e R s m args below meth c D dA ad lo n nL A kc ks Q pc ls (.int x :: rest) M := by
  subst hn
  exact fun H locs la hP hS h => lv_if_ge X.1 X.2.1 hd ht (fun q => kt q H locs la hP hS h) (fun q => kf q H locs la hP hS h)
theorem AW.icmp_ge {x y : Int32} {off : Int} {tgt : Nat} (X : CX p s m args meth c cc nL own D dA ad lo n A) (hd : decode cc pc = .ok (.if_icmp .ge off, 3)) (ht : (pc : Int) + off = (tgt : Int)) (hn : pc + 3 = pc') (kt : y ≤ x → AW p l e R s m args below meth c D dA ad lo n nL A kc ks Q tgt ls rest M) (kf : ¬ y ≤ x → AW p l e R s m args below meth c D dA ad lo n nL A kc ks Q pc' ls rest M) : AW p l e R s m args below meth c D dA ad lo n nL A kc ks Q pc ls (.int y :: .int x :: rest) M := by
  subst hn
  exact fun H locs la hP hS h => lv_icmp_ge X.1 X.2.1 hd ht (fun q => kt q H locs la hP hS h) (fun q => kf q H locs la hP hS h)
theorem AW.if_gt {x : Int32} {off : Int} {tgt : Nat} (X : CX p s m args meth c cc nL own D dA ad lo n A) (hd : decode cc pc = .ok (.ifCond .gt off, 3)) (ht : (pc : Int) + off = (tgt : Int)) (hn : pc + 3 = pc') (kt : 0 < x → AW p l e R s m args below meth c D dA ad lo n nL A kc ks Q tgt ls rest M) (kf : ¬ 0 < x → AW p l e R s m args below meth c D dA ad lo n nL A kc ks Q pc' ls rest M) : AW p l e R s m args below meth c D dA ad lo n nL A kc ks Q pc ls (.int x :: rest) M := by
  subst hn
  exact fun H locs la hP hS h => lv_if_gt X.1 X.2.1 hd ht (fun q => kt q H locs la hP hS h) (fun q => kf q H locs la hP hS h)
theorem AW.icmp_gt {x y : Int32} {off : Int} {tgt : Nat} (X : CX p s m args meth c cc nL own D dA ad lo n A) (hd : decode cc pc = .ok (.if_icmp .gt off, 3)) (ht : (pc : Int) + off = (tgt : Int)) (hn : pc + 3 = pc') (kt : y < x → AW p l e R s m args below meth c D dA ad lo n nL A kc ks Q tgt ls rest M) (kf : ¬ y < x → AW p l e R s m args below meth c D dA ad lo n nL A kc ks Q pc' ls rest M) : AW p l e R s m args below meth c D dA ad lo n nL A kc ks Q pc ls (.int y :: .int x :: rest) M := by
  subst hn
  exact fun H locs la hP hS h => lv_icmp_gt X.1 X.2.1 hd ht (fun q => kt q H locs la hP hS h) (fun q => kf q H locs la hP hS h)
theorem AW.if_le {x : Int32} {off : Int} {tgt : Nat} (X : CX p s m args meth c cc nL own D dA ad lo n A) (hd : decode cc pc = .ok (.ifCond .le off, 3)) (ht : (pc : Int) + off = (tgt : Int)) (hn : pc + 3 = pc') (kt : x ≤ 0 → AW p l e R s m args below meth c D dA ad lo n nL A kc ks Q tgt ls rest M) (kf : ¬ x ≤ 0 → AW p l e R s m args below meth c D dA ad lo n nL A kc ks Q pc' ls rest M) : AW p l e R s m args below meth c D dA ad lo n nL A kc ks Q pc ls (.int x :: rest) M := by
  subst hn
  exact fun H locs la hP hS h => lv_if_le X.1 X.2.1 hd ht (fun q => kt q H locs la hP hS h) (fun q => kf q H locs la hP hS h)
theorem AW.icmp_le {x y : Int32} {off : Int} {tgt : Nat} (X : CX p s m args meth c cc nL own D dA ad lo n A) (hd : decode cc pc = .ok (.if_icmp .le off, 3)) (ht : (pc : Int) + off = (tgt : Int)) (hn : pc + 3 = pc') (kt : x ≤ y → AW p l e R s m args below meth c D dA ad lo n nL A kc ks Q tgt ls rest M) (kf : ¬ x ≤ y → AW p l e R s m args below meth c D dA ad lo n nL A kc ks Q pc' ls rest M) : AW p l e R s m args below meth c D dA ad lo n nL A kc ks Q pc ls (.int y :: .int x :: rest) M := by
  subst hn
  exact fun H locs la hP hS h => lv_icmp_le X.1 X.2.1 hd ht (fun q => kt q H locs la hP hS h) (fun q => kf q H locs la hP hS h)
theorem AW.lookup {dflt : Int} {ps : Array (Int × Int)} {len : Nat} {x : Int32} {off : Int} (X : CX p s m args meth c cc nL own D dA ad lo n A) (hd : decode cc pc = .ok (.lookupswitch dflt ps, len)) (hp : (ps.toList.zip (ps.toList.drop 1)).all (fun (a, next) => a.1 < next.1) = true) (ho : Op.lookupswitch.offset ps.toList dflt x.toInt = off) (ht : (pc : Int) + off = (pc' : Int)) (k : AW p l e R s m args below meth c D dA ad lo n nL A kc ks Q pc' ls rest M) : AW p l e R s m args below meth c D dA ad lo n nL A kc ks Q pc ls (.int x :: rest) M := fun H locs la hP hS h => lv_lookup X.1 X.2.1 hd hp ho ht (k H locs la hP hS h)
theorem AW.tout {dflt a b : Int} {offs : Array Int} {len : Nat} {x : Int32} (X : CX p s m args meth c cc nL own D dA ad lo n A) (hd : decode cc pc = .ok (.tableswitch dflt a b offs, len)) (ho : x.toInt < a ∨ b < x.toInt) (ht : (pc : Int) + dflt = (pc' : Int)) (k : AW p l e R s m args below meth c D dA ad lo n nL A kc ks Q pc' ls rest M) : AW p l e R s m args below meth c D dA ad lo n nL A kc ks Q pc ls (.int x :: rest) M := fun H locs la hP hS h => lv_tableOut X.1 X.2.1 hd ho ht (k H locs la hP hS h)
theorem AW.tin {dflt a b off : Int} {offs : Array Int} {len : Nat} {x : Int32} (X : CX p s m args meth c cc nL own D dA ad lo n A) (hd : decode cc pc = .ok (.tableswitch dflt a b offs, len)) (h1 : ¬ x.toInt < a) (h2 : ¬ b < x.toInt) (ho : offs[(x.toInt - a).toNat]? = some off) (ht : (pc : Int) + off = (pc' : Int)) (k : AW p l e R s m args below meth c D dA ad lo n nL A kc ks Q pc' ls rest M) : AW p l e R s m args below meth c D dA ad lo n nL A kc ks Q pc ls (.int x :: rest) M := fun H locs la hP hS h => lv_tableIn X.1 X.2.1 hd h1 h2 ho ht (k H locs la hP hS h)
theorem AW.getf {a ix w ci N : Nat} {C : String} {T : u_T} {fs : List Value} {v : Value} (X : CX p s m args meth c cc nL own D dA ad lo n A) (k0 : Nat) (h1 : lo ≤ a) (h2 : a + (w + 1) ≤ lo + n) (he : cellF dA ad a (M a) = .inr (ci, fs)) (hc : vwCl[ci]? = some (C, T, N)) (hin : ∀ w ∈ u_ws C T N, w ∈ tblA) (hk : k0 < N) (hT : (T k0).1 = C) (hl : Cond.fieldLink own ix C (T k0).2.1 (T k0).2.2.1 ∈ tblA) (hv : fs[k0]? = some (cv ad v)) (hd : decode cc pc = .ok (.getfield ix, 3)) (hn : pc + 3 = pc') (k : AW p l e R s m args below meth c D dA ad lo n nL A kc ks Q pc' ls (v :: rest) M) : AW p l e R s m args below meth c D dA ad lo n nL A kc ks Q pc ls (.ref a :: rest) M := by
  subst hn
  intro H locs la hP hS h
  exact va_get X.1 X.2.1 X.2.2.2.2.1 hin X.2.2.2.1 X.2.2.2.2.2.2.1 hP (a - lo) (wl_at h1 h2 he) hc k0 hk (X.2.2.2.2.1 _ hl) (fun z hz => by rw [← hT]; exact hz) hv hd (k H locs la hP hS h)
theorem AW.putf {a ix w ci N : Nat} {C : String} {T : u_T} {fs : List Value} {v : Value} {ty : FieldType} {r : Nat → Int32} (X : CX p s m args meth c cc nL own D dA ad lo n A) (k0 : Nat) (h1 : lo ≤ a) (h2 : a + (w + 1) ≤ lo + n) (he : cellF dA ad a (M a) = .inr (ci, fs)) (he2 : cellF dA ad a r = .inr (ci, fs.set k0 v)) (hc : vwCl[ci]? = some (C, T, N)) (hin : ∀ w ∈ u_ws C T N, w ∈ tblA) (ty0 : Nat → FieldType) (hty : ∀ k, k < N → parseFieldDescriptor (T k).2.2.1 = some (ty0 k)) (hnm : ∀ a, a < N → ∀ b, b < N → a ≠ b → (T a).2.1 ≠ (T b).2.1) (hk : k0 < N) (hT : (T k0).1 = C) (hl : Cond.fieldLink own ix C (T k0).2.1 (T k0).2.2.1 ∈ tblA) (hfin : (T k0).2.2.2 = false) (hpd : parseFieldDescriptor (T k0).2.2.1 = some ty) (hna : narrow ty v = v) (hfit : fits ty v = true) (hlen : k0 < fs.length) (hcv : cv ad v = v) (hd : decode cc pc = .ok (.putfield ix, 3)) (hn : pc + 3 = pc') (k : AW p l e R s m args below meth c D dA ad lo n nL A kc ks Q pc' ls rest (msf M a r)) : AW p l e R s m args below meth c D dA ad lo n nL A kc ks Q pc ls (v :: .ref a :: rest) M := by
  subst hn
  intro H locs la hP hS h
  show W _ _ _ _ _ _ _ _ _ _ _ _ _ _ _ (F0 m pc la (cv ad v :: .ref (ad a) :: rest.map (cv ad)))
  rw [hcv]
  refine va_put X.1 X.2.1 X.2.2.2.2.1 hin ty0 hty hnm X.2.2.2.1 X.2.2.2.2.2.2.1 hP (X.2.2.2.2.2.2.2.1 M) hS (a - lo) (wl_at h1 h2 he) hc k0 hk (X.2.2.2.2.1 _ hl) (fun z hz => by rw [← hT]; exact hz) hfin hpd hna hfit hlen hd (fun H1 locs1 hP1 hD1 hS1 => ?_)
  rw [wl_set h1 h2 he2] at hP1
  exact k H1 locs1 la hP1 hS1 h
theorem AW.iald {a L : Nat} {i : Int32} (X : CX p s m args meth c cc nL own D dA ad lo n A) (t : tIA lo n L a) (hi : vp_in i L) (hd : decode cc pc = .ok (.iaload, 1)) (hn : pc + 1 = pc') (k : AW p l e R s m args below meth c D dA ad lo n nL A kc ks Q pc' ls (.int (M a i.toNatClampNeg) :: rest) M) : AW p l e R s m args below meth c D dA ad lo n nL A kc ks Q pc ls (.int i :: .ref a :: rest) M := by
  subst hn
  intro H locs la hP hS h
  exact va_iald X.1 X.2.1 X.2.2.2.2.2.2.1 hP (a - lo) 0 (wl_at (w := 0) t.1 t.2.1 (cI t dA ad (M a))) rfl hi hd (k H locs la hP hS h)
theorem AW.iast {a L : Nat} {i x : Int32} (X : CX p s m args meth c cc nL own D dA ad lo n A) (t : tIA lo n L a) (hi : vp_in i L) (hd : decode cc pc = .ok (.iastore, 1)) (hn : pc + 1 = pc') (k : AW p l e R s m args below meth c D dA ad lo n nL A kc ks Q pc' ls rest (ms M a i.toNatClampNeg x)) : AW p l e R s m args below meth c D dA ad lo n nL A kc ks Q pc ls (.int x :: .int i :: .ref a :: rest) M := by
  subst hn
  intro H locs la hP hS h
  refine va_iast X.1 X.2.1 X.2.2.2.2.2.2.1 hP (X.2.2.2.2.2.2.2.1 M) hS (a - lo) 0 (wl_at (w := 0) t.1 t.2.1 (cI t dA ad (M a))) rfl hi hd (fun H1 locs1 hP1 hD1 hS1 => ?_)
  rw [wl_set (w := 0) t.1 t.2.1 (cI t dA ad _)] at hP1
  exact k H1 locs1 la hP1 hS1 h
theorem AW.zald {a L : Nat} {i : Int32} (X : CX p s m args meth c cc nL own D dA ad lo n A) (t : tZA lo n L a) (hi : vp_in i L) (hd : decode cc pc = .ok (.baload, 1)) (hn : pc + 1 = pc') (k : AW p l e R s m args below meth c D dA ad lo n nL A kc ks Q pc' ls (.int (bz (nz (M a i.toNatClampNeg))) :: rest) M) : AW p l e R s m args below meth c D dA ad lo n nL A kc ks Q pc ls (.int i :: .ref a :: rest) M := by
  subst hn
  intro H locs la hP hS h
  exact va_zald X.1 X.2.1 X.2.2.2.2.2.2.1 hP (a - lo) 1 (wl_at (w := 0) t.1 t.2.1 (cZ t dA ad (M a))) rfl hi hd (k H locs la hP hS h)
theorem bzr_upd (r : Nat → Int32) (k : Nat) (b : Bool) : bzr (upd r k (bz b)) = upd (bzr r) k (bz b) := by
  funext j
  by_cases h : j = k
  · subst h; cases b <;> simp [bzr, upd] <;> decide
  · simp [bzr, upd, h]
theorem nar_bz (b : Bool) : vp_nar .boolean (bz b) = bz b := by cases b <;> rfl
theorem AW.zast {a L : Nat} {i : Int32} {b : Bool} (X : CX p s m args meth c cc nL own D dA ad lo n A) (t : tZA lo n L a) (hi : vp_in i L) (hd : decode cc pc = .ok (.bastore, 1)) (hn : pc + 1 = pc') (k : AW p l e R s m args below meth c D dA ad lo n nL A kc ks Q pc' ls rest (ms M a i.toNatClampNeg (bz b))) : AW p l e R s m args below meth c D dA ad lo n nL A kc ks Q pc ls (.int (bz b) :: .int i :: .ref a :: rest) M := by
  subst hn
  intro H locs la hP hS h
  refine va_zast X.1 X.2.1 X.2.2.2.2.2.2.1 hP (X.2.2.2.2.2.2.2.1 M) hS (a - lo) 1 (wl_at (w := 0) t.1 t.2.1 (cZ t dA ad (M a))) rfl hi hd (fun H1 locs1 hP1 hD1 hS1 => ?_)
  rw [nar_bz, ← bzr_upd, wl_set (w := 0) t.1 t.2.1 (cZ t dA ad _)] at hP1
  exact k H1 locs1 la hP1 hS1 h
theorem AW.aldC {a : Nat} {i : Int32} (X : CX p s m args meth c cc nL own D dA ad lo n A) (t : tCA lo n a) (hi : vp_in i 6) (hd : decode cc pc = .ok (.aaload, 1)) (hn : pc + 1 = pc') (k : AW p l e R s m args below meth c D dA ad lo n nL A kc ks Q pc' ls (.ref (a + 5 + 9 * i.toNatClampNeg) :: rest) M) : AW p l e R s m args below meth c D dA ad lo n nL A kc ks Q pc ls (.int i :: .ref a :: rest) M := by
  subst hn
  intro H locs la hP hS h
  exact va_aldq X.1 X.2.1 X.2.2.2.2.2.2.1 hP (a - lo) 2 (wl_at (w := 58) t.1 t.2.1 (cCA t dA ad (M a))) rfl hi hd (k H locs la hP hS h)
theorem AW.aldS {a L : Nat} {i : Int32} (X : CX p s m args meth c cc nL own D dA ad lo n A) (t : tSA lo n L a) (hi : vp_in i L) (hd : decode cc pc = .ok (.aaload, 1)) (hn : pc + 1 = pc') (k : AW p l e R s m args below meth c D dA ad lo n nL A kc ks Q pc' ls (.ref (if a = 652 then 260 + 65 * i.toNatClampNeg else 130 + 65 * i.toNatClampNeg) :: rest) M) : AW p l e R s m args below meth c D dA ad lo n nL A kc ks Q pc ls (.int i :: .ref a :: rest) M := by
  subst hn
  intro H locs la hP hS h
  exact va_aldq X.1 X.2.1 X.2.2.2.2.2.2.1 hP (a - lo) 3 (wl_at (w := 0) t.1 t.2.1 (cSA t dA ad (M a))) rfl hi hd (k H locs la hP hS h)
theorem AW.alen {a L : Nat} {v : Int32} (X : CX p s m args meth c cc nL own D dA ad lo n A) (t : tIA lo n L a) (hv : Int32.ofNat L = v) (hd : decode cc pc = .ok (.arraylength, 1)) (hn : pc + 1 = pc') (k : AW p l e R s m args below meth c D dA ad lo n nL A kc ks Q pc' ls (.int v :: rest) M) : AW p l e R s m args below meth c D dA ad lo n nL A kc ks Q pc ls (.ref a :: rest) M := by
  subst hn
  intro H locs la hP hS h
  exact va_alen X.1 X.2.1 X.2.2.2.2.2.2.1 hP (a - lo) 0 (wl_at (w := 0) t.1 t.2.1 (cI t dA ad (M a))) rfl hv hd (k H locs la hP hS h)
theorem AW.gsL {ix : Nat} (X : CX p s m args meth c cc nL own D dA ad lo n A) (hl : Cond.fieldLinkNest own ix "ShakerSweep" "SETTING_LEAST" "[I" "ShakerSweep" ∈ tblA) (hd : decode cc pc = .ok (.getstatic ix, 3)) (hn : pc + 3 = pc') (k : AW p l e R s m args below meth c D dA ad lo n nL A kc ks Q pc' ls (.ref 1000 :: rest) M) : AW p l e R s m args below meth c D dA ad lo n nL A kc ks Q pc ls rest M := by
  subst hn
  intro H locs la hP hS h
  exact va_getsN X.1 X.2.1 X.2.2.2.2.2.2.2.2.2.1.1 hS X.2.2.2.1 (X.2.2.2.2.1 _ hl) (fun _ h => h) hd (k H locs la hP hS h)
theorem AW.gsLi {i : Int32} (X : CX p s m args meth c cc nL own D dA ad lo n A) (hi : vp_in i 6) (hd : decode cc pc = .ok (.iaload, 1)) (hn : pc + 1 = pc') (k : AW p l e R s m args below meth c D dA ad lo n nL A kc ks Q pc' ls (.int (sLE i.toNatClampNeg) :: rest) M) : AW p l e R s m args below meth c D dA ad lo n nL A kc ks Q pc ls (.int i :: .ref 1000 :: rest) M := by
  subst hn
  intro H locs la hP hS h
  exact va_ti X.1 X.2.1 X.2.2.2.2.2.2.2.2.2.1.2 hS hi rfl hd (k H locs la hP hS h)
theorem AW.gsG {ix : Nat} (X : CX p s m args meth c cc nL own D dA ad lo n A) (hl : Cond.fieldLinkNest own ix "ShakerSweep" "SETTING_GREATEST" "[I" "ShakerSweep" ∈ tblA) (hd : decode cc pc = .ok (.getstatic ix, 3)) (hn : pc + 3 = pc') (k : AW p l e R s m args below meth c D dA ad lo n nL A kc ks Q pc' ls (.ref 1001 :: rest) M) : AW p l e R s m args below meth c D dA ad lo n nL A kc ks Q pc ls rest M := by
  subst hn
  intro H locs la hP hS h
  exact va_getsN X.1 X.2.1 X.2.2.2.2.2.2.2.2.2.2.1.1 hS X.2.2.2.1 (X.2.2.2.2.1 _ hl) (fun _ h => h) hd (k H locs la hP hS h)
theorem AW.gsGi {i : Int32} (X : CX p s m args meth c cc nL own D dA ad lo n A) (hi : vp_in i 6) (hd : decode cc pc = .ok (.iaload, 1)) (hn : pc + 1 = pc') (k : AW p l e R s m args below meth c D dA ad lo n nL A kc ks Q pc' ls (.int (sGR i.toNatClampNeg) :: rest) M) : AW p l e R s m args below meth c D dA ad lo n nL A kc ks Q pc ls (.int i :: .ref 1001 :: rest) M := by
  subst hn
  intro H locs la hP hS h
  exact va_ti X.1 X.2.1 X.2.2.2.2.2.2.2.2.2.2.1.2 hS hi rfl hd (k H locs la hP hS h)
theorem AW.mmax {x y : Int32} {ix : Nat} (X : CX p s m args meth c cc nL own D dA ad lo n A) (hR : 1 ≤ R.frames ∧ 21 ≤ R.locals ∧ kc ≤ R.cells ∧ ks ≤ R.slots) (hcat : (rest.map fun v => v.category).sum ≤ 8) (hl : Cond.methodLink own ix Lib.Math.max.name ∈ tblA) (hd : decode cc pc = .ok (.invokestatic ix, 3)) (hn : pc + 3 = pc') (k : AW p l e R s m args below meth c D dA ad lo n nL A kc ks Q pc' ls (.int (if x < y then y else x) :: rest) M) : AW p l e R s m args below meth c D dA ad lo n nL A kc ks Q pc ls (.int y :: .int x :: rest) M := by
  subst hn
  intro H locs la hP hS h
  exact va_mmax X.1 X.2.1 (X.2.2.1.trans h.1.symm) X.2.2.2.1 (X.2.2.2.2.1 _ hl) (X.2.2.2.2.1 _ mMaxS) (X.2.2.2.2.1 _ mMathI) (X.2.2.2.2.1 _ mMaxC) hR.1 (by rw [map_cat]; omega) hR.2.2.1 hR.2.2.2 hd (k H locs la hP hS h)
theorem AW.mmin {x y : Int32} {ix : Nat} (X : CX p s m args meth c cc nL own D dA ad lo n A) (hR : 1 ≤ R.frames ∧ 21 ≤ R.locals ∧ kc ≤ R.cells ∧ ks ≤ R.slots) (hcat : (rest.map fun v => v.category).sum ≤ 8) (hl : Cond.methodLink own ix Lib.Math.min.name ∈ tblA) (hd : decode cc pc = .ok (.invokestatic ix, 3)) (hn : pc + 3 = pc') (k : AW p l e R s m args below meth c D dA ad lo n nL A kc ks Q pc' ls (.int (if y < x then y else x) :: rest) M) : AW p l e R s m args below meth c D dA ad lo n nL A kc ks Q pc ls (.int y :: .int x :: rest) M := by
  subst hn
  intro H locs la hP hS h
  exact va_mmin X.1 X.2.1 (X.2.2.1.trans h.1.symm) X.2.2.2.1 (X.2.2.2.2.1 _ hl) (X.2.2.2.2.1 _ mMinS) (X.2.2.2.2.1 _ mMathI) (X.2.2.2.2.1 _ mMinC) hR.1 (by rw [map_cat]; omega) hR.2.2.1 hR.2.2.2 hd (k H locs la hP hS h)
theorem AW.mmaxL {x y : Int64} {ix : Nat} (X : CX p s m args meth c cc nL own D dA ad lo n A) (hR : 1 ≤ R.frames ∧ 23 ≤ R.locals ∧ kc ≤ R.cells ∧ ks ≤ R.slots) (hcat : (rest.map fun v => v.category).sum ≤ 8) (hl : Cond.methodLink own ix Lib.MathLoose.max_long.x ∈ tblA) (hd : decode cc pc = .ok (.invokestatic ix, 3)) (hn : pc + 3 = pc') (k : AW p l e R s m args below meth c D dA ad lo n nL A kc ks Q pc' ls (.long (if y < x then x else y) :: rest) M) : AW p l e R s m args below meth c D dA ad lo n nL A kc ks Q pc ls (.long y :: .long x :: rest) M := by
  subst hn
  intro H locs la hP hS h
  exact va_mmax_long X.1 X.2.1 (X.2.2.1.trans h.1.symm) X.2.2.2.1 (X.2.2.2.2.1 _ hl) (X.2.2.2.2.1 _ mMaxLS) (X.2.2.2.2.1 _ mMathI) (X.2.2.2.2.1 _ mMaxLC) hR.1 (by rw [map_cat]; omega) hR.2.2.1 hR.2.2.2 hd (k H locs la hP hS h)
theorem AW.mminL {x y : Int64} {ix : Nat} (X : CX p s m args meth c cc nL own D dA ad lo n A) (hR : 1 ≤ R.frames ∧ 23 ≤ R.locals ∧ kc ≤ R.cells ∧ ks ≤ R.slots) (hcat : (rest.map fun v => v.category).sum ≤ 8) (hl : Cond.methodLink own ix Lib.MathLoose.min_long.x ∈ tblA) (hd : decode cc pc = .ok (.invokestatic ix, 3)) (hn : pc + 3 = pc') (k : AW p l e R s m args below meth c D dA ad lo n nL A kc ks Q pc' ls (.long (if y < x then y else x) :: rest) M) : AW p l e R s m args below meth c D dA ad lo n nL A kc ks Q pc ls (.long y :: .long x :: rest) M := by
  subst hn
  intro H locs la hP hS h
  exact va_mmin_long X.1 X.2.1 (X.2.2.1.trans h.1.symm) X.2.2.2.1 (X.2.2.2.2.1 _ hl) (X.2.2.2.2.1 _ mMinLS) (X.2.2.2.2.1 _ mMathI) (X.2.2.2.2.1 _ mMinLC) hR.1 (by rw [map_cat]; omega) hR.2.2.1 hR.2.2.2 hd (k H locs la hP hS h)
theorem AW.acopy {a b L L2 : Nat} {sp dp z : Int32} {ix : Nat} (X : CX p s m args meth c cc nL own D dA ad lo n A) (ta : tIA lo n L a) (tb : tIA lo n L2 b) (hR : 1 ≤ R.frames ∧ 8 + (nativeFrameWords "java/lang/System" "arraycopy" 5 + 11) ≤ R.locals) (hcat : (rest.map fun v => v.category).sum ≤ 8) (h1 : ¬ sp < 0) (h2 : ¬ dp < 0) (h3 : ¬ z < 0) (h4 : sp.toNatClampNeg + z.toNatClampNeg ≤ L) (h5 : dp.toNatClampNeg + z.toNatClampNeg ≤ L2) (hl : Cond.methodLink own ix arraycopyName ∈ tblA) (hd : decode cc pc = .ok (.invokestatic ix, 3)) (hn : pc + 3 = pc') (k : AW p l e R s m args below meth c D dA ad lo n nL A kc ks Q pc' ls rest (msf M b (va_cpy (M a) (M b) sp.toNatClampNeg dp.toNatClampNeg z.toNatClampNeg))) : AW p l e R s m args below meth c D dA ad lo n nL A kc ks Q pc ls (.int z :: .int dp :: .ref b :: .int sp :: .ref a :: rest) M := by
  subst hn
  intro H locs la hP hS h
  refine va_copyi X.1 X.2.1 (X.2.2.1.trans h.1.symm) X.2.2.2.1 (X.2.2.2.2.1 _ hl) (X.2.2.2.2.1 _ mAcN) (X.2.2.2.2.1 _ mAcS) (X.2.2.2.2.1 _ mSysI) X.2.2.2.2.2.2.1 hP (X.2.2.2.2.2.2.2.1 M) hS (a - lo) (b - lo) 0 0 (ty := .int) (wl_at (w := 0) ta.1 ta.2.1 (cI ta dA ad (M a))) (wl_at (w := 0) tb.1 tb.2.1 (cI tb dA ad (M b))) rfl rfl rfl h1 h2 h3 h4 h5 (fun _ _ => rfl) hR.1 (by rw [map_cat]; omega) hd (fun H1 locs1 hP1 hD1 hS1 => ?_)
  rw [wl_set (w := 0) tb.1 tb.2.1 (cI tb dA ad _)] at hP1
  exact k H1 locs1 la hP1 hS1 h
end AWR
