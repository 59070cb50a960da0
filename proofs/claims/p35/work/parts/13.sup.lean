/-! SUPPORT of the functions f_..: guards, fuel, rules for the fields of each class -/
def FU : Nat := 5000
def gd {α : Type} (b : Bool) (k : Option α) : Option α := if b = true then k else none
theorem gd_some {α : Type} {b : Bool} {k : Option α} {r : α} (h : gd b k = some r) : b = true ∧ k = some r := by
  unfold gd at h
  by_cases hb : b = true
  · rw [if_pos hb] at h; exact ⟨hb, h⟩
  · rw [if_neg hb] at h; cases h
abbrev ix (i : Int32) : Nat := i.toNatClampNeg
def inb (i : Int32) (L : Nat) : Bool := !(decide (i < 0)) && decide (i.toNatClampNeg < L)
theorem inb_vp {i : Int32} {L : Nat} (h : inb i L = true) : vp_in i L := by
  simp only [inb, Bool.and_eq_true, Bool.not_eq_true', decide_eq_false_iff_not, decide_eq_true_eq] at h
  exact fun q => q.elim h.1 (fun q => absurd h.2 (Nat.not_lt.mpr q))
theorem inb_lt {i : Int32} {L : Nat} (h : inb i L = true) : i.toNatClampNeg < L := by
  simp only [inb, Bool.and_eq_true, decide_eq_true_eq] at h
  exact h.2
def nzl (x : Int64) : Bool := !(x == 0)
theorem nz_ne {x : Int32} (h : nz x = true) : ¬ x = 0 := by
  intro e; subst e; exact absurd h (by decide)
theorem nzl_ne {x : Int64} (h : nzl x = true) : ¬ x = 0 := by
  intro e; subst e; exact absurd h (by decide)
theorem nz_bz (b : Bool) : nz (bz b) = b := by cases b <;> decide
theorem itep {α : Type} {c : Prop} [Decidable c] {a b r : Option α} (q : c) (h : (if c then a else b) = r) : a = r := by rw [if_pos q] at h; exact h
theorem iten {α : Type} {c : Prop} [Decidable c] {a b r : Option α} (q : ¬ c) (h : (if c then a else b) = r) : b = r := by rw [if_neg q] at h; exact h
theorem none_some {α : Type} {P : Prop} {r : α} (h : (none : Option α) = some r) : P := by cases h
def acg (sp dp z : Int32) (L L2 : Nat) : Bool := !(decide (sp < 0)) && (!(decide (dp < 0)) && (!(decide (z < 0)) && (decide (sp.toNatClampNeg + z.toNatClampNeg ≤ L) && decide (dp.toNatClampNeg + z.toNatClampNeg ≤ L2))))
theorem acg_all {sp dp z : Int32} {L L2 : Nat} (h : acg sp dp z L L2 = true) : ¬ sp < 0 ∧ ¬ dp < 0 ∧ ¬ z < 0 ∧ sp.toNatClampNeg + z.toNatClampNeg ≤ L ∧ dp.toNatClampNeg + z.toNatClampNeg ≤ L2 := by
  simpa only [acg, Bool.and_eq_true, Bool.not_eq_true', decide_eq_false_iff_not, decide_eq_true_eq] using h
theorem acg_1 {sp dp z : Int32} {L L2 : Nat} (h : acg sp dp z L L2 = true) : ¬ sp < 0 := (acg_all h).1
theorem acg_2 {sp dp z : Int32} {L L2 : Nat} (h : acg sp dp z L L2 = true) : ¬ dp < 0 := (acg_all h).2.1
theorem acg_3 {sp dp z : Int32} {L L2 : Nat} (h : acg sp dp z L L2 = true) : ¬ z < 0 := (acg_all h).2.2.1
theorem acg_4 {sp dp z : Int32} {L L2 : Nat} (h : acg sp dp z L L2 = true) : sp.toNatClampNeg + z.toNatClampNeg ≤ L := (acg_all h).2.2.2.1
theorem acg_5 {sp dp z : Int32} {L L2 : Nat} (h : acg sp dp z L L2 = true) : dp.toNatClampNeg + z.toNatClampNeg ≤ L2 := (acg_all h).2.2.2.2
abbrev AR (p : Program) (l : Launch) (e : Env) (fr lc : Nat) (s : State) (m : MethodId) (args : Array Value) (below : List Frame) (meth : Method) (c : Code) (D : va_G) (dA : Nat → ClassId) (ad : Nat → Nat) (lo n nL : Nat) (A : Nat → Prop) (rv : Option Value) (M' : MM) (pc : Nat) (ls : List (Nat × Value)) (st : List Value) (M : MM) : Prop := AW p l e { frames := fr, cells := 0, slots := 0, locals := lc } s m args below meth c D dA ad lo n nL A 0 0 (MQ below (MQc D dA ad lo n rv M' A) args s 0 0 A) pc ls st M
theorem inX0 : ∀ w ∈ wsX00, w ∈ tblA := by
  have h : wsX00 = [115, 117, 119, 121, 123, 125, 127, 129, 131, 133, 135, 137, 139, 141, 143, 145, 147, 149].filterMap (fun i => lw_tbl[i]?) := by decide +kernel
  have h2 : wsX00.all (fun w => goodWord w || isNest w) = true := by decide +kernel
  intro w hw
  have h3 := List.all_eq_true.mp h2 w hw
  rw [h] at hw
  obtain ⟨i, -, hi⟩ := List.mem_filterMap.mp hw
  exact tA (List.mem_of_getElem? hi) h3
theorem inX1 : ∀ w ∈ wsX10, w ∈ tblA := by
  have h : wsX10 = [257, 259, 261].filterMap (fun i => lw_tbl[i]?) := by decide +kernel
  have h2 : wsX10.all (fun w => goodWord w || isNest w) = true := by decide +kernel
  intro w hw
  have h3 := List.all_eq_true.mp h2 w hw
  rw [h] at hw
  obtain ⟨i, -, hi⟩ := List.mem_filterMap.mp hw
  exact tA (List.mem_of_getElem? hi) h3
theorem inX2 : ∀ w ∈ wsX20, w ∈ tblA := by
  have h : wsX20 = [61, 63].filterMap (fun i => lw_tbl[i]?) := by decide +kernel
  have h2 : wsX20.all (fun w => goodWord w || isNest w) = true := by decide +kernel
  intro w hw
  have h3 := List.all_eq_true.mp h2 w hw
  rw [h] at hw
  obtain ⟨i, -, hi⟩ := List.mem_filterMap.mp hw
  exact tA (List.mem_of_getElem? hi) h3
theorem inX3 : ∀ w ∈ wsX30, w ∈ tblA := by
  have h : wsX30 = [77, 79, 81].filterMap (fun i => lw_tbl[i]?) := by decide +kernel
  have h2 : wsX30.all (fun w => goodWord w || isNest w) = true := by decide +kernel
  intro w hw
  have h3 := List.all_eq_true.mp h2 w hw
  rw [h] at hw
  obtain ⟨i, -, hi⟩ := List.mem_filterMap.mp hw
  exact tA (List.mem_of_getElem? hi) h3
theorem inX4 : ∀ w ∈ wsX40, w ∈ tblA := by
  have h : wsX40 = [209, 211, 213, 215, 217, 219, 221, 223, 225, 227, 229, 231, 233, 235, 237, 239, 241].filterMap (fun i => lw_tbl[i]?) := by decide +kernel
  have h2 : wsX40.all (fun w => goodWord w || isNest w) = true := by decide +kernel
  intro w hw
  have h3 := List.all_eq_true.mp h2 w hw
  rw [h] at hw
  obtain ⟨i, -, hi⟩ := List.mem_filterMap.mp hw
  exact tA (List.mem_of_getElem? hi) h3
theorem inX5 : ∀ w ∈ wsX50, w ∈ tblA := by
  have h : wsX50 = [281, 283, 285, 287, 289, 291, 293].filterMap (fun i => lw_tbl[i]?) := by decide +kernel
  have h2 : wsX50.all (fun w => goodWord w || isNest w) = true := by decide +kernel
  intro w hw
  have h3 := List.all_eq_true.mp h2 w hw
  rw [h] at hw
  obtain ⟨i, -, hi⟩ := List.mem_filterMap.mp hw
  exact tA (List.mem_of_getElem? hi) h3
theorem inX6 : ∀ w ∈ wsX60, w ∈ tblA := by
  have h : wsX60 = [303, 305, 307, 309, 311, 313].filterMap (fun i => lw_tbl[i]?) := by decide +kernel
  have h2 : wsX60.all (fun w => goodWord w || isNest w) = true := by decide +kernel
  intro w hw
  have h3 := List.all_eq_true.mp h2 w hw
  rw [h] at hw
  obtain ⟨i, -, hi⟩ := List.mem_filterMap.mp hw
  exact tA (List.mem_of_getElem? hi) h3
section AWF
variable {p : Program} {l : Launch} {e : Env} {R : Room} {s : State} {m : MethodId} {args : Array Value} {below : List Frame} {meth : Method} {c : Code} {D : va_G} {dA : Nat → ClassId} {ad : Nat → Nat} {lo n nL : Nat} {A : Nat → Prop} {kc ks : Nat} {Q : State → Prop} {cc : ByteArray} {own : String}
variable {pc pc' : Nat} {ls ls' : List (Nat × Value)} {rest : List Value} {M : MM} {a ix0 : Nat}
theorem AW.gX0 {v : Value} (X : CX p s m args meth c cc nL own D dA ad lo n A) (t : tCh lo n a) (k0 : Nat) (hk : k0 < 18) (hT : (TX0 k0).1 = RX0) (hl : Cond.fieldLink own ix0 RX0 (TX0 k0).2.1 (TX0 k0).2.2.1 ∈ tblA) (hv : (fsC ad a (M a))[k0]? = some (cv ad v)) (hd : decode cc pc = .ok (.getfield ix0, 3)) (hn : pc + 3 = pc') (k : AW p l e R s m args below meth c D dA ad lo n nL A kc ks Q pc' ls (v :: rest) M) : AW p l e R s m args below meth c D dA ad lo n nL A kc ks Q pc ls (.ref a :: rest) M :=
  AW.getf (C := RX0) (T := TX0) (N := 18) (ci := 0) (w := 8) X k0 t.1 t.2.1 (cC t dA ad (M a)) rfl inX0 hk hT hl hv hd hn k
theorem AW.pX0 {x : Int32} (X : CX p s m args meth c cc nL own D dA ad lo n A) (t : tCh lo n a) (k0 : Nat) (hk : k0 < 18) (hT : (TX0 k0).1 = RX0) (hl : Cond.fieldLink own ix0 RX0 (TX0 k0).2.1 (TX0 k0).2.2.1 ∈ tblA) (hfin : (TX0 k0).2.2.2 = false) (hpd : parseFieldDescriptor (TX0 k0).2.2.1 = some .int) (hs : fsC ad a (upd (M a) k0 x) = (fsC ad a (M a)).set k0 (.int x)) (hlen : k0 + 1 ≤ 18) (hd : decode cc pc = .ok (.putfield ix0, 3)) (hn : pc + 3 = pc') (k : AW p l e R s m args below meth c D dA ad lo n nL A kc ks Q pc' ls rest (ms M a k0 x)) : AW p l e R s m args below meth c D dA ad lo n nL A kc ks Q pc ls (.int x :: .ref a :: rest) M :=
  AW.putf (C := RX0) (T := TX0) (N := 18) (ci := 0) (w := 8) (r := upd (M a) k0 x) X k0 t.1 t.2.1 (cC t dA ad (M a)) (by rw [← hs]; exact cC t dA ad _) rfl inX0 tyX0 tyX0_ok nmX0 hk hT hl hfin hpd rfl rfl hlen rfl hd hn k
theorem AW.zX0 {b : Bool} (X : CX p s m args meth c cc nL own D dA ad lo n A) (t : tCh lo n a) (k0 : Nat) (hk : k0 < 18) (hT : (TX0 k0).1 = RX0) (hl : Cond.fieldLink own ix0 RX0 (TX0 k0).2.1 (TX0 k0).2.2.1 ∈ tblA) (hfin : (TX0 k0).2.2.2 = false) (hpd : parseFieldDescriptor (TX0 k0).2.2.1 = some .boolean) (hs : fsC ad a (upd (M a) k0 (bz b)) = (fsC ad a (M a)).set k0 (.int (bz b))) (hlen : k0 + 1 ≤ 18) (hd : decode cc pc = .ok (.putfield ix0, 3)) (hn : pc + 3 = pc') (k : AW p l e R s m args below meth c D dA ad lo n nL A kc ks Q pc' ls rest (ms M a k0 (bz b))) : AW p l e R s m args below meth c D dA ad lo n nL A kc ks Q pc ls (.int (bz b) :: .ref a :: rest) M :=
  AW.putf (C := RX0) (T := TX0) (N := 18) (ci := 0) (w := 8) (r := upd (M a) k0 (bz b)) X k0 t.1 t.2.1 (cC t dA ad (M a)) (by rw [← hs]; exact cC t dA ad _) rfl inX0 tyX0 tyX0_ok nmX0 hk hT hl hfin hpd (by cases b <;> rfl) (by cases b <;> rfl) hlen rfl hd hn k
theorem AW.gX1 {v : Value} (X : CX p s m args meth c cc nL own D dA ad lo n A) (t : tHi lo n a) (k0 : Nat) (hk : k0 < 3) (hT : (TX1 k0).1 = RX1) (hl : Cond.fieldLink own ix0 RX1 (TX1 k0).2.1 (TX1 k0).2.2.1 ∈ tblA) (hv : (fsH ad a (M a))[k0]? = some (cv ad v)) (hd : decode cc pc = .ok (.getfield ix0, 3)) (hn : pc + 3 = pc') (k : AW p l e R s m args below meth c D dA ad lo n nL A kc ks Q pc' ls (v :: rest) M) : AW p l e R s m args below meth c D dA ad lo n nL A kc ks Q pc ls (.ref a :: rest) M :=
  AW.getf (C := RX1) (T := TX1) (N := 3) (ci := 1) (w := 1) X k0 t.1.1 t.1.2.1 (cH t dA ad (M a)) rfl inX1 hk hT hl hv hd hn k
theorem AW.pX1 {x : Int32} (X : CX p s m args meth c cc nL own D dA ad lo n A) (t : tHi lo n a) (k0 : Nat) (hk : k0 < 3) (hT : (TX1 k0).1 = RX1) (hl : Cond.fieldLink own ix0 RX1 (TX1 k0).2.1 (TX1 k0).2.2.1 ∈ tblA) (hfin : (TX1 k0).2.2.2 = false) (hpd : parseFieldDescriptor (TX1 k0).2.2.1 = some .int) (hs : fsH ad a (upd (M a) k0 x) = (fsH ad a (M a)).set k0 (.int x)) (hlen : k0 + 1 ≤ 3) (hd : decode cc pc = .ok (.putfield ix0, 3)) (hn : pc + 3 = pc') (k : AW p l e R s m args below meth c D dA ad lo n nL A kc ks Q pc' ls rest (ms M a k0 x)) : AW p l e R s m args below meth c D dA ad lo n nL A kc ks Q pc ls (.int x :: .ref a :: rest) M :=
  AW.putf (C := RX1) (T := TX1) (N := 3) (ci := 1) (w := 1) (r := upd (M a) k0 x) X k0 t.1.1 t.1.2.1 (cH t dA ad (M a)) (by rw [← hs]; exact cH t dA ad _) rfl inX1 tyX1 tyX1_ok nmX1 hk hT hl hfin hpd rfl rfl hlen rfl hd hn k
theorem AW.gX2 {v : Value} (X : CX p s m args meth c cc nL own D dA ad lo n A) (t : tLn lo n a) (k0 : Nat) (hk : k0 < 2) (hT : (TX2 k0).1 = RX2) (hl : Cond.fieldLink own ix0 RX2 (TX2 k0).2.1 (TX2 k0).2.2.1 ∈ tblA) (hv : (fsL ad a (M a))[k0]? = some (cv ad v)) (hd : decode cc pc = .ok (.getfield ix0, 3)) (hn : pc + 3 = pc') (k : AW p l e R s m args below meth c D dA ad lo n nL A kc ks Q pc' ls (v :: rest) M) : AW p l e R s m args below meth c D dA ad lo n nL A kc ks Q pc ls (.ref a :: rest) M :=
  AW.getf (C := RX2) (T := TX2) (N := 2) (ci := 2) (w := 1) X k0 t.1 t.2.1 (cL t dA ad (M a)) rfl inX2 hk hT hl hv hd hn k
theorem AW.pX2 {x : Int32} (X : CX p s m args meth c cc nL own D dA ad lo n A) (t : tLn lo n a) (k0 : Nat) (hk : k0 < 2) (hT : (TX2 k0).1 = RX2) (hl : Cond.fieldLink own ix0 RX2 (TX2 k0).2.1 (TX2 k0).2.2.1 ∈ tblA) (hfin : (TX2 k0).2.2.2 = false) (hpd : parseFieldDescriptor (TX2 k0).2.2.1 = some .int) (hs : fsL ad a (upd (M a) k0 x) = (fsL ad a (M a)).set k0 (.int x)) (hlen : k0 + 1 ≤ 2) (hd : decode cc pc = .ok (.putfield ix0, 3)) (hn : pc + 3 = pc') (k : AW p l e R s m args below meth c D dA ad lo n nL A kc ks Q pc' ls rest (ms M a k0 x)) : AW p l e R s m args below meth c D dA ad lo n nL A kc ks Q pc ls (.int x :: .ref a :: rest) M :=
  AW.putf (C := RX2) (T := TX2) (N := 2) (ci := 2) (w := 1) (r := upd (M a) k0 x) X k0 t.1 t.2.1 (cL t dA ad (M a)) (by rw [← hs]; exact cL t dA ad _) rfl inX2 tyX2 tyX2_ok nmX2 hk hT hl hfin hpd rfl rfl hlen rfl hd hn k
theorem AW.gX3 {v : Value} (X : CX p s m args meth c cc nL own D dA ad lo n A) (t : tPf lo n a) (k0 : Nat) (hk : k0 < 3) (hT : (TX3 k0).1 = RX3) (hl : Cond.fieldLink own ix0 RX3 (TX3 k0).2.1 (TX3 k0).2.2.1 ∈ tblA) (hv : (fsP ad a (M a))[k0]? = some (cv ad v)) (hd : decode cc pc = .ok (.getfield ix0, 3)) (hn : pc + 3 = pc') (k : AW p l e R s m args below meth c D dA ad lo n nL A kc ks Q pc' ls (v :: rest) M) : AW p l e R s m args below meth c D dA ad lo n nL A kc ks Q pc ls (.ref a :: rest) M :=
  AW.getf (C := RX3) (T := TX3) (N := 3) (ci := 3) (w := 2) X k0 t.1 t.2.1 (cP t dA ad (M a)) rfl inX3 hk hT hl hv hd hn k
theorem AW.pX3 {x : Int32} (X : CX p s m args meth c cc nL own D dA ad lo n A) (t : tPf lo n a) (k0 : Nat) (hk : k0 < 3) (hT : (TX3 k0).1 = RX3) (hl : Cond.fieldLink own ix0 RX3 (TX3 k0).2.1 (TX3 k0).2.2.1 ∈ tblA) (hfin : (TX3 k0).2.2.2 = false) (hpd : parseFieldDescriptor (TX3 k0).2.2.1 = some .int) (hs : fsP ad a (upd (M a) k0 x) = (fsP ad a (M a)).set k0 (.int x)) (hlen : k0 + 1 ≤ 3) (hd : decode cc pc = .ok (.putfield ix0, 3)) (hn : pc + 3 = pc') (k : AW p l e R s m args below meth c D dA ad lo n nL A kc ks Q pc' ls rest (ms M a k0 x)) : AW p l e R s m args below meth c D dA ad lo n nL A kc ks Q pc ls (.int x :: .ref a :: rest) M :=
  AW.putf (C := RX3) (T := TX3) (N := 3) (ci := 3) (w := 2) (r := upd (M a) k0 x) X k0 t.1 t.2.1 (cP t dA ad (M a)) (by rw [← hs]; exact cP t dA ad _) rfl inX3 tyX3 tyX3_ok nmX3 hk hT hl hfin hpd rfl rfl hlen rfl hd hn k
theorem AW.gX4 {v : Value} (X : CX p s m args meth c cc nL own D dA ad lo n A) (t : tSt lo n a) (k0 : Nat) (hk : k0 < 17) (hT : (TX4 k0).1 = RX4) (hl : Cond.fieldLink own ix0 RX4 (TX4 k0).2.1 (TX4 k0).2.2.1 ∈ tblA) (hv : (fsS ad a (M a))[k0]? = some (cv ad v)) (hd : decode cc pc = .ok (.getfield ix0, 3)) (hn : pc + 3 = pc') (k : AW p l e R s m args below meth c D dA ad lo n nL A kc ks Q pc' ls (v :: rest) M) : AW p l e R s m args below meth c D dA ad lo n nL A kc ks Q pc ls (.ref a :: rest) M :=
  AW.getf (C := RX4) (T := TX4) (N := 17) (ci := 4) (w := 64) X k0 t.1 t.2.1 (cS t dA ad (M a)) rfl inX4 hk hT hl hv hd hn k
theorem AW.pX4 {x : Int32} (X : CX p s m args meth c cc nL own D dA ad lo n A) (t : tSt lo n a) (k0 : Nat) (hk : k0 < 17) (hT : (TX4 k0).1 = RX4) (hl : Cond.fieldLink own ix0 RX4 (TX4 k0).2.1 (TX4 k0).2.2.1 ∈ tblA) (hfin : (TX4 k0).2.2.2 = false) (hpd : parseFieldDescriptor (TX4 k0).2.2.1 = some .int) (hs : fsS ad a (upd (M a) k0 x) = (fsS ad a (M a)).set k0 (.int x)) (hlen : k0 + 1 ≤ 17) (hd : decode cc pc = .ok (.putfield ix0, 3)) (hn : pc + 3 = pc') (k : AW p l e R s m args below meth c D dA ad lo n nL A kc ks Q pc' ls rest (ms M a k0 x)) : AW p l e R s m args below meth c D dA ad lo n nL A kc ks Q pc ls (.int x :: .ref a :: rest) M :=
  AW.putf (C := RX4) (T := TX4) (N := 17) (ci := 4) (w := 64) (r := upd (M a) k0 x) X k0 t.1 t.2.1 (cS t dA ad (M a)) (by rw [← hs]; exact cS t dA ad _) rfl inX4 tyX4 tyX4_ok nmX4 hk hT hl hfin hpd rfl rfl hlen rfl hd hn k
theorem AW.zX4 {b : Bool} (X : CX p s m args meth c cc nL own D dA ad lo n A) (t : tSt lo n a) (k0 : Nat) (hk : k0 < 17) (hT : (TX4 k0).1 = RX4) (hl : Cond.fieldLink own ix0 RX4 (TX4 k0).2.1 (TX4 k0).2.2.1 ∈ tblA) (hfin : (TX4 k0).2.2.2 = false) (hpd : parseFieldDescriptor (TX4 k0).2.2.1 = some .boolean) (hs : fsS ad a (upd (M a) k0 (bz b)) = (fsS ad a (M a)).set k0 (.int (bz b))) (hlen : k0 + 1 ≤ 17) (hd : decode cc pc = .ok (.putfield ix0, 3)) (hn : pc + 3 = pc') (k : AW p l e R s m args below meth c D dA ad lo n nL A kc ks Q pc' ls rest (ms M a k0 (bz b))) : AW p l e R s m args below meth c D dA ad lo n nL A kc ks Q pc ls (.int (bz b) :: .ref a :: rest) M :=
  AW.putf (C := RX4) (T := TX4) (N := 17) (ci := 4) (w := 64) (r := upd (M a) k0 (bz b)) X k0 t.1 t.2.1 (cS t dA ad (M a)) (by rw [← hs]; exact cS t dA ad _) rfl inX4 tyX4 tyX4_ok nmX4 hk hT hl hfin hpd (by cases b <;> rfl) (by cases b <;> rfl) hlen rfl hd hn k
theorem AW.gX5 {v : Value} (X : CX p s m args meth c cc nL own D dA ad lo n A) (t : tTx lo n a) (k0 : Nat) (hk : k0 < 7) (hT : (TX5 k0).1 = RX5) (hl : Cond.fieldLink own ix0 RX5 (TX5 k0).2.1 (TX5 k0).2.2.1 ∈ tblA) (hv : (fsT ad a (M a))[k0]? = some (cv ad v)) (hd : decode cc pc = .ok (.getfield ix0, 3)) (hn : pc + 3 = pc') (k : AW p l e R s m args below meth c D dA ad lo n nL A kc ks Q pc' ls (v :: rest) M) : AW p l e R s m args below meth c D dA ad lo n nL A kc ks Q pc ls (.ref a :: rest) M :=
  AW.getf (C := RX5) (T := TX5) (N := 7) (ci := 5) (w := 1) X k0 t.1 t.2.1 (cT t dA ad (M a)) rfl inX5 hk hT hl hv hd hn k
theorem AW.pX5 {x : Int32} (X : CX p s m args meth c cc nL own D dA ad lo n A) (t : tTx lo n a) (k0 : Nat) (hk : k0 < 7) (hT : (TX5 k0).1 = RX5) (hl : Cond.fieldLink own ix0 RX5 (TX5 k0).2.1 (TX5 k0).2.2.1 ∈ tblA) (hfin : (TX5 k0).2.2.2 = false) (hpd : parseFieldDescriptor (TX5 k0).2.2.1 = some .int) (hs : fsT ad a (upd (M a) k0 x) = (fsT ad a (M a)).set k0 (.int x)) (hlen : k0 + 1 ≤ 7) (hd : decode cc pc = .ok (.putfield ix0, 3)) (hn : pc + 3 = pc') (k : AW p l e R s m args below meth c D dA ad lo n nL A kc ks Q pc' ls rest (ms M a k0 x)) : AW p l e R s m args below meth c D dA ad lo n nL A kc ks Q pc ls (.int x :: .ref a :: rest) M :=
  AW.putf (C := RX5) (T := TX5) (N := 7) (ci := 5) (w := 1) (r := upd (M a) k0 x) X k0 t.1 t.2.1 (cT t dA ad (M a)) (by rw [← hs]; exact cT t dA ad _) rfl inX5 tyX5 tyX5_ok nmX5 hk hT hl hfin hpd rfl rfl hlen rfl hd hn k
theorem AW.gX6 {v : Value} (X : CX p s m args meth c cc nL own D dA ad lo n A) (t : tSS lo n a) (k0 : Nat) (hk : k0 < 6) (hT : (TX6 k0).1 = RX6) (hl : Cond.fieldLink own ix0 RX6 (TX6 k0).2.1 (TX6 k0).2.2.1 ∈ tblA) (hv : (fsX ad)[k0]? = some (cv ad v)) (hd : decode cc pc = .ok (.getfield ix0, 3)) (hn : pc + 3 = pc') (k : AW p l e R s m args below meth c D dA ad lo n nL A kc ks Q pc' ls (v :: rest) M) : AW p l e R s m args below meth c D dA ad lo n nL A kc ks Q pc ls (.ref a :: rest) M :=
  AW.getf (C := RX6) (T := TX6) (N := 6) (ci := 6) (w := 6) X k0 t.1.1 t.1.2.1 (cX t dA ad (M a)) rfl inX6 hk hT hl hv hd hn k
theorem AW.sld {xs : Nat → Int32} {L : Nat} {i : Int32} (X : CX p s m args meth c cc nL own D dA ad lo n A) (hC : SCX ad L xs) (hi : vp_in i L) (hd : decode cc pc = .ok (.iaload, 1)) (hn : pc + 1 = pc') (k : AW p l e R s m args below meth c D dA ad lo n nL A kc ks Q pc' ls (.int (xs i.toNatClampNeg) :: rest) M) : AW p l e R s m args below meth c D dA ad lo n nL A kc ks Q pc ls (.int i :: .ref 1003 :: rest) M := by
  subst hn
  obtain ⟨rfl, rfl⟩ := hC
  intro H locs la hP hS h
  have hF := X.2.2.2.2.2.2.2.2.2.2.2.2
  exact va_sld X.1 X.2.1 hF.1 hF.2.1 hF.2.2 hS hi hd (k H locs la hP hS h)
theorem AW.slen {xs : Nat → Int32} {L : Nat} (X : CX p s m args meth c cc nL own D dA ad lo n A) (hC : SCX ad L xs) (hd : decode cc pc = .ok (.arraylength, 1)) (hn : pc + 1 = pc') (k : AW p l e R s m args below meth c D dA ad lo n nL A kc ks Q pc' ls (.int (nI L) :: rest) M) : AW p l e R s m args below meth c D dA ad lo n nL A kc ks Q pc ls (.ref 1003 :: rest) M := by
  subst hn
  obtain ⟨rfl, rfl⟩ := hC
  intro H locs la hP hS h
  have hF := X.2.2.2.2.2.2.2.2.2.2.2.2
  exact va_slen X.1 X.2.1 hF.1 hF.2.1 hF.2.2 hS hd (k H locs la hP hS h)
theorem false_true {P : Prop} (h : some false = some true) : P := by cases h
end AWF
