/-! PURE, the class alone: by program out of the same part of whole -/
/-! PURE: how a State of the class stands for a row of the reference -/
def tr (o i : Nat) : Nat :=
  if o = 0 then (match i with
    | 3 => 5
    | 8 => 1
    | 9 => 2
    | 10 => 3
    | 11 => 7
    | 12 => 6
    | 13 => 8
    | 14 => 9
    | 15 => 10
    | 16 => 11
    | _ => 5000)
  else if o = 1 then (if i = 1 then 0 else 5000)
  else if o = 2 then (if i < 100 then 208 + i else 5000)
  else if o = 3 then (if i = 2 then 4 else 5000)
  else if o = 7 then (if i < 6 then 12 + i else 5000)
  else if o = 8 then (if i < 100 then 1508 + i else 5000)
  else if o = 9 then (if i < 100 then 1608 + i else 5000)
  else if o = 10 then (if i < 100 then 1708 + i else 5000)
  else if o < 11 then 5000
  else if 65 ≤ o then 5000
  else match (o - 11) % 9 with
    | 0 => (match i with
      | 0 => 34 + 29 * ((o - 11) / 9)
      | 1 => 34 + 29 * ((o - 11) / 9) + 1
      | 2 => 34 + 29 * ((o - 11) / 9) + 2
      | 9 => 34 + 29 * ((o - 11) / 9) + 12
      | 14 => 34 + 29 * ((o - 11) / 9) + 25
      | 15 => 34 + 29 * ((o - 11) / 9) + 26
      | 16 => 34 + 29 * ((o - 11) / 9) + 27
      | 17 => 34 + 29 * ((o - 11) / 9) + 28
      | _ => 5000)
    | 1 => if i < 3 then 34 + 29 * ((o - 11) / 9) + 3 + 3 * i else 5000
    | 2 => if i < 3 then 34 + 29 * ((o - 11) / 9) + 4 + 3 * i else 5000
    | 3 => if i < 3 then 34 + 29 * ((o - 11) / 9) + 5 + 3 * i else 5000
    | 4 => if i < 4 then 34 + 29 * ((o - 11) / 9) + 13 + 3 * i else 5000
    | 5 => if i < 4 then 34 + 29 * ((o - 11) / 9) + 14 + 3 * i else 5000
    | 6 => if i < 4 then 34 + 29 * ((o - 11) / 9) + 15 + 3 * i else 5000
    | 7 => if i < 100 then 308 + 6 * i + (o - 11) / 9 else 5000
    | _ => if i < 100 then 908 + 6 * i + (o - 11) / 9 else 5000
def rt (k : Nat) : Nat × Nat :=
  if k < 12 then (match k with
    | 0 => (1, 1)
    | 1 => (0, 8)
    | 2 => (0, 9)
    | 3 => (0, 10)
    | 4 => (3, 2)
    | 5 => (0, 3)
    | 6 => (0, 12)
    | 7 => (0, 11)
    | 8 => (0, 13)
    | 9 => (0, 14)
    | 10 => (0, 15)
    | _ => (0, 16))
  else if k < 18 then (7, k - 12)
  else if k < 34 then (99, 0)
  else if k < 208 then (match (k - 34) % 29 with
    | 0 => (11 + 9 * ((k - 34) / 29), 0)
    | 1 => (11 + 9 * ((k - 34) / 29), 1)
    | 2 => (11 + 9 * ((k - 34) / 29), 2)
    | 12 => (11 + 9 * ((k - 34) / 29), 9)
    | 25 => (11 + 9 * ((k - 34) / 29), 14)
    | 26 => (11 + 9 * ((k - 34) / 29), 15)
    | 27 => (11 + 9 * ((k - 34) / 29), 16)
    | 28 => (11 + 9 * ((k - 34) / 29), 17)
    | w => if w < 12 then (12 + 9 * ((k - 34) / 29) + (w - 3) % 3, (w - 3) / 3) else (15 + 9 * ((k - 34) / 29) + (w - 13) % 3, (w - 13) / 3))
  else if k < 308 then (2, k - 208)
  else if k < 908 then (18 + 9 * ((k - 308) % 6), (k - 308) / 6)
  else if k < 1508 then (19 + 9 * ((k - 908) % 6), (k - 908) / 6)
  else if k < 1608 then (8, k - 1508)
  else if k < 1708 then (9, k - 1608)
  else (10, k - 1708)
theorem rt_tr : ∀ o, o < 65 → ∀ i, i < 100 → tr o i < 5000 → rt (tr o i) = (o, i) := by decide +kernel
theorem tr_inj {o i o2 i2 : Nat} (h1 : o < 65) (h2 : i < 100) (h3 : o2 < 65) (h4 : i2 < 100) (h5 : tr o i < 5000) (h : tr o2 i2 = tr o i) : o2 = o ∧ i2 = i := by
  have e1 := rt_tr o h1 i h2 h5
  have e2 := rt_tr o2 h3 i2 h4 (by rw [h]; exact h5)
  rw [h, e1] at e2
  injection e2 with q1 q2
  exact ⟨q1.symm, q2.symm⟩
theorem tr_nopt : ∀ o, o < 65 → ∀ i, i < 100 → tr o i < 5000 → ¬ (18 ≤ tr o i ∧ tr o i < 34) := by decide +kernel
theorem tr_lt : ∀ o, o < 65 → ∀ i, i < 100 → tr o i < 5000 → tr o i < 1808 := by decide +kernel
theorem tr_45 : ∀ i, i < 100 → tr 4 i = 5000 ∧ tr 5 i = 5000 := by decide +kernel
def Cn (r : Nat → Int32) : Nat := ix (r 5)
def Nn (r : Nat → Int32) (c : Nat) : Nat := ix (r (46 + 29 * c))
def Pn (r : Nat → Int32) : Nat := ix (r 4)
def inS (r : Nat → Int32) (o i : Nat) : Prop := o < 11 ∨ ((o - 11) / 9 < Cn r ∧ ((4 ≤ (o - 11) % 9 ∧ (o - 11) % 9 ≤ 6) → i < Nn r ((o - 11) / 9)))
def PRel (M : MM) (b : Nat) (r : Nat → Int32) : Prop := Pn r ≤ 8 ∧ (∀ j k, j < k → k < Pn r → M (b + 4) j < M (b + 4) k) ∧ (∀ p, p < Pn r → ∃ j, j < Pn r ∧ M (b + 4) j = r (18 + 2 * p) ∧ M (b + 5) j = r (19 + 2 * p)) ∧ (∀ j, j < Pn r → ∃ p, p < Pn r ∧ M (b + 4) j = r (18 + 2 * p) ∧ M (b + 5) j = r (19 + 2 * p))
def TRel (M : MM) (b : Nat) (r : Nat → Int32) : Prop := ∀ o i, o < 65 → i < 100 → tr o i < 5000 → inS r o i → M (b + o) i = r (tr o i)
def Rep (M : MM) (b : Nat) (r : Nat → Int32) : Prop := TRel M b r ∧ PRel M b r
/-- nothing outside a State at b is changed -/
def Fr (b : Nat) (M M' : MM) : Prop := ∀ q, (q < b ∨ b + 65 ≤ q) → M' q = M q
theorem Fr.rf {b : Nat} {M : MM} : Fr b M M := fun _ _ => rfl
theorem Fr.tr {b : Nat} {M M1 M2 : MM} (h1 : Fr b M M1) (h2 : Fr b M1 M2) : Fr b M M2 := fun q h => (h2 q h).trans (h1 q h)
theorem Fr.put {b o i : Nat} {v : Int32} {M M1 : MM} (h : Fr b M M1) (ho : o < 65) : Fr b M (ms M1 (b + o) i v) := fun q hq => (ms_ne (by omega)).trans (h q hq)
theorem Fr.putf {b o : Nat} {f : Nat → Int32} {M M1 : MM} (h : Fr b M M1) (ho : o < 65) : Fr b M (msf M1 (b + o) f) := fun q hq => (msf_ne (by omega)).trans (h q hq)
theorem PRel.cong {M M' : MM} {b b' : Nat} {r r' : Nat → Int32} (h : PRel M b r) (e4 : ∀ j, j < 8 → M' (b' + 4) j = M (b + 4) j) (e5 : ∀ j, j < 8 → M' (b' + 5) j = M (b + 5) j) (eP : r' 4 = r 4) (er : ∀ k, 18 ≤ k → k < 34 → r' k = r k) : PRel M' b' r' := by
  have eP : Pn r' = Pn r := by unfold Pn; rw [eP]
  obtain ⟨h0, h1, h2, h3⟩ := h
  refine ⟨by rw [eP]; exact h0, ?_, ?_, ?_⟩ <;> rw [eP]
  · intro j k hjk hk
    rw [e4 j (by omega), e4 k (by omega)]
    exact h1 j k hjk hk
  · intro p hp
    obtain ⟨j, a, c, d⟩ := h2 p hp
    exact ⟨j, a, by rw [er _ (by omega) (by omega), e4 j (by omega)]; exact c, by rw [er _ (by omega) (by omega), e5 j (by omega)]; exact d⟩
  · intro j hj
    obtain ⟨p, a, c, d⟩ := h3 j hj
    exact ⟨p, a, by rw [er _ (by omega) (by omega), e4 j (by omega)]; exact c, by rw [er _ (by omega) (by omega), e5 j (by omega)]; exact d⟩
theorem Rep.congr {M M' : MM} {b : Nat} {r : Nat → Int32} (h : Rep M b r) (e : ∀ o, o < 65 → M' (b + o) = M (b + o)) : Rep M' b r :=
  ⟨fun o i h1 h2 h3 h4 => by rw [e o h1]; exact h.1 o i h1 h2 h3 h4, h.2.cong (fun j _ => by rw [e 4 (by omega)]) (fun j _ => by rw [e 5 (by omega)]) rfl (fun _ _ _ => rfl)⟩
theorem inS.row {r r' : Nat → Int32} {o i : Nat} (ho : o < 65) (e5 : r' 5 = r 5) (eN : ∀ c, c < 6 → r' (46 + 29 * c) = r (46 + 29 * c)) : inS r' o i ↔ inS r o i := by
  unfold inS Cn Nn
  rw [e5]
  by_cases h : o < 11
  · simp [h]
  · rw [eN ((o - 11) / 9) (by omega)]
theorem Rep.row {M : MM} {b : Nat} {r r' : Nat → Int32} (h : Rep M b r) (e : ∀ k, k < 1808 → r' k = r k) : Rep M b r' := by
  refine ⟨fun o i h1 h2 h3 h4 => ?_, h.2.cong (fun _ _ => rfl) (fun _ _ => rfl) (e 4 (by omega)) (fun k _ _ => e k (by omega))⟩
  rw [e _ (tr_lt o h1 i h2 h3)]
  exact h.1 o i h1 h2 h3 ((inS.row h1 (e 5 (by omega)) (fun c hc => e _ (by omega))).mp h4)
/-- a tracked cell is read -/
theorem Rep.get {M : MM} {b : Nat} {r : Nat → Int32} (h : Rep M b r) {o i k : Nat} (e : tr o i = k) (h1 : o < 65) (h2 : i < 100) (h3 : k < 5000) (h4 : inS r o i) : M (b + o) i = r k := by
  subst e
  exact h.1 o i h1 h2 h3 h4
/-- a tracked cell is written, no count -/
theorem Rep.put {M : MM} {b : Nat} {r : Nat → Int32} (h : Rep M b r) {o i k : Nat} {v : Int32} (e : tr o i = k) (h1 : o < 65) (h2 : i < 100) (h3 : k < 5000) (h4 : k ≠ 4 ∧ k ≠ 5 ∧ ∀ c, c < 6 → 46 + 29 * c ≠ k) : Rep (ms M (b + o) i v) b (upd r k v) := by
  subst e
  have hne : o ≠ 4 ∧ o ≠ 5 := by
    constructor <;> intro q <;> subst q
    · have := (tr_45 i h2).1; omega
    · have := (tr_45 i h2).2; omega
  refine ⟨fun o2 i2 a1 a2 a3 a4 => ?_, h.2.cong (fun j _ => ?_) (fun j _ => ?_) ?_ (fun k q1 q2 => ?_)⟩
  · have a5 := (inS.row a1 (upd_ne (fun q => h4.2.1 q.symm)) (fun c hc => upd_ne (h4.2.2 c hc))).mp a4
    by_cases q : tr o2 i2 = tr o i
    · obtain ⟨rfl, rfl⟩ := tr_inj h1 h2 a1 a2 h3 q
      rw [ms_eq, upd_eq]
    · rw [upd_ne q]
      by_cases q2 : o2 = o
      · subst q2
        rw [ms_ni (fun e => q (by rw [e]))]
        exact h.1 o2 i2 a1 a2 a3 a5
      · rw [ms_ne (by omega)]
        exact h.1 o2 i2 a1 a2 a3 a5
  · rw [ms_ne (by omega)]
  · rw [ms_ne (by omega)]
  · exact upd_ne (fun q => h4.1 q.symm)
  · refine upd_ne (fun q => ?_)
    exact tr_nopt o h1 i h2 h3 ⟨by omega, by omega⟩
/-- an untracked cell is written -/
theorem Rep.un {M : MM} {b : Nat} {r : Nat → Int32} (h : Rep M b r) {o i : Nat} {v : Int32} (e : 5000 ≤ tr o i) (h1 : o ≠ 4 ∧ o ≠ 5) : Rep (ms M (b + o) i v) b r := by
  refine ⟨fun o2 i2 a1 a2 a3 a4 => ?_, h.2.cong (fun j _ => by rw [ms_ne (by omega)]) (fun j _ => by rw [ms_ne (by omega)]) rfl (fun _ _ _ => rfl)⟩
  by_cases q : o2 = o
  · subst q
    have hi : i2 ≠ i := fun e2 => by rw [e2] at a3; omega
    rw [ms_ni hi]
    exact h.1 o2 i2 a1 a2 a3 a4
  · rw [ms_ne (by omega)]
    exact h.1 o2 i2 a1 a2 a3 a4
-- where the cells of a channel stand
theorem tr_c0 : ∀ c, c < 6 → tr (11 + 9 * c) 0 = 34 + 29 * c ∧ tr (11 + 9 * c) 1 = 34 + 29 * c + 1 ∧ tr (11 + 9 * c) 2 = 34 + 29 * c + 2 ∧ tr (11 + 9 * c) 9 = 34 + 29 * c + 12 := by decide +kernel
theorem tr_c14 : ∀ c, c < 6 → tr (11 + 9 * c) 14 = 34 + 29 * c + 25 ∧ tr (11 + 9 * c) 15 = 34 + 29 * c + 26 ∧ tr (11 + 9 * c) 16 = 34 + 29 * c + 27 ∧ tr (11 + 9 * c) 17 = 34 + 29 * c + 28 ∧ tr (11 + 9 * c) 12 = 5000 ∧ tr (11 + 9 * c) 13 = 5000 := by decide +kernel
theorem tr_cm : ∀ c, c < 6 → ∀ i, i < 3 → tr (12 + 9 * c) i = 34 + 29 * c + (3 + 3 * i) ∧ tr (13 + 9 * c) i = 34 + 29 * c + (4 + 3 * i) ∧ tr (14 + 9 * c) i = 34 + 29 * c + (5 + 3 * i) := by decide +kernel
theorem tr_cn : ∀ c, c < 6 → ∀ i, i < 4 → tr (15 + 9 * c) i = 34 + 29 * c + (13 + 3 * i) ∧ tr (16 + 9 * c) i = 34 + 29 * c + (14 + 3 * i) ∧ tr (17 + 9 * c) i = 34 + 29 * c + (15 + 3 * i) := by decide +kernel
theorem tr_cl : ∀ c, c < 6 → ∀ i, i < 100 → tr (18 + 9 * c) i = 308 + 6 * i + c ∧ tr (19 + 9 * c) i = 908 + 6 * i + c := by decide +kernel
theorem tr_8 : ∀ i, i < 100 → tr 2 i = 208 + i ∧ tr 8 i = 1508 + i ∧ tr 9 i = 1608 + i ∧ tr 10 i = 1708 + i := by decide +kernel
theorem tr_7 : ∀ i, i < 6 → tr 7 i = 12 + i := by decide +kernel
/-- cells of a channel, read -/
theorem Rep.c {M : MM} {b : Nat} {r : Nat → Int32} (h : Rep M b r) {c : Nat} (hc : c < Cn r) (h6 : c < 6) : M (b + (11 + 9 * c)) 0 = r (34 + 29 * c) ∧ M (b + (11 + 9 * c)) 1 = r (34 + 29 * c + 1) ∧ M (b + (11 + 9 * c)) 2 = r (34 + 29 * c + 2) ∧ M (b + (11 + 9 * c)) 9 = r (34 + 29 * c + 12) ∧ M (b + (11 + 9 * c)) 14 = r (34 + 29 * c + 25) ∧ M (b + (11 + 9 * c)) 15 = r (34 + 29 * c + 26) ∧ M (b + (11 + 9 * c)) 16 = r (34 + 29 * c + 27) ∧ M (b + (11 + 9 * c)) 17 = r (34 + 29 * c + 28) := by
  have q : ∀ i, inS r (11 + 9 * c) i := fun i => Or.inr ⟨by rw [show (11 + 9 * c - 11) / 9 = c by omega]; exact hc, fun z => by omega⟩
  have t0 := tr_c0 c h6
  have t1 := tr_c14 c h6
  exact ⟨h.get t0.1 (by omega) (by omega) (by omega) (q _), h.get t0.2.1 (by omega) (by omega) (by omega) (q _), h.get t0.2.2.1 (by omega) (by omega) (by omega) (q _), h.get t0.2.2.2 (by omega) (by omega) (by omega) (q _), h.get t1.1 (by omega) (by omega) (by omega) (q _), h.get t1.2.1 (by omega) (by omega) (by omega) (q _), h.get t1.2.2.1 (by omega) (by omega) (by omega) (q _), h.get t1.2.2.2.1 (by omega) (by omega) (by omega) (q _)⟩
theorem Rep.cm {M : MM} {b : Nat} {r : Nat → Int32} (h : Rep M b r) {c i : Nat} (hc : c < Cn r) (h6 : c < 6) (hi : i < 3) : M (b + (12 + 9 * c)) i = r (34 + 29 * c + (3 + 3 * i)) ∧ M (b + (13 + 9 * c)) i = r (34 + 29 * c + (4 + 3 * i)) ∧ M (b + (14 + 9 * c)) i = r (34 + 29 * c + (5 + 3 * i)) := by
  have t := tr_cm c h6 i hi
  exact ⟨h.get t.1 (by omega) (by omega) (by omega) (Or.inr ⟨by rw [show (12 + 9 * c - 11) / 9 = c by omega]; exact hc, fun z => by omega⟩), h.get t.2.1 (by omega) (by omega) (by omega) (Or.inr ⟨by rw [show (13 + 9 * c - 11) / 9 = c by omega]; exact hc, fun z => by omega⟩), h.get t.2.2 (by omega) (by omega) (by omega) (Or.inr ⟨by rw [show (14 + 9 * c - 11) / 9 = c by omega]; exact hc, fun z => by omega⟩)⟩
theorem Rep.cn {M : MM} {b : Nat} {r : Nat → Int32} (h : Rep M b r) {c i : Nat} (hc : c < Cn r) (h6 : c < 6) (hi : i < 4) (hn : i < Nn r c) : M (b + (15 + 9 * c)) i = r (34 + 29 * c + (13 + 3 * i)) ∧ M (b + (16 + 9 * c)) i = r (34 + 29 * c + (14 + 3 * i)) ∧ M (b + (17 + 9 * c)) i = r (34 + 29 * c + (15 + 3 * i)) := by
  have t := tr_cn c h6 i hi
  exact ⟨h.get t.1 (by omega) (by omega) (by omega) (Or.inr ⟨by rw [show (15 + 9 * c - 11) / 9 = c by omega]; exact hc, fun z => by rw [show (15 + 9 * c - 11) / 9 = c by omega]; exact hn⟩), h.get t.2.1 (by omega) (by omega) (by omega) (Or.inr ⟨by rw [show (16 + 9 * c - 11) / 9 = c by omega]; exact hc, fun z => by rw [show (16 + 9 * c - 11) / 9 = c by omega]; exact hn⟩), h.get t.2.2 (by omega) (by omega) (by omega) (Or.inr ⟨by rw [show (17 + 9 * c - 11) / 9 = c by omega]; exact hc, fun z => by rw [show (17 + 9 * c - 11) / 9 = c by omega]; exact hn⟩)⟩
theorem Rep.cl {M : MM} {b : Nat} {r : Nat → Int32} (h : Rep M b r) {c i : Nat} (hc : c < Cn r) (h6 : c < 6) (hi : i < 100) : M (b + (18 + 9 * c)) i = r (308 + 6 * i + c) ∧ M (b + (19 + 9 * c)) i = r (908 + 6 * i + c) := by
  have t := tr_cl c h6 i hi
  exact ⟨h.get t.1 (by omega) (by omega) (by omega) (Or.inr ⟨by rw [show (18 + 9 * c - 11) / 9 = c by omega]; exact hc, fun z => by omega⟩), h.get t.2 (by omega) (by omega) (by omega) (Or.inr ⟨by rw [show (19 + 9 * c - 11) / 9 = c by omega]; exact hc, fun z => by omega⟩)⟩
theorem Rep.s {M : MM} {b : Nat} {r : Nat → Int32} (h : Rep M b r) : M (b + 1) 1 = r 0 ∧ M (b + 0) 3 = r 5 ∧ M (b + 0) 8 = r 1 ∧ M (b + 0) 9 = r 2 ∧ M (b + 0) 10 = r 3 ∧ M (b + 0) 11 = r 7 ∧ M (b + 0) 12 = r 6 ∧ M (b + 0) 13 = r 8 ∧ M (b + 0) 14 = r 9 ∧ M (b + 0) 15 = r 10 ∧ M (b + 0) 16 = r 11 ∧ M (b + 3) 2 = r 4 := by
  refine ⟨?_, ?_, ?_, ?_, ?_, ?_, ?_, ?_, ?_, ?_, ?_, ?_⟩ <;> exact h.get rfl (by omega) (by omega) (by omega) (Or.inl (by omega))
theorem Rep.r {M : MM} {b : Nat} {r : Nat → Int32} (h : Rep M b r) {i : Nat} (hi : i < 100) : M (b + 2) i = r (208 + i) ∧ M (b + 8) i = r (1508 + i) ∧ M (b + 9) i = r (1608 + i) ∧ M (b + 10) i = r (1708 + i) := by
  have t := tr_8 i hi
  exact ⟨h.get t.1 (by omega) hi (by omega) (Or.inl (by omega)), h.get t.2.1 (by omega) hi (by omega) (Or.inl (by omega)), h.get t.2.2.1 (by omega) hi (by omega) (Or.inl (by omega)), h.get t.2.2.2 (by omega) hi (by omega) (Or.inl (by omega))⟩
theorem Rep.g {M : MM} {b : Nat} {r : Nat → Int32} (h : Rep M b r) {i : Nat} (hi : i < 6) : M (b + 7) i = r (12 + i) := h.get (tr_7 i hi) (by omega) (by omega) (by omega) (Or.inl (by omega))
