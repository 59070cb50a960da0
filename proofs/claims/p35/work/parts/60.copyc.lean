/-! PURE, the class alone: by program out of the same part of whole -/
/-! PURE: a State is copied -/
def Cp (b b' : Nat) (M0 M : MM) (S : Nat → Nat → Prop) : Prop := (∀ o i, o < 65 → S o i → M (b' + o) i = M0 (b + o) i) ∧ Fr b' M0 M
theorem Cp.at {b b' : Nat} {M0 M : MM} {S : Nat → Nat → Prop} (h : Cp b b' M0 M S) (hd : b + 65 ≤ b' ∨ b' + 65 ≤ b) {o : Nat} (ho : o < 65) : M (b + o) = M0 (b + o) := h.2 _ (by omega)
theorem Cp.msv {b b' : Nat} {M0 M : MM} {S : Nat → Nat → Prop} (h : Cp b b' M0 M S) (o : Nat) {a0 i : Nat} {v : Int32} (e0 : a0 = b' + o) (ho : o < 65) (hv : v = M0 (b + o) i) : Cp b b' M0 (ms M a0 i v) (fun o' i' => S o' i' ∨ (o' = o ∧ i' = i)) := by
  subst e0
  refine ⟨fun o' i' h1 h2 => ?_, Fr.put h.2 ho⟩
  by_cases q : o' = o ∧ i' = i
  · obtain ⟨rfl, rfl⟩ := q
    rw [ms_eq, hv]
  · have h3 := h2.resolve_right q
    by_cases z : o' = o
    · subst z
      rw [ms_ni (by omega)]
      exact h.1 _ _ h1 h3
    · rw [ms_ne (by omega)]
      exact h.1 _ _ h1 h3
theorem Cp.pu {b b' : Nat} {M0 M : MM} {S : Nat → Nat → Prop} (h : Cp b b' M0 M S) (hd : b + 65 ≤ b' ∨ b' + 65 ≤ b) (o : Nat) {a0 a1 i : Nat} (e0 : a0 = b' + o) (e1 : a1 = b + o) (ho : o < 65) : Cp b b' M0 (ms M a0 i (M a1 i)) (fun o' i' => S o' i' ∨ (o' = o ∧ i' = i)) :=
  h.msv (v := M a1 i) o e0 ho (by rw [e1, h.at hd ho])
theorem Cp.row {b b' : Nat} {M0 M : MM} {S : Nat → Nat → Prop} (h : Cp b b' M0 M S) (hd : b + 65 ≤ b' ∨ b' + 65 ≤ b) (o L : Nat) {a0 a1 : Nat} (e0 : a0 = b' + o) (e1 : a1 = b + o) (ho : o < 65) (hL : L ≤ 1000) : ∃ M', f_X6_copyRow a1 L a0 L M = some M' ∧ Cp b b' M0 M' (fun o' i' => S o' i' ∨ (o' = o ∧ i' < L)) := by
  subst e0 e1
  have en : (if Int32.ofNat L < Int32.ofNat L then Int32.ofNat L else Int32.ofNat L) = nI L := by split <;> rfl
  unfold f_X6_copyRow
  rw [en, ix_nI (by omega), show ix 0 = 0 from rfl, gd_of (by
    have a : ¬ nI L < 0 := by rw [show (0 : Int32) = nI 0 from rfl, lt_nI (by omega) (by omega)]; omega
    simp only [acg, ix_nI (show L ≤ 1000000 by omega), show (0 : Int32).toNatClampNeg = 0 from rfl]
    simp [a])]
  refine ⟨_, rfl, fun o' i' h1 h2 => ?_, Fr.putf h.2 ho⟩
  by_cases z : o' = o
  · subst z
    rw [msf_at]
    unfold va_cpy
    by_cases q : i' < L
    · rw [if_pos (by omega), h.at hd ho]
      congr 1
      omega
    · rw [if_neg (by omega)]
      exact h.1 _ _ h1 (h2.resolve_right (fun x => q x.2))
  · rw [msf_ne (by omega)]
    exact h.1 _ _ h1 (h2.resolve_right (fun x => z x.1))
theorem Cp.sub {b b' : Nat} {M0 M : MM} {S T : Nat → Nat → Prop} (h : Cp b b' M0 M S) (hs : ∀ o i, o < 65 → T o i → S o i) : Cp b b' M0 M T := ⟨fun o i h1 h2 => h.1 o i h1 (hs o i h1 h2), h.2⟩
def chD (t i : Nat) : Prop := (t = 0 ∧ (i < 3 ∨ i = 9 ∨ (12 ≤ i ∧ i ≤ 17))) ∨ (1 ≤ t ∧ t ≤ 3 ∧ i < 3) ∨ (4 ≤ t ∧ t ≤ 6 ∧ i < 4) ∨ (7 ≤ t ∧ i < 100)
theorem nzbz {x : Int32} (h : x = 0 ∨ x = 1) : bz (nz x) = x := by rcases h with rfl | rfl <;> decide
theorem chanC {b b' c : Nat} {M0 M : MM} {S : Nat → Nat → Prop} (h : Cp b b' M0 M S) (hd : b + 65 ≤ b' ∨ b' + 65 ≤ b) (hc : c < 6) (hb : M0 (b + (11 + 9 * c)) 0 = 0 ∨ M0 (b + (11 + 9 * c)) 0 = 1) : ∃ M', f_X0_copyFrom (b' + 6 + 5 + 9 * c) (b + 6 + 5 + 9 * c) M = some M' ∧ Cp b b' M0 M' (fun o i => S o i ∨ (11 + 9 * c ≤ o ∧ o < 20 + 9 * c ∧ chD (o - (11 + 9 * c)) i)) := by
  have hv : bz (nz (M (b + 6 + 5 + 9 * c) 0)) = M0 (b + (11 + 9 * c)) 0 := by
    rw [show b + 6 + 5 + 9 * c = b + (11 + 9 * c) by omega, h.at hd (by omega)]
    exact nzbz hb
  unfold f_X0_copyFrom
  have h1 := ((h.msv (11 + 9 * c) (a0 := b' + 6 + 5 + 9 * c) (by omega) (by omega) hv).pu hd (11 + 9 * c) (a0 := b' + 6 + 5 + 9 * c) (a1 := b + 6 + 5 + 9 * c) (i := 1) (by omega) (by omega) (by omega)).pu hd (11 + 9 * c) (a0 := b' + 6 + 5 + 9 * c) (a1 := b + 6 + 5 + 9 * c) (i := 2) (by omega) (by omega) (by omega)
  obtain ⟨M1, e1, h2⟩ := h1.row hd (12 + 9 * c) 3 (a0 := b' + 6 + 5 + 9 * c + 1) (a1 := b + 6 + 5 + 9 * c + 1) (by omega) (by omega) (by omega) (by omega)
  rw [e1, Option.bind_some]
  obtain ⟨M2, e2, h3⟩ := h2.row hd (13 + 9 * c) 3 (a0 := b' + 6 + 5 + 9 * c + 2) (a1 := b + 6 + 5 + 9 * c + 2) (by omega) (by omega) (by omega) (by omega)
  rw [e2, Option.bind_some]
  obtain ⟨M3, e3, h4⟩ := h3.row hd (14 + 9 * c) 3 (a0 := b' + 6 + 5 + 9 * c + 3) (a1 := b + 6 + 5 + 9 * c + 3) (by omega) (by omega) (by omega) (by omega)
  rw [e3, Option.bind_some]
  obtain ⟨M4, e4, h5⟩ := h4.row hd (15 + 9 * c) 4 (a0 := b' + 6 + 5 + 9 * c + 4) (a1 := b + 6 + 5 + 9 * c + 4) (by omega) (by omega) (by omega) (by omega)
  rw [e4, Option.bind_some]
  obtain ⟨M5, e5, h6⟩ := h5.row hd (16 + 9 * c) 4 (a0 := b' + 6 + 5 + 9 * c + 5) (a1 := b + 6 + 5 + 9 * c + 5) (by omega) (by omega) (by omega) (by omega)
  rw [e5, Option.bind_some]
  obtain ⟨M6, e6, h7⟩ := h6.row hd (17 + 9 * c) 4 (a0 := b' + 6 + 5 + 9 * c + 6) (a1 := b + 6 + 5 + 9 * c + 6) (by omega) (by omega) (by omega) (by omega)
  rw [e6, Option.bind_some]
  obtain ⟨M7, e7, h8⟩ := (h7.pu hd (11 + 9 * c) (a0 := b' + 6 + 5 + 9 * c) (a1 := b + 6 + 5 + 9 * c) (i := 9) (by omega) (by omega) (by omega)).row hd (18 + 9 * c) 100 (a0 := b' + 6 + 5 + 9 * c + 7) (a1 := b + 6 + 5 + 9 * c + 7) (by omega) (by omega) (by omega) (by omega)
  rw [e7, Option.bind_some]
  obtain ⟨M8, e8, h9⟩ := h8.row hd (19 + 9 * c) 100 (a0 := b' + 6 + 5 + 9 * c + 8) (a1 := b + 6 + 5 + 9 * c + 8) (by omega) (by omega) (by omega) (by omega)
  rw [e8, Option.bind_some]
  have st : ∀ {M : MM} {S : Nat → Nat → Prop} (i : Nat), Cp b b' M0 M S → Cp b b' M0 (ms M (b' + 6 + 5 + 9 * c) i (M (b + 6 + 5 + 9 * c) i)) (fun o' i' => S o' i' ∨ (o' = 11 + 9 * c ∧ i' = i)) := fun i h => h.pu hd (11 + 9 * c) (by omega) (by omega) (by omega)
  refine ⟨_, rfl, (st 17 (st 16 (st 15 (st 14 (st 13 (st 12 h9)))))).sub (fun o i ho hs => ?_)⟩
  clear hd st h9 e8 h8 e7 h7 e6 h6 e5 h5 e4 h4 e3 h3 e2 h2 e1 h1 hv hb h
  rcases hs with hs | ⟨h1, h2, h3⟩
  · simp only [hs, true_or]
  · unfold chD at h3
    rcases h3 with ⟨a, b | b | b⟩ | ⟨a1, a2, b⟩ | ⟨a1, a2, b⟩ | ⟨a, b⟩
    · rcases (show i = 0 ∨ i = 1 ∨ i = 2 by omega) with rfl | rfl | rfl <;> repeat (first | (refine Or.inr ⟨?_, ?_⟩ <;> omega) | refine Or.inl ?_)
    · repeat (first | (refine Or.inr ⟨?_, ?_⟩ <;> omega) | refine Or.inl ?_)
    · rcases (show i = 12 ∨ i = 13 ∨ i = 14 ∨ i = 15 ∨ i = 16 ∨ i = 17 by omega) with rfl | rfl | rfl | rfl | rfl | rfl <;> repeat (first | (refine Or.inr ⟨?_, ?_⟩ <;> omega) | refine Or.inl ?_)
    · rcases (show o = 12 + 9 * c ∨ o = 13 + 9 * c ∨ o = 14 + 9 * c by omega) with e | e | e <;> repeat (first | (refine Or.inr ⟨?_, ?_⟩ <;> omega) | refine Or.inl ?_)
    · rcases (show o = 15 + 9 * c ∨ o = 16 + 9 * c ∨ o = 17 + 9 * c by omega) with e | e | e <;> repeat (first | (refine Or.inr ⟨?_, ?_⟩ <;> omega) | refine Or.inl ?_)
    · rcases (show o = 18 + 9 * c ∨ o = 19 + 9 * c by omega) with e | e <;> repeat (first | (refine Or.inr ⟨?_, ?_⟩ <;> omega) | refine Or.inl ?_)
def trP (o i : Nat) : Bool := (decide (o = 0) && (decide (i = 3) || (decide (8 ≤ i) && decide (i ≤ 16)))) || (decide (o = 1) && decide (i = 1)) || decide (o = 2) || (decide (o = 3) && decide (i = 2)) || (decide (o = 7) && decide (i < 6)) || (decide (8 ≤ o) && decide (o ≤ 10)) || (decide (11 ≤ o) && ((decide ((o - 11) % 9 = 0) && (decide (i < 3) || decide (i = 9) || (decide (12 ≤ i) && decide (i ≤ 17)))) || (decide (1 ≤ (o - 11) % 9) && decide ((o - 11) % 9 ≤ 3) && decide (i < 3)) || (decide (4 ≤ (o - 11) % 9) && decide ((o - 11) % 9 ≤ 6) && decide (i < 4)) || decide (7 ≤ (o - 11) % 9)))
theorem trB : ∀ o, o < 65 → ∀ i, i < 100 → tr o i < 5000 → trP o i = true := by decide +kernel
theorem trD (o : Nat) (ho : o < 65) (i : Nat) (hi : i < 100) (ht : tr o i < 5000) : (o = 0 ∧ (i = 3 ∨ (8 ≤ i ∧ i ≤ 16))) ∨ (o = 1 ∧ i = 1) ∨ o = 2 ∨ (o = 3 ∧ i = 2) ∨ (o = 7 ∧ i < 6) ∨ (8 ≤ o ∧ o ≤ 10) ∨ (11 ≤ o ∧ (((o - 11) % 9 = 0 ∧ (i < 3 ∨ i = 9 ∨ (12 ≤ i ∧ i ≤ 17))) ∨ (1 ≤ (o - 11) % 9 ∧ (o - 11) % 9 ≤ 3 ∧ i < 3) ∨ (4 ≤ (o - 11) % 9 ∧ (o - 11) % 9 ≤ 6 ∧ i < 4) ∨ 7 ≤ (o - 11) % 9)) := by
  have h := trB o ho i hi ht
  unfold trP at h
  simp only [Bool.or_eq_true, Bool.and_eq_true, decide_eq_true_eq] at h
  omega
def cpS (C : Nat) (S : Nat → Nat → Prop) : Nat → Nat → Prop := fun o i => S o i ∨ (11 ≤ o ∧ o < 11 + 9 * C ∧ chD ((o - 11) % 9) i)
theorem copyC_loop {b b' C : Nat} {M0 : MM} {S : Nat → Nat → Prop} (hd : b + 65 ≤ b' ∨ b' + 65 ≤ b) (hC : C ≤ 6) (h3 : M0 b 3 = nI C) (hb : ∀ c, c < C → M0 (b + (11 + 9 * c)) 0 = 0 ∨ M0 (b + (11 + 9 * c)) 0 = 1) (h11 : M0 b 11 = 0 ∨ M0 b 11 = 1) : ∀ (d j k : Nat) (M : MM), j + d = C → d < k → Cp b b' M0 M (cpS j S) → ∃ M', f_X4_copyFrom_24 b' b k (nI j) M = some M' ∧ Cp b b' M0 M' (fun o i => cpS C S o i ∨ (o = 0 ∧ (i = 3 ∨ (8 ≤ i ∧ i ≤ 16))) ∨ (o = 7 ∧ i < 6) ∨ (8 ≤ o ∧ o ≤ 10 ∧ i < 100)) := by
  intro d
  induction d with
  | zero =>
    intro j k M hj hk h
    obtain ⟨k, rfl⟩ : ∃ k', k = k' + 1 := ⟨k - 1, by omega⟩
    have : j = C := by omega
    subst this
    unfold f_X4_copyFrom_24
    have m3 : M b 3 = nI j := by rw [show M b = M0 b from h.at hd (o := 0) (by omega)]; exact h3
    rw [if_pos (by rw [m3]; exact Int32.le_refl _)]
    obtain ⟨M1, e1, h1⟩ := (h.pu hd 0 (a0 := b') (a1 := b) (i := 3) rfl rfl (by omega)).row hd 7 6 (a0 := b' + 7) (a1 := b + 7) rfl rfl (by omega) (by omega)
    rw [e1, Option.bind_some]
    obtain ⟨M2, e2, h2⟩ := h1.row hd 8 100 (a0 := b' + 8) (a1 := b + 8) rfl rfl (by omega) (by omega)
    rw [e2, Option.bind_some]
    obtain ⟨M3, e3, h3⟩ := h2.row hd 9 100 (a0 := b' + 9) (a1 := b + 9) rfl rfl (by omega) (by omega)
    rw [e3, Option.bind_some]
    obtain ⟨M4, e4, h4⟩ := h3.row hd 10 100 (a0 := b' + 10) (a1 := b + 10) rfl rfl (by omega) (by omega)
    rw [e4, Option.bind_some]
    have st : ∀ {M : MM} {S : Nat → Nat → Prop} (i : Nat), Cp b b' M0 M S → Cp b b' M0 (ms M b' i (M b i)) (fun o' i' => S o' i' ∨ (o' = 0 ∧ i' = i)) := fun i h => h.pu hd 0 rfl rfl (by omega)
    have g1 := st 10 (st 9 (st 8 h4))
    have g2 := g1.msv 0 (a0 := b') (i := 11) (v := bz (nz ((ms (ms (ms M4 b' 8 (M4 b 8)) b' 9 ((ms M4 b' 8 (M4 b 8)) b 9)) b' 10 ((ms (ms M4 b' 8 (M4 b 8)) b' 9 ((ms M4 b' 8 (M4 b 8)) b 9)) b 10)) b 11))) rfl (by omega) (by
      have := g1.at hd (o := 0) (by omega)
      rw [Nat.add_zero] at this
      rw [this]
      exact nzbz h11)
    refine ⟨_, rfl, (st 16 (st 15 (st 14 (st 13 (st 12 g2))))).sub (fun o i ho hs => ?_)⟩
    clear hd st g2 g1 h4 e4 h3 e3 h2 e2 h1 e1 m3 h h11 hb hk hj
    rcases hs with hs | ⟨a, b | b⟩ | ⟨a, b⟩ | ⟨a1, a2, b⟩
    · simp only [hs, true_or]
    · repeat (first | (refine Or.inr ⟨?_, ?_⟩ <;> omega) | refine Or.inl ?_)
    · rcases (show i = 8 ∨ i = 9 ∨ i = 10 ∨ i = 11 ∨ i = 12 ∨ i = 13 ∨ i = 14 ∨ i = 15 ∨ i = 16 by omega) with rfl | rfl | rfl | rfl | rfl | rfl | rfl | rfl | rfl <;> repeat (first | (refine Or.inr ⟨?_, ?_⟩ <;> omega) | refine Or.inl ?_)
    · repeat (first | (refine Or.inr ⟨?_, ?_⟩ <;> omega) | refine Or.inl ?_)
    · rcases (show o = 8 ∨ o = 9 ∨ o = 10 by omega) with e | e | e <;> repeat (first | (refine Or.inr ⟨?_, ?_⟩ <;> omega) | refine Or.inl ?_)
  | succ d ih =>
    intro j k M hj hk h
    obtain ⟨k, rfl⟩ : ∃ k', k = k' + 1 := ⟨k - 1, by omega⟩
    unfold f_X4_copyFrom_24
    have m3 : M b 3 = nI C := by rw [show M b = M0 b from h.at hd (o := 0) (by omega)]; exact h3
    rw [if_neg (by rw [m3, le_nI (by omega) (by omega)]; omega), gd_of (inb_nI (by omega) (by omega)), gd_of (inb_nI (by omega) (by omega)), ix_nI (by omega)]
    obtain ⟨M1, e1, h1⟩ := chanC h hd (c := j) (by omega) (hb j (by omega))
    rw [e1, Option.bind_some, nI_1]
    refine ih (j + 1) k M1 (by omega) (by omega) (h1.sub (fun o i ho hs => ?_))
    unfold cpS at hs ⊢
    rcases hs with hs | ⟨a, b, c⟩
    · exact Or.inl (Or.inl hs)
    · by_cases q : o < 11 + 9 * j
      · exact Or.inl (Or.inr ⟨a, q, c⟩)
      · refine Or.inr ⟨by omega, by omega, ?_⟩
        rw [show o - (11 + 9 * j) = (o - 11) % 9 by omega]
        exact c
theorem copyC {b b' C L P s ln nn : Nat} {r : Nat → Int32} {M : MM} (hd : b + 65 ≤ b' ∨ b' + 65 ≤ b) (hR : Rep M b r) (hw : WF r C L P s ln nn) : ∃ M', f_X4_copyFrom b' b M = some M' ∧ Rep M' b' r ∧ Fr b' M M' := by
  obtain ⟨hc, hl, hp, hst, ha, h1, h2, h7, h8, h9⟩ := hw
  have hCn : Cn r = C := by unfold Cn; rw [hc.1.1, ix_nI (by have := hc.1.2; omega)]
  have h6 := hc.1.2
  have c0 : Cp b b' M M (fun _ _ => False) := ⟨fun _ _ _ h => h.elim, Fr.rf⟩
  unfold f_X4_copyFrom f_X2_copyFrom f_X3_copyFrom
  obtain ⟨M1, e1, g1⟩ := c0.row hd 2 100 (a0 := b' + 1 + 1) (a1 := b + 1 + 1) rfl rfl (by omega) (by omega)
  rw [e1, Option.bind_some, Option.bind_some]
  have g2 := g1.pu hd 1 (a0 := b' + 1) (a1 := b + 1) (i := 1) rfl rfl (by omega)
  obtain ⟨M2, e2, g3⟩ := g2.row hd 4 8 (a0 := b' + 3 + 1) (a1 := b + 3 + 1) rfl rfl (by omega) (by omega)
  rw [e2, Option.bind_some]
  obtain ⟨M3, e3, g4⟩ := g3.row hd 5 8 (a0 := b' + 3 + 2) (a1 := b + 3 + 2) rfl rfl (by omega) (by omega)
  rw [e3, Option.bind_some, Option.bind_some]
  have g5 := g4.pu hd 3 (a0 := b' + 3) (a1 := b + 3) (i := 2) rfl rfl (by omega)
  obtain ⟨M', e, g⟩ := copyC_loop (S := fun o i => (o = 2 ∧ i < 100) ∨ (o = 1 ∧ i = 1) ∨ (o = 4 ∧ i < 8) ∨ (o = 5 ∧ i < 8) ∨ (o = 3 ∧ i = 2)) hd h6 (hR.s.2.1.trans hc.1.1) (fun c hcc => by
    rw [(hR.c (c := c) (by omega) (by omega)).1]
    exact (hc.2.1 c hcc).1) (by rw [show M b 11 = r 7 from hR.s.2.2.2.2.2.1]; exact h7) C 0 FU _ (by omega) (by unfold FU; omega) (g5.sub (fun o i ho hs => by
      unfold cpS chD at hs
      dsimp only at hs ⊢
      rcases hs with (h | h | h | h | h) | ⟨a, b, _⟩
      · exact Or.inl (Or.inl (Or.inl (Or.inl (Or.inr h))))
      · exact Or.inl (Or.inl (Or.inl (Or.inr h)))
      · exact Or.inl (Or.inl (Or.inr h))
      · exact Or.inl (Or.inr h)
      · exact Or.inr h
      · omega))
  refine ⟨M', e, ⟨fun o i h1 h2 h3 h4 => ?_, hR.2.cong (fun j hj => g.1 4 j (by omega) (Or.inl (Or.inl (Or.inr (Or.inr (Or.inl ⟨rfl, hj⟩)))))) (fun j hj => g.1 5 j (by omega) (Or.inl (Or.inl (Or.inr (Or.inr (Or.inr (Or.inl ⟨rfl, hj⟩))))))) rfl (fun _ _ _ => rfl)⟩, g.2⟩
  rw [g.1 o i h1 ?_]
  · exact hR.1 o i h1 h2 h3 h4
  · have ht := trD o h1 i h2 h3
    have h4' : o < 11 ∨ (o - 11) / 9 < C := by
      rcases h4 with h4 | h4
      · exact Or.inl h4
      · exact Or.inr (by rw [← hCn]; exact h4.1)
    clear h4 h3 hCn g e g5 g4 e3 g3 e2 g2 g1 e1 c0 hd hR
    rcases ht with h | h | h | h | h | h | ⟨a, h⟩
    · exact Or.inr (Or.inl h)
    · exact Or.inl (Or.inl (Or.inr (Or.inl h)))
    · exact Or.inl (Or.inl (Or.inl ⟨h, h2⟩))
    · exact Or.inl (Or.inl (Or.inr (Or.inr (Or.inr (Or.inr h)))))
    · exact Or.inr (Or.inr (Or.inl h))
    · exact Or.inr (Or.inr (Or.inr ⟨h.1, h.2, h2⟩))
    · refine Or.inl (Or.inr ⟨a, by omega, ?_⟩)
      rcases h with h | h | h | h
      · exact Or.inl h
      · exact Or.inr (Or.inl h)
      · exact Or.inr (Or.inr (Or.inl h))
      · exact Or.inr (Or.inr (Or.inr ⟨h, h2⟩))
