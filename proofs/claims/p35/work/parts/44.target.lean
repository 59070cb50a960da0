/-! PURE, the class alone: by program out of the same part of whole -/
/-! PURE: the target of the profile: the class's points are sorted, the reference's are not -/
theorem i_le {a b : Int32} : a ≤ b ↔ a.toInt ≤ b.toInt := Int32.le_iff_toInt_le
theorem i_lt {a b : Int32} : a < b ↔ a.toInt < b.toInt := Int32.lt_iff_toInt_lt
theorem i_eq {a b : Int32} : a = b ↔ a.toInt = b.toInt := Int32.toInt_inj.symm
def Tg (Pt : Int32 → Int32 → Prop) (f v : Int32) : Prop :=
  (∃ a p, Pt a p ∧ a ≤ f ∧ (∀ x y, Pt x y → x ≤ f → x ≤ a) ∧ (∀ x y, Pt x y → x < f) ∧ v = p) ∨
  (∃ b q, Pt b q ∧ f ≤ b ∧ (∀ x y, Pt x y → f ≤ x → b ≤ x) ∧ (∀ x y, Pt x y → f < x) ∧ v = q) ∨
  (∃ a p b q, (Pt a p ∧ a ≤ f ∧ (∀ x y, Pt x y → x ≤ f → x ≤ a)) ∧ (Pt b q ∧ f ≤ b ∧ (∀ x y, Pt x y → f ≤ x → b ≤ x)) ∧ v = if a = b then p else (p * (b - f) + q * (f - a)) / (b - a))
theorem Tg.uniq {Pt : Int32 → Int32 → Prop} {f v w : Int32} (hf : ∀ x y z, Pt x y → Pt x z → y = z) (h1 : Tg Pt f v) (h2 : Tg Pt f w) : v = w := by
  have key : ∀ {a p a' p' : Int32}, (Pt a p ∧ a ≤ f ∧ (∀ x y, Pt x y → x ≤ f → x ≤ a)) → (Pt a' p' ∧ a' ≤ f ∧ (∀ x y, Pt x y → x ≤ f → x ≤ a')) → a = a' ∧ p = p' := by
    intro a p a' p' h h'
    have e1 := h.2.2 _ _ h'.1 h'.2.1
    have e2 := h'.2.2 _ _ h.1 h.2.1
    have e : a = a' := by rw [i_le] at e1 e2; rw [i_eq]; omega
    subst e
    exact ⟨rfl, hf _ _ _ h.1 h'.1⟩
  have key2 : ∀ {a p a' p' : Int32}, (Pt a p ∧ f ≤ a ∧ (∀ x y, Pt x y → f ≤ x → a ≤ x)) → (Pt a' p' ∧ f ≤ a' ∧ (∀ x y, Pt x y → f ≤ x → a' ≤ x)) → a = a' ∧ p = p' := by
    intro a p a' p' h h'
    have e1 := h.2.2 _ _ h'.1 h'.2.1
    have e2 := h'.2.2 _ _ h.1 h.2.1
    have e : a = a' := by rw [i_le] at e1 e2; rw [i_eq]; omega
    subst e
    exact ⟨rfl, hf _ _ _ h.1 h'.1⟩
  have no : ∀ {x : Int32}, x < f → f ≤ x → False := fun {x} q1 q2 => by rw [i_lt] at q1; rw [i_le] at q2; omega
  have no2 : ∀ {x : Int32}, f < x → x ≤ f → False := fun {x} q1 q2 => by rw [i_lt] at q1; rw [i_le] at q2; omega
  rcases h1 with ⟨a, p, h11, h12, h13, h14, rfl⟩ | ⟨b, q, h11, h12, h13, h14, rfl⟩ | ⟨a, p, b, q, hA, hB, rfl⟩ <;> rcases h2 with ⟨a', p', g11, g12, g13, g14, rfl⟩ | ⟨b', q', g11, g12, g13, g14, rfl⟩ | ⟨a', p', b', q', gA, gB, rfl⟩
  · exact (key ⟨h11, h12, h13⟩ ⟨g11, g12, g13⟩).2
  · exact (no (h14 _ _ g11) g12).elim
  · exact (no (h14 _ _ gB.1) gB.2.1).elim
  · exact (no2 (h14 _ _ g11) g12).elim
  · exact (key2 ⟨h11, h12, h13⟩ ⟨g11, g12, g13⟩).2
  · exact (no2 (h14 _ _ gA.1) gA.2.1).elim
  · exact (no (g14 _ _ hB.1) hB.2.1).elim
  · exact (no2 (g14 _ _ hA.1) hA.2.1).elim
  · obtain ⟨rfl, rfl⟩ := key hA gA
    obtain ⟨rfl, rfl⟩ := key2 hB gB
    rfl
theorem Tg.cong {Pt Pt' : Int32 → Int32 → Prop} {f v : Int32} (h : ∀ x y, Pt x y ↔ Pt' x y) (ht : Tg Pt f v) : Tg Pt' f v := by
  have e : Pt = Pt' := funext fun x => funext fun y => propext (h x y)
  rw [← e]; exact ht
def PtR (r : Nat → Int32) (x y : Int32) : Prop := ∃ p, p < Pn r ∧ r (18 + 2 * p) = x ∧ r (19 + 2 * p) = y
def PtA (X Y : Nat → Int32) (P : Nat) (x y : Int32) : Prop := ∃ j, j < P ∧ X j = x ∧ Y j = y
theorem PRel.pts {M : MM} {b : Nat} {r : Nat → Int32} (h : PRel M b r) (x y : Int32) : PtA (M (b + 4)) (M (b + 5)) (Pn r) x y ↔ PtR r x y := by
  obtain ⟨h0, h1, h2, h3⟩ := h
  constructor
  · rintro ⟨j, hj, rfl, rfl⟩
    obtain ⟨p, hp, e1, e2⟩ := h3 j hj
    exact ⟨p, hp, e1.symm, e2.symm⟩
  · rintro ⟨p, hp, rfl, rfl⟩
    obtain ⟨j, hj, e1, e2⟩ := h2 p hp
    exact ⟨j, hj, e1, e2⟩
theorem PtA.fn {X Y : Nat → Int32} {P : Nat} (hs : ∀ j k, j < k → k < P → X j < X k) (x y z : Int32) (h1 : PtA X Y P x y) (h2 : PtA X Y P x z) : y = z := by
  obtain ⟨j, hj, rfl, rfl⟩ := h1
  obtain ⟨k, hk, e, rfl⟩ := h2
  rcases Nat.lt_trichotomy j k with q | q | q
  · have := hs j k q hk; rw [e, i_lt] at this; omega
  · rw [q]
  · have := hs k j q hj; rw [e, i_lt] at this; omega
-- the class
theorem place_loop {a P : Nat} {M : MM} {f : Int32} (hP : M a 2 = nI P) (h8 : P ≤ 8) : ∀ (d j k : Nat), j + d = P → d < k → (∀ i, i < j → M (a + 1) i < f) → ∃ p, p ≤ P ∧ (∀ i, i < p → M (a + 1) i < f) ∧ (p < P → f ≤ M (a + 1) p) ∧ f_X3_placeOf_2 a M k f (nI j) = some (nI p) := by
  intro d
  induction d with
  | zero =>
    intro j k h1 h2 h3
    obtain ⟨k, rfl⟩ : ∃ k', k = k' + 1 := ⟨k - 1, by omega⟩
    refine ⟨j, by omega, h3, by omega, ?_⟩
    unfold f_X3_placeOf_2 f_X3_placeOf_26
    rw [hP, if_pos ((le_nI (by omega) (by omega)).mpr (by omega))]
  | succ d ih =>
    intro j k h1 h2 h3
    obtain ⟨k, rfl⟩ : ∃ k', k = k' + 1 := ⟨k - 1, by omega⟩
    unfold f_X3_placeOf_2 f_X3_placeOf_26
    rw [hP, if_neg (by rw [le_nI (by omega) (by omega)]; omega), gd_of (inb_nI (by omega) (by omega)), ix_nI (by omega)]
    by_cases q : f ≤ M (a + 1) j
    · refine ⟨j, by omega, h3, fun _ => q, ?_⟩
      rw [if_pos q]
    · rw [if_neg q, nI_1]
      refine ih (j + 1) k (by omega) (by omega) (fun i hi => ?_)
      rcases Nat.lt_or_ge i j with w | w
      · exact h3 i w
      · rw [show i = j by omega]; exact nle_lt.mp q
theorem place_ok {a P : Nat} {M : MM} {f : Int32} (hP : M a 2 = nI P) (h8 : P ≤ 8) : ∃ p, p ≤ P ∧ (∀ i, i < p → M (a + 1) i < f) ∧ (p < P → f ≤ M (a + 1) p) ∧ f_X3_placeOf a f M = some (nI p) := by
  unfold f_X3_placeOf
  exact place_loop hP h8 P 0 FU (by omega) (by unfold FU; omega) (fun i hi => by omega)
theorem apart_eq {a b f : Int32} (ha : Sm a 2000) (hb : Sm b 2000) (hf : Sm f 2000) : (f - a) + (b - f) = b - a ∧ (b - a).toInt = b.toInt - a.toInt := by
  obtain ⟨a1, a2⟩ := ha
  obtain ⟨b1, b2⟩ := hb
  obtain ⟨f1, f2⟩ := hf
  have e1 := sub32 (a := f) (b := a) (by omega) (by omega)
  have e2 := sub32 (a := b) (b := f) (by omega) (by omega)
  have e3 := sub32 (a := b) (b := a) (by omega) (by omega)
  have e4 := add32 (a := f - a) (b := b - f) (by omega) (by omega)
  exact ⟨by rw [i_eq]; omega, e3⟩
theorem tgtA_ok {a P : Nat} {M : MM} {f : Int32} (hP : M a 2 = nI P) (h8 : P ≤ 8) (h0 : 0 < P) (hs : ∀ j k, j < k → k < P → M (a + 1) j < M (a + 1) k) (hb : ∀ j, j < P → Sm (M (a + 1) j) 2000) (hf : Sm f 2000) : ∃ v, f_X3_targetAt a f M = some v ∧ Tg (PtA (M (a + 1)) (M (a + 2)) P) f v := by
  obtain ⟨p, hp, h1, h2, h3⟩ := place_ok (f := f) hP h8
  unfold f_X3_targetAt f_X3_targetAt_50 f_X3_between f_X3_between_59
  rw [hP, if_neg (nI_ne0 h0 (by omega)), h3, Option.bind_some]
  have le_of : ∀ i j, i ≤ j → j < P → M (a + 1) i ≤ M (a + 1) j := fun i j q1 q2 => by
    rcases Nat.eq_or_lt_of_le q1 with e | e
    · rw [e]; exact Int32.le_refl _
    · have := hs i j e q2; rw [i_lt] at this; rw [i_le]; omega
  by_cases c1 : p = P
  · subst c1
    rw [if_pos rfl, show (1 : Int32) = nI 1 from rfl, sub_nI h0, gd_of (inb_nI (by omega) (by omega)), ix_nI (by omega)]
    refine ⟨_, rfl, Or.inl ⟨M (a + 1) (p - 1), M (a + 2) (p - 1), ⟨p - 1, by omega, rfl, rfl⟩, ?_, ?_, ?_, rfl⟩⟩
    · have := h1 (p - 1) (by omega); rw [i_lt] at this; rw [i_le]; omega
    · rintro x y ⟨j, hj, rfl, rfl⟩ _
      exact le_of j (p - 1) (by omega) (by omega)
    · rintro x y ⟨j, hj, rfl, rfl⟩
      exact h1 j hj
  · have hpP : p < P := by omega
    have h2 := h2 hpP
    have e1 : ¬ nI p = nI P := by rw [eq_nI (by omega) (by omega)]; exact c1
    rw [if_neg e1]
    have gp : inb (nI p) 8 = true := inb_nI (by omega) (by omega)
    have hi : ∀ x y, PtA (M (a + 1)) (M (a + 2)) P x y → f ≤ x → M (a + 1) p ≤ x := by
      rintro x y ⟨j, hj, rfl, rfl⟩ q
      rcases Nat.lt_or_ge j p with w | w
      · have := h1 j w; rw [i_lt] at this; rw [i_le] at q; omega
      · exact le_of p j w hj
    by_cases c2 : p = 0
    · subst c2
      rw [if_pos nI_0, gd_of gp, ix_nI (by omega)]
      by_cases c3 : M (a + 1) 0 = f
      · refine ⟨_, rfl, Or.inr (Or.inr ⟨M (a + 1) 0, M (a + 2) 0, M (a + 1) 0, M (a + 2) 0, ⟨⟨0, h0, rfl, rfl⟩, by rw [c3]; exact Int32.le_refl _, ?_⟩, ⟨⟨0, h0, rfl, rfl⟩, h2, hi⟩, ?_⟩)⟩
        · intro x y _ q; rw [c3]; exact q
        · rw [if_pos rfl]
      · refine ⟨_, rfl, Or.inr (Or.inl ⟨M (a + 1) 0, M (a + 2) 0, ⟨0, h0, rfl, rfl⟩, h2, hi, ?_, rfl⟩)⟩
        rintro x y ⟨j, hj, rfl, rfl⟩
        have q1 := le_of 0 j (by omega) hj
        rw [i_le] at q1 h2
        rw [i_eq] at c3
        rw [i_lt]
        omega
    · have e2 : ¬ nI p = 0 := nI_ne0 (by omega) (by omega)
      rw [if_neg e2, gd_of gp, ix_nI (by omega)]
      have lo : ∀ x y, PtA (M (a + 1)) (M (a + 2)) P x y → x < f → x ≤ M (a + 1) (p - 1) := by
        rintro x y ⟨j, hj, rfl, rfl⟩ q
        rcases Nat.lt_or_ge j p with w | w
        · exact le_of j (p - 1) (by omega) (by omega)
        · have := le_of p j w hj
          rw [i_le] at this h2; rw [i_lt] at q; omega
      by_cases c3 : M (a + 1) p = f
      · rw [if_pos c3, gd_of gp]
        refine ⟨_, rfl, Or.inr (Or.inr ⟨M (a + 1) p, M (a + 2) p, M (a + 1) p, M (a + 2) p, ⟨⟨p, hpP, rfl, rfl⟩, by rw [c3]; exact Int32.le_refl _, ?_⟩, ⟨⟨p, hpP, rfl, rfl⟩, h2, hi⟩, ?_⟩)⟩
        · intro x y _ q; rw [c3]; exact q
        · rw [if_pos rfl]
      · have hlo := h1 (p - 1) (by omega)
        have ap := apart_eq (hb (p - 1) (by omega)) (hb p hpP) hf
        have hpos : ¬ M (a + 1) p - M (a + 1) (p - 1) ≤ 0 := by
          rw [i_lt] at hlo
          rw [i_le] at h2
          rw [i_le, ap.2]
          have : (0 : Int32).toInt = 0 := by decide
          omega
        have hne : ¬ M (a + 1) p - M (a + 1) (p - 1) = 0 := fun e => hpos (by rw [e]; exact Int32.le_refl _)
        rw [if_neg c3, show (1 : Int32) = nI 1 from rfl, sub_nI (by omega), gd_of (inb_nI (by omega) (by omega)), gd_of gp, ix_nI (by omega), ap.1, if_neg hpos, gd_of (inb_nI (by omega) (by omega)), gd_of gp, gd_of (nz_of hne)]
        refine ⟨_, rfl, Or.inr (Or.inr ⟨M (a + 1) (p - 1), M (a + 2) (p - 1), M (a + 1) p, M (a + 2) p, ⟨⟨p - 1, by omega, rfl, rfl⟩, by rw [i_lt] at hlo; rw [i_le]; omega, ?_⟩, ⟨⟨p, hpP, rfl, rfl⟩, h2, hi⟩, ?_⟩)⟩
        · intro x y hx q
          refine lo x y hx ?_
          by_cases e : x = f
          · exfalso
            have w1 := hi x y hx (by rw [e]; exact Int32.le_refl _)
            rw [e] at w1
            exact c3 (by rw [i_le] at w1 h2; rw [i_eq]; omega)
          · rw [i_eq] at e; rw [i_le] at q; rw [i_lt]; omega
        · rw [if_neg (by intro e; rw [e] at hlo; rw [i_lt] at hlo; rw [i_le] at h2; omega)]
-- the reference
def LoI (x : Nat → Int32) (f : Int32) (p : Nat) (v : Int32) : Prop := (v = -6 ∧ ∀ q, q < p → f < x q) ∨ (∃ i, i < p ∧ v = nI i ∧ x i ≤ f ∧ ∀ q, q < p → x q ≤ f → x q ≤ x i)
def HiI (x : Nat → Int32) (f : Int32) (p : Nat) (v : Int32) : Prop := (v = -6 ∧ ∀ q, q < p → x q < f) ∨ (∃ i, i < p ∧ v = nI i ∧ f ≤ x i ∧ ∀ q, q < p → f ≤ x q → x i ≤ x q)
theorem lt_succ_of {p : Nat} {Q : Nat → Prop} (h : ∀ q, q < p → Q q) (h2 : Q p) : ∀ q, q < p + 1 → Q q := fun q hq => by
  rcases Nat.lt_or_ge q p with w | w
  · exact h q w
  · rw [show q = p by omega]; exact h2
theorem pt_ix (i : Nat) : (18 : Int32) + 2 * nI i = nI (18 + 2 * i) := lin 18 2 i
theorem pt_iy (i : Nat) : nI (18 + 2 * i) + 1 = nI (19 + 2 * i) := by rw [nI_1]; congr 1; omega
