/-! PURE: the target of the profile: the class's points are sorted, the reference's are not -/
theorem i_le {a b : Int32} : a ≤ b ↔ a.toInt ≤ b.toInt := Int32.le_iff_toInt_le
theorem i_lt {a b : Int32} : a < b ↔ a.toInt < b.toInt := Int32.lt_iff_toInt_lt
theorem i_eq {a b : Int32} : a = b ↔ a.toInt = b.toInt := Int32.toInt_inj.symm
def Tg (Pt : Int32 → Int32 → Prop) (f v : Int32) : Prop :=
  (∃ a p, Pt a p ∧ a ≤ f ∧ (∀ x y, Pt x y → x ≤ f → x ≤ a) ∧ (∀ x y, Pt x y → x < f) ∧ v = p) ∨
  (∃ b q, Pt b q ∧ f ≤ b ∧ (∀ x y, Pt x y → f ≤ x → b ≤ x) ∧ (∀ x y, Pt x y → f < x) ∧ v = q) ∨
  (∃ a p b q, (Pt a p ∧ a ≤ f ∧ (∀ x y, Pt x y → x ≤ f → x ≤ a)) ∧ (Pt b q ∧ f ≤ b ∧ (∀ x y, Pt x y → f ≤ x → b ≤ x)) ∧ v = if a = b then p else (p * (b - f) + q * (f - a)) / (b - a))
theorem Tg.uniq {Pt : Int32 → Int32 → Prop} {f v w : Int32} (hf : ∀ x y z, Pt x y → Pt x z → y = z) (h1 : Tg Pt f v) (h2 : Tg Pt f w) : v = w := by
  have key : ∀ {a p a' p' : Int32}, (Pt a p ∧ a ≤ f ∧ (∀ x y, Pt x y → x ≤ f → x ≤ a)) → (Pt a' p' ∧ a' ≤ f ∧ (∀ x y, Pt x y → x ≤ f → x ≤ a')) → a = a' ∧ p = p' := by
    intro a p a' p' h h'
    have e1 := h.2.2 _ _ h'.1 h'.2.1
    have e2 := h'.2.2 _ _ h.1 h.2.1
    have e : a = a' := by rw [i_le] at e1 e2; rw [i_eq]; omega
    subst e
    exact ⟨rfl, hf _ _ _ h.1 h'.1⟩
  have key2 : ∀ {a p a' p' : Int32}, (Pt a p ∧ f ≤ a ∧ (∀ x y, Pt x y → f ≤ x → a ≤ x)) → (Pt a' p' ∧ f ≤ a' ∧ (∀ x y, Pt x y → f ≤ x → a' ≤ x)) → a = a' ∧ p = p' := by
    intro a p a' p' h h'
    have e1 := h.2.2 _ _ h'.1 h'.2.1
    have e2 := h'.2.2 _ _ h.1 h.2.1
    have e : a = a' := by rw [i_le] at e1 e2; rw [i_eq]; omega
    subst e
    exact ⟨rfl, hf _ _ _ h.1 h'.1⟩
  have no : ∀ {x : Int32}, x < f → f ≤ x → False := fun {x} q1 q2 => by rw [i_lt] at q1; rw [i_le] at q2; omega
  have no2 : ∀ {x : Int32}, f < x → x ≤ f → False := fun {x} q1 q2 => by rw [i_lt] at q1; rw [i_le] at q2; omega
  rcases h1 with ⟨a, p, h11, h12, h13, h14, rfl⟩ | ⟨b, q, h11, h12, h13, h14, rfl⟩ | ⟨a, p, b, q, hA, hB, rfl⟩ <;> rcases h2 with ⟨a', p', g11, g12, g13, g14, rfl⟩ | ⟨b', q', g11, g12, g13, g14, rfl⟩ | ⟨a', p', b', q', gA, gB, rfl⟩
  · exact (key ⟨h11, h12, h13⟩ ⟨g11, g12, g13⟩).2
  · exact (no (h14 _ _ g11) g12).elim
  · exact (no (h14 _ _ gB.1) gB.2.1).elim
  · exact (no2 (h14 _ _ g11) g12).elim
  · exact (key2 ⟨h11, h12, h13⟩ ⟨g11, g12, g13⟩).2
  · exact (no2 (h14 _ _ gA.1) gA.2.1).elim
  · exact (no (g14 _ _ hB.1) hB.2.1).elim
  · exact (no2 (g14 _ _ hA.1) hA.2.1).elim
  · obtain ⟨rfl, rfl⟩ := key hA gA
    obtain ⟨rfl, rfl⟩ := key2 hB gB
    rfl
theorem Tg.cong {Pt Pt' : Int32 → Int32 → Prop} {f v : Int32} (h : ∀ x y, Pt x y ↔ Pt' x y) (ht : Tg Pt f v) : Tg Pt' f v := by
  have e : Pt = Pt' := funext fun x => funext fun y => propext (h x y)
  rw [← e]; exact ht
def PtR (r : Nat → Int32) (x y : Int32) : Prop := ∃ p, p < Pn r ∧ r (18 + 2 * p) = x ∧ r (19 + 2 * p) = y
def PtA (X Y : Nat → Int32) (P : Nat) (x y : Int32) : Prop := ∃ j, j < P ∧ X j = x ∧ Y j = y
theorem PRel.pts {M : MM} {b : Nat} {r : Nat → Int32} (h : PRel M b r) (x y : Int32) : PtA (M (b + 4)) (M (b + 5)) (Pn r) x y ↔ PtR r x y := by
  obtain ⟨h0, h1, h2, h3⟩ := h
  constructor
  · rintro ⟨j, hj, rfl, rfl⟩
    obtain ⟨p, hp, e1, e2⟩ := h3 j hj
    exact ⟨p, hp, e1.symm, e2.symm⟩
  · rintro ⟨p, hp, rfl, rfl⟩
    obtain ⟨j, hj, e1, e2⟩ := h2 p hp
    exact ⟨j, hj, e1, e2⟩
theorem PtA.fn {X Y : Nat → Int32} {P : Nat} (hs : ∀ j k, j < k → k < P → X j < X k) (x y z : Int32) (h1 : PtA X Y P x y) (h2 : PtA X Y P x z) : y = z := by
  obtain ⟨j, hj, rfl, rfl⟩ := h1
  obtain ⟨k, hk, e, rfl⟩ := h2
  rcases Nat.lt_trichotomy j k with q | q | q
  · have := hs j k q hk; rw [e, i_lt] at this; omega
  · rw [q]
  · have := hs k j q hj; rw [e, i_lt] at this; omega
-- the class
theorem place_loop {a P : Nat} {M : MM} {f : Int32} (hP : M a 2 = nI P) (h8 : P ≤ 8) : ∀ (d j k : Nat), j + d = P → d < k → (∀ i, i < j → M (a + 1) i < f) → ∃ p, p ≤ P ∧ (∀ i, i < p → M (a + 1) i < f) ∧ (p < P → f ≤ M (a + 1) p) ∧ f_X3_placeOf_2 a M k f (nI j) = some (nI p) := by
  intro d
  induction d with
  | zero =>
    intro j k h1 h2 h3
    obtain ⟨k, rfl⟩ : ∃ k', k = k' + 1 := ⟨k - 1, by omega⟩
    refine ⟨j, by omega, h3, by omega, ?_⟩
    unfold f_X3_placeOf_2 f_X3_placeOf_26
    rw [hP, if_pos ((le_nI (by omega) (by omega)).mpr (by omega))]
  | succ d ih =>
    intro j k h1 h2 h3
    obtain ⟨k, rfl⟩ : ∃ k', k = k' + 1 := ⟨k - 1, by omega⟩
    unfold f_X3_placeOf_2 f_X3_placeOf_26
    rw [hP, if_neg (by rw [le_nI (by omega) (by omega)]; omega), gd_of (inb_nI (by omega) (by omega)), ix_nI (by omega)]
    by_cases q : f ≤ M (a + 1) j
    · refine ⟨j, by omega, h3, fun _ => q, ?_⟩
      rw [if_pos q]
    · rw [if_neg q, nI_1]
      refine ih (j + 1) k (by omega) (by omega) (fun i hi => ?_)
      rcases Nat.lt_or_ge i j with w | w
      · exact h3 i w
      · rw [show i = j by omega]; exact nle_lt.mp q
theorem place_ok {a P : Nat} {M : MM} {f : Int32} (hP : M a 2 = nI P) (h8 : P ≤ 8) : ∃ p, p ≤ P ∧ (∀ i, i < p → M (a + 1) i < f) ∧ (p < P → f ≤ M (a + 1) p) ∧ f_X3_placeOf a f M = some (nI p) := by
  unfold f_X3_placeOf
  exact place_loop hP h8 P 0 FU (by omega) (by unfold FU; omega) (fun i hi => by omega)
theorem apart_eq {a b f : Int32} (ha : Sm a 2000) (hb : Sm b 2000) (hf : Sm f 2000) : (f - a) + (b - f) = b - a ∧ (b - a).toInt = b.toInt - a.toInt := by
  obtain ⟨a1, a2⟩ := ha
  obtain ⟨b1, b2⟩ := hb
  obtain ⟨f1, f2⟩ := hf
  have e1 := sub32 (a := f) (b := a) (by omega) (by omega)
  have e2 := sub32 (a := b) (b := f) (by omega) (by omega)
  have e3 := sub32 (a := b) (b := a) (by omega) (by omega)
  have e4 := add32 (a := f - a) (b := b - f) (by omega) (by omega)
  exact ⟨by rw [i_eq]; omega, e3⟩
theorem tgtA_ok {a P : Nat} {M : MM} {f : Int32} (hP : M a 2 = nI P) (h8 : P ≤ 8) (h0 : 0 < P) (hs : ∀ j k, j < k → k < P → M (a + 1) j < M (a + 1) k) (hb : ∀ j, j < P → Sm (M (a + 1) j) 2000) (hf : Sm f 2000) : ∃ v, f_X3_targetAt a f M = some v ∧ Tg (PtA (M (a + 1)) (M (a + 2)) P) f v := by
  obtain ⟨p, hp, h1, h2, h3⟩ := place_ok (f := f) hP h8
  unfold f_X3_targetAt f_X3_targetAt_50 f_X3_between f_X3_between_59
  rw [hP, if_neg (nI_ne0 h0 (by omega)), h3, Option.bind_some]
  have le_of : ∀ i j, i ≤ j → j < P → M (a + 1) i ≤ M (a + 1) j := fun i j q1 q2 => by
    rcases Nat.eq_or_lt_of_le q1 with e | e
    · rw [e]; exact Int32.le_refl _
    · have := hs i j e q2; rw [i_lt] at this; rw [i_le]; omega
  by_cases c1 : p = P
  · subst c1
    rw [if_pos rfl, show (1 : Int32) = nI 1 from rfl, sub_nI h0, gd_of (inb_nI (by omega) (by omega)), ix_nI (by omega)]
    refine ⟨_, rfl, Or.inl ⟨M (a + 1) (p - 1), M (a + 2) (p - 1), ⟨p - 1, by omega, rfl, rfl⟩, ?_, ?_, ?_, rfl⟩⟩
    · have := h1 (p - 1) (by omega); rw [i_lt] at this; rw [i_le]; omega
    · rintro x y ⟨j, hj, rfl, rfl⟩ _
      exact le_of j (p - 1) (by omega) (by omega)
    · rintro x y ⟨j, hj, rfl, rfl⟩
      exact h1 j hj
  · have hpP : p < P := by omega
    have h2 := h2 hpP
    have e1 : ¬ nI p = nI P := by rw [eq_nI (by omega) (by omega)]; exact c1
    rw [if_neg e1]
    have gp : inb (nI p) 8 = true := inb_nI (by omega) (by omega)
    have hi : ∀ x y, PtA (M (a + 1)) (M (a + 2)) P x y → f ≤ x → M (a + 1) p ≤ x := by
      rintro x y ⟨j, hj, rfl, rfl⟩ q
      rcases Nat.lt_or_ge j p with w | w
      · have := h1 j w; rw [i_lt] at this; rw [i_le] at q; omega
      · exact le_of p j w hj
    by_cases c2 : p = 0
    · subst c2
      rw [if_pos nI_0, gd_of gp, ix_nI (by omega)]
      by_cases c3 : M (a + 1) 0 = f
      · refine ⟨_, rfl, Or.inr (Or.inr ⟨M (a + 1) 0, M (a + 2) 0, M (a + 1) 0, M (a + 2) 0, ⟨⟨0, h0, rfl, rfl⟩, by rw [c3]; exact Int32.le_refl _, ?_⟩, ⟨⟨0, h0, rfl, rfl⟩, h2, hi⟩, ?_⟩)⟩
        · intro x y _ q; rw [c3]; exact q
        · rw [if_pos rfl]
      · refine ⟨_, rfl, Or.inr (Or.inl ⟨M (a + 1) 0, M (a + 2) 0, ⟨0, h0, rfl, rfl⟩, h2, hi, ?_, rfl⟩)⟩
        rintro x y ⟨j, hj, rfl, rfl⟩
        have q1 := le_of 0 j (by omega) hj
        rw [i_le] at q1 h2
        rw [i_eq] at c3
        rw [i_lt]
        omega
    · have e2 : ¬ nI p = 0 := nI_ne0 (by omega) (by omega)
      rw [if_neg e2, gd_of gp, ix_nI (by omega)]
      have lo : ∀ x y, PtA (M (a + 1)) (M (a + 2)) P x y → x < f → x ≤ M (a + 1) (p - 1) := by
        rintro x y ⟨j, hj, rfl, rfl⟩ q
        rcases Nat.lt_or_ge j p with w | w
        · exact le_of j (p - 1) (by omega) (by omega)
        · have := le_of p j w hj
          rw [i_le] at this h2; rw [i_lt] at q; omega
      by_cases c3 : M (a + 1) p = f
      · rw [if_pos c3, gd_of gp]
        refine ⟨_, rfl, Or.inr (Or.inr ⟨M (a + 1) p, M (a + 2) p, M (a + 1) p, M (a + 2) p, ⟨⟨p, hpP, rfl, rfl⟩, by rw [c3]; exact Int32.le_refl _, ?_⟩, ⟨⟨p, hpP, rfl, rfl⟩, h2, hi⟩, ?_⟩)⟩
        · intro x y _ q; rw [c3]; exact q
        · rw [if_pos rfl]
      · have hlo := h1 (p - 1) (by omega)
        have ap := apart_eq (hb (p - 1) (by omega)) (hb p hpP) hf
        have hpos : ¬ M (a + 1) p - M (a + 1) (p - 1) ≤ 0 := by
          rw [i_lt] at hlo
          rw [i_le] at h2
          rw [i_le, ap.2]
          have : (0 : Int32).toInt = 0 := by decide
          omega
        have hne : ¬ M (a + 1) p - M (a + 1) (p - 1) = 0 := fun e => hpos (by rw [e]; exact Int32.le_refl _)
        rw [if_neg c3, show (1 : Int32) = nI 1 from rfl, sub_nI (by omega), gd_of (inb_nI (by omega) (by omega)), gd_of gp, ix_nI (by omega), ap.1, if_neg hpos, gd_of (inb_nI (by omega) (by omega)), gd_of gp, gd_of (nz_of hne)]
        refine ⟨_, rfl, Or.inr (Or.inr ⟨M (a + 1) (p - 1), M (a + 2) (p - 1), M (a + 1) p, M (a + 2) p, ⟨⟨p - 1, by omega, rfl, rfl⟩, by rw [i_lt] at hlo; rw [i_le]; omega, ?_⟩, ⟨⟨p, hpP, rfl, rfl⟩, h2, hi⟩, ?_⟩)⟩
        · intro x y hx q
          refine lo x y hx ?_
          by_cases e : x = f
          · exfalso
            have w1 := hi x y hx (by rw [e]; exact Int32.le_refl _)
            rw [e] at w1
            exact c3 (by rw [i_le] at w1 h2; rw [i_eq]; omega)
          · rw [i_eq] at e; rw [i_le] at q; rw [i_lt]; omega
        · rw [if_neg (by intro e; rw [e] at hlo; rw [i_lt] at hlo; rw [i_le] at h2; omega)]

-- the reference
def LoI (x : Nat → Int32) (f : Int32) (p : Nat) (v : Int32) : Prop := (v = -6 ∧ ∀ q, q < p → f < x q) ∨ (∃ i, i < p ∧ v = nI i ∧ x i ≤ f ∧ ∀ q, q < p → x q ≤ f → x q ≤ x i)
def HiI (x : Nat → Int32) (f : Int32) (p : Nat) (v : Int32) : Prop := (v = -6 ∧ ∀ q, q < p → x q < f) ∨ (∃ i, i < p ∧ v = nI i ∧ f ≤ x i ∧ ∀ q, q < p → f ≤ x q → x i ≤ x q)
theorem lt_succ_of {p : Nat} {Q : Nat → Prop} (h : ∀ q, q < p → Q q) (h2 : Q p) : ∀ q, q < p + 1 → Q q := fun q hq => by
  rcases Nat.lt_or_ge q p with w | w
  · exact h q w
  · rw [show q = p by omega]; exact h2
theorem pt_ix (i : Nat) : (18 : Int32) + 2 * nI i = nI (18 + 2 * i) := lin 18 2 i
theorem pt_iy (i : Nat) : nI (18 + 2 * i) + 1 = nI (19 + 2 * i) := by rw [nI_1]; congr 1; omega
theorem tgtM_step {P : Nat} {M : MM} {f x2 x3 : Int32} {j k : Nat} (hP : M 658 4 = nI P) (h8 : P ≤ 8) (hj : j < P) (hl : LoI (fun q => M 658 (18 + 2 * q)) f j x2) (hh : HiI (fun q => M 658 (18 + 2 * q)) f j x3) : ∃ x2' x3', LoI (fun q => M 658 (18 + 2 * q)) f (j + 1) x2' ∧ HiI (fun q => M 658 (18 + 2 * q)) f (j + 1) x3' ∧ f_X7_targetOf_9 657 M (k + 1) f x2 x3 (nI j) = f_X7_targetOf_9 657 M k f x2' x3' (nI (j + 1)) := by
  -- the upper half, for any lower one
  have up : ∀ s0, ∃ x3', HiI (fun q => M 658 (18 + 2 * q)) f (j + 1) x3' ∧ f_X7_targetOf_68 657 M (fun u0 u1 u2 u3 => f_X7_targetOf_9 657 M k u0 u1 u2 u3) f x3 (nI j) (M 658 (18 + 2 * j)) s0 = f_X7_targetOf_9 657 M k f s0 x3' (nI (j + 1)) := by
    intro s0
    unfold f_X7_targetOf_68 f_X7_targetOf_102 f_X7_targetOf_97 f_X7_targetOf_103
    rw [nI_1]
    by_cases q : M 658 (18 + 2 * j) < f
    · refine ⟨x3, ?_, by rw [if_pos q]⟩
      rcases hh with ⟨h1, h2⟩ | ⟨i, h1, h2, h3, h4⟩
      · exact Or.inl ⟨h1, lt_succ_of h2 q⟩
      · exact Or.inr ⟨i, by omega, h2, h3, lt_succ_of h4 (fun w => absurd q (nlt_le.mpr w))⟩
    · have q' := nlt_le.mp q
      rw [if_neg q]
      rcases hh with ⟨h1, h2⟩ | ⟨i, h1, h2, h3, h4⟩
      · refine ⟨nI j, Or.inr ⟨j, by omega, rfl, q', lt_succ_of (fun w hw e => absurd (h2 w hw) (nlt_le.mpr e)) (fun _ => Int32.le_refl _)⟩, by rw [if_pos h1]⟩
      · rw [h2, if_neg (ne6_nI (by omega)), pt_ix, gd_of (inb_nI (by omega) (by omega)), ix_nI (by omega)]
        show ∃ x3', _ ∧ (if M 658 (18 + 2 * i) ≤ M 658 (18 + 2 * j) then _ else _) = _
        by_cases w : M 658 (18 + 2 * i) ≤ M 658 (18 + 2 * j)
        · exact ⟨nI i, Or.inr ⟨i, by omega, rfl, h3, lt_succ_of h4 (fun _ => w)⟩, by rw [if_pos w]⟩
        · refine ⟨nI j, Or.inr ⟨j, by omega, rfl, q', lt_succ_of (fun z hz e => ?_) (fun _ => Int32.le_refl _)⟩, by rw [if_neg w]⟩
          have := h4 z hz e
          have w := nle_lt.mp w
          simp only [i_le, i_lt] at this w ⊢
          omega
  rw [f_X7_targetOf_9.eq_2]
  unfold f_X7_targetOf_67 f_X7_targetOf_62
  rw [show (4 : Int32) = nI 4 from rfl, gd_of (inb_nI (by omega) (by omega)), ix_nI (by omega)]
  show ∃ x2' x3', _ ∧ _ ∧ (if M 658 4 ≤ nI j then _ else _) = _
  rw [hP, if_neg (by rw [le_nI (by omega) (by omega)]; omega), pt_ix, gd_of (inb_nI (by omega) (by omega)), ix_nI (by omega)]
  show ∃ x2' x3', _ ∧ _ ∧ (if f < M 658 (18 + 2 * j) then f_X7_targetOf_68 657 M _ f x3 (nI j) (M 658 (18 + 2 * j)) x2 else _) = _
  by_cases q : f < M 658 (18 + 2 * j)
  · obtain ⟨x3', g1, g2⟩ := up x2
    refine ⟨x2, x3', ?_, g1, by rw [if_pos q]; exact g2⟩
    rcases hl with ⟨h1, h2⟩ | ⟨i, h1, h2, h3, h4⟩
    · exact Or.inl ⟨h1, lt_succ_of h2 q⟩
    · exact Or.inr ⟨i, by omega, h2, h3, lt_succ_of h4 (fun w => absurd q (nlt_le.mpr w))⟩
  · have q' := nlt_le.mp q
    rw [if_neg q]
    rcases hl with ⟨h1, h2⟩ | ⟨i, h1, h2, h3, h4⟩
    · obtain ⟨x3', g1, g2⟩ := up (nI j)
      exact ⟨nI j, x3', Or.inr ⟨j, by omega, rfl, q', lt_succ_of (fun w hw e => absurd (h2 w hw) (nlt_le.mpr e)) (fun _ => Int32.le_refl _)⟩, g1, by rw [if_pos h1]; exact g2⟩
    · rw [h2, if_neg (ne6_nI (by omega)), pt_ix, gd_of (inb_nI (by omega) (by omega)), ix_nI (by omega)]
      show ∃ x2' x3', _ ∧ _ ∧ (if M 658 (18 + 2 * j) ≤ M 658 (18 + 2 * i) then f_X7_targetOf_68 657 M _ f x3 (nI j) (M 658 (18 + 2 * j)) (nI i) else f_X7_targetOf_68 657 M _ f x3 (nI j) (M 658 (18 + 2 * j)) (nI j)) = _
      by_cases w : M 658 (18 + 2 * j) ≤ M 658 (18 + 2 * i)
      · obtain ⟨x3', g1, g2⟩ := up (nI i)
        exact ⟨nI i, x3', Or.inr ⟨i, by omega, rfl, h3, lt_succ_of h4 (fun _ => w)⟩, g1, by rw [if_pos w]; exact g2⟩
      · obtain ⟨x3', g1, g2⟩ := up (nI j)
        refine ⟨nI j, x3', Or.inr ⟨j, by omega, rfl, q', lt_succ_of (fun z hz e => ?_) (fun _ => Int32.le_refl _)⟩, g1, by rw [if_neg w]; exact g2⟩
        have := h4 z hz e
        have w := nle_lt.mp w
        simp only [i_le, i_lt] at this w ⊢
        omega
theorem tgtM_loop {P : Nat} {M : MM} {f : Int32} (hP : M 658 4 = nI P) (h8 : P ≤ 8) : ∀ (d j k : Nat) (x2 x3 : Int32), j + d = P → d < k → LoI (fun q => M 658 (18 + 2 * q)) f j x2 → HiI (fun q => M 658 (18 + 2 * q)) f j x3 → ∃ x2' x3' k', LoI (fun q => M 658 (18 + 2 * q)) f P x2' ∧ HiI (fun q => M 658 (18 + 2 * q)) f P x3' ∧ f_X7_targetOf_9 657 M k f x2 x3 (nI j) = f_X7_targetOf_9 657 M (k' + 1) f x2' x3' (nI P) := by
  intro d
  induction d with
  | zero =>
    intro j k x2 x3 h1 h2 hl hh
    have e : j = P := by omega
    subst e
    exact ⟨x2, x3, k - 1, hl, hh, by rw [show k - 1 + 1 = k by omega]⟩
  | succ d ih =>
    intro j k x2 x3 h1 h2 hl hh
    obtain ⟨k, rfl⟩ : ∃ k', k = k' + 1 := ⟨k - 1, by omega⟩
    obtain ⟨a, b, h3, h4, h5⟩ := tgtM_step (k := k) hP h8 (by omega) hl hh
    obtain ⟨a', b', k', h6, h7, h8'⟩ := ih (j + 1) k a b (by omega) (by omega) h3 h4
    exact ⟨a', b', k', h6, h7, h5.trans h8'⟩
theorem tgtM_ok {P : Nat} {M : MM} {f : Int32} (hP : M 658 4 = nI P) (h8 : P ≤ 8) (h0 : 0 < P) (hb : ∀ j, j < P → Sm (M 658 (18 + 2 * j)) 2000) (hf : Sm f 2000) : ∃ v, f_X7_targetOf 657 f M = some v ∧ Tg (PtR (M 658)) f v := by
  have hPn : Pn (M 658) = P := by unfold Pn; rw [hP, ix_nI (by omega)]
  unfold f_X7_targetOf
  obtain ⟨x2, x3, k', hl, hh, e⟩ := tgtM_loop (f := f) hP h8 P 0 FU (-6) (-6) (by omega) (by unfold FU; omega) (Or.inl ⟨rfl, fun q hq => by omega⟩) (Or.inl ⟨rfl, fun q hq => by omega⟩)
  rw [show (0 : Int32) = nI 0 from rfl, e]
  have pt : ∀ i, i < P → PtR (M 658) (M 658 (18 + 2 * i)) (M 658 (19 + 2 * i)) := fun i hi => ⟨i, by rw [hPn]; exact hi, rfl, rfl⟩
  unfold f_X7_targetOf_9 f_X7_targetOf_122 f_X7_targetOf_140 f_X7_targetOf_235
  rw [show (4 : Int32) = nI 4 from rfl, gd_of (inb_nI (by omega) (by omega)), ix_nI (by omega)]
  show ∃ v, (if M 658 4 ≤ nI P then _ else _) = some v ∧ _
  rw [hP, if_pos ((le_nI (by omega) (by omega)).mpr (by omega))]
  rcases hl with ⟨rfl, hl⟩ | ⟨i, hi, rfl, l1, l2⟩
  · rw [if_pos rfl, if_pos rfl]
    rcases hh with ⟨rfl, hh⟩ | ⟨i, hi, rfl, l1, l2⟩
    · exfalso
      have a1 := hl 0 h0
      have a2 := hh 0 h0
      rw [i_lt] at a1 a2
      omega
    · rw [pt_ix, pt_iy, gd_of (inb_nI (by omega) (by omega)), ix_nI (by omega)]
      refine ⟨_, rfl, Or.inr (Or.inl ⟨_, _, pt i hi, l1, ?_, ?_, rfl⟩)⟩
      · rintro x y ⟨q, hq, rfl, rfl⟩ w
        exact l2 q (by omega) w
      · rintro x y ⟨q, hq, rfl, rfl⟩
        exact hl q (by omega)
  · rw [if_neg (ne6_nI (by omega)), if_neg (ne6_nI (by omega))]
    have LO : PtR (M 658) (M 658 (18 + 2 * i)) (M 658 (19 + 2 * i)) ∧ M 658 (18 + 2 * i) ≤ f ∧ ∀ x y, PtR (M 658) x y → x ≤ f → x ≤ M 658 (18 + 2 * i) := by
      refine ⟨pt i hi, l1, ?_⟩
      rintro x y ⟨q, hq, rfl, rfl⟩ w
      exact l2 q (by omega) w
    rcases hh with ⟨rfl, hh⟩ | ⟨i', hi', rfl, m1, m2⟩
    · rw [if_pos rfl, pt_ix, pt_iy, gd_of (inb_nI (by omega) (by omega)), ix_nI (by omega)]
      refine ⟨_, rfl, Or.inl ⟨_, _, LO.1, LO.2.1, LO.2.2, ?_, rfl⟩⟩
      rintro x y ⟨q, hq, rfl, rfl⟩
      exact hh q (by omega)
    · rw [if_neg (ne6_nI (by omega)), pt_ix, pt_ix, pt_iy, pt_iy, gd_of (inb_nI (by omega) (by omega)), gd_of (inb_nI (by omega) (by omega)), gd_of (inb_nI (by omega) (by omega)), gd_of (inb_nI (by omega) (by omega)), ix_nI (by omega), ix_nI (by omega), ix_nI (by omega), ix_nI (by omega)]
      have HI : PtR (M 658) (M 658 (18 + 2 * i')) (M 658 (19 + 2 * i')) ∧ f ≤ M 658 (18 + 2 * i') ∧ ∀ x y, PtR (M 658) x y → f ≤ x → M 658 (18 + 2 * i') ≤ x := by
        refine ⟨pt i' hi', m1, ?_⟩
        rintro x y ⟨q, hq, rfl, rfl⟩ w
        exact m2 q (by omega) w
      show ∃ v, (if M 658 (18 + 2 * i) = M 658 (18 + 2 * i') then some (M 658 (19 + 2 * i)) else gd (nz (M 658 (18 + 2 * i') - M 658 (18 + 2 * i))) (some ((M 658 (19 + 2 * i) * (M 658 (18 + 2 * i') - f) + M 658 (19 + 2 * i') * (f - M 658 (18 + 2 * i))) / (M 658 (18 + 2 * i') - M 658 (18 + 2 * i))))) = some v ∧ _
      by_cases c : M 658 (18 + 2 * i) = M 658 (18 + 2 * i')
      · rw [if_pos c]
        exact ⟨_, rfl, Or.inr (Or.inr ⟨_, _, _, _, LO, HI, by rw [if_pos c]⟩)⟩
      · have ap := apart_eq (hb i hi) (hb i' hi') hf
        have hne : ¬ M 658 (18 + 2 * i') - M 658 (18 + 2 * i) = 0 := fun e => by
          rw [e] at ap
          have : (0 : Int32).toInt = 0 := by decide
          rw [i_eq] at c
          omega
        rw [if_neg c, gd_of (nz_of hne)]
        exact ⟨_, rfl, Or.inr (Or.inr ⟨_, _, _, _, LO, HI, by rw [if_neg c]⟩)⟩
/-- both sides, of one profile -/
theorem tgt_both {M M' : MM} {b P : Nat} {f : Int32} (h : PRel M b (M' 658)) (hP : M' 658 4 = nI P) (h8 : P ≤ 8) (h0 : 0 < P) (hc : M (b + 3) 2 = nI P) (hb : ∀ j, j < P → Sm (M' 658 (18 + 2 * j)) 2000) (hf : Sm f 2000) : ∃ v, f_X3_targetAt (b + 3) f M = some v ∧ f_X7_targetOf 657 f M' = some v := by
  have hPn : Pn (M' 658) = P := by unfold Pn; rw [hP, ix_nI (by omega)]
  have hs := h.2.1
  have hp := h.pts
  rw [hPn] at hs hp
  have hb2 : ∀ j, j < P → Sm (M (b + 3 + 1) j) 2000 := fun j hj => by
    obtain ⟨p, q1, q2, -⟩ := h.2.2.2 j (by rw [hPn]; exact hj)
    rw [hPn] at q1
    show Sm (M (b + 4) j) 2000
    rw [q2]
    exact hb p q1
  obtain ⟨v, e1, t1⟩ := tgtA_ok (a := b + 3) hc h8 h0 hs hb2 hf
  obtain ⟨w, e2, t2⟩ := tgtM_ok (f := f) hP h8 h0 hb hf
  have t1' : Tg (PtR (M' 658)) f v := Tg.cong hp t1
  have hfn : ∀ x y z, PtR (M' 658) x y → PtR (M' 658) x z → y = z := fun x y z q1 q2 => PtA.fn hs x y z ((hp x y).mpr q1) ((hp x z).mpr q2)
  have e := Tg.uniq hfn t1' t2
  subst e
  exact ⟨v, e1, e2⟩
