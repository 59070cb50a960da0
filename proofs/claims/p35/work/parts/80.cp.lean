/-! PURE: the class alone: present row r, history H, slots S; note, keep, undo, save, restore -/
def CPh (M : MM) (H : Nat → Nat → Int32) (nt kp : Nat) : Prop := nt < 6 ∧ M 651 1 = nI nt ∧ M 651 2 = nI kp ∧ kp ≤ 5 ∧ ∀ i, 1 ≤ i → i ≤ kp → Rep M (260 + 65 * ((nt + 5 - (kp - i)) % 6)) (H i) ∧ WFr (H i)
def CPs (M : MM) (S : Nat → Nat → Int32) (fl : Nat → Int32) : Prop := ∀ x, x < 2 → M 654 x = fl x ∧ (nz (fl x) = true → Rep M (130 + 65 * x) (S x) ∧ WFr (S x))
def CP (M : MM) (r : Nat → Int32) (kp : Nat) (H S : Nat → Nat → Int32) (fl : Nat → Int32) (n : Nat) (tx : Nat → Int32) : Prop := (Rep M 0 r ∧ WFr r) ∧ (∃ nt, CPh M H nt kp) ∧ CPs M S fl ∧ CT M n tx
def hsS (H : Nat → Nat → Int32) (kp : Nat) (r : Nat → Int32) : Nat → Nat → Int32 := fun i => if i = kp1 kp then r else if kp = 5 then H (i + 1) else H i
theorem hsS_top {H : Nat → Nat → Int32} {kp : Nat} {r : Nat → Int32} : hsS H kp r (kp1 kp) = r := by unfold hsS; rw [if_pos rfl]
theorem CP.kp5 {M : MM} {r : Nat → Int32} {kp n : Nat} {H S : Nat → Nat → Int32} {fl tx : Nat → Int32} (h : CP M r kp H S fl n tx) : kp ≤ 5 := by
  obtain ⟨-, ⟨nt, hh⟩, -⟩ := h
  exact hh.2.2.2.1
theorem CPs.mono {M M' : MM} {S : Nat → Nat → Int32} {fl : Nat → Int32} (h : CPs M S fl) (e : ∀ q, 130 ≤ q → q < 260 → M' q = M q) (e2 : M' 654 = M 654) : CPs M' S fl := by
  intro x hx
  refine ⟨by rw [e2]; exact (h x hx).1, fun hz => ?_⟩
  obtain ⟨a, b⟩ := (h x hx).2 hz
  exact ⟨a.congr (fun o ho => e _ (by omega) (by omega)), b⟩
theorem CPh.mono {M M' : MM} {H : Nat → Nat → Int32} {nt kp : Nat} (h : CPh M H nt kp) (e : ∀ q, 260 ≤ q → q < 652 → M' q = M q) : CPh M' H nt kp := by
  obtain ⟨a, b, c, d, f⟩ := h
  exact ⟨a, by rw [e 651 (by omega) (by omega)]; exact b, by rw [e 651 (by omega) (by omega)]; exact c, d, fun i h1 h2 => ⟨(f i h1 h2).1.congr (fun o ho => e _ (by omega) (by omega)), (f i h1 h2).2⟩⟩
theorem CP.fr0 {M M' : MM} {r r' : Nat → Int32} {kp n : Nat} {H S : Nat → Nat → Int32} {fl tx : Nat → Int32} (h : CP M r kp H S fl n tx) (R' : Rep M' 0 r') (w' : WFr r') (e : Fr 0 M M') : CP M' r' kp H S fl n tx := by
  obtain ⟨-, ⟨nt, c⟩, d, f⟩ := h
  exact ⟨⟨R', w'⟩, ⟨nt, c.mono (fun q _ _ => e q (by omega))⟩, d.mono (fun q _ _ => e q (by omega)) (e _ (by omega)), f.mono (by rw [e 655 (by omega)]) (e _ (by omega))⟩
theorem CP.fr65 {M M' : MM} {r : Nat → Int32} {kp n : Nat} {H S : Nat → Nat → Int32} {fl tx : Nat → Int32} (h : CP M r kp H S fl n tx) (e : Fr 65 M M') : CP M' r kp H S fl n tx := by
  obtain ⟨⟨a, b⟩, ⟨nt, c⟩, d, f⟩ := h
  exact ⟨⟨a.congr (fun o ho => e _ (by omega)), b⟩, ⟨nt, c.mono (fun q _ _ => e q (by omega))⟩, d.mono (fun q _ _ => e q (by omega)) (e _ (by omega)), f.mono (by rw [e 655 (by omega)]) (e _ (by omega))⟩
theorem CP.txt {M M' : MM} {r : Nat → Int32} {kp n n' : Nat} {H S : Nat → Nat → Int32} {fl tx tx' : Nat → Int32} (h : CP M r kp H S fl n tx) (e : ∀ q, q < 655 → M' q = M q) (ht : CT M' n' tx') : CP M' r kp H S fl n' tx' := by
  obtain ⟨⟨a, b⟩, ⟨nt, c⟩, d, f⟩ := h
  exact ⟨⟨a.congr (fun o ho => e _ (by omega)), b⟩, ⟨nt, c.mono (fun q _ _ => e q (by omega))⟩, d.mono (fun q _ _ => e q (by omega)) (e _ (by omega)), ht⟩
theorem noteP {M : MM} {r : Nat → Int32} {kp n : Nat} {H S : Nat → Nat → Int32} {fl tx : Nat → Int32} (h : CP M r kp H S fl n tx) : ∃ M' nt, f_X1_note 651 0 M = some M' ∧ CP M' r kp H S fl n tx ∧ CPh M' H nt kp ∧ Rep M' (260 + 65 * nt) r := by
  obtain ⟨⟨a, C, L, P, s, ln, nn, hw⟩, ⟨nt, h1, h2, h3, h4, h5⟩, d, f⟩ := h
  obtain ⟨M', e, r', fr⟩ := copyC (b' := 260 + 65 * nt) (by omega) a hw
  have hh : CPh M' H nt kp := ⟨h1, by rw [fr 651 (by omega)]; exact h2, by rw [fr 651 (by omega)]; exact h3, h4, fun i q1 q2 => ⟨(h5 i q1 q2).1.congr (fun o ho => fr _ (by omega)), (h5 i q1 q2).2⟩⟩
  refine ⟨M', nt, ?_, ⟨⟨a.congr (fun o ho => fr _ (by omega)), C, L, P, s, ln, nn, hw⟩, ⟨nt, hh⟩, d.mono (fun q _ _ => fr q (by omega)) (fr _ (by omega)), f.mono (by rw [fr _ (by omega)]) (fr _ (by omega))⟩, hh, r'⟩
  unfold f_X1_note
  rw [h2, gd_of (inb_nI (by omega) (by omega)), if_pos (by decide), ix_nI (by omega), e, Option.bind_some]
theorem keepP {M1 M2 : MM} {r r' : Nat → Int32} {nt kp n : Nat} {H S : Nat → Nat → Int32} {fl tx : Nat → Int32} {v : Int32} (c1 : CP M1 r kp H S fl n tx) (h1 : CPh M1 H nt kp) (n1 : Rep M1 (260 + 65 * nt) r) (hv : ¬ v < 0) (r2 : Rep M2 0 r') (f2 : Fr 0 M1 M2) (hw : WFr r') : ∃ M3, f_X6_recorded 650 v M2 = some (v, M3) ∧ CP M3 r' (kp1 kp) (hsS H kp r) S fl n tx := by
  have hkp := h1.2.2.2.1
  have hk1 : kp1 kp ≤ 5 := by unfold kp1; split <;> omega
  unfold f_X6_recorded f_X1_keepNoted f_X6_recorded_11
  rw [if_neg hv, Option.bind_some]
  have m1 : M2 651 1 = nI nt := by rw [f2 651 (by omega)]; exact h1.2.1
  have m2 : M2 651 2 = nI kp := by rw [f2 651 (by omega)]; exact h1.2.2.1
  rw [ms_ni (show 2 ≠ 1 by omega), m1, m2, ntF nt h1.1, kpF kp (by omega)]
  have es : ∀ q, q ≠ 651 → ms (ms M2 651 1 (nI ((nt + 1) % 6))) 651 2 (nI (kp1 kp)) q = M2 q := fun q hq => by rw [ms_ne hq, ms_ne hq]
  refine ⟨ms (ms M2 651 1 (nI ((nt + 1) % 6))) 651 2 (nI (kp1 kp)), rfl, ⟨⟨r2.congr (fun o ho => es _ (by omega)), hw⟩, ⟨(nt + 1) % 6, by omega, by rw [ms_ni (by omega), ms_eq], by rw [ms_eq], hk1, fun i q1 q2 => ?_⟩, ?_, ?_⟩⟩
  · unfold hsS
    by_cases z : i = kp1 kp
    · rw [if_pos z, show ((nt + 1) % 6 + 5 - (kp1 kp - i)) % 6 = nt by have := h1.1; omega]
      exact ⟨n1.congr (fun o ho => (es _ (by have := h1.1; omega)).trans (f2 _ (by omega))), c1.1.2⟩
    · rw [if_neg z]
      by_cases y : kp = 5
      · have e5 : kp1 kp = 5 := by unfold kp1; rw [if_pos y]
        rw [if_pos y]
        obtain ⟨p1, p2⟩ := h1.2.2.2.2 (i + 1) (by omega) (by omega)
        refine ⟨?_, p2⟩
        rw [show ((nt + 1) % 6 + 5 - (kp1 kp - i)) % 6 = (nt + 5 - (kp - (i + 1))) % 6 by have := h1.1; omega]
        exact p1.congr (fun o ho => (es _ (by omega)).trans (f2 _ (by omega)))
      · have e5 : kp1 kp = kp + 1 := by unfold kp1; rw [if_neg y]
        rw [if_neg y]
        obtain ⟨p1, p2⟩ := h1.2.2.2.2 i (by omega) (by omega)
        refine ⟨?_, p2⟩
        rw [show ((nt + 1) % 6 + 5 - (kp1 kp - i)) % 6 = (nt + 5 - (kp - i)) % 6 by have := h1.1; omega]
        exact p1.congr (fun o ho => (es _ (by omega)).trans (f2 _ (by omega)))
  · exact c1.2.2.1.mono (fun q _ _ => (es q (by omega)).trans (f2 q (by omega))) ((es _ (by omega)).trans (f2 _ (by omega)))
  · exact c1.2.2.2.mono (by rw [es _ (by omega), f2 _ (by omega)]) ((es _ (by omega)).trans (f2 _ (by omega)))
theorem recP {M : MM} {r r' : Nat → Int32} {kp n : Nat} {H S : Nat → Nat → Int32} {fl tx : Nat → Int32} (h : CP M r kp H S fl n tx) {g : MM → Option (Int32 × MM)} {v : Int32} (hv : ¬ v < 0) (hg : ∀ M1, CP M1 r kp H S fl n tx → Rep M1 0 r → ∃ M2, g M1 = some (v, M2) ∧ Rep M2 0 r' ∧ Fr 0 M1 M2) (hw : WFr r') : ∃ M', (Option.bind (f_X1_note 651 0 M) fun v1 => Option.bind (g v1) fun v2 => Option.bind (f_X6_recorded 650 v2.1 v2.2) fun v3 => some (v3.1, v3.2)) = some (v, M') ∧ CP M' r' (kp1 kp) (hsS H kp r) S fl n tx := by
  obtain ⟨M1, nt, e1, c1, h1, n1⟩ := noteP h
  obtain ⟨M2, e2, r2, f2⟩ := hg M1 c1 c1.1.1
  obtain ⟨M3, e3, c3⟩ := keepP c1 h1 n1 hv r2 f2 hw
  rw [e1, Option.bind_some, e2, Option.bind_some]
  dsimp only
  rw [e3, Option.bind_some]
  exact ⟨M3, rfl, c3⟩
theorem refP {M : MM} {r r' : Nat → Int32} {kp n : Nat} {H S : Nat → Nat → Int32} {fl tx : Nat → Int32} (h : CP M r kp H S fl n tx) {g : MM → Option (Int32 × MM)} {v : Int32} (hv : v < 0) (hg : ∀ M1, CP M1 r kp H S fl n tx → Rep M1 0 r → ∃ M2, g M1 = some (v, M2) ∧ Rep M2 0 r' ∧ Fr 0 M1 M2) (hw : WFr r') : ∃ M', (Option.bind (f_X1_note 651 0 M) fun v1 => Option.bind (g v1) fun v2 => Option.bind (f_X6_recorded 650 v2.1 v2.2) fun v3 => some (v3.1, v3.2)) = some (v, M') ∧ CP M' r' kp H S fl n tx := by
  obtain ⟨M1, nt, e1, c1, h1, n1⟩ := noteP h
  obtain ⟨M2, e2, r2, f2⟩ := hg M1 c1 c1.1.1
  rw [e1, Option.bind_some, e2, Option.bind_some]
  unfold f_X6_recorded f_X6_recorded_11
  dsimp only
  rw [if_pos hv, Option.bind_some]
  exact ⟨M2, rfl, c1.fr0 r2 hw f2⟩
theorem c_undo {M : MM} {r : Nat → Int32} {kp n : Nat} {H S : Nat → Nat → Int32} {fl tx : Nat → Int32} (h : CP M r kp H S fl n tx) : (kp = 0 → f_X6_undo 650 M = some (-3, M)) ∧ (0 < kp → ∃ M1, f_X6_undo 650 M = some (nI (kp - 1), M1) ∧ CP M1 (H kp) (kp - 1) H S fl n tx) := by
  obtain ⟨⟨a, hw⟩, ⟨nt, h1, h2, h3, h4, h5⟩, d, f⟩ := id h
  unfold f_X6_undo f_X1_takeBack
  rw [h3]
  constructor
  · intro q
    subst q
    rw [if_pos (by decide), Option.bind_some]
  · intro q
    obtain ⟨p1, C, L, P, s, ln, nn, p2⟩ := h5 kp (by omega) (by omega)
    have ek : nI kp - 1 = nI (kp - 1) := by rw [show (1 : Int32) = nI 1 from rfl, sub_nI (by omega)]
    rw [show (nt + 5 - (kp - kp)) % 6 = (nt + 5) % 6 by omega] at p1
    rw [if_neg (by rw [show (0 : Int32) = nI 0 from rfl, eq_nI (by omega) (by omega)]; omega), h2, ntB nt h1, ms_ni (show 2 ≠ 1 by omega), h3, ek, ms_ni (show 1 ≠ 2 by omega), ms_eq, gd_of (inb_nI (by omega) (by omega)), if_pos (by decide), ix_nI (by omega)]
    have es : ∀ q, q ≠ 651 → ms (ms M 651 1 (nI ((nt + 5) % 6))) 651 2 (nI (kp - 1)) q = M q := fun q hq => by rw [ms_ne hq, ms_ne hq]
    obtain ⟨M1, e, r1, fr⟩ := copyC (b := 260 + 65 * ((nt + 5) % 6)) (b' := 0) (M := ms (ms M 651 1 (nI ((nt + 5) % 6))) 651 2 (nI (kp - 1))) (by omega) (p1.congr (fun o ho => es _ (by omega))) p2
    rw [e, Option.bind_some, Option.bind_some]
    have k2 : M1 651 2 = nI (kp - 1) := by rw [fr 651 (by omega), ms_eq]
    refine ⟨M1, by dsimp only; rw [k2], ⟨⟨r1, C, L, P, s, ln, nn, p2⟩, ⟨(nt + 5) % 6, by omega, by rw [fr 651 (by omega), ms_ni (by omega), ms_eq], k2, by omega, fun i q1 q2 => ?_⟩, ?_, ?_⟩⟩
    · obtain ⟨g1, g2⟩ := h5 i q1 (by omega)
      refine ⟨?_, g2⟩
      rw [show ((nt + 5) % 6 + 5 - (kp - 1 - i)) % 6 = (nt + 5 - (kp - i)) % 6 by omega]
      exact g1.congr (fun o ho => (fr _ (by omega)).trans (es _ (by omega)))
    · exact d.mono (fun q _ _ => (fr q (by omega)).trans (es q (by omega))) ((fr _ (by omega)).trans (es _ (by omega)))
    · exact f.mono (by rw [fr _ (by omega), es _ (by omega)]) ((fr _ (by omega)).trans (es _ (by omega)))
theorem c_save {M : MM} {r : Nat → Int32} {kp n : Nat} {H S : Nat → Nat → Int32} {fl tx : Nat → Int32} {x : Int32} (h : CP M r kp H S fl n tx) : (wi x 0 1 = false → f_X6_save 650 x M = some (-1, M)) ∧ (∀ j, j < 2 → x = nI j → ∃ M1, f_X6_save 650 x M = some (r 1, M1) ∧ CP M1 r kp H (fun y => if y = j then r else S y) (upd fl j 1) n tx) := by
  obtain ⟨⟨a, C, L, P, s, ln, nn, hw⟩, ⟨nt, hh⟩, d, f⟩ := id h
  unfold f_X6_save f_X6_isSlot
  rw [isWithin_ok, Option.bind_some, Option.bind_some]
  constructor
  · intro hx
    rw [hx, if_pos bz_f0]
  · rintro j hj rfl
    have hx : wi (nI j) 0 1 = true := by
      rcases (show j = 0 ∨ j = 1 by omega) with rfl | rfl <;> decide
    rw [hx, if_neg bz_t0, gd_of (inb_nI (by omega) (by omega)), if_neg (by decide), ix_nI (by omega)]
    obtain ⟨M1, e, r1, fr⟩ := copyC (b := 0) (b' := 130 + 65 * j) (by omega) a hw
    rw [e, Option.bind_some, gd_of (inb_nI (by omega) (by omega))]
    have es : ∀ q, q ≠ 654 → ms M1 654 j (bz true) q = M1 q := fun q hq => ms_ne hq
    have a1 : ∀ o, o < 65 → M1 (0 + o) = M (0 + o) := fun o ho => fr _ (by omega)
    refine ⟨ms M1 654 j (bz true), ?_, ⟨⟨a.congr (M' := ms M1 654 j (bz true)) (fun o ho => (es _ (by omega)).trans (a1 o ho)), C, L, P, s, ln, nn, hw⟩, ⟨nt, hh.mono (fun q q1 q2 => ?_)⟩, fun y hy => ⟨?_, fun hz => ?_⟩, f.mono (by rw [es _ (by omega), fr _ (by omega)]) ((es _ (by omega)).trans (fr _ (by omega)))⟩⟩
    · rw [es _ (by omega), fr 0 (by omega), show M 0 8 = r 1 from a.s.2.2.1]
    · rw [es _ (by omega), fr _ (by omega)]
    · by_cases z : y = j
      · subst z; rw [ms_eq, upd_eq]; rfl
      · rw [ms_ni z, upd_ne z, fr _ (by omega)]; exact (d y hy).1
    · by_cases z : y = j
      · subst z
        dsimp only
        rw [if_pos rfl]
        exact ⟨r1.congr (fun o ho => es _ (by omega)), C, L, P, s, ln, nn, hw⟩
      · rw [upd_ne z] at hz
        obtain ⟨p1, p2⟩ := (d y hy).2 hz
        dsimp only
        rw [if_neg z]
        exact ⟨p1.congr (fun o ho => (es _ (by omega)).trans (fr _ (by omega))), p2⟩
theorem c_restore {M : MM} {r : Nat → Int32} {kp n j : Nat} {H S : Nat → Nat → Int32} {fl tx : Nat → Int32} (h : CP M r kp H S fl n tx) (hj : j < 2) : (nz (fl j) = false → f_X6_restore 650 (nI j) M = some (-3, M)) ∧ (nz (fl j) = true → ∃ M1, f_X6_restore 650 (nI j) M = some (S j 1, M1) ∧ CP M1 (S j) (kp1 kp) (hsS H kp r) S fl n tx) := by
  obtain ⟨⟨a, C, L, P, s, ln, nn, hw⟩, ⟨nt, hh⟩, d, f⟩ := id h
  have hx : wi (nI j) 0 1 = true := by
    rcases (show j = 0 ∨ j = 1 by omega) with rfl | rfl <;> decide
  unfold f_X6_restore f_X6_isSlot
  rw [isWithin_ok, Option.bind_some, hx, Option.bind_some, if_neg bz_t0, gd_of (inb_nI (by omega) (by omega)), ix_nI (by omega), (d j hj).1]
  constructor
  · intro hz
    rw [hz, if_pos bz_f0]
  · intro hz
    rw [hz, if_neg bz_t0, if_neg (by decide)]
    obtain ⟨p1, C', L', P', s', ln', nn', p2⟩ := (d j hj).2 hz
    have hv : S j 1 = nI s' := p2.2.2.2.2.2.1.1
    have hs5 := p2.2.2.2.2.2.1.2
    obtain ⟨M1, nt', e1, c1, h1, n1⟩ := noteP h
    obtain ⟨q1, q2⟩ := (c1.2.2.1 j hj).2 hz
    obtain ⟨M2, e2, r2, f2⟩ := copyC (b := 130 + 65 * j) (b' := 0) (by omega) q1 p2
    rw [e1, Option.bind_some, gd_of (inb_nI (by omega) (by omega)), e2, Option.bind_some]
    have m8 : M2 0 8 = nI s' := r2.s.2.2.1.trans hv
    rw [m8, hv]
    obtain ⟨M3, e3, c3⟩ := keepP (v := nI s') c1 h1 n1 (ge0 (by omega)) r2 f2 ⟨C', L', P', s', ln', nn', p2⟩
    rw [e3, Option.bind_some]
    exact ⟨M3, rfl, c3⟩
