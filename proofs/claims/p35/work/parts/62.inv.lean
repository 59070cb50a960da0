/-! PURE, the class alone: by program out of the same part of whole -/
/-! PURE: what holds between the two sides at all times -/
def WFr (r : Nat → Int32) : Prop := ∃ C L P s ln nn, WF r C L P s ln nn
theorem WF.cong {r r' : Nat → Int32} {C L P s ln nn : Nat} (h : WF r C L P s ln nn) (e : ∀ k, k < 1808 → r' k = r k) : WF r' C L P s ln nn := by
  obtain ⟨hc, hl, hp, hst, ha, h1, h2, h7, h8, h9⟩ := h
  have h6 := hc.1.2
  have fe : freeEq r r' := fun k a b => e k (by omega)
  obtain ⟨p1, p2, p3, p4, p5⟩ := fe.parts ⟨hc, hl, hp, hst, ha⟩
  refine ⟨p1, p2, p3, p4, p5, ?_, ?_, ?_, ?_, ?_⟩
  · rw [e 1 (by omega)]; exact h1
  · rw [e 2 (by omega)]; exact h2
  · rw [e 7 (by omega)]; exact h7
  · rw [e 3 (by omega), e 9 (by omega), cnF_cong (ct' := ctR r') (ct := ctR r) (fun c hc => by unfold ctR; rw [e _ (by omega)])]
    exact h8
  · rw [e 3 (by omega)]; exact h9
theorem WFr.cong {r r' : Nat → Int32} (h : WFr r) (e : ∀ k, k < 1808 → r' k = r k) : WFr r' := by
  obtain ⟨C, L, P, s, ln, nn, h⟩ := h
  exact ⟨C, L, P, s, ln, nn, h.cong e⟩
def CH (M : MM) (R : Nat → Int32) (nt kp : Nat) : Prop := nt < 6 ∧ M 651 1 = nI nt ∧ M 651 2 = nI kp ∧ kp ≤ 5 ∧ ∀ i, 1 ≤ i → i ≤ kp → Rep M (260 + 65 * ((nt + 5 - (kp - i)) % 6)) (blk R i) ∧ WFr (blk R i)
def CS (M : MM) (R fl : Nat → Int32) : Prop := ∀ x, x < 2 → M 654 x = fl x ∧ (nz (fl x) = true → Rep M (130 + 65 * x) (blk R (6 + x)) ∧ WFr (blk R (6 + x)))
def CT (M : MM) (n : Nat) (tx : Nat → Int32) : Prop := M 655 1 = nI n ∧ n ≤ 80 ∧ ∀ k, k < n → M 656 k = tx k ∧ 32 ≤ (tx k).toInt ∧ (tx k).toInt ≤ 126
def CI (M : MM) (R : Nat → Int32) (kp n : Nat) (tx fl : Nat → Int32) : Prop := (Rep M 0 R ∧ WFr R) ∧ (∃ nt, CH M R nt kp) ∧ CS M R fl ∧ CT M n tx
def MI (M : MM) (R : Nat → Int32) (kp n : Nat) (tx fl : Nat → Int32) : Prop := M 658 = R ∧ M 657 1 = nI kp ∧ M 657 4 = nI n ∧ (∀ k, k < n → M 660 k = tx k) ∧ ∀ x, x < 2 → M 659 x = fl x
def Lo (M M' : MM) : Prop := ∀ q, 657 ≤ q → M' q = M q
def Hi (M M' : MM) : Prop := ∀ q, q < 657 → M' q = M q
theorem CH.mono {M M' : MM} {R R' : Nat → Int32} {nt kp : Nat} (h : CH M R nt kp) (e : ∀ q, 260 ≤ q → q < 652 → M' q = M q) (eR : ∀ i k, 1 ≤ i → i ≤ kp → k < 1808 → blk R' i k = blk R i k) : CH M' R' nt kp := by
  obtain ⟨a, b, c, d, f⟩ := h
  refine ⟨a, by rw [e 651 (by omega) (by omega)]; exact b, by rw [e 651 (by omega) (by omega)]; exact c, d, fun i h1 h2 => ⟨((f i h1 h2).1.congr (fun o ho => e _ (by omega) (by omega))).row (fun k hk => eR i k h1 h2 hk), (f i h1 h2).2.cong (fun k hk => eR i k h1 h2 hk)⟩⟩
theorem CS.mono {M M' : MM} {R R' fl : Nat → Int32} (h : CS M R fl) (e : ∀ q, 130 ≤ q → q < 260 → M' q = M q) (e2 : M' 654 = M 654) (eR : ∀ i k, 6 ≤ i → i < 8 → k < 1808 → blk R' i k = blk R i k) : CS M' R' fl := by
  intro x hx
  refine ⟨by rw [e2]; exact (h x hx).1, fun hz => ?_⟩
  obtain ⟨a, b⟩ := (h x hx).2 hz
  exact ⟨(a.congr (fun o ho => e _ (by omega) (by omega))).row (fun k hk => eR _ k (by omega) (by omega) hk), b.cong (fun k hk => eR _ k (by omega) (by omega) hk)⟩
theorem CT.mono {M M' : MM} {n : Nat} {tx : Nat → Int32} (h : CT M n tx) (e : M' 655 1 = M 655 1) (e2 : M' 656 = M 656) : CT M' n tx := by
  obtain ⟨a, b, c⟩ := h
  exact ⟨by rw [e]; exact a, b, fun k hk => by rw [e2]; exact c k hk⟩
theorem CI.hi {M M' : MM} {R : Nat → Int32} {kp n : Nat} {tx fl : Nat → Int32} (h : CI M R kp n tx fl) (e : Hi M M') : CI M' R kp n tx fl := by
  obtain ⟨⟨a, b⟩, ⟨nt, c⟩, d, f⟩ := h
  exact ⟨⟨a.congr (fun o ho => e _ (by omega)), b⟩, ⟨nt, c.mono (fun q _ _ => e q (by omega)) (fun _ _ _ _ _ => rfl)⟩, d.mono (fun q _ _ => e q (by omega)) (e _ (by omega)) (fun _ _ _ _ _ => rfl), f.mono (by rw [e 655 (by omega)]) (e _ (by omega))⟩
theorem MI.lo {M M' : MM} {R : Nat → Int32} {kp n : Nat} {tx fl : Nat → Int32} (h : MI M R kp n tx fl) (e : Lo M M') : MI M' R kp n tx fl := by
  obtain ⟨a, b, c, d, f⟩ := h
  exact ⟨by rw [e _ (by omega)]; exact a, by rw [e _ (by omega)]; exact b, by rw [e _ (by omega)]; exact c, fun k hk => by rw [e _ (by omega)]; exact d k hk, fun x hx => by rw [e _ (by omega)]; exact f x hx⟩
theorem Lo.rf {M : MM} : Lo M M := fun _ _ => rfl
theorem Lo.tr {M M1 M2 : MM} (h1 : Lo M M1) (h2 : Lo M1 M2) : Lo M M2 := fun q h => (h2 q h).trans (h1 q h)
theorem Fr.lo {b : Nat} {M M' : MM} (h : Fr b M M') (hb : b + 65 ≤ 657) : Lo M M' := fun q hq => h q (by omega)
theorem recR_0 {R : Nat → Int32} {kp k : Nat} (hkp : kp ≤ 5) (hk : k < 1808) : recR R kp k = R k := by
  have := recR_at (R := R) (a := 0) hkp hk
  unfold blk at this
  rw [Nat.mul_zero, Nat.zero_add] at this
  rw [this, if_neg (by unfold kp1; split <;> omega), if_neg (by omega)]
theorem blk0 (R : Nat → Int32) : blk R 0 = R := by
  funext k
  unfold blk
  rw [Nat.mul_zero, Nat.zero_add]
theorem noteC {M : MM} {R : Nat → Int32} {kp n : Nat} {tx fl : Nat → Int32} (h : CI M R kp n tx fl) : ∃ M' nt, f_X1_note 651 0 M = some M' ∧ CI M' R kp n tx fl ∧ CH M' R nt kp ∧ Rep M' (260 + 65 * nt) R ∧ Lo M M' := by
  obtain ⟨⟨a, C, L, P, s, ln, nn, hw⟩, ⟨nt, h1, h2, h3, h4, h5⟩, d, f⟩ := h
  obtain ⟨M', e, r, fr⟩ := copyC (b' := 260 + 65 * nt) (by omega) a hw
  have hh : CH M' R nt kp := ⟨h1, by rw [fr 651 (by omega)]; exact h2, by rw [fr 651 (by omega)]; exact h3, h4, fun i q1 q2 => ⟨(h5 i q1 q2).1.congr (fun o ho => fr _ (by omega)), (h5 i q1 q2).2⟩⟩
  refine ⟨M', nt, ?_, ⟨⟨a.congr (fun o ho => fr _ (by omega)), C, L, P, s, ln, nn, hw⟩, ⟨nt, hh⟩, d.mono (fun q _ _ => fr q (by omega)) (fr _ (by omega)) (fun _ _ _ _ _ => rfl), f.mono (by rw [fr _ (by omega)]) (fr _ (by omega))⟩, hh, r, fr.lo (by omega)⟩
  unfold f_X1_note
  rw [h2, gd_of (inb_nI (by omega) (by omega)), if_pos (by decide), ix_nI (by omega), e, Option.bind_some]
theorem ntF : ∀ nt, nt < 6 → nI nt + 1 - (nI nt + 1) / 6 * 6 = nI ((nt + 1) % 6) := by decide
theorem ntB : ∀ nt, nt < 6 → nI nt + 6 - 1 - (nI nt + 6 - 1) / 6 * 6 = nI ((nt + 5) % 6) := by decide
theorem kpF : ∀ kp, kp < 6 → (if (5 : Int32) < nI kp + 1 then (5 : Int32) else nI kp + 1) = nI (kp1 kp) := by decide
theorem keepC {M1 M2 : MM} {R r' : Nat → Int32} {nt kp n : Nat} {tx fl : Nat → Int32} {v : Int32} (c1 : CI M1 R kp n tx fl) (h1 : CH M1 R nt kp) (n1 : Rep M1 (260 + 65 * nt) R) (hv : ¬ v < 0) (r2 : Rep M2 0 r') (f2 : Fr 0 M1 M2) (hw : WFr r') (hhi : ∀ k, 1808 ≤ k → r' k = recR R kp k) : ∃ M3, f_X6_recorded 650 v M2 = some (v, M3) ∧ CI M3 r' (kp1 kp) n tx fl ∧ Lo M1 M3 := by
  have hkp := h1.2.2.2.1
  have hk1 : kp1 kp ≤ 5 := by unfold kp1; split <;> omega
  have hb : ∀ i k, 1 ≤ i → k < 1808 → blk r' i k = blk (recR R kp) i k := fun i k hi hk => hhi _ (by omega)
  unfold f_X6_recorded f_X1_keepNoted f_X6_recorded_11
  rw [if_neg hv, Option.bind_some]
  have m1 : M2 651 1 = nI nt := by rw [f2 651 (by omega)]; exact h1.2.1
  have m2 : M2 651 2 = nI kp := by rw [f2 651 (by omega)]; exact h1.2.2.1
  rw [ms_ni (show 2 ≠ 1 by omega), m1, m2, ntF nt h1.1, kpF kp (by omega)]
  have es : ∀ q, q ≠ 651 → ms (ms M2 651 1 (nI ((nt + 1) % 6))) 651 2 (nI (kp1 kp)) q = M2 q := fun q hq => by rw [ms_ne hq, ms_ne hq]
  refine ⟨ms (ms M2 651 1 (nI ((nt + 1) % 6))) 651 2 (nI (kp1 kp)), rfl, ⟨⟨r2.congr (fun o ho => es _ (by omega)), hw⟩, ⟨(nt + 1) % 6, by omega, by rw [ms_ni (by omega), ms_eq], by rw [ms_eq], hk1, fun i q1 q2 => ?_⟩, ?_, ?_⟩, fun q hq => (es q (by omega)).trans (f2 q (by omega))⟩
  · have hblk : ∀ k, k < 1808 → blk r' i k = if i = kp1 kp then blk R 0 k else if kp = 5 ∧ 1 ≤ i ∧ i < 5 then blk R (i + 1) k else blk R i k := fun k hk => (hb i k q1 hk).trans (recR_at hkp hk)
    by_cases z : i = kp1 kp
    · have hb2 : ∀ k, k < 1808 → blk r' i k = R k := fun k hk => by rw [hblk k hk, if_pos z, blk0]
      refine ⟨?_, c1.1.2.cong hb2⟩
      rw [show ((nt + 1) % 6 + 5 - (kp1 kp - i)) % 6 = nt by have := h1.1; omega]
      exact (n1.congr (fun o ho => (es _ (by have := h1.1; omega)).trans (f2 _ (by omega)))).row hb2
    · by_cases y : kp = 5
      · have e5 : kp1 kp = 5 := by unfold kp1; rw [if_pos y]
        have hb2 : ∀ k, k < 1808 → blk r' i k = blk R (i + 1) k := fun k hk => by rw [hblk k hk, if_neg z, if_pos (by omega)]
        obtain ⟨p1, p2⟩ := h1.2.2.2.2 (i + 1) (by omega) (by omega)
        refine ⟨?_, p2.cong hb2⟩
        rw [show ((nt + 1) % 6 + 5 - (kp1 kp - i)) % 6 = (nt + 5 - (kp - (i + 1))) % 6 by have := h1.1; omega]
        exact (p1.congr (fun o ho => (es _ (by omega)).trans (f2 _ (by omega)))).row hb2
      · have e5 : kp1 kp = kp + 1 := by unfold kp1; rw [if_neg y]
        have hb2 : ∀ k, k < 1808 → blk r' i k = blk R i k := fun k hk => by rw [hblk k hk, if_neg z, if_neg (by omega)]
        obtain ⟨p1, p2⟩ := h1.2.2.2.2 i (by omega) (by omega)
        refine ⟨?_, p2.cong hb2⟩
        rw [show ((nt + 1) % 6 + 5 - (kp1 kp - i)) % 6 = (nt + 5 - (kp - i)) % 6 by have := h1.1; omega]
        exact (p1.congr (fun o ho => (es _ (by omega)).trans (f2 _ (by omega)))).row hb2
  · refine c1.2.2.1.mono (fun q _ _ => (es q (by omega)).trans (f2 q (by omega))) ((es _ (by omega)).trans (f2 _ (by omega))) (fun i k q1 q2 hk => ?_)
    rw [hb i k (by omega) hk, recR_at hkp hk, if_neg (by omega), if_neg (by omega)]
  · exact c1.2.2.2.mono (by rw [es _ (by omega), f2 _ (by omega)]) ((es _ (by omega)).trans (f2 _ (by omega)))
theorem recC {M : MM} {R : Nat → Int32} {kp n : Nat} {tx fl : Nat → Int32} (h : CI M R kp n tx fl) {g : MM → Option (Int32 × MM)} {v : Int32} {r' : Nat → Int32} (hv : ¬ v < 0) (hg : ∀ M1, CI M1 R kp n tx fl → Rep M1 0 (recR R kp) → WFr (recR R kp) → ∃ M2, g M1 = some (v, M2) ∧ Rep M2 0 r' ∧ Fr 0 M1 M2) (hw : WFr r') (hhi : ∀ k, 1808 ≤ k → r' k = recR R kp k) : ∃ M', (Option.bind (f_X1_note 651 0 M) fun v1 => Option.bind (g v1) fun v2 => Option.bind (f_X6_recorded 650 v2.1 v2.2) fun v3 => some (v3.1, v3.2)) = some (v, M') ∧ CI M' r' (kp1 kp) n tx fl ∧ Lo M M' := by
  obtain ⟨M1, nt, e1, c1, h1, n1, l1⟩ := noteC h
  have hr : ∀ k, k < 1808 → recR R kp k = R k := fun k hk => recR_0 h1.2.2.2.1 hk
  obtain ⟨M2, e2, r2, f2⟩ := hg M1 c1 (c1.1.1.row hr) (c1.1.2.cong hr)
  obtain ⟨M3, e3, c3, l3⟩ := keepC c1 h1 n1 hv r2 f2 hw hhi
  rw [e1, Option.bind_some, e2, Option.bind_some]
  dsimp only
  rw [e3, Option.bind_some]
  exact ⟨M3, rfl, c3, l1.tr l3⟩
theorem refC {M : MM} {R : Nat → Int32} {kp n : Nat} {tx fl : Nat → Int32} (h : CI M R kp n tx fl) {g : MM → Option (Int32 × MM)} {v : Int32} {r' : Nat → Int32} (hv : v < 0) (hg : ∀ M1, CI M1 R kp n tx fl → ∃ M2, g M1 = some (v, M2) ∧ Rep M2 0 r' ∧ Fr 0 M1 M2) (hw : WFr r') (hhi : ∀ k, 1808 ≤ k → r' k = R k) : ∃ M', (Option.bind (f_X1_note 651 0 M) fun v1 => Option.bind (g v1) fun v2 => Option.bind (f_X6_recorded 650 v2.1 v2.2) fun v3 => some (v3.1, v3.2)) = some (v, M') ∧ CI M' r' kp n tx fl ∧ Lo M M' := by
  obtain ⟨M1, nt, e1, c1, h1, n1, l1⟩ := noteC h
  obtain ⟨M2, e2, r2, f2⟩ := hg M1 c1
  rw [e1, Option.bind_some, e2, Option.bind_some]
  unfold f_X6_recorded f_X6_recorded_11
  dsimp only
  rw [if_pos hv, Option.bind_some]
  refine ⟨M2, rfl, ⟨⟨r2, hw⟩, ⟨nt, h1.mono (fun q _ _ => f2 q (by omega)) (fun i k a b c => hhi _ (by omega))⟩, c1.2.2.1.mono (fun q _ _ => f2 q (by omega)) (f2 _ (by omega)) (fun i k a b c => hhi _ (by omega)), c1.2.2.2.mono (by rw [f2 _ (by omega)]) (f2 _ (by omega))⟩, (f2.lo (by omega)) |> l1.tr⟩
