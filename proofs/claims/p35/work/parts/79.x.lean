/-! PURE, the class alone: by program out of the same part of whole -/
/-! PURE: faultPosition on both sides -/
def FE (e : Option (Int32 × MM)) (K : MM → Option (Int32 × MM)) (M : MM) (g : Nat → Int32) (r : Bool × Nat) : Prop := ∃ g', g' 6 = nI r.2 ∧ (∀ i, i ≠ 6 → i ≠ 7 → g' i = g i) ∧ (r.1 = true → e = K (msf M 657 g')) ∧ (r.1 = false → e = some (nI r.2, msf M 657 g'))
def faultS (tx : Nat → Int32) (n : Nat) : Nat → Nat → Int32
  | 0, _ => -6
  | f + 1, p => if n ≤ p then -6 else if (actS tx n p).1 = true then faultS tx n f (actS tx n p).2 else nI (actS tx n p).2
theorem faultC {M : MM} {n : Nat} {tx : Nat → Int32} (h : TXC M n tx) : ∀ (f j k p : Nat) (g : Nat → Int32), n < p + f → f ≤ k → p ≤ n → j ≤ p → g 1 = nI n → g 2 = nI p → ∃ g', f_X5_findFault_6 655 k (nI j) (msf M 655 g) = some (faultS tx n f p, msf M 655 g') ∧ g' 1 = nI n := by
  have h80 := h.1
  intro f
  induction f with
  | zero => intro j k p g a b c; omega
  | succ f ih =>
    intro j k p g hf hk hp hj h1 h2
    obtain ⟨k, rfl⟩ : ∃ k', k = k' + 1 := ⟨k - 1, by omega⟩
    rw [f_X5_findFault_6, msf_at, h1, h2, faultS]
    unfold f_X5_findFault_41
    by_cases q : n ≤ p
    · rw [if_pos q, if_pos (show nI n ≤ nI p by rw [le_nI (by omega) (by omega)]; exact q)]
      refine ⟨g, ?_, h1⟩
      split <;> rfl
    · rw [if_neg q, if_neg (by rw [show (80 : Int32) = nI 80 from rfl, le_nI (by omega) (by omega)]; omega), if_neg (show ¬ nI n ≤ nI p by rw [le_nI (by omega) (by omega)]; exact q)]
      obtain ⟨g', e, a1, a2, -⟩ := readActC h h1 h2 hp
      obtain ⟨l1, l2⟩ := actS_le (tx := tx) hp
      rw [e, Option.bind_some]
      dsimp only
      cases hb : (actS tx n p).1 with
      | false =>
        rw [if_pos bz_f0, if_neg (by decide), msf_at, a2]
        exact ⟨g', rfl, a1⟩
      | true =>
        rw [if_neg bz_t0, if_pos rfl, nI_1]
        have := (l2 hb).2
        exact ih (j + 1) k (actS tx n p).2 g' (by omega) (by omega) l1 (by omega) a1 a2
theorem CI.tx' {M : MM} {R : Nat → Int32} {kp n : Nat} {tx fl g : Nat → Int32} (h : CI M R kp n tx fl) (h1 : g 1 = nI n) : CI (msf M 655 g) R kp n tx fl := h.txt (fun q hq => msf_ne (by omega)) ⟨by rw [msf_at]; exact h1, h.2.2.2.2.1, fun k hk => by rw [msf_ne (by omega)]; exact h.2.2.2.2.2 k hk⟩
theorem MI.tx' {M : MM} {R : Nat → Int32} {kp n : Nat} {tx fl g : Nat → Int32} (h : MI M R kp n tx fl) (ho : ∀ i, i ≠ 6 → i ≠ 7 → g i = M 657 i) : MI (msf M 657 g) R kp n tx fl := by
  obtain ⟨a, b, c, d, e⟩ := h
  exact ⟨by rw [msf_ne (by omega)]; exact a, by rw [msf_at, ho 1 (by omega) (by omega)]; exact b, by rw [msf_at, ho 4 (by omega) (by omega)]; exact c, fun k hk => by rw [msf_ne (by omega)]; exact d k hk, fun x hx => by rw [msf_ne (by omega)]; exact e x hx⟩
theorem CI.txc {M : MM} {R : Nat → Int32} {kp n : Nat} {tx fl : Nat → Int32} (h : CI M R kp n tx fl) : TXC M n tx := ⟨h.2.2.2.2.1, fun k hk => (h.2.2.2.2.2 k hk).1⟩
theorem MI.txm {M : MM} {R : Nat → Int32} {kp n : Nat} {tx fl : Nat → Int32} (h : MI M R kp n tx fl) (h80 : n ≤ 80) : TXM M n tx := ⟨h80, h.2.2.2.1⟩
theorem findC {M : MM} {R : Nat → Int32} {kp n : Nat} {tx fl : Nat → Int32} (h : CI M R kp n tx fl) : ∃ M1, f_X5_findFault 655 M = some (faultS tx n 81 0, M1) ∧ CI M1 R kp n tx fl ∧ Lo M M1 := by
  have h80 := h.2.2.2.2.1
  obtain ⟨g', e, a⟩ := faultC h.txc 81 0 FU 0 (upd (M 655) 2 0) (by omega) (by unfold FU; omega) (by omega) (by omega) ((upd_ne (by omega)).trans h.2.2.2.1) (upd_eq _ _ _)
  refine ⟨msf M 655 g', ?_, h.tx' a, fun q hq => msf_ne (by omega)⟩
  unfold f_X5_findFault f_X5_rewind
  rw [Option.bind_some]
  exact e
