/-! PURE, the class alone: by program out of the same part of whole -/
/-! PURE: append and clearText on both sides -/
theorem CI.txt {M M' : MM} {R : Nat → Int32} {kp n n' : Nat} {tx tx' fl : Nat → Int32} (h : CI M R kp n tx fl) (e : ∀ q, q < 655 → M' q = M q) (ht : CT M' n' tx') : CI M' R kp n' tx' fl := by
  obtain ⟨⟨a, b⟩, ⟨nt, c⟩, d, f⟩ := h
  exact ⟨⟨a.congr (fun o ho => e _ (by omega)), b⟩, ⟨nt, c.mono (fun q _ _ => e q (by omega)) (fun _ _ _ _ _ => rfl)⟩, d.mono (fun q _ _ => e q (by omega)) (e _ (by omega)) (fun _ _ _ _ _ => rfl), ht⟩
