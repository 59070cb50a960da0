/-! PURE: what holds behind the two constructors -/
set_option maxRecDepth 100000 in
theorem m0_tr : ∀ o, o < 11 → ∀ i, i < 100 → tr o i < 5000 → M0 (0 + o) i = R0 (tr o i) := by decide +kernel
set_option maxRecDepth 100000 in
theorem r0_ch : ∀ c, c < 6 → chNew R0 c := by
  unfold chNew
  decide +kernel
theorem r0_ak : ∀ k, k < 100 → R0 (1508 + k) = -6 := by decide +kernel
theorem r0_WF : WF R0 0 0 0 0 0 1 := ⟨⟨⟨by decide +kernel, by omega⟩, fun c hc => by omega, fun c _ hc => r0_ch c hc⟩, ⟨⟨by decide +kernel, by omega⟩, fun k hk => by omega⟩, ⟨⟨by decide +kernel, by omega⟩, fun k hk => by omega, fun k _ hk => by omega⟩, ⟨Or.inl (by decide +kernel), ⟨by decide +kernel, by omega, by omega⟩, by unfold Sm; decide +kernel, by decide +kernel, by decide +kernel, by decide +kernel⟩, ⟨fun c k hc => by omega, fun k hk => Or.inl (r0_ak k hk)⟩, ⟨by decide +kernel, by omega⟩, ⟨by decide +kernel, by omega⟩, Or.inr (by decide +kernel), fun h => by omega, fun _ => by decide +kernel⟩
theorem r0_wf : WFr R0 := ⟨0, 0, 0, 0, 0, 1, r0_WF⟩
theorem m0_rep : Rep M0 0 R0 := by
  have hC : Cn R0 = 0 := by decide +kernel
  have hP : Pn R0 = 0 := by decide +kernel
  refine ⟨fun o i ho hi ht hs => ?_, by omega, fun j k _ h => by omega, fun j h => by omega, fun j h => by omega⟩
  rcases hs with hs | ⟨hs, -⟩
  · exact m0_tr o hs i hi ht
  · omega
theorem m0_cp : CP M0 R0 0 (fun _ _ => 0) (fun _ _ => 0) (fun _ => 0) 0 (fun _ => 0) := by
  refine ⟨⟨m0_rep, r0_wf⟩, ⟨0, by omega, by decide +kernel, by decide +kernel, by omega, fun i _ _ => by omega⟩, fun x _ => ⟨?_, fun h => absurd (show nz 0 = true from h) (by decide)⟩, by decide +kernel, by omega, fun k hk => by omega⟩
  rw [M0_hi (by omega) (by omega)]
  rfl
theorem r0_16 : R0 16 = 50 := by decide +kernel
theorem r0_15 : R0 15 = 25 := by decide +kernel
