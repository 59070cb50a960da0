/-! CONSTRUCTORS: ShakerSweep -/
def WX (dA : Nat → ClassId) (u : Nat → Nat) : va_W := wl dA u 653 1 M0 ++ (wl dA u 650 1 M0 ++ (wl dA u 0 65 M0 ++ (wl dA u 65 65 M0 ++ (wl dA u 651 2 M0 ++ (wl dA u 260 390 M0 ++ (wl dA u 654 1 M0 ++ (wl dA u 655 2 M0 ++ (wl dA u 130 65 M0 ++ wl dA u 195 65 M0))))))))
theorem WE.asc {wa wb wc : va_W} {wd : va_W} (h : WE (wa ++ (wb ++ wc)) wd) : WE (wa ++ wb ++ wc) wd := by
  rw [List.append_assoc]
  exact h
theorem WE.st {dA : Nat → ClassId} {u ad : Nat → Nat} {j : Nat} (hj : j < 10) (h : ∀ i, i < 65 → u i = ad (65 * j + i)) : WE (wl dA u 0 65 SM) (wl dA ad (65 * j) 65 M0) := WE.blk (bkS j hj) (fun i hi => by rw [Nat.zero_add]; exact h i hi) (fun i hi => by rw [Nat.zero_add, M0_st hj hi])
theorem bkT : bk 655 655 2 := by unfold bk; decide +kernel
theorem bkH0 : bk 260 260 390 := bkH 6 (by omega)
set_option maxHeartbeats 4000000 in
set_option maxRecDepth 100000 in
theorem WX.of {dA : Nat → ClassId} {ad u0 u1 uh uT w0 w1 : Nat → Nat} {h qs qz : Nat} (e0 : ∀ i, i < 65 → u0 i = ad i) (e1 : ∀ i, i < 65 → u1 i = ad (65 + i)) (eh : ∀ k, 260 ≤ k → k < 653 → k ≠ 650 → uh k = ad k) (eT : ∀ k, 655 ≤ k → k < 657 → uT k = ad k) (f0 : ∀ i, i < 65 → w0 i = ad (130 + i)) (f1 : ∀ i, i < 65 → w1 i = ad (195 + i)) (hh : h = ad 650) (hs : qs = ad 653) (hz : qz = ad 654) : WE ([(qs, .inl (dA 3, 2, .inr (.inr (.inr (.inr (va_up (va_up (fun _ => none) 0 (some (w0 0))) 1 (some (w1 0))))))))] ++ ([(h, .inr (6, [.ref (u0 0), .ref (u1 0), .ref (uh 651), .ref qs, .ref qz, .ref (uT 655)]))] ++ (wl dA u0 0 65 SM ++ (wl dA u1 0 65 SM ++ (WH dA uh ++ ([(qz, .inl (dA 1, 2, .inl (fun _ => 0)))] ++ (wl dA uT 655 2 ZM ++ (wl dA w0 0 65 SM ++ wl dA w1 0 65 SM)))))))) (WX dA ad) := by
  unfold WX
  refine WE.app (show WE _ [(ad 653, cellF dA ad 653 (M0 653))] from WE.one hs (Or.inr ⟨dA 3, 2, _, stA ad 653, rfl, rfl, fun q hq => ?_⟩)) (WE.app (show WE _ [(ad 650, cellF dA ad 650 (M0 650))] from WE.one hh (Or.inl ?_)) ?_)
  · rcases (show q = 0 ∨ q = 1 by omega) with rfl | rfl
    · show some (w0 0) = some (ad (130 + 65 * 0))
      rw [f0 0 (by omega)]
    · show some (w1 0) = some (ad (130 + 65 * 1))
      rw [f1 0 (by omega)]
  · rw [hs, hz, e0 0 (by omega), e1 0 (by omega), eh 651 (by omega) (by omega) (by omega), eT 655 (by omega) (by omega)]
    rfl
  refine WE.app (WE.st (j := 0) (by omega) (fun i hi => by rw [e0 i hi]; congr 1; omega)) ?_
  refine WE.app (WE.st (j := 1) (by omega) (fun i hi => e1 i hi)) ?_
  unfold WH
  refine WE.asc (WE.app ?_ (WE.app (WE.blk bkH0 (fun i hi => eh _ (by omega) (by omega) (by omega)) (fun _ _ => rfl)) ?_))
  · refine WE.cons (eh 651 (by omega) (by omega) (by omega)) (Or.inl ?_) (WE.cons (eh 652 (by omega) (by omega) (by omega)) (Or.inr ⟨dA 3, 6, stA uh 652, stA ad 652, rfl, rfl, fun q hq => ?_⟩) WE.rf)
    · show (Sum.inr (1, fsH uh 651 (M0 651)) : va_E) = Sum.inr (1, fsH ad 651 (M0 651))
      unfold fsH
      rw [eh (651 + 1) (by omega) (by omega) (by omega)]
    · unfold stA
      rw [if_pos rfl, eh _ (by omega) (by omega) (by omega)]
  refine WE.app (WE.one hz (Or.inl rfl)) ?_
  refine WE.app (WE.blk bkT (fun i hi => eT _ (by omega) (by omega)) (fun i hi => (M0_hi (by omega) (by omega)).symm)) ?_
  exact WE.app (WE.st (j := 2) (by omega) (fun i hi => f0 i hi)) (WE.st (j := 3) (by omega) (fun i hi => f1 i hi))
set_option maxHeartbeats 4000000 in
set_option maxRecDepth 100000 in
theorem kc_X6 : KCg yX6_init cX6_init 2 5 106 656 18940 650 6 fs0X6 WX := by
  refine KCg.of (by decide) rfl (by decide) (fun p l e s m args below meth c D dA ad0 A h X hr hin => ?_)
  replace X : KX p s m args meth c cX6_init 2 RX6 D dA ad0 A := X
  refine KW.aload (k0 := 0) (pc' := 1) X rfl rfl dX6_init_0 rfl ?_
  refine KW.objInit (pc' := 4) X mo_X6 ⟨by decide, by decide⟩ dX6_init_1 rfl ?_
  refine KW.aload (k0 := 0) (pc' := 5) X rfl rfl dX6_init_4 rfl ?_
  refine KW.new (ci := 4) (fs := fs0X4) (pc' := 8) X rfl inX4 tyX4 tyX4_ok mc_X6_7 mt_X4 mi_X4 df_X4 (Nat.le_of_ble_eq_true rfl) (Nat.le_of_ble_eq_true rfl) dX6_init_5 rfl (fun q => ?_)
  refine KW.dup (pc' := 9) X rfl dX6_init_8 rfl ?_
  refine KW.callI (host := "") (pc' := 12) X kc_X4 yi_X4 (Or.inl mz_X6_9) ⟨by decide, by decide, Nat.le_of_ble_eq_true rfl, Nat.le_of_ble_eq_true rfl⟩ (Nat.le_of_ble_eq_true rfl) dX6_init_9 rfl (fun u0 hu0 _ => ?_)
  subst hu0
  refine KW.putF (q0 := 0) (ty := tyX6 0) (ws' := (h, .inr (6, [.ref (u0 0), .null, .null, .null, .null, .null])) :: (wl dA u0 0 65 SM)) (pc' := 15) X hin rfl rfl inX6 tyX6 tyX6_ok nmX6 0 (by decide) rfl mf_X6_10 rfl (tyX6_ok 0 (by decide)) rfl rfl (Nat.le_of_ble_eq_true rfl) rfl dX6_init_12 rfl ?_
  refine KW.aload (k0 := 0) (pc' := 16) X rfl rfl dX6_init_15 rfl ?_
  refine KW.new (ci := 4) (fs := fs0X4) (pc' := 19) X rfl inX4 tyX4 tyX4_ok mc_X6_7 mt_X4 mi_X4 df_X4 (Nat.le_of_ble_eq_true rfl) (Nat.le_of_ble_eq_true rfl) dX6_init_16 rfl (fun q => ?_)
  refine KW.dup (pc' := 20) X rfl dX6_init_19 rfl ?_
  refine KW.callI (host := "") (pc' := 23) X kc_X4 yi_X4 (Or.inl mz_X6_9) ⟨by decide, by decide, Nat.le_of_ble_eq_true rfl, Nat.le_of_ble_eq_true rfl⟩ (Nat.le_of_ble_eq_true rfl) dX6_init_20 rfl (fun u1 hu1 _ => ?_)
  subst hu1
  refine KW.putF (q0 := 0) (ty := tyX6 1) (ws' := (h, .inr (6, [.ref (u0 0), .ref (u1 0), .null, .null, .null, .null])) :: (wl dA u0 0 65 SM ++ wl dA u1 0 65 SM)) (pc' := 26) X hin rfl rfl inX6 tyX6 tyX6_ok nmX6 1 (by decide) rfl mf_X6_16 rfl (tyX6_ok 1 (by decide)) rfl rfl (Nat.le_of_ble_eq_true rfl) rfl dX6_init_23 rfl ?_
  refine KW.aload (k0 := 0) (pc' := 27) X rfl rfl dX6_init_26 rfl ?_
  refine KW.new (ci := 1) (fs := fs0X1) (pc' := 30) X rfl inX1 tyX1 tyX1_ok mc_X6_19 mt_X1 mi_X1 df_X1 (Nat.le_of_ble_eq_true rfl) (Nat.le_of_ble_eq_true rfl) dX6_init_27 rfl (fun q => ?_)
  refine KW.dup (pc' := 31) X rfl dX6_init_30 rfl ?_
  refine KW.callG (host := "") (pc' := 34) X kc_X1 yi_X1 (Or.inl mz_X6_21) ⟨by decide, by decide, Nat.le_of_ble_eq_true rfl, Nat.le_of_ble_eq_true rfl⟩ (Nat.le_of_ble_eq_true rfl) dX6_init_31 rfl (fun uh huh _ => ?_)
  subst huh
  refine KW.putF (q0 := 0) (ty := tyX6 2) (ws' := (h, .inr (6, [.ref (u0 0), .ref (u1 0), .ref (uh 651), .null, .null, .null])) :: (wl dA u0 0 65 SM ++ wl dA u1 0 65 SM ++ WH dA uh)) (pc' := 37) X hin rfl rfl inX6 tyX6 tyX6_ok nmX6 2 (by decide) rfl mf_X6_22 rfl (tyX6_ok 2 (by decide)) rfl rfl (Nat.le_of_ble_eq_true rfl) rfl dX6_init_34 rfl ?_
  refine KW.aload (k0 := 0) (pc' := 38) X rfl rfl dX6_init_37 rfl ?_
  refine KW.iconst (v := 2) (pc' := 39) X rfl dX6_init_38 rfl ?_
  refine KW.newq (N := 2) (t := 3) (pc' := 42) X (Or.inr ⟨rfl, rfl⟩) mc_X6_7 (by decide) rfl (by decide) (Nat.le_of_ble_eq_true rfl) (Nat.le_of_ble_eq_true rfl) dX6_init_39 rfl (fun qs => ?_)
  refine KW.rot ?_
  refine KW.putF (q0 := 1) (ty := tyX6 3) (ws' := (qs, .inl (dA 3, 2, .inr (.inr (.inr (.inr (fun _ => none)))))) :: (h, .inr (6, [.ref (u0 0), .ref (u1 0), .ref (uh 651), .ref qs, .null, .null])) :: (wl dA u0 0 65 SM ++ wl dA u1 0 65 SM ++ WH dA uh)) (pc' := 45) X hin rfl rfl inX6 tyX6 tyX6_ok nmX6 3 (by decide) rfl mf_X6_26 rfl (tyX6_ok 3 (by decide)) rfl rfl (Nat.le_of_ble_eq_true rfl) rfl dX6_init_42 rfl ?_
  refine KW.aload (k0 := 0) (pc' := 46) X rfl rfl dX6_init_45 rfl ?_
  refine KW.iconst (v := 2) (pc' := 47) X rfl dX6_init_46 rfl ?_
  refine KW.newz (N := 2) (pc' := 49) X (by decide) rfl (by decide) (Nat.le_of_ble_eq_true rfl) (Nat.le_of_ble_eq_true rfl) dX6_init_47 rfl (fun qz => ?_)
  refine KW.putF (q0 := 1) (ty := tyX6 4) (ws' := (qs, .inl (dA 3, 2, .inr (.inr (.inr (.inr (fun _ => none)))))) :: (h, .inr (6, [.ref (u0 0), .ref (u1 0), .ref (uh 651), .ref qs, .ref qz, .null])) :: (wl dA u0 0 65 SM ++ wl dA u1 0 65 SM ++ WH dA uh ++ [(qz, .inl (dA 1, 2, .inl (fun _ => 0)))])) (pc' := 52) X hin rfl rfl inX6 tyX6 tyX6_ok nmX6 4 (by decide) rfl mf_X6_30 rfl (tyX6_ok 4 (by decide)) rfl rfl (Nat.le_of_ble_eq_true rfl) rfl dX6_init_49 rfl ?_
  refine KW.aload (k0 := 0) (pc' := 53) X rfl rfl dX6_init_52 rfl ?_
  refine KW.new (ci := 5) (fs := fs0X5) (pc' := 56) X rfl inX5 tyX5 tyX5_ok mc_X6_34 mt_X5 mi_X5 df_X5 (Nat.le_of_ble_eq_true rfl) (Nat.le_of_ble_eq_true rfl) dX6_init_53 rfl (fun q => ?_)
  refine KW.dup (pc' := 57) X rfl dX6_init_56 rfl ?_
  refine KW.callI (pc' := 60) X kc_X5 yi_X5 (Or.inr mz_X6_36) ⟨by decide, by decide, Nat.le_of_ble_eq_true rfl, Nat.le_of_ble_eq_true rfl⟩ (Nat.le_of_ble_eq_true rfl) dX6_init_57 rfl (fun uT huT _ => ?_)
  subst huT
  refine KW.putF (q0 := 1) (ty := tyX6 5) (ws' := (qs, .inl (dA 3, 2, .inr (.inr (.inr (.inr (fun _ => none)))))) :: (h, .inr (6, [.ref (u0 0), .ref (u1 0), .ref (uh 651), .ref qs, .ref qz, .ref (uT 655)])) :: (wl dA u0 0 65 SM ++ wl dA u1 0 65 SM ++ WH dA uh ++ [(qz, .inl (dA 1, 2, .inl (fun _ => 0)))] ++ wl dA uT 655 2 ZM)) (pc' := 63) X hin rfl rfl inX6 tyX6 tyX6_ok nmX6 5 (by decide) rfl mf_X6_37 rfl (tyX6_ok 5 (by decide)) rfl rfl (Nat.le_of_ble_eq_true rfl) rfl dX6_init_60 rfl ?_
  refine KW.iconst (v := 0) (pc' := 64) X rfl dX6_init_63 rfl ?_
  refine KW.istore (ls' := [(1, .int 0), (0, .ref h)]) (pc' := 65) X rfl (by decide) rfl dX6_init_64 rfl ?_
  refine KW.iload (k0 := 0) (pc' := 66) X rfl rfl dX6_init_65 rfl ?_
  refine KW.iconst (v := 2) (pc' := 67) X rfl dX6_init_66 rfl ?_
  refine KW.icmp_ge (pc' := 70) (tgt := 89) X dX6_init_67 rfl rfl (fun q => absurd q (show ¬ (2 : Int32) ≤ 0 by decide)) (fun _ => ?_)
  refine KW.aload (k0 := 1) (pc' := 71) X rfl rfl dX6_init_70 rfl ?_
  refine KW.getf (q0 := 1) (ci := 6) (fs := [.ref (u0 0), .ref (u1 0), .ref (uh 651), .ref qs, .ref qz, .ref (uT 655)]) (v := .ref qs) (pc' := 74) X rfl rfl inX6 3 (by decide) rfl mf_X6_26 rfl dX6_init_71 rfl ?_
  refine KW.iload (k0 := 0) (pc' := 75) X rfl rfl dX6_init_74 rfl ?_
  refine KW.new (ci := 4) (fs := fs0X4) (pc' := 78) X rfl inX4 tyX4 tyX4_ok mc_X6_7 mt_X4 mi_X4 df_X4 (Nat.le_of_ble_eq_true rfl) (Nat.le_of_ble_eq_true rfl) dX6_init_75 rfl (fun q => ?_)
  refine KW.dup (pc' := 79) X rfl dX6_init_78 rfl ?_
  refine KW.callI (host := "") (pc' := 82) X kc_X4 yi_X4 (Or.inl mz_X6_9) ⟨by decide, by decide, Nat.le_of_ble_eq_true rfl, Nat.le_of_ble_eq_true rfl⟩ (Nat.le_of_ble_eq_true rfl) dX6_init_79 rfl (fun w0 hw0 _ => ?_)
  subst hw0
  have hl0 : (((qs, .inl (dA 3, 2, .inr (.inr (.inr (.inr (fun _ => none)))))) :: (h, .inr (6, [.ref (u0 0), .ref (u1 0), .ref (uh 651), .ref qs, .ref qz, .ref (uT 655)])) :: (wl dA u0 0 65 SM ++ wl dA u1 0 65 SM ++ WH dA uh ++ [(qz, .inl (dA 1, 2, .inl (fun _ => 0)))] ++ wl dA uT 655 2 ZM)) : va_W).length = 527 := by simp [WH, wl_len, List.length_append]
  refine KW.aast (q0 := 0) (qk := 527) (ci := 4) (t := 3) (vs := fsS w0 0 (SM 0)) (pc' := 83) (ws' := (qs, .inl (dA 3, 2, .inr (.inr (.inr (.inr (va_up (fun _ => none) 0 (some (w0 0)))))))) :: (h, .inr (6, [.ref (u0 0), .ref (u1 0), .ref (uh 651), .ref qs, .ref qz, .ref (uT 655)])) :: (wl dA u0 0 65 SM ++ wl dA u1 0 65 SM ++ WH dA uh ++ [(qz, .inl (dA 1, 2, .inl (fun _ => 0)))] ++ wl dA uT 655 2 ZM ++ wl dA w0 0 65 SM)) X rfl rfl (by rw [List.getElem?_append_right (by rw [hl0]; exact Nat.le_refl _), hl0, Nat.sub_self]; rfl) rfl (inb_vp (by decide)) rfl dX6_init_82 rfl ?_
  refine KW.iinc (z := 1) (k0 := 0) (v := 1) (ls' := [(1, .int 1), (0, .ref h)]) (pc' := 86) X rfl rfl (by decide) rfl dX6_init_83 rfl ?_
  refine KW.goto (pc' := 65) X dX6_init_86 rfl ?_
  refine KW.iload (k0 := 0) (pc' := 66) X rfl rfl dX6_init_65 rfl ?_
  refine KW.iconst (v := 2) (pc' := 67) X rfl dX6_init_66 rfl ?_
  refine KW.icmp_ge (pc' := 70) (tgt := 89) X dX6_init_67 rfl rfl (fun q => absurd q (show ¬ (2 : Int32) ≤ 1 by decide)) (fun _ => ?_)
  refine KW.aload (k0 := 1) (pc' := 71) X rfl rfl dX6_init_70 rfl ?_
  refine KW.getf (q0 := 1) (ci := 6) (fs := [.ref (u0 0), .ref (u1 0), .ref (uh 651), .ref qs, .ref qz, .ref (uT 655)]) (v := .ref qs) (pc' := 74) X rfl rfl inX6 3 (by decide) rfl mf_X6_26 rfl dX6_init_71 rfl ?_
  refine KW.iload (k0 := 0) (pc' := 75) X rfl rfl dX6_init_74 rfl ?_
  refine KW.new (ci := 4) (fs := fs0X4) (pc' := 78) X rfl inX4 tyX4 tyX4_ok mc_X6_7 mt_X4 mi_X4 df_X4 (Nat.le_of_ble_eq_true rfl) (Nat.le_of_ble_eq_true rfl) dX6_init_75 rfl (fun q => ?_)
  refine KW.dup (pc' := 79) X rfl dX6_init_78 rfl ?_
  refine KW.callI (host := "") (pc' := 82) X kc_X4 yi_X4 (Or.inl mz_X6_9) ⟨by decide, by decide, Nat.le_of_ble_eq_true rfl, Nat.le_of_ble_eq_true rfl⟩ (Nat.le_of_ble_eq_true rfl) dX6_init_79 rfl (fun w1 hw1 _ => ?_)
  subst hw1
  have hl1 : (((qs, .inl (dA 3, 2, .inr (.inr (.inr (.inr (va_up (fun _ => none) 0 (some (w0 0)))))))) :: (h, .inr (6, [.ref (u0 0), .ref (u1 0), .ref (uh 651), .ref qs, .ref qz, .ref (uT 655)])) :: (wl dA u0 0 65 SM ++ wl dA u1 0 65 SM ++ WH dA uh ++ [(qz, .inl (dA 1, 2, .inl (fun _ => 0)))] ++ wl dA uT 655 2 ZM ++ wl dA w0 0 65 SM)) : va_W).length = 592 := by simp [WH, wl_len, List.length_append]
  refine KW.aast (q0 := 0) (qk := 592) (ci := 4) (t := 3) (vs := fsS w1 0 (SM 0)) (pc' := 83) (ws' := (qs, .inl (dA 3, 2, .inr (.inr (.inr (.inr (va_up (va_up (fun _ => none) 0 (some (w0 0))) 1 (some (w1 0)))))))) :: (h, .inr (6, [.ref (u0 0), .ref (u1 0), .ref (uh 651), .ref qs, .ref qz, .ref (uT 655)])) :: (wl dA u0 0 65 SM ++ wl dA u1 0 65 SM ++ WH dA uh ++ [(qz, .inl (dA 1, 2, .inl (fun _ => 0)))] ++ wl dA uT 655 2 ZM ++ wl dA w0 0 65 SM ++ wl dA w1 0 65 SM)) X rfl rfl (by rw [List.getElem?_append_right (by rw [hl1]; exact Nat.le_refl _), hl1, Nat.sub_self]; rfl) rfl (inb_vp (by decide)) rfl dX6_init_82 rfl ?_
  refine KW.iinc (z := 1) (k0 := 0) (v := 2) (ls' := [(1, .int 2), (0, .ref h)]) (pc' := 86) X rfl rfl (by decide) rfl dX6_init_83 rfl ?_
  refine KW.goto (pc' := 65) X dX6_init_86 rfl ?_
  refine KW.iload (k0 := 0) (pc' := 66) X rfl rfl dX6_init_65 rfl ?_
  refine KW.iconst (v := 2) (pc' := 67) X rfl dX6_init_66 rfl ?_
  refine KW.icmp_ge (pc' := 70) (tgt := 89) X dX6_init_67 rfl rfl (fun _ => ?_) (fun q => absurd (show (2 : Int32) ≤ 2 by decide) q)
  obtain ⟨ad, had⟩ : ∃ ad : Nat → Nat, ad = fun k => if 1000 ≤ k then ad0 k else if k < 65 then u0 k else if k < 130 then u1 (k - 65) else if k < 195 then w0 (k - 130) else if k < 260 then w1 (k - 195) else if k = 650 then h else if k < 653 then uh k else if k = 653 then qs else if k = 654 then qz else uT k := ⟨_, rfl⟩
  have a0 : ∀ k, 1000 ≤ k → ad k = ad0 k := fun k hk => by rw [had]; exact if_pos hk
  have b0 : ∀ i, i < 65 → u0 i = ad i := fun i hi => by rw [had]; simp only []; rw [if_neg (by omega), if_pos hi]
  have b1 : ∀ i, i < 65 → u1 i = ad (65 + i) := fun i hi => by rw [had]; simp only []; rw [if_neg (by omega), if_neg (by omega), if_pos (by omega)]; congr 1; omega
  have c0 : ∀ i, i < 65 → w0 i = ad (130 + i) := fun i hi => by rw [had]; simp only []; rw [if_neg (by omega), if_neg (by omega), if_neg (by omega), if_pos (by omega)]; congr 1; omega
  have c1 : ∀ i, i < 65 → w1 i = ad (195 + i) := fun i hi => by rw [had]; simp only []; rw [if_neg (by omega), if_neg (by omega), if_neg (by omega), if_neg (by omega), if_pos (by omega)]; congr 1; omega
  have bh : ∀ k, 260 ≤ k → k < 653 → k ≠ 650 → uh k = ad k := fun k h1 h2 h3 => by rw [had]; simp only []; rw [if_neg (by omega), if_neg (by omega), if_neg (by omega), if_neg (by omega), if_neg (by omega), if_neg h3, if_pos h2]
  have bT : ∀ k, 655 ≤ k → k < 657 → uT k = ad k := fun k h1 h2 => by rw [had]; simp only []; rw [if_neg (by omega), if_neg (by omega), if_neg (by omega), if_neg (by omega), if_neg (by omega), if_neg (by omega), if_neg (by omega), if_neg (by omega), if_neg (by omega)]
  have b650 : h = ad 650 := by rw [had]; rfl
  have b653 : qs = ad 653 := by rw [had]; rfl
  have b654 : qz = ad 654 := by rw [had]; rfl
  clear had
  refine KW.we (ws' := WX dA ad) ?_ (KW.vretG X ad hr rfl b650.symm a0 dX6_init_89)
  have := WX.of (dA := dA) b0 b1 bh bT c0 c1 b650 b653 b654
  simp only [List.append_assoc, List.cons_append, List.nil_append] at this ⊢
  exact this
