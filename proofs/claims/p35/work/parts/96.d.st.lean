/-! CONSTRUCTORS: a State -/
theorem df_X6 : ∀ j, j < 6 → defaultValue (tyX6 j) = vp_V fs0X6 j := by
  intro j hj
  rcases (show j = 0 ∨ j = 1 ∨ j = 2 ∨ j = 3 ∨ j = 4 ∨ j = 5 by omega) with rfl | rfl | rfl | rfl | rfl | rfl <;> rfl
theorem df_X4 : ∀ j, j < 17 → defaultValue (tyX4 j) = vp_V fs0X4 j := by
  intro j hj
  rcases (show j = 0 ∨ j = 1 ∨ j = 2 ∨ j = 3 ∨ j = 4 ∨ j = 5 ∨ j = 6 ∨ j = 7 ∨ j = 8 ∨ j = 9 ∨ j = 10 ∨ j = 11 ∨ j = 12 ∨ j = 13 ∨ j = 14 ∨ j = 15 ∨ j = 16 by omega) with rfl | rfl | rfl | rfl | rfl | rfl | rfl | rfl | rfl | rfl | rfl | rfl | rfl | rfl | rfl | rfl | rfl <;> rfl
theorem df_X2 : ∀ j, j < 2 → defaultValue (tyX2 j) = vp_V fs0X2 j := by
  intro j hj
  rcases (show j = 0 ∨ j = 1 by omega) with rfl | rfl <;> rfl
theorem df_X3 : ∀ j, j < 3 → defaultValue (tyX3 j) = vp_V fs0X3 j := by
  intro j hj
  rcases (show j = 0 ∨ j = 1 ∨ j = 2 by omega) with rfl | rfl | rfl <;> rfl
theorem df_X0 : ∀ j, j < 18 → defaultValue (tyX0 j) = vp_V fs0X0 j := by
  intro j hj
  rcases (show j = 0 ∨ j = 1 ∨ j = 2 ∨ j = 3 ∨ j = 4 ∨ j = 5 ∨ j = 6 ∨ j = 7 ∨ j = 8 ∨ j = 9 ∨ j = 10 ∨ j = 11 ∨ j = 12 ∨ j = 13 ∨ j = 14 ∨ j = 15 ∨ j = 16 ∨ j = 17 by omega) with rfl | rfl | rfl | rfl | rfl | rfl | rfl | rfl | rfl | rfl | rfl | rfl | rfl | rfl | rfl | rfl | rfl | rfl <;> rfl
theorem df_X1 : ∀ j, j < 3 → defaultValue (tyX1 j) = vp_V fs0X1 j := by
  intro j hj
  rcases (show j = 0 ∨ j = 1 ∨ j = 2 by omega) with rfl | rfl | rfl <;> rfl
theorem df_X5 : ∀ j, j < 7 → defaultValue (tyX5 j) = vp_V fs0X5 j := by
  intro j hj
  rcases (show j = 0 ∨ j = 1 ∨ j = 2 ∨ j = 3 ∨ j = 4 ∨ j = 5 ∨ j = 6 by omega) with rfl | rfl | rfl | rfl | rfl | rfl | rfl <;> rfl
theorem mn_X4_52 : Cond.fieldLinkNest RX4 52 "ShakerSweep" "SETTING_AT_FIRST" "[I" "ShakerSweep" ∈ tblA := tA (List.mem_of_getElem? (i := 152) (by decide +kernel)) rfl
def Z0 : Nat → Int32 := fun _ => 0
def ZM : MM := fun _ => Z0
def SM1 : MM := msf ZM 7 (va_cpy sAF Z0 0 0 6)
def SM2 : MM := ms (ms (ms (ms (ms (msf (msf SM1 9 (fillR Z0 0 100 (-6))) 10 (fillR Z0 0 100 (-6))) 0 11 1) 0 12 0) 0 13 0) 0 14 (-6)) 0 15 (-6)
def SM : MM := msf SM2 8 (fillR Z0 0 100 (-6))
theorem sm_run : f_X4_forgetRun 0 SM1 = some SM2 := by
  unfold f_X4_forgetRun
  rw [show FU = 4999 + 1 from rfl, f_X4_forgetRun_2, if_pos (show SM1 0 3 ≤ 0 from Int32.le_refl _), fill_ok (by omega), Option.bind_some, fill_ok (by omega), Option.bind_some]
  rfl
theorem sm_gains : f_X4_forgetGains 0 SM2 = some SM := by
  unfold f_X4_forgetGains
  rw [show FU = 4999 + 1 from rfl, f_X4_forgetGains_2, if_pos (show SM2 0 3 ≤ 0 from Int32.le_refl _), fill_ok (by omega), Option.bind_some]
  rfl
def basL (dA : Nat → ClassId) (v : Nat → Nat) (f : Nat → Option Nat) : va_W := [(v 0, cellF dA v 0 Z0), (v 1, cellF dA v 1 Z0), (v 2, cellF dA v 2 Z0), (v 3, cellF dA v 3 Z0), (v 4, cellF dA v 4 Z0), (v 5, cellF dA v 5 Z0), (v 6, .inl (dA 2, 6, .inr (.inr (.inr (.inr f))))), (v 7, cellF dA v 7 Z0), (v 8, cellF dA v 8 Z0), (v 9, cellF dA v 9 Z0), (v 10, cellF dA v 10 Z0)]
def fjS (u : Nat → Nat) (j : Nat) : Nat → Option Nat := fun c => if c < j then some (u (11 + 9 * c)) else none
theorem bkA : ∀ j, j < 7 → bk 11 11 (9 * j) := by unfold bk; decide +kernel
theorem bkB : ∀ j, j < 6 → bk 11 (11 + 9 * j) 9 := by unfold bk; decide +kernel
theorem WE.cons {a a' : Nat} {E E' : va_E} {ws ws' : va_W} (h : a = a') (h2 : ceq E E') (h3 : WE ws ws') : WE ((a, E) :: ws) ((a', E') :: ws') := WE.app (WE.one h h2) h3
theorem wl_len {dA : Nat → ClassId} {ad : Nat → Nat} {lo n : Nat} {M : MM} : (wl dA ad lo n M).length = n := by simp [wl]
theorem KW.cnt {p : Program} {l : Launch} {e : Env} {R : Room} {s : State} {m : MethodId} {args : Array Value} {below : List Frame} {meth : Method} {c : Code} {D : va_G} {nL : Nat} {A : Nat → Prop} {kc ks kc' ks' : Nat} {Q : State → Prop} {pc : Nat} {ls : List (Nat × Value)} {st : List Value} {ws : va_W} (h1 : kc = kc') (h2 : ks = ks') (k : KW p l e R s m args below meth c D nL A kc' ks' Q pc ls st ws) : KW p l e R s m args below meth c D nL A kc ks Q pc ls st ws := by
  subst h1 h2
  exact k
abbrev RmS : Room := { frames := 3, cells := 64, slots := 1867, locals := 64 }
section STL
variable {p : Program} {l : Launch} {e : Env} {s : State} {m : MethodId} {args : Array Value} {below : List Frame} {meth : Method} {c : Code} {D : va_G} {dA : Nat → ClassId} {ad0 : Nat → Nat} {A : Nat → Prop} {Q : State → Prop}
set_option maxHeartbeats 4000000 in
set_option maxRecDepth 100000 in
theorem st_loop (X : KX p s m args meth c cX4_init 2 RX4 D dA ad0 A) (v : Nat → Nat) (kk : ∀ u, KW p l e RmS s m args below meth c D 2 A 64 1867 Q 104 [(1, .int (nI 6)), (0, .ref (v 0))] [] (basL dA v (fjS u 6) ++ wl dA u 11 54 ZM)) : ∀ (d j : Nat) (u : Nat → Nat), j + d = 6 → KW p l e RmS s m args below meth c D 2 A (10 + 9 * j) (433 + 239 * j) Q 79 [(1, .int (nI j)), (0, .ref (v 0))] [] (basL dA v (fjS u j) ++ wl dA u 11 (9 * j) ZM) := by
  intro d
  induction d with
  | zero =>
    intro j u hj
    have : j = 6 := by omega
    subst this
    refine KW.iload (k0 := 0) (pc' := 80) X rfl rfl dX4_init_79 rfl ?_
    refine KW.bipush (v := 6) (pc' := 82) X rfl dX4_init_80 rfl ?_
    refine KW.icmp_ge (pc' := 85) (tgt := 104) X dX4_init_82 rfl rfl (fun _ => ?_) (fun q => absurd (show (6 : Int32) ≤ nI 6 by decide) q)
    exact kk u
  | succ d ih =>
    intro j u hj
    refine KW.iload (k0 := 0) (pc' := 80) X rfl rfl dX4_init_79 rfl ?_
    refine KW.bipush (v := 6) (pc' := 82) X rfl dX4_init_80 rfl ?_
    refine KW.icmp_ge (pc' := 85) (tgt := 104) X dX4_init_82 rfl rfl (fun q => ?_) (fun _ => ?_)
    · rw [show (6 : Int32) = nI 6 from rfl, le_nI (by omega) (by omega)] at q
      omega
    refine KW.aload (k0 := 1) (pc' := 86) X rfl rfl dX4_init_85 rfl ?_
    refine KW.getf (q0 := 0) (ci := 4) (fs := fsS v 0 Z0) (v := .ref (v 6)) (pc' := 89) X rfl rfl inX4 2 (by decide) rfl mf_X4_27 rfl dX4_init_86 rfl ?_
    refine KW.iload (k0 := 0) (pc' := 90) X rfl rfl dX4_init_89 rfl ?_
    refine KW.new (ci := 0) (fs := fs0X0) (pc' := 93) X rfl inX0 tyX0 tyX0_ok mc_X4_25 mt_X0 mi_X0 df_X0 (by show 10 + 9 * j + 1 ≤ 64; omega) (by show 433 + 239 * j + 18 ≤ 1867; omega) dX4_init_90 rfl (fun q => ?_)
    refine KW.dup (pc' := 94) X rfl dX4_init_93 rfl ?_
    refine KW.callI (pc' := 97) X kc_X0 yi_X0 (Or.inr mz_X4_51) ⟨by decide, by decide, by show 10 + 9 * j + 1 + 8 ≤ 64; omega, by show 433 + 239 * j + 18 + 221 ≤ 1867; omega⟩ (Nat.le_of_ble_eq_true rfl) dX4_init_94 rfl (fun u' hu' _ => ?_)
    subst hu'
    have hlen : (basL dA v (fjS u j) ++ wl dA u 11 (9 * j) ZM).length = 11 + 9 * j := by rw [List.length_append, wl_len]; rfl
    refine KW.aast (q0 := 6) (qk := 11 + 9 * j) (ci := 0) (t := 2) (vs := fsC u' 11 Z0) (pc' := 98) (ws' := (basL dA v (va_up (fjS u j) (ix (nI j)) (some (u' 11))) ++ wl dA u 11 (9 * j) ZM) ++ wl dA u' 11 9 ZM) X rfl rfl (by rw [List.getElem?_append_right (by omega), hlen, Nat.sub_self]; rfl) rfl (inb_vp (inb_nI (by omega) (by omega))) rfl dX4_init_97 rfl ?_
    refine KW.iinc (z := 1) (k0 := 0) (v := nI (j + 1)) (ls' := [(1, .int (nI (j + 1))), (0, .ref (v 0))]) (pc' := 101) X rfl (show nI j + Int32.ofInt 1 = nI (j + 1) from nI_1 j) (by decide) rfl dX4_init_98 rfl ?_
    refine KW.goto (pc' := 79) X dX4_init_101 rfl ?_
    have hu2 : ∀ k, k < 11 + 9 * j → (fun k => if k < 11 + 9 * j then u k else u' (k - 9 * j)) k = u k := fun k hk => if_pos hk
    have hu3 : ∀ k, ¬ k < 11 + 9 * j → (fun k => if k < 11 + 9 * j then u k else u' (k - 9 * j)) k = u' (k - 9 * j) := fun k hk => if_neg hk
    generalize (fun k => if k < 11 + 9 * j then u k else u' (k - 9 * j)) = u2 at hu2 hu3
    have hf : va_up (fjS u j) (ix (nI j)) (some (u' 11)) = fjS u2 (j + 1) := by
      funext x
      unfold va_up fjS
      rw [ix_nI (by omega)]
      by_cases z : x = j
      · subst z
        rw [if_pos rfl, if_pos (by omega), hu3 _ (by omega)]
        congr 2
        omega
      · rw [if_neg z]
        by_cases y : x < j
        · rw [if_pos y, if_pos (by omega), hu2 _ (by omega)]
        · rw [if_neg y, if_neg (by omega)]
    rw [hf]
    refine KW.we (ws' := basL dA v (fjS u2 (j + 1)) ++ wl dA u2 11 (9 * (j + 1)) ZM) ?_ (KW.cnt (by omega) (by omega) (ih (j + 1) u2 (by omega)))
    rw [show 9 * (j + 1) = 9 * j + 9 by omega, wl_app, List.append_assoc]
    refine WE.app WE.rf (WE.app (WE.blk (bkA j (by omega)) (fun i hi => (hu2 _ (by omega)).symm) (fun _ _ => rfl)) (WE.blk (bkB j (by omega)) (fun i hi => ?_) (fun _ _ => rfl)))
    rw [hu3 _ (by omega)]
    congr 1
    omega
end STL
set_option maxHeartbeats 4000000 in
set_option maxRecDepth 100000 in
theorem kc_X4 : KC yX4_init cX4_init 2 3 64 64 1867 0 65 4 fs0X4 SM := by
  refine KC.of (by decide) rfl (by decide) (fun p l e s m args below meth c D dA ad0 A h X hr hin => ?_)
  replace X : KX p s m args meth c cX4_init 2 RX4 D dA ad0 A := X
  refine KW.aload (k0 := 0) (pc' := 1) X rfl rfl dX4_init_0 rfl ?_
  refine KW.objInit (pc' := 4) X mo_X4 ⟨by decide, by decide⟩ dX4_init_1 rfl ?_
  refine KW.aload (k0 := 0) (pc' := 5) X rfl rfl dX4_init_4 rfl ?_
  refine KW.new (ci := 2) (fs := fs0X2) (pc' := 8) X rfl inX2 tyX2 tyX2_ok mc_X4_9 mt_X2 mi_X2 df_X2 (Nat.le_of_ble_eq_true rfl) (Nat.le_of_ble_eq_true rfl) dX4_init_5 rfl (fun q => ?_)
  refine KW.dup (pc' := 9) X rfl dX4_init_8 rfl ?_
  refine KW.callI (pc' := 12) X kc_X2 yi_X2 (Or.inr mz_X4_11) ⟨by decide, by decide, Nat.le_of_ble_eq_true rfl, Nat.le_of_ble_eq_true rfl⟩ (Nat.le_of_ble_eq_true rfl) dX4_init_9 rfl (fun u1 hu1 _ => ?_)
  subst hu1
  refine KW.putF (q0 := 0) (ty := tyX4 0) (ws' := (h, .inr (4, [.ref (u1 1), .null, .null, .int 0, .null, .null, .null, .null, .int 0, .int 0, .int 0, .int 0, .int 0, .int 0, .int 0, .int 0, .int 0])) :: (wl dA u1 1 2 ZM)) (pc' := 15) X hin rfl rfl inX4 tyX4 tyX4_ok nmX4 0 (by decide) rfl mf_X4_12 rfl (tyX4_ok 0 (by decide)) rfl rfl (Nat.le_of_ble_eq_true rfl) rfl dX4_init_12 rfl ?_
  refine KW.aload (k0 := 0) (pc' := 16) X rfl rfl dX4_init_15 rfl ?_
  refine KW.new (ci := 3) (fs := fs0X3) (pc' := 19) X rfl inX3 tyX3 tyX3_ok mc_X4_18 mt_X3 mi_X3 df_X3 (Nat.le_of_ble_eq_true rfl) (Nat.le_of_ble_eq_true rfl) dX4_init_16 rfl (fun q => ?_)
  refine KW.dup (pc' := 20) X rfl dX4_init_19 rfl ?_
  refine KW.callI (pc' := 23) X kc_X3 yi_X3 (Or.inr mz_X4_20) ⟨by decide, by decide, Nat.le_of_ble_eq_true rfl, Nat.le_of_ble_eq_true rfl⟩ (Nat.le_of_ble_eq_true rfl) dX4_init_20 rfl (fun u3 hu3 _ => ?_)
  subst hu3
  refine KW.putF (q0 := 0) (ty := tyX4 1) (ws' := (h, .inr (4, [.ref (u1 1), .ref (u3 3), .null, .int 0, .null, .null, .null, .null, .int 0, .int 0, .int 0, .int 0, .int 0, .int 0, .int 0, .int 0, .int 0])) :: (wl dA u1 1 2 ZM ++ wl dA u3 3 3 ZM)) (pc' := 26) X hin rfl rfl inX4 tyX4 tyX4_ok nmX4 1 (by decide) rfl mf_X4_21 rfl (tyX4_ok 1 (by decide)) rfl rfl (Nat.le_of_ble_eq_true rfl) rfl dX4_init_23 rfl ?_
  refine KW.aload (k0 := 0) (pc' := 27) X rfl rfl dX4_init_26 rfl ?_
  refine KW.bipush (v := 6) (pc' := 29) X rfl dX4_init_27 rfl ?_
  refine KW.newq (N := 6) (t := 2) (pc' := 32) X (Or.inl ⟨rfl, rfl⟩) mc_X4_25 (by decide) rfl (by decide) (Nat.le_of_ble_eq_true rfl) (Nat.le_of_ble_eq_true rfl) dX4_init_29 rfl (fun q6 => ?_)
  refine KW.putF (q0 := 0) (ty := tyX4 2) (ws' := (h, .inr (4, [.ref (u1 1), .ref (u3 3), .ref q6, .int 0, .null, .null, .null, .null, .int 0, .int 0, .int 0, .int 0, .int 0, .int 0, .int 0, .int 0, .int 0])) :: (wl dA u1 1 2 ZM ++ wl dA u3 3 3 ZM ++ [(q6, .inl (dA 2, 6, .inr (.inr (.inr (.inr (fun _ => none))))))])) (pc' := 35) X hin rfl rfl inX4 tyX4 tyX4_ok nmX4 2 (by decide) rfl mf_X4_27 rfl (tyX4_ok 2 (by decide)) rfl rfl (Nat.le_of_ble_eq_true rfl) rfl dX4_init_32 rfl ?_
  refine KW.aload (k0 := 0) (pc' := 36) X rfl rfl dX4_init_35 rfl ?_
  refine KW.bipush (v := 6) (pc' := 38) X rfl dX4_init_36 rfl ?_
  refine KW.newi (N := 6) (pc' := 40) X (by decide) rfl (by decide) (Nat.le_of_ble_eq_true rfl) (Nat.le_of_ble_eq_true rfl) dX4_init_38 rfl (fun q7 => ?_)
  refine KW.putF (q0 := 0) (ty := tyX4 4) (ws' := (h, .inr (4, [.ref (u1 1), .ref (u3 3), .ref q6, .int 0, .ref q7, .null, .null, .null, .int 0, .int 0, .int 0, .int 0, .int 0, .int 0, .int 0, .int 0, .int 0])) :: (wl dA u1 1 2 ZM ++ wl dA u3 3 3 ZM ++ [(q6, .inl (dA 2, 6, .inr (.inr (.inr (.inr (fun _ => none))))))] ++ [(q7, .inl (dA 0, 6, .inl (fun _ => 0)))])) (pc' := 43) X hin rfl rfl inX4 tyX4 tyX4_ok nmX4 4 (by decide) rfl mf_X4_31 rfl (tyX4_ok 4 (by decide)) rfl rfl (Nat.le_of_ble_eq_true rfl) rfl dX4_init_40 rfl ?_
  refine KW.aload (k0 := 0) (pc' := 44) X rfl rfl dX4_init_43 rfl ?_
  refine KW.bipush (v := 100) (pc' := 46) X rfl dX4_init_44 rfl ?_
  refine KW.newi (N := 100) (pc' := 48) X (by decide) rfl (by decide) (Nat.le_of_ble_eq_true rfl) (Nat.le_of_ble_eq_true rfl) dX4_init_46 rfl (fun q8 => ?_)
  refine KW.putF (q0 := 0) (ty := tyX4 5) (ws' := (h, .inr (4, [.ref (u1 1), .ref (u3 3), .ref q6, .int 0, .ref q7, .ref q8, .null, .null, .int 0, .int 0, .int 0, .int 0, .int 0, .int 0, .int 0, .int 0, .int 0])) :: (wl dA u1 1 2 ZM ++ wl dA u3 3 3 ZM ++ [(q6, .inl (dA 2, 6, .inr (.inr (.inr (.inr (fun _ => none))))))] ++ [(q7, .inl (dA 0, 6, .inl (fun _ => 0)))] ++ [(q8, .inl (dA 0, 100, .inl (fun _ => 0)))])) (pc' := 51) X hin rfl rfl inX4 tyX4 tyX4_ok nmX4 5 (by decide) rfl mf_X4_35 rfl (tyX4_ok 5 (by decide)) rfl rfl (Nat.le_of_ble_eq_true rfl) rfl dX4_init_48 rfl ?_
  refine KW.aload (k0 := 0) (pc' := 52) X rfl rfl dX4_init_51 rfl ?_
  refine KW.bipush (v := 100) (pc' := 54) X rfl dX4_init_52 rfl ?_
  refine KW.newi (N := 100) (pc' := 56) X (by decide) rfl (by decide) (Nat.le_of_ble_eq_true rfl) (Nat.le_of_ble_eq_true rfl) dX4_init_54 rfl (fun q9 => ?_)
  refine KW.putF (q0 := 0) (ty := tyX4 6) (ws' := (h, .inr (4, [.ref (u1 1), .ref (u3 3), .ref q6, .int 0, .ref q7, .ref q8, .ref q9, .null, .int 0, .int 0, .int 0, .int 0, .int 0, .int 0, .int 0, .int 0, .int 0])) :: (wl dA u1 1 2 ZM ++ wl dA u3 3 3 ZM ++ [(q6, .inl (dA 2, 6, .inr (.inr (.inr (.inr (fun _ => none))))))] ++ [(q7, .inl (dA 0, 6, .inl (fun _ => 0)))] ++ [(q8, .inl (dA 0, 100, .inl (fun _ => 0)))] ++ [(q9, .inl (dA 0, 100, .inl (fun _ => 0)))])) (pc' := 59) X hin rfl rfl inX4 tyX4 tyX4_ok nmX4 6 (by decide) rfl mf_X4_38 rfl (tyX4_ok 6 (by decide)) rfl rfl (Nat.le_of_ble_eq_true rfl) rfl dX4_init_56 rfl ?_
  refine KW.aload (k0 := 0) (pc' := 60) X rfl rfl dX4_init_59 rfl ?_
  refine KW.bipush (v := 100) (pc' := 62) X rfl dX4_init_60 rfl ?_
  refine KW.newi (N := 100) (pc' := 64) X (by decide) rfl (by decide) (Nat.le_of_ble_eq_true rfl) (Nat.le_of_ble_eq_true rfl) dX4_init_62 rfl (fun q10 => ?_)
  refine KW.putF (q0 := 0) (ty := tyX4 7) (ws' := (h, .inr (4, [.ref (u1 1), .ref (u3 3), .ref q6, .int 0, .ref q7, .ref q8, .ref q9, .ref q10, .int 0, .int 0, .int 0, .int 0, .int 0, .int 0, .int 0, .int 0, .int 0])) :: (wl dA u1 1 2 ZM ++ wl dA u3 3 3 ZM ++ [(q6, .inl (dA 2, 6, .inr (.inr (.inr (.inr (fun _ => none))))))] ++ [(q7, .inl (dA 0, 6, .inl (fun _ => 0)))] ++ [(q8, .inl (dA 0, 100, .inl (fun _ => 0)))] ++ [(q9, .inl (dA 0, 100, .inl (fun _ => 0)))] ++ [(q10, .inl (dA 0, 100, .inl (fun _ => 0)))])) (pc' := 67) X hin rfl rfl inX4 tyX4 tyX4_ok nmX4 7 (by decide) rfl mf_X4_41 rfl (tyX4_ok 7 (by decide)) rfl rfl (Nat.le_of_ble_eq_true rfl) rfl dX4_init_64 rfl ?_
  refine KW.aload (k0 := 0) (pc' := 68) X rfl rfl dX4_init_67 rfl ?_
  refine KW.iconst (v := 0) (pc' := 69) X rfl dX4_init_68 rfl ?_
  refine KW.put (q0 := 0) (ty := tyX4 8) (ws' := (h, .inr (4, [.ref (u1 1), .ref (u3 3), .ref q6, .int 0, .ref q7, .ref q8, .ref q9, .ref q10, .int 0, .int 0, .int 0, .int 0, .int 0, .int 0, .int 0, .int 0, .int 0])) :: (wl dA u1 1 2 ZM ++ wl dA u3 3 3 ZM ++ [(q6, .inl (dA 2, 6, .inr (.inr (.inr (.inr (fun _ => none))))))] ++ [(q7, .inl (dA 0, 6, .inl (fun _ => 0)))] ++ [(q8, .inl (dA 0, 100, .inl (fun _ => 0)))] ++ [(q9, .inl (dA 0, 100, .inl (fun _ => 0)))] ++ [(q10, .inl (dA 0, 100, .inl (fun _ => 0)))])) (pc' := 72) X rfl rfl inX4 tyX4 tyX4_ok nmX4 8 (by decide) rfl mf_X4_44 rfl (tyX4_ok 8 (by decide)) rfl rfl (Nat.le_of_ble_eq_true rfl) rfl dX4_init_69 rfl ?_
  refine KW.aload (k0 := 0) (pc' := 73) X rfl rfl dX4_init_72 rfl ?_
  refine KW.iconst (v := 0) (pc' := 74) X rfl dX4_init_73 rfl ?_
  refine KW.put (q0 := 0) (ty := tyX4 16) (ws' := (h, .inr (4, [.ref (u1 1), .ref (u3 3), .ref q6, .int 0, .ref q7, .ref q8, .ref q9, .ref q10, .int 0, .int 0, .int 0, .int 0, .int 0, .int 0, .int 0, .int 0, .int 0])) :: (wl dA u1 1 2 ZM ++ wl dA u3 3 3 ZM ++ [(q6, .inl (dA 2, 6, .inr (.inr (.inr (.inr (fun _ => none))))))] ++ [(q7, .inl (dA 0, 6, .inl (fun _ => 0)))] ++ [(q8, .inl (dA 0, 100, .inl (fun _ => 0)))] ++ [(q9, .inl (dA 0, 100, .inl (fun _ => 0)))] ++ [(q10, .inl (dA 0, 100, .inl (fun _ => 0)))])) (pc' := 77) X rfl rfl inX4 tyX4 tyX4_ok nmX4 16 (by decide) rfl mf_X4_48 rfl (tyX4_ok 16 (by decide)) rfl rfl (Nat.le_of_ble_eq_true rfl) rfl dX4_init_74 rfl ?_
  refine KW.iconst (v := 0) (pc' := 78) X rfl dX4_init_77 rfl ?_
  refine KW.istore (ls' := [(1, .int 0), (0, .ref h)]) (pc' := 79) X rfl (by decide) rfl dX4_init_78 rfl ?_
  obtain ⟨v, hv⟩ : ∃ v : Nat → Nat, v = fun k => [h, u1 1, u1 2, u3 3, u3 4, u3 5, q6, q7, q8, q9, q10].getD k 0 := ⟨_, rfl⟩
  have v0 : h = v 0 := by rw [hv]; rfl
  refine KW.we (ws' := basL dA v (fjS u1 0) ++ wl dA u1 11 (9 * 0) ZM) ?_ ?_
  · subst hv
    exact WE.rf
  rw [v0]
  refine st_loop X v (fun u => ?_) 6 0 u1 rfl
  obtain ⟨ad, had⟩ : ∃ ad : Nat → Nat, ad = fun k => if 1000 ≤ k then ad0 k else if k < 11 then v k else u k := ⟨_, rfl⟩
  have a0 : ∀ k, 1000 ≤ k → ad k = ad0 k := fun k hk => by rw [had]; exact if_pos hk
  have a1 : ∀ k, k < 11 → ad k = v k := fun k hk => by rw [had]; exact (if_neg (by omega)).trans (if_pos hk)
  have a2 : ∀ k, 11 ≤ k → k < 1000 → ad k = u k := fun k h1 h2 => by rw [had]; exact (if_neg (by omega)).trans (if_neg (by omega))
  clear had
  have sh : ∀ i d, i + d < 11 → v (i + d) = ad (i + d) := fun i d hd => (a1 _ hd).symm
  refine KW.we (ws' := wl dA ad 0 65 ZM) ?_ ?_
  · rw [show (65 : Nat) = 11 + 54 from rfl, wl_app]
    refine WE.app ?_ (WE.blk (bkA 6 (by omega)) (fun i hi => by rw [Nat.zero_add]; exact (a2 _ (by omega) (by omega)).symm) (fun _ _ => rfl))
    refine WE.cons (sh 0 0 (by omega)) (cell_sh rfl (by decide) (fun d hd => sh 0 d (by have : wdk (kd 0).1 = 10 := rfl; omega))) ?_
    refine WE.cons (sh 1 0 (by omega)) (cell_sh rfl (by decide) (fun d hd => sh 1 d (by have : wdk (kd 1).1 = 1 := rfl; omega))) ?_
    refine WE.cons (sh 2 0 (by omega)) (cell_sh rfl (by decide) (fun d hd => sh 2 d (by have : wdk (kd 2).1 = 0 := rfl; omega))) ?_
    refine WE.cons (sh 3 0 (by omega)) (cell_sh rfl (by decide) (fun d hd => sh 3 d (by have : wdk (kd 3).1 = 2 := rfl; omega))) ?_
    refine WE.cons (sh 4 0 (by omega)) (cell_sh rfl (by decide) (fun d hd => sh 4 d (by have : wdk (kd 4).1 = 0 := rfl; omega))) ?_
    refine WE.cons (sh 5 0 (by omega)) (cell_sh rfl (by decide) (fun d hd => sh 5 d (by have : wdk (kd 5).1 = 0 := rfl; omega))) ?_
    refine WE.cons (sh 6 0 (by omega)) (Or.inr ⟨dA 2, 6, fjS u 6, chA ad 6, rfl, rfl, fun q hq => ?_⟩) ?_
    · unfold fjS chA
      rw [if_pos hq, a2 _ (by omega) (by omega)]
    refine WE.cons (sh 7 0 (by omega)) (cell_sh rfl (by decide) (fun d hd => sh 7 d (by have : wdk (kd 7).1 = 0 := rfl; omega))) ?_
    refine WE.cons (sh 8 0 (by omega)) (cell_sh rfl (by decide) (fun d hd => sh 8 d (by have : wdk (kd 8).1 = 0 := rfl; omega))) ?_
    refine WE.cons (sh 9 0 (by omega)) (cell_sh rfl (by decide) (fun d hd => sh 9 d (by have : wdk (kd 9).1 = 0 := rfl; omega))) ?_
    exact WE.cons (sh 10 0 (by omega)) (cell_sh rfl (by decide) (fun d hd => sh 10 d (by have : wdk (kd 10).1 = 0 := rfl; omega))) WE.rf
  have t0 : tSt 0 65 0 := ⟨by omega, by omega, rfl⟩
  rw [← a1 0 (by omega)]
  refine KW.aw (ls' := [(1, .int (nI 6)), (0, .ref 0)]) (st' := []) X a0 rfl rfl (fun Y => ?_)
  refine AW.gsA (pc' := 107) Y mn_X4_52 dX4_init_104 rfl ?_
  refine AW.aload_n (k0 := 1) (pc' := 108) Y rfl rfl dX4_init_107 rfl ?_
  refine AW.gX4 (v := .ref (0 + 7)) (pc' := 111) Y t0 4 (by decide) rfl mf_X4_31 rfl dX4_init_108 rfl ?_
  refine AW.callN (As := [.ref 1002, .ref (0 + 7)]) (rest := []) (rv := none) (M' := SM1) (pc' := 114) Y (ok_copyRowA (rS7 t0)) yv_X6_copyRow mn_X4_55 ⟨by decide, by decide, by decide, by decide⟩ rfl (Nat.le_of_ble_eq_true rfl) rfl rfl dX4_init_111 rfl ?_
  refine AW.aload_n (k0 := 1) (pc' := 115) Y rfl rfl dX4_init_114 rfl ?_
  refine AW.callV (As := []) (rest := []) (rv := none) (M' := SM2) (pc' := 118) Y (ok_X4_forgetRun t0 sm_run) yv_X4_forgetRun t0.1 t0.2.1 (cS t0 dA ad _) rfl rfl ml_X4_59 ⟨by decide, by decide, by decide, by decide⟩ rfl (Nat.le_of_ble_eq_true rfl) rfl rfl dX4_init_115 rfl ?_
  refine AW.aload_n (k0 := 1) (pc' := 119) Y rfl rfl dX4_init_118 rfl ?_
  refine AW.callV (As := []) (rest := []) (rv := none) (M' := SM) (pc' := 122) Y (ok_X4_forgetGains t0 sm_gains) yv_X4_forgetGains t0.1 t0.2.1 (cS t0 dA ad _) rfl rfl ml_X4_62 ⟨by decide, by decide, by decide, by decide⟩ rfl (Nat.le_of_ble_eq_true rfl) rfl rfl dX4_init_119 rfl ?_
  exact AW.kret Y hr rfl a0 dX4_init_122
