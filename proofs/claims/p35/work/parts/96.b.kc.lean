/-! CONSTRUCTORS: words, and those that make rows alone (Channel, Lines, Profile, Text) -/
theorem mo_X0 : Cond.methodLink RX0 3 objectInit ∈ tblA := tA (List.mem_of_getElem? (i := 90) (by decide +kernel)) rfl
theorem mo_X1 : Cond.methodLink RX1 3 objectInit ∈ tblA := tA (List.mem_of_getElem? (i := 249) (by decide +kernel)) rfl
theorem mo_X2 : Cond.methodLink RX2 3 objectInit ∈ tblA := tA (List.mem_of_getElem? (i := 54) (by decide +kernel)) rfl
theorem mo_X3 : Cond.methodLink RX3 3 objectInit ∈ tblA := tA (List.mem_of_getElem? (i := 72) (by decide +kernel)) rfl
theorem mo_X4 : Cond.methodLink RX4 3 objectInit ∈ tblA := tA (List.mem_of_getElem? (i := 48) (by decide +kernel)) rfl
theorem mo_X5 : Cond.methodLink RX5 3 objectInit ∈ tblA := tA (List.mem_of_getElem? (i := 269) (by decide +kernel)) rfl
theorem mo_X6 : Cond.methodLink RX6 1 objectInit ∈ tblA := tA (List.mem_of_getElem? (i := 40) (by decide +kernel)) rfl
theorem mi_X0 : Cond.initialized RX0 ∈ tblA := tA (List.mem_of_getElem? (i := 29) (by decide +kernel)) rfl
theorem yi_X0 : YI yX0_init cX0_init 1 := ⟨tA (List.mem_of_getElem? (i := 88) (by decide +kernel)) rfl, mi_X0, tA (List.mem_of_getElem? (i := 89) (by decide +kernel)) rfl, rfl, ⟨by decide, by decide, by decide +kernel⟩⟩
theorem mi_X1 : Cond.initialized RX1 ∈ tblA := tA (List.mem_of_getElem? (i := 33) (by decide +kernel)) rfl
theorem yi_X1 : YI yX1_init cX1_init 2 := ⟨tA (List.mem_of_getElem? (i := 247) (by decide +kernel)) rfl, mi_X1, tA (List.mem_of_getElem? (i := 248) (by decide +kernel)) rfl, rfl, ⟨by decide, by decide, by decide +kernel⟩⟩
theorem mi_X2 : Cond.initialized RX2 ∈ tblA := tA (List.mem_of_getElem? (i := 27) (by decide +kernel)) rfl
theorem yi_X2 : YI yX2_init cX2_init 1 := ⟨tA (List.mem_of_getElem? (i := 52) (by decide +kernel)) rfl, mi_X2, tA (List.mem_of_getElem? (i := 53) (by decide +kernel)) rfl, rfl, ⟨by decide, by decide, by decide +kernel⟩⟩
theorem mi_X3 : Cond.initialized RX3 ∈ tblA := tA (List.mem_of_getElem? (i := 28) (by decide +kernel)) rfl
theorem yi_X3 : YI yX3_init cX3_init 1 := ⟨tA (List.mem_of_getElem? (i := 70) (by decide +kernel)) rfl, mi_X3, tA (List.mem_of_getElem? (i := 71) (by decide +kernel)) rfl, rfl, ⟨by decide, by decide, by decide +kernel⟩⟩
theorem mi_X4 : Cond.initialized RX4 ∈ tblA := tA (List.mem_of_getElem? (i := 26) (by decide +kernel)) rfl
theorem yi_X4 : YI yX4_init cX4_init 2 := ⟨tA (List.mem_of_getElem? (i := 46) (by decide +kernel)) rfl, mi_X4, tA (List.mem_of_getElem? (i := 47) (by decide +kernel)) rfl, rfl, ⟨by decide, by decide, by decide +kernel⟩⟩
theorem mi_X5 : Cond.initialized RX5 ∈ tblA := tA (List.mem_of_getElem? (i := 34) (by decide +kernel)) rfl
theorem yi_X5 : YI yX5_init cX5_init 1 := ⟨tA (List.mem_of_getElem? (i := 267) (by decide +kernel)) rfl, mi_X5, tA (List.mem_of_getElem? (i := 268) (by decide +kernel)) rfl, rfl, ⟨by decide, by decide, by decide +kernel⟩⟩
theorem mi_X6 : Cond.initialized RX6 ∈ tblA := tA (List.mem_of_getElem? (i := 25) (by decide +kernel)) rfl
theorem yi_X6 : YI yX6_init cX6_init 2 := ⟨tA (List.mem_of_getElem? (i := 38) (by decide +kernel)) rfl, mi_X6, tA (List.mem_of_getElem? (i := 39) (by decide +kernel)) rfl, rfl, ⟨by decide, by decide, by decide +kernel⟩⟩
theorem mt_X6 : Cond.instantiable RX6 6 ∈ tblA := tA (List.mem_of_getElem? (i := 36) (by decide +kernel)) rfl
theorem mt_X4 : Cond.instantiable RX4 17 ∈ tblA := tA (List.mem_of_getElem? (i := 44) (by decide +kernel)) rfl
theorem mt_X2 : Cond.instantiable RX2 2 ∈ tblA := tA (List.mem_of_getElem? (i := 50) (by decide +kernel)) rfl
theorem mt_X3 : Cond.instantiable RX3 3 ∈ tblA := tA (List.mem_of_getElem? (i := 68) (by decide +kernel)) rfl
theorem mt_X0 : Cond.instantiable RX0 18 ∈ tblA := tA (List.mem_of_getElem? (i := 86) (by decide +kernel)) rfl
theorem mt_X1 : Cond.instantiable RX1 3 ∈ tblA := tA (List.mem_of_getElem? (i := 245) (by decide +kernel)) rfl
theorem mt_X5 : Cond.instantiable RX5 7 ∈ tblA := tA (List.mem_of_getElem? (i := 265) (by decide +kernel)) rfl
theorem mc_L_7 : Cond.classLink RL 9 RX6 ∈ tblA := tA (List.mem_of_getElem? (i := 35) (by decide +kernel)) rfl
theorem mc_X6_7 : Cond.classLink RX6 7 RX4 ∈ tblA := tA (List.mem_of_getElem? (i := 43) (by decide +kernel)) rfl
theorem mc_X6_19 : Cond.classLink RX6 19 RX1 ∈ tblA := tA (List.mem_of_getElem? (i := 244) (by decide +kernel)) rfl
theorem mc_X6_34 : Cond.classLink RX6 34 RX5 ∈ tblA := tA (List.mem_of_getElem? (i := 264) (by decide +kernel)) rfl
theorem mc_X1_11 : Cond.classLink RX1 11 RX4 ∈ tblA := tA (List.mem_of_getElem? (i := 250) (by decide +kernel)) rfl
theorem mc_X4_9 : Cond.classLink RX4 9 RX2 ∈ tblA := tA (List.mem_of_getElem? (i := 49) (by decide +kernel)) rfl
theorem mc_X4_18 : Cond.classLink RX4 18 RX3 ∈ tblA := tA (List.mem_of_getElem? (i := 67) (by decide +kernel)) rfl
theorem mc_X4_25 : Cond.classLink RX4 25 RX0 ∈ tblA := tA (List.mem_of_getElem? (i := 84) (by decide +kernel)) rfl
theorem mz_L_9 : Cond.methodLink RL 122 yX6_init ∈ tblA := tA (List.mem_of_getElem? (i := 37) (by decide +kernel)) rfl
theorem mz_X6_9 : Cond.methodLink RX6 9 yX4_init ∈ tblA := tA (List.mem_of_getElem? (i := 45) (by decide +kernel)) rfl
theorem mz_X6_21 : Cond.methodLink RX6 21 yX1_init ∈ tblA := tA (List.mem_of_getElem? (i := 246) (by decide +kernel)) rfl
theorem mz_X6_36 : Cond.methodLinkNest RX6 36 yX5_init "ShakerSweep" ∈ tblA := tA (List.mem_of_getElem? (i := 266) (by decide +kernel)) rfl
theorem mz_X1_17 : Cond.methodLink RX1 17 yX4_init ∈ tblA := tA (List.mem_of_getElem? (i := 252) (by decide +kernel)) rfl
theorem mz_X4_11 : Cond.methodLinkNest RX4 11 yX2_init "ShakerSweep" ∈ tblA := tA (List.mem_of_getElem? (i := 51) (by decide +kernel)) rfl
theorem mz_X4_20 : Cond.methodLinkNest RX4 20 yX3_init "ShakerSweep" ∈ tblA := tA (List.mem_of_getElem? (i := 69) (by decide +kernel)) rfl
theorem mz_X4_51 : Cond.methodLinkNest RX4 51 yX0_init "ShakerSweep" ∈ tblA := tA (List.mem_of_getElem? (i := 87) (by decide +kernel)) rfl
def fs0X0 : List Value := [.int 0, .int 0, .int 0, .null, .null, .null, .null, .null, .null, .int 0, .null, .null, .int 0, .int 0, .int 0, .int 0, .int 0, .int 0]
def fs0X2 : List Value := [.null, .int 0]
def fs0X3 : List Value := [.null, .null, .int 0]
def fs0X5 : List Value := [.null, .int 0, .int 0, .int 0, .int 0, .int 0, .int 0]
def fs0X1 : List Value := [.null, .int 0, .int 0]
def fs0X4 : List Value := [.null, .null, .null, .int 0, .null, .null, .null, .null, .int 0, .int 0, .int 0, .int 0, .int 0, .int 0, .int 0, .int 0, .int 0]
def fs0X6 : List Value := [.null, .null, .null, .null, .null, .null]
set_option maxHeartbeats 4000000 in
set_option maxRecDepth 100000 in
theorem kc_X0 : KC yX0_init cX0_init 1 1 40 8 221 11 9 0 fs0X0 (fun _ _ => 0) := by
  refine KC.of (by decide) rfl (by decide) (fun p l e s m args below meth c D dA ad0 A h X hr hin => ?_)
  replace X : KX p s m args meth c cX0_init 1 RX0 D dA ad0 A := X
  refine KW.aload (k0 := 0) (pc' := 1) X rfl rfl dX0_init_0 rfl ?_
  refine KW.objInit (pc' := 4) X mo_X0 ⟨by decide, by decide⟩ dX0_init_1 rfl ?_
  refine KW.aload (k0 := 0) (pc' := 5) X rfl rfl dX0_init_4 rfl ?_
  refine KW.iconst (v := 3) (pc' := 6) X rfl dX0_init_5 rfl ?_
  refine KW.newi (N := 3) (pc' := 8) X (by decide) rfl (by decide) (Nat.le_of_ble_eq_true rfl) (Nat.le_of_ble_eq_true rfl) dX0_init_6 rfl (fun q1 => ?_)
  refine KW.putF (q0 := 0) (ty := .array .int) (ws' := [(h, .inr (0, [.int 0, .int 0, .int 0, .ref q1, .null, .null, .null, .null, .null, .int 0, .null, .null, .int 0, .int 0, .int 0, .int 0, .int 0, .int 0])), (q1, .inl (dA 0, 3, .inl (fun _ => 0)))]) (pc' := 11) X hin rfl rfl inX0 tyX0 tyX0_ok nmX0 3 (by decide) rfl mf_X0_9 rfl (tyX0_ok 3 (by decide)) rfl rfl (Nat.le_of_ble_eq_true rfl) rfl dX0_init_8 rfl ?_
  refine KW.aload (k0 := 0) (pc' := 12) X rfl rfl dX0_init_11 rfl ?_
  refine KW.iconst (v := 3) (pc' := 13) X rfl dX0_init_12 rfl ?_
  refine KW.newi (N := 3) (pc' := 15) X (by decide) rfl (by decide) (Nat.le_of_ble_eq_true rfl) (Nat.le_of_ble_eq_true rfl) dX0_init_13 rfl (fun q2 => ?_)
  refine KW.putF (q0 := 0) (ty := .array .int) (ws' := [(h, .inr (0, [.int 0, .int 0, .int 0, .ref q1, .ref q2, .null, .null, .null, .null, .int 0, .null, .null, .int 0, .int 0, .int 0, .int 0, .int 0, .int 0])), (q1, .inl (dA 0, 3, .inl (fun _ => 0))), (q2, .inl (dA 0, 3, .inl (fun _ => 0)))]) (pc' := 18) X hin rfl rfl inX0 tyX0 tyX0_ok nmX0 4 (by decide) rfl mf_X0_15 rfl (tyX0_ok 4 (by decide)) rfl rfl (Nat.le_of_ble_eq_true rfl) rfl dX0_init_15 rfl ?_
  refine KW.aload (k0 := 0) (pc' := 19) X rfl rfl dX0_init_18 rfl ?_
  refine KW.iconst (v := 3) (pc' := 20) X rfl dX0_init_19 rfl ?_
  refine KW.newi (N := 3) (pc' := 22) X (by decide) rfl (by decide) (Nat.le_of_ble_eq_true rfl) (Nat.le_of_ble_eq_true rfl) dX0_init_20 rfl (fun q3 => ?_)
  refine KW.putF (q0 := 0) (ty := .array .int) (ws' := [(h, .inr (0, [.int 0, .int 0, .int 0, .ref q1, .ref q2, .ref q3, .null, .null, .null, .int 0, .null, .null, .int 0, .int 0, .int 0, .int 0, .int 0, .int 0])), (q1, .inl (dA 0, 3, .inl (fun _ => 0))), (q2, .inl (dA 0, 3, .inl (fun _ => 0))), (q3, .inl (dA 0, 3, .inl (fun _ => 0)))]) (pc' := 25) X hin rfl rfl inX0 tyX0 tyX0_ok nmX0 5 (by decide) rfl mf_X0_18 rfl (tyX0_ok 5 (by decide)) rfl rfl (Nat.le_of_ble_eq_true rfl) rfl dX0_init_22 rfl ?_
  refine KW.aload (k0 := 0) (pc' := 26) X rfl rfl dX0_init_25 rfl ?_
  refine KW.iconst (v := 4) (pc' := 27) X rfl dX0_init_26 rfl ?_
  refine KW.newi (N := 4) (pc' := 29) X (by decide) rfl (by decide) (Nat.le_of_ble_eq_true rfl) (Nat.le_of_ble_eq_true rfl) dX0_init_27 rfl (fun q4 => ?_)
  refine KW.putF (q0 := 0) (ty := .array .int) (ws' := [(h, .inr (0, [.int 0, .int 0, .int 0, .ref q1, .ref q2, .ref q3, .ref q4, .null, .null, .int 0, .null, .null, .int 0, .int 0, .int 0, .int 0, .int 0, .int 0])), (q1, .inl (dA 0, 3, .inl (fun _ => 0))), (q2, .inl (dA 0, 3, .inl (fun _ => 0))), (q3, .inl (dA 0, 3, .inl (fun _ => 0))), (q4, .inl (dA 0, 4, .inl (fun _ => 0)))]) (pc' := 32) X hin rfl rfl inX0 tyX0 tyX0_ok nmX0 6 (by decide) rfl mf_X0_21 rfl (tyX0_ok 6 (by decide)) rfl rfl (Nat.le_of_ble_eq_true rfl) rfl dX0_init_29 rfl ?_
  refine KW.aload (k0 := 0) (pc' := 33) X rfl rfl dX0_init_32 rfl ?_
  refine KW.iconst (v := 4) (pc' := 34) X rfl dX0_init_33 rfl ?_
  refine KW.newi (N := 4) (pc' := 36) X (by decide) rfl (by decide) (Nat.le_of_ble_eq_true rfl) (Nat.le_of_ble_eq_true rfl) dX0_init_34 rfl (fun q5 => ?_)
  refine KW.putF (q0 := 0) (ty := .array .int) (ws' := [(h, .inr (0, [.int 0, .int 0, .int 0, .ref q1, .ref q2, .ref q3, .ref q4, .ref q5, .null, .int 0, .null, .null, .int 0, .int 0, .int 0, .int 0, .int 0, .int 0])), (q1, .inl (dA 0, 3, .inl (fun _ => 0))), (q2, .inl (dA 0, 3, .inl (fun _ => 0))), (q3, .inl (dA 0, 3, .inl (fun _ => 0))), (q4, .inl (dA 0, 4, .inl (fun _ => 0))), (q5, .inl (dA 0, 4, .inl (fun _ => 0)))]) (pc' := 39) X hin rfl rfl inX0 tyX0 tyX0_ok nmX0 7 (by decide) rfl mf_X0_24 rfl (tyX0_ok 7 (by decide)) rfl rfl (Nat.le_of_ble_eq_true rfl) rfl dX0_init_36 rfl ?_
  refine KW.aload (k0 := 0) (pc' := 40) X rfl rfl dX0_init_39 rfl ?_
  refine KW.iconst (v := 4) (pc' := 41) X rfl dX0_init_40 rfl ?_
  refine KW.newi (N := 4) (pc' := 43) X (by decide) rfl (by decide) (Nat.le_of_ble_eq_true rfl) (Nat.le_of_ble_eq_true rfl) dX0_init_41 rfl (fun q6 => ?_)
  refine KW.putF (q0 := 0) (ty := .array .int) (ws' := [(h, .inr (0, [.int 0, .int 0, .int 0, .ref q1, .ref q2, .ref q3, .ref q4, .ref q5, .ref q6, .int 0, .null, .null, .int 0, .int 0, .int 0, .int 0, .int 0, .int 0])), (q1, .inl (dA 0, 3, .inl (fun _ => 0))), (q2, .inl (dA 0, 3, .inl (fun _ => 0))), (q3, .inl (dA 0, 3, .inl (fun _ => 0))), (q4, .inl (dA 0, 4, .inl (fun _ => 0))), (q5, .inl (dA 0, 4, .inl (fun _ => 0))), (q6, .inl (dA 0, 4, .inl (fun _ => 0)))]) (pc' := 46) X hin rfl rfl inX0 tyX0 tyX0_ok nmX0 8 (by decide) rfl mf_X0_27 rfl (tyX0_ok 8 (by decide)) rfl rfl (Nat.le_of_ble_eq_true rfl) rfl dX0_init_43 rfl ?_
  refine KW.aload (k0 := 0) (pc' := 47) X rfl rfl dX0_init_46 rfl ?_
  refine KW.bipush (v := 100) (pc' := 49) X rfl dX0_init_47 rfl ?_
  refine KW.newi (N := 100) (pc' := 51) X (by decide) rfl (by decide) (Nat.le_of_ble_eq_true rfl) (Nat.le_of_ble_eq_true rfl) dX0_init_49 rfl (fun q7 => ?_)
  refine KW.putF (q0 := 0) (ty := .array .int) (ws' := [(h, .inr (0, [.int 0, .int 0, .int 0, .ref q1, .ref q2, .ref q3, .ref q4, .ref q5, .ref q6, .int 0, .ref q7, .null, .int 0, .int 0, .int 0, .int 0, .int 0, .int 0])), (q1, .inl (dA 0, 3, .inl (fun _ => 0))), (q2, .inl (dA 0, 3, .inl (fun _ => 0))), (q3, .inl (dA 0, 3, .inl (fun _ => 0))), (q4, .inl (dA 0, 4, .inl (fun _ => 0))), (q5, .inl (dA 0, 4, .inl (fun _ => 0))), (q6, .inl (dA 0, 4, .inl (fun _ => 0))), (q7, .inl (dA 0, 100, .inl (fun _ => 0)))]) (pc' := 54) X hin rfl rfl inX0 tyX0 tyX0_ok nmX0 10 (by decide) rfl mf_X0_30 rfl (tyX0_ok 10 (by decide)) rfl rfl (Nat.le_of_ble_eq_true rfl) rfl dX0_init_51 rfl ?_
  refine KW.aload (k0 := 0) (pc' := 55) X rfl rfl dX0_init_54 rfl ?_
  refine KW.bipush (v := 100) (pc' := 57) X rfl dX0_init_55 rfl ?_
  refine KW.newi (N := 100) (pc' := 59) X (by decide) rfl (by decide) (Nat.le_of_ble_eq_true rfl) (Nat.le_of_ble_eq_true rfl) dX0_init_57 rfl (fun q8 => ?_)
  refine KW.putF (q0 := 0) (ty := .array .int) (ws' := [(h, .inr (0, [.int 0, .int 0, .int 0, .ref q1, .ref q2, .ref q3, .ref q4, .ref q5, .ref q6, .int 0, .ref q7, .ref q8, .int 0, .int 0, .int 0, .int 0, .int 0, .int 0])), (q1, .inl (dA 0, 3, .inl (fun _ => 0))), (q2, .inl (dA 0, 3, .inl (fun _ => 0))), (q3, .inl (dA 0, 3, .inl (fun _ => 0))), (q4, .inl (dA 0, 4, .inl (fun _ => 0))), (q5, .inl (dA 0, 4, .inl (fun _ => 0))), (q6, .inl (dA 0, 4, .inl (fun _ => 0))), (q7, .inl (dA 0, 100, .inl (fun _ => 0))), (q8, .inl (dA 0, 100, .inl (fun _ => 0)))]) (pc' := 62) X hin rfl rfl inX0 tyX0 tyX0_ok nmX0 11 (by decide) rfl mf_X0_33 rfl (tyX0_ok 11 (by decide)) rfl rfl (Nat.le_of_ble_eq_true rfl) rfl dX0_init_59 rfl ?_
  exact KW.vret X (fun k => if 1000 ≤ k then ad0 k else [h, q1, q2, q3, q4, q5, q6, q7, q8].getD (k - 11) 0) hr rfl rfl (fun k hk => if_pos hk) dX0_init_62
set_option maxHeartbeats 4000000 in
set_option maxRecDepth 100000 in
theorem kc_X2 : KC yX2_init cX2_init 1 1 40 1 100 1 2 2 fs0X2 (fun _ _ => 0) := by
  refine KC.of (by decide) rfl (by decide) (fun p l e s m args below meth c D dA ad0 A h X hr hin => ?_)
  replace X : KX p s m args meth c cX2_init 1 RX2 D dA ad0 A := X
  refine KW.aload (k0 := 0) (pc' := 1) X rfl rfl dX2_init_0 rfl ?_
  refine KW.objInit (pc' := 4) X mo_X2 ⟨by decide, by decide⟩ dX2_init_1 rfl ?_
  refine KW.aload (k0 := 0) (pc' := 5) X rfl rfl dX2_init_4 rfl ?_
  refine KW.bipush (v := 100) (pc' := 7) X rfl dX2_init_5 rfl ?_
  refine KW.newi (N := 100) (pc' := 9) X (by decide) rfl (by decide) (Nat.le_of_ble_eq_true rfl) (Nat.le_of_ble_eq_true rfl) dX2_init_7 rfl (fun q1 => ?_)
  refine KW.putF (q0 := 0) (ty := .array .int) (ws' := [(h, .inr (2, [.ref q1, .int 0])), (q1, .inl (dA 0, 100, .inl (fun _ => 0)))]) (pc' := 12) X hin rfl rfl inX2 tyX2 tyX2_ok nmX2 0 (by decide) rfl mf_X2_9 rfl (tyX2_ok 0 (by decide)) rfl rfl (Nat.le_of_ble_eq_true rfl) rfl dX2_init_9 rfl ?_
  exact KW.vret X (fun k => if 1000 ≤ k then ad0 k else [h, q1].getD (k - 1) 0) hr rfl rfl (fun k hk => if_pos hk) dX2_init_12
set_option maxHeartbeats 4000000 in
set_option maxRecDepth 100000 in
theorem kc_X3 : KC yX3_init cX3_init 1 1 40 2 16 3 3 3 fs0X3 (fun _ _ => 0) := by
  refine KC.of (by decide) rfl (by decide) (fun p l e s m args below meth c D dA ad0 A h X hr hin => ?_)
  replace X : KX p s m args meth c cX3_init 1 RX3 D dA ad0 A := X
  refine KW.aload (k0 := 0) (pc' := 1) X rfl rfl dX3_init_0 rfl ?_
  refine KW.objInit (pc' := 4) X mo_X3 ⟨by decide, by decide⟩ dX3_init_1 rfl ?_
  refine KW.aload (k0 := 0) (pc' := 5) X rfl rfl dX3_init_4 rfl ?_
  refine KW.bipush (v := 8) (pc' := 7) X rfl dX3_init_5 rfl ?_
  refine KW.newi (N := 8) (pc' := 9) X (by decide) rfl (by decide) (Nat.le_of_ble_eq_true rfl) (Nat.le_of_ble_eq_true rfl) dX3_init_7 rfl (fun q1 => ?_)
  refine KW.putF (q0 := 0) (ty := .array .int) (ws' := [(h, .inr (3, [.ref q1, .null, .int 0])), (q1, .inl (dA 0, 8, .inl (fun _ => 0)))]) (pc' := 12) X hin rfl rfl inX3 tyX3 tyX3_ok nmX3 0 (by decide) rfl mf_X3_9 rfl (tyX3_ok 0 (by decide)) rfl rfl (Nat.le_of_ble_eq_true rfl) rfl dX3_init_9 rfl ?_
  refine KW.aload (k0 := 0) (pc' := 13) X rfl rfl dX3_init_12 rfl ?_
  refine KW.bipush (v := 8) (pc' := 15) X rfl dX3_init_13 rfl ?_
  refine KW.newi (N := 8) (pc' := 17) X (by decide) rfl (by decide) (Nat.le_of_ble_eq_true rfl) (Nat.le_of_ble_eq_true rfl) dX3_init_15 rfl (fun q2 => ?_)
  refine KW.putF (q0 := 0) (ty := .array .int) (ws' := [(h, .inr (3, [.ref q1, .ref q2, .int 0])), (q1, .inl (dA 0, 8, .inl (fun _ => 0))), (q2, .inl (dA 0, 8, .inl (fun _ => 0)))]) (pc' := 20) X hin rfl rfl inX3 tyX3 tyX3_ok nmX3 1 (by decide) rfl mf_X3_15 rfl (tyX3_ok 1 (by decide)) rfl rfl (Nat.le_of_ble_eq_true rfl) rfl dX3_init_17 rfl ?_
  exact KW.vret X (fun k => if 1000 ≤ k then ad0 k else [h, q1, q2].getD (k - 3) 0) hr rfl rfl (fun k hk => if_pos hk) dX3_init_20
set_option maxHeartbeats 4000000 in
set_option maxRecDepth 100000 in
theorem kc_X5 : KC yX5_init cX5_init 1 1 40 1 80 655 2 5 fs0X5 (fun _ _ => 0) := by
  refine KC.of (by decide) rfl (by decide) (fun p l e s m args below meth c D dA ad0 A h X hr hin => ?_)
  replace X : KX p s m args meth c cX5_init 1 RX5 D dA ad0 A := X
  refine KW.aload (k0 := 0) (pc' := 1) X rfl rfl dX5_init_0 rfl ?_
  refine KW.objInit (pc' := 4) X mo_X5 ⟨by decide, by decide⟩ dX5_init_1 rfl ?_
  refine KW.aload (k0 := 0) (pc' := 5) X rfl rfl dX5_init_4 rfl ?_
  refine KW.bipush (v := 80) (pc' := 7) X rfl dX5_init_5 rfl ?_
  refine KW.newi (N := 80) (pc' := 9) X (by decide) rfl (by decide) (Nat.le_of_ble_eq_true rfl) (Nat.le_of_ble_eq_true rfl) dX5_init_7 rfl (fun q1 => ?_)
  refine KW.putF (q0 := 0) (ty := .array .int) (ws' := [(h, .inr (5, [.ref q1, .int 0, .int 0, .int 0, .int 0, .int 0, .int 0])), (q1, .inl (dA 0, 80, .inl (fun _ => 0)))]) (pc' := 12) X hin rfl rfl inX5 tyX5 tyX5_ok nmX5 0 (by decide) rfl mf_X5_9 rfl (tyX5_ok 0 (by decide)) rfl rfl (Nat.le_of_ble_eq_true rfl) rfl dX5_init_9 rfl ?_
  exact KW.vret X (fun k => if 1000 ≤ k then ad0 k else [h, q1].getD (k - 655) 0) hr rfl rfl (fun k hk => if_pos hk) dX5_init_12
