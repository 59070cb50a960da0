section OL
variable {p : Program} {l : Launch} {e : Env} {s : State} {m : MethodId} {b : Addr} {below : List Frame} {meth : Method} {c : Code} {D : va_G} {dA : Nat → ClassId} {ad : Nat → Nat} {A : Nat → Prop} {kc ks : Nat}
set_option maxHeartbeats 4000000 in
set_option maxRecDepth 100000 in
theorem ok_L_law_93 {xs : Nat → Int32} {L : Nat} (X : CX p s m #[Value.ref b] meth c cL_law 11 RL D dA ad 0 657 A) (hC : SCX ad L xs) (hS : tSS 0 657 650) (hE : kc ≤ room_1.cells ∧ ks ≤ room_1.slots ∧ meth.sig.returnType = ret ∧ ∀ q, A q → s.heap.size ≤ q) : ∀ (M : MM), f_L_law_93 xs L M = some true → AW p l e room_1 s m #[Value.ref b] below meth c D dA ad 0 657 11 A kc ks (lw_Z below #[Value.ref b] s) 93 [] [] M := by
  intro M h
  unfold f_L_law_93 at h
  refine AW.iconst (v := 0) (pc' := 94) X rfl dL_law_93 rfl ?_
  exact false_true h
set_option maxHeartbeats 4000000 in
set_option maxRecDepth 100000 in
theorem ok_L_law_167 {xs : Nat → Int32} {L : Nat} (X : CX p s m #[Value.ref b] meth c cL_law 11 RL D dA ad 0 657 A) (hC : SCX ad L xs) (hS : tSS 0 657 650) (hE : kc ≤ room_1.cells ∧ ks ≤ room_1.slots ∧ meth.sig.returnType = ret ∧ ∀ q, A q → s.heap.size ≤ q) : ∀ (M : MM), f_L_law_167 xs L M = some true → AW p l e room_1 s m #[Value.ref b] below meth c D dA ad 0 657 11 A kc ks (lw_Z below #[Value.ref b] s) 167 [] [] M := by
  intro M h
  unfold f_L_law_167 at h
  refine AW.iconst (v := 0) (pc' := 168) X rfl dL_law_167 rfl ?_
  exact false_true h
set_option maxHeartbeats 4000000 in
set_option maxRecDepth 100000 in
theorem ok_L_law_287 {xs : Nat → Int32} {L : Nat} (X : CX p s m #[Value.ref b] meth c cL_law 11 RL D dA ad 0 657 A) (hC : SCX ad L xs) (hS : tSS 0 657 650) (hE : kc ≤ room_1.cells ∧ ks ≤ room_1.slots ∧ meth.sig.returnType = ret ∧ ∀ q, A q → s.heap.size ≤ q) : ∀ (M : MM), f_L_law_287 xs L M = some true → AW p l e room_1 s m #[Value.ref b] below meth c D dA ad 0 657 11 A kc ks (lw_Z below #[Value.ref b] s) 287 [] [] M := by
  intro M h
  unfold f_L_law_287 at h
  refine AW.iconst (v := 0) (pc' := 288) X rfl dL_law_287 rfl ?_
  exact false_true h
set_option maxHeartbeats 4000000 in
set_option maxRecDepth 100000 in
theorem ok_L_law_388 {xs : Nat → Int32} {L : Nat} (X : CX p s m #[Value.ref b] meth c cL_law 11 RL D dA ad 0 657 A) (hC : SCX ad L xs) (hS : tSS 0 657 650) (hE : kc ≤ room_1.cells ∧ ks ≤ room_1.slots ∧ meth.sig.returnType = ret ∧ ∀ q, A q → s.heap.size ≤ q) : ∀ (M : MM), f_L_law_388 xs L M = some true → AW p l e room_1 s m #[Value.ref b] below meth c D dA ad 0 657 11 A kc ks (lw_Z below #[Value.ref b] s) 388 [] [] M := by
  intro M h
  unfold f_L_law_388 at h
  refine AW.iconst (v := 0) (pc' := 389) X rfl dL_law_388 rfl ?_
  exact false_true h
set_option maxHeartbeats 4000000 in
set_option maxRecDepth 100000 in
theorem ok_L_law_473 {xs : Nat → Int32} {L : Nat} (X : CX p s m #[Value.ref b] meth c cL_law 11 RL D dA ad 0 657 A) (hC : SCX ad L xs) (hS : tSS 0 657 650) (hE : kc ≤ room_1.cells ∧ ks ≤ room_1.slots ∧ meth.sig.returnType = ret ∧ ∀ q, A q → s.heap.size ≤ q) : ∀ (M : MM), f_L_law_473 xs L M = some true → AW p l e room_1 s m #[Value.ref b] below meth c D dA ad 0 657 11 A kc ks (lw_Z below #[Value.ref b] s) 473 [] [] M := by
  intro M h
  unfold f_L_law_473 at h
  refine AW.iconst (v := 0) (pc' := 474) X rfl dL_law_473 rfl ?_
  exact false_true h
set_option maxHeartbeats 4000000 in
set_option maxRecDepth 100000 in
theorem ok_L_law_475 {xs : Nat → Int32} {L : Nat} (X : CX p s m #[Value.ref b] meth c cL_law 11 RL D dA ad 0 657 A) (hC : SCX ad L xs) (hS : tSS 0 657 650) (hE : kc ≤ room_1.cells ∧ ks ≤ room_1.slots ∧ meth.sig.returnType = ret ∧ ∀ q, A q → s.heap.size ≤ q) {rec292 : Int32 → MM → Option Bool} (hrec292 : ∀ (x4 : Int32) (M : MM), rec292 x4 M = some true → AW p l e room_1 s m #[Value.ref b] below meth c D dA ad 0 657 11 A kc ks (lw_Z below #[Value.ref b] s) 292 [(0, .ref 1003), (1, .ref 650), (4, .int x4)] [] M) : ∀ (x4 : Int32) (M : MM), f_L_law_475 xs L rec292 x4 M = some true → AW p l e room_1 s m #[Value.ref b] below meth c D dA ad 0 657 11 A kc ks (lw_Z below #[Value.ref b] s) 475 [(0, .ref 1003), (1, .ref 650), (4, .int x4)] [] M := by
  intro x4 M h
  unfold f_L_law_475 at h
  refine AW.iinc (k0 := 2) (v := (x4 + 1)) (y := 1) (ls' := [(4, .int (x4 + 1)), (0, .ref 1003), (1, .ref 650)]) (pc' := 478) X rfl rfl rfl (by decide) rfl dL_law_475 rfl ?_
  refine AW.goto (pc' := 292) X dL_law_478 rfl ?_
  refine AW.sub (ls' := [(0, .ref 1003), (1, .ref 650), (4, .int (x4 + 1))]) [1, 2, 0] rfl ?_
  exact hrec292 (x4 + 1) M h
set_option maxHeartbeats 4000000 in
set_option maxRecDepth 100000 in
theorem ok_L_law_424 {xs : Nat → Int32} {L : Nat} (X : CX p s m #[Value.ref b] meth c cL_law 11 RL D dA ad 0 657 A) (hC : SCX ad L xs) (hS : tSS 0 657 650) (hE : kc ≤ room_1.cells ∧ ks ≤ room_1.slots ∧ meth.sig.returnType = ret ∧ ∀ q, A q → s.heap.size ≤ q) {rec292 : Int32 → MM → Option Bool} (hrec292 : ∀ (x4 : Int32) (M : MM), rec292 x4 M = some true → AW p l e room_1 s m #[Value.ref b] below meth c D dA ad 0 657 11 A kc ks (lw_Z below #[Value.ref b] s) 292 [(0, .ref 1003), (1, .ref 650), (4, .int x4)] [] M) : ∀ (x4 : Int32) (x5 : Int32) (y7 : Int64) (b10 : Bool) (M : MM), f_L_law_424 xs L rec292 x4 x5 y7 b10 M = some true → AW p l e room_1 s m #[Value.ref b] below meth c D dA ad 0 657 11 A kc ks (lw_Z below #[Value.ref b] s) 424 [(0, .ref 1003), (1, .ref 650), (4, .int x4), (5, .int x5), (7, .long (y7)), (10, .int (bz b10))] [] M := by
  intro x4 x5 y7 b10 M h
  unfold f_L_law_424 at h
  refine AW.iload (k0 := 2) (pc' := 426) X rfl dL_law_424 rfl ?_
  refine AW.iconst (v := 4) (pc' := 427) X rfl dL_law_426 rfl ?_
  refine AW.irem (pc' := 428) X (by decide) dL_law_427 rfl ?_
  refine AW.if_ne (pc' := 431) (tgt := 475) X dL_law_428 rfl rfl (fun q2 => ?_) (fun q2 => ?_)
  · replace h := iten q2 h
    refine AW.sub (ls' := [(0, .ref 1003), (1, .ref 650), (4, .int x4)]) [0, 1, 2] rfl ?_
    exact ok_L_law_475 X hC hS hE hrec292 x4 M h
  · replace h := itep q2 h
    refine AW.iload (k0 := 3) (pc' := 433) X rfl dL_law_431 rfl ?_
    refine AW.bipush (v := 15) (pc' := 435) X rfl dL_law_433 rfl ?_
    refine AW.iand (pc' := 436) X dL_law_435 rfl ?_
    refine AW.bipush (v := 11) (pc' := 438) X rfl dL_law_436 rfl ?_
    refine AW.icmp_eq (pc' := 441) (tgt := 475) X dL_law_438 rfl rfl (fun q3 => ?_) (fun q3 => ?_)
    · replace h := itep q3 h
      refine AW.sub (ls' := [(0, .ref 1003), (1, .ref 650), (4, .int x4)]) [0, 1, 2] rfl ?_
      exact ok_L_law_475 X hC hS hE hrec292 x4 M h
    · replace h := iten q3 h
      refine AW.iload (k0 := 5) (pc' := 443) X rfl dL_law_441 rfl ?_
      refine AW.if_ne (pc' := 446) (tgt := 475) X dL_law_443 rfl rfl (fun q4 => ?_) (fun q4 => ?_)
      · replace h := iten q4 h
        refine AW.sub (ls' := [(0, .ref 1003), (1, .ref 650), (4, .int x4)]) [0, 1, 2] rfl ?_
        exact ok_L_law_475 X hC hS hE hrec292 x4 M h
      · replace h := itep q4 h
        refine AW.aload_n (k0 := 1) (pc' := 447) X rfl rfl dL_law_446 rfl ?_
        obtain ⟨v5, c5, h⟩ := Option.bind_eq_some_iff.mp h
        refine AW.callS (As := [.ref 650]) (rest := []) (rv := (some (.long v5))) (M' := M) (pc' := 450) X (ok_L_told hS c5) yv_L_told ml_L_69 ⟨by decide, by decide, hE.1, hE.2.1⟩ rfl (Nat.le_of_ble_eq_true rfl) rfl rfl dL_law_447 rfl ?_
        refine AW.lload (k0 := 4) (pc' := 452) X rfl dL_law_450 rfl ?_
        refine AW.lcmp (pc' := 453) X dL_law_452 rfl ?_
        refine AW.if_eq (pc' := 456) (tgt := 475) X dL_law_453 rfl rfl (fun q6 => ?_) (fun q6 => ?_)
        · replace h := itep q6 h
          refine AW.sub (ls' := [(0, .ref 1003), (1, .ref 650), (4, .int x4)]) [0, 1, 2] rfl ?_
          exact ok_L_law_475 X hC hS hE hrec292 x4 M h
        · replace h := iten q6 h
          refine AW.aload_n (k0 := 1) (pc' := 457) X rfl rfl dL_law_456 rfl ?_
          obtain ⟨v7, c7, h⟩ := Option.bind_eq_some_iff.mp h
          refine AW.callV (As := []) (rest := []) (rv := (some (.int v7.1))) (M' := v7.2) (pc' := 460) X (ok_X6_undo hS c7) yv_X6_undo (hS).1.1 (hS).1.2.1 (cX hS dA ad _) rfl rfl ml_L_126 ⟨by decide, by decide, hE.1, hE.2.1⟩ rfl (Nat.le_of_ble_eq_true rfl) rfl rfl dL_law_457 rfl ?_
          refine AW.if_lt (pc' := 463) (tgt := 473) X dL_law_460 rfl rfl (fun q8 => ?_) (fun q8 => ?_)
          · replace h := itep q8 h
            refine AW.sub (ls' := []) [] rfl ?_
            exact ok_L_law_473 X hC hS hE v7.2 h
          · replace h := iten q8 h
            refine AW.aload_n (k0 := 1) (pc' := 464) X rfl rfl dL_law_463 rfl ?_
            obtain ⟨v9, c9, h⟩ := Option.bind_eq_some_iff.mp h
            refine AW.callS (As := [.ref 650]) (rest := []) (rv := (some (.long v9))) (M' := v7.2) (pc' := 467) X (ok_L_told hS c9) yv_L_told ml_L_69 ⟨by decide, by decide, hE.1, hE.2.1⟩ rfl (Nat.le_of_ble_eq_true rfl) rfl rfl dL_law_464 rfl ?_
            refine AW.lload (k0 := 4) (pc' := 469) X rfl dL_law_467 rfl ?_
            refine AW.lcmp (pc' := 470) X dL_law_469 rfl ?_
            refine AW.if_eq (pc' := 473) (tgt := 475) X dL_law_470 rfl rfl (fun q10 => ?_) (fun q10 => ?_)
            · replace h := itep q10 h
              refine AW.sub (ls' := [(0, .ref 1003), (1, .ref 650), (4, .int x4)]) [0, 1, 2] rfl ?_
              exact ok_L_law_475 X hC hS hE hrec292 x4 v7.2 h
            · replace h := iten q10 h
              refine AW.sub (ls' := []) [] rfl ?_
              exact ok_L_law_473 X hC hS hE v7.2 h
set_option maxHeartbeats 4000000 in
set_option maxRecDepth 100000 in
theorem ok_L_law_368 {xs : Nat → Int32} {L : Nat} (X : CX p s m #[Value.ref b] meth c cL_law 11 RL D dA ad 0 657 A) (hC : SCX ad L xs) (hS : tSS 0 657 650) (hE : kc ≤ room_1.cells ∧ ks ≤ room_1.slots ∧ meth.sig.returnType = ret ∧ ∀ q, A q → s.heap.size ≤ q) {rec292 : Int32 → MM → Option Bool} (hrec292 : ∀ (x4 : Int32) (M : MM), rec292 x4 M = some true → AW p l e room_1 s m #[Value.ref b] below meth c D dA ad 0 657 11 A kc ks (lw_Z below #[Value.ref b] s) 292 [(0, .ref 1003), (1, .ref 650), (4, .int x4)] [] M) : ∀ (x4 : Int32) (x5 : Int32) (x6 : Int32) (y7 : Int64) (x9 : Int32) (sb0 : Bool) (M : MM), f_L_law_368 xs L rec292 x4 x5 x6 y7 x9 sb0 M = some true → AW p l e room_1 s m #[Value.ref b] below meth c D dA ad 0 657 11 A kc ks (lw_Z below #[Value.ref b] s) 368 [(0, .ref 1003), (1, .ref 650), (4, .int x4), (5, .int x5), (6, .int x6), (7, .long (y7)), (9, .int x9)] [.int (bz sb0)] M := by
  intro x4 x5 x6 y7 x9 sb0 M h
  unfold f_L_law_368 at h
  refine AW.istore (ls' := [(10, .int (bz sb0)), (0, .ref 1003), (1, .ref 650), (4, .int x4), (5, .int x5), (6, .int x6), (7, .long (y7)), (9, .int x9)]) (pc' := 370) X (by decide) rfl dL_law_368 rfl ?_
  refine AW.aload_n (k0 := 2) (pc' := 371) X rfl rfl dL_law_370 rfl ?_
  refine AW.iload (k0 := 4) (pc' := 373) X rfl dL_law_371 rfl ?_
  refine AW.iload (k0 := 5) (pc' := 375) X rfl dL_law_373 rfl ?_
  obtain ⟨v1, c1, h⟩ := Option.bind_eq_some_iff.mp h
  refine AW.callS (As := [.ref 650, .int x5, .int x6]) (rest := []) (rv := (some (.int (bz v1.1)))) (M' := v1.2) (pc' := 378) X (ok_L_acts hS c1) yv_L_acts ml_L_141 ⟨by decide, by decide, hE.1, hE.2.1⟩ rfl (Nat.le_of_ble_eq_true rfl) rfl rfl dL_law_375 rfl ?_
  refine AW.if_eq (pc' := 381) (tgt := 388) X dL_law_378 rfl rfl (fun q2 => ?_) (fun q2 => ?_)
  · replace h := itep q2 h
    refine AW.sub (ls' := []) [] rfl ?_
    exact ok_L_law_388 X hC hS hE v1.2 h
  · replace h := iten q2 h
    refine AW.aload_n (k0 := 2) (pc' := 382) X rfl rfl dL_law_381 rfl ?_
    obtain ⟨v3, c3, h⟩ := Option.bind_eq_some_iff.mp h
    refine AW.callS (As := [.ref 650]) (rest := []) (rv := (some (.int (bz v3.1)))) (M' := v3.2) (pc' := 385) X (ok_L_rules hS c3) yv_L_rules ml_L_145 ⟨by decide, by decide, hE.1, hE.2.1⟩ rfl (Nat.le_of_ble_eq_true rfl) rfl rfl dL_law_382 rfl ?_
    refine AW.if_ne (pc' := 388) (tgt := 390) X dL_law_385 rfl rfl (fun q4 => ?_) (fun q4 => ?_)
    · replace h := iten q4 h
      refine AW.aload_n (k0 := 2) (pc' := 391) X rfl rfl dL_law_390 rfl ?_
      refine AW.bipush (v := 12) (pc' := 393) X rfl dL_law_391 rfl ?_
      obtain ⟨v5, c5, h⟩ := Option.bind_eq_some_iff.mp h
      refine AW.callV (As := [.int 12]) (rest := []) (rv := (some (.int v5))) (M' := v3.2) (pc' := 396) X (ok_X6_total hS c5) yv_X6_total (hS).1.1 (hS).1.2.1 (cX hS dA ad _) rfl rfl ml_L_8 ⟨by decide, by decide, hE.1, hE.2.1⟩ rfl (Nat.le_of_ble_eq_true rfl) rfl rfl dL_law_393 rfl ?_
      refine AW.iload (k0 := 7) (pc' := 398) X rfl dL_law_396 rfl ?_
      refine AW.icmp_ne (pc' := 401) (tgt := 424) X dL_law_398 rfl rfl (fun q6 => ?_) (fun q6 => ?_)
      · replace h := iten q6 h
        refine AW.sub (ls' := [(0, .ref 1003), (1, .ref 650), (4, .int x4), (5, .int x5), (7, .long (y7)), (10, .int (bz sb0))]) [1, 2, 3, 4, 6, 0] rfl ?_
        exact ok_L_law_424 X hC hS hE hrec292 x4 x5 y7 sb0 v3.2 h
      · replace h := itep q6 h
        refine AW.iload (k0 := 7) (pc' := 403) X rfl dL_law_401 rfl ?_
        refine AW.iconst (v := 5) (pc' := 404) X rfl dL_law_403 rfl ?_
        refine AW.icmp_ge (pc' := 407) (tgt := 424) X dL_law_404 rfl rfl (fun q7 => ?_) (fun q7 => ?_)
        · replace h := itep q7 h
          refine AW.sub (ls' := [(0, .ref 1003), (1, .ref 650), (4, .int x4), (5, .int x5), (7, .long (y7)), (10, .int (bz sb0))]) [1, 2, 3, 4, 6, 0] rfl ?_
          exact ok_L_law_424 X hC hS hE hrec292 x4 x5 y7 sb0 v3.2 h
        · replace h := iten q7 h
          refine AW.iload (k0 := 0) (pc' := 409) X rfl dL_law_407 rfl ?_
          refine AW.if_ne (pc' := 412) (tgt := 424) X dL_law_409 rfl rfl (fun q8 => ?_) (fun q8 => ?_)
          · replace h := iten q8 h
            refine AW.sub (ls' := [(0, .ref 1003), (1, .ref 650), (4, .int x4), (5, .int x5), (7, .long (y7)), (10, .int (bz sb0))]) [1, 2, 3, 4, 6, 0] rfl ?_
            exact ok_L_law_424 X hC hS hE hrec292 x4 x5 y7 sb0 v3.2 h
          · replace h := itep q8 h
            refine AW.aload_n (k0 := 2) (pc' := 413) X rfl rfl dL_law_412 rfl ?_
            obtain ⟨v9, c9, h⟩ := Option.bind_eq_some_iff.mp h
            refine AW.callS (As := [.ref 650]) (rest := []) (rv := (some (.long v9))) (M' := v3.2) (pc' := 416) X (ok_L_told hS c9) yv_L_told ml_L_69 ⟨by decide, by decide, hE.1, hE.2.1⟩ rfl (Nat.le_of_ble_eq_true rfl) rfl rfl dL_law_413 rfl ?_
            refine AW.lload (k0 := 6) (pc' := 418) X rfl dL_law_416 rfl ?_
            refine AW.lcmp (pc' := 419) X dL_law_418 rfl ?_
            refine AW.if_eq (pc' := 422) (tgt := 424) X dL_law_419 rfl rfl (fun q10 => ?_) (fun q10 => ?_)
            · replace h := itep q10 h
              refine AW.sub (ls' := [(0, .ref 1003), (1, .ref 650), (4, .int x4), (5, .int x5), (7, .long (y7)), (10, .int (bz sb0))]) [1, 2, 3, 4, 6, 0] rfl ?_
              exact ok_L_law_424 X hC hS hE hrec292 x4 x5 y7 sb0 v3.2 h
            · replace h := iten q10 h
              refine AW.iconst (v := 0) (pc' := 423) X rfl dL_law_422 rfl ?_
              exact false_true h
    · replace h := itep q4 h
      refine AW.sub (ls' := []) [] rfl ?_
      exact ok_L_law_388 X hC hS hE v3.2 h
set_option maxHeartbeats 4000000 in
set_option maxRecDepth 100000 in
theorem ok_L_law_367 {xs : Nat → Int32} {L : Nat} (X : CX p s m #[Value.ref b] meth c cL_law 11 RL D dA ad 0 657 A) (hC : SCX ad L xs) (hS : tSS 0 657 650) (hE : kc ≤ room_1.cells ∧ ks ≤ room_1.slots ∧ meth.sig.returnType = ret ∧ ∀ q, A q → s.heap.size ≤ q) {rec292 : Int32 → MM → Option Bool} (hrec292 : ∀ (x4 : Int32) (M : MM), rec292 x4 M = some true → AW p l e room_1 s m #[Value.ref b] below meth c D dA ad 0 657 11 A kc ks (lw_Z below #[Value.ref b] s) 292 [(0, .ref 1003), (1, .ref 650), (4, .int x4)] [] M) : ∀ (x4 : Int32) (x5 : Int32) (x6 : Int32) (y7 : Int64) (x9 : Int32) (M : MM), f_L_law_367 xs L rec292 x4 x5 x6 y7 x9 M = some true → AW p l e room_1 s m #[Value.ref b] below meth c D dA ad 0 657 11 A kc ks (lw_Z below #[Value.ref b] s) 367 [(0, .ref 1003), (1, .ref 650), (4, .int x4), (5, .int x5), (6, .int x6), (7, .long (y7)), (9, .int x9)] [] M := by
  intro x4 x5 x6 y7 x9 M h
  unfold f_L_law_367 at h
  refine AW.iconst (v := 0) (pc' := 368) X rfl dL_law_367 rfl ?_
  exact ok_L_law_368 X hC hS hE hrec292 x4 x5 x6 y7 x9 false M h
set_option maxHeartbeats 4000000 in
set_option maxRecDepth 100000 in
theorem ok_L_law_607 {xs : Nat → Int32} {L : Nat} (X : CX p s m #[Value.ref b] meth c cL_law 11 RL D dA ad 0 657 A) (hC : SCX ad L xs) (hS : tSS 0 657 650) (hE : kc ≤ room_1.cells ∧ ks ≤ room_1.slots ∧ meth.sig.returnType = ret ∧ ∀ q, A q → s.heap.size ≤ q) : ∀ (sb0 : Bool) (M : MM), f_L_law_607 xs L sb0 M = some true → AW p l e room_1 s m #[Value.ref b] below meth c D dA ad 0 657 11 A kc ks (lw_Z below #[Value.ref b] s) 607 [] [.int (bz sb0)] M := by
  intro sb0 M h
  unfold f_L_law_607 at h
  have hb0 : sb0 = true := Option.some.inj h
  subst hb0
  exact AW.lawret X hE dL_law_607
set_option maxHeartbeats 4000000 in
set_option maxRecDepth 100000 in
theorem ok_L_law_606 {xs : Nat → Int32} {L : Nat} (X : CX p s m #[Value.ref b] meth c cL_law 11 RL D dA ad 0 657 A) (hC : SCX ad L xs) (hS : tSS 0 657 650) (hE : kc ≤ room_1.cells ∧ ks ≤ room_1.slots ∧ meth.sig.returnType = ret ∧ ∀ q, A q → s.heap.size ≤ q) : ∀ (M : MM), f_L_law_606 xs L M = some true → AW p l e room_1 s m #[Value.ref b] below meth c D dA ad 0 657 11 A kc ks (lw_Z below #[Value.ref b] s) 606 [] [] M := by
  intro M h
  unfold f_L_law_606 at h
  refine AW.iconst (v := 0) (pc' := 607) X rfl dL_law_606 rfl ?_
  exact ok_L_law_607 X hC hS hE false M h
set_option maxHeartbeats 4000000 in
set_option maxRecDepth 100000 in
theorem ok_L_law_585 {xs : Nat → Int32} {L : Nat} (X : CX p s m #[Value.ref b] meth c cL_law 11 RL D dA ad 0 657 A) (hC : SCX ad L xs) (hS : tSS 0 657 650) (hE : kc ≤ room_1.cells ∧ ks ≤ room_1.slots ∧ meth.sig.returnType = ret ∧ ∀ q, A q → s.heap.size ≤ q) : ∀ (y4 : Int64) (sb0 : Bool) (M : MM), f_L_law_585 xs L y4 sb0 M = some true → AW p l e room_1 s m #[Value.ref b] below meth c D dA ad 0 657 11 A kc ks (lw_Z below #[Value.ref b] s) 585 [(1, .ref 650), (4, .long (y4))] [.int (bz sb0)] M := by
  intro y4 sb0 M h
  unfold f_L_law_585 at h
  refine AW.istore (ls' := [(6, .int (bz sb0)), (1, .ref 650), (4, .long (y4))]) (pc' := 587) X (by decide) rfl dL_law_585 rfl ?_
  refine AW.iload (k0 := 0) (pc' := 589) X rfl dL_law_587 rfl ?_
  refine AW.if_eq (pc' := 592) (tgt := 606) X dL_law_589 rfl rfl (fun q1 => ?_) (fun q1 => ?_)
  · replace h := itep q1 h
    refine AW.sub (ls' := []) [] rfl ?_
    exact ok_L_law_606 X hC hS hE M h
  · replace h := iten q1 h
    refine AW.aload_n (k0 := 1) (pc' := 593) X rfl rfl dL_law_592 rfl ?_
    obtain ⟨v2, c2, h⟩ := Option.bind_eq_some_iff.mp h
    refine AW.callS (As := [.ref 650]) (rest := []) (rv := (some (.long v2))) (M' := M) (pc' := 596) X (ok_L_told hS c2) yv_L_told ml_L_69 ⟨by decide, by decide, hE.1, hE.2.1⟩ rfl (Nat.le_of_ble_eq_true rfl) rfl rfl dL_law_593 rfl ?_
    refine AW.lload (k0 := 2) (pc' := 598) X rfl dL_law_596 rfl ?_
    refine AW.lcmp (pc' := 599) X dL_law_598 rfl ?_
    refine AW.if_ne (pc' := 602) (tgt := 606) X dL_law_599 rfl rfl (fun q3 => ?_) (fun q3 => ?_)
    · replace h := iten q3 h
      refine AW.sub (ls' := []) [] rfl ?_
      exact ok_L_law_606 X hC hS hE M h
    · replace h := itep q3 h
      refine AW.iconst (v := 1) (pc' := 603) X rfl dL_law_602 rfl ?_
      refine AW.goto (pc' := 607) X dL_law_603 rfl ?_
      refine AW.sub (ls' := []) [] rfl ?_
      exact ok_L_law_607 X hC hS hE true M h
set_option maxHeartbeats 4000000 in
set_option maxRecDepth 100000 in
theorem ok_L_law_584 {xs : Nat → Int32} {L : Nat} (X : CX p s m #[Value.ref b] meth c cL_law 11 RL D dA ad 0 657 A) (hC : SCX ad L xs) (hS : tSS 0 657 650) (hE : kc ≤ room_1.cells ∧ ks ≤ room_1.slots ∧ meth.sig.returnType = ret ∧ ∀ q, A q → s.heap.size ≤ q) : ∀ (y4 : Int64) (M : MM), f_L_law_584 xs L y4 M = some true → AW p l e room_1 s m #[Value.ref b] below meth c D dA ad 0 657 11 A kc ks (lw_Z below #[Value.ref b] s) 584 [(1, .ref 650), (4, .long (y4))] [] M := by
  intro y4 M h
  unfold f_L_law_584 at h
  refine AW.iconst (v := 0) (pc' := 585) X rfl dL_law_584 rfl ?_
  exact ok_L_law_585 X hC hS hE y4 false M h
set_option maxHeartbeats 4000000 in
set_option maxRecDepth 100000 in
theorem ok_L_law_292 {xs : Nat → Int32} {L : Nat} (X : CX p s m #[Value.ref b] meth c cL_law 11 RL D dA ad 0 657 A) (hC : SCX ad L xs) (hS : tSS 0 657 650) (hE : kc ≤ room_1.cells ∧ ks ≤ room_1.slots ∧ meth.sig.returnType = ret ∧ ∀ q, A q → s.heap.size ≤ q) : ∀ (k : Nat) (x4 : Int32) (M : MM), f_L_law_292 xs L k x4 M = some true → AW p l e room_1 s m #[Value.ref b] below meth c D dA ad 0 657 11 A kc ks (lw_Z below #[Value.ref b] s) 292 [(0, .ref 1003), (1, .ref 650), (4, .int x4)] [] M := by
  intro k
  induction k with
  | zero => intro _ _ h; exact none_some h
  | succ k ih =>
    intro x4 M h
    unfold f_L_law_292 at h
    refine AW.iload (k0 := 2) (pc' := 294) X rfl dL_law_292 rfl ?_
    refine AW.bipush (v := 36) (pc' := 296) X rfl dL_law_294 rfl ?_
    refine AW.icmp_ge (pc' := 299) (tgt := 481) X dL_law_296 rfl rfl (fun q1 => ?_) (fun q1 => ?_)
    · replace h := itep q1 h
      refine AW.aload_n (k0 := 1) (pc' := 482) X rfl rfl dL_law_481 rfl ?_
      obtain ⟨v2, c2, h⟩ := Option.bind_eq_some_iff.mp h
      refine AW.callS (As := [.ref 650]) (rest := []) (rv := (some (.long v2))) (M' := M) (pc' := 485) X (ok_L_told hS c2) yv_L_told ml_L_69 ⟨by decide, by decide, hE.1, hE.2.1⟩ rfl (Nat.le_of_ble_eq_true rfl) rfl rfl dL_law_482 rfl ?_
      refine AW.lstore (ls' := [(4, .long (v2)), (0, .ref 1003), (1, .ref 650)]) (pc' := 487) X (by decide) rfl dL_law_485 rfl ?_
      refine AW.aload_n (k0 := 2) (pc' := 488) X rfl rfl dL_law_487 rfl ?_
      refine AW.iconst (v := 4) (pc' := 489) X rfl dL_law_488 rfl ?_
      refine AW.bipush (v := 10) (pc' := 491) X rfl dL_law_489 rfl ?_
      refine AW.bipush (v := 10) (pc' := 493) X rfl dL_law_491 rfl ?_
      obtain ⟨v3, c3, h⟩ := Option.bind_eq_some_iff.mp h
      refine AW.callV (As := [.int 4, .int 10, .int 10]) (rest := []) (rv := (some (.int v3.1))) (M' := v3.2) (pc' := 496) X (ok_X6_setLines hS c3) yv_X6_setLines (hS).1.1 (hS).1.2.1 (cX hS dA ad _) rfl rfl ml_L_133 ⟨by decide, by decide, hE.1, hE.2.1⟩ rfl (Nat.le_of_ble_eq_true rfl) rfl rfl dL_law_493 rfl ?_
      refine AW.bipush (v := (-2)) (pc' := 498) X rfl dL_law_496 rfl ?_
      refine AW.icmp_ne (pc' := 501) (tgt := 584) X dL_law_498 rfl rfl (fun q4 => ?_) (fun q4 => ?_)
      · replace h := iten q4 h
        refine AW.sub (ls' := [(1, .ref 650), (4, .long (v2))]) [2, 0] rfl ?_
        exact ok_L_law_584 X hC hS hE v2 v3.2 h
      · replace h := itep q4 h
        refine AW.aload_n (k0 := 2) (pc' := 502) X rfl rfl dL_law_501 rfl ?_
        refine AW.bipush (v := 6) (pc' := 504) X rfl dL_law_502 rfl ?_
        refine AW.iconst (v := 0) (pc' := 505) X rfl dL_law_504 rfl ?_
        refine AW.iconst (v := 1) (pc' := 506) X rfl dL_law_505 rfl ?_
        refine AW.iconst (v := 1) (pc' := 507) X rfl dL_law_506 rfl ?_
        refine AW.iconst (v := 1) (pc' := 508) X rfl dL_law_507 rfl ?_
        obtain ⟨v5, c5, h⟩ := Option.bind_eq_some_iff.mp h
        refine AW.callV (As := [.int 6, .int 0, .int 1, .int 1, .int 1]) (rest := []) (rv := (some (.int v5.1))) (M' := v5.2) (pc' := 511) X (ok_X6_setMode hS c5) yv_X6_setMode (hS).1.1 (hS).1.2.1 (cX hS dA ad _) rfl rfl ml_L_95 ⟨by decide, by decide, hE.1, hE.2.1⟩ rfl (Nat.le_of_ble_eq_true rfl) rfl rfl dL_law_508 rfl ?_
        refine AW.iconst (v := (-1)) (pc' := 512) X rfl dL_law_511 rfl ?_
        refine AW.icmp_ne (pc' := 515) (tgt := 584) X dL_law_512 rfl rfl (fun q6 => ?_) (fun q6 => ?_)
        · replace h := iten q6 h
          refine AW.sub (ls' := [(1, .ref 650), (4, .long (v2))]) [2, 0] rfl ?_
          exact ok_L_law_584 X hC hS hE v2 v5.2 h
        · replace h := itep q6 h
          refine AW.aload_n (k0 := 2) (pc' := 516) X rfl rfl dL_law_515 rfl ?_
          refine AW.bipush (v := 6) (pc' := 518) X rfl dL_law_516 rfl ?_
          refine AW.iconst (v := 1) (pc' := 519) X rfl dL_law_518 rfl ?_
          obtain ⟨v7, c7, h⟩ := Option.bind_eq_some_iff.mp h
          refine AW.callV (As := [.int 6, .int 1]) (rest := []) (rv := (some (.int v7.1))) (M' := v7.2) (pc' := 522) X (ok_X6_set hS c7) yv_X6_set (hS).1.1 (hS).1.2.1 (cX hS dA ad _) rfl rfl ml_L_92 ⟨by decide, by decide, hE.1, hE.2.1⟩ rfl (Nat.le_of_ble_eq_true rfl) rfl rfl dL_law_519 rfl ?_
          refine AW.iconst (v := (-1)) (pc' := 523) X rfl dL_law_522 rfl ?_
          refine AW.icmp_ne (pc' := 526) (tgt := 584) X dL_law_523 rfl rfl (fun q8 => ?_) (fun q8 => ?_)
          · replace h := iten q8 h
            refine AW.sub (ls' := [(1, .ref 650), (4, .long (v2))]) [2, 0] rfl ?_
            exact ok_L_law_584 X hC hS hE v2 v7.2 h
          · replace h := itep q8 h
            refine AW.aload_n (k0 := 2) (pc' := 527) X rfl rfl dL_law_526 rfl ?_
            refine AW.iconst (v := 0) (pc' := 528) X rfl dL_law_527 rfl ?_
            obtain ⟨v9, c9, h⟩ := Option.bind_eq_some_iff.mp h
            refine AW.callV (As := [.int 0]) (rest := []) (rv := (some (.int v9.1))) (M' := v9.2) (pc' := 531) X (ok_X6_step hS c9) yv_X6_step (hS).1.1 (hS).1.2.1 (cX hS dA ad _) rfl rfl ml_L_76 ⟨by decide, by decide, hE.1, hE.2.1⟩ rfl (Nat.le_of_ble_eq_true rfl) rfl rfl dL_law_528 rfl ?_
            refine AW.bipush (v := (-2)) (pc' := 533) X rfl dL_law_531 rfl ?_
            refine AW.icmp_ne (pc' := 536) (tgt := 584) X dL_law_533 rfl rfl (fun q10 => ?_) (fun q10 => ?_)
            · replace h := iten q10 h
              refine AW.sub (ls' := [(1, .ref 650), (4, .long (v2))]) [2, 0] rfl ?_
              exact ok_L_law_584 X hC hS hE v2 v9.2 h
            · replace h := itep q10 h
              refine AW.aload_n (k0 := 2) (pc' := 537) X rfl rfl dL_law_536 rfl ?_
              refine AW.iconst (v := 2) (pc' := 538) X rfl dL_law_537 rfl ?_
              obtain ⟨v11, c11, h⟩ := Option.bind_eq_some_iff.mp h
              refine AW.callV (As := [.int 2]) (rest := []) (rv := (some (.int v11.1))) (M' := v11.2) (pc' := 541) X (ok_X6_save hS c11) yv_X6_save (hS).1.1 (hS).1.2.1 (cX hS dA ad _) rfl rfl ml_L_73 ⟨by decide, by decide, hE.1, hE.2.1⟩ rfl (Nat.le_of_ble_eq_true rfl) rfl rfl dL_law_538 rfl ?_
              refine AW.iconst (v := (-1)) (pc' := 542) X rfl dL_law_541 rfl ?_
              refine AW.icmp_ne (pc' := 545) (tgt := 584) X dL_law_542 rfl rfl (fun q12 => ?_) (fun q12 => ?_)
              · replace h := iten q12 h
                refine AW.sub (ls' := [(1, .ref 650), (4, .long (v2))]) [2, 0] rfl ?_
                exact ok_L_law_584 X hC hS hE v2 v11.2 h
              · replace h := itep q12 h
                refine AW.aload_n (k0 := 2) (pc' := 546) X rfl rfl dL_law_545 rfl ?_
                refine AW.bipush (v := 20) (pc' := 548) X rfl dL_law_546 rfl ?_
                obtain ⟨v13, c13, h⟩ := Option.bind_eq_some_iff.mp h
                refine AW.callV (As := [.int 20]) (rest := []) (rv := (some (.int v13))) (M' := v11.2) (pc' := 551) X (ok_X6_total hS c13) yv_X6_total (hS).1.1 (hS).1.2.1 (cX hS dA ad _) rfl rfl ml_L_8 ⟨by decide, by decide, hE.1, hE.2.1⟩ rfl (Nat.le_of_ble_eq_true rfl) rfl rfl dL_law_548 rfl ?_
                refine AW.bipush (v := (-2)) (pc' := 553) X rfl dL_law_551 rfl ?_
                refine AW.icmp_ne (pc' := 556) (tgt := 584) X dL_law_553 rfl rfl (fun q14 => ?_) (fun q14 => ?_)
                · replace h := iten q14 h
                  refine AW.sub (ls' := [(1, .ref 650), (4, .long (v2))]) [2, 0] rfl ?_
                  exact ok_L_law_584 X hC hS hE v2 v11.2 h
                · replace h := itep q14 h
                  refine AW.aload_n (k0 := 2) (pc' := 557) X rfl rfl dL_law_556 rfl ?_
                  refine AW.iconst (v := 0) (pc' := 558) X rfl dL_law_557 rfl ?_
                  refine AW.sipush (v := 301) (pc' := 561) X rfl dL_law_558 rfl ?_
                  obtain ⟨v15, c15, h⟩ := Option.bind_eq_some_iff.mp h
                  refine AW.callV (As := [.int 0, .int 301]) (rest := []) (rv := (some (.int v15.1))) (M' := v15.2) (pc' := 564) X (ok_X6_highest hS c15) yv_X6_highest (hS).1.1 (hS).1.2.1 (cX hS dA ad _) rfl rfl ml_L_66 ⟨by decide, by decide, hE.1, hE.2.1⟩ rfl (Nat.le_of_ble_eq_true rfl) rfl rfl dL_law_561 rfl ?_
                  refine AW.bipush (v := (-2)) (pc' := 566) X rfl dL_law_564 rfl ?_
                  refine AW.icmp_ne (pc' := 569) (tgt := 584) X dL_law_566 rfl rfl (fun q16 => ?_) (fun q16 => ?_)
                  · replace h := iten q16 h
                    refine AW.sub (ls' := [(1, .ref 650), (4, .long (v2))]) [2, 0] rfl ?_
                    exact ok_L_law_584 X hC hS hE v2 v15.2 h
                  · replace h := itep q16 h
                    refine AW.aload_n (k0 := 2) (pc' := 570) X rfl rfl dL_law_569 rfl ?_
                    refine AW.iconst (v := 0) (pc' := 571) X rfl dL_law_570 rfl ?_
                    refine AW.iconst (v := (-1)) (pc' := 572) X rfl dL_law_571 rfl ?_
                    obtain ⟨v17, c17, h⟩ := Option.bind_eq_some_iff.mp h
                    refine AW.callV (As := [.int 0, .int (-1)]) (rest := []) (rv := (some (.int v17))) (M' := v15.2) (pc' := 575) X (ok_X6_resonance hS c17) yv_X6_resonance (hS).1.1 (hS).1.2.1 (cX hS dA ad _) rfl rfl ml_L_44 ⟨by decide, by decide, hE.1, hE.2.1⟩ rfl (Nat.le_of_ble_eq_true rfl) rfl rfl dL_law_572 rfl ?_
                    refine AW.bipush (v := (-2)) (pc' := 577) X rfl dL_law_575 rfl ?_
                    refine AW.icmp_ne (pc' := 580) (tgt := 584) X dL_law_577 rfl rfl (fun q18 => ?_) (fun q18 => ?_)
                    · replace h := iten q18 h
                      refine AW.sub (ls' := [(1, .ref 650), (4, .long (v2))]) [2, 0] rfl ?_
                      exact ok_L_law_584 X hC hS hE v2 v15.2 h
                    · replace h := itep q18 h
                      refine AW.iconst (v := 1) (pc' := 581) X rfl dL_law_580 rfl ?_
                      refine AW.goto (pc' := 585) X dL_law_581 rfl ?_
                      refine AW.sub (ls' := [(1, .ref 650), (4, .long (v2))]) [2, 0] rfl ?_
                      exact ok_L_law_585 X hC hS hE v2 true v15.2 h
    · replace h := iten q1 h
      refine AW.aload_n (k0 := 0) (pc' := 300) X rfl rfl dL_law_299 rfl ?_
      refine AW.iconst (v := 1) (pc' := 301) X rfl dL_law_300 rfl ?_
      refine AW.iconst (v := 2) (pc' := 302) X rfl dL_law_301 rfl ?_
      refine AW.iload (k0 := 2) (pc' := 304) X rfl dL_law_302 rfl ?_
      refine AW.imul (pc' := 305) X dL_law_304 rfl ?_
      refine AW.iadd (pc' := 306) X dL_law_305 rfl ?_
      obtain ⟨v19, c19, h⟩ := Option.bind_eq_some_iff.mp h
      refine AW.callSa (As := [.ref 1003, .int (1 + (2 * x4))]) (rest := []) (rv := (some (.int v19))) (M' := M) (pc' := 309) X (ok_L_cell hC c19) yv_L_cell ml_L_129 ⟨by decide, by decide, hE.1, hE.2.1⟩ rfl (Nat.le_of_ble_eq_true rfl) rfl rfl dL_law_306 rfl ?_
      refine AW.istore (ls' := [(5, .int v19), (0, .ref 1003), (1, .ref 650), (4, .int x4)]) (pc' := 311) X (by decide) rfl dL_law_309 rfl ?_
      refine AW.aload_n (k0 := 1) (pc' := 312) X rfl rfl dL_law_311 rfl ?_
      refine AW.iconst (v := 2) (pc' := 313) X rfl dL_law_312 rfl ?_
      refine AW.iconst (v := 2) (pc' := 314) X rfl dL_law_313 rfl ?_
      refine AW.iload (k0 := 3) (pc' := 316) X rfl dL_law_314 rfl ?_
      refine AW.imul (pc' := 317) X dL_law_316 rfl ?_
      refine AW.iadd (pc' := 318) X dL_law_317 rfl ?_
      obtain ⟨v20, c20, h⟩ := Option.bind_eq_some_iff.mp h
      refine AW.callSa (As := [.ref 1003, .int (2 + (2 * x4))]) (rest := []) (rv := (some (.int v20))) (M' := M) (pc' := 321) X (ok_L_cell hC c20) yv_L_cell ml_L_129 ⟨by decide, by decide, hE.1, hE.2.1⟩ rfl (Nat.le_of_ble_eq_true rfl) rfl rfl dL_law_318 rfl ?_
      refine AW.istore (ls' := [(6, .int v20), (5, .int v19), (0, .ref 1003), (1, .ref 650), (4, .int x4)]) (pc' := 323) X (by decide) rfl dL_law_321 rfl ?_
      refine AW.aload_n (k0 := 3) (pc' := 324) X rfl rfl dL_law_323 rfl ?_
      obtain ⟨v21, c21, h⟩ := Option.bind_eq_some_iff.mp h
      refine AW.callS (As := [.ref 650]) (rest := []) (rv := (some (.long v21))) (M' := M) (pc' := 327) X (ok_L_told hS c21) yv_L_told ml_L_69 ⟨by decide, by decide, hE.1, hE.2.1⟩ rfl (Nat.le_of_ble_eq_true rfl) rfl rfl dL_law_324 rfl ?_
      refine AW.lstore (ls' := [(7, .long (v21)), (6, .int v20), (5, .int v19), (0, .ref 1003), (1, .ref 650), (4, .int x4)]) (pc' := 329) X (by decide) rfl dL_law_327 rfl ?_
      refine AW.aload_n (k0 := 4) (pc' := 330) X rfl rfl dL_law_329 rfl ?_
      refine AW.bipush (v := 12) (pc' := 332) X rfl dL_law_330 rfl ?_
      obtain ⟨v22, c22, h⟩ := Option.bind_eq_some_iff.mp h
      refine AW.callV (As := [.int 12]) (rest := []) (rv := (some (.int v22))) (M' := M) (pc' := 335) X (ok_X6_total hS c22) yv_X6_total (hS).1.1 (hS).1.2.1 (cX hS dA ad _) rfl rfl ml_L_8 ⟨by decide, by decide, hE.1, hE.2.1⟩ rfl (Nat.le_of_ble_eq_true rfl) rfl rfl dL_law_332 rfl ?_
      refine AW.istore (ls' := [(9, .int v22), (7, .long (v21)), (6, .int v20), (5, .int v19), (0, .ref 1003), (1, .ref 650), (4, .int x4)]) (pc' := 337) X (by decide) rfl dL_law_335 rfl ?_
      refine AW.iload (k0 := 3) (pc' := 339) X rfl dL_law_337 rfl ?_
      refine AW.bipush (v := 15) (pc' := 341) X rfl dL_law_339 rfl ?_
      refine AW.iand (pc' := 342) X dL_law_341 rfl ?_
      refine AW.iconst (v := 3) (pc' := 343) X rfl dL_law_342 rfl ?_
      refine AW.icmp_le (pc' := 346) (tgt := 367) X dL_law_343 rfl rfl (fun q23 => ?_) (fun q23 => ?_)
      · replace h := itep q23 h
        refine AW.sub (ls' := [(0, .ref 1003), (1, .ref 650), (4, .int x4), (5, .int v19), (6, .int v20), (7, .long (v21)), (9, .int v22)]) [4, 5, 6, 3, 2, 1, 0] rfl ?_
        exact ok_L_law_367 X hC hS hE ih x4 v19 v20 v21 v22 M h
      · replace h := iten q23 h
        refine AW.iload (k0 := 3) (pc' := 348) X rfl dL_law_346 rfl ?_
        refine AW.bipush (v := 15) (pc' := 350) X rfl dL_law_348 rfl ?_
        refine AW.iand (pc' := 351) X dL_law_350 rfl ?_
        refine AW.bipush (v := 6) (pc' := 353) X rfl dL_law_351 rfl ?_
        refine AW.icmp_ge (pc' := 356) (tgt := 367) X dL_law_353 rfl rfl (fun q24 => ?_) (fun q24 => ?_)
        · replace h := itep q24 h
          refine AW.sub (ls' := [(0, .ref 1003), (1, .ref 650), (4, .int x4), (5, .int v19), (6, .int v20), (7, .long (v21)), (9, .int v22)]) [4, 5, 6, 3, 2, 1, 0] rfl ?_
          exact ok_L_law_367 X hC hS hE ih x4 v19 v20 v21 v22 M h
        · replace h := iten q24 h
          refine AW.aload_n (k0 := 5) (pc' := 357) X rfl rfl dL_law_356 rfl ?_
          obtain ⟨v25, c25, h⟩ := Option.bind_eq_some_iff.mp h
          refine AW.callS (As := [.ref 650]) (rest := []) (rv := (some (.int (bz v25)))) (M' := M) (pc' := 360) X (ok_L_rests hS c25) yv_L_rests ml_L_15 ⟨by decide, by decide, hE.1, hE.2.1⟩ rfl (Nat.le_of_ble_eq_true rfl) rfl rfl dL_law_357 rfl ?_
          refine AW.if_ne (pc' := 363) (tgt := 367) X dL_law_360 rfl rfl (fun q26 => ?_) (fun q26 => ?_)
          · replace h := iten q26 h
            refine AW.sub (ls' := [(0, .ref 1003), (1, .ref 650), (4, .int x4), (5, .int v19), (6, .int v20), (7, .long (v21)), (9, .int v22)]) [4, 5, 6, 3, 2, 1, 0] rfl ?_
            exact ok_L_law_367 X hC hS hE ih x4 v19 v20 v21 v22 M h
          · replace h := itep q26 h
            refine AW.iconst (v := 1) (pc' := 364) X rfl dL_law_363 rfl ?_
            refine AW.goto (pc' := 368) X dL_law_364 rfl ?_
            refine AW.sub (ls' := [(0, .ref 1003), (1, .ref 650), (4, .int x4), (5, .int v19), (6, .int v20), (7, .long (v21)), (9, .int v22)]) [4, 5, 6, 3, 2, 1, 0] rfl ?_
            exact ok_L_law_368 X hC hS hE ih x4 v19 v20 v21 v22 true M h
set_option maxHeartbeats 4000000 in
set_option maxRecDepth 100000 in
theorem ok_L_law_8 {xs : Nat → Int32} {L : Nat} (X : CX p s m #[Value.ref b] meth c cL_law 11 RL D dA ad 0 657 A) (hC : SCX ad L xs) (hS : tSS 0 657 650) (hE : kc ≤ room_1.cells ∧ ks ≤ room_1.slots ∧ meth.sig.returnType = ret ∧ ∀ q, A q → s.heap.size ≤ q) : ∀ (M : MM), f_L_law_8 xs L M = some true → AW p l e room_1 s m #[Value.ref b] below meth c D dA ad 0 657 11 A kc ks (lw_Z below #[Value.ref b] s) 8 [(0, .ref 1003), (1, .ref 650)] [] M := by
  intro M h
  unfold f_L_law_8 at h
  refine AW.aload_n (k0 := 1) (pc' := 9) X rfl rfl dL_law_8 rfl ?_
  refine AW.iconst (v := 1) (pc' := 10) X rfl dL_law_9 rfl ?_
  obtain ⟨v1, c1, h⟩ := Option.bind_eq_some_iff.mp h
  refine AW.callV (As := [.int 1]) (rest := []) (rv := (some (.int v1))) (M' := M) (pc' := 13) X (ok_X6_total hS c1) yv_X6_total (hS).1.1 (hS).1.2.1 (cX hS dA ad _) rfl rfl ml_L_8 ⟨by decide, by decide, hE.1, hE.2.1⟩ rfl (Nat.le_of_ble_eq_true rfl) rfl rfl dL_law_10 rfl ?_
  refine AW.bipush (v := (-6)) (pc' := 15) X rfl dL_law_13 rfl ?_
  refine AW.icmp_ne (pc' := 18) (tgt := 93) X dL_law_15 rfl rfl (fun q2 => ?_) (fun q2 => ?_)
  · replace h := iten q2 h
    refine AW.sub (ls' := []) [] rfl ?_
    exact ok_L_law_93 X hC hS hE M h
  · replace h := itep q2 h
    refine AW.aload_n (k0 := 1) (pc' := 19) X rfl rfl dL_law_18 rfl ?_
    refine AW.iconst (v := 5) (pc' := 20) X rfl dL_law_19 rfl ?_
    obtain ⟨v3, c3, h⟩ := Option.bind_eq_some_iff.mp h
    refine AW.callV (As := [.int 5]) (rest := []) (rv := (some (.int v3.1))) (M' := v3.2) (pc' := 23) X (ok_X6_start hS c3) yv_X6_start (hS).1.1 (hS).1.2.1 (cX hS dA ad _) rfl rfl ml_L_82 ⟨by decide, by decide, hE.1, hE.2.1⟩ rfl (Nat.le_of_ble_eq_true rfl) rfl rfl dL_law_20 rfl ?_
    refine AW.bipush (v := (-5)) (pc' := 25) X rfl dL_law_23 rfl ?_
    refine AW.icmp_ne (pc' := 28) (tgt := 93) X dL_law_25 rfl rfl (fun q4 => ?_) (fun q4 => ?_)
    · replace h := iten q4 h
      refine AW.sub (ls' := []) [] rfl ?_
      exact ok_L_law_93 X hC hS hE v3.2 h
    · replace h := itep q4 h
      refine AW.aload_n (k0 := 1) (pc' := 29) X rfl rfl dL_law_28 rfl ?_
      refine AW.bipush (v := 11) (pc' := 31) X rfl dL_law_29 rfl ?_
      obtain ⟨v5, c5, h⟩ := Option.bind_eq_some_iff.mp h
      refine AW.callV (As := [.int 11]) (rest := []) (rv := (some (.int v5))) (M' := v3.2) (pc' := 34) X (ok_X6_total hS c5) yv_X6_total (hS).1.1 (hS).1.2.1 (cX hS dA ad _) rfl rfl ml_L_8 ⟨by decide, by decide, hE.1, hE.2.1⟩ rfl (Nat.le_of_ble_eq_true rfl) rfl rfl dL_law_31 rfl ?_
      refine AW.iconst (v := 2) (pc' := 35) X rfl dL_law_34 rfl ?_
      refine AW.icmp_ne (pc' := 38) (tgt := 93) X dL_law_35 rfl rfl (fun q6 => ?_) (fun q6 => ?_)
      · replace h := iten q6 h
        refine AW.sub (ls' := []) [] rfl ?_
        exact ok_L_law_93 X hC hS hE v3.2 h
      · replace h := itep q6 h
        refine AW.aload_n (k0 := 1) (pc' := 39) X rfl rfl dL_law_38 rfl ?_
        refine AW.bipush (v := 7) (pc' := 41) X rfl dL_law_39 rfl ?_
        obtain ⟨v7, c7, h⟩ := Option.bind_eq_some_iff.mp h
        refine AW.callV (As := [.int 7]) (rest := []) (rv := (some (.int v7))) (M' := v3.2) (pc' := 44) X (ok_X6_target hS c7) yv_X6_target (hS).1.1 (hS).1.2.1 (cX hS dA ad _) rfl rfl ml_L_123 ⟨by decide, by decide, hE.1, hE.2.1⟩ rfl (Nat.le_of_ble_eq_true rfl) rfl rfl dL_law_41 rfl ?_
        refine AW.bipush (v := (-6)) (pc' := 46) X rfl dL_law_44 rfl ?_
        refine AW.icmp_ne (pc' := 49) (tgt := 93) X dL_law_46 rfl rfl (fun q8 => ?_) (fun q8 => ?_)
        · replace h := iten q8 h
          refine AW.sub (ls' := []) [] rfl ?_
          exact ok_L_law_93 X hC hS hE v3.2 h
        · replace h := itep q8 h
          refine AW.aload_n (k0 := 1) (pc' := 50) X rfl rfl dL_law_49 rfl ?_
          obtain ⟨v9, c9, h⟩ := Option.bind_eq_some_iff.mp h
          refine AW.callV (As := []) (rest := []) (rv := (some (.int v9.1))) (M' := v9.2) (pc' := 53) X (ok_X6_undo hS c9) yv_X6_undo (hS).1.1 (hS).1.2.1 (cX hS dA ad _) rfl rfl ml_L_126 ⟨by decide, by decide, hE.1, hE.2.1⟩ rfl (Nat.le_of_ble_eq_true rfl) rfl rfl dL_law_50 rfl ?_
          refine AW.bipush (v := (-3)) (pc' := 55) X rfl dL_law_53 rfl ?_
          refine AW.icmp_ne (pc' := 58) (tgt := 93) X dL_law_55 rfl rfl (fun q10 => ?_) (fun q10 => ?_)
          · replace h := iten q10 h
            refine AW.sub (ls' := []) [] rfl ?_
            exact ok_L_law_93 X hC hS hE v9.2 h
          · replace h := itep q10 h
            refine AW.aload_n (k0 := 1) (pc' := 59) X rfl rfl dL_law_58 rfl ?_
            refine AW.iconst (v := 0) (pc' := 60) X rfl dL_law_59 rfl ?_
            obtain ⟨v11, c11, h⟩ := Option.bind_eq_some_iff.mp h
            refine AW.callV (As := [.int 0]) (rest := []) (rv := (some (.int v11.1))) (M' := v11.2) (pc' := 63) X (ok_X6_restore hS c11) yv_X6_restore (hS).1.1 (hS).1.2.1 (cX hS dA ad _) rfl rfl ml_L_79 ⟨by decide, by decide, hE.1, hE.2.1⟩ rfl (Nat.le_of_ble_eq_true rfl) rfl rfl dL_law_60 rfl ?_
            refine AW.bipush (v := (-3)) (pc' := 65) X rfl dL_law_63 rfl ?_
            refine AW.icmp_ne (pc' := 68) (tgt := 93) X dL_law_65 rfl rfl (fun q12 => ?_) (fun q12 => ?_)
            · replace h := iten q12 h
              refine AW.sub (ls' := []) [] rfl ?_
              exact ok_L_law_93 X hC hS hE v11.2 h
            · replace h := itep q12 h
              refine AW.aload_n (k0 := 1) (pc' := 69) X rfl rfl dL_law_68 rfl ?_
              obtain ⟨v13, c13, h⟩ := Option.bind_eq_some_iff.mp h
              refine AW.callV (As := []) (rest := []) (rv := (some (.int v13.1))) (M' := v13.2) (pc' := 72) X (ok_X6_loopsLeft hS c13) yv_X6_loopsLeft (hS).1.1 (hS).1.2.1 (cX hS dA ad _) rfl rfl ml_L_21 ⟨by decide, by decide, hE.1, hE.2.1⟩ rfl (Nat.le_of_ble_eq_true rfl) rfl rfl dL_law_69 rfl ?_
              refine AW.if_ne (pc' := 75) (tgt := 93) X dL_law_72 rfl rfl (fun q14 => ?_) (fun q14 => ?_)
              · replace h := iten q14 h
                refine AW.sub (ls' := []) [] rfl ?_
                exact ok_L_law_93 X hC hS hE v13.2 h
              · replace h := itep q14 h
                refine AW.aload_n (k0 := 1) (pc' := 76) X rfl rfl dL_law_75 rfl ?_
                obtain ⟨v15, c15, h⟩ := Option.bind_eq_some_iff.mp h
                refine AW.callV (As := []) (rest := []) (rv := (some (.int v15.1))) (M' := v15.2) (pc' := 79) X (ok_X6_run hS c15) yv_X6_run (hS).1.1 (hS).1.2.1 (cX hS dA ad _) rfl rfl ml_L_116 ⟨by decide, by decide, hE.1, hE.2.1⟩ rfl (Nat.le_of_ble_eq_true rfl) rfl rfl dL_law_76 rfl ?_
                refine AW.if_ne (pc' := 82) (tgt := 93) X dL_law_79 rfl rfl (fun q16 => ?_) (fun q16 => ?_)
                · replace h := iten q16 h
                  refine AW.sub (ls' := []) [] rfl ?_
                  exact ok_L_law_93 X hC hS hE v15.2 h
                · replace h := itep q16 h
                  refine AW.aload_n (k0 := 1) (pc' := 83) X rfl rfl dL_law_82 rfl ?_
                  refine AW.bipush (v := 17) (pc' := 85) X rfl dL_law_83 rfl ?_
                  obtain ⟨v17, c17, h⟩ := Option.bind_eq_some_iff.mp h
                  refine AW.callV (As := [.int 17]) (rest := []) (rv := (some (.int v17))) (M' := v15.2) (pc' := 88) X (ok_X6_total hS c17) yv_X6_total (hS).1.1 (hS).1.2.1 (cX hS dA ad _) rfl rfl ml_L_8 ⟨by decide, by decide, hE.1, hE.2.1⟩ rfl (Nat.le_of_ble_eq_true rfl) rfl rfl dL_law_85 rfl ?_
                  refine AW.bipush (v := 25) (pc' := 90) X rfl dL_law_88 rfl ?_
                  refine AW.icmp_eq (pc' := 93) (tgt := 95) X dL_law_90 rfl rfl (fun q18 => ?_) (fun q18 => ?_)
                  · replace h := itep q18 h
                    refine AW.aload_n (k0 := 0) (pc' := 96) X rfl rfl dL_law_95 rfl ?_
                    refine AW.iconst (v := 0) (pc' := 97) X rfl dL_law_96 rfl ?_
                    obtain ⟨v19, c19, h⟩ := Option.bind_eq_some_iff.mp h
                    refine AW.callSa (As := [.ref 1003, .int 0]) (rest := []) (rv := (some (.int v19))) (M' := v15.2) (pc' := 100) X (ok_L_cell hC c19) yv_L_cell ml_L_129 ⟨by decide, by decide, hE.1, hE.2.1⟩ rfl (Nat.le_of_ble_eq_true rfl) rfl rfl dL_law_97 rfl ?_
                    refine AW.istore_n (ls' := [(2, .int v19), (0, .ref 1003), (1, .ref 650)]) (pc' := 101) X rfl (by decide) rfl dL_law_100 rfl ?_
                    refine AW.iconst (v := 5) (pc' := 102) X rfl dL_law_101 rfl ?_
                    refine AW.iload_n (k0 := 0) (pc' := 103) X rfl rfl dL_law_102 rfl ?_
                    refine AW.bipush (v := 40) (pc' := 105) X rfl dL_law_103 rfl ?_
                    obtain ⟨v20, c20, h⟩ := Option.bind_eq_some_iff.mp h
                    refine AW.callS (As := [.int v19, .int 40]) (rest := [.int 5]) (rv := (some (.int v20))) (M' := v15.2) (pc' := 108) X (ok_L_low c20) yv_L_low ml_L_60 ⟨by decide, by decide, hE.1, hE.2.1⟩ rfl (Nat.le_of_ble_eq_true rfl) rfl rfl dL_law_105 rfl ?_
                    refine AW.iadd (pc' := 109) X dL_law_108 rfl ?_
                    refine AW.istore_n (ls' := [(3, .int (5 + v20)), (2, .int v19), (0, .ref 1003), (1, .ref 650)]) (pc' := 110) X rfl (by decide) rfl dL_law_109 rfl ?_
                    refine AW.aload_n (k0 := 3) (pc' := 111) X rfl rfl dL_law_110 rfl ?_
                    refine AW.iload_n (k0 := 0) (pc' := 112) X rfl rfl dL_law_111 rfl ?_
                    refine AW.iload_n (k0 := 0) (pc' := 113) X rfl rfl dL_law_112 rfl ?_
                    refine AW.iload_n (k0 := 1) (pc' := 114) X rfl rfl dL_law_113 rfl ?_
                    refine AW.iconst (v := 4) (pc' := 115) X rfl dL_law_114 rfl ?_
                    refine AW.ishr (pc' := 116) X dL_law_115 rfl ?_
                    refine AW.sipush (v := 200) (pc' := 119) X rfl dL_law_116 rfl ?_
                    obtain ⟨v21, c21, h⟩ := Option.bind_eq_some_iff.mp h
                    refine AW.callS (As := [.int (v19 >>> (4 &&& 31)), .int 200]) (rest := [.int (5 + v20), .int (5 + v20), .ref 650]) (rv := (some (.int v21))) (M' := v15.2) (pc' := 122) X (ok_L_low c21) yv_L_low ml_L_60 ⟨by decide, by decide, hE.1, hE.2.1⟩ rfl (Nat.le_of_ble_eq_true rfl) rfl rfl dL_law_119 rfl ?_
                    refine AW.iadd (pc' := 123) X dL_law_122 rfl ?_
                    refine AW.bipush (v := 100) (pc' := 125) X rfl dL_law_123 rfl ?_
                    refine AW.iload_n (k0 := 1) (pc' := 126) X rfl rfl dL_law_125 rfl ?_
                    refine AW.bipush (v := 9) (pc' := 128) X rfl dL_law_126 rfl ?_
                    refine AW.ishr (pc' := 129) X dL_law_128 rfl ?_
                    refine AW.sipush (v := 400) (pc' := 132) X rfl dL_law_129 rfl ?_
                    obtain ⟨v22, c22, h⟩ := Option.bind_eq_some_iff.mp h
                    refine AW.callS (As := [.int (v19 >>> (9 &&& 31)), .int 400]) (rest := [.int 100, .int ((5 + v20) + v21), .int (5 + v20), .ref 650]) (rv := (some (.int v22))) (M' := v15.2) (pc' := 135) X (ok_L_low c22) yv_L_low ml_L_60 ⟨by decide, by decide, hE.1, hE.2.1⟩ rfl (Nat.le_of_ble_eq_true rfl) rfl rfl dL_law_132 rfl ?_
                    refine AW.iadd (pc' := 136) X dL_law_135 rfl ?_
                    obtain ⟨v23, c23, h⟩ := Option.bind_eq_some_iff.mp h
                    refine AW.callV (As := [.int (5 + v20), .int ((5 + v20) + v21), .int (100 + v22)]) (rest := []) (rv := (some (.int v23.1))) (M' := v23.2) (pc' := 139) X (ok_X6_setLines hS c23) yv_X6_setLines (hS).1.1 (hS).1.2.1 (cX hS dA ad _) rfl rfl ml_L_133 ⟨by decide, by decide, hE.1, hE.2.1⟩ rfl (Nat.le_of_ble_eq_true rfl) rfl rfl dL_law_136 rfl ?_
                    refine AW.aload_n (k0 := 3) (pc' := 140) X rfl rfl dL_law_139 rfl ?_
                    refine AW.iconst (v := 3) (pc' := 141) X rfl dL_law_140 rfl ?_
                    obtain ⟨v24, c24, h⟩ := Option.bind_eq_some_iff.mp h
                    refine AW.callV (As := [.int 3]) (rest := [.int (v23.1)]) (rv := (some (.int v24))) (M' := v23.2) (pc' := 144) X (ok_X6_total hS c24) yv_X6_total (hS).1.1 (hS).1.2.1 (cX hS dA ad _) rfl rfl ml_L_8 ⟨by decide, by decide, hE.1, hE.2.1⟩ rfl (Nat.le_of_ble_eq_true rfl) rfl rfl dL_law_141 rfl ?_
                    refine AW.icmp_ne (pc' := 147) (tgt := 167) X dL_law_144 rfl rfl (fun q25 => ?_) (fun q25 => ?_)
                    · replace h := iten q25 h
                      refine AW.sub (ls' := []) [] rfl ?_
                      exact ok_L_law_167 X hC hS hE v23.2 h
                    · replace h := itep q25 h
                      refine AW.aload_n (k0 := 3) (pc' := 148) X rfl rfl dL_law_147 rfl ?_
                      refine AW.iconst (v := 5) (pc' := 149) X rfl dL_law_148 rfl ?_
                      obtain ⟨v26, c26, h⟩ := Option.bind_eq_some_iff.mp h
                      refine AW.callV (As := [.int 5]) (rest := []) (rv := (some (.int v26.1))) (M' := v26.2) (pc' := 152) X (ok_X6_start hS c26) yv_X6_start (hS).1.1 (hS).1.2.1 (cX hS dA ad _) rfl rfl ml_L_82 ⟨by decide, by decide, hE.1, hE.2.1⟩ rfl (Nat.le_of_ble_eq_true rfl) rfl rfl dL_law_149 rfl ?_
                      refine AW.bipush (v := (-5)) (pc' := 154) X rfl dL_law_152 rfl ?_
                      refine AW.icmp_ne (pc' := 157) (tgt := 167) X dL_law_154 rfl rfl (fun q27 => ?_) (fun q27 => ?_)
                      · replace h := iten q27 h
                        refine AW.sub (ls' := []) [] rfl ?_
                        exact ok_L_law_167 X hC hS hE v26.2 h
                      · replace h := itep q27 h
                        refine AW.aload_n (k0 := 3) (pc' := 158) X rfl rfl dL_law_157 rfl ?_
                        refine AW.bipush (v := 11) (pc' := 160) X rfl dL_law_158 rfl ?_
                        obtain ⟨v28, c28, h⟩ := Option.bind_eq_some_iff.mp h
                        refine AW.callV (As := [.int 11]) (rest := []) (rv := (some (.int v28))) (M' := v26.2) (pc' := 163) X (ok_X6_total hS c28) yv_X6_total (hS).1.1 (hS).1.2.1 (cX hS dA ad _) rfl rfl ml_L_8 ⟨by decide, by decide, hE.1, hE.2.1⟩ rfl (Nat.le_of_ble_eq_true rfl) rfl rfl dL_law_160 rfl ?_
                        refine AW.iconst (v := 3) (pc' := 164) X rfl dL_law_163 rfl ?_
                        refine AW.icmp_eq (pc' := 167) (tgt := 169) X dL_law_164 rfl rfl (fun q29 => ?_) (fun q29 => ?_)
                        · replace h := itep q29 h
                          refine AW.aload_n (k0 := 3) (pc' := 170) X rfl rfl dL_law_169 rfl ?_
                          refine AW.iload_n (k0 := 0) (pc' := 171) X rfl rfl dL_law_170 rfl ?_
                          refine AW.sipush (v := 500) (pc' := 174) X rfl dL_law_171 rfl ?_
                          refine AW.iload_n (k0 := 1) (pc' := 175) X rfl rfl dL_law_174 rfl ?_
                          refine AW.iconst (v := 3) (pc' := 176) X rfl dL_law_175 rfl ?_
                          refine AW.ishr (pc' := 177) X dL_law_176 rfl ?_
                          refine AW.sipush (v := 500) (pc' := 180) X rfl dL_law_177 rfl ?_
                          obtain ⟨v30, c30, h⟩ := Option.bind_eq_some_iff.mp h
                          refine AW.callS (As := [.int (v19 >>> (3 &&& 31)), .int 500]) (rest := [.int 500, .int (5 + v20), .ref 650]) (rv := (some (.int v30))) (M' := v26.2) (pc' := 183) X (ok_L_low c30) yv_L_low ml_L_60 ⟨by decide, by decide, hE.1, hE.2.1⟩ rfl (Nat.le_of_ble_eq_true rfl) rfl rfl dL_law_180 rfl ?_
                          refine AW.iadd (pc' := 184) X dL_law_183 rfl ?_
                          obtain ⟨v31, c31, h⟩ := Option.bind_eq_some_iff.mp h
                          refine AW.callV (As := [.int (5 + v20), .int (500 + v30)]) (rest := []) (rv := (some (.int v31.1))) (M' := v31.2) (pc' := 187) X (ok_X6_setPoint hS c31) yv_X6_setPoint (hS).1.1 (hS).1.2.1 (cX hS dA ad _) rfl rfl ml_L_119 ⟨by decide, by decide, hE.1, hE.2.1⟩ rfl (Nat.le_of_ble_eq_true rfl) rfl rfl dL_law_184 rfl ?_
                          refine AW.pop (pc' := 188) X rfl dL_law_187 rfl ?_
                          refine AW.aload_n (k0 := 3) (pc' := 189) X rfl rfl dL_law_188 rfl ?_
                          refine AW.iload_n (k0 := 0) (pc' := 190) X rfl rfl dL_law_189 rfl ?_
                          refine AW.bipush (v := 50) (pc' := 192) X rfl dL_law_190 rfl ?_
                          refine AW.iadd (pc' := 193) X dL_law_192 rfl ?_
                          refine AW.bipush (v := 100) (pc' := 195) X rfl dL_law_193 rfl ?_
                          refine AW.iload_n (k0 := 1) (pc' := 196) X rfl rfl dL_law_195 rfl ?_
                          refine AW.bipush (v := 13) (pc' := 198) X rfl dL_law_196 rfl ?_
                          refine AW.ishr (pc' := 199) X dL_law_198 rfl ?_
                          refine AW.sipush (v := 3000) (pc' := 202) X rfl dL_law_199 rfl ?_
                          obtain ⟨v32, c32, h⟩ := Option.bind_eq_some_iff.mp h
                          refine AW.callS (As := [.int (v19 >>> (13 &&& 31)), .int 3000]) (rest := [.int 100, .int ((5 + v20) + 50), .ref 650]) (rv := (some (.int v32))) (M' := v31.2) (pc' := 205) X (ok_L_low c32) yv_L_low ml_L_60 ⟨by decide, by decide, hE.1, hE.2.1⟩ rfl (Nat.le_of_ble_eq_true rfl) rfl rfl dL_law_202 rfl ?_
                          refine AW.iadd (pc' := 206) X dL_law_205 rfl ?_
                          obtain ⟨v33, c33, h⟩ := Option.bind_eq_some_iff.mp h
                          refine AW.callV (As := [.int ((5 + v20) + 50), .int (100 + v32)]) (rest := []) (rv := (some (.int v33.1))) (M' := v33.2) (pc' := 209) X (ok_X6_setPoint hS c33) yv_X6_setPoint (hS).1.1 (hS).1.2.1 (cX hS dA ad _) rfl rfl ml_L_119 ⟨by decide, by decide, hE.1, hE.2.1⟩ rfl (Nat.le_of_ble_eq_true rfl) rfl rfl dL_law_206 rfl ?_
                          refine AW.pop (pc' := 210) X rfl dL_law_209 rfl ?_
                          refine AW.aload_n (k0 := 3) (pc' := 211) X rfl rfl dL_law_210 rfl ?_
                          refine AW.iconst (v := 0) (pc' := 212) X rfl dL_law_211 rfl ?_
                          refine AW.iload_n (k0 := 1) (pc' := 213) X rfl rfl dL_law_212 rfl ?_
                          refine AW.iconst (v := 2) (pc' := 214) X rfl dL_law_213 rfl ?_
                          refine AW.ishr (pc' := 215) X dL_law_214 rfl ?_
                          refine AW.sipush (v := 2000) (pc' := 218) X rfl dL_law_215 rfl ?_
                          obtain ⟨v34, c34, h⟩ := Option.bind_eq_some_iff.mp h
                          refine AW.callS (As := [.int (v19 >>> (2 &&& 31)), .int 2000]) (rest := [.int 0, .ref 650]) (rv := (some (.int v34))) (M' := v33.2) (pc' := 221) X (ok_L_low c34) yv_L_low ml_L_60 ⟨by decide, by decide, hE.1, hE.2.1⟩ rfl (Nat.le_of_ble_eq_true rfl) rfl rfl dL_law_218 rfl ?_
                          refine AW.sipush (v := 3000) (pc' := 224) X rfl dL_law_221 rfl ?_
                          obtain ⟨v35, c35, h⟩ := Option.bind_eq_some_iff.mp h
                          refine AW.callV (As := [.int 0, .int v34, .int 3000]) (rest := []) (rv := (some (.int v35.1))) (M' := v35.2) (pc' := 227) X (ok_X6_addChannel hS c35) yv_X6_addChannel (hS).1.1 (hS).1.2.1 (cX hS dA ad _) rfl rfl ml_L_137 ⟨by decide, by decide, hE.1, hE.2.1⟩ rfl (Nat.le_of_ble_eq_true rfl) rfl rfl dL_law_224 rfl ?_
                          refine AW.if_ne (pc' := 230) (tgt := 287) X dL_law_227 rfl rfl (fun q36 => ?_) (fun q36 => ?_)
                          · replace h := iten q36 h
                            refine AW.sub (ls' := []) [] rfl ?_
                            exact ok_L_law_287 X hC hS hE v35.2 h
                          · replace h := itep q36 h
                            refine AW.aload_n (k0 := 3) (pc' := 231) X rfl rfl dL_law_230 rfl ?_
                            refine AW.iconst (v := 5) (pc' := 232) X rfl dL_law_231 rfl ?_
                            obtain ⟨v37, c37, h⟩ := Option.bind_eq_some_iff.mp h
                            refine AW.callV (As := [.int 5]) (rest := []) (rv := (some (.int v37.1))) (M' := v37.2) (pc' := 235) X (ok_X6_start hS c37) yv_X6_start (hS).1.1 (hS).1.2.1 (cX hS dA ad _) rfl rfl ml_L_82 ⟨by decide, by decide, hE.1, hE.2.1⟩ rfl (Nat.le_of_ble_eq_true rfl) rfl rfl dL_law_232 rfl ?_
                            refine AW.bipush (v := (-5)) (pc' := 237) X rfl dL_law_235 rfl ?_
                            refine AW.icmp_ne (pc' := 240) (tgt := 287) X dL_law_237 rfl rfl (fun q38 => ?_) (fun q38 => ?_)
                            · replace h := iten q38 h
                              refine AW.sub (ls' := []) [] rfl ?_
                              exact ok_L_law_287 X hC hS hE v37.2 h
                            · replace h := itep q38 h
                              refine AW.aload_n (k0 := 3) (pc' := 241) X rfl rfl dL_law_240 rfl ?_
                              refine AW.bipush (v := 11) (pc' := 243) X rfl dL_law_241 rfl ?_
                              obtain ⟨v39, c39, h⟩ := Option.bind_eq_some_iff.mp h
                              refine AW.callV (As := [.int 11]) (rest := []) (rv := (some (.int v39))) (M' := v37.2) (pc' := 246) X (ok_X6_total hS c39) yv_X6_total (hS).1.1 (hS).1.2.1 (cX hS dA ad _) rfl rfl ml_L_8 ⟨by decide, by decide, hE.1, hE.2.1⟩ rfl (Nat.le_of_ble_eq_true rfl) rfl rfl dL_law_243 rfl ?_
                              refine AW.iconst (v := 4) (pc' := 247) X rfl dL_law_246 rfl ?_
                              refine AW.icmp_ne (pc' := 250) (tgt := 287) X dL_law_247 rfl rfl (fun q40 => ?_) (fun q40 => ?_)
                              · replace h := iten q40 h
                                refine AW.sub (ls' := []) [] rfl ?_
                                exact ok_L_law_287 X hC hS hE v37.2 h
                              · replace h := itep q40 h
                                refine AW.aload_n (k0 := 3) (pc' := 251) X rfl rfl dL_law_250 rfl ?_
                                refine AW.iconst (v := 1) (pc' := 252) X rfl dL_law_251 rfl ?_
                                refine AW.sipush (v := 200) (pc' := 255) X rfl dL_law_252 rfl ?_
                                refine AW.iload_n (k0 := 1) (pc' := 256) X rfl rfl dL_law_255 rfl ?_
                                refine AW.bipush (v := 6) (pc' := 258) X rfl dL_law_256 rfl ?_
                                refine AW.ishr (pc' := 259) X dL_law_258 rfl ?_
                                refine AW.sipush (v := 2000) (pc' := 262) X rfl dL_law_259 rfl ?_
                                obtain ⟨v41, c41, h⟩ := Option.bind_eq_some_iff.mp h
                                refine AW.callS (As := [.int (v19 >>> (6 &&& 31)), .int 2000]) (rest := [.int 200, .int 1, .ref 650]) (rv := (some (.int v41))) (M' := v37.2) (pc' := 265) X (ok_L_low c41) yv_L_low ml_L_60 ⟨by decide, by decide, hE.1, hE.2.1⟩ rfl (Nat.le_of_ble_eq_true rfl) rfl rfl dL_law_262 rfl ?_
                                refine AW.iadd (pc' := 266) X dL_law_265 rfl ?_
                                refine AW.sipush (v := 2000) (pc' := 269) X rfl dL_law_266 rfl ?_
                                refine AW.iload_n (k0 := 1) (pc' := 270) X rfl rfl dL_law_269 rfl ?_
                                refine AW.bipush (v := 8) (pc' := 272) X rfl dL_law_270 rfl ?_
                                refine AW.ishr (pc' := 273) X dL_law_272 rfl ?_
                                refine AW.sipush (v := 20000) (pc' := 276) X rfl dL_law_273 rfl ?_
                                obtain ⟨v42, c42, h⟩ := Option.bind_eq_some_iff.mp h
                                refine AW.callS (As := [.int (v19 >>> (8 &&& 31)), .int 20000]) (rest := [.int 2000, .int (200 + v41), .int 1, .ref 650]) (rv := (some (.int v42))) (M' := v37.2) (pc' := 279) X (ok_L_low c42) yv_L_low ml_L_60 ⟨by decide, by decide, hE.1, hE.2.1⟩ rfl (Nat.le_of_ble_eq_true rfl) rfl rfl dL_law_276 rfl ?_
                                refine AW.iadd (pc' := 280) X dL_law_279 rfl ?_
                                obtain ⟨v43, c43, h⟩ := Option.bind_eq_some_iff.mp h
                                refine AW.callV (As := [.int 1, .int (200 + v41), .int (2000 + v42)]) (rest := []) (rv := (some (.int v43.1))) (M' := v43.2) (pc' := 283) X (ok_X6_addChannel hS c43) yv_X6_addChannel (hS).1.1 (hS).1.2.1 (cX hS dA ad _) rfl rfl ml_L_137 ⟨by decide, by decide, hE.1, hE.2.1⟩ rfl (Nat.le_of_ble_eq_true rfl) rfl rfl dL_law_280 rfl ?_
                                refine AW.iconst (v := 1) (pc' := 284) X rfl dL_law_283 rfl ?_
                                refine AW.icmp_eq (pc' := 287) (tgt := 289) X dL_law_284 rfl rfl (fun q44 => ?_) (fun q44 => ?_)
                                · replace h := itep q44 h
                                  refine AW.iconst (v := 0) (pc' := 290) X rfl dL_law_289 rfl ?_
                                  refine AW.istore (ls' := [(4, .int 0), (3, .int (5 + v20)), (2, .int v19), (0, .ref 1003), (1, .ref 650)]) (pc' := 292) X (by decide) rfl dL_law_290 rfl ?_
                                  refine AW.sub (ls' := [(0, .ref 1003), (1, .ref 650), (4, .int 0)]) [3, 4, 0] rfl ?_
                                  exact ok_L_law_292 X hC hS hE FU 0 v43.2 h
                                · replace h := iten q44 h
                                  refine AW.sub (ls' := []) [] rfl ?_
                                  exact ok_L_law_287 X hC hS hE v43.2 h
                        · replace h := iten q29 h
                          refine AW.sub (ls' := []) [] rfl ?_
                          exact ok_L_law_167 X hC hS hE v26.2 h
                  · replace h := iten q18 h
                    refine AW.sub (ls' := []) [] rfl ?_
                    exact ok_L_law_93 X hC hS hE v15.2 h
end OL
