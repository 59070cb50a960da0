section OL
variable {p : Program} {l : Launch} {e : Env} {s : State} {m : MethodId} {b : Addr} {below : List Frame} {meth : Method} {c : Code} {D : va_G} {dA : Nat → ClassId} {ad : Nat → Nat} {A : Nat → Prop} {kc ks : Nat}
set_option maxHeartbeats 4000000 in
set_option maxRecDepth 100000 in
theorem ok_L_law_1084 {xs : Nat → Int32} {L : Nat} (X : CX p s m #[Value.ref b] meth c cL_law 4 RL D dA ad 0 662 A) (hC : SCX s A ad L xs) (hS : tSS 0 662 650) (hO : tMo 0 662 657) (hE : kc ≤ room_1.cells ∧ ks ≤ room_1.slots ∧ meth.sig.returnType = ret ∧ ∀ q, A q → s.heap.size ≤ q) {rec18 : Int32 → MM → Option Bool} (hrec18 : ∀ (x3 : Int32) (M : MM), rec18 x3 M = some true → AW p l e room_1 s m #[Value.ref b] below meth c D dA ad 0 662 4 A kc ks (lw_Z below #[Value.ref b] s) 18 [(0, .ref 1003), (1, .ref 650), (2, .ref 657), (3, .int x3)] [] M) : ∀ (x3 : Int32) (M : MM), f_L_law_1084 xs L rec18 x3 M = some true → AW p l e room_1 s m #[Value.ref b] below meth c D dA ad 0 662 4 A kc ks (lw_Z below #[Value.ref b] s) 1084 [(0, .ref 1003), (1, .ref 650), (2, .ref 657), (3, .int x3)] [] M := by
  intro x3 M h
  unfold f_L_law_1084 at h
  refine AW.iinc (k0 := 3) (v := (x3 + 6)) (y := 6) (ls' := [(3, .int (x3 + 6)), (0, .ref 1003), (1, .ref 650), (2, .ref 657)]) (pc' := 1087) X rfl rfl rfl (by decide) rfl dL_law_1084 rfl ?_
  refine AW.goto (pc' := 18) X dL_law_1087 rfl ?_
  refine AW.sub (ls' := [(0, .ref 1003), (1, .ref 650), (2, .ref 657), (3, .int (x3 + 6))]) [1, 2, 3, 0] rfl ?_
  exact hrec18 (x3 + 6) M h
set_option maxHeartbeats 4000000 in
set_option maxRecDepth 100000 in
theorem ok_L_law_293 {xs : Nat → Int32} {L : Nat} (X : CX p s m #[Value.ref b] meth c cL_law 4 RL D dA ad 0 662 A) (hC : SCX s A ad L xs) (hS : tSS 0 662 650) (hO : tMo 0 662 657) (hE : kc ≤ room_1.cells ∧ ks ≤ room_1.slots ∧ meth.sig.returnType = ret ∧ ∀ q, A q → s.heap.size ≤ q) {rec18 : Int32 → MM → Option Bool} (hrec18 : ∀ (x3 : Int32) (M : MM), rec18 x3 M = some true → AW p l e room_1 s m #[Value.ref b] below meth c D dA ad 0 662 4 A kc ks (lw_Z below #[Value.ref b] s) 18 [(0, .ref 1003), (1, .ref 650), (2, .ref 657), (3, .int x3)] [] M) : ∀ (x3 : Int32) (sb0 : Bool) (s2 : Int32) (M : MM), f_L_law_293 xs L rec18 x3 sb0 s2 M = some true → AW p l e room_1 s m #[Value.ref b] below meth c D dA ad 0 662 4 A kc ks (lw_Z below #[Value.ref b] s) 293 [(0, .ref 1003), (1, .ref 650), (2, .ref 657), (3, .int x3)] [.int (bz sb0), .ref 657, .int s2] M := by
  intro x3 sb0 s2 M h
  unfold f_L_law_293 at h
  refine AW.aload_n (k0 := 0) (pc' := 294) X rfl rfl dL_law_293 rfl ?_
  refine AW.iload_n (k0 := 3) (pc' := 295) X rfl rfl dL_law_294 rfl ?_
  refine AW.iconst (v := 2) (pc' := 296) X rfl dL_law_295 rfl ?_
  refine AW.iadd (pc' := 297) X dL_law_296 rfl ?_
  obtain ⟨g1, h⟩ := gd_some h
  refine AW.sld (pc' := 298) X hC (inb_vp g1) dL_law_297 rfl ?_
  refine AW.aload_n (k0 := 0) (pc' := 299) X rfl rfl dL_law_298 rfl ?_
  refine AW.iload_n (k0 := 3) (pc' := 300) X rfl rfl dL_law_299 rfl ?_
  refine AW.iconst (v := 3) (pc' := 301) X rfl dL_law_300 rfl ?_
  refine AW.iadd (pc' := 302) X dL_law_301 rfl ?_
  obtain ⟨g2, h⟩ := gd_some h
  refine AW.sld (pc' := 303) X hC (inb_vp g2) dL_law_302 rfl ?_
  obtain ⟨v3, c3, h⟩ := Option.bind_eq_some_iff.mp h
  refine AW.callV (As := [.int (bz sb0), .int (xs (ix (x3 + 2))), .int (xs (ix (x3 + 3)))]) (rest := [.int s2]) (rv := (some (.int v3.1))) (M' := v3.2) (pc' := 306) X (ok_X7_addChannel hO c3) yv_X7_addChannel hO.1 hO.2.1 (cM hO dA ad _) rfl rfl ml_L_27 ⟨by decide, by decide, hE.1, hE.2.1⟩ rfl (Nat.le_of_ble_eq_true rfl) rfl rfl dL_law_303 rfl ?_
  refine AW.icmp_eq (pc' := 309) (tgt := 1084) X dL_law_306 rfl rfl (fun q4 => ?_) (fun q4 => ?_)
  · replace h := itep q4 h
    exact ok_L_law_1084 X hC hS hO hE hrec18 x3 v3.2 h
  · replace h := iten q4 h
    refine AW.iconst (v := 0) (pc' := 310) X rfl dL_law_309 rfl ?_
    exact false_true h
set_option maxHeartbeats 4000000 in
set_option maxRecDepth 100000 in
theorem ok_L_law_266 {xs : Nat → Int32} {L : Nat} (X : CX p s m #[Value.ref b] meth c cL_law 4 RL D dA ad 0 662 A) (hC : SCX s A ad L xs) (hS : tSS 0 662 650) (hO : tMo 0 662 657) (hE : kc ≤ room_1.cells ∧ ks ≤ room_1.slots ∧ meth.sig.returnType = ret ∧ ∀ q, A q → s.heap.size ≤ q) {rec18 : Int32 → MM → Option Bool} (hrec18 : ∀ (x3 : Int32) (M : MM), rec18 x3 M = some true → AW p l e room_1 s m #[Value.ref b] below meth c D dA ad 0 662 4 A kc ks (lw_Z below #[Value.ref b] s) 18 [(0, .ref 1003), (1, .ref 650), (2, .ref 657), (3, .int x3)] [] M) : ∀ (x3 : Int32) (sb0 : Bool) (M : MM), f_L_law_266 xs L rec18 x3 sb0 M = some true → AW p l e room_1 s m #[Value.ref b] below meth c D dA ad 0 662 4 A kc ks (lw_Z below #[Value.ref b] s) 266 [(0, .ref 1003), (1, .ref 650), (2, .ref 657), (3, .int x3)] [.int (bz sb0), .ref 650] M := by
  intro x3 sb0 M h
  unfold f_L_law_266 at h
  refine AW.aload_n (k0 := 0) (pc' := 267) X rfl rfl dL_law_266 rfl ?_
  refine AW.iload_n (k0 := 3) (pc' := 268) X rfl rfl dL_law_267 rfl ?_
  refine AW.iconst (v := 2) (pc' := 269) X rfl dL_law_268 rfl ?_
  refine AW.iadd (pc' := 270) X dL_law_269 rfl ?_
  obtain ⟨g1, h⟩ := gd_some h
  refine AW.sld (pc' := 271) X hC (inb_vp g1) dL_law_270 rfl ?_
  refine AW.aload_n (k0 := 0) (pc' := 272) X rfl rfl dL_law_271 rfl ?_
  refine AW.iload_n (k0 := 3) (pc' := 273) X rfl rfl dL_law_272 rfl ?_
  refine AW.iconst (v := 3) (pc' := 274) X rfl dL_law_273 rfl ?_
  refine AW.iadd (pc' := 275) X dL_law_274 rfl ?_
  obtain ⟨g2, h⟩ := gd_some h
  refine AW.sld (pc' := 276) X hC (inb_vp g2) dL_law_275 rfl ?_
  obtain ⟨v3, c3, h⟩ := Option.bind_eq_some_iff.mp h
  refine AW.callV (As := [.int (bz sb0), .int (xs (ix (x3 + 2))), .int (xs (ix (x3 + 3)))]) (rest := []) (rv := (some (.int v3.1))) (M' := v3.2) (pc' := 279) X (ok_X6_addChannel hS c3) yv_X6_addChannel (hS).1.1 (hS).1.2.1 (cX hS dA ad _) rfl rfl ml_L_23 ⟨by decide, by decide, hE.1, hE.2.1⟩ rfl (Nat.le_of_ble_eq_true rfl) rfl rfl dL_law_276 rfl ?_
  refine AW.aload_n (k0 := 2) (pc' := 280) X rfl rfl dL_law_279 rfl ?_
  refine AW.aload_n (k0 := 0) (pc' := 281) X rfl rfl dL_law_280 rfl ?_
  refine AW.iload_n (k0 := 3) (pc' := 282) X rfl rfl dL_law_281 rfl ?_
  refine AW.iconst (v := 1) (pc' := 283) X rfl dL_law_282 rfl ?_
  refine AW.iadd (pc' := 284) X dL_law_283 rfl ?_
  obtain ⟨g4, h⟩ := gd_some h
  refine AW.sld (pc' := 285) X hC (inb_vp g4) dL_law_284 rfl ?_
  refine AW.if_eq (pc' := 288) (tgt := 292) X dL_law_285 rfl rfl (fun q5 => ?_) (fun q5 => ?_)
  · replace h := itep q5 h
    refine AW.iconst (v := 0) (pc' := 293) X rfl dL_law_292 rfl ?_
    exact ok_L_law_293 X hC hS hO hE hrec18 x3 false v3.1 v3.2 h
  · replace h := iten q5 h
    refine AW.iconst (v := 1) (pc' := 289) X rfl dL_law_288 rfl ?_
    refine AW.goto (pc' := 293) X dL_law_289 rfl ?_
    exact ok_L_law_293 X hC hS hO hE hrec18 x3 true v3.1 v3.2 h
set_option maxHeartbeats 4000000 in
set_option maxRecDepth 100000 in
theorem ok_L_law_537 {xs : Nat → Int32} {L : Nat} (X : CX p s m #[Value.ref b] meth c cL_law 4 RL D dA ad 0 662 A) (hC : SCX s A ad L xs) (hS : tSS 0 662 650) (hO : tMo 0 662 657) (hE : kc ≤ room_1.cells ∧ ks ≤ room_1.slots ∧ meth.sig.returnType = ret ∧ ∀ q, A q → s.heap.size ≤ q) {rec18 : Int32 → MM → Option Bool} (hrec18 : ∀ (x3 : Int32) (M : MM), rec18 x3 M = some true → AW p l e room_1 s m #[Value.ref b] below meth c D dA ad 0 662 4 A kc ks (lw_Z below #[Value.ref b] s) 18 [(0, .ref 1003), (1, .ref 650), (2, .ref 657), (3, .int x3)] [] M) : ∀ (x3 : Int32) (sb0 : Bool) (s2 : Int32) (M : MM), f_L_law_537 xs L rec18 x3 sb0 s2 M = some true → AW p l e room_1 s m #[Value.ref b] below meth c D dA ad 0 662 4 A kc ks (lw_Z below #[Value.ref b] s) 537 [(0, .ref 1003), (1, .ref 650), (2, .ref 657), (3, .int x3)] [.int (bz sb0), .ref 657, .int s2] M := by
  intro x3 sb0 s2 M h
  unfold f_L_law_537 at h
  obtain ⟨v1, c1, h⟩ := Option.bind_eq_some_iff.mp h
  refine AW.callV (As := [.int (bz sb0)]) (rest := [.int s2]) (rv := (some (.int v1.1))) (M' := v1.2) (pc' := 540) X (ok_X7_hold hO c1) yv_X7_hold hO.1 hO.2.1 (cM hO dA ad _) rfl rfl ml_L_55 ⟨by decide, by decide, hE.1, hE.2.1⟩ rfl (Nat.le_of_ble_eq_true rfl) rfl rfl dL_law_537 rfl ?_
  refine AW.icmp_eq (pc' := 543) (tgt := 1084) X dL_law_540 rfl rfl (fun q2 => ?_) (fun q2 => ?_)
  · replace h := itep q2 h
    exact ok_L_law_1084 X hC hS hO hE hrec18 x3 v1.2 h
  · replace h := iten q2 h
    refine AW.iconst (v := 0) (pc' := 544) X rfl dL_law_543 rfl ?_
    exact false_true h
set_option maxHeartbeats 4000000 in
set_option maxRecDepth 100000 in
theorem ok_L_law_520 {xs : Nat → Int32} {L : Nat} (X : CX p s m #[Value.ref b] meth c cL_law 4 RL D dA ad 0 662 A) (hC : SCX s A ad L xs) (hS : tSS 0 662 650) (hO : tMo 0 662 657) (hE : kc ≤ room_1.cells ∧ ks ≤ room_1.slots ∧ meth.sig.returnType = ret ∧ ∀ q, A q → s.heap.size ≤ q) {rec18 : Int32 → MM → Option Bool} (hrec18 : ∀ (x3 : Int32) (M : MM), rec18 x3 M = some true → AW p l e room_1 s m #[Value.ref b] below meth c D dA ad 0 662 4 A kc ks (lw_Z below #[Value.ref b] s) 18 [(0, .ref 1003), (1, .ref 650), (2, .ref 657), (3, .int x3)] [] M) : ∀ (x3 : Int32) (sb0 : Bool) (M : MM), f_L_law_520 xs L rec18 x3 sb0 M = some true → AW p l e room_1 s m #[Value.ref b] below meth c D dA ad 0 662 4 A kc ks (lw_Z below #[Value.ref b] s) 520 [(0, .ref 1003), (1, .ref 650), (2, .ref 657), (3, .int x3)] [.int (bz sb0), .ref 650] M := by
  intro x3 sb0 M h
  unfold f_L_law_520 at h
  obtain ⟨v1, c1, h⟩ := Option.bind_eq_some_iff.mp h
  refine AW.callV (As := [.int (bz sb0)]) (rest := []) (rv := (some (.int v1.1))) (M' := v1.2) (pc' := 523) X (ok_X6_hold hS c1) yv_X6_hold (hS).1.1 (hS).1.2.1 (cX hS dA ad _) rfl rfl ml_L_51 ⟨by decide, by decide, hE.1, hE.2.1⟩ rfl (Nat.le_of_ble_eq_true rfl) rfl rfl dL_law_520 rfl ?_
  refine AW.aload_n (k0 := 2) (pc' := 524) X rfl rfl dL_law_523 rfl ?_
  refine AW.aload_n (k0 := 0) (pc' := 525) X rfl rfl dL_law_524 rfl ?_
  refine AW.iload_n (k0 := 3) (pc' := 526) X rfl rfl dL_law_525 rfl ?_
  refine AW.iconst (v := 1) (pc' := 527) X rfl dL_law_526 rfl ?_
  refine AW.iadd (pc' := 528) X dL_law_527 rfl ?_
  obtain ⟨g2, h⟩ := gd_some h
  refine AW.sld (pc' := 529) X hC (inb_vp g2) dL_law_528 rfl ?_
  refine AW.if_eq (pc' := 532) (tgt := 536) X dL_law_529 rfl rfl (fun q3 => ?_) (fun q3 => ?_)
  · replace h := itep q3 h
    refine AW.iconst (v := 0) (pc' := 537) X rfl dL_law_536 rfl ?_
    exact ok_L_law_537 X hC hS hO hE hrec18 x3 false v1.1 v1.2 h
  · replace h := iten q3 h
    refine AW.iconst (v := 1) (pc' := 533) X rfl dL_law_532 rfl ?_
    refine AW.goto (pc' := 537) X dL_law_533 rfl ?_
    exact ok_L_law_537 X hC hS hO hE hrec18 x3 true v1.1 v1.2 h
set_option maxHeartbeats 4000000 in
set_option maxRecDepth 100000 in
theorem ok_L_law_18 {xs : Nat → Int32} {L : Nat} (X : CX p s m #[Value.ref b] meth c cL_law 4 RL D dA ad 0 662 A) (hC : SCX s A ad L xs) (hS : tSS 0 662 650) (hO : tMo 0 662 657) (hE : kc ≤ room_1.cells ∧ ks ≤ room_1.slots ∧ meth.sig.returnType = ret ∧ ∀ q, A q → s.heap.size ≤ q) : ∀ (k : Nat) (x3 : Int32) (M : MM), f_L_law_18 xs L k x3 M = some true → AW p l e room_1 s m #[Value.ref b] below meth c D dA ad 0 662 4 A kc ks (lw_Z below #[Value.ref b] s) 18 [(0, .ref 1003), (1, .ref 650), (2, .ref 657), (3, .int x3)] [] M := by
  intro k
  induction k with
  | zero => intro _ _ h; exact none_some h
  | succ k ih =>
    intro x3 M h
    unfold f_L_law_18 at h
    refine AW.iload_n (k0 := 3) (pc' := 19) X rfl rfl dL_law_18 rfl ?_
    refine AW.aload_n (k0 := 0) (pc' := 20) X rfl rfl dL_law_19 rfl ?_
    refine AW.slen (pc' := 21) X hC dL_law_20 rfl ?_
    refine AW.bipush (v := 6) (pc' := 23) X rfl dL_law_21 rfl ?_
    refine AW.isub (pc' := 24) X dL_law_23 rfl ?_
    refine AW.icmp_gt (pc' := 27) (tgt := 1090) X dL_law_24 rfl rfl (fun q1 => ?_) (fun q1 => ?_)
    · replace h := itep q1 h
      refine AW.iconst (v := 1) (pc' := 1091) X rfl dL_law_1090 rfl ?_
      exact AW.lawret X hE dL_law_1091
    · replace h := iten q1 h
      refine AW.aload_n (k0 := 0) (pc' := 28) X rfl rfl dL_law_27 rfl ?_
      refine AW.iload_n (k0 := 3) (pc' := 29) X rfl rfl dL_law_28 rfl ?_
      obtain ⟨g2, h⟩ := gd_some h
      refine AW.sld (pc' := 30) X hC (inb_vp g2) dL_law_29 rfl ?_
      refine AW.bipush (v := 31) (pc' := 32) X rfl dL_law_30 rfl ?_
      refine AW.iand (pc' := 33) X dL_law_32 rfl ?_
      by_cases q3 : ((xs (ix x3)) &&& 31) = 0
      · replace h := itep q3 h
        refine AW.tin (pc' := 176) X dL_law_33 (by rw [q3]; decide) (by rw [q3]; decide) (by rw [q3] <;> rfl) rfl ?_
        refine AW.aload_n (k0 := 1) (pc' := 177) X rfl rfl dL_law_176 rfl ?_
        refine AW.aload_n (k0 := 0) (pc' := 178) X rfl rfl dL_law_177 rfl ?_
        refine AW.iload_n (k0 := 3) (pc' := 179) X rfl rfl dL_law_178 rfl ?_
        refine AW.iconst (v := 1) (pc' := 180) X rfl dL_law_179 rfl ?_
        refine AW.iadd (pc' := 181) X dL_law_180 rfl ?_
        obtain ⟨g4, h⟩ := gd_some h
        refine AW.sld (pc' := 182) X hC (inb_vp g4) dL_law_181 rfl ?_
        refine AW.aload_n (k0 := 0) (pc' := 183) X rfl rfl dL_law_182 rfl ?_
        refine AW.iload_n (k0 := 3) (pc' := 184) X rfl rfl dL_law_183 rfl ?_
        refine AW.iconst (v := 2) (pc' := 185) X rfl dL_law_184 rfl ?_
        refine AW.iadd (pc' := 186) X dL_law_185 rfl ?_
        obtain ⟨g5, h⟩ := gd_some h
        refine AW.sld (pc' := 187) X hC (inb_vp g5) dL_law_186 rfl ?_
        refine AW.aload_n (k0 := 0) (pc' := 188) X rfl rfl dL_law_187 rfl ?_
        refine AW.iload_n (k0 := 3) (pc' := 189) X rfl rfl dL_law_188 rfl ?_
        refine AW.iconst (v := 3) (pc' := 190) X rfl dL_law_189 rfl ?_
        refine AW.iadd (pc' := 191) X dL_law_190 rfl ?_
        obtain ⟨g6, h⟩ := gd_some h
        refine AW.sld (pc' := 192) X hC (inb_vp g6) dL_law_191 rfl ?_
        obtain ⟨v7, c7, h⟩ := Option.bind_eq_some_iff.mp h
        refine AW.callV (As := [.int (xs (ix (x3 + 1))), .int (xs (ix (x3 + 2))), .int (xs (ix (x3 + 3)))]) (rest := []) (rv := (some (.int v7.1))) (M' := v7.2) (pc' := 195) X (ok_X6_setLines hS c7) yv_X6_setLines (hS).1.1 (hS).1.2.1 (cX hS dA ad _) rfl rfl ml_L_13 ⟨by decide, by decide, hE.1, hE.2.1⟩ rfl (Nat.le_of_ble_eq_true rfl) rfl rfl dL_law_192 rfl ?_
        refine AW.aload_n (k0 := 2) (pc' := 196) X rfl rfl dL_law_195 rfl ?_
        refine AW.aload_n (k0 := 0) (pc' := 197) X rfl rfl dL_law_196 rfl ?_
        refine AW.iload_n (k0 := 3) (pc' := 198) X rfl rfl dL_law_197 rfl ?_
        refine AW.iconst (v := 1) (pc' := 199) X rfl dL_law_198 rfl ?_
        refine AW.iadd (pc' := 200) X dL_law_199 rfl ?_
        obtain ⟨g8, h⟩ := gd_some h
        refine AW.sld (pc' := 201) X hC (inb_vp g8) dL_law_200 rfl ?_
        refine AW.aload_n (k0 := 0) (pc' := 202) X rfl rfl dL_law_201 rfl ?_
        refine AW.iload_n (k0 := 3) (pc' := 203) X rfl rfl dL_law_202 rfl ?_
        refine AW.iconst (v := 2) (pc' := 204) X rfl dL_law_203 rfl ?_
        refine AW.iadd (pc' := 205) X dL_law_204 rfl ?_
        obtain ⟨g9, h⟩ := gd_some h
        refine AW.sld (pc' := 206) X hC (inb_vp g9) dL_law_205 rfl ?_
        refine AW.aload_n (k0 := 0) (pc' := 207) X rfl rfl dL_law_206 rfl ?_
        refine AW.iload_n (k0 := 3) (pc' := 208) X rfl rfl dL_law_207 rfl ?_
        refine AW.iconst (v := 3) (pc' := 209) X rfl dL_law_208 rfl ?_
        refine AW.iadd (pc' := 210) X dL_law_209 rfl ?_
        obtain ⟨g10, h⟩ := gd_some h
        refine AW.sld (pc' := 211) X hC (inb_vp g10) dL_law_210 rfl ?_
        obtain ⟨v11, c11, h⟩ := Option.bind_eq_some_iff.mp h
        refine AW.callV (As := [.int (xs (ix (x3 + 1))), .int (xs (ix (x3 + 2))), .int (xs (ix (x3 + 3)))]) (rest := [.int (v7.1)]) (rv := (some (.int v11.1))) (M' := v11.2) (pc' := 214) X (ok_X7_setLines hO c11) yv_X7_setLines hO.1 hO.2.1 (cM hO dA ad _) rfl rfl ml_L_17 ⟨by decide, by decide, hE.1, hE.2.1⟩ rfl (Nat.le_of_ble_eq_true rfl) rfl rfl dL_law_211 rfl ?_
        refine AW.icmp_eq (pc' := 217) (tgt := 1084) X dL_law_214 rfl rfl (fun q12 => ?_) (fun q12 => ?_)
        · replace h := itep q12 h
          exact ok_L_law_1084 X hC hS hO hE ih x3 v11.2 h
        · replace h := iten q12 h
          refine AW.iconst (v := 0) (pc' := 218) X rfl dL_law_217 rfl ?_
          exact false_true h
      · replace h := iten q3 h
        by_cases q13 : ((xs (ix x3)) &&& 31) = 1
        · replace h := itep q13 h
          refine AW.tin (pc' := 219) X dL_law_33 (by rw [q13]; decide) (by rw [q13]; decide) (by rw [q13] <;> rfl) rfl ?_
          refine AW.aload_n (k0 := 1) (pc' := 220) X rfl rfl dL_law_219 rfl ?_
          refine AW.aload_n (k0 := 0) (pc' := 221) X rfl rfl dL_law_220 rfl ?_
          refine AW.iload_n (k0 := 3) (pc' := 222) X rfl rfl dL_law_221 rfl ?_
          refine AW.iconst (v := 1) (pc' := 223) X rfl dL_law_222 rfl ?_
          refine AW.iadd (pc' := 224) X dL_law_223 rfl ?_
          obtain ⟨g14, h⟩ := gd_some h
          refine AW.sld (pc' := 225) X hC (inb_vp g14) dL_law_224 rfl ?_
          refine AW.aload_n (k0 := 0) (pc' := 226) X rfl rfl dL_law_225 rfl ?_
          refine AW.iload_n (k0 := 3) (pc' := 227) X rfl rfl dL_law_226 rfl ?_
          refine AW.iconst (v := 2) (pc' := 228) X rfl dL_law_227 rfl ?_
          refine AW.iadd (pc' := 229) X dL_law_228 rfl ?_
          obtain ⟨g15, h⟩ := gd_some h
          refine AW.sld (pc' := 230) X hC (inb_vp g15) dL_law_229 rfl ?_
          obtain ⟨v16, c16, h⟩ := Option.bind_eq_some_iff.mp h
          refine AW.callV (As := [.int (xs (ix (x3 + 1))), .int (xs (ix (x3 + 2)))]) (rest := []) (rv := (some (.int v16.1))) (M' := v16.2) (pc' := 233) X (ok_X6_setPoint hS c16) yv_X6_setPoint (hS).1.1 (hS).1.2.1 (cX hS dA ad _) rfl rfl ml_L_18 ⟨by decide, by decide, hE.1, hE.2.1⟩ rfl (Nat.le_of_ble_eq_true rfl) rfl rfl dL_law_230 rfl ?_
          refine AW.aload_n (k0 := 2) (pc' := 234) X rfl rfl dL_law_233 rfl ?_
          refine AW.aload_n (k0 := 0) (pc' := 235) X rfl rfl dL_law_234 rfl ?_
          refine AW.iload_n (k0 := 3) (pc' := 236) X rfl rfl dL_law_235 rfl ?_
          refine AW.iconst (v := 1) (pc' := 237) X rfl dL_law_236 rfl ?_
          refine AW.iadd (pc' := 238) X dL_law_237 rfl ?_
          obtain ⟨g17, h⟩ := gd_some h
          refine AW.sld (pc' := 239) X hC (inb_vp g17) dL_law_238 rfl ?_
          refine AW.aload_n (k0 := 0) (pc' := 240) X rfl rfl dL_law_239 rfl ?_
          refine AW.iload_n (k0 := 3) (pc' := 241) X rfl rfl dL_law_240 rfl ?_
          refine AW.iconst (v := 2) (pc' := 242) X rfl dL_law_241 rfl ?_
          refine AW.iadd (pc' := 243) X dL_law_242 rfl ?_
          obtain ⟨g18, h⟩ := gd_some h
          refine AW.sld (pc' := 244) X hC (inb_vp g18) dL_law_243 rfl ?_
          obtain ⟨v19, c19, h⟩ := Option.bind_eq_some_iff.mp h
          refine AW.callV (As := [.int (xs (ix (x3 + 1))), .int (xs (ix (x3 + 2)))]) (rest := [.int (v16.1)]) (rv := (some (.int v19.1))) (M' := v19.2) (pc' := 247) X (ok_X7_setPoint hO c19) yv_X7_setPoint hO.1 hO.2.1 (cM hO dA ad _) rfl rfl ml_L_22 ⟨by decide, by decide, hE.1, hE.2.1⟩ rfl (Nat.le_of_ble_eq_true rfl) rfl rfl dL_law_244 rfl ?_
          refine AW.icmp_eq (pc' := 250) (tgt := 1084) X dL_law_247 rfl rfl (fun q20 => ?_) (fun q20 => ?_)
          · replace h := itep q20 h
            exact ok_L_law_1084 X hC hS hO hE ih x3 v19.2 h
          · replace h := iten q20 h
            refine AW.iconst (v := 0) (pc' := 251) X rfl dL_law_250 rfl ?_
            exact false_true h
        · replace h := iten q13 h
          by_cases q21 : ((xs (ix x3)) &&& 31) = 2
          · replace h := itep q21 h
            refine AW.tin (pc' := 252) X dL_law_33 (by rw [q21]; decide) (by rw [q21]; decide) (by rw [q21] <;> rfl) rfl ?_
            refine AW.aload_n (k0 := 1) (pc' := 253) X rfl rfl dL_law_252 rfl ?_
            refine AW.aload_n (k0 := 0) (pc' := 254) X rfl rfl dL_law_253 rfl ?_
            refine AW.iload_n (k0 := 3) (pc' := 255) X rfl rfl dL_law_254 rfl ?_
            refine AW.iconst (v := 1) (pc' := 256) X rfl dL_law_255 rfl ?_
            refine AW.iadd (pc' := 257) X dL_law_256 rfl ?_
            obtain ⟨g22, h⟩ := gd_some h
            refine AW.sld (pc' := 258) X hC (inb_vp g22) dL_law_257 rfl ?_
            refine AW.if_eq (pc' := 261) (tgt := 265) X dL_law_258 rfl rfl (fun q23 => ?_) (fun q23 => ?_)
            · replace h := itep q23 h
              refine AW.iconst (v := 0) (pc' := 266) X rfl dL_law_265 rfl ?_
              exact ok_L_law_266 X hC hS hO hE ih x3 false M h
            · replace h := iten q23 h
              refine AW.iconst (v := 1) (pc' := 262) X rfl dL_law_261 rfl ?_
              refine AW.goto (pc' := 266) X dL_law_262 rfl ?_
              exact ok_L_law_266 X hC hS hO hE ih x3 true M h
          · replace h := iten q21 h
            by_cases q24 : ((xs (ix x3)) &&& 31) = 3
            · replace h := itep q24 h
              refine AW.tin (pc' := 311) X dL_law_33 (by rw [q24]; decide) (by rw [q24]; decide) (by rw [q24] <;> rfl) rfl ?_
              refine AW.aload_n (k0 := 1) (pc' := 312) X rfl rfl dL_law_311 rfl ?_
              refine AW.aload_n (k0 := 0) (pc' := 313) X rfl rfl dL_law_312 rfl ?_
              refine AW.iload_n (k0 := 3) (pc' := 314) X rfl rfl dL_law_313 rfl ?_
              refine AW.iconst (v := 1) (pc' := 315) X rfl dL_law_314 rfl ?_
              refine AW.iadd (pc' := 316) X dL_law_315 rfl ?_
              obtain ⟨g25, h⟩ := gd_some h
              refine AW.sld (pc' := 317) X hC (inb_vp g25) dL_law_316 rfl ?_
              refine AW.aload_n (k0 := 0) (pc' := 318) X rfl rfl dL_law_317 rfl ?_
              refine AW.iload_n (k0 := 3) (pc' := 319) X rfl rfl dL_law_318 rfl ?_
              refine AW.iconst (v := 2) (pc' := 320) X rfl dL_law_319 rfl ?_
              refine AW.iadd (pc' := 321) X dL_law_320 rfl ?_
              obtain ⟨g26, h⟩ := gd_some h
              refine AW.sld (pc' := 322) X hC (inb_vp g26) dL_law_321 rfl ?_
              refine AW.aload_n (k0 := 0) (pc' := 323) X rfl rfl dL_law_322 rfl ?_
              refine AW.iload_n (k0 := 3) (pc' := 324) X rfl rfl dL_law_323 rfl ?_
              refine AW.iconst (v := 3) (pc' := 325) X rfl dL_law_324 rfl ?_
              refine AW.iadd (pc' := 326) X dL_law_325 rfl ?_
              obtain ⟨g27, h⟩ := gd_some h
              refine AW.sld (pc' := 327) X hC (inb_vp g27) dL_law_326 rfl ?_
              refine AW.aload_n (k0 := 0) (pc' := 328) X rfl rfl dL_law_327 rfl ?_
              refine AW.iload_n (k0 := 3) (pc' := 329) X rfl rfl dL_law_328 rfl ?_
              refine AW.iconst (v := 4) (pc' := 330) X rfl dL_law_329 rfl ?_
              refine AW.iadd (pc' := 331) X dL_law_330 rfl ?_
              obtain ⟨g28, h⟩ := gd_some h
              refine AW.sld (pc' := 332) X hC (inb_vp g28) dL_law_331 rfl ?_
              refine AW.aload_n (k0 := 0) (pc' := 333) X rfl rfl dL_law_332 rfl ?_
              refine AW.iload_n (k0 := 3) (pc' := 334) X rfl rfl dL_law_333 rfl ?_
              refine AW.iconst (v := 5) (pc' := 335) X rfl dL_law_334 rfl ?_
              refine AW.iadd (pc' := 336) X dL_law_335 rfl ?_
              obtain ⟨g29, h⟩ := gd_some h
              refine AW.sld (pc' := 337) X hC (inb_vp g29) dL_law_336 rfl ?_
              obtain ⟨v30, c30, h⟩ := Option.bind_eq_some_iff.mp h
              refine AW.callV (As := [.int (xs (ix (x3 + 1))), .int (xs (ix (x3 + 2))), .int (xs (ix (x3 + 3))), .int (xs (ix (x3 + 4))), .int (xs (ix (x3 + 5)))]) (rest := []) (rv := (some (.int v30.1))) (M' := v30.2) (pc' := 340) X (ok_X6_setMode hS c30) yv_X6_setMode (hS).1.1 (hS).1.2.1 (cX hS dA ad _) rfl rfl ml_L_28 ⟨by decide, by decide, hE.1, hE.2.1⟩ rfl (Nat.le_of_ble_eq_true rfl) rfl rfl dL_law_337 rfl ?_
              refine AW.aload_n (k0 := 2) (pc' := 341) X rfl rfl dL_law_340 rfl ?_
              refine AW.aload_n (k0 := 0) (pc' := 342) X rfl rfl dL_law_341 rfl ?_
              refine AW.iload_n (k0 := 3) (pc' := 343) X rfl rfl dL_law_342 rfl ?_
              refine AW.iconst (v := 1) (pc' := 344) X rfl dL_law_343 rfl ?_
              refine AW.iadd (pc' := 345) X dL_law_344 rfl ?_
              obtain ⟨g31, h⟩ := gd_some h
              refine AW.sld (pc' := 346) X hC (inb_vp g31) dL_law_345 rfl ?_
              refine AW.aload_n (k0 := 0) (pc' := 347) X rfl rfl dL_law_346 rfl ?_
              refine AW.iload_n (k0 := 3) (pc' := 348) X rfl rfl dL_law_347 rfl ?_
              refine AW.iconst (v := 2) (pc' := 349) X rfl dL_law_348 rfl ?_
              refine AW.iadd (pc' := 350) X dL_law_349 rfl ?_
              obtain ⟨g32, h⟩ := gd_some h
              refine AW.sld (pc' := 351) X hC (inb_vp g32) dL_law_350 rfl ?_
              refine AW.aload_n (k0 := 0) (pc' := 352) X rfl rfl dL_law_351 rfl ?_
              refine AW.iload_n (k0 := 3) (pc' := 353) X rfl rfl dL_law_352 rfl ?_
              refine AW.iconst (v := 3) (pc' := 354) X rfl dL_law_353 rfl ?_
              refine AW.iadd (pc' := 355) X dL_law_354 rfl ?_
              obtain ⟨g33, h⟩ := gd_some h
              refine AW.sld (pc' := 356) X hC (inb_vp g33) dL_law_355 rfl ?_
              refine AW.aload_n (k0 := 0) (pc' := 357) X rfl rfl dL_law_356 rfl ?_
              refine AW.iload_n (k0 := 3) (pc' := 358) X rfl rfl dL_law_357 rfl ?_
              refine AW.iconst (v := 4) (pc' := 359) X rfl dL_law_358 rfl ?_
              refine AW.iadd (pc' := 360) X dL_law_359 rfl ?_
              obtain ⟨g34, h⟩ := gd_some h
              refine AW.sld (pc' := 361) X hC (inb_vp g34) dL_law_360 rfl ?_
              refine AW.aload_n (k0 := 0) (pc' := 362) X rfl rfl dL_law_361 rfl ?_
              refine AW.iload_n (k0 := 3) (pc' := 363) X rfl rfl dL_law_362 rfl ?_
              refine AW.iconst (v := 5) (pc' := 364) X rfl dL_law_363 rfl ?_
              refine AW.iadd (pc' := 365) X dL_law_364 rfl ?_
              obtain ⟨g35, h⟩ := gd_some h
              refine AW.sld (pc' := 366) X hC (inb_vp g35) dL_law_365 rfl ?_
              obtain ⟨v36, c36, h⟩ := Option.bind_eq_some_iff.mp h
              refine AW.callV (As := [.int (xs (ix (x3 + 1))), .int (xs (ix (x3 + 2))), .int (xs (ix (x3 + 3))), .int (xs (ix (x3 + 4))), .int (xs (ix (x3 + 5)))]) (rest := [.int (v30.1)]) (rv := (some (.int v36.1))) (M' := v36.2) (pc' := 369) X (ok_X7_setMode hO c36) yv_X7_setMode hO.1 hO.2.1 (cM hO dA ad _) rfl rfl ml_L_32 ⟨by decide, by decide, hE.1, hE.2.1⟩ rfl (Nat.le_of_ble_eq_true rfl) rfl rfl dL_law_366 rfl ?_
              refine AW.icmp_eq (pc' := 372) (tgt := 1084) X dL_law_369 rfl rfl (fun q37 => ?_) (fun q37 => ?_)
              · replace h := itep q37 h
                exact ok_L_law_1084 X hC hS hO hE ih x3 v36.2 h
              · replace h := iten q37 h
                refine AW.iconst (v := 0) (pc' := 373) X rfl dL_law_372 rfl ?_
                exact false_true h
            · replace h := iten q24 h
              by_cases q38 : ((xs (ix x3)) &&& 31) = 4
              · replace h := itep q38 h
                refine AW.tin (pc' := 374) X dL_law_33 (by rw [q38]; decide) (by rw [q38]; decide) (by rw [q38] <;> rfl) rfl ?_
                refine AW.aload_n (k0 := 1) (pc' := 375) X rfl rfl dL_law_374 rfl ?_
                refine AW.aload_n (k0 := 0) (pc' := 376) X rfl rfl dL_law_375 rfl ?_
                refine AW.iload_n (k0 := 3) (pc' := 377) X rfl rfl dL_law_376 rfl ?_
                refine AW.iconst (v := 1) (pc' := 378) X rfl dL_law_377 rfl ?_
                refine AW.iadd (pc' := 379) X dL_law_378 rfl ?_
                obtain ⟨g39, h⟩ := gd_some h
                refine AW.sld (pc' := 380) X hC (inb_vp g39) dL_law_379 rfl ?_
                refine AW.aload_n (k0 := 0) (pc' := 381) X rfl rfl dL_law_380 rfl ?_
                refine AW.iload_n (k0 := 3) (pc' := 382) X rfl rfl dL_law_381 rfl ?_
                refine AW.iconst (v := 2) (pc' := 383) X rfl dL_law_382 rfl ?_
                refine AW.iadd (pc' := 384) X dL_law_383 rfl ?_
                obtain ⟨g40, h⟩ := gd_some h
                refine AW.sld (pc' := 385) X hC (inb_vp g40) dL_law_384 rfl ?_
                refine AW.aload_n (k0 := 0) (pc' := 386) X rfl rfl dL_law_385 rfl ?_
                refine AW.iload_n (k0 := 3) (pc' := 387) X rfl rfl dL_law_386 rfl ?_
                refine AW.iconst (v := 3) (pc' := 388) X rfl dL_law_387 rfl ?_
                refine AW.iadd (pc' := 389) X dL_law_388 rfl ?_
                obtain ⟨g41, h⟩ := gd_some h
                refine AW.sld (pc' := 390) X hC (inb_vp g41) dL_law_389 rfl ?_
                refine AW.aload_n (k0 := 0) (pc' := 391) X rfl rfl dL_law_390 rfl ?_
                refine AW.iload_n (k0 := 3) (pc' := 392) X rfl rfl dL_law_391 rfl ?_
                refine AW.iconst (v := 4) (pc' := 393) X rfl dL_law_392 rfl ?_
                refine AW.iadd (pc' := 394) X dL_law_393 rfl ?_
                obtain ⟨g42, h⟩ := gd_some h
                refine AW.sld (pc' := 395) X hC (inb_vp g42) dL_law_394 rfl ?_
                obtain ⟨v43, c43, h⟩ := Option.bind_eq_some_iff.mp h
                refine AW.callV (As := [.int (xs (ix (x3 + 1))), .int (xs (ix (x3 + 2))), .int (xs (ix (x3 + 3))), .int (xs (ix (x3 + 4)))]) (rest := []) (rv := (some (.int v43.1))) (M' := v43.2) (pc' := 398) X (ok_X6_addNotch hS c43) yv_X6_addNotch (hS).1.1 (hS).1.2.1 (cX hS dA ad _) rfl rfl ml_L_33 ⟨by decide, by decide, hE.1, hE.2.1⟩ rfl (Nat.le_of_ble_eq_true rfl) rfl rfl dL_law_395 rfl ?_
                refine AW.aload_n (k0 := 2) (pc' := 399) X rfl rfl dL_law_398 rfl ?_
                refine AW.aload_n (k0 := 0) (pc' := 400) X rfl rfl dL_law_399 rfl ?_
                refine AW.iload_n (k0 := 3) (pc' := 401) X rfl rfl dL_law_400 rfl ?_
                refine AW.iconst (v := 1) (pc' := 402) X rfl dL_law_401 rfl ?_
                refine AW.iadd (pc' := 403) X dL_law_402 rfl ?_
                obtain ⟨g44, h⟩ := gd_some h
                refine AW.sld (pc' := 404) X hC (inb_vp g44) dL_law_403 rfl ?_
                refine AW.aload_n (k0 := 0) (pc' := 405) X rfl rfl dL_law_404 rfl ?_
                refine AW.iload_n (k0 := 3) (pc' := 406) X rfl rfl dL_law_405 rfl ?_
                refine AW.iconst (v := 2) (pc' := 407) X rfl dL_law_406 rfl ?_
                refine AW.iadd (pc' := 408) X dL_law_407 rfl ?_
                obtain ⟨g45, h⟩ := gd_some h
                refine AW.sld (pc' := 409) X hC (inb_vp g45) dL_law_408 rfl ?_
                refine AW.aload_n (k0 := 0) (pc' := 410) X rfl rfl dL_law_409 rfl ?_
                refine AW.iload_n (k0 := 3) (pc' := 411) X rfl rfl dL_law_410 rfl ?_
                refine AW.iconst (v := 3) (pc' := 412) X rfl dL_law_411 rfl ?_
                refine AW.iadd (pc' := 413) X dL_law_412 rfl ?_
                obtain ⟨g46, h⟩ := gd_some h
                refine AW.sld (pc' := 414) X hC (inb_vp g46) dL_law_413 rfl ?_
                refine AW.aload_n (k0 := 0) (pc' := 415) X rfl rfl dL_law_414 rfl ?_
                refine AW.iload_n (k0 := 3) (pc' := 416) X rfl rfl dL_law_415 rfl ?_
                refine AW.iconst (v := 4) (pc' := 417) X rfl dL_law_416 rfl ?_
                refine AW.iadd (pc' := 418) X dL_law_417 rfl ?_
                obtain ⟨g47, h⟩ := gd_some h
                refine AW.sld (pc' := 419) X hC (inb_vp g47) dL_law_418 rfl ?_
                obtain ⟨v48, c48, h⟩ := Option.bind_eq_some_iff.mp h
                refine AW.callV (As := [.int (xs (ix (x3 + 1))), .int (xs (ix (x3 + 2))), .int (xs (ix (x3 + 3))), .int (xs (ix (x3 + 4)))]) (rest := [.int (v43.1)]) (rv := (some (.int v48.1))) (M' := v48.2) (pc' := 422) X (ok_X7_addNotch hO c48) yv_X7_addNotch hO.1 hO.2.1 (cM hO dA ad _) rfl rfl ml_L_37 ⟨by decide, by decide, hE.1, hE.2.1⟩ rfl (Nat.le_of_ble_eq_true rfl) rfl rfl dL_law_419 rfl ?_
                refine AW.icmp_eq (pc' := 425) (tgt := 1084) X dL_law_422 rfl rfl (fun q49 => ?_) (fun q49 => ?_)
                · replace h := itep q49 h
                  exact ok_L_law_1084 X hC hS hO hE ih x3 v48.2 h
                · replace h := iten q49 h
                  refine AW.iconst (v := 0) (pc' := 426) X rfl dL_law_425 rfl ?_
                  exact false_true h
              · replace h := iten q38 h
                by_cases q50 : ((xs (ix x3)) &&& 31) = 5
                · replace h := itep q50 h
                  refine AW.tin (pc' := 427) X dL_law_33 (by rw [q50]; decide) (by rw [q50]; decide) (by rw [q50] <;> rfl) rfl ?_
                  refine AW.aload_n (k0 := 1) (pc' := 428) X rfl rfl dL_law_427 rfl ?_
                  refine AW.aload_n (k0 := 0) (pc' := 429) X rfl rfl dL_law_428 rfl ?_
                  refine AW.iload_n (k0 := 3) (pc' := 430) X rfl rfl dL_law_429 rfl ?_
                  refine AW.iconst (v := 1) (pc' := 431) X rfl dL_law_430 rfl ?_
                  refine AW.iadd (pc' := 432) X dL_law_431 rfl ?_
                  obtain ⟨g51, h⟩ := gd_some h
                  refine AW.sld (pc' := 433) X hC (inb_vp g51) dL_law_432 rfl ?_
                  refine AW.aload_n (k0 := 0) (pc' := 434) X rfl rfl dL_law_433 rfl ?_
                  refine AW.iload_n (k0 := 3) (pc' := 435) X rfl rfl dL_law_434 rfl ?_
                  refine AW.iconst (v := 2) (pc' := 436) X rfl dL_law_435 rfl ?_
                  refine AW.iadd (pc' := 437) X dL_law_436 rfl ?_
                  obtain ⟨g52, h⟩ := gd_some h
                  refine AW.sld (pc' := 438) X hC (inb_vp g52) dL_law_437 rfl ?_
                  obtain ⟨v53, c53, h⟩ := Option.bind_eq_some_iff.mp h
                  refine AW.callV (As := [.int (xs (ix (x3 + 1))), .int (xs (ix (x3 + 2)))]) (rest := []) (rv := (some (.int v53.1))) (M' := v53.2) (pc' := 441) X (ok_X6_set hS c53) yv_X6_set (hS).1.1 (hS).1.2.1 (cX hS dA ad _) rfl rfl ml_L_38 ⟨by decide, by decide, hE.1, hE.2.1⟩ rfl (Nat.le_of_ble_eq_true rfl) rfl rfl dL_law_438 rfl ?_
                  refine AW.aload_n (k0 := 2) (pc' := 442) X rfl rfl dL_law_441 rfl ?_
                  refine AW.aload_n (k0 := 0) (pc' := 443) X rfl rfl dL_law_442 rfl ?_
                  refine AW.iload_n (k0 := 3) (pc' := 444) X rfl rfl dL_law_443 rfl ?_
                  refine AW.iconst (v := 1) (pc' := 445) X rfl dL_law_444 rfl ?_
                  refine AW.iadd (pc' := 446) X dL_law_445 rfl ?_
                  obtain ⟨g54, h⟩ := gd_some h
                  refine AW.sld (pc' := 447) X hC (inb_vp g54) dL_law_446 rfl ?_
                  refine AW.aload_n (k0 := 0) (pc' := 448) X rfl rfl dL_law_447 rfl ?_
                  refine AW.iload_n (k0 := 3) (pc' := 449) X rfl rfl dL_law_448 rfl ?_
                  refine AW.iconst (v := 2) (pc' := 450) X rfl dL_law_449 rfl ?_
                  refine AW.iadd (pc' := 451) X dL_law_450 rfl ?_
                  obtain ⟨g55, h⟩ := gd_some h
                  refine AW.sld (pc' := 452) X hC (inb_vp g55) dL_law_451 rfl ?_
                  obtain ⟨v56, c56, h⟩ := Option.bind_eq_some_iff.mp h
                  refine AW.callV (As := [.int (xs (ix (x3 + 1))), .int (xs (ix (x3 + 2)))]) (rest := [.int (v53.1)]) (rv := (some (.int v56.1))) (M' := v56.2) (pc' := 455) X (ok_X7_set hO c56) yv_X7_set hO.1 hO.2.1 (cM hO dA ad _) rfl rfl ml_L_41 ⟨by decide, by decide, hE.1, hE.2.1⟩ rfl (Nat.le_of_ble_eq_true rfl) rfl rfl dL_law_452 rfl ?_
                  refine AW.icmp_eq (pc' := 458) (tgt := 1084) X dL_law_455 rfl rfl (fun q57 => ?_) (fun q57 => ?_)
                  · replace h := itep q57 h
                    exact ok_L_law_1084 X hC hS hO hE ih x3 v56.2 h
                  · replace h := iten q57 h
                    refine AW.iconst (v := 0) (pc' := 459) X rfl dL_law_458 rfl ?_
                    exact false_true h
                · replace h := iten q50 h
                  by_cases q58 : ((xs (ix x3)) &&& 31) = 6
                  · replace h := itep q58 h
                    refine AW.tin (pc' := 460) X dL_law_33 (by rw [q58]; decide) (by rw [q58]; decide) (by rw [q58] <;> rfl) rfl ?_
                    refine AW.aload_n (k0 := 1) (pc' := 461) X rfl rfl dL_law_460 rfl ?_
                    refine AW.aload_n (k0 := 0) (pc' := 462) X rfl rfl dL_law_461 rfl ?_
                    refine AW.iload_n (k0 := 3) (pc' := 463) X rfl rfl dL_law_462 rfl ?_
                    refine AW.iconst (v := 1) (pc' := 464) X rfl dL_law_463 rfl ?_
                    refine AW.iadd (pc' := 465) X dL_law_464 rfl ?_
                    obtain ⟨g59, h⟩ := gd_some h
                    refine AW.sld (pc' := 466) X hC (inb_vp g59) dL_law_465 rfl ?_
                    obtain ⟨v60, c60, h⟩ := Option.bind_eq_some_iff.mp h
                    refine AW.callV (As := [.int (xs (ix (x3 + 1)))]) (rest := []) (rv := (some (.int v60.1))) (M' := v60.2) (pc' := 469) X (ok_X6_start hS c60) yv_X6_start (hS).1.1 (hS).1.2.1 (cX hS dA ad _) rfl rfl ml_L_42 ⟨by decide, by decide, hE.1, hE.2.1⟩ rfl (Nat.le_of_ble_eq_true rfl) rfl rfl dL_law_466 rfl ?_
                    refine AW.aload_n (k0 := 2) (pc' := 470) X rfl rfl dL_law_469 rfl ?_
                    refine AW.aload_n (k0 := 0) (pc' := 471) X rfl rfl dL_law_470 rfl ?_
                    refine AW.iload_n (k0 := 3) (pc' := 472) X rfl rfl dL_law_471 rfl ?_
                    refine AW.iconst (v := 1) (pc' := 473) X rfl dL_law_472 rfl ?_
                    refine AW.iadd (pc' := 474) X dL_law_473 rfl ?_
                    obtain ⟨g61, h⟩ := gd_some h
                    refine AW.sld (pc' := 475) X hC (inb_vp g61) dL_law_474 rfl ?_
                    obtain ⟨v62, c62, h⟩ := Option.bind_eq_some_iff.mp h
                    refine AW.callV (As := [.int (xs (ix (x3 + 1)))]) (rest := [.int (v60.1)]) (rv := (some (.int v62.1))) (M' := v62.2) (pc' := 478) X (ok_X7_start hO c62) yv_X7_start hO.1 hO.2.1 (cM hO dA ad _) rfl rfl ml_L_46 ⟨by decide, by decide, hE.1, hE.2.1⟩ rfl (Nat.le_of_ble_eq_true rfl) rfl rfl dL_law_475 rfl ?_
                    refine AW.icmp_eq (pc' := 481) (tgt := 1084) X dL_law_478 rfl rfl (fun q63 => ?_) (fun q63 => ?_)
                    · replace h := itep q63 h
                      exact ok_L_law_1084 X hC hS hO hE ih x3 v62.2 h
                    · replace h := iten q63 h
                      refine AW.iconst (v := 0) (pc' := 482) X rfl dL_law_481 rfl ?_
                      exact false_true h
                  · replace h := iten q58 h
                    by_cases q64 : ((xs (ix x3)) &&& 31) = 7
                    · replace h := itep q64 h
                      refine AW.tin (pc' := 483) X dL_law_33 (by rw [q64]; decide) (by rw [q64]; decide) (by rw [q64] <;> rfl) rfl ?_
                      refine AW.aload_n (k0 := 1) (pc' := 484) X rfl rfl dL_law_483 rfl ?_
                      refine AW.aload_n (k0 := 0) (pc' := 485) X rfl rfl dL_law_484 rfl ?_
                      refine AW.iload_n (k0 := 3) (pc' := 486) X rfl rfl dL_law_485 rfl ?_
                      refine AW.iconst (v := 1) (pc' := 487) X rfl dL_law_486 rfl ?_
                      refine AW.iadd (pc' := 488) X dL_law_487 rfl ?_
                      obtain ⟨g65, h⟩ := gd_some h
                      refine AW.sld (pc' := 489) X hC (inb_vp g65) dL_law_488 rfl ?_
                      obtain ⟨v66, c66, h⟩ := Option.bind_eq_some_iff.mp h
                      refine AW.callV (As := [.int (xs (ix (x3 + 1)))]) (rest := []) (rv := (some (.int v66.1))) (M' := v66.2) (pc' := 492) X (ok_X6_step hS c66) yv_X6_step (hS).1.1 (hS).1.2.1 (cX hS dA ad _) rfl rfl ml_L_47 ⟨by decide, by decide, hE.1, hE.2.1⟩ rfl (Nat.le_of_ble_eq_true rfl) rfl rfl dL_law_489 rfl ?_
                      refine AW.aload_n (k0 := 2) (pc' := 493) X rfl rfl dL_law_492 rfl ?_
                      refine AW.aload_n (k0 := 0) (pc' := 494) X rfl rfl dL_law_493 rfl ?_
                      refine AW.iload_n (k0 := 3) (pc' := 495) X rfl rfl dL_law_494 rfl ?_
                      refine AW.iconst (v := 1) (pc' := 496) X rfl dL_law_495 rfl ?_
                      refine AW.iadd (pc' := 497) X dL_law_496 rfl ?_
                      obtain ⟨g67, h⟩ := gd_some h
                      refine AW.sld (pc' := 498) X hC (inb_vp g67) dL_law_497 rfl ?_
                      obtain ⟨v68, c68, h⟩ := Option.bind_eq_some_iff.mp h
                      refine AW.callV (As := [.int (xs (ix (x3 + 1)))]) (rest := [.int (v66.1)]) (rv := (some (.int v68.1))) (M' := v68.2) (pc' := 501) X (ok_X7_step hO c68) yv_X7_step hO.1 hO.2.1 (cM hO dA ad _) rfl rfl ml_L_50 ⟨by decide, by decide, hE.1, hE.2.1⟩ rfl (Nat.le_of_ble_eq_true rfl) rfl rfl dL_law_498 rfl ?_
                      refine AW.icmp_eq (pc' := 504) (tgt := 1084) X dL_law_501 rfl rfl (fun q69 => ?_) (fun q69 => ?_)
                      · replace h := itep q69 h
                        exact ok_L_law_1084 X hC hS hO hE ih x3 v68.2 h
                      · replace h := iten q69 h
                        refine AW.iconst (v := 0) (pc' := 505) X rfl dL_law_504 rfl ?_
                        exact false_true h
                    · replace h := iten q64 h
                      by_cases q70 : ((xs (ix x3)) &&& 31) = 8
                      · replace h := itep q70 h
                        refine AW.tin (pc' := 506) X dL_law_33 (by rw [q70]; decide) (by rw [q70]; decide) (by rw [q70] <;> rfl) rfl ?_
                        refine AW.aload_n (k0 := 1) (pc' := 507) X rfl rfl dL_law_506 rfl ?_
                        refine AW.aload_n (k0 := 0) (pc' := 508) X rfl rfl dL_law_507 rfl ?_
                        refine AW.iload_n (k0 := 3) (pc' := 509) X rfl rfl dL_law_508 rfl ?_
                        refine AW.iconst (v := 1) (pc' := 510) X rfl dL_law_509 rfl ?_
                        refine AW.iadd (pc' := 511) X dL_law_510 rfl ?_
                        obtain ⟨g71, h⟩ := gd_some h
                        refine AW.sld (pc' := 512) X hC (inb_vp g71) dL_law_511 rfl ?_
                        refine AW.if_eq (pc' := 515) (tgt := 519) X dL_law_512 rfl rfl (fun q72 => ?_) (fun q72 => ?_)
                        · replace h := itep q72 h
                          refine AW.iconst (v := 0) (pc' := 520) X rfl dL_law_519 rfl ?_
                          exact ok_L_law_520 X hC hS hO hE ih x3 false M h
                        · replace h := iten q72 h
                          refine AW.iconst (v := 1) (pc' := 516) X rfl dL_law_515 rfl ?_
                          refine AW.goto (pc' := 520) X dL_law_516 rfl ?_
                          exact ok_L_law_520 X hC hS hO hE ih x3 true M h
                      · replace h := iten q70 h
                        by_cases q73 : ((xs (ix x3)) &&& 31) = 9
                        · replace h := itep q73 h
                          refine AW.tin (pc' := 545) X dL_law_33 (by rw [q73]; decide) (by rw [q73]; decide) (by rw [q73] <;> rfl) rfl ?_
                          refine AW.aload_n (k0 := 1) (pc' := 546) X rfl rfl dL_law_545 rfl ?_
                          obtain ⟨v74, c74, h⟩ := Option.bind_eq_some_iff.mp h
                          refine AW.callV (As := []) (rest := []) (rv := (some (.int v74.1))) (M' := v74.2) (pc' := 549) X (ok_X6_abort hS c74) yv_X6_abort (hS).1.1 (hS).1.2.1 (cX hS dA ad _) rfl rfl ml_L_56 ⟨by decide, by decide, hE.1, hE.2.1⟩ rfl (Nat.le_of_ble_eq_true rfl) rfl rfl dL_law_546 rfl ?_
                          refine AW.aload_n (k0 := 2) (pc' := 550) X rfl rfl dL_law_549 rfl ?_
                          obtain ⟨v75, c75, h⟩ := Option.bind_eq_some_iff.mp h
                          refine AW.callV (As := []) (rest := [.int (v74.1)]) (rv := (some (.int v75.1))) (M' := v75.2) (pc' := 553) X (ok_X7_abort hO c75) yv_X7_abort hO.1 hO.2.1 (cM hO dA ad _) rfl rfl ml_L_60 ⟨by decide, by decide, hE.1, hE.2.1⟩ rfl (Nat.le_of_ble_eq_true rfl) rfl rfl dL_law_550 rfl ?_
                          refine AW.icmp_eq (pc' := 556) (tgt := 1084) X dL_law_553 rfl rfl (fun q76 => ?_) (fun q76 => ?_)
                          · replace h := itep q76 h
                            exact ok_L_law_1084 X hC hS hO hE ih x3 v75.2 h
                          · replace h := iten q76 h
                            refine AW.iconst (v := 0) (pc' := 557) X rfl dL_law_556 rfl ?_
                            exact false_true h
                        · replace h := iten q73 h
                          by_cases q77 : ((xs (ix x3)) &&& 31) = 10
                          · replace h := itep q77 h
                            refine AW.tin (pc' := 558) X dL_law_33 (by rw [q77]; decide) (by rw [q77]; decide) (by rw [q77] <;> rfl) rfl ?_
                            refine AW.aload_n (k0 := 1) (pc' := 559) X rfl rfl dL_law_558 rfl ?_
                            refine AW.aload_n (k0 := 0) (pc' := 560) X rfl rfl dL_law_559 rfl ?_
                            refine AW.iload_n (k0 := 3) (pc' := 561) X rfl rfl dL_law_560 rfl ?_
                            refine AW.iconst (v := 1) (pc' := 562) X rfl dL_law_561 rfl ?_
                            refine AW.iadd (pc' := 563) X dL_law_562 rfl ?_
                            obtain ⟨g78, h⟩ := gd_some h
                            refine AW.sld (pc' := 564) X hC (inb_vp g78) dL_law_563 rfl ?_
                            obtain ⟨v79, c79, h⟩ := Option.bind_eq_some_iff.mp h
                            refine AW.callV (As := [.int (xs (ix (x3 + 1)))]) (rest := []) (rv := (some (.int v79.1))) (M' := v79.2) (pc' := 567) X (ok_X6_append hS c79) yv_X6_append (hS).1.1 (hS).1.2.1 (cX hS dA ad _) rfl rfl ml_L_61 ⟨by decide, by decide, hE.1, hE.2.1⟩ rfl (Nat.le_of_ble_eq_true rfl) rfl rfl dL_law_564 rfl ?_
                            refine AW.aload_n (k0 := 2) (pc' := 568) X rfl rfl dL_law_567 rfl ?_
                            refine AW.aload_n (k0 := 0) (pc' := 569) X rfl rfl dL_law_568 rfl ?_
                            refine AW.iload_n (k0 := 3) (pc' := 570) X rfl rfl dL_law_569 rfl ?_
                            refine AW.iconst (v := 1) (pc' := 571) X rfl dL_law_570 rfl ?_
                            refine AW.iadd (pc' := 572) X dL_law_571 rfl ?_
                            obtain ⟨g80, h⟩ := gd_some h
                            refine AW.sld (pc' := 573) X hC (inb_vp g80) dL_law_572 rfl ?_
                            obtain ⟨v81, c81, h⟩ := Option.bind_eq_some_iff.mp h
                            refine AW.callV (As := [.int (xs (ix (x3 + 1)))]) (rest := [.int (v79.1)]) (rv := (some (.int v81.1))) (M' := v81.2) (pc' := 576) X (ok_X7_append hO c81) yv_X7_append hO.1 hO.2.1 (cM hO dA ad _) rfl rfl ml_L_64 ⟨by decide, by decide, hE.1, hE.2.1⟩ rfl (Nat.le_of_ble_eq_true rfl) rfl rfl dL_law_573 rfl ?_
                            refine AW.icmp_eq (pc' := 579) (tgt := 1084) X dL_law_576 rfl rfl (fun q82 => ?_) (fun q82 => ?_)
                            · replace h := itep q82 h
                              exact ok_L_law_1084 X hC hS hO hE ih x3 v81.2 h
                            · replace h := iten q82 h
                              refine AW.iconst (v := 0) (pc' := 580) X rfl dL_law_579 rfl ?_
                              exact false_true h
                          · replace h := iten q77 h
                            by_cases q83 : ((xs (ix x3)) &&& 31) = 11
                            · replace h := itep q83 h
                              refine AW.tin (pc' := 581) X dL_law_33 (by rw [q83]; decide) (by rw [q83]; decide) (by rw [q83] <;> rfl) rfl ?_
                              refine AW.aload_n (k0 := 1) (pc' := 582) X rfl rfl dL_law_581 rfl ?_
                              obtain ⟨v84, c84, h⟩ := Option.bind_eq_some_iff.mp h
                              refine AW.callV (As := []) (rest := []) (rv := (some (.int v84.1))) (M' := v84.2) (pc' := 585) X (ok_X6_clearText hS c84) yv_X6_clearText (hS).1.1 (hS).1.2.1 (cX hS dA ad _) rfl rfl ml_L_65 ⟨by decide, by decide, hE.1, hE.2.1⟩ rfl (Nat.le_of_ble_eq_true rfl) rfl rfl dL_law_582 rfl ?_
                              refine AW.aload_n (k0 := 2) (pc' := 586) X rfl rfl dL_law_585 rfl ?_
                              obtain ⟨v85, c85, h⟩ := Option.bind_eq_some_iff.mp h
                              refine AW.callV (As := []) (rest := [.int (v84.1)]) (rv := (some (.int v85.1))) (M' := v85.2) (pc' := 589) X (ok_X7_clearText hO c85) yv_X7_clearText hO.1 hO.2.1 (cM hO dA ad _) rfl rfl ml_L_68 ⟨by decide, by decide, hE.1, hE.2.1⟩ rfl (Nat.le_of_ble_eq_true rfl) rfl rfl dL_law_586 rfl ?_
                              refine AW.icmp_eq (pc' := 592) (tgt := 1084) X dL_law_589 rfl rfl (fun q86 => ?_) (fun q86 => ?_)
                              · replace h := itep q86 h
                                exact ok_L_law_1084 X hC hS hO hE ih x3 v85.2 h
                              · replace h := iten q86 h
                                refine AW.iconst (v := 0) (pc' := 593) X rfl dL_law_592 rfl ?_
                                exact false_true h
                            · replace h := iten q83 h
                              by_cases q87 : ((xs (ix x3)) &&& 31) = 12
                              · replace h := itep q87 h
                                refine AW.tin (pc' := 594) X dL_law_33 (by rw [q87]; decide) (by rw [q87]; decide) (by rw [q87] <;> rfl) rfl ?_
                                refine AW.aload_n (k0 := 1) (pc' := 595) X rfl rfl dL_law_594 rfl ?_
                                obtain ⟨v88, c88, h⟩ := Option.bind_eq_some_iff.mp h
                                refine AW.callV (As := []) (rest := []) (rv := (some (.int v88.1))) (M' := v88.2) (pc' := 598) X (ok_X6_faultPosition hS c88) yv_X6_faultPosition (hS).1.1 (hS).1.2.1 (cX hS dA ad _) rfl rfl ml_L_69 ⟨by decide, by decide, hE.1, hE.2.1⟩ rfl (Nat.le_of_ble_eq_true rfl) rfl rfl dL_law_595 rfl ?_
                                refine AW.aload_n (k0 := 2) (pc' := 599) X rfl rfl dL_law_598 rfl ?_
                                obtain ⟨v89, c89, h⟩ := Option.bind_eq_some_iff.mp h
                                refine AW.callV (As := []) (rest := [.int (v88.1)]) (rv := (some (.int v89.1))) (M' := v89.2) (pc' := 602) X (ok_X7_faultPosition hO c89) yv_X7_faultPosition hO.1 hO.2.1 (cM hO dA ad _) rfl rfl ml_L_72 ⟨by decide, by decide, hE.1, hE.2.1⟩ rfl (Nat.le_of_ble_eq_true rfl) rfl rfl dL_law_599 rfl ?_
                                refine AW.icmp_eq (pc' := 605) (tgt := 1084) X dL_law_602 rfl rfl (fun q90 => ?_) (fun q90 => ?_)
                                · replace h := itep q90 h
                                  exact ok_L_law_1084 X hC hS hO hE ih x3 v89.2 h
                                · replace h := iten q90 h
                                  refine AW.iconst (v := 0) (pc' := 606) X rfl dL_law_605 rfl ?_
                                  exact false_true h
                              · replace h := iten q87 h
                                by_cases q91 : ((xs (ix x3)) &&& 31) = 13
                                · replace h := itep q91 h
                                  refine AW.tin (pc' := 607) X dL_law_33 (by rw [q91]; decide) (by rw [q91]; decide) (by rw [q91] <;> rfl) rfl ?_
                                  refine AW.aload_n (k0 := 1) (pc' := 608) X rfl rfl dL_law_607 rfl ?_
                                  obtain ⟨v92, c92, h⟩ := Option.bind_eq_some_iff.mp h
                                  refine AW.callV (As := []) (rest := []) (rv := (some (.int v92.1))) (M' := v92.2) (pc' := 611) X (ok_X6_run hS c92) yv_X6_run (hS).1.1 (hS).1.2.1 (cX hS dA ad _) rfl rfl ml_L_73 ⟨by decide, by decide, hE.1, hE.2.1⟩ rfl (Nat.le_of_ble_eq_true rfl) rfl rfl dL_law_608 rfl ?_
                                  refine AW.aload_n (k0 := 2) (pc' := 612) X rfl rfl dL_law_611 rfl ?_
                                  obtain ⟨v93, c93, h⟩ := Option.bind_eq_some_iff.mp h
                                  refine AW.callV (As := []) (rest := [.int (v92.1)]) (rv := (some (.int v93.1))) (M' := v93.2) (pc' := 615) X (ok_X7_run hO c93) yv_X7_run hO.1 hO.2.1 (cM hO dA ad _) rfl rfl ml_L_76 ⟨by decide, by decide, hE.1, hE.2.1⟩ rfl (Nat.le_of_ble_eq_true rfl) rfl rfl dL_law_612 rfl ?_
                                  refine AW.icmp_eq (pc' := 618) (tgt := 1084) X dL_law_615 rfl rfl (fun q94 => ?_) (fun q94 => ?_)
                                  · replace h := itep q94 h
                                    exact ok_L_law_1084 X hC hS hO hE ih x3 v93.2 h
                                  · replace h := iten q94 h
                                    refine AW.iconst (v := 0) (pc' := 619) X rfl dL_law_618 rfl ?_
                                    exact false_true h
                                · replace h := iten q91 h
                                  by_cases q95 : ((xs (ix x3)) &&& 31) = 14
                                  · replace h := itep q95 h
                                    refine AW.tin (pc' := 620) X dL_law_33 (by rw [q95]; decide) (by rw [q95]; decide) (by rw [q95] <;> rfl) rfl ?_
                                    refine AW.aload_n (k0 := 1) (pc' := 621) X rfl rfl dL_law_620 rfl ?_
                                    obtain ⟨v96, c96, h⟩ := Option.bind_eq_some_iff.mp h
                                    refine AW.callV (As := []) (rest := []) (rv := (some (.int v96.1))) (M' := v96.2) (pc' := 624) X (ok_X6_undo hS c96) yv_X6_undo (hS).1.1 (hS).1.2.1 (cX hS dA ad _) rfl rfl ml_L_77 ⟨by decide, by decide, hE.1, hE.2.1⟩ rfl (Nat.le_of_ble_eq_true rfl) rfl rfl dL_law_621 rfl ?_
                                    refine AW.aload_n (k0 := 2) (pc' := 625) X rfl rfl dL_law_624 rfl ?_
                                    obtain ⟨v97, c97, h⟩ := Option.bind_eq_some_iff.mp h
                                    refine AW.callV (As := []) (rest := [.int (v96.1)]) (rv := (some (.int v97.1))) (M' := v97.2) (pc' := 628) X (ok_X7_undo hO c97) yv_X7_undo hO.1 hO.2.1 (cM hO dA ad _) rfl rfl ml_L_80 ⟨by decide, by decide, hE.1, hE.2.1⟩ rfl (Nat.le_of_ble_eq_true rfl) rfl rfl dL_law_625 rfl ?_
                                    refine AW.icmp_eq (pc' := 631) (tgt := 1084) X dL_law_628 rfl rfl (fun q98 => ?_) (fun q98 => ?_)
                                    · replace h := itep q98 h
                                      exact ok_L_law_1084 X hC hS hO hE ih x3 v97.2 h
                                    · replace h := iten q98 h
                                      refine AW.iconst (v := 0) (pc' := 632) X rfl dL_law_631 rfl ?_
                                      exact false_true h
                                  · replace h := iten q95 h
                                    by_cases q99 : ((xs (ix x3)) &&& 31) = 15
                                    · replace h := itep q99 h
                                      refine AW.tin (pc' := 633) X dL_law_33 (by rw [q99]; decide) (by rw [q99]; decide) (by rw [q99] <;> rfl) rfl ?_
                                      refine AW.aload_n (k0 := 1) (pc' := 634) X rfl rfl dL_law_633 rfl ?_
                                      refine AW.aload_n (k0 := 0) (pc' := 635) X rfl rfl dL_law_634 rfl ?_
                                      refine AW.iload_n (k0 := 3) (pc' := 636) X rfl rfl dL_law_635 rfl ?_
                                      refine AW.iconst (v := 1) (pc' := 637) X rfl dL_law_636 rfl ?_
                                      refine AW.iadd (pc' := 638) X dL_law_637 rfl ?_
                                      obtain ⟨g100, h⟩ := gd_some h
                                      refine AW.sld (pc' := 639) X hC (inb_vp g100) dL_law_638 rfl ?_
                                      obtain ⟨v101, c101, h⟩ := Option.bind_eq_some_iff.mp h
                                      refine AW.callV (As := [.int (xs (ix (x3 + 1)))]) (rest := []) (rv := (some (.int v101.1))) (M' := v101.2) (pc' := 642) X (ok_X6_save hS c101) yv_X6_save (hS).1.1 (hS).1.2.1 (cX hS dA ad _) rfl rfl ml_L_81 ⟨by decide, by decide, hE.1, hE.2.1⟩ rfl (Nat.le_of_ble_eq_true rfl) rfl rfl dL_law_639 rfl ?_
                                      refine AW.aload_n (k0 := 2) (pc' := 643) X rfl rfl dL_law_642 rfl ?_
                                      refine AW.aload_n (k0 := 0) (pc' := 644) X rfl rfl dL_law_643 rfl ?_
                                      refine AW.iload_n (k0 := 3) (pc' := 645) X rfl rfl dL_law_644 rfl ?_
                                      refine AW.iconst (v := 1) (pc' := 646) X rfl dL_law_645 rfl ?_
                                      refine AW.iadd (pc' := 647) X dL_law_646 rfl ?_
                                      obtain ⟨g102, h⟩ := gd_some h
                                      refine AW.sld (pc' := 648) X hC (inb_vp g102) dL_law_647 rfl ?_
                                      obtain ⟨v103, c103, h⟩ := Option.bind_eq_some_iff.mp h
                                      refine AW.callV (As := [.int (xs (ix (x3 + 1)))]) (rest := [.int (v101.1)]) (rv := (some (.int v103.1))) (M' := v103.2) (pc' := 651) X (ok_X7_save hO c103) yv_X7_save hO.1 hO.2.1 (cM hO dA ad _) rfl rfl ml_L_84 ⟨by decide, by decide, hE.1, hE.2.1⟩ rfl (Nat.le_of_ble_eq_true rfl) rfl rfl dL_law_648 rfl ?_
                                      refine AW.icmp_eq (pc' := 654) (tgt := 1084) X dL_law_651 rfl rfl (fun q104 => ?_) (fun q104 => ?_)
                                      · replace h := itep q104 h
                                        exact ok_L_law_1084 X hC hS hO hE ih x3 v103.2 h
                                      · replace h := iten q104 h
                                        refine AW.iconst (v := 0) (pc' := 655) X rfl dL_law_654 rfl ?_
                                        exact false_true h
                                    · replace h := iten q99 h
                                      by_cases q105 : ((xs (ix x3)) &&& 31) = 16
                                      · replace h := itep q105 h
                                        refine AW.tin (pc' := 656) X dL_law_33 (by rw [q105]; decide) (by rw [q105]; decide) (by rw [q105] <;> rfl) rfl ?_
                                        refine AW.aload_n (k0 := 1) (pc' := 657) X rfl rfl dL_law_656 rfl ?_
                                        refine AW.aload_n (k0 := 0) (pc' := 658) X rfl rfl dL_law_657 rfl ?_
                                        refine AW.iload_n (k0 := 3) (pc' := 659) X rfl rfl dL_law_658 rfl ?_
                                        refine AW.iconst (v := 1) (pc' := 660) X rfl dL_law_659 rfl ?_
                                        refine AW.iadd (pc' := 661) X dL_law_660 rfl ?_
                                        obtain ⟨g106, h⟩ := gd_some h
                                        refine AW.sld (pc' := 662) X hC (inb_vp g106) dL_law_661 rfl ?_
                                        obtain ⟨v107, c107, h⟩ := Option.bind_eq_some_iff.mp h
                                        refine AW.callV (As := [.int (xs (ix (x3 + 1)))]) (rest := []) (rv := (some (.int v107.1))) (M' := v107.2) (pc' := 665) X (ok_X6_restore hS c107) yv_X6_restore (hS).1.1 (hS).1.2.1 (cX hS dA ad _) rfl rfl ml_L_85 ⟨by decide, by decide, hE.1, hE.2.1⟩ rfl (Nat.le_of_ble_eq_true rfl) rfl rfl dL_law_662 rfl ?_
                                        refine AW.aload_n (k0 := 2) (pc' := 666) X rfl rfl dL_law_665 rfl ?_
                                        refine AW.aload_n (k0 := 0) (pc' := 667) X rfl rfl dL_law_666 rfl ?_
                                        refine AW.iload_n (k0 := 3) (pc' := 668) X rfl rfl dL_law_667 rfl ?_
                                        refine AW.iconst (v := 1) (pc' := 669) X rfl dL_law_668 rfl ?_
                                        refine AW.iadd (pc' := 670) X dL_law_669 rfl ?_
                                        obtain ⟨g108, h⟩ := gd_some h
                                        refine AW.sld (pc' := 671) X hC (inb_vp g108) dL_law_670 rfl ?_
                                        obtain ⟨v109, c109, h⟩ := Option.bind_eq_some_iff.mp h
                                        refine AW.callV (As := [.int (xs (ix (x3 + 1)))]) (rest := [.int (v107.1)]) (rv := (some (.int v109.1))) (M' := v109.2) (pc' := 674) X (ok_X7_restore hO c109) yv_X7_restore hO.1 hO.2.1 (cM hO dA ad _) rfl rfl ml_L_88 ⟨by decide, by decide, hE.1, hE.2.1⟩ rfl (Nat.le_of_ble_eq_true rfl) rfl rfl dL_law_671 rfl ?_
                                        refine AW.icmp_eq (pc' := 677) (tgt := 1084) X dL_law_674 rfl rfl (fun q110 => ?_) (fun q110 => ?_)
                                        · replace h := itep q110 h
                                          exact ok_L_law_1084 X hC hS hO hE ih x3 v109.2 h
                                        · replace h := iten q110 h
                                          refine AW.iconst (v := 0) (pc' := 678) X rfl dL_law_677 rfl ?_
                                          exact false_true h
                                      · replace h := iten q105 h
                                        by_cases q111 : ((xs (ix x3)) &&& 31) = 17
                                        · replace h := itep q111 h
                                          refine AW.tin (pc' := 679) X dL_law_33 (by rw [q111]; decide) (by rw [q111]; decide) (by rw [q111] <;> rfl) rfl ?_
                                          refine AW.aload_n (k0 := 1) (pc' := 680) X rfl rfl dL_law_679 rfl ?_
                                          refine AW.aload_n (k0 := 0) (pc' := 681) X rfl rfl dL_law_680 rfl ?_
                                          refine AW.iload_n (k0 := 3) (pc' := 682) X rfl rfl dL_law_681 rfl ?_
                                          refine AW.iconst (v := 1) (pc' := 683) X rfl dL_law_682 rfl ?_
                                          refine AW.iadd (pc' := 684) X dL_law_683 rfl ?_
                                          obtain ⟨g112, h⟩ := gd_some h
                                          refine AW.sld (pc' := 685) X hC (inb_vp g112) dL_law_684 rfl ?_
                                          obtain ⟨v113, c113, h⟩ := Option.bind_eq_some_iff.mp h
                                          refine AW.callV (As := [.int (xs (ix (x3 + 1)))]) (rest := []) (rv := (some (.int v113))) (M' := M) (pc' := 688) X (ok_X6_frequency hS c113) yv_X6_frequency (hS).1.1 (hS).1.2.1 (cX hS dA ad _) rfl rfl ml_L_89 ⟨by decide, by decide, hE.1, hE.2.1⟩ rfl (Nat.le_of_ble_eq_true rfl) rfl rfl dL_law_685 rfl ?_
                                          refine AW.aload_n (k0 := 2) (pc' := 689) X rfl rfl dL_law_688 rfl ?_
                                          refine AW.aload_n (k0 := 0) (pc' := 690) X rfl rfl dL_law_689 rfl ?_
                                          refine AW.iload_n (k0 := 3) (pc' := 691) X rfl rfl dL_law_690 rfl ?_
                                          refine AW.iconst (v := 1) (pc' := 692) X rfl dL_law_691 rfl ?_
                                          refine AW.iadd (pc' := 693) X dL_law_692 rfl ?_
                                          obtain ⟨g114, h⟩ := gd_some h
                                          refine AW.sld (pc' := 694) X hC (inb_vp g114) dL_law_693 rfl ?_
                                          obtain ⟨v115, c115, h⟩ := Option.bind_eq_some_iff.mp h
                                          refine AW.callV (As := [.int (xs (ix (x3 + 1)))]) (rest := [.int v113]) (rv := (some (.int v115))) (M' := M) (pc' := 697) X (ok_X7_frequency hO c115) yv_X7_frequency hO.1 hO.2.1 (cM hO dA ad _) rfl rfl ml_L_92 ⟨by decide, by decide, hE.1, hE.2.1⟩ rfl (Nat.le_of_ble_eq_true rfl) rfl rfl dL_law_694 rfl ?_
                                          refine AW.icmp_eq (pc' := 700) (tgt := 1084) X dL_law_697 rfl rfl (fun q116 => ?_) (fun q116 => ?_)
                                          · replace h := itep q116 h
                                            exact ok_L_law_1084 X hC hS hO hE ih x3 M h
                                          · replace h := iten q116 h
                                            refine AW.iconst (v := 0) (pc' := 701) X rfl dL_law_700 rfl ?_
                                            exact false_true h
                                        · replace h := iten q111 h
                                          by_cases q117 : ((xs (ix x3)) &&& 31) = 18
                                          · replace h := itep q117 h
                                            refine AW.tin (pc' := 702) X dL_law_33 (by rw [q117]; decide) (by rw [q117]; decide) (by rw [q117] <;> rfl) rfl ?_
                                            refine AW.aload_n (k0 := 1) (pc' := 703) X rfl rfl dL_law_702 rfl ?_
                                            refine AW.aload_n (k0 := 0) (pc' := 704) X rfl rfl dL_law_703 rfl ?_
                                            refine AW.iload_n (k0 := 3) (pc' := 705) X rfl rfl dL_law_704 rfl ?_
                                            refine AW.iconst (v := 1) (pc' := 706) X rfl dL_law_705 rfl ?_
                                            refine AW.iadd (pc' := 707) X dL_law_706 rfl ?_
                                            obtain ⟨g118, h⟩ := gd_some h
                                            refine AW.sld (pc' := 708) X hC (inb_vp g118) dL_law_707 rfl ?_
                                            obtain ⟨v119, c119, h⟩ := Option.bind_eq_some_iff.mp h
                                            refine AW.callV (As := [.int (xs (ix (x3 + 1)))]) (rest := []) (rv := (some (.int v119))) (M' := M) (pc' := 711) X (ok_X6_target hS c119) yv_X6_target (hS).1.1 (hS).1.2.1 (cX hS dA ad _) rfl rfl ml_L_93 ⟨by decide, by decide, hE.1, hE.2.1⟩ rfl (Nat.le_of_ble_eq_true rfl) rfl rfl dL_law_708 rfl ?_
                                            refine AW.aload_n (k0 := 2) (pc' := 712) X rfl rfl dL_law_711 rfl ?_
                                            refine AW.aload_n (k0 := 0) (pc' := 713) X rfl rfl dL_law_712 rfl ?_
                                            refine AW.iload_n (k0 := 3) (pc' := 714) X rfl rfl dL_law_713 rfl ?_
                                            refine AW.iconst (v := 1) (pc' := 715) X rfl dL_law_714 rfl ?_
                                            refine AW.iadd (pc' := 716) X dL_law_715 rfl ?_
                                            obtain ⟨g120, h⟩ := gd_some h
                                            refine AW.sld (pc' := 717) X hC (inb_vp g120) dL_law_716 rfl ?_
                                            obtain ⟨v121, c121, h⟩ := Option.bind_eq_some_iff.mp h
                                            refine AW.callV (As := [.int (xs (ix (x3 + 1)))]) (rest := [.int v119]) (rv := (some (.int v121))) (M' := M) (pc' := 720) X (ok_X7_target hO c121) yv_X7_target hO.1 hO.2.1 (cM hO dA ad _) rfl rfl ml_L_96 ⟨by decide, by decide, hE.1, hE.2.1⟩ rfl (Nat.le_of_ble_eq_true rfl) rfl rfl dL_law_717 rfl ?_
                                            refine AW.icmp_eq (pc' := 723) (tgt := 1084) X dL_law_720 rfl rfl (fun q122 => ?_) (fun q122 => ?_)
                                            · replace h := itep q122 h
                                              exact ok_L_law_1084 X hC hS hO hE ih x3 M h
                                            · replace h := iten q122 h
                                              refine AW.iconst (v := 0) (pc' := 724) X rfl dL_law_723 rfl ?_
                                              exact false_true h
                                          · replace h := iten q117 h
                                            by_cases q123 : ((xs (ix x3)) &&& 31) = 19
                                            · replace h := itep q123 h
                                              refine AW.tin (pc' := 725) X dL_law_33 (by rw [q123]; decide) (by rw [q123]; decide) (by rw [q123] <;> rfl) rfl ?_
                                              refine AW.aload_n (k0 := 1) (pc' := 726) X rfl rfl dL_law_725 rfl ?_
                                              refine AW.aload_n (k0 := 0) (pc' := 727) X rfl rfl dL_law_726 rfl ?_
                                              refine AW.iload_n (k0 := 3) (pc' := 728) X rfl rfl dL_law_727 rfl ?_
                                              refine AW.iconst (v := 1) (pc' := 729) X rfl dL_law_728 rfl ?_
                                              refine AW.iadd (pc' := 730) X dL_law_729 rfl ?_
                                              obtain ⟨g124, h⟩ := gd_some h
                                              refine AW.sld (pc' := 731) X hC (inb_vp g124) dL_law_730 rfl ?_
                                              refine AW.aload_n (k0 := 0) (pc' := 732) X rfl rfl dL_law_731 rfl ?_
                                              refine AW.iload_n (k0 := 3) (pc' := 733) X rfl rfl dL_law_732 rfl ?_
                                              refine AW.iconst (v := 2) (pc' := 734) X rfl dL_law_733 rfl ?_
                                              refine AW.iadd (pc' := 735) X dL_law_734 rfl ?_
                                              obtain ⟨g125, h⟩ := gd_some h
                                              refine AW.sld (pc' := 736) X hC (inb_vp g125) dL_law_735 rfl ?_
                                              obtain ⟨v126, c126, h⟩ := Option.bind_eq_some_iff.mp h
                                              refine AW.callV (As := [.int (xs (ix (x3 + 1))), .int (xs (ix (x3 + 2)))]) (rest := []) (rv := (some (.int v126))) (M' := M) (pc' := 739) X (ok_X6_gain hS c126) yv_X6_gain (hS).1.1 (hS).1.2.1 (cX hS dA ad _) rfl rfl ml_L_97 ⟨by decide, by decide, hE.1, hE.2.1⟩ rfl (Nat.le_of_ble_eq_true rfl) rfl rfl dL_law_736 rfl ?_
                                              refine AW.aload_n (k0 := 2) (pc' := 740) X rfl rfl dL_law_739 rfl ?_
                                              refine AW.aload_n (k0 := 0) (pc' := 741) X rfl rfl dL_law_740 rfl ?_
                                              refine AW.iload_n (k0 := 3) (pc' := 742) X rfl rfl dL_law_741 rfl ?_
                                              refine AW.iconst (v := 1) (pc' := 743) X rfl dL_law_742 rfl ?_
                                              refine AW.iadd (pc' := 744) X dL_law_743 rfl ?_
                                              obtain ⟨g127, h⟩ := gd_some h
                                              refine AW.sld (pc' := 745) X hC (inb_vp g127) dL_law_744 rfl ?_
                                              refine AW.aload_n (k0 := 0) (pc' := 746) X rfl rfl dL_law_745 rfl ?_
                                              refine AW.iload_n (k0 := 3) (pc' := 747) X rfl rfl dL_law_746 rfl ?_
                                              refine AW.iconst (v := 2) (pc' := 748) X rfl dL_law_747 rfl ?_
                                              refine AW.iadd (pc' := 749) X dL_law_748 rfl ?_
                                              obtain ⟨g128, h⟩ := gd_some h
                                              refine AW.sld (pc' := 750) X hC (inb_vp g128) dL_law_749 rfl ?_
                                              obtain ⟨v129, c129, h⟩ := Option.bind_eq_some_iff.mp h
                                              refine AW.callV (As := [.int (xs (ix (x3 + 1))), .int (xs (ix (x3 + 2)))]) (rest := [.int v126]) (rv := (some (.int v129))) (M' := M) (pc' := 753) X (ok_X7_gain hO c129) yv_X7_gain hO.1 hO.2.1 (cM hO dA ad _) rfl rfl ml_L_100 ⟨by decide, by decide, hE.1, hE.2.1⟩ rfl (Nat.le_of_ble_eq_true rfl) rfl rfl dL_law_750 rfl ?_
                                              refine AW.icmp_eq (pc' := 756) (tgt := 1084) X dL_law_753 rfl rfl (fun q130 => ?_) (fun q130 => ?_)
                                              · replace h := itep q130 h
                                                exact ok_L_law_1084 X hC hS hO hE ih x3 M h
                                              · replace h := iten q130 h
                                                refine AW.iconst (v := 0) (pc' := 757) X rfl dL_law_756 rfl ?_
                                                exact false_true h
                                            · replace h := iten q123 h
                                              by_cases q131 : ((xs (ix x3)) &&& 31) = 20
                                              · replace h := itep q131 h
                                                refine AW.tin (pc' := 758) X dL_law_33 (by rw [q131]; decide) (by rw [q131]; decide) (by rw [q131] <;> rfl) rfl ?_
                                                refine AW.aload_n (k0 := 1) (pc' := 759) X rfl rfl dL_law_758 rfl ?_
                                                refine AW.aload_n (k0 := 0) (pc' := 760) X rfl rfl dL_law_759 rfl ?_
                                                refine AW.iload_n (k0 := 3) (pc' := 761) X rfl rfl dL_law_760 rfl ?_
                                                refine AW.iconst (v := 1) (pc' := 762) X rfl dL_law_761 rfl ?_
                                                refine AW.iadd (pc' := 763) X dL_law_762 rfl ?_
                                                obtain ⟨g132, h⟩ := gd_some h
                                                refine AW.sld (pc' := 764) X hC (inb_vp g132) dL_law_763 rfl ?_
                                                refine AW.aload_n (k0 := 0) (pc' := 765) X rfl rfl dL_law_764 rfl ?_
                                                refine AW.iload_n (k0 := 3) (pc' := 766) X rfl rfl dL_law_765 rfl ?_
                                                refine AW.iconst (v := 2) (pc' := 767) X rfl dL_law_766 rfl ?_
                                                refine AW.iadd (pc' := 768) X dL_law_767 rfl ?_
                                                obtain ⟨g133, h⟩ := gd_some h
                                                refine AW.sld (pc' := 769) X hC (inb_vp g133) dL_law_768 rfl ?_
                                                obtain ⟨v134, c134, h⟩ := Option.bind_eq_some_iff.mp h
                                                refine AW.callV (As := [.int (xs (ix (x3 + 1))), .int (xs (ix (x3 + 2)))]) (rest := []) (rv := (some (.int v134))) (M' := M) (pc' := 772) X (ok_X6_limit hS c134) yv_X6_limit (hS).1.1 (hS).1.2.1 (cX hS dA ad _) rfl rfl ml_L_101 ⟨by decide, by decide, hE.1, hE.2.1⟩ rfl (Nat.le_of_ble_eq_true rfl) rfl rfl dL_law_769 rfl ?_
                                                refine AW.aload_n (k0 := 2) (pc' := 773) X rfl rfl dL_law_772 rfl ?_
                                                refine AW.aload_n (k0 := 0) (pc' := 774) X rfl rfl dL_law_773 rfl ?_
                                                refine AW.iload_n (k0 := 3) (pc' := 775) X rfl rfl dL_law_774 rfl ?_
                                                refine AW.iconst (v := 1) (pc' := 776) X rfl dL_law_775 rfl ?_
                                                refine AW.iadd (pc' := 777) X dL_law_776 rfl ?_
                                                obtain ⟨g135, h⟩ := gd_some h
                                                refine AW.sld (pc' := 778) X hC (inb_vp g135) dL_law_777 rfl ?_
                                                refine AW.aload_n (k0 := 0) (pc' := 779) X rfl rfl dL_law_778 rfl ?_
                                                refine AW.iload_n (k0 := 3) (pc' := 780) X rfl rfl dL_law_779 rfl ?_
                                                refine AW.iconst (v := 2) (pc' := 781) X rfl dL_law_780 rfl ?_
                                                refine AW.iadd (pc' := 782) X dL_law_781 rfl ?_
                                                obtain ⟨g136, h⟩ := gd_some h
                                                refine AW.sld (pc' := 783) X hC (inb_vp g136) dL_law_782 rfl ?_
                                                obtain ⟨v137, c137, h⟩ := Option.bind_eq_some_iff.mp h
                                                refine AW.callV (As := [.int (xs (ix (x3 + 1))), .int (xs (ix (x3 + 2)))]) (rest := [.int v134]) (rv := (some (.int v137))) (M' := M) (pc' := 786) X (ok_X7_limit hO c137) yv_X7_limit hO.1 hO.2.1 (cM hO dA ad _) rfl rfl ml_L_104 ⟨by decide, by decide, hE.1, hE.2.1⟩ rfl (Nat.le_of_ble_eq_true rfl) rfl rfl dL_law_783 rfl ?_
                                                refine AW.icmp_eq (pc' := 789) (tgt := 1084) X dL_law_786 rfl rfl (fun q138 => ?_) (fun q138 => ?_)
                                                · replace h := itep q138 h
                                                  exact ok_L_law_1084 X hC hS hO hE ih x3 M h
                                                · replace h := iten q138 h
                                                  refine AW.iconst (v := 0) (pc' := 790) X rfl dL_law_789 rfl ?_
                                                  exact false_true h
                                              · replace h := iten q131 h
                                                by_cases q139 : ((xs (ix x3)) &&& 31) = 21
                                                · replace h := itep q139 h
                                                  refine AW.tin (pc' := 791) X dL_law_33 (by rw [q139]; decide) (by rw [q139]; decide) (by rw [q139] <;> rfl) rfl ?_
                                                  refine AW.aload_n (k0 := 1) (pc' := 792) X rfl rfl dL_law_791 rfl ?_
                                                  refine AW.aload_n (k0 := 0) (pc' := 793) X rfl rfl dL_law_792 rfl ?_
                                                  refine AW.iload_n (k0 := 3) (pc' := 794) X rfl rfl dL_law_793 rfl ?_
                                                  refine AW.iconst (v := 1) (pc' := 795) X rfl dL_law_794 rfl ?_
                                                  refine AW.iadd (pc' := 796) X dL_law_795 rfl ?_
                                                  obtain ⟨g140, h⟩ := gd_some h
                                                  refine AW.sld (pc' := 797) X hC (inb_vp g140) dL_law_796 rfl ?_
                                                  refine AW.aload_n (k0 := 0) (pc' := 798) X rfl rfl dL_law_797 rfl ?_
                                                  refine AW.iload_n (k0 := 3) (pc' := 799) X rfl rfl dL_law_798 rfl ?_
                                                  refine AW.iconst (v := 2) (pc' := 800) X rfl dL_law_799 rfl ?_
                                                  refine AW.iadd (pc' := 801) X dL_law_800 rfl ?_
                                                  obtain ⟨g141, h⟩ := gd_some h
                                                  refine AW.sld (pc' := 802) X hC (inb_vp g141) dL_law_801 rfl ?_
                                                  obtain ⟨v142, c142, h⟩ := Option.bind_eq_some_iff.mp h
                                                  refine AW.callV (As := [.int (xs (ix (x3 + 1))), .int (xs (ix (x3 + 2)))]) (rest := []) (rv := (some (.int v142))) (M' := M) (pc' := 805) X (ok_X6_channel hS c142) yv_X6_channel (hS).1.1 (hS).1.2.1 (cX hS dA ad _) rfl rfl ml_L_105 ⟨by decide, by decide, hE.1, hE.2.1⟩ rfl (Nat.le_of_ble_eq_true rfl) rfl rfl dL_law_802 rfl ?_
                                                  refine AW.aload_n (k0 := 2) (pc' := 806) X rfl rfl dL_law_805 rfl ?_
                                                  refine AW.aload_n (k0 := 0) (pc' := 807) X rfl rfl dL_law_806 rfl ?_
                                                  refine AW.iload_n (k0 := 3) (pc' := 808) X rfl rfl dL_law_807 rfl ?_
                                                  refine AW.iconst (v := 1) (pc' := 809) X rfl dL_law_808 rfl ?_
                                                  refine AW.iadd (pc' := 810) X dL_law_809 rfl ?_
                                                  obtain ⟨g143, h⟩ := gd_some h
                                                  refine AW.sld (pc' := 811) X hC (inb_vp g143) dL_law_810 rfl ?_
                                                  refine AW.aload_n (k0 := 0) (pc' := 812) X rfl rfl dL_law_811 rfl ?_
                                                  refine AW.iload_n (k0 := 3) (pc' := 813) X rfl rfl dL_law_812 rfl ?_
                                                  refine AW.iconst (v := 2) (pc' := 814) X rfl dL_law_813 rfl ?_
                                                  refine AW.iadd (pc' := 815) X dL_law_814 rfl ?_
                                                  obtain ⟨g144, h⟩ := gd_some h
                                                  refine AW.sld (pc' := 816) X hC (inb_vp g144) dL_law_815 rfl ?_
                                                  obtain ⟨v145, c145, h⟩ := Option.bind_eq_some_iff.mp h
                                                  refine AW.callV (As := [.int (xs (ix (x3 + 1))), .int (xs (ix (x3 + 2)))]) (rest := [.int v142]) (rv := (some (.int v145))) (M' := M) (pc' := 819) X (ok_X7_channel hO c145) yv_X7_channel hO.1 hO.2.1 (cM hO dA ad _) rfl rfl ml_L_108 ⟨by decide, by decide, hE.1, hE.2.1⟩ rfl (Nat.le_of_ble_eq_true rfl) rfl rfl dL_law_816 rfl ?_
                                                  refine AW.icmp_eq (pc' := 822) (tgt := 1084) X dL_law_819 rfl rfl (fun q146 => ?_) (fun q146 => ?_)
                                                  · replace h := itep q146 h
                                                    exact ok_L_law_1084 X hC hS hO hE ih x3 M h
                                                  · replace h := iten q146 h
                                                    refine AW.iconst (v := 0) (pc' := 823) X rfl dL_law_822 rfl ?_
                                                    exact false_true h
                                                · replace h := iten q139 h
                                                  by_cases q147 : ((xs (ix x3)) &&& 31) = 22
                                                  · replace h := itep q147 h
                                                    refine AW.tin (pc' := 824) X dL_law_33 (by rw [q147]; decide) (by rw [q147]; decide) (by rw [q147] <;> rfl) rfl ?_
                                                    refine AW.aload_n (k0 := 1) (pc' := 825) X rfl rfl dL_law_824 rfl ?_
                                                    refine AW.aload_n (k0 := 0) (pc' := 826) X rfl rfl dL_law_825 rfl ?_
                                                    refine AW.iload_n (k0 := 3) (pc' := 827) X rfl rfl dL_law_826 rfl ?_
                                                    refine AW.iconst (v := 1) (pc' := 828) X rfl dL_law_827 rfl ?_
                                                    refine AW.iadd (pc' := 829) X dL_law_828 rfl ?_
                                                    obtain ⟨g148, h⟩ := gd_some h
                                                    refine AW.sld (pc' := 830) X hC (inb_vp g148) dL_law_829 rfl ?_
                                                    refine AW.aload_n (k0 := 0) (pc' := 831) X rfl rfl dL_law_830 rfl ?_
                                                    refine AW.iload_n (k0 := 3) (pc' := 832) X rfl rfl dL_law_831 rfl ?_
                                                    refine AW.iconst (v := 2) (pc' := 833) X rfl dL_law_832 rfl ?_
                                                    refine AW.iadd (pc' := 834) X dL_law_833 rfl ?_
                                                    obtain ⟨g149, h⟩ := gd_some h
                                                    refine AW.sld (pc' := 835) X hC (inb_vp g149) dL_law_834 rfl ?_
                                                    obtain ⟨v150, c150, h⟩ := Option.bind_eq_some_iff.mp h
                                                    refine AW.callV (As := [.int (xs (ix (x3 + 1))), .int (xs (ix (x3 + 2)))]) (rest := []) (rv := (some (.int v150))) (M' := M) (pc' := 838) X (ok_X6_level hS c150) yv_X6_level (hS).1.1 (hS).1.2.1 (cX hS dA ad _) rfl rfl ml_L_109 ⟨by decide, by decide, hE.1, hE.2.1⟩ rfl (Nat.le_of_ble_eq_true rfl) rfl rfl dL_law_835 rfl ?_
                                                    refine AW.aload_n (k0 := 2) (pc' := 839) X rfl rfl dL_law_838 rfl ?_
                                                    refine AW.aload_n (k0 := 0) (pc' := 840) X rfl rfl dL_law_839 rfl ?_
                                                    refine AW.iload_n (k0 := 3) (pc' := 841) X rfl rfl dL_law_840 rfl ?_
                                                    refine AW.iconst (v := 1) (pc' := 842) X rfl dL_law_841 rfl ?_
                                                    refine AW.iadd (pc' := 843) X dL_law_842 rfl ?_
                                                    obtain ⟨g151, h⟩ := gd_some h
                                                    refine AW.sld (pc' := 844) X hC (inb_vp g151) dL_law_843 rfl ?_
                                                    refine AW.aload_n (k0 := 0) (pc' := 845) X rfl rfl dL_law_844 rfl ?_
                                                    refine AW.iload_n (k0 := 3) (pc' := 846) X rfl rfl dL_law_845 rfl ?_
                                                    refine AW.iconst (v := 2) (pc' := 847) X rfl dL_law_846 rfl ?_
                                                    refine AW.iadd (pc' := 848) X dL_law_847 rfl ?_
                                                    obtain ⟨g152, h⟩ := gd_some h
                                                    refine AW.sld (pc' := 849) X hC (inb_vp g152) dL_law_848 rfl ?_
                                                    obtain ⟨v153, c153, h⟩ := Option.bind_eq_some_iff.mp h
                                                    refine AW.callV (As := [.int (xs (ix (x3 + 1))), .int (xs (ix (x3 + 2)))]) (rest := [.int v150]) (rv := (some (.int v153))) (M' := M) (pc' := 852) X (ok_X7_level hO c153) yv_X7_level hO.1 hO.2.1 (cM hO dA ad _) rfl rfl ml_L_112 ⟨by decide, by decide, hE.1, hE.2.1⟩ rfl (Nat.le_of_ble_eq_true rfl) rfl rfl dL_law_849 rfl ?_
                                                    refine AW.icmp_eq (pc' := 855) (tgt := 1084) X dL_law_852 rfl rfl (fun q154 => ?_) (fun q154 => ?_)
                                                    · replace h := itep q154 h
                                                      exact ok_L_law_1084 X hC hS hO hE ih x3 M h
                                                    · replace h := iten q154 h
                                                      refine AW.iconst (v := 0) (pc' := 856) X rfl dL_law_855 rfl ?_
                                                      exact false_true h
                                                  · replace h := iten q147 h
                                                    by_cases q155 : ((xs (ix x3)) &&& 31) = 23
                                                    · replace h := itep q155 h
                                                      refine AW.tin (pc' := 857) X dL_law_33 (by rw [q155]; decide) (by rw [q155]; decide) (by rw [q155] <;> rfl) rfl ?_
                                                      refine AW.aload_n (k0 := 1) (pc' := 858) X rfl rfl dL_law_857 rfl ?_
                                                      refine AW.aload_n (k0 := 0) (pc' := 859) X rfl rfl dL_law_858 rfl ?_
                                                      refine AW.iload_n (k0 := 3) (pc' := 860) X rfl rfl dL_law_859 rfl ?_
                                                      refine AW.iconst (v := 1) (pc' := 861) X rfl dL_law_860 rfl ?_
                                                      refine AW.iadd (pc' := 862) X dL_law_861 rfl ?_
                                                      obtain ⟨g156, h⟩ := gd_some h
                                                      refine AW.sld (pc' := 863) X hC (inb_vp g156) dL_law_862 rfl ?_
                                                      refine AW.aload_n (k0 := 0) (pc' := 864) X rfl rfl dL_law_863 rfl ?_
                                                      refine AW.iload_n (k0 := 3) (pc' := 865) X rfl rfl dL_law_864 rfl ?_
                                                      refine AW.iconst (v := 2) (pc' := 866) X rfl dL_law_865 rfl ?_
                                                      refine AW.iadd (pc' := 867) X dL_law_866 rfl ?_
                                                      obtain ⟨g157, h⟩ := gd_some h
                                                      refine AW.sld (pc' := 868) X hC (inb_vp g157) dL_law_867 rfl ?_
                                                      obtain ⟨v158, c158, h⟩ := Option.bind_eq_some_iff.mp h
                                                      refine AW.callV (As := [.int (xs (ix (x3 + 1))), .int (xs (ix (x3 + 2)))]) (rest := []) (rv := (some (.int v158))) (M' := M) (pc' := 871) X (ok_X6_averaged hS c158) yv_X6_averaged (hS).1.1 (hS).1.2.1 (cX hS dA ad _) rfl rfl ml_L_113 ⟨by decide, by decide, hE.1, hE.2.1⟩ rfl (Nat.le_of_ble_eq_true rfl) rfl rfl dL_law_868 rfl ?_
                                                      refine AW.aload_n (k0 := 2) (pc' := 872) X rfl rfl dL_law_871 rfl ?_
                                                      refine AW.aload_n (k0 := 0) (pc' := 873) X rfl rfl dL_law_872 rfl ?_
                                                      refine AW.iload_n (k0 := 3) (pc' := 874) X rfl rfl dL_law_873 rfl ?_
                                                      refine AW.iconst (v := 1) (pc' := 875) X rfl dL_law_874 rfl ?_
                                                      refine AW.iadd (pc' := 876) X dL_law_875 rfl ?_
                                                      obtain ⟨g159, h⟩ := gd_some h
                                                      refine AW.sld (pc' := 877) X hC (inb_vp g159) dL_law_876 rfl ?_
                                                      refine AW.aload_n (k0 := 0) (pc' := 878) X rfl rfl dL_law_877 rfl ?_
                                                      refine AW.iload_n (k0 := 3) (pc' := 879) X rfl rfl dL_law_878 rfl ?_
                                                      refine AW.iconst (v := 2) (pc' := 880) X rfl dL_law_879 rfl ?_
                                                      refine AW.iadd (pc' := 881) X dL_law_880 rfl ?_
                                                      obtain ⟨g160, h⟩ := gd_some h
                                                      refine AW.sld (pc' := 882) X hC (inb_vp g160) dL_law_881 rfl ?_
                                                      obtain ⟨v161, c161, h⟩ := Option.bind_eq_some_iff.mp h
                                                      refine AW.callV (As := [.int (xs (ix (x3 + 1))), .int (xs (ix (x3 + 2)))]) (rest := [.int v158]) (rv := (some (.int v161))) (M' := M) (pc' := 885) X (ok_X7_averaged hO c161) yv_X7_averaged hO.1 hO.2.1 (cM hO dA ad _) rfl rfl ml_L_116 ⟨by decide, by decide, hE.1, hE.2.1⟩ rfl (Nat.le_of_ble_eq_true rfl) rfl rfl dL_law_882 rfl ?_
                                                      refine AW.icmp_eq (pc' := 888) (tgt := 1084) X dL_law_885 rfl rfl (fun q162 => ?_) (fun q162 => ?_)
                                                      · replace h := itep q162 h
                                                        exact ok_L_law_1084 X hC hS hO hE ih x3 M h
                                                      · replace h := iten q162 h
                                                        refine AW.iconst (v := 0) (pc' := 889) X rfl dL_law_888 rfl ?_
                                                        exact false_true h
                                                    · replace h := iten q155 h
                                                      by_cases q163 : ((xs (ix x3)) &&& 31) = 24
                                                      · replace h := itep q163 h
                                                        refine AW.tin (pc' := 890) X dL_law_33 (by rw [q163]; decide) (by rw [q163]; decide) (by rw [q163] <;> rfl) rfl ?_
                                                        refine AW.aload_n (k0 := 1) (pc' := 891) X rfl rfl dL_law_890 rfl ?_
                                                        refine AW.aload_n (k0 := 0) (pc' := 892) X rfl rfl dL_law_891 rfl ?_
                                                        refine AW.iload_n (k0 := 3) (pc' := 893) X rfl rfl dL_law_892 rfl ?_
                                                        refine AW.iconst (v := 1) (pc' := 894) X rfl dL_law_893 rfl ?_
                                                        refine AW.iadd (pc' := 895) X dL_law_894 rfl ?_
                                                        obtain ⟨g164, h⟩ := gd_some h
                                                        refine AW.sld (pc' := 896) X hC (inb_vp g164) dL_law_895 rfl ?_
                                                        obtain ⟨v165, c165, h⟩ := Option.bind_eq_some_iff.mp h
                                                        refine AW.callV (As := [.int (xs (ix (x3 + 1)))]) (rest := []) (rv := (some (.int v165))) (M' := M) (pc' := 899) X (ok_X6_controlGain hS c165) yv_X6_controlGain (hS).1.1 (hS).1.2.1 (cX hS dA ad _) rfl rfl ml_L_117 ⟨by decide, by decide, hE.1, hE.2.1⟩ rfl (Nat.le_of_ble_eq_true rfl) rfl rfl dL_law_896 rfl ?_
                                                        refine AW.aload_n (k0 := 2) (pc' := 900) X rfl rfl dL_law_899 rfl ?_
                                                        refine AW.aload_n (k0 := 0) (pc' := 901) X rfl rfl dL_law_900 rfl ?_
                                                        refine AW.iload_n (k0 := 3) (pc' := 902) X rfl rfl dL_law_901 rfl ?_
                                                        refine AW.iconst (v := 1) (pc' := 903) X rfl dL_law_902 rfl ?_
                                                        refine AW.iadd (pc' := 904) X dL_law_903 rfl ?_
                                                        obtain ⟨g166, h⟩ := gd_some h
                                                        refine AW.sld (pc' := 905) X hC (inb_vp g166) dL_law_904 rfl ?_
                                                        obtain ⟨v167, c167, h⟩ := Option.bind_eq_some_iff.mp h
                                                        refine AW.callV (As := [.int (xs (ix (x3 + 1)))]) (rest := [.int v165]) (rv := (some (.int v167))) (M' := M) (pc' := 908) X (ok_X7_controlGain hO c167) yv_X7_controlGain hO.1 hO.2.1 (cM hO dA ad _) rfl rfl ml_L_120 ⟨by decide, by decide, hE.1, hE.2.1⟩ rfl (Nat.le_of_ble_eq_true rfl) rfl rfl dL_law_905 rfl ?_
                                                        refine AW.icmp_eq (pc' := 911) (tgt := 1084) X dL_law_908 rfl rfl (fun q168 => ?_) (fun q168 => ?_)
                                                        · replace h := itep q168 h
                                                          exact ok_L_law_1084 X hC hS hO hE ih x3 M h
                                                        · replace h := iten q168 h
                                                          refine AW.iconst (v := 0) (pc' := 912) X rfl dL_law_911 rfl ?_
                                                          exact false_true h
                                                      · replace h := iten q163 h
                                                        by_cases q169 : ((xs (ix x3)) &&& 31) = 25
                                                        · replace h := itep q169 h
                                                          refine AW.tin (pc' := 913) X dL_law_33 (by rw [q169]; decide) (by rw [q169]; decide) (by rw [q169] <;> rfl) rfl ?_
                                                          refine AW.aload_n (k0 := 1) (pc' := 914) X rfl rfl dL_law_913 rfl ?_
                                                          refine AW.aload_n (k0 := 0) (pc' := 915) X rfl rfl dL_law_914 rfl ?_
                                                          refine AW.iload_n (k0 := 3) (pc' := 916) X rfl rfl dL_law_915 rfl ?_
                                                          refine AW.iconst (v := 1) (pc' := 917) X rfl dL_law_916 rfl ?_
                                                          refine AW.iadd (pc' := 918) X dL_law_917 rfl ?_
                                                          obtain ⟨g170, h⟩ := gd_some h
                                                          refine AW.sld (pc' := 919) X hC (inb_vp g170) dL_law_918 rfl ?_
                                                          obtain ⟨v171, c171, h⟩ := Option.bind_eq_some_iff.mp h
                                                          refine AW.callV (As := [.int (xs (ix (x3 + 1)))]) (rest := []) (rv := (some (.int v171))) (M' := M) (pc' := 922) X (ok_X6_driveAt hS c171) yv_X6_driveAt (hS).1.1 (hS).1.2.1 (cX hS dA ad _) rfl rfl ml_L_121 ⟨by decide, by decide, hE.1, hE.2.1⟩ rfl (Nat.le_of_ble_eq_true rfl) rfl rfl dL_law_919 rfl ?_
                                                          refine AW.aload_n (k0 := 2) (pc' := 923) X rfl rfl dL_law_922 rfl ?_
                                                          refine AW.aload_n (k0 := 0) (pc' := 924) X rfl rfl dL_law_923 rfl ?_
                                                          refine AW.iload_n (k0 := 3) (pc' := 925) X rfl rfl dL_law_924 rfl ?_
                                                          refine AW.iconst (v := 1) (pc' := 926) X rfl dL_law_925 rfl ?_
                                                          refine AW.iadd (pc' := 927) X dL_law_926 rfl ?_
                                                          obtain ⟨g172, h⟩ := gd_some h
                                                          refine AW.sld (pc' := 928) X hC (inb_vp g172) dL_law_927 rfl ?_
                                                          obtain ⟨v173, c173, h⟩ := Option.bind_eq_some_iff.mp h
                                                          refine AW.callV (As := [.int (xs (ix (x3 + 1)))]) (rest := [.int v171]) (rv := (some (.int v173))) (M' := M) (pc' := 931) X (ok_X7_driveAt hO c173) yv_X7_driveAt hO.1 hO.2.1 (cM hO dA ad _) rfl rfl ml_L_124 ⟨by decide, by decide, hE.1, hE.2.1⟩ rfl (Nat.le_of_ble_eq_true rfl) rfl rfl dL_law_928 rfl ?_
                                                          refine AW.icmp_eq (pc' := 934) (tgt := 1084) X dL_law_931 rfl rfl (fun q174 => ?_) (fun q174 => ?_)
                                                          · replace h := itep q174 h
                                                            exact ok_L_law_1084 X hC hS hO hE ih x3 M h
                                                          · replace h := iten q174 h
                                                            refine AW.iconst (v := 0) (pc' := 935) X rfl dL_law_934 rfl ?_
                                                            exact false_true h
                                                        · replace h := iten q169 h
                                                          by_cases q175 : ((xs (ix x3)) &&& 31) = 26
                                                          · replace h := itep q175 h
                                                            refine AW.tin (pc' := 936) X dL_law_33 (by rw [q175]; decide) (by rw [q175]; decide) (by rw [q175] <;> rfl) rfl ?_
                                                            refine AW.aload_n (k0 := 1) (pc' := 937) X rfl rfl dL_law_936 rfl ?_
                                                            refine AW.aload_n (k0 := 0) (pc' := 938) X rfl rfl dL_law_937 rfl ?_
                                                            refine AW.iload_n (k0 := 3) (pc' := 939) X rfl rfl dL_law_938 rfl ?_
                                                            refine AW.iconst (v := 1) (pc' := 940) X rfl dL_law_939 rfl ?_
                                                            refine AW.iadd (pc' := 941) X dL_law_940 rfl ?_
                                                            obtain ⟨g176, h⟩ := gd_some h
                                                            refine AW.sld (pc' := 942) X hC (inb_vp g176) dL_law_941 rfl ?_
                                                            obtain ⟨v177, c177, h⟩ := Option.bind_eq_some_iff.mp h
                                                            refine AW.callV (As := [.int (xs (ix (x3 + 1)))]) (rest := []) (rv := (some (.int v177))) (M' := M) (pc' := 945) X (ok_X6_notchedBy hS c177) yv_X6_notchedBy (hS).1.1 (hS).1.2.1 (cX hS dA ad _) rfl rfl ml_L_125 ⟨by decide, by decide, hE.1, hE.2.1⟩ rfl (Nat.le_of_ble_eq_true rfl) rfl rfl dL_law_942 rfl ?_
                                                            refine AW.aload_n (k0 := 2) (pc' := 946) X rfl rfl dL_law_945 rfl ?_
                                                            refine AW.aload_n (k0 := 0) (pc' := 947) X rfl rfl dL_law_946 rfl ?_
                                                            refine AW.iload_n (k0 := 3) (pc' := 948) X rfl rfl dL_law_947 rfl ?_
                                                            refine AW.iconst (v := 1) (pc' := 949) X rfl dL_law_948 rfl ?_
                                                            refine AW.iadd (pc' := 950) X dL_law_949 rfl ?_
                                                            obtain ⟨g178, h⟩ := gd_some h
                                                            refine AW.sld (pc' := 951) X hC (inb_vp g178) dL_law_950 rfl ?_
                                                            obtain ⟨v179, c179, h⟩ := Option.bind_eq_some_iff.mp h
                                                            refine AW.callV (As := [.int (xs (ix (x3 + 1)))]) (rest := [.int v177]) (rv := (some (.int v179))) (M' := M) (pc' := 954) X (ok_X7_notchedBy hO c179) yv_X7_notchedBy hO.1 hO.2.1 (cM hO dA ad _) rfl rfl ml_L_128 ⟨by decide, by decide, hE.1, hE.2.1⟩ rfl (Nat.le_of_ble_eq_true rfl) rfl rfl dL_law_951 rfl ?_
                                                            refine AW.icmp_eq (pc' := 957) (tgt := 1084) X dL_law_954 rfl rfl (fun q180 => ?_) (fun q180 => ?_)
                                                            · replace h := itep q180 h
                                                              exact ok_L_law_1084 X hC hS hO hE ih x3 M h
                                                            · replace h := iten q180 h
                                                              refine AW.iconst (v := 0) (pc' := 958) X rfl dL_law_957 rfl ?_
                                                              exact false_true h
                                                          · replace h := iten q175 h
                                                            by_cases q181 : ((xs (ix x3)) &&& 31) = 27
                                                            · replace h := itep q181 h
                                                              refine AW.tin (pc' := 959) X dL_law_33 (by rw [q181]; decide) (by rw [q181]; decide) (by rw [q181] <;> rfl) rfl ?_
                                                              refine AW.aload_n (k0 := 1) (pc' := 960) X rfl rfl dL_law_959 rfl ?_
                                                              refine AW.aload_n (k0 := 0) (pc' := 961) X rfl rfl dL_law_960 rfl ?_
                                                              refine AW.iload_n (k0 := 3) (pc' := 962) X rfl rfl dL_law_961 rfl ?_
                                                              refine AW.iconst (v := 1) (pc' := 963) X rfl dL_law_962 rfl ?_
                                                              refine AW.iadd (pc' := 964) X dL_law_963 rfl ?_
                                                              obtain ⟨g182, h⟩ := gd_some h
                                                              refine AW.sld (pc' := 965) X hC (inb_vp g182) dL_law_964 rfl ?_
                                                              refine AW.aload_n (k0 := 0) (pc' := 966) X rfl rfl dL_law_965 rfl ?_
                                                              refine AW.iload_n (k0 := 3) (pc' := 967) X rfl rfl dL_law_966 rfl ?_
                                                              refine AW.iconst (v := 2) (pc' := 968) X rfl dL_law_967 rfl ?_
                                                              refine AW.iadd (pc' := 969) X dL_law_968 rfl ?_
                                                              obtain ⟨g183, h⟩ := gd_some h
                                                              refine AW.sld (pc' := 970) X hC (inb_vp g183) dL_law_969 rfl ?_
                                                              obtain ⟨v184, c184, h⟩ := Option.bind_eq_some_iff.mp h
                                                              refine AW.callV (As := [.int (xs (ix (x3 + 1))), .int (xs (ix (x3 + 2)))]) (rest := []) (rv := (some (.int v184))) (M' := M) (pc' := 973) X (ok_X6_resonance hS c184) yv_X6_resonance (hS).1.1 (hS).1.2.1 (cX hS dA ad _) rfl rfl ml_L_129 ⟨by decide, by decide, hE.1, hE.2.1⟩ rfl (Nat.le_of_ble_eq_true rfl) rfl rfl dL_law_970 rfl ?_
                                                              refine AW.aload_n (k0 := 2) (pc' := 974) X rfl rfl dL_law_973 rfl ?_
                                                              refine AW.aload_n (k0 := 0) (pc' := 975) X rfl rfl dL_law_974 rfl ?_
                                                              refine AW.iload_n (k0 := 3) (pc' := 976) X rfl rfl dL_law_975 rfl ?_
                                                              refine AW.iconst (v := 1) (pc' := 977) X rfl dL_law_976 rfl ?_
                                                              refine AW.iadd (pc' := 978) X dL_law_977 rfl ?_
                                                              obtain ⟨g185, h⟩ := gd_some h
                                                              refine AW.sld (pc' := 979) X hC (inb_vp g185) dL_law_978 rfl ?_
                                                              refine AW.aload_n (k0 := 0) (pc' := 980) X rfl rfl dL_law_979 rfl ?_
                                                              refine AW.iload_n (k0 := 3) (pc' := 981) X rfl rfl dL_law_980 rfl ?_
                                                              refine AW.iconst (v := 2) (pc' := 982) X rfl dL_law_981 rfl ?_
                                                              refine AW.iadd (pc' := 983) X dL_law_982 rfl ?_
                                                              obtain ⟨g186, h⟩ := gd_some h
                                                              refine AW.sld (pc' := 984) X hC (inb_vp g186) dL_law_983 rfl ?_
                                                              obtain ⟨v187, c187, h⟩ := Option.bind_eq_some_iff.mp h
                                                              refine AW.callV (As := [.int (xs (ix (x3 + 1))), .int (xs (ix (x3 + 2)))]) (rest := [.int v184]) (rv := (some (.int v187))) (M' := M) (pc' := 987) X (ok_X7_resonance hO c187) yv_X7_resonance hO.1 hO.2.1 (cM hO dA ad _) rfl rfl ml_L_132 ⟨by decide, by decide, hE.1, hE.2.1⟩ rfl (Nat.le_of_ble_eq_true rfl) rfl rfl dL_law_984 rfl ?_
                                                              refine AW.icmp_eq (pc' := 990) (tgt := 1084) X dL_law_987 rfl rfl (fun q188 => ?_) (fun q188 => ?_)
                                                              · replace h := itep q188 h
                                                                exact ok_L_law_1084 X hC hS hO hE ih x3 M h
                                                              · replace h := iten q188 h
                                                                refine AW.iconst (v := 0) (pc' := 991) X rfl dL_law_990 rfl ?_
                                                                exact false_true h
                                                            · replace h := iten q181 h
                                                              by_cases q189 : ((xs (ix x3)) &&& 31) = 28
                                                              · replace h := itep q189 h
                                                                refine AW.tin (pc' := 992) X dL_law_33 (by rw [q189]; decide) (by rw [q189]; decide) (by rw [q189] <;> rfl) rfl ?_
                                                                refine AW.aload_n (k0 := 1) (pc' := 993) X rfl rfl dL_law_992 rfl ?_
                                                                refine AW.aload_n (k0 := 0) (pc' := 994) X rfl rfl dL_law_993 rfl ?_
                                                                refine AW.iload_n (k0 := 3) (pc' := 995) X rfl rfl dL_law_994 rfl ?_
                                                                refine AW.iconst (v := 1) (pc' := 996) X rfl dL_law_995 rfl ?_
                                                                refine AW.iadd (pc' := 997) X dL_law_996 rfl ?_
                                                                obtain ⟨g190, h⟩ := gd_some h
                                                                refine AW.sld (pc' := 998) X hC (inb_vp g190) dL_law_997 rfl ?_
                                                                obtain ⟨v191, c191, h⟩ := Option.bind_eq_some_iff.mp h
                                                                refine AW.callV (As := [.int (xs (ix (x3 + 1)))]) (rest := []) (rv := (some (.int v191))) (M' := M) (pc' := 1001) X (ok_X6_total hS c191) yv_X6_total (hS).1.1 (hS).1.2.1 (cX hS dA ad _) rfl rfl ml_L_133 ⟨by decide, by decide, hE.1, hE.2.1⟩ rfl (Nat.le_of_ble_eq_true rfl) rfl rfl dL_law_998 rfl ?_
                                                                refine AW.aload_n (k0 := 2) (pc' := 1002) X rfl rfl dL_law_1001 rfl ?_
                                                                refine AW.aload_n (k0 := 0) (pc' := 1003) X rfl rfl dL_law_1002 rfl ?_
                                                                refine AW.iload_n (k0 := 3) (pc' := 1004) X rfl rfl dL_law_1003 rfl ?_
                                                                refine AW.iconst (v := 1) (pc' := 1005) X rfl dL_law_1004 rfl ?_
                                                                refine AW.iadd (pc' := 1006) X dL_law_1005 rfl ?_
                                                                obtain ⟨g192, h⟩ := gd_some h
                                                                refine AW.sld (pc' := 1007) X hC (inb_vp g192) dL_law_1006 rfl ?_
                                                                obtain ⟨v193, c193, h⟩ := Option.bind_eq_some_iff.mp h
                                                                refine AW.callV (As := [.int (xs (ix (x3 + 1)))]) (rest := [.int v191]) (rv := (some (.int v193))) (M' := M) (pc' := 1010) X (ok_X7_total hO c193) yv_X7_total hO.1 hO.2.1 (cM hO dA ad _) rfl rfl ml_L_136 ⟨by decide, by decide, hE.1, hE.2.1⟩ rfl (Nat.le_of_ble_eq_true rfl) rfl rfl dL_law_1007 rfl ?_
                                                                refine AW.icmp_eq (pc' := 1013) (tgt := 1084) X dL_law_1010 rfl rfl (fun q194 => ?_) (fun q194 => ?_)
                                                                · replace h := itep q194 h
                                                                  exact ok_L_law_1084 X hC hS hO hE ih x3 M h
                                                                · replace h := iten q194 h
                                                                  refine AW.iconst (v := 0) (pc' := 1014) X rfl dL_law_1013 rfl ?_
                                                                  exact false_true h
                                                              · replace h := iten q189 h
                                                                by_cases q195 : ((xs (ix x3)) &&& 31) = 29
                                                                · replace h := itep q195 h
                                                                  refine AW.tin (pc' := 1015) X dL_law_33 (by rw [q195]; decide) (by rw [q195]; decide) (by rw [q195] <;> rfl) rfl ?_
                                                                  refine AW.aload_n (k0 := 1) (pc' := 1016) X rfl rfl dL_law_1015 rfl ?_
                                                                  obtain ⟨v196, c196, h⟩ := Option.bind_eq_some_iff.mp h
                                                                  refine AW.callV (As := []) (rest := []) (rv := (some (.int v196.1))) (M' := v196.2) (pc' := 1019) X (ok_X6_loopsLeft hS c196) yv_X6_loopsLeft (hS).1.1 (hS).1.2.1 (cX hS dA ad _) rfl rfl ml_L_137 ⟨by decide, by decide, hE.1, hE.2.1⟩ rfl (Nat.le_of_ble_eq_true rfl) rfl rfl dL_law_1016 rfl ?_
                                                                  refine AW.aload_n (k0 := 2) (pc' := 1020) X rfl rfl dL_law_1019 rfl ?_
                                                                  obtain ⟨v197, c197, h⟩ := Option.bind_eq_some_iff.mp h
                                                                  refine AW.callV (As := []) (rest := [.int (v196.1)]) (rv := (some (.int v197.1))) (M' := v197.2) (pc' := 1023) X (ok_X7_loopsLeft hO c197) yv_X7_loopsLeft hO.1 hO.2.1 (cM hO dA ad _) rfl rfl ml_L_140 ⟨by decide, by decide, hE.1, hE.2.1⟩ rfl (Nat.le_of_ble_eq_true rfl) rfl rfl dL_law_1020 rfl ?_
                                                                  refine AW.icmp_eq (pc' := 1026) (tgt := 1084) X dL_law_1023 rfl rfl (fun q198 => ?_) (fun q198 => ?_)
                                                                  · replace h := itep q198 h
                                                                    exact ok_L_law_1084 X hC hS hO hE ih x3 v197.2 h
                                                                  · replace h := iten q198 h
                                                                    refine AW.iconst (v := 0) (pc' := 1027) X rfl dL_law_1026 rfl ?_
                                                                    exact false_true h
                                                                · replace h := iten q195 h
                                                                  by_cases q199 : ((xs (ix x3)) &&& 31) = 30
                                                                  · replace h := itep q199 h
                                                                    refine AW.tin (pc' := 1028) X dL_law_33 (by rw [q199]; decide) (by rw [q199]; decide) (by rw [q199] <;> rfl) rfl ?_
                                                                    refine AW.aload_n (k0 := 1) (pc' := 1029) X rfl rfl dL_law_1028 rfl ?_
                                                                    refine AW.aload_n (k0 := 0) (pc' := 1030) X rfl rfl dL_law_1029 rfl ?_
                                                                    refine AW.iload_n (k0 := 3) (pc' := 1031) X rfl rfl dL_law_1030 rfl ?_
                                                                    refine AW.iconst (v := 1) (pc' := 1032) X rfl dL_law_1031 rfl ?_
                                                                    refine AW.iadd (pc' := 1033) X dL_law_1032 rfl ?_
                                                                    obtain ⟨g200, h⟩ := gd_some h
                                                                    refine AW.sld (pc' := 1034) X hC (inb_vp g200) dL_law_1033 rfl ?_
                                                                    obtain ⟨v201, c201, h⟩ := Option.bind_eq_some_iff.mp h
                                                                    refine AW.callV (As := [.int (xs (ix (x3 + 1)))]) (rest := []) (rv := (some (.int v201.1))) (M' := v201.2) (pc' := 1037) X (ok_X6_wouldAbort hS c201) yv_X6_wouldAbort (hS).1.1 (hS).1.2.1 (cX hS dA ad _) rfl rfl ml_L_141 ⟨by decide, by decide, hE.1, hE.2.1⟩ rfl (Nat.le_of_ble_eq_true rfl) rfl rfl dL_law_1034 rfl ?_
                                                                    refine AW.aload_n (k0 := 2) (pc' := 1038) X rfl rfl dL_law_1037 rfl ?_
                                                                    refine AW.aload_n (k0 := 0) (pc' := 1039) X rfl rfl dL_law_1038 rfl ?_
                                                                    refine AW.iload_n (k0 := 3) (pc' := 1040) X rfl rfl dL_law_1039 rfl ?_
                                                                    refine AW.iconst (v := 1) (pc' := 1041) X rfl dL_law_1040 rfl ?_
                                                                    refine AW.iadd (pc' := 1042) X dL_law_1041 rfl ?_
                                                                    obtain ⟨g202, h⟩ := gd_some h
                                                                    refine AW.sld (pc' := 1043) X hC (inb_vp g202) dL_law_1042 rfl ?_
                                                                    obtain ⟨v203, c203, h⟩ := Option.bind_eq_some_iff.mp h
                                                                    refine AW.callV (As := [.int (xs (ix (x3 + 1)))]) (rest := [.int (v201.1)]) (rv := (some (.int v203.1))) (M' := v203.2) (pc' := 1046) X (ok_X7_wouldAbort hO c203) yv_X7_wouldAbort hO.1 hO.2.1 (cM hO dA ad _) rfl rfl ml_L_144 ⟨by decide, by decide, hE.1, hE.2.1⟩ rfl (Nat.le_of_ble_eq_true rfl) rfl rfl dL_law_1043 rfl ?_
                                                                    refine AW.icmp_eq (pc' := 1049) (tgt := 1084) X dL_law_1046 rfl rfl (fun q204 => ?_) (fun q204 => ?_)
                                                                    · replace h := itep q204 h
                                                                      exact ok_L_law_1084 X hC hS hO hE ih x3 v203.2 h
                                                                    · replace h := iten q204 h
                                                                      refine AW.iconst (v := 0) (pc' := 1050) X rfl dL_law_1049 rfl ?_
                                                                      exact false_true h
                                                                  · replace h := iten q199 h
                                                                    by_cases q205 : ((xs (ix x3)) &&& 31) = 31
                                                                    · replace h := itep q205 h
                                                                      refine AW.tin (pc' := 1051) X dL_law_33 (by rw [q205]; decide) (by rw [q205]; decide) (by rw [q205] <;> rfl) rfl ?_
                                                                      refine AW.aload_n (k0 := 1) (pc' := 1052) X rfl rfl dL_law_1051 rfl ?_
                                                                      refine AW.aload_n (k0 := 0) (pc' := 1053) X rfl rfl dL_law_1052 rfl ?_
                                                                      refine AW.iload_n (k0 := 3) (pc' := 1054) X rfl rfl dL_law_1053 rfl ?_
                                                                      refine AW.iconst (v := 1) (pc' := 1055) X rfl dL_law_1054 rfl ?_
                                                                      refine AW.iadd (pc' := 1056) X dL_law_1055 rfl ?_
                                                                      obtain ⟨g206, h⟩ := gd_some h
                                                                      refine AW.sld (pc' := 1057) X hC (inb_vp g206) dL_law_1056 rfl ?_
                                                                      refine AW.aload_n (k0 := 0) (pc' := 1058) X rfl rfl dL_law_1057 rfl ?_
                                                                      refine AW.iload_n (k0 := 3) (pc' := 1059) X rfl rfl dL_law_1058 rfl ?_
                                                                      refine AW.iconst (v := 2) (pc' := 1060) X rfl dL_law_1059 rfl ?_
                                                                      refine AW.iadd (pc' := 1061) X dL_law_1060 rfl ?_
                                                                      obtain ⟨g207, h⟩ := gd_some h
                                                                      refine AW.sld (pc' := 1062) X hC (inb_vp g207) dL_law_1061 rfl ?_
                                                                      obtain ⟨v208, c208, h⟩ := Option.bind_eq_some_iff.mp h
                                                                      refine AW.callV (As := [.int (xs (ix (x3 + 1))), .int (xs (ix (x3 + 2)))]) (rest := []) (rv := (some (.int v208.1))) (M' := v208.2) (pc' := 1065) X (ok_X6_highest hS c208) yv_X6_highest (hS).1.1 (hS).1.2.1 (cX hS dA ad _) rfl rfl ml_L_145 ⟨by decide, by decide, hE.1, hE.2.1⟩ rfl (Nat.le_of_ble_eq_true rfl) rfl rfl dL_law_1062 rfl ?_
                                                                      refine AW.aload_n (k0 := 2) (pc' := 1066) X rfl rfl dL_law_1065 rfl ?_
                                                                      refine AW.aload_n (k0 := 0) (pc' := 1067) X rfl rfl dL_law_1066 rfl ?_
                                                                      refine AW.iload_n (k0 := 3) (pc' := 1068) X rfl rfl dL_law_1067 rfl ?_
                                                                      refine AW.iconst (v := 1) (pc' := 1069) X rfl dL_law_1068 rfl ?_
                                                                      refine AW.iadd (pc' := 1070) X dL_law_1069 rfl ?_
                                                                      obtain ⟨g209, h⟩ := gd_some h
                                                                      refine AW.sld (pc' := 1071) X hC (inb_vp g209) dL_law_1070 rfl ?_
                                                                      refine AW.aload_n (k0 := 0) (pc' := 1072) X rfl rfl dL_law_1071 rfl ?_
                                                                      refine AW.iload_n (k0 := 3) (pc' := 1073) X rfl rfl dL_law_1072 rfl ?_
                                                                      refine AW.iconst (v := 2) (pc' := 1074) X rfl dL_law_1073 rfl ?_
                                                                      refine AW.iadd (pc' := 1075) X dL_law_1074 rfl ?_
                                                                      obtain ⟨g210, h⟩ := gd_some h
                                                                      refine AW.sld (pc' := 1076) X hC (inb_vp g210) dL_law_1075 rfl ?_
                                                                      obtain ⟨v211, c211, h⟩ := Option.bind_eq_some_iff.mp h
                                                                      refine AW.callV (As := [.int (xs (ix (x3 + 1))), .int (xs (ix (x3 + 2)))]) (rest := [.int (v208.1)]) (rv := (some (.int v211.1))) (M' := v211.2) (pc' := 1079) X (ok_X7_highest hO c211) yv_X7_highest hO.1 hO.2.1 (cM hO dA ad _) rfl rfl ml_L_148 ⟨by decide, by decide, hE.1, hE.2.1⟩ rfl (Nat.le_of_ble_eq_true rfl) rfl rfl dL_law_1076 rfl ?_
                                                                      refine AW.icmp_eq (pc' := 1082) (tgt := 1084) X dL_law_1079 rfl rfl (fun q212 => ?_) (fun q212 => ?_)
                                                                      · replace h := itep q212 h
                                                                        exact ok_L_law_1084 X hC hS hO hE ih x3 v211.2 h
                                                                      · replace h := iten q212 h
                                                                        refine AW.iconst (v := 0) (pc' := 1083) X rfl dL_law_1082 rfl ?_
                                                                        exact false_true h
                                                                    · replace h := iten q205 h
                                                                      have w0 := lv_neT q3 (by decide : (0 : Int32).toInt = 0)
                                                                      have w1 := lv_neT q13 (by decide : (1 : Int32).toInt = 1)
                                                                      have w2 := lv_neT q21 (by decide : (2 : Int32).toInt = 2)
                                                                      have w3 := lv_neT q24 (by decide : (3 : Int32).toInt = 3)
                                                                      have w4 := lv_neT q38 (by decide : (4 : Int32).toInt = 4)
                                                                      have w5 := lv_neT q50 (by decide : (5 : Int32).toInt = 5)
                                                                      have w6 := lv_neT q58 (by decide : (6 : Int32).toInt = 6)
                                                                      have w7 := lv_neT q64 (by decide : (7 : Int32).toInt = 7)
                                                                      have w8 := lv_neT q70 (by decide : (8 : Int32).toInt = 8)
                                                                      have w9 := lv_neT q73 (by decide : (9 : Int32).toInt = 9)
                                                                      have w10 := lv_neT q77 (by decide : (10 : Int32).toInt = 10)
                                                                      have w11 := lv_neT q83 (by decide : (11 : Int32).toInt = 11)
                                                                      have w12 := lv_neT q87 (by decide : (12 : Int32).toInt = 12)
                                                                      have w13 := lv_neT q91 (by decide : (13 : Int32).toInt = 13)
                                                                      have w14 := lv_neT q95 (by decide : (14 : Int32).toInt = 14)
                                                                      have w15 := lv_neT q99 (by decide : (15 : Int32).toInt = 15)
                                                                      have w16 := lv_neT q105 (by decide : (16 : Int32).toInt = 16)
                                                                      have w17 := lv_neT q111 (by decide : (17 : Int32).toInt = 17)
                                                                      have w18 := lv_neT q117 (by decide : (18 : Int32).toInt = 18)
                                                                      have w19 := lv_neT q123 (by decide : (19 : Int32).toInt = 19)
                                                                      have w20 := lv_neT q131 (by decide : (20 : Int32).toInt = 20)
                                                                      have w21 := lv_neT q139 (by decide : (21 : Int32).toInt = 21)
                                                                      have w22 := lv_neT q147 (by decide : (22 : Int32).toInt = 22)
                                                                      have w23 := lv_neT q155 (by decide : (23 : Int32).toInt = 23)
                                                                      have w24 := lv_neT q163 (by decide : (24 : Int32).toInt = 24)
                                                                      have w25 := lv_neT q169 (by decide : (25 : Int32).toInt = 25)
                                                                      have w26 := lv_neT q175 (by decide : (26 : Int32).toInt = 26)
                                                                      have w27 := lv_neT q181 (by decide : (27 : Int32).toInt = 27)
                                                                      have w28 := lv_neT q189 (by decide : (28 : Int32).toInt = 28)
                                                                      have w29 := lv_neT q195 (by decide : (29 : Int32).toInt = 29)
                                                                      have w30 := lv_neT q199 (by decide : (30 : Int32).toInt = 30)
                                                                      have w31 := lv_neT q205 (by decide : (31 : Int32).toInt = 31)
                                                                      refine AW.tout (pc' := 1084) X dL_law_33 (by simp only [ix] at w0 w1 w2 w3 w4 w5 w6 w7 w8 w9 w10 w11 w12 w13 w14 w15 w16 w17 w18 w19 w20 w21 w22 w23 w24 w25 w26 w27 w28 w29 w30 w31; omega) rfl ?_
                                                                      exact ok_L_law_1084 X hC hS hO hE ih x3 M h
end OL
