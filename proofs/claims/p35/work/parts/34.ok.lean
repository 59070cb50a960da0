/-! each method does what its function says: by program, a row an instruction -/
section OK
variable {p : Program} {l : Launch} {e : Env} {s : State} {m : MethodId} {args : Array Value} {below : List Frame} {meth : Method} {c : Code} {D : va_G} {dA : Nat → ClassId} {ad : Nat → Nat} {lo n : Nat} {A : Nat → Prop}
set_option maxHeartbeats 4000000 in
set_option maxRecDepth 100000 in
theorem ok_L_told_40 {a0 : Nat} {M : MM} (X : CX p s m args meth c cL_told 5 RL D dA ad lo n A) (hr : meth.sig.returnType = (some .long)) (h0 : tSS lo n a0) {rec6 : Int64 → Int32 → Option Int64} (hrec6 : ∀ (y1 : Int64) (x3 : Int32) (R : Int64), rec6 y1 x3 = some R → AR p l e 4 87 s m args below meth c D dA ad lo n 5 A (some (.long R)) M 6 [(0, .ref a0), (1, .long (y1)), (3, .int x3)] [] M) : ∀ (x3 : Int32) (sl0 : Int64) (R : Int64), f_L_told_40 a0 M rec6 x3 sl0 = some R → AR p l e 4 87 s m args below meth c D dA ad lo n 5 A (some (.long R)) M 40 [(0, .ref a0), (3, .int x3)] [.long (sl0)] M := by
  intro x3 sl0 R h
  unfold f_L_told_40 at h
  refine AW.lstore_n (ls' := [(1, .long (sl0)), (0, .ref a0), (3, .int x3)]) (pc' := 41) X rfl (by decide) rfl dL_told_40 rfl ?_
  refine AW.iinc (k0 := 2) (v := (x3 + 1)) (y := 1) (ls' := [(3, .int (x3 + 1)), (1, .long (sl0)), (0, .ref a0)]) (pc' := 44) X rfl rfl rfl (by decide) rfl dL_told_41 rfl ?_
  refine AW.goto (pc' := 6) X dL_told_44 rfl ?_
  refine AW.sub (ls' := [(0, .ref a0), (1, .long (sl0)), (3, .int (x3 + 1))]) [2, 1, 0] rfl ?_
  exact hrec6 sl0 (x3 + 1) R h
set_option maxHeartbeats 4000000 in
set_option maxRecDepth 100000 in
theorem ok_L_told_24 {a0 : Nat} {M : MM} (X : CX p s m args meth c cL_told 5 RL D dA ad lo n A) (hr : meth.sig.returnType = (some .long)) (h0 : tSS lo n a0) {rec6 : Int64 → Int32 → Option Int64} (hrec6 : ∀ (y1 : Int64) (x3 : Int32) (R : Int64), rec6 y1 x3 = some R → AR p l e 4 87 s m args below meth c D dA ad lo n 5 A (some (.long R)) M 6 [(0, .ref a0), (1, .long (y1)), (3, .int x3)] [] M) : ∀ (y1 : Int64) (x3 : Int32) (R : Int64), f_L_told_24 a0 M rec6 y1 x3 = some R → AR p l e 4 87 s m args below meth c D dA ad lo n 5 A (some (.long R)) M 24 [(0, .ref a0), (1, .long (y1)), (3, .int x3)] [] M := by
  intro y1 x3 R h
  unfold f_L_told_24 at h
  refine AW.lload_n (k0 := 1) (pc' := 25) X rfl rfl dL_told_24 rfl ?_
  refine AW.goto (pc' := 40) X dL_told_25 rfl ?_
  refine AW.sub (ls' := [(0, .ref a0), (3, .int x3)]) [0, 2] rfl ?_
  exact ok_L_told_40 X hr h0 hrec6 x3 y1 R h
set_option maxHeartbeats 4000000 in
set_option maxRecDepth 100000 in
theorem ok_L_told_113 {a0 : Nat} {M : MM} (X : CX p s m args meth c cL_told 5 RL D dA ad lo n A) (hr : meth.sig.returnType = (some .long)) (h0 : tSS lo n a0) {rec49 : Int64 → Int32 → Option Int64} (hrec49 : ∀ (y1 : Int64) (x3 : Int32) (R : Int64), rec49 y1 x3 = some R → AR p l e 4 87 s m args below meth c D dA ad lo n 5 A (some (.long R)) M 49 [(0, .ref a0), (1, .long (y1)), (3, .int x3)] [] M) : ∀ (k : Nat) (y1 : Int64) (x3 : Int32) (x4 : Int32) (R : Int64), f_L_told_113 a0 M rec49 k y1 x3 x4 = some R → AR p l e 4 87 s m args below meth c D dA ad lo n 5 A (some (.long R)) M 113 [(0, .ref a0), (1, .long (y1)), (3, .int x3), (4, .int x4)] [] M := by
  intro k
  induction k with
  | zero => intro _ _ _ R h; exact none_some h
  | succ k ih =>
    intro y1 x3 x4 R h
    unfold f_L_told_113 at h
    refine AW.iload (k0 := 3) (pc' := 115) X rfl dL_told_113 rfl ?_
    refine AW.aload_n (k0 := 0) (pc' := 116) X rfl rfl dL_told_115 rfl ?_
    refine AW.iconst (v := 5) (pc' := 117) X rfl dL_told_116 rfl ?_
    obtain ⟨v1, c1, h⟩ := Option.bind_eq_some_iff.mp h
    refine AW.callV (As := [.int 5]) (rest := [.int x4]) (rv := (some (.int v1))) (M' := M) (pc' := 120) X (ok_X6_total h0 c1) yv_X6_total (h0).1.1 (h0).1.2.1 (cX h0 dA ad _) rfl rfl ml_L_8 ⟨by decide, by decide, by decide, by decide⟩ rfl (Nat.le_of_ble_eq_true rfl) rfl rfl dL_told_117 rfl ?_
    refine AW.icmp_ge (pc' := 123) (tgt := 159) X dL_told_120 rfl rfl (fun q2 => ?_) (fun q2 => ?_)
    · replace h := itep q2 h
      refine AW.iinc (k0 := 2) (v := (x3 + 1)) (y := 1) (ls' := [(3, .int (x3 + 1)), (0, .ref a0), (1, .long (y1)), (4, .int x4)]) (pc' := 162) X rfl rfl rfl (by decide) rfl dL_told_159 rfl ?_
      refine AW.goto (pc' := 49) X dL_told_162 rfl ?_
      refine AW.sub (ls' := [(0, .ref a0), (1, .long (y1)), (3, .int (x3 + 1))]) [1, 2, 0] rfl ?_
      exact hrec49 y1 (x3 + 1) R h
    · replace h := iten q2 h
      refine AW.ldc2 (pc' := 126) X mk_L_52 dL_told_123 rfl ?_
      refine AW.lload_n (k0 := 1) (pc' := 127) X rfl rfl dL_told_126 rfl ?_
      refine AW.lmul (pc' := 128) X dL_told_127 rfl ?_
      refine AW.aload_n (k0 := 0) (pc' := 129) X rfl rfl dL_told_128 rfl ?_
      refine AW.iload_n (k0 := 2) (pc' := 130) X rfl rfl dL_told_129 rfl ?_
      refine AW.iload (k0 := 3) (pc' := 132) X rfl dL_told_130 rfl ?_
      obtain ⟨v3, c3, h⟩ := Option.bind_eq_some_iff.mp h
      refine AW.callV (As := [.int x3, .int x4]) (rest := [.long ((31 * y1))]) (rv := (some (.int v3))) (M' := M) (pc' := 135) X (ok_X6_level h0 c3) yv_X6_level (h0).1.1 (h0).1.2.1 (cX h0 dA ad _) rfl rfl ml_L_54 ⟨by decide, by decide, by decide, by decide⟩ rfl (Nat.le_of_ble_eq_true rfl) rfl rfl dL_told_132 rfl ?_
      refine AW.i2l (pc' := 136) X dL_told_135 rfl ?_
      refine AW.ladd (pc' := 137) X dL_told_136 rfl ?_
      refine AW.lstore_n (ls' := [(1, .long (((31 * y1) + (Int32.toInt64 v3)))), (0, .ref a0), (3, .int x3), (4, .int x4)]) (pc' := 138) X rfl (by decide) rfl dL_told_137 rfl ?_
      refine AW.ldc2 (pc' := 141) X mk_L_52 dL_told_138 rfl ?_
      refine AW.lload_n (k0 := 0) (pc' := 142) X rfl rfl dL_told_141 rfl ?_
      refine AW.lmul (pc' := 143) X dL_told_142 rfl ?_
      refine AW.aload_n (k0 := 1) (pc' := 144) X rfl rfl dL_told_143 rfl ?_
      refine AW.iload_n (k0 := 2) (pc' := 145) X rfl rfl dL_told_144 rfl ?_
      refine AW.iload (k0 := 3) (pc' := 147) X rfl dL_told_145 rfl ?_
      obtain ⟨v4, c4, h⟩ := Option.bind_eq_some_iff.mp h
      refine AW.callV (As := [.int x3, .int x4]) (rest := [.long ((31 * ((31 * y1) + (Int32.toInt64 v3))))]) (rv := (some (.int v4))) (M' := M) (pc' := 150) X (ok_X6_averaged h0 c4) yv_X6_averaged (h0).1.1 (h0).1.2.1 (cX h0 dA ad _) rfl rfl ml_L_47 ⟨by decide, by decide, by decide, by decide⟩ rfl (Nat.le_of_ble_eq_true rfl) rfl rfl dL_told_147 rfl ?_
      refine AW.i2l (pc' := 151) X dL_told_150 rfl ?_
      refine AW.ladd (pc' := 152) X dL_told_151 rfl ?_
      refine AW.lstore_n (ls' := [(1, .long (((31 * ((31 * y1) + (Int32.toInt64 v3))) + (Int32.toInt64 v4)))), (0, .ref a0), (3, .int x3), (4, .int x4)]) (pc' := 153) X rfl (by decide) rfl dL_told_152 rfl ?_
      refine AW.iinc (k0 := 3) (v := (x4 + 1)) (y := 1) (ls' := [(4, .int (x4 + 1)), (1, .long (((31 * ((31 * y1) + (Int32.toInt64 v3))) + (Int32.toInt64 v4)))), (0, .ref a0), (3, .int x3)]) (pc' := 156) X rfl rfl rfl (by decide) rfl dL_told_153 rfl ?_
      refine AW.goto (pc' := 113) X dL_told_156 rfl ?_
      refine AW.sub (ls' := [(0, .ref a0), (1, .long (((31 * ((31 * y1) + (Int32.toInt64 v3))) + (Int32.toInt64 v4)))), (3, .int x3), (4, .int (x4 + 1))]) [2, 1, 3, 0] rfl ?_
      exact ih ((31 * ((31 * y1) + (Int32.toInt64 v3))) + (Int32.toInt64 v4)) x3 (x4 + 1) R h
set_option maxHeartbeats 4000000 in
set_option maxRecDepth 100000 in
theorem ok_L_told_179 {a0 : Nat} {M : MM} (X : CX p s m args meth c cL_told 5 RL D dA ad lo n A) (hr : meth.sig.returnType = (some .long)) (h0 : tSS lo n a0) {rec167 : Int64 → Int32 → Option Int64} (hrec167 : ∀ (y1 : Int64) (x3 : Int32) (R : Int64), rec167 y1 x3 = some R → AR p l e 4 87 s m args below meth c D dA ad lo n 5 A (some (.long R)) M 167 [(0, .ref a0), (1, .long (y1)), (3, .int x3)] [] M) : ∀ (k : Nat) (y1 : Int64) (x3 : Int32) (x4 : Int32) (R : Int64), f_L_told_179 a0 M rec167 k y1 x3 x4 = some R → AR p l e 4 87 s m args below meth c D dA ad lo n 5 A (some (.long R)) M 179 [(0, .ref a0), (1, .long (y1)), (3, .int x3), (4, .int x4)] [] M := by
  intro k
  induction k with
  | zero => intro _ _ _ R h; exact none_some h
  | succ k ih =>
    intro y1 x3 x4 R h
    unfold f_L_told_179 at h
    refine AW.iload (k0 := 3) (pc' := 181) X rfl dL_told_179 rfl ?_
    refine AW.bipush (v := 8) (pc' := 183) X rfl dL_told_181 rfl ?_
    refine AW.icmp_ge (pc' := 186) (tgt := 207) X dL_told_183 rfl rfl (fun q1 => ?_) (fun q1 => ?_)
    · replace h := itep q1 h
      refine AW.ldc2 (pc' := 210) X mk_L_52 dL_told_207 rfl ?_
      refine AW.lload_n (k0 := 1) (pc' := 211) X rfl rfl dL_told_210 rfl ?_
      refine AW.lmul (pc' := 212) X dL_told_211 rfl ?_
      refine AW.aload_n (k0 := 0) (pc' := 213) X rfl rfl dL_told_212 rfl ?_
      refine AW.iload_n (k0 := 2) (pc' := 214) X rfl rfl dL_told_213 rfl ?_
      refine AW.bipush (v := 100) (pc' := 216) X rfl dL_told_214 rfl ?_
      obtain ⟨v2, c2, h⟩ := Option.bind_eq_some_iff.mp h
      refine AW.callV (As := [.int x3, .int 100]) (rest := [.long ((31 * y1))]) (rv := (some (.int v2))) (M' := M) (pc' := 219) X (ok_X6_gain h0 c2) yv_X6_gain (h0).1.1 (h0).1.2.1 (cX h0 dA ad _) rfl rfl ml_L_57 ⟨by decide, by decide, by decide, by decide⟩ rfl (Nat.le_of_ble_eq_true rfl) rfl rfl dL_told_216 rfl ?_
      refine AW.i2l (pc' := 220) X dL_told_219 rfl ?_
      refine AW.ladd (pc' := 221) X dL_told_220 rfl ?_
      refine AW.lstore_n (ls' := [(1, .long (((31 * y1) + (Int32.toInt64 v2)))), (0, .ref a0), (3, .int x3), (4, .int x4)]) (pc' := 222) X rfl (by decide) rfl dL_told_221 rfl ?_
      refine AW.iinc (k0 := 2) (v := (x3 + 1)) (y := 1) (ls' := [(3, .int (x3 + 1)), (1, .long (((31 * y1) + (Int32.toInt64 v2)))), (0, .ref a0), (4, .int x4)]) (pc' := 225) X rfl rfl rfl (by decide) rfl dL_told_222 rfl ?_
      refine AW.goto (pc' := 167) X dL_told_225 rfl ?_
      refine AW.sub (ls' := [(0, .ref a0), (1, .long (((31 * y1) + (Int32.toInt64 v2)))), (3, .int (x3 + 1))]) [2, 1, 0] rfl ?_
      exact hrec167 ((31 * y1) + (Int32.toInt64 v2)) (x3 + 1) R h
    · replace h := iten q1 h
      refine AW.ldc2 (pc' := 189) X mk_L_52 dL_told_186 rfl ?_
      refine AW.lload_n (k0 := 1) (pc' := 190) X rfl rfl dL_told_189 rfl ?_
      refine AW.lmul (pc' := 191) X dL_told_190 rfl ?_
      refine AW.aload_n (k0 := 0) (pc' := 192) X rfl rfl dL_told_191 rfl ?_
      refine AW.iload_n (k0 := 2) (pc' := 193) X rfl rfl dL_told_192 rfl ?_
      refine AW.iload (k0 := 3) (pc' := 195) X rfl dL_told_193 rfl ?_
      obtain ⟨v3, c3, h⟩ := Option.bind_eq_some_iff.mp h
      refine AW.callV (As := [.int x3, .int x4]) (rest := [.long ((31 * y1))]) (rv := (some (.int v3))) (M' := M) (pc' := 198) X (ok_X6_channel h0 c3) yv_X6_channel (h0).1.1 (h0).1.2.1 (cX h0 dA ad _) rfl rfl ml_L_41 ⟨by decide, by decide, by decide, by decide⟩ rfl (Nat.le_of_ble_eq_true rfl) rfl rfl dL_told_195 rfl ?_
      refine AW.i2l (pc' := 199) X dL_told_198 rfl ?_
      refine AW.ladd (pc' := 200) X dL_told_199 rfl ?_
      refine AW.lstore_n (ls' := [(1, .long (((31 * y1) + (Int32.toInt64 v3)))), (0, .ref a0), (3, .int x3), (4, .int x4)]) (pc' := 201) X rfl (by decide) rfl dL_told_200 rfl ?_
      refine AW.iinc (k0 := 3) (v := (x4 + 1)) (y := 1) (ls' := [(4, .int (x4 + 1)), (1, .long (((31 * y1) + (Int32.toInt64 v3)))), (0, .ref a0), (3, .int x3)]) (pc' := 204) X rfl rfl rfl (by decide) rfl dL_told_201 rfl ?_
      refine AW.goto (pc' := 179) X dL_told_204 rfl ?_
      refine AW.sub (ls' := [(0, .ref a0), (1, .long (((31 * y1) + (Int32.toInt64 v3)))), (3, .int x3), (4, .int (x4 + 1))]) [2, 1, 3, 0] rfl ?_
      exact ih ((31 * y1) + (Int32.toInt64 v3)) x3 (x4 + 1) R h
set_option maxHeartbeats 4000000 in
set_option maxRecDepth 100000 in
theorem ok_L_told_167 {a0 : Nat} {M : MM} (X : CX p s m args meth c cL_told 5 RL D dA ad lo n A) (hr : meth.sig.returnType = (some .long)) (h0 : tSS lo n a0) : ∀ (k : Nat) (y1 : Int64) (x3 : Int32) (R : Int64), f_L_told_167 a0 M k y1 x3 = some R → AR p l e 4 87 s m args below meth c D dA ad lo n 5 A (some (.long R)) M 167 [(0, .ref a0), (1, .long (y1)), (3, .int x3)] [] M := by
  intro k
  induction k with
  | zero => intro _ _ R h; exact none_some h
  | succ k ih =>
    intro y1 x3 R h
    unfold f_L_told_167 at h
    refine AW.iload_n (k0 := 2) (pc' := 168) X rfl rfl dL_told_167 rfl ?_
    refine AW.aload_n (k0 := 0) (pc' := 169) X rfl rfl dL_told_168 rfl ?_
    refine AW.iconst (v := 5) (pc' := 170) X rfl dL_told_169 rfl ?_
    obtain ⟨v1, c1, h⟩ := Option.bind_eq_some_iff.mp h
    refine AW.callV (As := [.int 5]) (rest := [.int x3]) (rv := (some (.int v1))) (M' := M) (pc' := 173) X (ok_X6_total h0 c1) yv_X6_total (h0).1.1 (h0).1.2.1 (cX h0 dA ad _) rfl rfl ml_L_8 ⟨by decide, by decide, by decide, by decide⟩ rfl (Nat.le_of_ble_eq_true rfl) rfl rfl dL_told_170 rfl ?_
    refine AW.icmp_ge (pc' := 176) (tgt := 228) X dL_told_173 rfl rfl (fun q2 => ?_) (fun q2 => ?_)
    · replace h := itep q2 h
      refine AW.lload_n (k0 := 1) (pc' := 229) X rfl rfl dL_told_228 rfl ?_
      replace h := Option.some.inj h
      subst h
      exact AW.lret X hr dL_told_229
    · replace h := iten q2 h
      refine AW.iconst (v := 0) (pc' := 177) X rfl dL_told_176 rfl ?_
      refine AW.istore (ls' := [(4, .int 0), (0, .ref a0), (1, .long (y1)), (3, .int x3)]) (pc' := 179) X (by decide) rfl dL_told_177 rfl ?_
      refine AW.sub (ls' := [(0, .ref a0), (1, .long (y1)), (3, .int x3), (4, .int 0)]) [1, 2, 3, 0] rfl ?_
      exact ok_L_told_179 X hr h0 ih FU y1 x3 0 R h
set_option maxHeartbeats 4000000 in
set_option maxRecDepth 100000 in
theorem ok_L_told_49 {a0 : Nat} {M : MM} (X : CX p s m args meth c cL_told 5 RL D dA ad lo n A) (hr : meth.sig.returnType = (some .long)) (h0 : tSS lo n a0) : ∀ (k : Nat) (y1 : Int64) (x3 : Int32) (R : Int64), f_L_told_49 a0 M k y1 x3 = some R → AR p l e 4 87 s m args below meth c D dA ad lo n 5 A (some (.long R)) M 49 [(0, .ref a0), (1, .long (y1)), (3, .int x3)] [] M := by
  intro k
  induction k with
  | zero => intro _ _ R h; exact none_some h
  | succ k ih =>
    intro y1 x3 R h
    unfold f_L_told_49 at h
    refine AW.iload_n (k0 := 2) (pc' := 50) X rfl rfl dL_told_49 rfl ?_
    refine AW.aload_n (k0 := 0) (pc' := 51) X rfl rfl dL_told_50 rfl ?_
    refine AW.iconst (v := 3) (pc' := 52) X rfl dL_told_51 rfl ?_
    obtain ⟨v1, c1, h⟩ := Option.bind_eq_some_iff.mp h
    refine AW.callV (As := [.int 3]) (rest := [.int x3]) (rv := (some (.int v1))) (M' := M) (pc' := 55) X (ok_X6_total h0 c1) yv_X6_total (h0).1.1 (h0).1.2.1 (cX h0 dA ad _) rfl rfl ml_L_8 ⟨by decide, by decide, by decide, by decide⟩ rfl (Nat.le_of_ble_eq_true rfl) rfl rfl dL_told_52 rfl ?_
    refine AW.icmp_ge (pc' := 58) (tgt := 165) X dL_told_55 rfl rfl (fun q2 => ?_) (fun q2 => ?_)
    · replace h := itep q2 h
      refine AW.iconst (v := 0) (pc' := 166) X rfl dL_told_165 rfl ?_
      refine AW.istore_n (ls' := [(3, .int 0), (0, .ref a0), (1, .long (y1))]) (pc' := 167) X rfl (by decide) rfl dL_told_166 rfl ?_
      refine AW.sub (ls' := [(0, .ref a0), (1, .long (y1)), (3, .int 0)]) [1, 2, 0] rfl ?_
      exact ok_L_told_167 X hr h0 FU y1 0 R h
    · replace h := iten q2 h
      refine AW.ldc2 (pc' := 61) X mk_L_52 dL_told_58 rfl ?_
      refine AW.lload_n (k0 := 1) (pc' := 62) X rfl rfl dL_told_61 rfl ?_
      refine AW.lmul (pc' := 63) X dL_told_62 rfl ?_
      refine AW.aload_n (k0 := 0) (pc' := 64) X rfl rfl dL_told_63 rfl ?_
      refine AW.iload_n (k0 := 2) (pc' := 65) X rfl rfl dL_told_64 rfl ?_
      obtain ⟨v3, c3, h⟩ := Option.bind_eq_some_iff.mp h
      refine AW.callV (As := [.int x3]) (rest := [.long ((31 * y1))]) (rv := (some (.int v3))) (M' := M) (pc' := 68) X (ok_X6_frequency h0 c3) yv_X6_frequency (h0).1.1 (h0).1.2.1 (cX h0 dA ad _) rfl rfl ml_L_25 ⟨by decide, by decide, by decide, by decide⟩ rfl (Nat.le_of_ble_eq_true rfl) rfl rfl dL_told_65 rfl ?_
      refine AW.i2l (pc' := 69) X dL_told_68 rfl ?_
      refine AW.ladd (pc' := 70) X dL_told_69 rfl ?_
      refine AW.lstore_n (ls' := [(1, .long (((31 * y1) + (Int32.toInt64 v3)))), (0, .ref a0), (3, .int x3)]) (pc' := 71) X rfl (by decide) rfl dL_told_70 rfl ?_
      refine AW.ldc2 (pc' := 74) X mk_L_52 dL_told_71 rfl ?_
      refine AW.lload_n (k0 := 0) (pc' := 75) X rfl rfl dL_told_74 rfl ?_
      refine AW.lmul (pc' := 76) X dL_told_75 rfl ?_
      refine AW.aload_n (k0 := 1) (pc' := 77) X rfl rfl dL_told_76 rfl ?_
      refine AW.iload_n (k0 := 2) (pc' := 78) X rfl rfl dL_told_77 rfl ?_
      obtain ⟨v4, c4, h⟩ := Option.bind_eq_some_iff.mp h
      refine AW.callV (As := [.int x3]) (rest := [.long ((31 * ((31 * y1) + (Int32.toInt64 v3))))]) (rv := (some (.int v4))) (M' := M) (pc' := 81) X (ok_X6_controlGain h0 c4) yv_X6_controlGain (h0).1.1 (h0).1.2.1 (cX h0 dA ad _) rfl rfl ml_L_28 ⟨by decide, by decide, by decide, by decide⟩ rfl (Nat.le_of_ble_eq_true rfl) rfl rfl dL_told_78 rfl ?_
      refine AW.i2l (pc' := 82) X dL_told_81 rfl ?_
      refine AW.ladd (pc' := 83) X dL_told_82 rfl ?_
      refine AW.lstore_n (ls' := [(1, .long (((31 * ((31 * y1) + (Int32.toInt64 v3))) + (Int32.toInt64 v4)))), (0, .ref a0), (3, .int x3)]) (pc' := 84) X rfl (by decide) rfl dL_told_83 rfl ?_
      refine AW.ldc2 (pc' := 87) X mk_L_52 dL_told_84 rfl ?_
      refine AW.lload_n (k0 := 0) (pc' := 88) X rfl rfl dL_told_87 rfl ?_
      refine AW.lmul (pc' := 89) X dL_told_88 rfl ?_
      refine AW.aload_n (k0 := 1) (pc' := 90) X rfl rfl dL_told_89 rfl ?_
      refine AW.iload_n (k0 := 2) (pc' := 91) X rfl rfl dL_told_90 rfl ?_
      obtain ⟨v5, c5, h⟩ := Option.bind_eq_some_iff.mp h
      refine AW.callV (As := [.int x3]) (rest := [.long ((31 * ((31 * ((31 * y1) + (Int32.toInt64 v3))) + (Int32.toInt64 v4))))]) (rv := (some (.int v5))) (M' := M) (pc' := 94) X (ok_X6_driveAt h0 c5) yv_X6_driveAt (h0).1.1 (h0).1.2.1 (cX h0 dA ad _) rfl rfl ml_L_31 ⟨by decide, by decide, by decide, by decide⟩ rfl (Nat.le_of_ble_eq_true rfl) rfl rfl dL_told_91 rfl ?_
      refine AW.i2l (pc' := 95) X dL_told_94 rfl ?_
      refine AW.ladd (pc' := 96) X dL_told_95 rfl ?_
      refine AW.lstore_n (ls' := [(1, .long (((31 * ((31 * ((31 * y1) + (Int32.toInt64 v3))) + (Int32.toInt64 v4))) + (Int32.toInt64 v5)))), (0, .ref a0), (3, .int x3)]) (pc' := 97) X rfl (by decide) rfl dL_told_96 rfl ?_
      refine AW.ldc2 (pc' := 100) X mk_L_52 dL_told_97 rfl ?_
      refine AW.lload_n (k0 := 0) (pc' := 101) X rfl rfl dL_told_100 rfl ?_
      refine AW.lmul (pc' := 102) X dL_told_101 rfl ?_
      refine AW.aload_n (k0 := 1) (pc' := 103) X rfl rfl dL_told_102 rfl ?_
      refine AW.iload_n (k0 := 2) (pc' := 104) X rfl rfl dL_told_103 rfl ?_
      obtain ⟨v6, c6, h⟩ := Option.bind_eq_some_iff.mp h
      refine AW.callV (As := [.int x3]) (rest := [.long ((31 * ((31 * ((31 * ((31 * y1) + (Int32.toInt64 v3))) + (Int32.toInt64 v4))) + (Int32.toInt64 v5))))]) (rv := (some (.int v6))) (M' := M) (pc' := 107) X (ok_X6_notchedBy h0 c6) yv_X6_notchedBy (h0).1.1 (h0).1.2.1 (cX h0 dA ad _) rfl rfl ml_L_34 ⟨by decide, by decide, by decide, by decide⟩ rfl (Nat.le_of_ble_eq_true rfl) rfl rfl dL_told_104 rfl ?_
      refine AW.i2l (pc' := 108) X dL_told_107 rfl ?_
      refine AW.ladd (pc' := 109) X dL_told_108 rfl ?_
      refine AW.lstore_n (ls' := [(1, .long (((31 * ((31 * ((31 * ((31 * y1) + (Int32.toInt64 v3))) + (Int32.toInt64 v4))) + (Int32.toInt64 v5))) + (Int32.toInt64 v6)))), (0, .ref a0), (3, .int x3)]) (pc' := 110) X rfl (by decide) rfl dL_told_109 rfl ?_
      refine AW.iconst (v := 0) (pc' := 111) X rfl dL_told_110 rfl ?_
      refine AW.istore (ls' := [(4, .int 0), (1, .long (((31 * ((31 * ((31 * ((31 * y1) + (Int32.toInt64 v3))) + (Int32.toInt64 v4))) + (Int32.toInt64 v5))) + (Int32.toInt64 v6)))), (0, .ref a0), (3, .int x3)]) (pc' := 113) X (by decide) rfl dL_told_111 rfl ?_
      refine AW.sub (ls' := [(0, .ref a0), (1, .long (((31 * ((31 * ((31 * ((31 * y1) + (Int32.toInt64 v3))) + (Int32.toInt64 v4))) + (Int32.toInt64 v5))) + (Int32.toInt64 v6)))), (3, .int x3), (4, .int 0)]) [2, 1, 3, 0] rfl ?_
      exact ok_L_told_113 X hr h0 ih FU ((31 * ((31 * ((31 * ((31 * y1) + (Int32.toInt64 v3))) + (Int32.toInt64 v4))) + (Int32.toInt64 v5))) + (Int32.toInt64 v6)) x3 0 R h
set_option maxHeartbeats 4000000 in
set_option maxRecDepth 100000 in
theorem ok_L_told_6 {a0 : Nat} {M : MM} (X : CX p s m args meth c cL_told 5 RL D dA ad lo n A) (hr : meth.sig.returnType = (some .long)) (h0 : tSS lo n a0) : ∀ (k : Nat) (y1 : Int64) (x3 : Int32) (R : Int64), f_L_told_6 a0 M k y1 x3 = some R → AR p l e 4 87 s m args below meth c D dA ad lo n 5 A (some (.long R)) M 6 [(0, .ref a0), (1, .long (y1)), (3, .int x3)] [] M := by
  intro k
  induction k with
  | zero => intro _ _ R h; exact none_some h
  | succ k ih =>
    intro y1 x3 R h
    unfold f_L_told_6 at h
    refine AW.iload_n (k0 := 2) (pc' := 7) X rfl rfl dL_told_6 rfl ?_
    refine AW.bipush (v := 20) (pc' := 9) X rfl dL_told_7 rfl ?_
    refine AW.icmp_ge (pc' := 12) (tgt := 47) X dL_told_9 rfl rfl (fun q1 => ?_) (fun q1 => ?_)
    · replace h := itep q1 h
      refine AW.iconst (v := 0) (pc' := 48) X rfl dL_told_47 rfl ?_
      refine AW.istore_n (ls' := [(3, .int 0), (0, .ref a0), (1, .long (y1))]) (pc' := 49) X rfl (by decide) rfl dL_told_48 rfl ?_
      refine AW.sub (ls' := [(0, .ref a0), (1, .long (y1)), (3, .int 0)]) [1, 2, 0] rfl ?_
      exact ok_L_told_49 X hr h0 FU y1 0 R h
    · replace h := iten q1 h
      refine AW.iload_n (k0 := 2) (pc' := 13) X rfl rfl dL_told_12 rfl ?_
      refine AW.bipush (v := 12) (pc' := 15) X rfl dL_told_13 rfl ?_
      refine AW.icmp_eq (pc' := 18) (tgt := 24) X dL_told_15 rfl rfl (fun q2 => ?_) (fun q2 => ?_)
      · replace h := itep q2 h
        exact ok_L_told_24 X hr h0 ih y1 x3 R h
      · replace h := iten q2 h
        refine AW.iload_n (k0 := 2) (pc' := 19) X rfl rfl dL_told_18 rfl ?_
        refine AW.bipush (v := 13) (pc' := 21) X rfl dL_told_19 rfl ?_
        refine AW.icmp_ne (pc' := 24) (tgt := 28) X dL_told_21 rfl rfl (fun q3 => ?_) (fun q3 => ?_)
        · replace h := iten q3 h
          refine AW.ldc2 (pc' := 31) X mk_L_52 dL_told_28 rfl ?_
          refine AW.lload_n (k0 := 1) (pc' := 32) X rfl rfl dL_told_31 rfl ?_
          refine AW.lmul (pc' := 33) X dL_told_32 rfl ?_
          refine AW.aload_n (k0 := 0) (pc' := 34) X rfl rfl dL_told_33 rfl ?_
          refine AW.iload_n (k0 := 2) (pc' := 35) X rfl rfl dL_told_34 rfl ?_
          obtain ⟨v4, c4, h⟩ := Option.bind_eq_some_iff.mp h
          refine AW.callV (As := [.int x3]) (rest := [.long ((31 * y1))]) (rv := (some (.int v4))) (M' := M) (pc' := 38) X (ok_X6_total h0 c4) yv_X6_total (h0).1.1 (h0).1.2.1 (cX h0 dA ad _) rfl rfl ml_L_8 ⟨by decide, by decide, by decide, by decide⟩ rfl (Nat.le_of_ble_eq_true rfl) rfl rfl dL_told_35 rfl ?_
          refine AW.i2l (pc' := 39) X dL_told_38 rfl ?_
          refine AW.ladd (pc' := 40) X dL_told_39 rfl ?_
          refine AW.sub (ls' := [(0, .ref a0), (3, .int x3)]) [0, 2] rfl ?_
          exact ok_L_told_40 X hr h0 ih x3 ((31 * y1) + (Int32.toInt64 v4)) R h
        · replace h := itep q3 h
          exact ok_L_told_24 X hr h0 ih y1 x3 R h
set_option maxHeartbeats 4000000 in
set_option maxRecDepth 100000 in
theorem ok_L_told {lo n : Nat} {a0 : Nat} {M : MM} {R : Int64} (h0 : tSS lo n a0) (h : f_L_told a0 M = some R) : MC yL_told cL_told 5 (some .long) 4 87 lo n [.ref a0] M (some (.long R)) M := by
  refine MC.of (ls0 := [(0, .ref a0)]) (by decide) rfl (fun _ => Nat.le_of_ble_eq_true rfl) (fun p l e s m args below meth c D dA ad A X hr => ?_)
  replace X : CX p s m args meth c cL_told 5 RL D dA ad lo n A := X
  unfold f_L_told at h
  refine AW.ldc2 (pc' := 3) X mk_L_50 dL_told_0 rfl ?_
  refine AW.lstore_n (ls' := [(1, .long (7)), (0, .ref a0)]) (pc' := 4) X rfl (by decide) rfl dL_told_3 rfl ?_
  refine AW.iconst (v := 0) (pc' := 5) X rfl dL_told_4 rfl ?_
  refine AW.istore_n (ls' := [(3, .int 0), (1, .long (7)), (0, .ref a0)]) (pc' := 6) X rfl (by decide) rfl dL_told_5 rfl ?_
  refine AW.sub (ls' := [(0, .ref a0), (1, .long (7)), (3, .int 0)]) [2, 1, 0] rfl ?_
  exact ok_L_told_6 X hr h0 FU 7 0 R h
set_option maxHeartbeats 4000000 in
set_option maxRecDepth 100000 in
theorem ok_L_foretells_183 {a0 : Nat} (X : CX p s m args meth c cL_foretells 15 RL D dA ad lo n A) (hr : meth.sig.returnType = (some .boolean)) (h0 : tSS lo n a0) {rec77 : Int32 → Int32 → Int32 → Int32 → Int32 → Int32 → Int64 → Int32 → Int32 → Int32 → Int32 → MM → Option (Bool × MM)} (hrec77 : ∀ (x1 : Int32) (x2 : Int32) (x3 : Int32) (x4 : Int32) (x5 : Int32) (x6 : Int32) (y7 : Int64) (x9 : Int32) (x10 : Int32) (x11 : Int32) (x12 : Int32) (M : MM) (R : (Bool × MM)), rec77 x1 x2 x3 x4 x5 x6 y7 x9 x10 x11 x12 M = some R → AR p l e 6 146 s m args below meth c D dA ad lo n 15 A (some (.int (bz R.1))) R.2 77 [(0, .ref a0), (1, .int x1), (2, .int x2), (3, .int x3), (4, .int x4), (5, .int x5), (6, .int x6), (7, .long (y7)), (9, .int x9), (10, .int x10), (11, .int x11), (12, .int x12)] [] M) : ∀ (x1 : Int32) (x2 : Int32) (x3 : Int32) (x4 : Int32) (x5 : Int32) (x6 : Int32) (y7 : Int64) (x9 : Int32) (x10 : Int32) (x12 : Int32) (s0 : Int32) (M : MM) (R : (Bool × MM)), f_L_foretells_183 a0 rec77 x1 x2 x3 x4 x5 x6 y7 x9 x10 x12 s0 M = some R → AR p l e 6 146 s m args below meth c D dA ad lo n 15 A (some (.int (bz R.1))) R.2 183 [(0, .ref a0), (1, .int x1), (2, .int x2), (3, .int x3), (4, .int x4), (5, .int x5), (6, .int x6), (7, .long (y7)), (9, .int x9), (10, .int x10), (12, .int x12)] [.int s0] M := by
  intro x1 x2 x3 x4 x5 x6 y7 x9 x10 x12 s0 M R h
  unfold f_L_foretells_183 at h
  refine AW.istore (ls' := [(11, .int s0), (0, .ref a0), (1, .int x1), (2, .int x2), (3, .int x3), (4, .int x4), (5, .int x5), (6, .int x6), (7, .long (y7)), (9, .int x9), (10, .int x10), (12, .int x12)]) (pc' := 185) X (by decide) rfl dL_foretells_183 rfl ?_
  refine AW.goto (pc' := 77) X dL_foretells_185 rfl ?_
  refine AW.sub (ls' := [(0, .ref a0), (1, .int x1), (2, .int x2), (3, .int x3), (4, .int x4), (5, .int x5), (6, .int x6), (7, .long (y7)), (9, .int x9), (10, .int x10), (11, .int s0), (12, .int x12)]) [1, 2, 3, 4, 5, 6, 7, 8, 9, 10, 0, 11] rfl ?_
  exact hrec77 x1 x2 x3 x4 x5 x6 y7 x9 x10 s0 x12 M R h
set_option maxHeartbeats 4000000 in
set_option maxRecDepth 100000 in
theorem ok_L_foretells_181 {a0 : Nat} (X : CX p s m args meth c cL_foretells 15 RL D dA ad lo n A) (hr : meth.sig.returnType = (some .boolean)) (h0 : tSS lo n a0) {rec77 : Int32 → Int32 → Int32 → Int32 → Int32 → Int32 → Int64 → Int32 → Int32 → Int32 → Int32 → MM → Option (Bool × MM)} (hrec77 : ∀ (x1 : Int32) (x2 : Int32) (x3 : Int32) (x4 : Int32) (x5 : Int32) (x6 : Int32) (y7 : Int64) (x9 : Int32) (x10 : Int32) (x11 : Int32) (x12 : Int32) (M : MM) (R : (Bool × MM)), rec77 x1 x2 x3 x4 x5 x6 y7 x9 x10 x11 x12 M = some R → AR p l e 6 146 s m args below meth c D dA ad lo n 15 A (some (.int (bz R.1))) R.2 77 [(0, .ref a0), (1, .int x1), (2, .int x2), (3, .int x3), (4, .int x4), (5, .int x5), (6, .int x6), (7, .long (y7)), (9, .int x9), (10, .int x10), (11, .int x11), (12, .int x12)] [] M) : ∀ (x1 : Int32) (x2 : Int32) (x3 : Int32) (x4 : Int32) (x5 : Int32) (x6 : Int32) (y7 : Int64) (x9 : Int32) (x10 : Int32) (x11 : Int32) (x12 : Int32) (M : MM) (R : (Bool × MM)), f_L_foretells_181 a0 rec77 x1 x2 x3 x4 x5 x6 y7 x9 x10 x11 x12 M = some R → AR p l e 6 146 s m args below meth c D dA ad lo n 15 A (some (.int (bz R.1))) R.2 181 [(0, .ref a0), (1, .int x1), (2, .int x2), (3, .int x3), (4, .int x4), (5, .int x5), (6, .int x6), (7, .long (y7)), (9, .int x9), (10, .int x10), (11, .int x11), (12, .int x12)] [] M := by
  intro x1 x2 x3 x4 x5 x6 y7 x9 x10 x11 x12 M R h
  unfold f_L_foretells_181 at h
  refine AW.iload (k0 := 10) (pc' := 183) X rfl dL_foretells_181 rfl ?_
  refine AW.sub (ls' := [(0, .ref a0), (1, .int x1), (2, .int x2), (3, .int x3), (4, .int x4), (5, .int x5), (6, .int x6), (7, .long (y7)), (9, .int x9), (10, .int x10), (12, .int x12)]) [0, 1, 2, 3, 4, 5, 6, 7, 8, 9, 11] rfl ?_
  exact ok_L_foretells_183 X hr h0 hrec77 x1 x2 x3 x4 x5 x6 y7 x9 x10 x12 x11 M R h
set_option maxHeartbeats 4000000 in
set_option maxRecDepth 100000 in
theorem ok_L_foretells_156 {a0 : Nat} (X : CX p s m args meth c cL_foretells 15 RL D dA ad lo n A) (hr : meth.sig.returnType = (some .boolean)) (h0 : tSS lo n a0) {rec77 : Int32 → Int32 → Int32 → Int32 → Int32 → Int32 → Int64 → Int32 → Int32 → Int32 → Int32 → MM → Option (Bool × MM)} (hrec77 : ∀ (x1 : Int32) (x2 : Int32) (x3 : Int32) (x4 : Int32) (x5 : Int32) (x6 : Int32) (y7 : Int64) (x9 : Int32) (x10 : Int32) (x11 : Int32) (x12 : Int32) (M : MM) (R : (Bool × MM)), rec77 x1 x2 x3 x4 x5 x6 y7 x9 x10 x11 x12 M = some R → AR p l e 6 146 s m args below meth c D dA ad lo n 15 A (some (.int (bz R.1))) R.2 77 [(0, .ref a0), (1, .int x1), (2, .int x2), (3, .int x3), (4, .int x4), (5, .int x5), (6, .int x6), (7, .long (y7)), (9, .int x9), (10, .int x10), (11, .int x11), (12, .int x12)] [] M) : ∀ (x1 : Int32) (x2 : Int32) (x3 : Int32) (x4 : Int32) (x5 : Int32) (x6 : Int32) (y7 : Int64) (x9 : Int32) (x11 : Int32) (x12 : Int32) (b13 : Bool) (s0 : Int32) (M : MM) (R : (Bool × MM)), f_L_foretells_156 a0 rec77 x1 x2 x3 x4 x5 x6 y7 x9 x11 x12 b13 s0 M = some R → AR p l e 6 146 s m args below meth c D dA ad lo n 15 A (some (.int (bz R.1))) R.2 156 [(0, .ref a0), (1, .int x1), (2, .int x2), (3, .int x3), (4, .int x4), (5, .int x5), (6, .int x6), (7, .long (y7)), (9, .int x9), (11, .int x11), (12, .int x12), (13, .int (bz b13))] [.int s0] M := by
  intro x1 x2 x3 x4 x5 x6 y7 x9 x11 x12 b13 s0 M R h
  unfold f_L_foretells_156 at h
  refine AW.istore (ls' := [(10, .int s0), (0, .ref a0), (1, .int x1), (2, .int x2), (3, .int x3), (4, .int x4), (5, .int x5), (6, .int x6), (7, .long (y7)), (9, .int x9), (11, .int x11), (12, .int x12), (13, .int (bz b13))]) (pc' := 158) X (by decide) rfl dL_foretells_156 rfl ?_
  refine AW.iload (k0 := 12) (pc' := 160) X rfl dL_foretells_158 rfl ?_
  refine AW.if_eq (pc' := 163) (tgt := 181) X dL_foretells_160 rfl rfl (fun q1 => ?_) (fun q1 => ?_)
  · replace h := itep q1 h
    refine AW.sub (ls' := [(0, .ref a0), (1, .int x1), (2, .int x2), (3, .int x3), (4, .int x4), (5, .int x5), (6, .int x6), (7, .long (y7)), (9, .int x9), (10, .int s0), (11, .int x11), (12, .int x12)]) [1, 2, 3, 4, 5, 6, 7, 8, 9, 0, 10, 11] rfl ?_
    exact ok_L_foretells_181 X hr h0 hrec77 x1 x2 x3 x4 x5 x6 y7 x9 s0 x11 x12 M R h
  · replace h := iten q1 h
    refine AW.aload_n (k0 := 1) (pc' := 164) X rfl rfl dL_foretells_163 rfl ?_
    refine AW.iconst (v := 0) (pc' := 165) X rfl dL_foretells_164 rfl ?_
    obtain ⟨v2, c2, h⟩ := Option.bind_eq_some_iff.mp h
    refine AW.callV (As := [.int 0]) (rest := []) (rv := (some (.int v2))) (M' := M) (pc' := 168) X (ok_X6_total h0 c2) yv_X6_total (h0).1.1 (h0).1.2.1 (cX h0 dA ad _) rfl rfl ml_L_8 ⟨by decide, by decide, by decide, by decide⟩ rfl (Nat.le_of_ble_eq_true rfl) rfl rfl dL_foretells_165 rfl ?_
    refine AW.iconst (v := 3) (pc' := 169) X rfl dL_foretells_168 rfl ?_
    refine AW.icmp_ne (pc' := 172) (tgt := 181) X dL_foretells_169 rfl rfl (fun q3 => ?_) (fun q3 => ?_)
    · replace h := iten q3 h
      refine AW.sub (ls' := [(0, .ref a0), (1, .int x1), (2, .int x2), (3, .int x3), (4, .int x4), (5, .int x5), (6, .int x6), (7, .long (y7)), (9, .int x9), (10, .int s0), (11, .int x11), (12, .int x12)]) [1, 2, 3, 4, 5, 6, 7, 8, 9, 0, 10, 11] rfl ?_
      exact ok_L_foretells_181 X hr h0 hrec77 x1 x2 x3 x4 x5 x6 y7 x9 s0 x11 x12 M R h
    · replace h := itep q3 h
      refine AW.aload_n (k0 := 1) (pc' := 173) X rfl rfl dL_foretells_172 rfl ?_
      refine AW.bipush (v := 9) (pc' := 175) X rfl dL_foretells_173 rfl ?_
      obtain ⟨v4, c4, h⟩ := Option.bind_eq_some_iff.mp h
      refine AW.callV (As := [.int 9]) (rest := []) (rv := (some (.int v4))) (M' := M) (pc' := 178) X (ok_X6_total h0 c4) yv_X6_total (h0).1.1 (h0).1.2.1 (cX h0 dA ad _) rfl rfl ml_L_8 ⟨by decide, by decide, by decide, by decide⟩ rfl (Nat.le_of_ble_eq_true rfl) rfl rfl dL_foretells_175 rfl ?_
      refine AW.goto (pc' := 183) X dL_foretells_178 rfl ?_
      refine AW.sub (ls' := [(0, .ref a0), (1, .int x1), (2, .int x2), (3, .int x3), (4, .int x4), (5, .int x5), (6, .int x6), (7, .long (y7)), (9, .int x9), (10, .int s0), (12, .int x12)]) [1, 2, 3, 4, 5, 6, 7, 8, 9, 0, 11] rfl ?_
      exact ok_L_foretells_183 X hr h0 hrec77 x1 x2 x3 x4 x5 x6 y7 x9 s0 x12 v4 M R h
set_option maxHeartbeats 4000000 in
set_option maxRecDepth 100000 in
theorem ok_L_foretells_154 {a0 : Nat} (X : CX p s m args meth c cL_foretells 15 RL D dA ad lo n A) (hr : meth.sig.returnType = (some .boolean)) (h0 : tSS lo n a0) {rec77 : Int32 → Int32 → Int32 → Int32 → Int32 → Int32 → Int64 → Int32 → Int32 → Int32 → Int32 → MM → Option (Bool × MM)} (hrec77 : ∀ (x1 : Int32) (x2 : Int32) (x3 : Int32) (x4 : Int32) (x5 : Int32) (x6 : Int32) (y7 : Int64) (x9 : Int32) (x10 : Int32) (x11 : Int32) (x12 : Int32) (M : MM) (R : (Bool × MM)), rec77 x1 x2 x3 x4 x5 x6 y7 x9 x10 x11 x12 M = some R → AR p l e 6 146 s m args below meth c D dA ad lo n 15 A (some (.int (bz R.1))) R.2 77 [(0, .ref a0), (1, .int x1), (2, .int x2), (3, .int x3), (4, .int x4), (5, .int x5), (6, .int x6), (7, .long (y7)), (9, .int x9), (10, .int x10), (11, .int x11), (12, .int x12)] [] M) : ∀ (x1 : Int32) (x2 : Int32) (x3 : Int32) (x4 : Int32) (x5 : Int32) (x6 : Int32) (y7 : Int64) (x9 : Int32) (x10 : Int32) (x11 : Int32) (x12 : Int32) (b13 : Bool) (M : MM) (R : (Bool × MM)), f_L_foretells_154 a0 rec77 x1 x2 x3 x4 x5 x6 y7 x9 x10 x11 x12 b13 M = some R → AR p l e 6 146 s m args below meth c D dA ad lo n 15 A (some (.int (bz R.1))) R.2 154 [(0, .ref a0), (1, .int x1), (2, .int x2), (3, .int x3), (4, .int x4), (5, .int x5), (6, .int x6), (7, .long (y7)), (9, .int x9), (10, .int x10), (11, .int x11), (12, .int x12), (13, .int (bz b13))] [] M := by
  intro x1 x2 x3 x4 x5 x6 y7 x9 x10 x11 x12 b13 M R h
  unfold f_L_foretells_154 at h
  refine AW.iload (k0 := 9) (pc' := 156) X rfl dL_foretells_154 rfl ?_
  refine AW.sub (ls' := [(0, .ref a0), (1, .int x1), (2, .int x2), (3, .int x3), (4, .int x4), (5, .int x5), (6, .int x6), (7, .long (y7)), (9, .int x9), (11, .int x11), (12, .int x12), (13, .int (bz b13))]) [0, 1, 2, 3, 4, 5, 6, 7, 8, 10, 11, 12] rfl ?_
  exact ok_L_foretells_156 X hr h0 hrec77 x1 x2 x3 x4 x5 x6 y7 x9 x11 x12 b13 x10 M R h
set_option maxHeartbeats 4000000 in
set_option maxRecDepth 100000 in
theorem ok_L_foretells_104 {a0 : Nat} (X : CX p s m args meth c cL_foretells 15 RL D dA ad lo n A) (hr : meth.sig.returnType = (some .boolean)) (h0 : tSS lo n a0) {rec77 : Int32 → Int32 → Int32 → Int32 → Int32 → Int32 → Int64 → Int32 → Int32 → Int32 → Int32 → MM → Option (Bool × MM)} (hrec77 : ∀ (x1 : Int32) (x2 : Int32) (x3 : Int32) (x4 : Int32) (x5 : Int32) (x6 : Int32) (y7 : Int64) (x9 : Int32) (x10 : Int32) (x11 : Int32) (x12 : Int32) (M : MM) (R : (Bool × MM)), rec77 x1 x2 x3 x4 x5 x6 y7 x9 x10 x11 x12 M = some R → AR p l e 6 146 s m args below meth c D dA ad lo n 15 A (some (.int (bz R.1))) R.2 77 [(0, .ref a0), (1, .int x1), (2, .int x2), (3, .int x3), (4, .int x4), (5, .int x5), (6, .int x6), (7, .long (y7)), (9, .int x9), (10, .int x10), (11, .int x11), (12, .int x12)] [] M) : ∀ (x1 : Int32) (x2 : Int32) (x3 : Int32) (x4 : Int32) (x5 : Int32) (x6 : Int32) (y7 : Int64) (x9 : Int32) (x10 : Int32) (x11 : Int32) (x12 : Int32) (sb0 : Bool) (M : MM) (R : (Bool × MM)), f_L_foretells_104 a0 rec77 x1 x2 x3 x4 x5 x6 y7 x9 x10 x11 x12 sb0 M = some R → AR p l e 6 146 s m args below meth c D dA ad lo n 15 A (some (.int (bz R.1))) R.2 104 [(0, .ref a0), (1, .int x1), (2, .int x2), (3, .int x3), (4, .int x4), (5, .int x5), (6, .int x6), (7, .long (y7)), (9, .int x9), (10, .int x10), (11, .int x11), (12, .int x12)] [.int (bz sb0)] M := by
  intro x1 x2 x3 x4 x5 x6 y7 x9 x10 x11 x12 sb0 M R h
  unfold f_L_foretells_104 at h
  refine AW.istore (ls' := [(13, .int (bz sb0)), (0, .ref a0), (1, .int x1), (2, .int x2), (3, .int x3), (4, .int x4), (5, .int x5), (6, .int x6), (7, .long (y7)), (9, .int x9), (10, .int x10), (11, .int x11), (12, .int x12)]) (pc' := 106) X (by decide) rfl dL_foretells_104 rfl ?_
  refine AW.aload_n (k0 := 1) (pc' := 107) X rfl rfl dL_foretells_106 rfl ?_
  refine AW.iconst (v := 1) (pc' := 108) X rfl dL_foretells_107 rfl ?_
  obtain ⟨v1, c1, h⟩ := Option.bind_eq_some_iff.mp h
  refine AW.callV (As := [.int 1]) (rest := []) (rv := (some (.int v1))) (M' := M) (pc' := 111) X (ok_X6_total h0 c1) yv_X6_total (h0).1.1 (h0).1.2.1 (cX h0 dA ad _) rfl rfl ml_L_8 ⟨by decide, by decide, by decide, by decide⟩ rfl (Nat.le_of_ble_eq_true rfl) rfl rfl dL_foretells_108 rfl ?_
  refine AW.istore (ls' := [(14, .int v1), (13, .int (bz sb0)), (0, .ref a0), (1, .int x1), (2, .int x2), (3, .int x3), (4, .int x4), (5, .int x5), (6, .int x6), (7, .long (y7)), (9, .int x9), (10, .int x10), (11, .int x11), (12, .int x12)]) (pc' := 113) X (by decide) rfl dL_foretells_111 rfl ?_
  refine AW.aload_n (k0 := 2) (pc' := 114) X rfl rfl dL_foretells_113 rfl ?_
  refine AW.iconst (v := 1) (pc' := 115) X rfl dL_foretells_114 rfl ?_
  obtain ⟨v2, c2, h⟩ := Option.bind_eq_some_iff.mp h
  refine AW.callV (As := [.int 1]) (rest := []) (rv := (some (.int v2.1))) (M' := v2.2) (pc' := 118) X (ok_X6_step h0 c2) yv_X6_step (h0).1.1 (h0).1.2.1 (cX h0 dA ad _) rfl rfl ml_L_76 ⟨by decide, by decide, by decide, by decide⟩ rfl (Nat.le_of_ble_eq_true rfl) rfl rfl dL_foretells_115 rfl ?_
  refine AW.iconst (v := 1) (pc' := 119) X rfl dL_foretells_118 rfl ?_
  refine AW.icmp_eq (pc' := 122) (tgt := 124) X dL_foretells_119 rfl rfl (fun q3 => ?_) (fun q3 => ?_)
  · replace h := itep q3 h
    refine AW.iinc (k0 := 13) (v := (x12 + 1)) (y := 1) (ls' := [(12, .int (x12 + 1)), (14, .int v1), (13, .int (bz sb0)), (0, .ref a0), (1, .int x1), (2, .int x2), (3, .int x3), (4, .int x4), (5, .int x5), (6, .int x6), (7, .long (y7)), (9, .int x9), (10, .int x10), (11, .int x11)]) (pc' := 127) X rfl rfl rfl (by decide) rfl dL_foretells_124 rfl ?_
    refine AW.iload (k0 := 2) (pc' := 129) X rfl dL_foretells_127 rfl ?_
    refine AW.if_eq (pc' := 132) (tgt := 154) X dL_foretells_129 rfl rfl (fun q4 => ?_) (fun q4 => ?_)
    · replace h := itep q4 h
      refine AW.sub (ls' := [(0, .ref a0), (1, .int x1), (2, .int x2), (3, .int x3), (4, .int x4), (5, .int x5), (6, .int x6), (7, .long (y7)), (9, .int x9), (10, .int x10), (11, .int x11), (12, .int (x12 + 1)), (13, .int (bz sb0))]) [3, 4, 5, 6, 7, 8, 9, 10, 11, 12, 13, 0, 2] rfl ?_
      exact ok_L_foretells_154 X hr h0 hrec77 x1 x2 x3 x4 x5 x6 y7 x9 x10 x11 (x12 + 1) sb0 v2.2 R h
    · replace h := iten q4 h
      refine AW.aload_n (k0 := 3) (pc' := 133) X rfl rfl dL_foretells_132 rfl ?_
      refine AW.iload (k0 := 1) (pc' := 135) X rfl dL_foretells_133 rfl ?_
      refine AW.iload_n (k0 := 5) (pc' := 136) X rfl rfl dL_foretells_135 rfl ?_
      obtain ⟨v5, c5, h⟩ := Option.bind_eq_some_iff.mp h
      refine AW.callV (As := [.int v1, .int x2]) (rest := []) (rv := (some (.int v5))) (M' := v2.2) (pc' := 139) X (ok_X6_level h0 c5) yv_X6_level (h0).1.1 (h0).1.2.1 (cX h0 dA ad _) rfl rfl ml_L_54 ⟨by decide, by decide, by decide, by decide⟩ rfl (Nat.le_of_ble_eq_true rfl) rfl rfl dL_foretells_136 rfl ?_
      refine AW.iload (k0 := 12) (pc' := 141) X rfl dL_foretells_139 rfl ?_
      refine AW.icmp_le (pc' := 144) (tgt := 154) X dL_foretells_141 rfl rfl (fun q6 => ?_) (fun q6 => ?_)
      · replace h := itep q6 h
        refine AW.sub (ls' := [(0, .ref a0), (1, .int x1), (2, .int x2), (3, .int x3), (4, .int x4), (5, .int x5), (6, .int x6), (7, .long (y7)), (9, .int x9), (10, .int x10), (11, .int x11), (12, .int (x12 + 1)), (13, .int (bz sb0))]) [3, 4, 5, 6, 7, 8, 9, 10, 11, 12, 13, 0, 2] rfl ?_
        exact ok_L_foretells_154 X hr h0 hrec77 x1 x2 x3 x4 x5 x6 y7 x9 x10 x11 (x12 + 1) sb0 v2.2 R h
      · replace h := iten q6 h
        refine AW.aload_n (k0 := 3) (pc' := 145) X rfl rfl dL_foretells_144 rfl ?_
        refine AW.iload (k0 := 1) (pc' := 147) X rfl dL_foretells_145 rfl ?_
        refine AW.iload_n (k0 := 5) (pc' := 148) X rfl rfl dL_foretells_147 rfl ?_
        obtain ⟨v7, c7, h⟩ := Option.bind_eq_some_iff.mp h
        refine AW.callV (As := [.int v1, .int x2]) (rest := []) (rv := (some (.int v7))) (M' := v2.2) (pc' := 151) X (ok_X6_level h0 c7) yv_X6_level (h0).1.1 (h0).1.2.1 (cX h0 dA ad _) rfl rfl ml_L_54 ⟨by decide, by decide, by decide, by decide⟩ rfl (Nat.le_of_ble_eq_true rfl) rfl rfl dL_foretells_148 rfl ?_
        refine AW.goto (pc' := 156) X dL_foretells_151 rfl ?_
        refine AW.sub (ls' := [(0, .ref a0), (1, .int x1), (2, .int x2), (3, .int x3), (4, .int x4), (5, .int x5), (6, .int x6), (7, .long (y7)), (9, .int x9), (11, .int x11), (12, .int (x12 + 1)), (13, .int (bz sb0))]) [3, 4, 5, 6, 7, 8, 9, 10, 11, 13, 0, 2] rfl ?_
        exact ok_L_foretells_156 X hr h0 hrec77 x1 x2 x3 x4 x5 x6 y7 x9 x11 (x12 + 1) sb0 v7 v2.2 R h
  · replace h := iten q3 h
    refine AW.iconst (v := 0) (pc' := 123) X rfl dL_foretells_122 rfl ?_
    replace h := Option.some.inj h
    subst h
    exact AW.zret (b := false) X hr dL_foretells_123
set_option maxHeartbeats 4000000 in
set_option maxRecDepth 100000 in
theorem ok_L_foretells_247 {a0 : Nat} (X : CX p s m args meth c cL_foretells 15 RL D dA ad lo n A) (hr : meth.sig.returnType = (some .boolean)) (h0 : tSS lo n a0) : ∀ (M : MM) (R : (Bool × MM)), f_L_foretells_247 a0 M = some R → AR p l e 6 146 s m args below meth c D dA ad lo n 15 A (some (.int (bz R.1))) R.2 247 [] [] M := by
  intro M R h
  unfold f_L_foretells_247 at h
  refine AW.iconst (v := 0) (pc' := 248) X rfl dL_foretells_247 rfl ?_
  replace h := Option.some.inj h
  subst h
  exact AW.zret (b := false) X hr dL_foretells_248
set_option maxHeartbeats 4000000 in
set_option maxRecDepth 100000 in
theorem ok_L_foretells_274 {a0 : Nat} (X : CX p s m args meth c cL_foretells 15 RL D dA ad lo n A) (hr : meth.sig.returnType = (some .boolean)) (h0 : tSS lo n a0) : ∀ (sb0 : Bool) (M : MM) (R : (Bool × MM)), f_L_foretells_274 a0 sb0 M = some R → AR p l e 6 146 s m args below meth c D dA ad lo n 15 A (some (.int (bz R.1))) R.2 274 [] [.int (bz sb0)] M := by
  intro sb0 M R h
  unfold f_L_foretells_274 at h
  replace h := Option.some.inj h
  subst h
  exact AW.zret (b := sb0) X hr dL_foretells_274
set_option maxHeartbeats 4000000 in
set_option maxRecDepth 100000 in
theorem ok_L_foretells_273 {a0 : Nat} (X : CX p s m args meth c cL_foretells 15 RL D dA ad lo n A) (hr : meth.sig.returnType = (some .boolean)) (h0 : tSS lo n a0) : ∀ (M : MM) (R : (Bool × MM)), f_L_foretells_273 a0 M = some R → AR p l e 6 146 s m args below meth c D dA ad lo n 15 A (some (.int (bz R.1))) R.2 273 [] [] M := by
  intro M R h
  unfold f_L_foretells_273 at h
  refine AW.iconst (v := 0) (pc' := 274) X rfl dL_foretells_273 rfl ?_
  exact ok_L_foretells_274 X hr h0 false M R h
set_option maxHeartbeats 4000000 in
set_option maxRecDepth 100000 in
theorem ok_L_foretells_249 {a0 : Nat} (X : CX p s m args meth c cL_foretells 15 RL D dA ad lo n A) (hr : meth.sig.returnType = (some .boolean)) (h0 : tSS lo n a0) : ∀ (y7 : Int64) (x9 : Int32) (M : MM) (R : (Bool × MM)), f_L_foretells_249 a0 y7 x9 M = some R → AR p l e 6 146 s m args below meth c D dA ad lo n 15 A (some (.int (bz R.1))) R.2 249 [(0, .ref a0), (7, .long (y7)), (9, .int x9)] [] M := by
  intro y7 x9 M R h
  unfold f_L_foretells_249 at h
  refine AW.aload_n (k0 := 0) (pc' := 250) X rfl rfl dL_foretells_249 rfl ?_
  refine AW.iconst (v := 1) (pc' := 251) X rfl dL_foretells_250 rfl ?_
  obtain ⟨v1, c1, h⟩ := Option.bind_eq_some_iff.mp h
  refine AW.callV (As := [.int 1]) (rest := []) (rv := (some (.int v1.1))) (M' := v1.2) (pc' := 254) X (ok_X6_restore h0 c1) yv_X6_restore (h0).1.1 (h0).1.2.1 (cX h0 dA ad _) rfl rfl ml_L_79 ⟨by decide, by decide, by decide, by decide⟩ rfl (Nat.le_of_ble_eq_true rfl) rfl rfl dL_foretells_251 rfl ?_
  refine AW.iload (k0 := 2) (pc' := 256) X rfl dL_foretells_254 rfl ?_
  refine AW.icmp_ne (pc' := 259) (tgt := 273) X dL_foretells_256 rfl rfl (fun q2 => ?_) (fun q2 => ?_)
  · replace h := iten q2 h
    refine AW.sub (ls' := []) [] rfl ?_
    exact ok_L_foretells_273 X hr h0 v1.2 R h
  · replace h := itep q2 h
    refine AW.aload_n (k0 := 0) (pc' := 260) X rfl rfl dL_foretells_259 rfl ?_
    obtain ⟨v3, c3, h⟩ := Option.bind_eq_some_iff.mp h
    refine AW.callS (As := [.ref a0]) (rest := []) (rv := (some (.long v3))) (M' := v1.2) (pc' := 263) X (ok_L_told h0 c3) yv_L_told ml_L_69 ⟨by decide, by decide, by decide, by decide⟩ rfl (Nat.le_of_ble_eq_true rfl) rfl rfl dL_foretells_260 rfl ?_
    refine AW.lload (k0 := 1) (pc' := 265) X rfl dL_foretells_263 rfl ?_
    refine AW.lcmp (pc' := 266) X dL_foretells_265 rfl ?_
    refine AW.if_ne (pc' := 269) (tgt := 273) X dL_foretells_266 rfl rfl (fun q4 => ?_) (fun q4 => ?_)
    · replace h := iten q4 h
      refine AW.sub (ls' := []) [] rfl ?_
      exact ok_L_foretells_273 X hr h0 v1.2 R h
    · replace h := itep q4 h
      refine AW.iconst (v := 1) (pc' := 270) X rfl dL_foretells_269 rfl ?_
      refine AW.goto (pc' := 274) X dL_foretells_270 rfl ?_
      refine AW.sub (ls' := []) [] rfl ?_
      exact ok_L_foretells_274 X hr h0 true v1.2 R h
set_option maxHeartbeats 4000000 in
set_option maxRecDepth 100000 in
theorem ok_L_foretells_229 {a0 : Nat} (X : CX p s m args meth c cL_foretells 15 RL D dA ad lo n A) (hr : meth.sig.returnType = (some .boolean)) (h0 : tSS lo n a0) : ∀ (x1 : Int32) (x3 : Int32) (y7 : Int64) (x9 : Int32) (M : MM) (R : (Bool × MM)), f_L_foretells_229 a0 x1 x3 y7 x9 M = some R → AR p l e 6 146 s m args below meth c D dA ad lo n 15 A (some (.int (bz R.1))) R.2 229 [(0, .ref a0), (1, .int x1), (3, .int x3), (7, .long (y7)), (9, .int x9)] [] M := by
  intro x1 x3 y7 x9 M R h
  unfold f_L_foretells_229 at h
  refine AW.iload_n (k0 := 2) (pc' := 230) X rfl rfl dL_foretells_229 rfl ?_
  refine AW.bipush (v := (-6)) (pc' := 232) X rfl dL_foretells_230 rfl ?_
  refine AW.icmp_eq (pc' := 235) (tgt := 249) X dL_foretells_232 rfl rfl (fun q1 => ?_) (fun q1 => ?_)
  · replace h := itep q1 h
    refine AW.sub (ls' := [(0, .ref a0), (7, .long (y7)), (9, .int x9)]) [0, 3, 4] rfl ?_
    exact ok_L_foretells_249 X hr h0 y7 x9 M R h
  · replace h := iten q1 h
    refine AW.iload_n (k0 := 2) (pc' := 236) X rfl rfl dL_foretells_235 rfl ?_
    refine AW.iload_n (k0 := 1) (pc' := 237) X rfl rfl dL_foretells_236 rfl ?_
    refine AW.icmp_gt (pc' := 240) (tgt := 249) X dL_foretells_237 rfl rfl (fun q2 => ?_) (fun q2 => ?_)
    · replace h := itep q2 h
      refine AW.sub (ls' := [(0, .ref a0), (7, .long (y7)), (9, .int x9)]) [0, 3, 4] rfl ?_
      exact ok_L_foretells_249 X hr h0 y7 x9 M R h
    · replace h := iten q2 h
      refine AW.aload_n (k0 := 0) (pc' := 241) X rfl rfl dL_foretells_240 rfl ?_
      obtain ⟨v3, c3, h⟩ := Option.bind_eq_some_iff.mp h
      refine AW.callS (As := [.ref a0]) (rest := []) (rv := (some (.int (bz v3)))) (M' := M) (pc' := 244) X (ok_L_rests h0 c3) yv_L_rests ml_L_15 ⟨by decide, by decide, by decide, by decide⟩ rfl (Nat.le_of_ble_eq_true rfl) rfl rfl dL_foretells_241 rfl ?_
      refine AW.if_ne (pc' := 247) (tgt := 249) X dL_foretells_244 rfl rfl (fun q4 => ?_) (fun q4 => ?_)
      · replace h := iten q4 h
        refine AW.sub (ls' := [(0, .ref a0), (7, .long (y7)), (9, .int x9)]) [0, 3, 4] rfl ?_
        exact ok_L_foretells_249 X hr h0 y7 x9 M R h
      · replace h := itep q4 h
        refine AW.sub (ls' := []) [] rfl ?_
        exact ok_L_foretells_247 X hr h0 M R h
set_option maxHeartbeats 4000000 in
set_option maxRecDepth 100000 in
theorem ok_L_foretells_188 {a0 : Nat} (X : CX p s m args meth c cL_foretells 15 RL D dA ad lo n A) (hr : meth.sig.returnType = (some .boolean)) (h0 : tSS lo n a0) : ∀ (x1 : Int32) (x3 : Int32) (x4 : Int32) (x5 : Int32) (x6 : Int32) (y7 : Int64) (x9 : Int32) (x10 : Int32) (x11 : Int32) (x12 : Int32) (M : MM) (R : (Bool × MM)), f_L_foretells_188 a0 x1 x3 x4 x5 x6 y7 x9 x10 x11 x12 M = some R → AR p l e 6 146 s m args below meth c D dA ad lo n 15 A (some (.int (bz R.1))) R.2 188 [(0, .ref a0), (1, .int x1), (3, .int x3), (4, .int x4), (5, .int x5), (6, .int x6), (7, .long (y7)), (9, .int x9), (10, .int x10), (11, .int x11), (12, .int x12)] [] M := by
  intro x1 x3 x4 x5 x6 y7 x9 x10 x11 x12 M R h
  unfold f_L_foretells_188 at h
  refine AW.aload_n (k0 := 0) (pc' := 189) X rfl rfl dL_foretells_188 rfl ?_
  refine AW.bipush (v := 8) (pc' := 191) X rfl dL_foretells_189 rfl ?_
  obtain ⟨v1, c1, h⟩ := Option.bind_eq_some_iff.mp h
  refine AW.callV (As := [.int 8]) (rest := []) (rv := (some (.int v1))) (M' := M) (pc' := 194) X (ok_X6_total h0 c1) yv_X6_total (h0).1.1 (h0).1.2.1 (cX h0 dA ad _) rfl rfl ml_L_8 ⟨by decide, by decide, by decide, by decide⟩ rfl (Nat.le_of_ble_eq_true rfl) rfl rfl dL_foretells_191 rfl ?_
  refine AW.iload (k0 := 5) (pc' := 196) X rfl dL_foretells_194 rfl ?_
  refine AW.iload (k0 := 10) (pc' := 198) X rfl dL_foretells_196 rfl ?_
  refine AW.iadd (pc' := 199) X dL_foretells_198 rfl ?_
  refine AW.icmp_ne (pc' := 202) (tgt := 247) X dL_foretells_199 rfl rfl (fun q2 => ?_) (fun q2 => ?_)
  · replace h := iten q2 h
    refine AW.sub (ls' := []) [] rfl ?_
    exact ok_L_foretells_247 X hr h0 M R h
  · replace h := itep q2 h
    refine AW.iload (k0 := 8) (pc' := 204) X rfl dL_foretells_202 rfl ?_
    refine AW.iload (k0 := 4) (pc' := 206) X rfl dL_foretells_204 rfl ?_
    refine AW.icmp_ne (pc' := 209) (tgt := 247) X dL_foretells_206 rfl rfl (fun q3 => ?_) (fun q3 => ?_)
    · replace h := iten q3 h
      refine AW.sub (ls' := []) [] rfl ?_
      exact ok_L_foretells_247 X hr h0 M R h
    · replace h := itep q3 h
      refine AW.iload (k0 := 9) (pc' := 211) X rfl dL_foretells_209 rfl ?_
      refine AW.iload (k0 := 3) (pc' := 213) X rfl dL_foretells_211 rfl ?_
      refine AW.icmp_ne (pc' := 216) (tgt := 247) X dL_foretells_213 rfl rfl (fun q4 => ?_) (fun q4 => ?_)
      · replace h := iten q4 h
        refine AW.sub (ls' := []) [] rfl ?_
        exact ok_L_foretells_247 X hr h0 M R h
      · replace h := itep q4 h
        refine AW.aload_n (k0 := 0) (pc' := 217) X rfl rfl dL_foretells_216 rfl ?_
        obtain ⟨v5, c5, h⟩ := Option.bind_eq_some_iff.mp h
        refine AW.callS (As := [.ref a0]) (rest := []) (rv := (some (.int (bz v5)))) (M' := M) (pc' := 220) X (ok_L_rests h0 c5) yv_L_rests ml_L_15 ⟨by decide, by decide, by decide, by decide⟩ rfl (Nat.le_of_ble_eq_true rfl) rfl rfl dL_foretells_217 rfl ?_
        refine AW.if_eq (pc' := 223) (tgt := 229) X dL_foretells_220 rfl rfl (fun q6 => ?_) (fun q6 => ?_)
        · replace h := itep q6 h
          refine AW.sub (ls' := [(0, .ref a0), (1, .int x1), (3, .int x3), (7, .long (y7)), (9, .int x9)]) [0, 1, 2, 6, 7] rfl ?_
          exact ok_L_foretells_229 X hr h0 x1 x3 y7 x9 M R h
        · replace h := iten q6 h
          refine AW.iload (k0 := 10) (pc' := 225) X rfl dL_foretells_223 rfl ?_
          refine AW.iload_n (k0 := 2) (pc' := 226) X rfl rfl dL_foretells_225 rfl ?_
          refine AW.icmp_ne (pc' := 229) (tgt := 247) X dL_foretells_226 rfl rfl (fun q7 => ?_) (fun q7 => ?_)
          · replace h := iten q7 h
            refine AW.sub (ls' := []) [] rfl ?_
            exact ok_L_foretells_247 X hr h0 M R h
          · replace h := itep q7 h
            refine AW.sub (ls' := [(0, .ref a0), (1, .int x1), (3, .int x3), (7, .long (y7)), (9, .int x9)]) [0, 1, 2, 6, 7] rfl ?_
            exact ok_L_foretells_229 X hr h0 x1 x3 y7 x9 M R h
set_option maxHeartbeats 4000000 in
set_option maxRecDepth 100000 in
theorem ok_L_foretells_77 {a0 : Nat} (X : CX p s m args meth c cL_foretells 15 RL D dA ad lo n A) (hr : meth.sig.returnType = (some .boolean)) (h0 : tSS lo n a0) : ∀ (k : Nat) (x1 : Int32) (x2 : Int32) (x3 : Int32) (x4 : Int32) (x5 : Int32) (x6 : Int32) (y7 : Int64) (x9 : Int32) (x10 : Int32) (x11 : Int32) (x12 : Int32) (M : MM) (R : (Bool × MM)), f_L_foretells_77 a0 k x1 x2 x3 x4 x5 x6 y7 x9 x10 x11 x12 M = some R → AR p l e 6 146 s m args below meth c D dA ad lo n 15 A (some (.int (bz R.1))) R.2 77 [(0, .ref a0), (1, .int x1), (2, .int x2), (3, .int x3), (4, .int x4), (5, .int x5), (6, .int x6), (7, .long (y7)), (9, .int x9), (10, .int x10), (11, .int x11), (12, .int x12)] [] M := by
  intro k
  induction k with
  | zero => intro _ _ _ _ _ _ _ _ _ _ _ _ R h; exact none_some h
  | succ k ih =>
    intro x1 x2 x3 x4 x5 x6 y7 x9 x10 x11 x12 M R h
    unfold f_L_foretells_77 at h
    refine AW.iload (k0 := 11) (pc' := 79) X rfl dL_foretells_77 rfl ?_
    refine AW.iload_n (k0 := 1) (pc' := 80) X rfl rfl dL_foretells_79 rfl ?_
    refine AW.icmp_ge (pc' := 83) (tgt := 188) X dL_foretells_80 rfl rfl (fun q1 => ?_) (fun q1 => ?_)
    · replace h := itep q1 h
      refine AW.sub (ls' := [(0, .ref a0), (1, .int x1), (3, .int x3), (4, .int x4), (5, .int x5), (6, .int x6), (7, .long (y7)), (9, .int x9), (10, .int x10), (11, .int x11), (12, .int x12)]) [0, 1, 3, 4, 5, 6, 7, 8, 9, 10, 11] rfl ?_
      exact ok_L_foretells_188 X hr h0 x1 x3 x4 x5 x6 y7 x9 x10 x11 x12 M R h
    · replace h := iten q1 h
      refine AW.aload_n (k0 := 0) (pc' := 84) X rfl rfl dL_foretells_83 rfl ?_
      obtain ⟨v2, c2, h⟩ := Option.bind_eq_some_iff.mp h
      refine AW.callS (As := [.ref a0]) (rest := []) (rv := (some (.int (bz v2)))) (M' := M) (pc' := 87) X (ok_L_rests h0 c2) yv_L_rests ml_L_15 ⟨by decide, by decide, by decide, by decide⟩ rfl (Nat.le_of_ble_eq_true rfl) rfl rfl dL_foretells_84 rfl ?_
      refine AW.if_ne (pc' := 90) (tgt := 188) X dL_foretells_87 rfl rfl (fun q3 => ?_) (fun q3 => ?_)
      · replace h := iten q3 h
        refine AW.sub (ls' := [(0, .ref a0), (1, .int x1), (3, .int x3), (4, .int x4), (5, .int x5), (6, .int x6), (7, .long (y7)), (9, .int x9), (10, .int x10), (11, .int x11), (12, .int x12)]) [0, 1, 3, 4, 5, 6, 7, 8, 9, 10, 11] rfl ?_
        exact ok_L_foretells_188 X hr h0 x1 x3 x4 x5 x6 y7 x9 x10 x11 x12 M R h
      · replace h := itep q3 h
        refine AW.aload_n (k0 := 0) (pc' := 91) X rfl rfl dL_foretells_90 rfl ?_
        refine AW.iconst (v := 0) (pc' := 92) X rfl dL_foretells_91 rfl ?_
        obtain ⟨v4, c4, h⟩ := Option.bind_eq_some_iff.mp h
        refine AW.callV (As := [.int 0]) (rest := []) (rv := (some (.int v4))) (M' := M) (pc' := 95) X (ok_X6_total h0 c4) yv_X6_total (h0).1.1 (h0).1.2.1 (cX h0 dA ad _) rfl rfl ml_L_8 ⟨by decide, by decide, by decide, by decide⟩ rfl (Nat.le_of_ble_eq_true rfl) rfl rfl dL_foretells_92 rfl ?_
        refine AW.iconst (v := 3) (pc' := 96) X rfl dL_foretells_95 rfl ?_
        refine AW.icmp_eq (pc' := 99) (tgt := 103) X dL_foretells_96 rfl rfl (fun q5 => ?_) (fun q5 => ?_)
        · replace h := itep q5 h
          refine AW.iconst (v := 0) (pc' := 104) X rfl dL_foretells_103 rfl ?_
          exact ok_L_foretells_104 X hr h0 ih x1 x2 x3 x4 x5 x6 y7 x9 x10 x11 x12 false M R h
        · replace h := iten q5 h
          refine AW.iconst (v := 1) (pc' := 100) X rfl dL_foretells_99 rfl ?_
          refine AW.goto (pc' := 104) X dL_foretells_100 rfl ?_
          exact ok_L_foretells_104 X hr h0 ih x1 x2 x3 x4 x5 x6 y7 x9 x10 x11 x12 true M R h
set_option maxHeartbeats 4000000 in
set_option maxRecDepth 100000 in
theorem ok_L_foretells {lo n : Nat} {a0 : Nat} {x1 : Int32} {M : MM} {R : (Bool × MM)} (h0 : tSS lo n a0) (h : f_L_foretells a0 x1 M = some R) : MC yL_foretells cL_foretells 15 (some .boolean) 6 146 lo n [.ref a0, .int x1] M (some (.int (bz R.1))) R.2 := by
  refine MC.of (ls0 := [(0, .ref a0), (1, .int x1)]) (by decide) rfl (fun _ => Nat.le_of_ble_eq_true rfl) (fun p l e s m args below meth c D dA ad A X hr => ?_)
  replace X : CX p s m args meth c cL_foretells 15 RL D dA ad lo n A := X
  unfold f_L_foretells at h
  refine AW.iload_n (k0 := 1) (pc' := 1) X rfl rfl dL_foretells_0 rfl ?_
  refine AW.aload_n (k0 := 0) (pc' := 2) X rfl rfl dL_foretells_1 rfl ?_
  refine AW.iconst (v := 5) (pc' := 3) X rfl dL_foretells_2 rfl ?_
  obtain ⟨v1, c1, h⟩ := Option.bind_eq_some_iff.mp h
  refine AW.callV (As := [.int 5]) (rest := [.int x1]) (rv := (some (.int v1))) (M' := M) (pc' := 6) X (ok_X6_total h0 c1) yv_X6_total (h0).1.1 (h0).1.2.1 (cX h0 dA ad _) rfl rfl ml_L_8 ⟨by decide, by decide, by decide, by decide⟩ rfl (Nat.le_of_ble_eq_true rfl) rfl rfl dL_foretells_3 rfl ?_
  obtain ⟨v2, c2, h⟩ := Option.bind_eq_some_iff.mp h
  refine AW.callS (As := [.int x1, .int v1]) (rest := []) (rv := (some (.int v2))) (M' := M) (pc' := 9) X (ok_L_low c2) yv_L_low ml_L_60 ⟨by decide, by decide, by decide, by decide⟩ rfl (Nat.le_of_ble_eq_true rfl) rfl rfl dL_foretells_6 rfl ?_
  refine AW.istore_n (ls' := [(2, .int v2), (0, .ref a0), (1, .int x1)]) (pc' := 10) X rfl (by decide) rfl dL_foretells_9 rfl ?_
  refine AW.aload_n (k0 := 1) (pc' := 11) X rfl rfl dL_foretells_10 rfl ?_
  obtain ⟨v3, c3, h⟩ := Option.bind_eq_some_iff.mp h
  refine AW.callV (As := []) (rest := []) (rv := (some (.int v3.1))) (M' := v3.2) (pc' := 14) X (ok_X6_loopsLeft h0 c3) yv_X6_loopsLeft (h0).1.1 (h0).1.2.1 (cX h0 dA ad _) rfl rfl ml_L_21 ⟨by decide, by decide, by decide, by decide⟩ rfl (Nat.le_of_ble_eq_true rfl) rfl rfl dL_foretells_11 rfl ?_
  refine AW.istore_n (ls' := [(3, .int (v3.1)), (2, .int v2), (0, .ref a0), (1, .int x1)]) (pc' := 15) X rfl (by decide) rfl dL_foretells_14 rfl ?_
  refine AW.aload_n (k0 := 2) (pc' := 16) X rfl rfl dL_foretells_15 rfl ?_
  refine AW.iload_n (k0 := 3) (pc' := 17) X rfl rfl dL_foretells_16 rfl ?_
  obtain ⟨v4, c4, h⟩ := Option.bind_eq_some_iff.mp h
  refine AW.callV (As := [.int x1]) (rest := []) (rv := (some (.int v4.1))) (M' := v4.2) (pc' := 20) X (ok_X6_wouldAbort h0 c4) yv_X6_wouldAbort (h0).1.1 (h0).1.2.1 (cX h0 dA ad _) rfl rfl ml_L_63 ⟨by decide, by decide, by decide, by decide⟩ rfl (Nat.le_of_ble_eq_true rfl) rfl rfl dL_foretells_17 rfl ?_
  refine AW.istore (ls' := [(4, .int (v4.1)), (3, .int (v3.1)), (2, .int v2), (0, .ref a0), (1, .int x1)]) (pc' := 22) X (by decide) rfl dL_foretells_20 rfl ?_
  refine AW.aload_n (k0 := 3) (pc' := 23) X rfl rfl dL_foretells_22 rfl ?_
  refine AW.iload_n (k0 := 2) (pc' := 24) X rfl rfl dL_foretells_23 rfl ?_
  refine AW.iload_n (k0 := 4) (pc' := 25) X rfl rfl dL_foretells_24 rfl ?_
  obtain ⟨v5, c5, h⟩ := Option.bind_eq_some_iff.mp h
  refine AW.callV (As := [.int v2, .int x1]) (rest := []) (rv := (some (.int v5.1))) (M' := v5.2) (pc' := 28) X (ok_X6_highest h0 c5) yv_X6_highest (h0).1.1 (h0).1.2.1 (cX h0 dA ad _) rfl rfl ml_L_66 ⟨by decide, by decide, by decide, by decide⟩ rfl (Nat.le_of_ble_eq_true rfl) rfl rfl dL_foretells_25 rfl ?_
  refine AW.istore (ls' := [(5, .int (v5.1)), (4, .int (v4.1)), (3, .int (v3.1)), (2, .int v2), (0, .ref a0), (1, .int x1)]) (pc' := 30) X (by decide) rfl dL_foretells_28 rfl ?_
  refine AW.aload_n (k0 := 4) (pc' := 31) X rfl rfl dL_foretells_30 rfl ?_
  refine AW.bipush (v := 8) (pc' := 33) X rfl dL_foretells_31 rfl ?_
  obtain ⟨v6, c6, h⟩ := Option.bind_eq_some_iff.mp h
  refine AW.callV (As := [.int 8]) (rest := []) (rv := (some (.int v6))) (M' := v5.2) (pc' := 36) X (ok_X6_total h0 c6) yv_X6_total (h0).1.1 (h0).1.2.1 (cX h0 dA ad _) rfl rfl ml_L_8 ⟨by decide, by decide, by decide, by decide⟩ rfl (Nat.le_of_ble_eq_true rfl) rfl rfl dL_foretells_33 rfl ?_
  refine AW.istore (ls' := [(6, .int v6), (5, .int (v5.1)), (4, .int (v4.1)), (3, .int (v3.1)), (2, .int v2), (0, .ref a0), (1, .int x1)]) (pc' := 38) X (by decide) rfl dL_foretells_36 rfl ?_
  refine AW.aload_n (k0 := 5) (pc' := 39) X rfl rfl dL_foretells_38 rfl ?_
  obtain ⟨v7, c7, h⟩ := Option.bind_eq_some_iff.mp h
  refine AW.callS (As := [.ref a0]) (rest := []) (rv := (some (.long v7))) (M' := v5.2) (pc' := 42) X (ok_L_told h0 c7) yv_L_told ml_L_69 ⟨by decide, by decide, by decide, by decide⟩ rfl (Nat.le_of_ble_eq_true rfl) rfl rfl dL_foretells_39 rfl ?_
  refine AW.lstore (ls' := [(7, .long (v7)), (6, .int v6), (5, .int (v5.1)), (4, .int (v4.1)), (3, .int (v3.1)), (2, .int v2), (0, .ref a0), (1, .int x1)]) (pc' := 44) X (by decide) rfl dL_foretells_42 rfl ?_
  refine AW.aload_n (k0 := 6) (pc' := 45) X rfl rfl dL_foretells_44 rfl ?_
  refine AW.iconst (v := 1) (pc' := 46) X rfl dL_foretells_45 rfl ?_
  obtain ⟨v8, c8, h⟩ := Option.bind_eq_some_iff.mp h
  refine AW.callV (As := [.int 1]) (rest := []) (rv := (some (.int v8.1))) (M' := v8.2) (pc' := 49) X (ok_X6_save h0 c8) yv_X6_save (h0).1.1 (h0).1.2.1 (cX h0 dA ad _) rfl rfl ml_L_73 ⟨by decide, by decide, by decide, by decide⟩ rfl (Nat.le_of_ble_eq_true rfl) rfl rfl dL_foretells_46 rfl ?_
  refine AW.aload_n (k0 := 6) (pc' := 50) X rfl rfl dL_foretells_49 rfl ?_
  refine AW.iconst (v := 0) (pc' := 51) X rfl dL_foretells_50 rfl ?_
  obtain ⟨v9, c9, h⟩ := Option.bind_eq_some_iff.mp h
  refine AW.callV (As := [.int 0]) (rest := [.int (v8.1)]) (rv := (some (.int v9))) (M' := v8.2) (pc' := 54) X (ok_X6_total h0 c9) yv_X6_total (h0).1.1 (h0).1.2.1 (cX h0 dA ad _) rfl rfl ml_L_8 ⟨by decide, by decide, by decide, by decide⟩ rfl (Nat.le_of_ble_eq_true rfl) rfl rfl dL_foretells_51 rfl ?_
  refine AW.icmp_eq (pc' := 57) (tgt := 59) X dL_foretells_54 rfl rfl (fun q10 => ?_) (fun q10 => ?_)
  · replace h := itep q10 h
    refine AW.aload_n (k0 := 6) (pc' := 60) X rfl rfl dL_foretells_59 rfl ?_
    refine AW.iconst (v := 0) (pc' := 61) X rfl dL_foretells_60 rfl ?_
    obtain ⟨v11, c11, h⟩ := Option.bind_eq_some_iff.mp h
    refine AW.callV (As := [.int 0]) (rest := []) (rv := (some (.int v11))) (M' := v8.2) (pc' := 64) X (ok_X6_total h0 c11) yv_X6_total (h0).1.1 (h0).1.2.1 (cX h0 dA ad _) rfl rfl ml_L_8 ⟨by decide, by decide, by decide, by decide⟩ rfl (Nat.le_of_ble_eq_true rfl) rfl rfl dL_foretells_61 rfl ?_
    refine AW.istore (ls' := [(9, .int v11), (7, .long (v7)), (6, .int v6), (5, .int (v5.1)), (4, .int (v4.1)), (3, .int (v3.1)), (2, .int v2), (0, .ref a0), (1, .int x1)]) (pc' := 66) X (by decide) rfl dL_foretells_64 rfl ?_
    refine AW.bipush (v := (-6)) (pc' := 68) X rfl dL_foretells_66 rfl ?_
    refine AW.istore (ls' := [(10, .int (-6)), (9, .int v11), (7, .long (v7)), (6, .int v6), (5, .int (v5.1)), (4, .int (v4.1)), (3, .int (v3.1)), (2, .int v2), (0, .ref a0), (1, .int x1)]) (pc' := 70) X (by decide) rfl dL_foretells_68 rfl ?_
    refine AW.bipush (v := (-6)) (pc' := 72) X rfl dL_foretells_70 rfl ?_
    refine AW.istore (ls' := [(11, .int (-6)), (10, .int (-6)), (9, .int v11), (7, .long (v7)), (6, .int v6), (5, .int (v5.1)), (4, .int (v4.1)), (3, .int (v3.1)), (2, .int v2), (0, .ref a0), (1, .int x1)]) (pc' := 74) X (by decide) rfl dL_foretells_72 rfl ?_
    refine AW.iconst (v := 0) (pc' := 75) X rfl dL_foretells_74 rfl ?_
    refine AW.istore (ls' := [(12, .int 0), (11, .int (-6)), (10, .int (-6)), (9, .int v11), (7, .long (v7)), (6, .int v6), (5, .int (v5.1)), (4, .int (v4.1)), (3, .int (v3.1)), (2, .int v2), (0, .ref a0), (1, .int x1)]) (pc' := 77) X (by decide) rfl dL_foretells_75 rfl ?_
    refine AW.sub (ls' := [(0, .ref a0), (1, .int x1), (2, .int v2), (3, .int (v3.1)), (4, .int (v4.1)), (5, .int (v5.1)), (6, .int v6), (7, .long (v7)), (9, .int v11), (10, .int (-6)), (11, .int (-6)), (12, .int 0)]) [10, 11, 9, 8, 7, 6, 5, 4, 3, 2, 1, 0] rfl ?_
    exact ok_L_foretells_77 X hr h0 FU x1 v2 v3.1 v4.1 v5.1 v6 v7 v11 (-6) (-6) 0 v8.2 R h
  · replace h := iten q10 h
    refine AW.iconst (v := 0) (pc' := 58) X rfl dL_foretells_57 rfl ?_
    replace h := Option.some.inj h
    subst h
    exact AW.zret (b := false) X hr dL_foretells_58
set_option maxHeartbeats 4000000 in
set_option maxRecDepth 100000 in
theorem ok_L_acts_115 {a0 : Nat} (X : CX p s m args meth c cL_acts 11 RL D dA ad lo n A) (hr : meth.sig.returnType = (some .boolean)) (h0 : tSS lo n a0) : ∀ (sb0 : Bool) (M : MM) (R : (Bool × MM)), f_L_acts_115 a0 sb0 M = some R → AR p l e 7 180 s m args below meth c D dA ad lo n 11 A (some (.int (bz R.1))) R.2 115 [] [.int (bz sb0)] M := by
  intro sb0 M R h
  unfold f_L_acts_115 at h
  replace h := Option.some.inj h
  subst h
  exact AW.zret (b := sb0) X hr dL_acts_115
set_option maxHeartbeats 4000000 in
set_option maxRecDepth 100000 in
theorem ok_L_acts_110 {a0 : Nat} (X : CX p s m args meth c cL_acts 11 RL D dA ad lo n A) (hr : meth.sig.returnType = (some .boolean)) (h0 : tSS lo n a0) : ∀ (M : MM) (R : (Bool × MM)), f_L_acts_110 a0 M = some R → AR p l e 7 180 s m args below meth c D dA ad lo n 11 A (some (.int (bz R.1))) R.2 110 [] [] M := by
  intro M R h
  unfold f_L_acts_110 at h
  refine AW.iconst (v := 1) (pc' := 111) X rfl dL_acts_110 rfl ?_
  refine AW.goto (pc' := 115) X dL_acts_111 rfl ?_
  exact ok_L_acts_115 X hr h0 true M R h
set_option maxHeartbeats 4000000 in
set_option maxRecDepth 100000 in
theorem ok_L_acts_114 {a0 : Nat} (X : CX p s m args meth c cL_acts 11 RL D dA ad lo n A) (hr : meth.sig.returnType = (some .boolean)) (h0 : tSS lo n a0) : ∀ (M : MM) (R : (Bool × MM)), f_L_acts_114 a0 M = some R → AR p l e 7 180 s m args below meth c D dA ad lo n 11 A (some (.int (bz R.1))) R.2 114 [] [] M := by
  intro M R h
  unfold f_L_acts_114 at h
  refine AW.iconst (v := 0) (pc' := 115) X rfl dL_acts_114 rfl ?_
  exact ok_L_acts_115 X hr h0 false M R h
set_option maxHeartbeats 4000000 in
set_option maxRecDepth 100000 in
theorem ok_L_acts_244 {a0 : Nat} (X : CX p s m args meth c cL_acts 11 RL D dA ad lo n A) (hr : meth.sig.returnType = (some .boolean)) (h0 : tSS lo n a0) : ∀ (sb0 : Bool) (M : MM) (R : (Bool × MM)), f_L_acts_244 a0 sb0 M = some R → AR p l e 7 180 s m args below meth c D dA ad lo n 11 A (some (.int (bz R.1))) R.2 244 [] [.int (bz sb0)] M := by
  intro sb0 M R h
  unfold f_L_acts_244 at h
  replace h := Option.some.inj h
  subst h
  exact AW.zret (b := sb0) X hr dL_acts_244
set_option maxHeartbeats 4000000 in
set_option maxRecDepth 100000 in
theorem ok_L_acts_208 {a0 : Nat} (X : CX p s m args meth c cL_acts 11 RL D dA ad lo n A) (hr : meth.sig.returnType = (some .boolean)) (h0 : tSS lo n a0) : ∀ (M : MM) (R : (Bool × MM)), f_L_acts_208 a0 M = some R → AR p l e 7 180 s m args below meth c D dA ad lo n 11 A (some (.int (bz R.1))) R.2 208 [] [] M := by
  intro M R h
  unfold f_L_acts_208 at h
  refine AW.iconst (v := 0) (pc' := 209) X rfl dL_acts_208 rfl ?_
  refine AW.goto (pc' := 244) X dL_acts_209 rfl ?_
  exact ok_L_acts_244 X hr h0 false M R h
set_option maxHeartbeats 4000000 in
set_option maxRecDepth 100000 in
theorem ok_L_acts_243 {a0 : Nat} (X : CX p s m args meth c cL_acts 11 RL D dA ad lo n A) (hr : meth.sig.returnType = (some .boolean)) (h0 : tSS lo n a0) : ∀ (M : MM) (R : (Bool × MM)), f_L_acts_243 a0 M = some R → AR p l e 7 180 s m args below meth c D dA ad lo n 11 A (some (.int (bz R.1))) R.2 243 [] [] M := by
  intro M R h
  unfold f_L_acts_243 at h
  refine AW.iconst (v := 0) (pc' := 244) X rfl dL_acts_243 rfl ?_
  exact ok_L_acts_244 X hr h0 false M R h
set_option maxHeartbeats 4000000 in
set_option maxRecDepth 100000 in
theorem ok_L_acts_308 {a0 : Nat} (X : CX p s m args meth c cL_acts 11 RL D dA ad lo n A) (hr : meth.sig.returnType = (some .boolean)) (h0 : tSS lo n a0) : ∀ (sb0 : Bool) (M : MM) (R : (Bool × MM)), f_L_acts_308 a0 sb0 M = some R → AR p l e 7 180 s m args below meth c D dA ad lo n 11 A (some (.int (bz R.1))) R.2 308 [] [.int (bz sb0)] M := by
  intro sb0 M R h
  unfold f_L_acts_308 at h
  replace h := Option.some.inj h
  subst h
  exact AW.zret (b := sb0) X hr dL_acts_308
set_option maxHeartbeats 4000000 in
set_option maxRecDepth 100000 in
theorem ok_L_acts_300 {a0 : Nat} (X : CX p s m args meth c cL_acts 11 RL D dA ad lo n A) (hr : meth.sig.returnType = (some .boolean)) (h0 : tSS lo n a0) : ∀ (s0 : Int32) (s1 : Int32) (M : MM) (R : (Bool × MM)), f_L_acts_300 a0 s0 s1 M = some R → AR p l e 7 180 s m args below meth c D dA ad lo n 11 A (some (.int (bz R.1))) R.2 300 [] [.int s0, .int s1] M := by
  intro s0 s1 M R h
  unfold f_L_acts_300 at h
  refine AW.icmp_ne (pc' := 303) (tgt := 307) X dL_acts_300 rfl rfl (fun q1 => ?_) (fun q1 => ?_)
  · replace h := iten q1 h
    refine AW.iconst (v := 0) (pc' := 308) X rfl dL_acts_307 rfl ?_
    exact ok_L_acts_308 X hr h0 false M R h
  · replace h := itep q1 h
    refine AW.iconst (v := 1) (pc' := 304) X rfl dL_acts_303 rfl ?_
    refine AW.goto (pc' := 308) X dL_acts_304 rfl ?_
    exact ok_L_acts_308 X hr h0 true M R h
set_option maxHeartbeats 4000000 in
set_option maxRecDepth 100000 in
theorem ok_L_acts_290 {a0 : Nat} (X : CX p s m args meth c cL_acts 11 RL D dA ad lo n A) (hr : meth.sig.returnType = (some .boolean)) (h0 : tSS lo n a0) : ∀ (x7 : Int32) (s0 : Int32) (s1 : Int32) (s2 : Int32) (M : MM) (R : (Bool × MM)), f_L_acts_290 a0 x7 s0 s1 s2 M = some R → AR p l e 7 180 s m args below meth c D dA ad lo n 11 A (some (.int (bz R.1))) R.2 290 [(7, .int x7)] [.int s0, .int s1, .int s2] M := by
  intro x7 s0 s1 s2 M R h
  unfold f_L_acts_290 at h
  refine AW.icmp_ne (pc' := 293) (tgt := 298) X dL_acts_290 rfl rfl (fun q1 => ?_) (fun q1 => ?_)
  · replace h := iten q1 h
    refine AW.bipush (v := (-3)) (pc' := 300) X rfl dL_acts_298 rfl ?_
    refine AW.sub (ls' := []) [] rfl ?_
    exact ok_L_acts_300 X hr h0 (-3) s2 M R h
  · replace h := itep q1 h
    refine AW.iload (k0 := 0) (pc' := 295) X rfl dL_acts_293 rfl ?_
    refine AW.goto (pc' := 300) X dL_acts_295 rfl ?_
    refine AW.sub (ls' := []) [] rfl ?_
    exact ok_L_acts_300 X hr h0 x7 s2 M R h
set_option maxHeartbeats 4000000 in
set_option maxRecDepth 100000 in
theorem ok_L_acts_263 {a0 : Nat} (X : CX p s m args meth c cL_acts 11 RL D dA ad lo n A) (hr : meth.sig.returnType = (some .boolean)) (h0 : tSS lo n a0) : ∀ (x5 : Int32) (sb0 : Bool) (M : MM) (R : (Bool × MM)), f_L_acts_263 a0 x5 sb0 M = some R → AR p l e 7 180 s m args below meth c D dA ad lo n 11 A (some (.int (bz R.1))) R.2 263 [(0, .ref a0), (5, .int x5)] [.int (bz sb0)] M := by
  intro x5 sb0 M R h
  unfold f_L_acts_263 at h
  refine AW.istore (ls' := [(6, .int (bz sb0)), (0, .ref a0), (5, .int x5)]) (pc' := 265) X (by decide) rfl dL_acts_263 rfl ?_
  refine AW.aload_n (k0 := 1) (pc' := 266) X rfl rfl dL_acts_265 rfl ?_
  refine AW.iconst (v := 1) (pc' := 267) X rfl dL_acts_266 rfl ?_
  obtain ⟨v1, c1, h⟩ := Option.bind_eq_some_iff.mp h
  refine AW.callV (As := [.int 1]) (rest := []) (rv := (some (.int v1))) (M' := M) (pc' := 270) X (ok_X6_total h0 c1) yv_X6_total (h0).1.1 (h0).1.2.1 (cX h0 dA ad _) rfl rfl ml_L_8 ⟨by decide, by decide, by decide, by decide⟩ rfl (Nat.le_of_ble_eq_true rfl) rfl rfl dL_acts_267 rfl ?_
  refine AW.istore (ls' := [(7, .int v1), (6, .int (bz sb0)), (0, .ref a0), (5, .int x5)]) (pc' := 272) X (by decide) rfl dL_acts_270 rfl ?_
  refine AW.aload_n (k0 := 2) (pc' := 273) X rfl rfl dL_acts_272 rfl ?_
  refine AW.iload (k0 := 1) (pc' := 275) X rfl dL_acts_273 rfl ?_
  obtain ⟨v2, c2, h⟩ := Option.bind_eq_some_iff.mp h
  refine AW.callV (As := [.int (bz sb0)]) (rest := []) (rv := (some (.int v2.1))) (M' := v2.2) (pc' := 278) X (ok_X6_hold h0 c2) yv_X6_hold (h0).1.1 (h0).1.2.1 (cX h0 dA ad _) rfl rfl ml_L_85 ⟨by decide, by decide, by decide, by decide⟩ rfl (Nat.le_of_ble_eq_true rfl) rfl rfl dL_acts_275 rfl ?_
  refine AW.iload (k0 := 3) (pc' := 280) X rfl dL_acts_278 rfl ?_
  refine AW.iload (k0 := 1) (pc' := 282) X rfl dL_acts_280 rfl ?_
  refine AW.if_eq (pc' := 285) (tgt := 289) X dL_acts_282 rfl rfl (fun q3 => ?_) (fun q3 => ?_)
  · replace h := itep q3 h
    refine AW.iconst (v := 2) (pc' := 290) X rfl dL_acts_289 rfl ?_
    refine AW.sub (ls' := [(7, .int v1)]) [0] rfl ?_
    exact ok_L_acts_290 X hr h0 v1 2 x5 v2.1 v2.2 R h
  · replace h := iten q3 h
    refine AW.iconst (v := 1) (pc' := 286) X rfl dL_acts_285 rfl ?_
    refine AW.goto (pc' := 290) X dL_acts_286 rfl ?_
    refine AW.sub (ls' := [(7, .int v1)]) [0] rfl ?_
    exact ok_L_acts_290 X hr h0 v1 1 x5 v2.1 v2.2 R h
set_option maxHeartbeats 4000000 in
set_option maxRecDepth 100000 in
theorem ok_L_acts_401 {a0 : Nat} (X : CX p s m args meth c cL_acts 11 RL D dA ad lo n A) (hr : meth.sig.returnType = (some .boolean)) (h0 : tSS lo n a0) : ∀ (sb0 : Bool) (M : MM) (R : (Bool × MM)), f_L_acts_401 a0 sb0 M = some R → AR p l e 7 180 s m args below meth c D dA ad lo n 11 A (some (.int (bz R.1))) R.2 401 [] [.int (bz sb0)] M := by
  intro sb0 M R h
  unfold f_L_acts_401 at h
  replace h := Option.some.inj h
  subst h
  exact AW.zret (b := sb0) X hr dL_acts_401
set_option maxHeartbeats 4000000 in
set_option maxRecDepth 100000 in
theorem ok_L_acts_396 {a0 : Nat} (X : CX p s m args meth c cL_acts 11 RL D dA ad lo n A) (hr : meth.sig.returnType = (some .boolean)) (h0 : tSS lo n a0) : ∀ (M : MM) (R : (Bool × MM)), f_L_acts_396 a0 M = some R → AR p l e 7 180 s m args below meth c D dA ad lo n 11 A (some (.int (bz R.1))) R.2 396 [] [] M := by
  intro M R h
  unfold f_L_acts_396 at h
  refine AW.iconst (v := 1) (pc' := 397) X rfl dL_acts_396 rfl ?_
  refine AW.goto (pc' := 401) X dL_acts_397 rfl ?_
  exact ok_L_acts_401 X hr h0 true M R h
set_option maxHeartbeats 4000000 in
set_option maxRecDepth 100000 in
theorem ok_L_acts_400 {a0 : Nat} (X : CX p s m args meth c cL_acts 11 RL D dA ad lo n A) (hr : meth.sig.returnType = (some .boolean)) (h0 : tSS lo n a0) : ∀ (M : MM) (R : (Bool × MM)), f_L_acts_400 a0 M = some R → AR p l e 7 180 s m args below meth c D dA ad lo n 11 A (some (.int (bz R.1))) R.2 400 [] [] M := by
  intro M R h
  unfold f_L_acts_400 at h
  refine AW.iconst (v := 0) (pc' := 401) X rfl dL_acts_400 rfl ?_
  exact ok_L_acts_401 X hr h0 false M R h
set_option maxHeartbeats 4000000 in
set_option maxRecDepth 100000 in
theorem ok_L_acts_357 {a0 : Nat} (X : CX p s m args meth c cL_acts 11 RL D dA ad lo n A) (hr : meth.sig.returnType = (some .boolean)) (h0 : tSS lo n a0) : ∀ (x6 : Int32) (b7 : Bool) (s0 : Int32) (s1 : Int32) (M : MM) (R : (Bool × MM)), f_L_acts_357 a0 x6 b7 s0 s1 M = some R → AR p l e 7 180 s m args below meth c D dA ad lo n 11 A (some (.int (bz R.1))) R.2 357 [(0, .ref a0), (6, .int x6), (7, .int (bz b7))] [.int s0, .int s1] M := by
  intro x6 b7 s0 s1 M R h
  unfold f_L_acts_357 at h
  refine AW.icmp_ne (pc' := 360) (tgt := 400) X dL_acts_357 rfl rfl (fun q1 => ?_) (fun q1 => ?_)
  · replace h := iten q1 h
    refine AW.sub (ls' := []) [] rfl ?_
    exact ok_L_acts_400 X hr h0 M R h
  · replace h := itep q1 h
    refine AW.iload (k0 := 2) (pc' := 362) X rfl dL_acts_360 rfl ?_
    refine AW.if_eq (pc' := 365) (tgt := 396) X dL_acts_362 rfl rfl (fun q2 => ?_) (fun q2 => ?_)
    · replace h := itep q2 h
      refine AW.sub (ls' := []) [] rfl ?_
      exact ok_L_acts_396 X hr h0 M R h
    · replace h := iten q2 h
      refine AW.aload_n (k0 := 0) (pc' := 366) X rfl rfl dL_acts_365 rfl ?_
      refine AW.iconst (v := 0) (pc' := 367) X rfl dL_acts_366 rfl ?_
      obtain ⟨v3, c3, h⟩ := Option.bind_eq_some_iff.mp h
      refine AW.callV (As := [.int 0]) (rest := []) (rv := (some (.int v3))) (M' := M) (pc' := 370) X (ok_X6_total h0 c3) yv_X6_total (h0).1.1 (h0).1.2.1 (cX h0 dA ad _) rfl rfl ml_L_8 ⟨by decide, by decide, by decide, by decide⟩ rfl (Nat.le_of_ble_eq_true rfl) rfl rfl dL_acts_367 rfl ?_
      refine AW.iconst (v := 3) (pc' := 371) X rfl dL_acts_370 rfl ?_
      refine AW.icmp_ne (pc' := 374) (tgt := 400) X dL_acts_371 rfl rfl (fun q4 => ?_) (fun q4 => ?_)
      · replace h := iten q4 h
        refine AW.sub (ls' := []) [] rfl ?_
        exact ok_L_acts_400 X hr h0 M R h
      · replace h := itep q4 h
        refine AW.aload_n (k0 := 0) (pc' := 375) X rfl rfl dL_acts_374 rfl ?_
        refine AW.bipush (v := 10) (pc' := 377) X rfl dL_acts_375 rfl ?_
        obtain ⟨v5, c5, h⟩ := Option.bind_eq_some_iff.mp h
        refine AW.callV (As := [.int 10]) (rest := []) (rv := (some (.int v5))) (M' := M) (pc' := 380) X (ok_X6_total h0 c5) yv_X6_total (h0).1.1 (h0).1.2.1 (cX h0 dA ad _) rfl rfl ml_L_8 ⟨by decide, by decide, by decide, by decide⟩ rfl (Nat.le_of_ble_eq_true rfl) rfl rfl dL_acts_377 rfl ?_
        refine AW.iload (k0 := 1) (pc' := 382) X rfl dL_acts_380 rfl ?_
        refine AW.icmp_ne (pc' := 385) (tgt := 400) X dL_acts_382 rfl rfl (fun q6 => ?_) (fun q6 => ?_)
        · replace h := iten q6 h
          refine AW.sub (ls' := []) [] rfl ?_
          exact ok_L_acts_400 X hr h0 M R h
        · replace h := itep q6 h
          refine AW.aload_n (k0 := 0) (pc' := 386) X rfl rfl dL_acts_385 rfl ?_
          refine AW.bipush (v := 9) (pc' := 388) X rfl dL_acts_386 rfl ?_
          obtain ⟨v7, c7, h⟩ := Option.bind_eq_some_iff.mp h
          refine AW.callV (As := [.int 9]) (rest := []) (rv := (some (.int v7))) (M' := M) (pc' := 391) X (ok_X6_total h0 c7) yv_X6_total (h0).1.1 (h0).1.2.1 (cX h0 dA ad _) rfl rfl ml_L_8 ⟨by decide, by decide, by decide, by decide⟩ rfl (Nat.le_of_ble_eq_true rfl) rfl rfl dL_acts_388 rfl ?_
          refine AW.bipush (v := (-6)) (pc' := 393) X rfl dL_acts_391 rfl ?_
          refine AW.icmp_ne (pc' := 396) (tgt := 400) X dL_acts_393 rfl rfl (fun q8 => ?_) (fun q8 => ?_)
          · replace h := iten q8 h
            refine AW.sub (ls' := []) [] rfl ?_
            exact ok_L_acts_400 X hr h0 M R h
          · replace h := itep q8 h
            refine AW.sub (ls' := []) [] rfl ?_
            exact ok_L_acts_396 X hr h0 M R h
set_option maxHeartbeats 4000000 in
set_option maxRecDepth 100000 in
theorem ok_L_acts_339 {a0 : Nat} (X : CX p s m args meth c cL_acts 11 RL D dA ad lo n A) (hr : meth.sig.returnType = (some .boolean)) (h0 : tSS lo n a0) : ∀ (x6 : Int32) (sb0 : Bool) (M : MM) (R : (Bool × MM)), f_L_acts_339 a0 x6 sb0 M = some R → AR p l e 7 180 s m args below meth c D dA ad lo n 11 A (some (.int (bz R.1))) R.2 339 [(0, .ref a0), (6, .int x6)] [.int (bz sb0)] M := by
  intro x6 sb0 M R h
  unfold f_L_acts_339 at h
  refine AW.istore (ls' := [(7, .int (bz sb0)), (0, .ref a0), (6, .int x6)]) (pc' := 341) X (by decide) rfl dL_acts_339 rfl ?_
  refine AW.aload_n (k0 := 1) (pc' := 342) X rfl rfl dL_acts_341 rfl ?_
  obtain ⟨v1, c1, h⟩ := Option.bind_eq_some_iff.mp h
  refine AW.callV (As := []) (rest := []) (rv := (some (.int v1.1))) (M' := v1.2) (pc' := 345) X (ok_X6_abort h0 c1) yv_X6_abort (h0).1.1 (h0).1.2.1 (cX h0 dA ad _) rfl rfl ml_L_89 ⟨by decide, by decide, by decide, by decide⟩ rfl (Nat.le_of_ble_eq_true rfl) rfl rfl dL_acts_342 rfl ?_
  refine AW.iload (k0 := 0) (pc' := 347) X rfl dL_acts_345 rfl ?_
  refine AW.if_eq (pc' := 350) (tgt := 355) X dL_acts_347 rfl rfl (fun q2 => ?_) (fun q2 => ?_)
  · replace h := itep q2 h
    refine AW.bipush (v := (-3)) (pc' := 357) X rfl dL_acts_355 rfl ?_
    refine AW.sub (ls' := [(0, .ref a0), (6, .int x6), (7, .int (bz sb0))]) [1, 2, 0] rfl ?_
    exact ok_L_acts_357 X hr h0 x6 sb0 (-3) v1.1 v1.2 R h
  · replace h := iten q2 h
    refine AW.iload (k0 := 2) (pc' := 352) X rfl dL_acts_350 rfl ?_
    refine AW.goto (pc' := 357) X dL_acts_352 rfl ?_
    refine AW.sub (ls' := [(0, .ref a0), (6, .int x6), (7, .int (bz sb0))]) [1, 2, 0] rfl ?_
    exact ok_L_acts_357 X hr h0 x6 sb0 x6 v1.1 v1.2 R h
set_option maxHeartbeats 4000000 in
set_option maxRecDepth 100000 in
theorem ok_L_acts_334 {a0 : Nat} (X : CX p s m args meth c cL_acts 11 RL D dA ad lo n A) (hr : meth.sig.returnType = (some .boolean)) (h0 : tSS lo n a0) : ∀ (x6 : Int32) (M : MM) (R : (Bool × MM)), f_L_acts_334 a0 x6 M = some R → AR p l e 7 180 s m args below meth c D dA ad lo n 11 A (some (.int (bz R.1))) R.2 334 [(0, .ref a0), (6, .int x6)] [] M := by
  intro x6 M R h
  unfold f_L_acts_334 at h
  refine AW.iconst (v := 1) (pc' := 335) X rfl dL_acts_334 rfl ?_
  refine AW.goto (pc' := 339) X dL_acts_335 rfl ?_
  exact ok_L_acts_339 X hr h0 x6 true M R h
set_option maxHeartbeats 4000000 in
set_option maxRecDepth 100000 in
theorem ok_L_acts_569 {a0 : Nat} (X : CX p s m args meth c cL_acts 11 RL D dA ad lo n A) (hr : meth.sig.returnType = (some .boolean)) (h0 : tSS lo n a0) : ∀ (sb0 : Bool) (M : MM) (R : (Bool × MM)), f_L_acts_569 a0 sb0 M = some R → AR p l e 7 180 s m args below meth c D dA ad lo n 11 A (some (.int (bz R.1))) R.2 569 [] [.int (bz sb0)] M := by
  intro sb0 M R h
  unfold f_L_acts_569 at h
  replace h := Option.some.inj h
  subst h
  exact AW.zret (b := sb0) X hr dL_acts_569
set_option maxHeartbeats 4000000 in
set_option maxRecDepth 100000 in
theorem ok_L_acts_568 {a0 : Nat} (X : CX p s m args meth c cL_acts 11 RL D dA ad lo n A) (hr : meth.sig.returnType = (some .boolean)) (h0 : tSS lo n a0) : ∀ (M : MM) (R : (Bool × MM)), f_L_acts_568 a0 M = some R → AR p l e 7 180 s m args below meth c D dA ad lo n 11 A (some (.int (bz R.1))) R.2 568 [] [] M := by
  intro M R h
  unfold f_L_acts_568 at h
  refine AW.iconst (v := 0) (pc' := 569) X rfl dL_acts_568 rfl ?_
  exact ok_L_acts_569 X hr h0 false M R h
set_option maxHeartbeats 4000000 in
set_option maxRecDepth 100000 in
theorem ok_L_acts_561 {a0 : Nat} (X : CX p s m args meth c cL_acts 11 RL D dA ad lo n A) (hr : meth.sig.returnType = (some .boolean)) (h0 : tSS lo n a0) : ∀ (s0 : Int32) (s1 : Int32) (M : MM) (R : (Bool × MM)), f_L_acts_561 a0 s0 s1 M = some R → AR p l e 7 180 s m args below meth c D dA ad lo n 11 A (some (.int (bz R.1))) R.2 561 [] [.int s0, .int s1] M := by
  intro s0 s1 M R h
  unfold f_L_acts_561 at h
  refine AW.icmp_ne (pc' := 564) (tgt := 568) X dL_acts_561 rfl rfl (fun q1 => ?_) (fun q1 => ?_)
  · replace h := iten q1 h
    exact ok_L_acts_568 X hr h0 M R h
  · replace h := itep q1 h
    refine AW.iconst (v := 1) (pc' := 565) X rfl dL_acts_564 rfl ?_
    refine AW.goto (pc' := 569) X dL_acts_565 rfl ?_
    exact ok_L_acts_569 X hr h0 true M R h
set_option maxHeartbeats 4000000 in
set_option maxRecDepth 100000 in
theorem ok_L_acts_537 {a0 : Nat} (X : CX p s m args meth c cL_acts 11 RL D dA ad lo n A) (hr : meth.sig.returnType = (some .boolean)) (h0 : tSS lo n a0) : ∀ (x6 : Int32) (x7 : Int32) (x8 : Int32) (b10 : Bool) (s0 : Int32) (s1 : Int32) (M : MM) (R : (Bool × MM)), f_L_acts_537 a0 x6 x7 x8 b10 s0 s1 M = some R → AR p l e 7 180 s m args below meth c D dA ad lo n 11 A (some (.int (bz R.1))) R.2 537 [(0, .ref a0), (6, .int x6), (7, .int x7), (8, .int x8), (10, .int (bz b10))] [.int s0, .int s1] M := by
  intro x6 x7 x8 b10 s0 s1 M R h
  unfold f_L_acts_537 at h
  refine AW.icmp_ne (pc' := 540) (tgt := 568) X dL_acts_537 rfl rfl (fun q1 => ?_) (fun q1 => ?_)
  · replace h := iten q1 h
    refine AW.sub (ls' := []) [] rfl ?_
    exact ok_L_acts_568 X hr h0 M R h
  · replace h := itep q1 h
    refine AW.aload_n (k0 := 0) (pc' := 541) X rfl rfl dL_acts_540 rfl ?_
    refine AW.bipush (v := 14) (pc' := 543) X rfl dL_acts_541 rfl ?_
    refine AW.iload (k0 := 1) (pc' := 545) X rfl dL_acts_543 rfl ?_
    refine AW.iadd (pc' := 546) X dL_acts_545 rfl ?_
    obtain ⟨v2, c2, h⟩ := Option.bind_eq_some_iff.mp h
    refine AW.callV (As := [.int (14 + x6)]) (rest := []) (rv := (some (.int v2))) (M' := M) (pc' := 549) X (ok_X6_total h0 c2) yv_X6_total (h0).1.1 (h0).1.2.1 (cX h0 dA ad _) rfl rfl ml_L_8 ⟨by decide, by decide, by decide, by decide⟩ rfl (Nat.le_of_ble_eq_true rfl) rfl rfl dL_acts_546 rfl ?_
    refine AW.iload (k0 := 4) (pc' := 551) X rfl dL_acts_549 rfl ?_
    refine AW.if_eq (pc' := 554) (tgt := 559) X dL_acts_551 rfl rfl (fun q3 => ?_) (fun q3 => ?_)
    · replace h := itep q3 h
      refine AW.iload (k0 := 2) (pc' := 561) X rfl dL_acts_559 rfl ?_
      refine AW.sub (ls' := []) [] rfl ?_
      exact ok_L_acts_561 X hr h0 x7 v2 M R h
    · replace h := iten q3 h
      refine AW.iload (k0 := 3) (pc' := 556) X rfl dL_acts_554 rfl ?_
      refine AW.goto (pc' := 561) X dL_acts_556 rfl ?_
      refine AW.sub (ls' := []) [] rfl ?_
      exact ok_L_acts_561 X hr h0 x8 v2 M R h
set_option maxHeartbeats 4000000 in
set_option maxRecDepth 100000 in
theorem ok_L_acts_521 {a0 : Nat} (X : CX p s m args meth c cL_acts 11 RL D dA ad lo n A) (hr : meth.sig.returnType = (some .boolean)) (h0 : tSS lo n a0) : ∀ (x6 : Int32) (x7 : Int32) (x8 : Int32) (x9 : Int32) (sb0 : Bool) (M : MM) (R : (Bool × MM)), f_L_acts_521 a0 x6 x7 x8 x9 sb0 M = some R → AR p l e 7 180 s m args below meth c D dA ad lo n 11 A (some (.int (bz R.1))) R.2 521 [(0, .ref a0), (6, .int x6), (7, .int x7), (8, .int x8), (9, .int x9)] [.int (bz sb0)] M := by
  intro x6 x7 x8 x9 sb0 M R h
  unfold f_L_acts_521 at h
  refine AW.istore (ls' := [(10, .int (bz sb0)), (0, .ref a0), (6, .int x6), (7, .int x7), (8, .int x8), (9, .int x9)]) (pc' := 523) X (by decide) rfl dL_acts_521 rfl ?_
  refine AW.iload (k0 := 5) (pc' := 525) X rfl dL_acts_523 rfl ?_
  refine AW.iload (k0 := 0) (pc' := 527) X rfl dL_acts_525 rfl ?_
  refine AW.if_eq (pc' := 530) (tgt := 535) X dL_acts_527 rfl rfl (fun q1 => ?_) (fun q1 => ?_)
  · replace h := itep q1 h
    refine AW.bipush (v := (-2)) (pc' := 537) X rfl dL_acts_535 rfl ?_
    refine AW.sub (ls' := [(0, .ref a0), (6, .int x6), (7, .int x7), (8, .int x8), (10, .int (bz sb0))]) [1, 2, 3, 4, 0] rfl ?_
    exact ok_L_acts_537 X hr h0 x6 x7 x8 sb0 (-2) x9 M R h
  · replace h := iten q1 h
    refine AW.iload (k0 := 3) (pc' := 532) X rfl dL_acts_530 rfl ?_
    refine AW.goto (pc' := 537) X dL_acts_532 rfl ?_
    refine AW.sub (ls' := [(0, .ref a0), (6, .int x6), (7, .int x7), (8, .int x8), (10, .int (bz sb0))]) [1, 2, 3, 4, 0] rfl ?_
    exact ok_L_acts_537 X hr h0 x6 x7 x8 sb0 x7 x9 M R h
set_option maxHeartbeats 4000000 in
set_option maxRecDepth 100000 in
theorem ok_L_acts_651 {a0 : Nat} (X : CX p s m args meth c cL_acts 11 RL D dA ad lo n A) (hr : meth.sig.returnType = (some .boolean)) (h0 : tSS lo n a0) : ∀ (sb0 : Bool) (M : MM) (R : (Bool × MM)), f_L_acts_651 a0 sb0 M = some R → AR p l e 7 180 s m args below meth c D dA ad lo n 11 A (some (.int (bz R.1))) R.2 651 [] [.int (bz sb0)] M := by
  intro sb0 M R h
  unfold f_L_acts_651 at h
  replace h := Option.some.inj h
  subst h
  exact AW.zret (b := sb0) X hr dL_acts_651
set_option maxHeartbeats 4000000 in
set_option maxRecDepth 100000 in
theorem ok_L_acts_743 {a0 : Nat} (X : CX p s m args meth c cL_acts 11 RL D dA ad lo n A) (hr : meth.sig.returnType = (some .boolean)) (h0 : tSS lo n a0) : ∀ (sb0 : Bool) (M : MM) (R : (Bool × MM)), f_L_acts_743 a0 sb0 M = some R → AR p l e 7 180 s m args below meth c D dA ad lo n 11 A (some (.int (bz R.1))) R.2 743 [] [.int (bz sb0)] M := by
  intro sb0 M R h
  unfold f_L_acts_743 at h
  replace h := Option.some.inj h
  subst h
  exact AW.zret (b := sb0) X hr dL_acts_743
set_option maxHeartbeats 4000000 in
set_option maxRecDepth 100000 in
theorem ok_L_acts_735 {a0 : Nat} (X : CX p s m args meth c cL_acts 11 RL D dA ad lo n A) (hr : meth.sig.returnType = (some .boolean)) (h0 : tSS lo n a0) : ∀ (s0 : Int32) (s1 : Int32) (M : MM) (R : (Bool × MM)), f_L_acts_735 a0 s0 s1 M = some R → AR p l e 7 180 s m args below meth c D dA ad lo n 11 A (some (.int (bz R.1))) R.2 735 [] [.int s0, .int s1] M := by
  intro s0 s1 M R h
  unfold f_L_acts_735 at h
  refine AW.icmp_ne (pc' := 738) (tgt := 742) X dL_acts_735 rfl rfl (fun q1 => ?_) (fun q1 => ?_)
  · replace h := iten q1 h
    refine AW.iconst (v := 0) (pc' := 743) X rfl dL_acts_742 rfl ?_
    exact ok_L_acts_743 X hr h0 false M R h
  · replace h := itep q1 h
    refine AW.iconst (v := 1) (pc' := 739) X rfl dL_acts_738 rfl ?_
    refine AW.goto (pc' := 743) X dL_acts_739 rfl ?_
    exact ok_L_acts_743 X hr h0 true M R h
set_option maxHeartbeats 4000000 in
set_option maxRecDepth 100000 in
theorem ok_L_acts_932 {a0 : Nat} (X : CX p s m args meth c cL_acts 11 RL D dA ad lo n A) (hr : meth.sig.returnType = (some .boolean)) (h0 : tSS lo n a0) : ∀ (sb0 : Bool) (M : MM) (R : (Bool × MM)), f_L_acts_932 a0 sb0 M = some R → AR p l e 7 180 s m args below meth c D dA ad lo n 11 A (some (.int (bz R.1))) R.2 932 [] [.int (bz sb0)] M := by
  intro sb0 M R h
  unfold f_L_acts_932 at h
  replace h := Option.some.inj h
  subst h
  exact AW.zret (b := sb0) X hr dL_acts_932
set_option maxHeartbeats 4000000 in
set_option maxRecDepth 100000 in
theorem ok_L_acts_931 {a0 : Nat} (X : CX p s m args meth c cL_acts 11 RL D dA ad lo n A) (hr : meth.sig.returnType = (some .boolean)) (h0 : tSS lo n a0) : ∀ (M : MM) (R : (Bool × MM)), f_L_acts_931 a0 M = some R → AR p l e 7 180 s m args below meth c D dA ad lo n 11 A (some (.int (bz R.1))) R.2 931 [] [] M := by
  intro M R h
  unfold f_L_acts_931 at h
  refine AW.iconst (v := 0) (pc' := 932) X rfl dL_acts_931 rfl ?_
  exact ok_L_acts_932 X hr h0 false M R h
set_option maxHeartbeats 4000000 in
set_option maxRecDepth 100000 in
theorem ok_L_acts_913 {a0 : Nat} (X : CX p s m args meth c cL_acts 11 RL D dA ad lo n A) (hr : meth.sig.returnType = (some .boolean)) (h0 : tSS lo n a0) : ∀ (sb0 : Bool) (s1 : Int32) (s2 : Int32) (M : MM) (R : (Bool × MM)), f_L_acts_913 a0 sb0 s1 s2 M = some R → AR p l e 7 180 s m args below meth c D dA ad lo n 11 A (some (.int (bz R.1))) R.2 913 [(0, .ref a0)] [.int (bz sb0), .int s1, .int s2] M := by
  intro sb0 s1 s2 M R h
  unfold f_L_acts_913 at h
  refine AW.iadd (pc' := 914) X dL_acts_913 rfl ?_
  refine AW.icmp_ne (pc' := 917) (tgt := 931) X dL_acts_914 rfl rfl (fun q1 => ?_) (fun q1 => ?_)
  · replace h := iten q1 h
    refine AW.sub (ls' := []) [] rfl ?_
    exact ok_L_acts_931 X hr h0 M R h
  · replace h := itep q1 h
    refine AW.aload_n (k0 := 0) (pc' := 918) X rfl rfl dL_acts_917 rfl ?_
    refine AW.bipush (v := 13) (pc' := 920) X rfl dL_acts_918 rfl ?_
    obtain ⟨v2, c2, h⟩ := Option.bind_eq_some_iff.mp h
    refine AW.callV (As := [.int 13]) (rest := []) (rv := (some (.int v2))) (M' := M) (pc' := 923) X (ok_X6_total h0 c2) yv_X6_total (h0).1.1 (h0).1.2.1 (cX h0 dA ad _) rfl rfl ml_L_8 ⟨by decide, by decide, by decide, by decide⟩ rfl (Nat.le_of_ble_eq_true rfl) rfl rfl dL_acts_920 rfl ?_
    refine AW.iconst (v := 5) (pc' := 924) X rfl dL_acts_923 rfl ?_
    refine AW.icmp_ne (pc' := 927) (tgt := 931) X dL_acts_924 rfl rfl (fun q3 => ?_) (fun q3 => ?_)
    · replace h := iten q3 h
      refine AW.sub (ls' := []) [] rfl ?_
      exact ok_L_acts_931 X hr h0 M R h
    · replace h := itep q3 h
      refine AW.iconst (v := 1) (pc' := 928) X rfl dL_acts_927 rfl ?_
      refine AW.goto (pc' := 932) X dL_acts_928 rfl ?_
      refine AW.sub (ls' := []) [] rfl ?_
      exact ok_L_acts_932 X hr h0 true M R h
set_option maxHeartbeats 4000000 in
set_option maxRecDepth 100000 in
theorem ok_L_acts_892 {a0 : Nat} (X : CX p s m args meth c cL_acts 11 RL D dA ad lo n A) (hr : meth.sig.returnType = (some .boolean)) (h0 : tSS lo n a0) : ∀ (b6 : Bool) (x8 : Int32) (s0 : Int32) (s1 : Int32) (M : MM) (R : (Bool × MM)), f_L_acts_892 a0 b6 x8 s0 s1 M = some R → AR p l e 7 180 s m args below meth c D dA ad lo n 11 A (some (.int (bz R.1))) R.2 892 [(0, .ref a0), (6, .int (bz b6)), (8, .int x8)] [.int s0, .int s1] M := by
  intro b6 x8 s0 s1 M R h
  unfold f_L_acts_892 at h
  refine AW.icmp_ne (pc' := 895) (tgt := 931) X dL_acts_892 rfl rfl (fun q1 => ?_) (fun q1 => ?_)
  · replace h := iten q1 h
    refine AW.sub (ls' := []) [] rfl ?_
    exact ok_L_acts_931 X hr h0 M R h
  · replace h := itep q1 h
    refine AW.aload_n (k0 := 0) (pc' := 896) X rfl rfl dL_acts_895 rfl ?_
    refine AW.bipush (v := 8) (pc' := 898) X rfl dL_acts_896 rfl ?_
    obtain ⟨v2, c2, h⟩ := Option.bind_eq_some_iff.mp h
    refine AW.callV (As := [.int 8]) (rest := []) (rv := (some (.int v2))) (M' := M) (pc' := 901) X (ok_X6_total h0 c2) yv_X6_total (h0).1.1 (h0).1.2.1 (cX h0 dA ad _) rfl rfl ml_L_8 ⟨by decide, by decide, by decide, by decide⟩ rfl (Nat.le_of_ble_eq_true rfl) rfl rfl dL_acts_898 rfl ?_
    refine AW.iload (k0 := 2) (pc' := 903) X rfl dL_acts_901 rfl ?_
    refine AW.iload (k0 := 1) (pc' := 905) X rfl dL_acts_903 rfl ?_
    refine AW.if_eq (pc' := 908) (tgt := 912) X dL_acts_905 rfl rfl (fun q3 => ?_) (fun q3 => ?_)
    · replace h := itep q3 h
      refine AW.iconst (v := 0) (pc' := 913) X rfl dL_acts_912 rfl ?_
      refine AW.sub (ls' := [(0, .ref a0)]) [0] rfl ?_
      exact ok_L_acts_913 X hr h0 false x8 v2 M R h
    · replace h := iten q3 h
      refine AW.iconst (v := 1) (pc' := 909) X rfl dL_acts_908 rfl ?_
      refine AW.goto (pc' := 913) X dL_acts_909 rfl ?_
      refine AW.sub (ls' := [(0, .ref a0)]) [0] rfl ?_
      exact ok_L_acts_913 X hr h0 true x8 v2 M R h
set_option maxHeartbeats 4000000 in
set_option maxRecDepth 100000 in
theorem ok_L_acts_822 {a0 : Nat} (X : CX p s m args meth c cL_acts 11 RL D dA ad lo n A) (hr : meth.sig.returnType = (some .boolean)) (h0 : tSS lo n a0) : ∀ (b6 : Bool) (sb0 : Bool) (M : MM) (R : (Bool × MM)), f_L_acts_822 a0 b6 sb0 M = some R → AR p l e 7 180 s m args below meth c D dA ad lo n 11 A (some (.int (bz R.1))) R.2 822 [(0, .ref a0), (6, .int (bz b6))] [.int (bz sb0)] M := by
  intro b6 sb0 M R h
  unfold f_L_acts_822 at h
  refine AW.istore (ls' := [(7, .int (bz sb0)), (0, .ref a0), (6, .int (bz b6))]) (pc' := 824) X (by decide) rfl dL_acts_822 rfl ?_
  refine AW.aload_n (k0 := 1) (pc' := 825) X rfl rfl dL_acts_824 rfl ?_
  refine AW.bipush (v := 59) (pc' := 827) X rfl dL_acts_825 rfl ?_
  obtain ⟨v1, c1, h⟩ := Option.bind_eq_some_iff.mp h
  refine AW.callV (As := [.int 59]) (rest := []) (rv := (some (.int v1.1))) (M' := v1.2) (pc' := 830) X (ok_X6_append h0 c1) yv_X6_append (h0).1.1 (h0).1.2.1 (cX h0 dA ad _) rfl rfl ml_L_110 ⟨by decide, by decide, by decide, by decide⟩ rfl (Nat.le_of_ble_eq_true rfl) rfl rfl dL_acts_827 rfl ?_
  refine AW.pop (pc' := 831) X rfl dL_acts_830 rfl ?_
  refine AW.aload_n (k0 := 1) (pc' := 832) X rfl rfl dL_acts_831 rfl ?_
  refine AW.bipush (v := 8) (pc' := 834) X rfl dL_acts_832 rfl ?_
  obtain ⟨v2, c2, h⟩ := Option.bind_eq_some_iff.mp h
  refine AW.callV (As := [.int 8]) (rest := []) (rv := (some (.int v2))) (M' := v1.2) (pc' := 837) X (ok_X6_total h0 c2) yv_X6_total (h0).1.1 (h0).1.2.1 (cX h0 dA ad _) rfl rfl ml_L_8 ⟨by decide, by decide, by decide, by decide⟩ rfl (Nat.le_of_ble_eq_true rfl) rfl rfl dL_acts_834 rfl ?_
  refine AW.istore (ls' := [(8, .int v2), (7, .int (bz sb0)), (0, .ref a0), (6, .int (bz b6))]) (pc' := 839) X (by decide) rfl dL_acts_837 rfl ?_
  refine AW.aload_n (k0 := 2) (pc' := 840) X rfl rfl dL_acts_839 rfl ?_
  refine AW.bipush (v := 115) (pc' := 842) X rfl dL_acts_840 rfl ?_
  obtain ⟨v3, c3, h⟩ := Option.bind_eq_some_iff.mp h
  refine AW.callV (As := [.int 115]) (rest := []) (rv := (some (.int v3.1))) (M' := v3.2) (pc' := 845) X (ok_X6_append h0 c3) yv_X6_append (h0).1.1 (h0).1.2.1 (cX h0 dA ad _) rfl rfl ml_L_110 ⟨by decide, by decide, by decide, by decide⟩ rfl (Nat.le_of_ble_eq_true rfl) rfl rfl dL_acts_842 rfl ?_
  refine AW.pop (pc' := 846) X rfl dL_acts_845 rfl ?_
  refine AW.aload_n (k0 := 2) (pc' := 847) X rfl rfl dL_acts_846 rfl ?_
  refine AW.bipush (v := 49) (pc' := 849) X rfl dL_acts_847 rfl ?_
  obtain ⟨v4, c4, h⟩ := Option.bind_eq_some_iff.mp h
  refine AW.callV (As := [.int 49]) (rest := []) (rv := (some (.int v4.1))) (M' := v4.2) (pc' := 852) X (ok_X6_append h0 c4) yv_X6_append (h0).1.1 (h0).1.2.1 (cX h0 dA ad _) rfl rfl ml_L_110 ⟨by decide, by decide, by decide, by decide⟩ rfl (Nat.le_of_ble_eq_true rfl) rfl rfl dL_acts_849 rfl ?_
  refine AW.pop (pc' := 853) X rfl dL_acts_852 rfl ?_
  refine AW.aload_n (k0 := 2) (pc' := 854) X rfl rfl dL_acts_853 rfl ?_
  refine AW.bipush (v := 59) (pc' := 856) X rfl dL_acts_854 rfl ?_
  obtain ⟨v5, c5, h⟩ := Option.bind_eq_some_iff.mp h
  refine AW.callV (As := [.int 59]) (rest := []) (rv := (some (.int v5.1))) (M' := v5.2) (pc' := 859) X (ok_X6_append h0 c5) yv_X6_append (h0).1.1 (h0).1.2.1 (cX h0 dA ad _) rfl rfl ml_L_110 ⟨by decide, by decide, by decide, by decide⟩ rfl (Nat.le_of_ble_eq_true rfl) rfl rfl dL_acts_856 rfl ?_
  refine AW.pop (pc' := 860) X rfl dL_acts_859 rfl ?_
  refine AW.aload_n (k0 := 2) (pc' := 861) X rfl rfl dL_acts_860 rfl ?_
  obtain ⟨v6, c6, h⟩ := Option.bind_eq_some_iff.mp h
  refine AW.callV (As := []) (rest := []) (rv := (some (.int v6.1))) (M' := v6.2) (pc' := 864) X (ok_X6_run h0 c6) yv_X6_run (h0).1.1 (h0).1.2.1 (cX h0 dA ad _) rfl rfl ml_L_116 ⟨by decide, by decide, by decide, by decide⟩ rfl (Nat.le_of_ble_eq_true rfl) rfl rfl dL_acts_861 rfl ?_
  refine AW.istore (ls' := [(9, .int (v6.1)), (8, .int v2), (7, .int (bz sb0)), (0, .ref a0), (6, .int (bz b6))]) (pc' := 866) X (by decide) rfl dL_acts_864 rfl ?_
  refine AW.iload (k0 := 2) (pc' := 868) X rfl dL_acts_866 rfl ?_
  refine AW.if_eq (pc' := 871) (tgt := 931) X dL_acts_868 rfl rfl (fun q7 => ?_) (fun q7 => ?_)
  · replace h := itep q7 h
    refine AW.sub (ls' := []) [] rfl ?_
    exact ok_L_acts_931 X hr h0 v6.2 R h
  · replace h := iten q7 h
    refine AW.aload_n (k0 := 3) (pc' := 872) X rfl rfl dL_acts_871 rfl ?_
    obtain ⟨v8, c8, h⟩ := Option.bind_eq_some_iff.mp h
    refine AW.callV (As := []) (rest := []) (rv := (some (.int v8.1))) (M' := v8.2) (pc' := 875) X (ok_X6_faultPosition h0 c8) yv_X6_faultPosition (h0).1.1 (h0).1.2.1 (cX h0 dA ad _) rfl rfl ml_L_113 ⟨by decide, by decide, by decide, by decide⟩ rfl (Nat.le_of_ble_eq_true rfl) rfl rfl dL_acts_872 rfl ?_
    refine AW.bipush (v := (-6)) (pc' := 877) X rfl dL_acts_875 rfl ?_
    refine AW.icmp_ne (pc' := 880) (tgt := 931) X dL_acts_877 rfl rfl (fun q9 => ?_) (fun q9 => ?_)
    · replace h := iten q9 h
      refine AW.sub (ls' := []) [] rfl ?_
      exact ok_L_acts_931 X hr h0 v8.2 R h
    · replace h := itep q9 h
      refine AW.iload (k0 := 0) (pc' := 882) X rfl dL_acts_880 rfl ?_
      refine AW.iload (k0 := 4) (pc' := 884) X rfl dL_acts_882 rfl ?_
      refine AW.if_eq (pc' := 887) (tgt := 891) X dL_acts_884 rfl rfl (fun q10 => ?_) (fun q10 => ?_)
      · replace h := itep q10 h
        refine AW.iconst (v := 0) (pc' := 892) X rfl dL_acts_891 rfl ?_
        refine AW.sub (ls' := [(0, .ref a0), (6, .int (bz b6)), (8, .int v2)]) [3, 4, 1] rfl ?_
        exact ok_L_acts_892 X hr h0 b6 v2 0 v6.1 v8.2 R h
      · replace h := iten q10 h
        refine AW.iconst (v := 2) (pc' := 888) X rfl dL_acts_887 rfl ?_
        refine AW.goto (pc' := 892) X dL_acts_888 rfl ?_
        refine AW.sub (ls' := [(0, .ref a0), (6, .int (bz b6)), (8, .int v2)]) [3, 4, 1] rfl ?_
        exact ok_L_acts_892 X hr h0 b6 v2 2 v6.1 v8.2 R h
set_option maxHeartbeats 4000000 in
set_option maxRecDepth 100000 in
theorem ok_L_acts_821 {a0 : Nat} (X : CX p s m args meth c cL_acts 11 RL D dA ad lo n A) (hr : meth.sig.returnType = (some .boolean)) (h0 : tSS lo n a0) : ∀ (b6 : Bool) (M : MM) (R : (Bool × MM)), f_L_acts_821 a0 b6 M = some R → AR p l e 7 180 s m args below meth c D dA ad lo n 11 A (some (.int (bz R.1))) R.2 821 [(0, .ref a0), (6, .int (bz b6))] [] M := by
  intro b6 M R h
  unfold f_L_acts_821 at h
  refine AW.iconst (v := 0) (pc' := 822) X rfl dL_acts_821 rfl ?_
  exact ok_L_acts_822 X hr h0 b6 false M R h
set_option maxHeartbeats 4000000 in
set_option maxRecDepth 100000 in
theorem ok_L_acts_791 {a0 : Nat} (X : CX p s m args meth c cL_acts 11 RL D dA ad lo n A) (hr : meth.sig.returnType = (some .boolean)) (h0 : tSS lo n a0) : ∀ (sb0 : Bool) (M : MM) (R : (Bool × MM)), f_L_acts_791 a0 sb0 M = some R → AR p l e 7 180 s m args below meth c D dA ad lo n 11 A (some (.int (bz R.1))) R.2 791 [(0, .ref a0)] [.int (bz sb0)] M := by
  intro sb0 M R h
  unfold f_L_acts_791 at h
  refine AW.istore (ls' := [(6, .int (bz sb0)), (0, .ref a0)]) (pc' := 793) X (by decide) rfl dL_acts_791 rfl ?_
  refine AW.aload_n (k0 := 1) (pc' := 794) X rfl rfl dL_acts_793 rfl ?_
  refine AW.bipush (v := 120) (pc' := 796) X rfl dL_acts_794 rfl ?_
  obtain ⟨v1, c1, h⟩ := Option.bind_eq_some_iff.mp h
  refine AW.callV (As := [.int 120]) (rest := []) (rv := (some (.int v1.1))) (M' := v1.2) (pc' := 799) X (ok_X6_append h0 c1) yv_X6_append (h0).1.1 (h0).1.2.1 (cX h0 dA ad _) rfl rfl ml_L_110 ⟨by decide, by decide, by decide, by decide⟩ rfl (Nat.le_of_ble_eq_true rfl) rfl rfl dL_acts_796 rfl ?_
  refine AW.pop (pc' := 800) X rfl dL_acts_799 rfl ?_
  refine AW.aload_n (k0 := 1) (pc' := 801) X rfl rfl dL_acts_800 rfl ?_
  obtain ⟨v2, c2, h⟩ := Option.bind_eq_some_iff.mp h
  refine AW.callV (As := []) (rest := []) (rv := (some (.int v2.1))) (M' := v2.2) (pc' := 804) X (ok_X6_faultPosition h0 c2) yv_X6_faultPosition (h0).1.1 (h0).1.2.1 (cX h0 dA ad _) rfl rfl ml_L_113 ⟨by decide, by decide, by decide, by decide⟩ rfl (Nat.le_of_ble_eq_true rfl) rfl rfl dL_acts_801 rfl ?_
  refine AW.iconst (v := 1) (pc' := 805) X rfl dL_acts_804 rfl ?_
  refine AW.icmp_ne (pc' := 808) (tgt := 821) X dL_acts_805 rfl rfl (fun q3 => ?_) (fun q3 => ?_)
  · replace h := iten q3 h
    refine AW.sub (ls' := [(0, .ref a0), (6, .int (bz sb0))]) [1, 0] rfl ?_
    exact ok_L_acts_821 X hr h0 sb0 v2.2 R h
  · replace h := itep q3 h
    refine AW.aload_n (k0 := 1) (pc' := 809) X rfl rfl dL_acts_808 rfl ?_
    obtain ⟨v4, c4, h⟩ := Option.bind_eq_some_iff.mp h
    refine AW.callV (As := []) (rest := []) (rv := (some (.int v4.1))) (M' := v4.2) (pc' := 812) X (ok_X6_run h0 c4) yv_X6_run (h0).1.1 (h0).1.2.1 (cX h0 dA ad _) rfl rfl ml_L_116 ⟨by decide, by decide, by decide, by decide⟩ rfl (Nat.le_of_ble_eq_true rfl) rfl rfl dL_acts_809 rfl ?_
    refine AW.bipush (v := (-3)) (pc' := 814) X rfl dL_acts_812 rfl ?_
    refine AW.icmp_ne (pc' := 817) (tgt := 821) X dL_acts_814 rfl rfl (fun q5 => ?_) (fun q5 => ?_)
    · replace h := iten q5 h
      refine AW.sub (ls' := [(0, .ref a0), (6, .int (bz sb0))]) [1, 0] rfl ?_
      exact ok_L_acts_821 X hr h0 sb0 v4.2 R h
    · replace h := itep q5 h
      refine AW.iconst (v := 1) (pc' := 818) X rfl dL_acts_817 rfl ?_
      refine AW.goto (pc' := 822) X dL_acts_818 rfl ?_
      refine AW.sub (ls' := [(0, .ref a0), (6, .int (bz sb0))]) [1, 0] rfl ?_
      exact ok_L_acts_822 X hr h0 sb0 true v4.2 R h
set_option maxHeartbeats 4000000 in
set_option maxRecDepth 100000 in
theorem ok_L_acts_786 {a0 : Nat} (X : CX p s m args meth c cL_acts 11 RL D dA ad lo n A) (hr : meth.sig.returnType = (some .boolean)) (h0 : tSS lo n a0) : ∀ (M : MM) (R : (Bool × MM)), f_L_acts_786 a0 M = some R → AR p l e 7 180 s m args below meth c D dA ad lo n 11 A (some (.int (bz R.1))) R.2 786 [(0, .ref a0)] [] M := by
  intro M R h
  unfold f_L_acts_786 at h
  refine AW.iconst (v := 1) (pc' := 787) X rfl dL_acts_786 rfl ?_
  refine AW.goto (pc' := 791) X dL_acts_787 rfl ?_
  exact ok_L_acts_791 X hr h0 true M R h
set_option maxHeartbeats 4000000 in
set_option maxRecDepth 100000 in
theorem ok_L_acts_1001 {a0 : Nat} (X : CX p s m args meth c cL_acts 11 RL D dA ad lo n A) (hr : meth.sig.returnType = (some .boolean)) (h0 : tSS lo n a0) : ∀ (sb0 : Bool) (M : MM) (R : (Bool × MM)), f_L_acts_1001 a0 sb0 M = some R → AR p l e 7 180 s m args below meth c D dA ad lo n 11 A (some (.int (bz R.1))) R.2 1001 [] [.int (bz sb0)] M := by
  intro sb0 M R h
  unfold f_L_acts_1001 at h
  replace h := Option.some.inj h
  subst h
  exact AW.zret (b := sb0) X hr dL_acts_1001
set_option maxHeartbeats 4000000 in
set_option maxRecDepth 100000 in
theorem ok_L_acts_981 {a0 : Nat} (X : CX p s m args meth c cL_acts 11 RL D dA ad lo n A) (hr : meth.sig.returnType = (some .boolean)) (h0 : tSS lo n a0) : ∀ (M : MM) (R : (Bool × MM)), f_L_acts_981 a0 M = some R → AR p l e 7 180 s m args below meth c D dA ad lo n 11 A (some (.int (bz R.1))) R.2 981 [] [] M := by
  intro M R h
  unfold f_L_acts_981 at h
  refine AW.iconst (v := 1) (pc' := 982) X rfl dL_acts_981 rfl ?_
  refine AW.goto (pc' := 1001) X dL_acts_982 rfl ?_
  exact ok_L_acts_1001 X hr h0 true M R h
set_option maxHeartbeats 4000000 in
set_option maxRecDepth 100000 in
theorem ok_L_acts {lo n : Nat} {a0 : Nat} {x1 : Int32} {x2 : Int32} {M : MM} {R : (Bool × MM)} (h0 : tSS lo n a0) (h : f_L_acts a0 x1 x2 M = some R) : MC yL_acts cL_acts 11 (some .boolean) 7 180 lo n [.ref a0, .int x1, .int x2] M (some (.int (bz R.1))) R.2 := by
  refine MC.of (ls0 := [(0, .ref a0), (1, .int x1), (2, .int x2)]) (by decide) rfl (fun _ => Nat.le_of_ble_eq_true rfl) (fun p l e s m args below meth c D dA ad A X hr => ?_)
  replace X : CX p s m args meth c cL_acts 11 RL D dA ad lo n A := X
  unfold f_L_acts at h
  refine AW.iload_n (k0 := 1) (pc' := 1) X rfl rfl dL_acts_0 rfl ?_
  refine AW.bipush (v := 15) (pc' := 3) X rfl dL_acts_1 rfl ?_
  refine AW.iand (pc' := 4) X dL_acts_3 rfl ?_
  refine AW.istore_n (ls' := [(3, .int (x1 &&& 15)), (0, .ref a0), (1, .int x1), (2, .int x2)]) (pc' := 5) X rfl (by decide) rfl dL_acts_4 rfl ?_
  refine AW.aload_n (k0 := 1) (pc' := 6) X rfl rfl dL_acts_5 rfl ?_
  obtain ⟨v1, c1, h⟩ := Option.bind_eq_some_iff.mp h
  refine AW.callS (As := [.ref a0]) (rest := []) (rv := (some (.int (bz v1)))) (M' := M) (pc' := 9) X (ok_L_rests h0 c1) yv_L_rests ml_L_15 ⟨by decide, by decide, by decide, by decide⟩ rfl (Nat.le_of_ble_eq_true rfl) rfl rfl dL_acts_6 rfl ?_
  refine AW.istore (ls' := [(4, .int (bz v1)), (3, .int (x1 &&& 15)), (0, .ref a0), (1, .int x1), (2, .int x2)]) (pc' := 11) X (by decide) rfl dL_acts_9 rfl ?_
  refine AW.aload_n (k0 := 2) (pc' := 12) X rfl rfl dL_acts_11 rfl ?_
  refine AW.iconst (v := 0) (pc' := 13) X rfl dL_acts_12 rfl ?_
  obtain ⟨v2, c2, h⟩ := Option.bind_eq_some_iff.mp h
  refine AW.callV (As := [.int 0]) (rest := []) (rv := (some (.int v2))) (M' := M) (pc' := 16) X (ok_X6_total h0 c2) yv_X6_total (h0).1.1 (h0).1.2.1 (cX h0 dA ad _) rfl rfl ml_L_8 ⟨by decide, by decide, by decide, by decide⟩ rfl (Nat.le_of_ble_eq_true rfl) rfl rfl dL_acts_13 rfl ?_
  refine AW.istore (ls' := [(5, .int v2), (4, .int (bz v1)), (3, .int (x1 &&& 15)), (0, .ref a0), (1, .int x1), (2, .int x2)]) (pc' := 18) X (by decide) rfl dL_acts_16 rfl ?_
  refine AW.iload_n (k0 := 2) (pc' := 19) X rfl rfl dL_acts_18 rfl ?_
  refine AW.iconst (v := 4) (pc' := 20) X rfl dL_acts_19 rfl ?_
  refine AW.icmp_ge (pc' := 23) (tgt := 116) X dL_acts_20 rfl rfl (fun q3 => ?_) (fun q3 => ?_)
  · replace h := itep q3 h
    refine AW.iload_n (k0 := 2) (pc' := 117) X rfl rfl dL_acts_116 rfl ?_
    refine AW.bipush (v := 6) (pc' := 119) X rfl dL_acts_117 rfl ?_
    refine AW.icmp_ge (pc' := 122) (tgt := 245) X dL_acts_119 rfl rfl (fun q4 => ?_) (fun q4 => ?_)
    · replace h := itep q4 h
      refine AW.iload_n (k0 := 2) (pc' := 246) X rfl rfl dL_acts_245 rfl ?_
      refine AW.bipush (v := 6) (pc' := 248) X rfl dL_acts_246 rfl ?_
      refine AW.icmp_ne (pc' := 251) (tgt := 309) X dL_acts_248 rfl rfl (fun q5 => ?_) (fun q5 => ?_)
      · replace h := iten q5 h
        refine AW.iload_n (k0 := 2) (pc' := 310) X rfl rfl dL_acts_309 rfl ?_
        refine AW.bipush (v := 7) (pc' := 312) X rfl dL_acts_310 rfl ?_
        refine AW.icmp_ne (pc' := 315) (tgt := 402) X dL_acts_312 rfl rfl (fun q6 => ?_) (fun q6 => ?_)
        · replace h := iten q6 h
          refine AW.iload_n (k0 := 2) (pc' := 403) X rfl rfl dL_acts_402 rfl ?_
          refine AW.bipush (v := 8) (pc' := 405) X rfl dL_acts_403 rfl ?_
          refine AW.icmp_ne (pc' := 408) (tgt := 570) X dL_acts_405 rfl rfl (fun q7 => ?_) (fun q7 => ?_)
          · replace h := iten q7 h
            refine AW.iload_n (k0 := 2) (pc' := 571) X rfl rfl dL_acts_570 rfl ?_
            refine AW.bipush (v := 9) (pc' := 573) X rfl dL_acts_571 rfl ?_
            refine AW.icmp_ne (pc' := 576) (tgt := 652) X dL_acts_573 rfl rfl (fun q8 => ?_) (fun q8 => ?_)
            · replace h := iten q8 h
              refine AW.iload_n (k0 := 2) (pc' := 653) X rfl rfl dL_acts_652 rfl ?_
              refine AW.bipush (v := 10) (pc' := 655) X rfl dL_acts_653 rfl ?_
              refine AW.icmp_ne (pc' := 658) (tgt := 744) X dL_acts_655 rfl rfl (fun q9 => ?_) (fun q9 => ?_)
              · replace h := iten q9 h
                refine AW.iload_n (k0 := 2) (pc' := 745) X rfl rfl dL_acts_744 rfl ?_
                refine AW.bipush (v := 11) (pc' := 747) X rfl dL_acts_745 rfl ?_
                refine AW.icmp_ne (pc' := 750) (tgt := 763) X dL_acts_747 rfl rfl (fun q10 => ?_) (fun q10 => ?_)
                · replace h := iten q10 h
                  refine AW.iload_n (k0 := 2) (pc' := 764) X rfl rfl dL_acts_763 rfl ?_
                  refine AW.bipush (v := 12) (pc' := 766) X rfl dL_acts_764 rfl ?_
                  refine AW.icmp_ne (pc' := 769) (tgt := 933) X dL_acts_766 rfl rfl (fun q11 => ?_) (fun q11 => ?_)
                  · replace h := iten q11 h
                    refine AW.aload_n (k0 := 3) (pc' := 934) X rfl rfl dL_acts_933 rfl ?_
                    refine AW.iconst (v := 1) (pc' := 935) X rfl dL_acts_934 rfl ?_
                    refine AW.iload_n (k0 := 5) (pc' := 936) X rfl rfl dL_acts_935 rfl ?_
                    refine AW.sipush (v := 300) (pc' := 939) X rfl dL_acts_936 rfl ?_
                    obtain ⟨v12, c12, h⟩ := Option.bind_eq_some_iff.mp h
                    refine AW.callS (As := [.int x2, .int 300]) (rest := [.int 1, .ref a0]) (rv := (some (.int v12))) (M' := M) (pc' := 942) X (ok_L_low c12) yv_L_low ml_L_60 ⟨by decide, by decide, by decide, by decide⟩ rfl (Nat.le_of_ble_eq_true rfl) rfl rfl dL_acts_939 rfl ?_
                    refine AW.iadd (pc' := 943) X dL_acts_942 rfl ?_
                    refine AW.iconst (v := 1) (pc' := 944) X rfl dL_acts_943 rfl ?_
                    refine AW.iload_n (k0 := 5) (pc' := 945) X rfl rfl dL_acts_944 rfl ?_
                    refine AW.iconst (v := 4) (pc' := 946) X rfl dL_acts_945 rfl ?_
                    refine AW.ishr (pc' := 947) X dL_acts_946 rfl ?_
                    refine AW.sipush (v := 5000) (pc' := 950) X rfl dL_acts_947 rfl ?_
                    obtain ⟨v13, c13, h⟩ := Option.bind_eq_some_iff.mp h
                    refine AW.callS (As := [.int (x2 >>> (4 &&& 31)), .int 5000]) (rest := [.int 1, .int (1 + v12), .ref a0]) (rv := (some (.int v13))) (M' := M) (pc' := 953) X (ok_L_low c13) yv_L_low ml_L_60 ⟨by decide, by decide, by decide, by decide⟩ rfl (Nat.le_of_ble_eq_true rfl) rfl rfl dL_acts_950 rfl ?_
                    refine AW.iadd (pc' := 954) X dL_acts_953 rfl ?_
                    obtain ⟨v14, c14, h⟩ := Option.bind_eq_some_iff.mp h
                    refine AW.callV (As := [.int (1 + v12), .int (1 + v13)]) (rest := []) (rv := (some (.int v14.1))) (M' := v14.2) (pc' := 957) X (ok_X6_setPoint h0 c14) yv_X6_setPoint (h0).1.1 (h0).1.2.1 (cX h0 dA ad _) rfl rfl ml_L_119 ⟨by decide, by decide, by decide, by decide⟩ rfl (Nat.le_of_ble_eq_true rfl) rfl rfl dL_acts_954 rfl ?_
                    refine AW.istore (ls' := [(6, .int (v14.1)), (5, .int v2), (4, .int (bz v1)), (3, .int (x1 &&& 15)), (0, .ref a0), (1, .int x1), (2, .int x2)]) (pc' := 959) X (by decide) rfl dL_acts_957 rfl ?_
                    refine AW.iload (k0 := 2) (pc' := 961) X rfl dL_acts_959 rfl ?_
                    refine AW.if_eq (pc' := 964) (tgt := 989) X dL_acts_961 rfl rfl (fun q15 => ?_) (fun q15 => ?_)
                    · replace h := itep q15 h
                      refine AW.iload (k0 := 0) (pc' := 991) X rfl dL_acts_989 rfl ?_
                      refine AW.bipush (v := (-3)) (pc' := 993) X rfl dL_acts_991 rfl ?_
                      refine AW.icmp_ne (pc' := 996) (tgt := 1000) X dL_acts_993 rfl rfl (fun q16 => ?_) (fun q16 => ?_)
                      · replace h := iten q16 h
                        refine AW.iconst (v := 0) (pc' := 1001) X rfl dL_acts_1000 rfl ?_
                        refine AW.sub (ls' := []) [] rfl ?_
                        exact ok_L_acts_1001 X hr h0 false v14.2 R h
                      · replace h := itep q16 h
                        refine AW.iconst (v := 1) (pc' := 997) X rfl dL_acts_996 rfl ?_
                        refine AW.goto (pc' := 1001) X dL_acts_997 rfl ?_
                        refine AW.sub (ls' := []) [] rfl ?_
                        exact ok_L_acts_1001 X hr h0 true v14.2 R h
                    · replace h := iten q15 h
                      refine AW.iload (k0 := 0) (pc' := 966) X rfl dL_acts_964 rfl ?_
                      refine AW.bipush (v := (-4)) (pc' := 968) X rfl dL_acts_966 rfl ?_
                      refine AW.icmp_eq (pc' := 971) (tgt := 981) X dL_acts_968 rfl rfl (fun q17 => ?_) (fun q17 => ?_)
                      · replace h := itep q17 h
                        refine AW.sub (ls' := []) [] rfl ?_
                        exact ok_L_acts_981 X hr h0 v14.2 R h
                      · replace h := iten q17 h
                        refine AW.iload (k0 := 0) (pc' := 973) X rfl dL_acts_971 rfl ?_
                        refine AW.aload_n (k0 := 4) (pc' := 974) X rfl rfl dL_acts_973 rfl ?_
                        refine AW.iconst (v := 4) (pc' := 975) X rfl dL_acts_974 rfl ?_
                        obtain ⟨v18, c18, h⟩ := Option.bind_eq_some_iff.mp h
                        refine AW.callV (As := [.int 4]) (rest := [.int (v14.1)]) (rv := (some (.int v18))) (M' := v14.2) (pc' := 978) X (ok_X6_total h0 c18) yv_X6_total (h0).1.1 (h0).1.2.1 (cX h0 dA ad _) rfl rfl ml_L_8 ⟨by decide, by decide, by decide, by decide⟩ rfl (Nat.le_of_ble_eq_true rfl) rfl rfl dL_acts_975 rfl ?_
                        refine AW.icmp_ne (pc' := 981) (tgt := 985) X dL_acts_978 rfl rfl (fun q19 => ?_) (fun q19 => ?_)
                        · replace h := iten q19 h
                          refine AW.iconst (v := 0) (pc' := 986) X rfl dL_acts_985 rfl ?_
                          refine AW.goto (pc' := 1001) X dL_acts_986 rfl ?_
                          refine AW.sub (ls' := []) [] rfl ?_
                          exact ok_L_acts_1001 X hr h0 false v14.2 R h
                        · replace h := itep q19 h
                          refine AW.sub (ls' := []) [] rfl ?_
                          exact ok_L_acts_981 X hr h0 v14.2 R h
                  · replace h := itep q11 h
                    refine AW.aload_n (k0 := 3) (pc' := 770) X rfl rfl dL_acts_769 rfl ?_
                    obtain ⟨v20, c20, h⟩ := Option.bind_eq_some_iff.mp h
                    refine AW.callV (As := []) (rest := []) (rv := (some (.int v20.1))) (M' := v20.2) (pc' := 773) X (ok_X6_clearText h0 c20) yv_X6_clearText (h0).1.1 (h0).1.2.1 (cX h0 dA ad _) rfl rfl ml_L_107 ⟨by decide, by decide, by decide, by decide⟩ rfl (Nat.le_of_ble_eq_true rfl) rfl rfl dL_acts_770 rfl ?_
                    refine AW.pop (pc' := 774) X rfl dL_acts_773 rfl ?_
                    refine AW.iload (k0 := 0) (pc' := 776) X rfl dL_acts_774 rfl ?_
                    refine AW.iconst (v := 1) (pc' := 777) X rfl dL_acts_776 rfl ?_
                    refine AW.icmp_eq (pc' := 780) (tgt := 786) X dL_acts_777 rfl rfl (fun q21 => ?_) (fun q21 => ?_)
                    · replace h := itep q21 h
                      refine AW.sub (ls' := [(0, .ref a0)]) [3] rfl ?_
                      exact ok_L_acts_786 X hr h0 v20.2 R h
                    · replace h := iten q21 h
                      refine AW.iload (k0 := 0) (pc' := 782) X rfl dL_acts_780 rfl ?_
                      refine AW.iconst (v := 2) (pc' := 783) X rfl dL_acts_782 rfl ?_
                      refine AW.icmp_ne (pc' := 786) (tgt := 790) X dL_acts_783 rfl rfl (fun q22 => ?_) (fun q22 => ?_)
                      · replace h := iten q22 h
                        refine AW.iconst (v := 0) (pc' := 791) X rfl dL_acts_790 rfl ?_
                        refine AW.sub (ls' := [(0, .ref a0)]) [3] rfl ?_
                        exact ok_L_acts_791 X hr h0 false v20.2 R h
                      · replace h := itep q22 h
                        refine AW.sub (ls' := [(0, .ref a0)]) [3] rfl ?_
                        exact ok_L_acts_786 X hr h0 v20.2 R h
                · replace h := itep q10 h
                  refine AW.aload_n (k0 := 3) (pc' := 751) X rfl rfl dL_acts_750 rfl ?_
                  refine AW.iconst (v := 1) (pc' := 752) X rfl dL_acts_751 rfl ?_
                  refine AW.iload_n (k0 := 5) (pc' := 753) X rfl rfl dL_acts_752 rfl ?_
                  refine AW.bipush (v := 60) (pc' := 755) X rfl dL_acts_753 rfl ?_
                  obtain ⟨v23, c23, h⟩ := Option.bind_eq_some_iff.mp h
                  refine AW.callS (As := [.int x2, .int 60]) (rest := [.int 1, .ref a0]) (rv := (some (.int v23))) (M' := M) (pc' := 758) X (ok_L_low c23) yv_L_low ml_L_60 ⟨by decide, by decide, by decide, by decide⟩ rfl (Nat.le_of_ble_eq_true rfl) rfl rfl dL_acts_755 rfl ?_
                  refine AW.iadd (pc' := 759) X dL_acts_758 rfl ?_
                  obtain ⟨v24, c24, h⟩ := Option.bind_eq_some_iff.mp h
                  refine AW.callS (As := [.ref a0, .int (1 + v23)]) (rest := []) (rv := (some (.int (bz v24.1)))) (M' := v24.2) (pc' := 762) X (ok_L_foretells h0 c24) yv_L_foretells ml_L_103 ⟨by decide, by decide, by decide, by decide⟩ rfl (Nat.le_of_ble_eq_true rfl) rfl rfl dL_acts_759 rfl ?_
                  replace h := Option.some.inj h
                  subst h
                  exact AW.zret (b := v24.1) X hr dL_acts_762
              · replace h := itep q9 h
                refine AW.iload_n (k0 := 5) (pc' := 659) X rfl rfl dL_acts_658 rfl ?_
                refine AW.aload_n (k0 := 3) (pc' := 660) X rfl rfl dL_acts_659 rfl ?_
                refine AW.iconst (v := 5) (pc' := 661) X rfl dL_acts_660 rfl ?_
                obtain ⟨v25, c25, h⟩ := Option.bind_eq_some_iff.mp h
                refine AW.callV (As := [.int 5]) (rest := [.int x2]) (rv := (some (.int v25))) (M' := M) (pc' := 664) X (ok_X6_total h0 c25) yv_X6_total (h0).1.1 (h0).1.2.1 (cX h0 dA ad _) rfl rfl ml_L_8 ⟨by decide, by decide, by decide, by decide⟩ rfl (Nat.le_of_ble_eq_true rfl) rfl rfl dL_acts_661 rfl ?_
                obtain ⟨v26, c26, h⟩ := Option.bind_eq_some_iff.mp h
                refine AW.callS (As := [.int x2, .int v25]) (rest := []) (rv := (some (.int v26))) (M' := M) (pc' := 667) X (ok_L_low c26) yv_L_low ml_L_60 ⟨by decide, by decide, by decide, by decide⟩ rfl (Nat.le_of_ble_eq_true rfl) rfl rfl dL_acts_664 rfl ?_
                refine AW.istore (ls' := [(6, .int v26), (5, .int v2), (4, .int (bz v1)), (3, .int (x1 &&& 15)), (0, .ref a0), (1, .int x1), (2, .int x2)]) (pc' := 669) X (by decide) rfl dL_acts_667 rfl ?_
                refine AW.aload_n (k0 := 4) (pc' := 670) X rfl rfl dL_acts_669 rfl ?_
                refine AW.iload (k0 := 0) (pc' := 672) X rfl dL_acts_670 rfl ?_
                refine AW.iconst (v := 3) (pc' := 673) X rfl dL_acts_672 rfl ?_
                obtain ⟨v27, c27, h⟩ := Option.bind_eq_some_iff.mp h
                refine AW.callV (As := [.int v26, .int 3]) (rest := []) (rv := (some (.int v27))) (M' := M) (pc' := 676) X (ok_X6_channel h0 c27) yv_X6_channel (h0).1.1 (h0).1.2.1 (cX h0 dA ad _) rfl rfl ml_L_41 ⟨by decide, by decide, by decide, by decide⟩ rfl (Nat.le_of_ble_eq_true rfl) rfl rfl dL_acts_673 rfl ?_
                refine AW.istore (ls' := [(7, .int v27), (6, .int v26), (5, .int v2), (4, .int (bz v1)), (3, .int (x1 &&& 15)), (0, .ref a0), (1, .int x1), (2, .int x2)]) (pc' := 678) X (by decide) rfl dL_acts_676 rfl ?_
                refine AW.iconst (v := 1) (pc' := 679) X rfl dL_acts_678 rfl ?_
                refine AW.iload_n (k0 := 7) (pc' := 680) X rfl rfl dL_acts_679 rfl ?_
                refine AW.iconst (v := 3) (pc' := 681) X rfl dL_acts_680 rfl ?_
                refine AW.ishr (pc' := 682) X dL_acts_681 rfl ?_
                refine AW.sipush (v := 300) (pc' := 685) X rfl dL_acts_682 rfl ?_
                obtain ⟨v28, c28, h⟩ := Option.bind_eq_some_iff.mp h
                refine AW.callS (As := [.int (x2 >>> (3 &&& 31)), .int 300]) (rest := [.int 1]) (rv := (some (.int v28))) (M' := M) (pc' := 688) X (ok_L_low c28) yv_L_low ml_L_60 ⟨by decide, by decide, by decide, by decide⟩ rfl (Nat.le_of_ble_eq_true rfl) rfl rfl dL_acts_685 rfl ?_
                refine AW.iadd (pc' := 689) X dL_acts_688 rfl ?_
                refine AW.istore (ls' := [(8, .int (1 + v28)), (7, .int v27), (6, .int v26), (5, .int v2), (4, .int (bz v1)), (3, .int (x1 &&& 15)), (0, .ref a0), (1, .int x1), (2, .int x2)]) (pc' := 691) X (by decide) rfl dL_acts_689 rfl ?_
                refine AW.aload_n (k0 := 6) (pc' := 692) X rfl rfl dL_acts_691 rfl ?_
                refine AW.iload (k0 := 2) (pc' := 694) X rfl dL_acts_692 rfl ?_
                refine AW.iload (k0 := 0) (pc' := 696) X rfl dL_acts_694 rfl ?_
                refine AW.iload (k0 := 0) (pc' := 698) X rfl dL_acts_696 rfl ?_
                refine AW.iload_n (k0 := 8) (pc' := 699) X rfl rfl dL_acts_698 rfl ?_
                refine AW.iconst (v := 5) (pc' := 700) X rfl dL_acts_699 rfl ?_
                refine AW.ishr (pc' := 701) X dL_acts_700 rfl ?_
                refine AW.bipush (v := 100) (pc' := 703) X rfl dL_acts_701 rfl ?_
                obtain ⟨v29, c29, h⟩ := Option.bind_eq_some_iff.mp h
                refine AW.callS (As := [.int (x2 >>> (5 &&& 31)), .int 100]) (rest := [.int (1 + v28), .int (1 + v28), .int v26, .ref a0]) (rv := (some (.int v29))) (M' := M) (pc' := 706) X (ok_L_low c29) yv_L_low ml_L_60 ⟨by decide, by decide, by decide, by decide⟩ rfl (Nat.le_of_ble_eq_true rfl) rfl rfl dL_acts_703 rfl ?_
                refine AW.iadd (pc' := 707) X dL_acts_706 rfl ?_
                refine AW.iconst (v := 1) (pc' := 708) X rfl dL_acts_707 rfl ?_
                refine AW.iload_n (k0 := 8) (pc' := 709) X rfl rfl dL_acts_708 rfl ?_
                refine AW.bipush (v := 7) (pc' := 711) X rfl dL_acts_709 rfl ?_
                refine AW.ishr (pc' := 712) X dL_acts_711 rfl ?_
                refine AW.sipush (v := 3000) (pc' := 715) X rfl dL_acts_712 rfl ?_
                obtain ⟨v30, c30, h⟩ := Option.bind_eq_some_iff.mp h
                refine AW.callS (As := [.int (x2 >>> (7 &&& 31)), .int 3000]) (rest := [.int 1, .int ((1 + v28) + v29), .int (1 + v28), .int v26, .ref a0]) (rv := (some (.int v30))) (M' := M) (pc' := 718) X (ok_L_low c30) yv_L_low ml_L_60 ⟨by decide, by decide, by decide, by decide⟩ rfl (Nat.le_of_ble_eq_true rfl) rfl rfl dL_acts_715 rfl ?_
                refine AW.iadd (pc' := 719) X dL_acts_718 rfl ?_
                obtain ⟨v31, c31, h⟩ := Option.bind_eq_some_iff.mp h
                refine AW.callV (As := [.int v26, .int (1 + v28), .int ((1 + v28) + v29), .int (1 + v30)]) (rest := []) (rv := (some (.int v31.1))) (M' := v31.2) (pc' := 722) X (ok_X6_addNotch h0 c31) yv_X6_addNotch (h0).1.1 (h0).1.2.1 (cX h0 dA ad _) rfl rfl ml_L_99 ⟨by decide, by decide, by decide, by decide⟩ rfl (Nat.le_of_ble_eq_true rfl) rfl rfl dL_acts_719 rfl ?_
                refine AW.iload (k0 := 1) (pc' := 724) X rfl dL_acts_722 rfl ?_
                refine AW.iconst (v := 4) (pc' := 725) X rfl dL_acts_724 rfl ?_
                refine AW.icmp_ne (pc' := 728) (tgt := 733) X dL_acts_725 rfl rfl (fun q32 => ?_) (fun q32 => ?_)
                · replace h := iten q32 h
                  refine AW.iload (k0 := 1) (pc' := 735) X rfl dL_acts_733 rfl ?_
                  refine AW.sub (ls' := []) [] rfl ?_
                  exact ok_L_acts_735 X hr h0 v27 v31.1 v31.2 R h
                · replace h := itep q32 h
                  refine AW.bipush (v := (-4)) (pc' := 730) X rfl dL_acts_728 rfl ?_
                  refine AW.goto (pc' := 735) X dL_acts_730 rfl ?_
                  refine AW.sub (ls' := []) [] rfl ?_
                  exact ok_L_acts_735 X hr h0 (-4) v31.1 v31.2 R h
            · replace h := itep q8 h
              refine AW.iload_n (k0 := 5) (pc' := 577) X rfl rfl dL_acts_576 rfl ?_
              refine AW.aload_n (k0 := 3) (pc' := 578) X rfl rfl dL_acts_577 rfl ?_
              refine AW.iconst (v := 5) (pc' := 579) X rfl dL_acts_578 rfl ?_
              obtain ⟨v33, c33, h⟩ := Option.bind_eq_some_iff.mp h
              refine AW.callV (As := [.int 5]) (rest := [.int x2]) (rv := (some (.int v33))) (M' := M) (pc' := 582) X (ok_X6_total h0 c33) yv_X6_total (h0).1.1 (h0).1.2.1 (cX h0 dA ad _) rfl rfl ml_L_8 ⟨by decide, by decide, by decide, by decide⟩ rfl (Nat.le_of_ble_eq_true rfl) rfl rfl dL_acts_579 rfl ?_
              obtain ⟨v34, c34, h⟩ := Option.bind_eq_some_iff.mp h
              refine AW.callS (As := [.int x2, .int v33]) (rest := []) (rv := (some (.int v34))) (M' := M) (pc' := 585) X (ok_L_low c34) yv_L_low ml_L_60 ⟨by decide, by decide, by decide, by decide⟩ rfl (Nat.le_of_ble_eq_true rfl) rfl rfl dL_acts_582 rfl ?_
              refine AW.istore (ls' := [(6, .int v34), (5, .int v2), (4, .int (bz v1)), (3, .int (x1 &&& 15)), (0, .ref a0), (1, .int x1), (2, .int x2)]) (pc' := 587) X (by decide) rfl dL_acts_585 rfl ?_
              refine AW.iconst (v := 1) (pc' := 588) X rfl dL_acts_587 rfl ?_
              refine AW.iload_n (k0 := 6) (pc' := 589) X rfl rfl dL_acts_588 rfl ?_
              refine AW.iconst (v := 3) (pc' := 590) X rfl dL_acts_589 rfl ?_
              refine AW.ishr (pc' := 591) X dL_acts_590 rfl ?_
              refine AW.sipush (v := 300) (pc' := 594) X rfl dL_acts_591 rfl ?_
              obtain ⟨v35, c35, h⟩ := Option.bind_eq_some_iff.mp h
              refine AW.callS (As := [.int (x2 >>> (3 &&& 31)), .int 300]) (rest := [.int 1]) (rv := (some (.int v35))) (M' := M) (pc' := 597) X (ok_L_low c35) yv_L_low ml_L_60 ⟨by decide, by decide, by decide, by decide⟩ rfl (Nat.le_of_ble_eq_true rfl) rfl rfl dL_acts_594 rfl ?_
              refine AW.iadd (pc' := 598) X dL_acts_597 rfl ?_
              refine AW.istore (ls' := [(7, .int (1 + v35)), (6, .int v34), (5, .int v2), (4, .int (bz v1)), (3, .int (x1 &&& 15)), (0, .ref a0), (1, .int x1), (2, .int x2)]) (pc' := 600) X (by decide) rfl dL_acts_598 rfl ?_
              refine AW.aload_n (k0 := 5) (pc' := 601) X rfl rfl dL_acts_600 rfl ?_
              refine AW.iload (k0 := 1) (pc' := 603) X rfl dL_acts_601 rfl ?_
              refine AW.iload_n (k0 := 7) (pc' := 604) X rfl rfl dL_acts_603 rfl ?_
              refine AW.iconst (v := 2) (pc' := 605) X rfl dL_acts_604 rfl ?_
              refine AW.ishr (pc' := 606) X dL_acts_605 rfl ?_
              refine AW.iconst (v := 3) (pc' := 607) X rfl dL_acts_606 rfl ?_
              obtain ⟨v36, c36, h⟩ := Option.bind_eq_some_iff.mp h
              refine AW.callS (As := [.int (x2 >>> (2 &&& 31)), .int 3]) (rest := [.int v34, .ref a0]) (rv := (some (.int v36))) (M' := M) (pc' := 610) X (ok_L_low c36) yv_L_low ml_L_60 ⟨by decide, by decide, by decide, by decide⟩ rfl (Nat.le_of_ble_eq_true rfl) rfl rfl dL_acts_607 rfl ?_
              refine AW.iload (k0 := 0) (pc' := 612) X rfl dL_acts_610 rfl ?_
              refine AW.iconst (v := 1) (pc' := 613) X rfl dL_acts_612 rfl ?_
              refine AW.iload_n (k0 := 7) (pc' := 614) X rfl rfl dL_acts_613 rfl ?_
              refine AW.iconst (v := 5) (pc' := 615) X rfl dL_acts_614 rfl ?_
              refine AW.ishr (pc' := 616) X dL_acts_615 rfl ?_
              refine AW.bipush (v := 60) (pc' := 618) X rfl dL_acts_616 rfl ?_
              obtain ⟨v37, c37, h⟩ := Option.bind_eq_some_iff.mp h
              refine AW.callS (As := [.int (x2 >>> (5 &&& 31)), .int 60]) (rest := [.int 1, .int (1 + v35), .int v36, .int v34, .ref a0]) (rv := (some (.int v37))) (M' := M) (pc' := 621) X (ok_L_low c37) yv_L_low ml_L_60 ⟨by decide, by decide, by decide, by decide⟩ rfl (Nat.le_of_ble_eq_true rfl) rfl rfl dL_acts_618 rfl ?_
              refine AW.iadd (pc' := 622) X dL_acts_621 rfl ?_
              refine AW.iload_n (k0 := 7) (pc' := 623) X rfl rfl dL_acts_622 rfl ?_
              refine AW.bipush (v := 7) (pc' := 625) X rfl dL_acts_623 rfl ?_
              refine AW.ishr (pc' := 626) X dL_acts_625 rfl ?_
              refine AW.sipush (v := 4000) (pc' := 629) X rfl dL_acts_626 rfl ?_
              obtain ⟨v38, c38, h⟩ := Option.bind_eq_some_iff.mp h
              refine AW.callS (As := [.int (x2 >>> (7 &&& 31)), .int 4000]) (rest := [.int (1 + v37), .int (1 + v35), .int v36, .int v34, .ref a0]) (rv := (some (.int v38))) (M' := M) (pc' := 632) X (ok_L_low c38) yv_L_low ml_L_60 ⟨by decide, by decide, by decide, by decide⟩ rfl (Nat.le_of_ble_eq_true rfl) rfl rfl dL_acts_629 rfl ?_
              obtain ⟨v39, c39, h⟩ := Option.bind_eq_some_iff.mp h
              refine AW.callV (As := [.int v34, .int v36, .int (1 + v35), .int (1 + v37), .int v38]) (rest := []) (rv := (some (.int v39.1))) (M' := v39.2) (pc' := 635) X (ok_X6_setMode h0 c39) yv_X6_setMode (h0).1.1 (h0).1.2.1 (cX h0 dA ad _) rfl rfl ml_L_95 ⟨by decide, by decide, by decide, by decide⟩ rfl (Nat.le_of_ble_eq_true rfl) rfl rfl dL_acts_632 rfl ?_
              refine AW.aload_n (k0 := 5) (pc' := 636) X rfl rfl dL_acts_635 rfl ?_
              refine AW.iload (k0 := 1) (pc' := 638) X rfl dL_acts_636 rfl ?_
              refine AW.iload (k0 := 0) (pc' := 640) X rfl dL_acts_638 rfl ?_
              obtain ⟨v40, c40, h⟩ := Option.bind_eq_some_iff.mp h
              refine AW.callV (As := [.int v34, .int (1 + v35)]) (rest := [.int (v39.1)]) (rv := (some (.int v40))) (M' := v39.2) (pc' := 643) X (ok_X6_gain h0 c40) yv_X6_gain (h0).1.1 (h0).1.2.1 (cX h0 dA ad _) rfl rfl ml_L_57 ⟨by decide, by decide, by decide, by decide⟩ rfl (Nat.le_of_ble_eq_true rfl) rfl rfl dL_acts_640 rfl ?_
              refine AW.icmp_ne (pc' := 646) (tgt := 650) X dL_acts_643 rfl rfl (fun q41 => ?_) (fun q41 => ?_)
              · replace h := iten q41 h
                refine AW.iconst (v := 0) (pc' := 651) X rfl dL_acts_650 rfl ?_
                refine AW.sub (ls' := []) [] rfl ?_
                exact ok_L_acts_651 X hr h0 false v39.2 R h
              · replace h := itep q41 h
                refine AW.iconst (v := 1) (pc' := 647) X rfl dL_acts_646 rfl ?_
                refine AW.goto (pc' := 651) X dL_acts_647 rfl ?_
                refine AW.sub (ls' := []) [] rfl ?_
                exact ok_L_acts_651 X hr h0 true v39.2 R h
          · replace h := itep q7 h
            refine AW.iload_n (k0 := 5) (pc' := 409) X rfl rfl dL_acts_408 rfl ?_
            refine AW.bipush (v := 6) (pc' := 411) X rfl dL_acts_409 rfl ?_
            obtain ⟨v42, c42, h⟩ := Option.bind_eq_some_iff.mp h
            refine AW.callS (As := [.int x2, .int 6]) (rest := []) (rv := (some (.int v42))) (M' := M) (pc' := 414) X (ok_L_low c42) yv_L_low ml_L_60 ⟨by decide, by decide, by decide, by decide⟩ rfl (Nat.le_of_ble_eq_true rfl) rfl rfl dL_acts_411 rfl ?_
            refine AW.istore (ls' := [(6, .int v42), (5, .int v2), (4, .int (bz v1)), (3, .int (x1 &&& 15)), (0, .ref a0), (1, .int x1), (2, .int x2)]) (pc' := 416) X (by decide) rfl dL_acts_414 rfl ?_
            refine AW.aload_n (k0 := 4) (pc' := 417) X rfl rfl dL_acts_416 rfl ?_
            refine AW.bipush (v := 14) (pc' := 419) X rfl dL_acts_417 rfl ?_
            refine AW.iload (k0 := 0) (pc' := 421) X rfl dL_acts_419 rfl ?_
            refine AW.iadd (pc' := 422) X dL_acts_421 rfl ?_
            obtain ⟨v43, c43, h⟩ := Option.bind_eq_some_iff.mp h
            refine AW.callV (As := [.int (14 + v42)]) (rest := []) (rv := (some (.int v43))) (M' := M) (pc' := 425) X (ok_X6_total h0 c43) yv_X6_total (h0).1.1 (h0).1.2.1 (cX h0 dA ad _) rfl rfl ml_L_8 ⟨by decide, by decide, by decide, by decide⟩ rfl (Nat.le_of_ble_eq_true rfl) rfl rfl dL_acts_422 rfl ?_
            refine AW.istore (ls' := [(7, .int v43), (6, .int v42), (5, .int v2), (4, .int (bz v1)), (3, .int (x1 &&& 15)), (0, .ref a0), (1, .int x1), (2, .int x2)]) (pc' := 427) X (by decide) rfl dL_acts_425 rfl ?_
            refine AW.iconst (v := 1) (pc' := 428) X rfl dL_acts_427 rfl ?_
            refine AW.iload_n (k0 := 7) (pc' := 429) X rfl rfl dL_acts_428 rfl ?_
            refine AW.iconst (v := 4) (pc' := 430) X rfl dL_acts_429 rfl ?_
            refine AW.ishr (pc' := 431) X dL_acts_430 rfl ?_
            refine AW.bipush (v := 9) (pc' := 433) X rfl dL_acts_431 rfl ?_
            obtain ⟨v44, c44, h⟩ := Option.bind_eq_some_iff.mp h
            refine AW.callS (As := [.int (x2 >>> (4 &&& 31)), .int 9]) (rest := [.int 1]) (rv := (some (.int v44))) (M' := M) (pc' := 436) X (ok_L_low c44) yv_L_low ml_L_60 ⟨by decide, by decide, by decide, by decide⟩ rfl (Nat.le_of_ble_eq_true rfl) rfl rfl dL_acts_433 rfl ?_
            refine AW.iadd (pc' := 437) X dL_acts_436 rfl ?_
            refine AW.istore (ls' := [(8, .int (1 + v44)), (7, .int v43), (6, .int v42), (5, .int v2), (4, .int (bz v1)), (3, .int (x1 &&& 15)), (0, .ref a0), (1, .int x1), (2, .int x2)]) (pc' := 439) X (by decide) rfl dL_acts_437 rfl ?_
            refine AW.aload_n (k0 := 6) (pc' := 440) X rfl rfl dL_acts_439 rfl ?_
            refine AW.iload (k0 := 2) (pc' := 442) X rfl dL_acts_440 rfl ?_
            refine AW.iload (k0 := 0) (pc' := 444) X rfl dL_acts_442 rfl ?_
            obtain ⟨v45, c45, h⟩ := Option.bind_eq_some_iff.mp h
            refine AW.callV (As := [.int v42, .int (1 + v44)]) (rest := []) (rv := (some (.int v45.1))) (M' := v45.2) (pc' := 447) X (ok_X6_set h0 c45) yv_X6_set (h0).1.1 (h0).1.2.1 (cX h0 dA ad _) rfl rfl ml_L_92 ⟨by decide, by decide, by decide, by decide⟩ rfl (Nat.le_of_ble_eq_true rfl) rfl rfl dL_acts_444 rfl ?_
            refine AW.istore (ls' := [(9, .int (v45.1)), (8, .int (1 + v44)), (7, .int v43), (6, .int v42), (5, .int v2), (4, .int (bz v1)), (3, .int (x1 &&& 15)), (0, .ref a0), (1, .int x1), (2, .int x2)]) (pc' := 449) X (by decide) rfl dL_acts_447 rfl ?_
            refine AW.iload (k0 := 3) (pc' := 451) X rfl dL_acts_449 rfl ?_
            refine AW.if_ne (pc' := 454) (tgt := 468) X dL_acts_451 rfl rfl (fun q46 => ?_) (fun q46 => ?_)
            · replace h := iten q46 h
              refine AW.iload (k0 := 3) (pc' := 470) X rfl dL_acts_468 rfl ?_
              refine AW.iconst (v := 1) (pc' := 471) X rfl dL_acts_470 rfl ?_
              refine AW.icmp_ne (pc' := 474) (tgt := 489) X dL_acts_471 rfl rfl (fun q47 => ?_) (fun q47 => ?_)
              · replace h := iten q47 h
                refine AW.iload (k0 := 3) (pc' := 491) X rfl dL_acts_489 rfl ?_
                refine AW.iconst (v := 2) (pc' := 492) X rfl dL_acts_491 rfl ?_
                refine AW.icmp_ne (pc' := 495) (tgt := 510) X dL_acts_492 rfl rfl (fun q48 => ?_) (fun q48 => ?_)
                · replace h := iten q48 h
                  refine AW.iload (k0 := 3) (pc' := 512) X rfl dL_acts_510 rfl ?_
                  refine AW.iconst (v := 4) (pc' := 513) X rfl dL_acts_512 rfl ?_
                  refine AW.icmp_eq (pc' := 516) (tgt := 520) X dL_acts_513 rfl rfl (fun q49 => ?_) (fun q49 => ?_)
                  · replace h := itep q49 h
                    refine AW.iconst (v := 0) (pc' := 521) X rfl dL_acts_520 rfl ?_
                    refine AW.sub (ls' := [(0, .ref a0), (6, .int v42), (7, .int v43), (8, .int (1 + v44)), (9, .int (v45.1))]) [7, 3, 2, 1, 0] rfl ?_
                    exact ok_L_acts_521 X hr h0 v42 v43 (1 + v44) v45.1 false v45.2 R h
                  · replace h := iten q49 h
                    refine AW.iconst (v := 1) (pc' := 517) X rfl dL_acts_516 rfl ?_
                    refine AW.goto (pc' := 521) X dL_acts_517 rfl ?_
                    refine AW.sub (ls' := [(0, .ref a0), (6, .int v42), (7, .int v43), (8, .int (1 + v44)), (9, .int (v45.1))]) [7, 3, 2, 1, 0] rfl ?_
                    exact ok_L_acts_521 X hr h0 v42 v43 (1 + v44) v45.1 true v45.2 R h
                · replace h := itep q48 h
                  refine AW.iload (k0 := 1) (pc' := 497) X rfl dL_acts_495 rfl ?_
                  refine AW.bipush (v := 6) (pc' := 499) X rfl dL_acts_497 rfl ?_
                  refine AW.icmp_ge (pc' := 502) (tgt := 506) X dL_acts_499 rfl rfl (fun q50 => ?_) (fun q50 => ?_)
                  · replace h := itep q50 h
                    refine AW.iconst (v := 0) (pc' := 507) X rfl dL_acts_506 rfl ?_
                    refine AW.goto (pc' := 521) X dL_acts_507 rfl ?_
                    refine AW.sub (ls' := [(0, .ref a0), (6, .int v42), (7, .int v43), (8, .int (1 + v44)), (9, .int (v45.1))]) [7, 3, 2, 1, 0] rfl ?_
                    exact ok_L_acts_521 X hr h0 v42 v43 (1 + v44) v45.1 false v45.2 R h
                  · replace h := iten q50 h
                    refine AW.iconst (v := 1) (pc' := 503) X rfl dL_acts_502 rfl ?_
                    refine AW.goto (pc' := 521) X dL_acts_503 rfl ?_
                    refine AW.sub (ls' := [(0, .ref a0), (6, .int v42), (7, .int v43), (8, .int (1 + v44)), (9, .int (v45.1))]) [7, 3, 2, 1, 0] rfl ?_
                    exact ok_L_acts_521 X hr h0 v42 v43 (1 + v44) v45.1 true v45.2 R h
              · replace h := itep q47 h
                refine AW.iload (k0 := 1) (pc' := 476) X rfl dL_acts_474 rfl ?_
                refine AW.bipush (v := 9) (pc' := 478) X rfl dL_acts_476 rfl ?_
                refine AW.icmp_ge (pc' := 481) (tgt := 485) X dL_acts_478 rfl rfl (fun q51 => ?_) (fun q51 => ?_)
                · replace h := itep q51 h
                  refine AW.iconst (v := 0) (pc' := 486) X rfl dL_acts_485 rfl ?_
                  refine AW.goto (pc' := 521) X dL_acts_486 rfl ?_
                  refine AW.sub (ls' := [(0, .ref a0), (6, .int v42), (7, .int v43), (8, .int (1 + v44)), (9, .int (v45.1))]) [7, 3, 2, 1, 0] rfl ?_
                  exact ok_L_acts_521 X hr h0 v42 v43 (1 + v44) v45.1 false v45.2 R h
                · replace h := iten q51 h
                  refine AW.iconst (v := 1) (pc' := 482) X rfl dL_acts_481 rfl ?_
                  refine AW.goto (pc' := 521) X dL_acts_482 rfl ?_
                  refine AW.sub (ls' := [(0, .ref a0), (6, .int v42), (7, .int v43), (8, .int (1 + v44)), (9, .int (v45.1))]) [7, 3, 2, 1, 0] rfl ?_
                  exact ok_L_acts_521 X hr h0 v42 v43 (1 + v44) v45.1 true v45.2 R h
            · replace h := itep q46 h
              refine AW.iload (k0 := 1) (pc' := 456) X rfl dL_acts_454 rfl ?_
              refine AW.iconst (v := 3) (pc' := 457) X rfl dL_acts_456 rfl ?_
              refine AW.icmp_ge (pc' := 460) (tgt := 464) X dL_acts_457 rfl rfl (fun q52 => ?_) (fun q52 => ?_)
              · replace h := itep q52 h
                refine AW.iconst (v := 0) (pc' := 465) X rfl dL_acts_464 rfl ?_
                refine AW.goto (pc' := 521) X dL_acts_465 rfl ?_
                refine AW.sub (ls' := [(0, .ref a0), (6, .int v42), (7, .int v43), (8, .int (1 + v44)), (9, .int (v45.1))]) [7, 3, 2, 1, 0] rfl ?_
                exact ok_L_acts_521 X hr h0 v42 v43 (1 + v44) v45.1 false v45.2 R h
              · replace h := iten q52 h
                refine AW.iconst (v := 1) (pc' := 461) X rfl dL_acts_460 rfl ?_
                refine AW.goto (pc' := 521) X dL_acts_461 rfl ?_
                refine AW.sub (ls' := [(0, .ref a0), (6, .int v42), (7, .int v43), (8, .int (1 + v44)), (9, .int (v45.1))]) [7, 3, 2, 1, 0] rfl ?_
                exact ok_L_acts_521 X hr h0 v42 v43 (1 + v44) v45.1 true v45.2 R h
        · replace h := itep q6 h
          refine AW.aload_n (k0 := 3) (pc' := 316) X rfl rfl dL_acts_315 rfl ?_
          refine AW.iconst (v := 1) (pc' := 317) X rfl dL_acts_316 rfl ?_
          obtain ⟨v53, c53, h⟩ := Option.bind_eq_some_iff.mp h
          refine AW.callV (As := [.int 1]) (rest := []) (rv := (some (.int v53))) (M' := M) (pc' := 320) X (ok_X6_total h0 c53) yv_X6_total (h0).1.1 (h0).1.2.1 (cX h0 dA ad _) rfl rfl ml_L_8 ⟨by decide, by decide, by decide, by decide⟩ rfl (Nat.le_of_ble_eq_true rfl) rfl rfl dL_acts_317 rfl ?_
          refine AW.istore (ls' := [(6, .int v53), (5, .int v2), (4, .int (bz v1)), (3, .int (x1 &&& 15)), (0, .ref a0), (1, .int x1), (2, .int x2)]) (pc' := 322) X (by decide) rfl dL_acts_320 rfl ?_
          refine AW.iload (k0 := 1) (pc' := 324) X rfl dL_acts_322 rfl ?_
          refine AW.iconst (v := 1) (pc' := 325) X rfl dL_acts_324 rfl ?_
          refine AW.icmp_eq (pc' := 328) (tgt := 334) X dL_acts_325 rfl rfl (fun q54 => ?_) (fun q54 => ?_)
          · replace h := itep q54 h
            refine AW.sub (ls' := [(0, .ref a0), (6, .int v53)]) [4, 0] rfl ?_
            exact ok_L_acts_334 X hr h0 v53 M R h
          · replace h := iten q54 h
            refine AW.iload (k0 := 1) (pc' := 330) X rfl dL_acts_328 rfl ?_
            refine AW.iconst (v := 2) (pc' := 331) X rfl dL_acts_330 rfl ?_
            refine AW.icmp_ne (pc' := 334) (tgt := 338) X dL_acts_331 rfl rfl (fun q55 => ?_) (fun q55 => ?_)
            · replace h := iten q55 h
              refine AW.iconst (v := 0) (pc' := 339) X rfl dL_acts_338 rfl ?_
              refine AW.sub (ls' := [(0, .ref a0), (6, .int v53)]) [4, 0] rfl ?_
              exact ok_L_acts_339 X hr h0 v53 false M R h
            · replace h := itep q55 h
              refine AW.sub (ls' := [(0, .ref a0), (6, .int v53)]) [4, 0] rfl ?_
              exact ok_L_acts_334 X hr h0 v53 M R h
      · replace h := itep q5 h
        refine AW.iload_n (k0 := 5) (pc' := 252) X rfl rfl dL_acts_251 rfl ?_
        refine AW.iconst (v := 1) (pc' := 253) X rfl dL_acts_252 rfl ?_
        refine AW.iand (pc' := 254) X dL_acts_253 rfl ?_
        refine AW.iconst (v := 1) (pc' := 255) X rfl dL_acts_254 rfl ?_
        refine AW.icmp_ne (pc' := 258) (tgt := 262) X dL_acts_255 rfl rfl (fun q56 => ?_) (fun q56 => ?_)
        · replace h := iten q56 h
          refine AW.iconst (v := 0) (pc' := 263) X rfl dL_acts_262 rfl ?_
          refine AW.sub (ls' := [(0, .ref a0), (5, .int v2)]) [3, 0] rfl ?_
          exact ok_L_acts_263 X hr h0 v2 false M R h
        · replace h := itep q56 h
          refine AW.iconst (v := 1) (pc' := 259) X rfl dL_acts_258 rfl ?_
          refine AW.goto (pc' := 263) X dL_acts_259 rfl ?_
          refine AW.sub (ls' := [(0, .ref a0), (5, .int v2)]) [3, 0] rfl ?_
          exact ok_L_acts_263 X hr h0 v2 true M R h
    · replace h := iten q4 h
      refine AW.aload_n (k0 := 3) (pc' := 123) X rfl rfl dL_acts_122 rfl ?_
      refine AW.iconst (v := 1) (pc' := 124) X rfl dL_acts_123 rfl ?_
      refine AW.iload_n (k0 := 5) (pc' := 125) X rfl rfl dL_acts_124 rfl ?_
      refine AW.sipush (v := 1000) (pc' := 128) X rfl dL_acts_125 rfl ?_
      obtain ⟨v57, c57, h⟩ := Option.bind_eq_some_iff.mp h
      refine AW.callS (As := [.int x2, .int 1000]) (rest := [.int 1, .ref a0]) (rv := (some (.int v57))) (M' := M) (pc' := 131) X (ok_L_low c57) yv_L_low ml_L_60 ⟨by decide, by decide, by decide, by decide⟩ rfl (Nat.le_of_ble_eq_true rfl) rfl rfl dL_acts_128 rfl ?_
      refine AW.iadd (pc' := 132) X dL_acts_131 rfl ?_
      obtain ⟨v58, c58, h⟩ := Option.bind_eq_some_iff.mp h
      refine AW.callV (As := [.int (1 + v57)]) (rest := []) (rv := (some (.int v58.1))) (M' := v58.2) (pc' := 135) X (ok_X6_start h0 c58) yv_X6_start (h0).1.1 (h0).1.2.1 (cX h0 dA ad _) rfl rfl ml_L_82 ⟨by decide, by decide, by decide, by decide⟩ rfl (Nat.le_of_ble_eq_true rfl) rfl rfl dL_acts_132 rfl ?_
      refine AW.istore (ls' := [(6, .int (v58.1)), (5, .int v2), (4, .int (bz v1)), (3, .int (x1 &&& 15)), (0, .ref a0), (1, .int x1), (2, .int x2)]) (pc' := 137) X (by decide) rfl dL_acts_135 rfl ?_
      refine AW.iload (k0 := 2) (pc' := 139) X rfl dL_acts_137 rfl ?_
      refine AW.if_eq (pc' := 142) (tgt := 212) X dL_acts_139 rfl rfl (fun q59 => ?_) (fun q59 => ?_)
      · replace h := itep q59 h
        refine AW.iload (k0 := 0) (pc' := 214) X rfl dL_acts_212 rfl ?_
        refine AW.bipush (v := (-5)) (pc' := 216) X rfl dL_acts_214 rfl ?_
        refine AW.icmp_ne (pc' := 219) (tgt := 243) X dL_acts_216 rfl rfl (fun q60 => ?_) (fun q60 => ?_)
        · replace h := iten q60 h
          refine AW.sub (ls' := []) [] rfl ?_
          exact ok_L_acts_243 X hr h0 v58.2 R h
        · replace h := itep q60 h
          refine AW.aload_n (k0 := 4) (pc' := 220) X rfl rfl dL_acts_219 rfl ?_
          refine AW.bipush (v := 11) (pc' := 222) X rfl dL_acts_220 rfl ?_
          obtain ⟨v61, c61, h⟩ := Option.bind_eq_some_iff.mp h
          refine AW.callV (As := [.int 11]) (rest := []) (rv := (some (.int v61))) (M' := v58.2) (pc' := 225) X (ok_X6_total h0 c61) yv_X6_total (h0).1.1 (h0).1.2.1 (cX h0 dA ad _) rfl rfl ml_L_8 ⟨by decide, by decide, by decide, by decide⟩ rfl (Nat.le_of_ble_eq_true rfl) rfl rfl dL_acts_222 rfl ?_
          refine AW.iconst (v := 1) (pc' := 226) X rfl dL_acts_225 rfl ?_
          refine AW.icmp_ne (pc' := 229) (tgt := 243) X dL_acts_226 rfl rfl (fun q62 => ?_) (fun q62 => ?_)
          · replace h := iten q62 h
            refine AW.sub (ls' := []) [] rfl ?_
            exact ok_L_acts_243 X hr h0 v58.2 R h
          · replace h := itep q62 h
            refine AW.aload_n (k0 := 4) (pc' := 230) X rfl rfl dL_acts_229 rfl ?_
            refine AW.iconst (v := 0) (pc' := 231) X rfl dL_acts_230 rfl ?_
            obtain ⟨v63, c63, h⟩ := Option.bind_eq_some_iff.mp h
            refine AW.callV (As := [.int 0]) (rest := []) (rv := (some (.int v63))) (M' := v58.2) (pc' := 234) X (ok_X6_total h0 c63) yv_X6_total (h0).1.1 (h0).1.2.1 (cX h0 dA ad _) rfl rfl ml_L_8 ⟨by decide, by decide, by decide, by decide⟩ rfl (Nat.le_of_ble_eq_true rfl) rfl rfl dL_acts_231 rfl ?_
            refine AW.iload (k0 := 1) (pc' := 236) X rfl dL_acts_234 rfl ?_
            refine AW.icmp_ne (pc' := 239) (tgt := 243) X dL_acts_236 rfl rfl (fun q64 => ?_) (fun q64 => ?_)
            · replace h := iten q64 h
              refine AW.sub (ls' := []) [] rfl ?_
              exact ok_L_acts_243 X hr h0 v58.2 R h
            · replace h := itep q64 h
              refine AW.iconst (v := 1) (pc' := 240) X rfl dL_acts_239 rfl ?_
              refine AW.goto (pc' := 244) X dL_acts_240 rfl ?_
              refine AW.sub (ls' := []) [] rfl ?_
              exact ok_L_acts_244 X hr h0 true v58.2 R h
      · replace h := iten q59 h
        refine AW.iload (k0 := 0) (pc' := 144) X rfl dL_acts_142 rfl ?_
        refine AW.aload_n (k0 := 4) (pc' := 145) X rfl rfl dL_acts_144 rfl ?_
        refine AW.iconst (v := 3) (pc' := 146) X rfl dL_acts_145 rfl ?_
        obtain ⟨v65, c65, h⟩ := Option.bind_eq_some_iff.mp h
        refine AW.callV (As := [.int 3]) (rest := [.int (v58.1)]) (rv := (some (.int v65))) (M' := v58.2) (pc' := 149) X (ok_X6_total h0 c65) yv_X6_total (h0).1.1 (h0).1.2.1 (cX h0 dA ad _) rfl rfl ml_L_8 ⟨by decide, by decide, by decide, by decide⟩ rfl (Nat.le_of_ble_eq_true rfl) rfl rfl dL_acts_146 rfl ?_
        refine AW.icmp_ne (pc' := 152) (tgt := 208) X dL_acts_149 rfl rfl (fun q66 => ?_) (fun q66 => ?_)
        · replace h := iten q66 h
          refine AW.sub (ls' := []) [] rfl ?_
          exact ok_L_acts_208 X hr h0 v58.2 R h
        · replace h := itep q66 h
          refine AW.aload_n (k0 := 4) (pc' := 153) X rfl rfl dL_acts_152 rfl ?_
          refine AW.iconst (v := 0) (pc' := 154) X rfl dL_acts_153 rfl ?_
          obtain ⟨v67, c67, h⟩ := Option.bind_eq_some_iff.mp h
          refine AW.callV (As := [.int 0]) (rest := []) (rv := (some (.int v67))) (M' := v58.2) (pc' := 157) X (ok_X6_total h0 c67) yv_X6_total (h0).1.1 (h0).1.2.1 (cX h0 dA ad _) rfl rfl ml_L_8 ⟨by decide, by decide, by decide, by decide⟩ rfl (Nat.le_of_ble_eq_true rfl) rfl rfl dL_acts_154 rfl ?_
          refine AW.iconst (v := 1) (pc' := 158) X rfl dL_acts_157 rfl ?_
          refine AW.icmp_ne (pc' := 161) (tgt := 208) X dL_acts_158 rfl rfl (fun q68 => ?_) (fun q68 => ?_)
          · replace h := iten q68 h
            refine AW.sub (ls' := []) [] rfl ?_
            exact ok_L_acts_208 X hr h0 v58.2 R h
          · replace h := itep q68 h
            refine AW.aload_n (k0 := 4) (pc' := 162) X rfl rfl dL_acts_161 rfl ?_
            refine AW.iconst (v := 1) (pc' := 163) X rfl dL_acts_162 rfl ?_
            obtain ⟨v69, c69, h⟩ := Option.bind_eq_some_iff.mp h
            refine AW.callV (As := [.int 1]) (rest := []) (rv := (some (.int v69))) (M' := v58.2) (pc' := 166) X (ok_X6_total h0 c69) yv_X6_total (h0).1.1 (h0).1.2.1 (cX h0 dA ad _) rfl rfl ml_L_8 ⟨by decide, by decide, by decide, by decide⟩ rfl (Nat.le_of_ble_eq_true rfl) rfl rfl dL_acts_163 rfl ?_
            refine AW.if_ne (pc' := 169) (tgt := 208) X dL_acts_166 rfl rfl (fun q70 => ?_) (fun q70 => ?_)
            · replace h := iten q70 h
              refine AW.sub (ls' := []) [] rfl ?_
              exact ok_L_acts_208 X hr h0 v58.2 R h
            · replace h := itep q70 h
              refine AW.aload_n (k0 := 4) (pc' := 170) X rfl rfl dL_acts_169 rfl ?_
              refine AW.iconst (v := 2) (pc' := 171) X rfl dL_acts_170 rfl ?_
              obtain ⟨v71, c71, h⟩ := Option.bind_eq_some_iff.mp h
              refine AW.callV (As := [.int 2]) (rest := []) (rv := (some (.int v71))) (M' := v58.2) (pc' := 174) X (ok_X6_total h0 c71) yv_X6_total (h0).1.1 (h0).1.2.1 (cX h0 dA ad _) rfl rfl ml_L_8 ⟨by decide, by decide, by decide, by decide⟩ rfl (Nat.le_of_ble_eq_true rfl) rfl rfl dL_acts_171 rfl ?_
              refine AW.iconst (v := 1) (pc' := 175) X rfl dL_acts_174 rfl ?_
              refine AW.iload_n (k0 := 6) (pc' := 176) X rfl rfl dL_acts_175 rfl ?_
              refine AW.sipush (v := 1000) (pc' := 179) X rfl dL_acts_176 rfl ?_
              obtain ⟨v72, c72, h⟩ := Option.bind_eq_some_iff.mp h
              refine AW.callS (As := [.int x2, .int 1000]) (rest := [.int 1, .int v71]) (rv := (some (.int v72))) (M' := v58.2) (pc' := 182) X (ok_L_low c72) yv_L_low ml_L_60 ⟨by decide, by decide, by decide, by decide⟩ rfl (Nat.le_of_ble_eq_true rfl) rfl rfl dL_acts_179 rfl ?_
              refine AW.iadd (pc' := 183) X dL_acts_182 rfl ?_
              refine AW.icmp_ne (pc' := 186) (tgt := 208) X dL_acts_183 rfl rfl (fun q73 => ?_) (fun q73 => ?_)
              · replace h := iten q73 h
                refine AW.sub (ls' := []) [] rfl ?_
                exact ok_L_acts_208 X hr h0 v58.2 R h
              · replace h := itep q73 h
                refine AW.aload_n (k0 := 4) (pc' := 187) X rfl rfl dL_acts_186 rfl ?_
                refine AW.bipush (v := 8) (pc' := 189) X rfl dL_acts_187 rfl ?_
                obtain ⟨v74, c74, h⟩ := Option.bind_eq_some_iff.mp h
                refine AW.callV (As := [.int 8]) (rest := []) (rv := (some (.int v74))) (M' := v58.2) (pc' := 192) X (ok_X6_total h0 c74) yv_X6_total (h0).1.1 (h0).1.2.1 (cX h0 dA ad _) rfl rfl ml_L_8 ⟨by decide, by decide, by decide, by decide⟩ rfl (Nat.le_of_ble_eq_true rfl) rfl rfl dL_acts_189 rfl ?_
                refine AW.if_ne (pc' := 195) (tgt := 208) X dL_acts_192 rfl rfl (fun q75 => ?_) (fun q75 => ?_)
                · replace h := iten q75 h
                  refine AW.sub (ls' := []) [] rfl ?_
                  exact ok_L_acts_208 X hr h0 v58.2 R h
                · replace h := itep q75 h
                  refine AW.aload_n (k0 := 4) (pc' := 196) X rfl rfl dL_acts_195 rfl ?_
                  refine AW.bipush (v := 11) (pc' := 198) X rfl dL_acts_196 rfl ?_
                  obtain ⟨v76, c76, h⟩ := Option.bind_eq_some_iff.mp h
                  refine AW.callV (As := [.int 11]) (rest := []) (rv := (some (.int v76))) (M' := v58.2) (pc' := 201) X (ok_X6_total h0 c76) yv_X6_total (h0).1.1 (h0).1.2.1 (cX h0 dA ad _) rfl rfl ml_L_8 ⟨by decide, by decide, by decide, by decide⟩ rfl (Nat.le_of_ble_eq_true rfl) rfl rfl dL_acts_198 rfl ?_
                  refine AW.if_ne (pc' := 204) (tgt := 208) X dL_acts_201 rfl rfl (fun q77 => ?_) (fun q77 => ?_)
                  · replace h := iten q77 h
                    refine AW.sub (ls' := []) [] rfl ?_
                    exact ok_L_acts_208 X hr h0 v58.2 R h
                  · replace h := itep q77 h
                    refine AW.iconst (v := 1) (pc' := 205) X rfl dL_acts_204 rfl ?_
                    refine AW.goto (pc' := 244) X dL_acts_205 rfl ?_
                    refine AW.sub (ls' := []) [] rfl ?_
                    exact ok_L_acts_244 X hr h0 true v58.2 R h
  · replace h := iten q3 h
    refine AW.aload_n (k0 := 3) (pc' := 24) X rfl rfl dL_acts_23 rfl ?_
    refine AW.bipush (v := 8) (pc' := 26) X rfl dL_acts_24 rfl ?_
    obtain ⟨v78, c78, h⟩ := Option.bind_eq_some_iff.mp h
    refine AW.callV (As := [.int 8]) (rest := []) (rv := (some (.int v78))) (M' := M) (pc' := 29) X (ok_X6_total h0 c78) yv_X6_total (h0).1.1 (h0).1.2.1 (cX h0 dA ad _) rfl rfl ml_L_8 ⟨by decide, by decide, by decide, by decide⟩ rfl (Nat.le_of_ble_eq_true rfl) rfl rfl dL_acts_26 rfl ?_
    refine AW.istore (ls' := [(6, .int v78), (5, .int v2), (4, .int (bz v1)), (3, .int (x1 &&& 15)), (0, .ref a0), (1, .int x1), (2, .int x2)]) (pc' := 31) X (by decide) rfl dL_acts_29 rfl ?_
    refine AW.iconst (v := 1) (pc' := 32) X rfl dL_acts_31 rfl ?_
    refine AW.iload_n (k0 := 6) (pc' := 33) X rfl rfl dL_acts_32 rfl ?_
    refine AW.bipush (v := 50) (pc' := 35) X rfl dL_acts_33 rfl ?_
    obtain ⟨v79, c79, h⟩ := Option.bind_eq_some_iff.mp h
    refine AW.callS (As := [.int x2, .int 50]) (rest := [.int 1]) (rv := (some (.int v79))) (M' := M) (pc' := 38) X (ok_L_low c79) yv_L_low ml_L_60 ⟨by decide, by decide, by decide, by decide⟩ rfl (Nat.le_of_ble_eq_true rfl) rfl rfl dL_acts_35 rfl ?_
    refine AW.iadd (pc' := 39) X dL_acts_38 rfl ?_
    refine AW.istore (ls' := [(7, .int (1 + v79)), (6, .int v78), (5, .int v2), (4, .int (bz v1)), (3, .int (x1 &&& 15)), (0, .ref a0), (1, .int x1), (2, .int x2)]) (pc' := 41) X (by decide) rfl dL_acts_39 rfl ?_
    refine AW.aload_n (k0 := 5) (pc' := 42) X rfl rfl dL_acts_41 rfl ?_
    refine AW.iload (k0 := 0) (pc' := 44) X rfl dL_acts_42 rfl ?_
    obtain ⟨v80, c80, h⟩ := Option.bind_eq_some_iff.mp h
    refine AW.callV (As := [.int (1 + v79)]) (rest := []) (rv := (some (.int v80.1))) (M' := v80.2) (pc' := 47) X (ok_X6_step h0 c80) yv_X6_step (h0).1.1 (h0).1.2.1 (cX h0 dA ad _) rfl rfl ml_L_76 ⟨by decide, by decide, by decide, by decide⟩ rfl (Nat.le_of_ble_eq_true rfl) rfl rfl dL_acts_44 rfl ?_
    refine AW.istore (ls' := [(8, .int (v80.1)), (7, .int (1 + v79)), (6, .int v78), (5, .int v2), (4, .int (bz v1)), (3, .int (x1 &&& 15)), (0, .ref a0), (1, .int x1), (2, .int x2)]) (pc' := 49) X (by decide) rfl dL_acts_47 rfl ?_
    refine AW.iload (k0 := 4) (pc' := 51) X rfl dL_acts_49 rfl ?_
    refine AW.if_eq (pc' := 54) (tgt := 69) X dL_acts_51 rfl rfl (fun q81 => ?_) (fun q81 => ?_)
    · replace h := itep q81 h
      refine AW.iload (k0 := 0) (pc' := 71) X rfl dL_acts_69 rfl ?_
      refine AW.iconst (v := 1) (pc' := 72) X rfl dL_acts_71 rfl ?_
      refine AW.icmp_lt (pc' := 75) (tgt := 114) X dL_acts_72 rfl rfl (fun q82 => ?_) (fun q82 => ?_)
      · replace h := itep q82 h
        refine AW.sub (ls' := []) [] rfl ?_
        exact ok_L_acts_114 X hr h0 v80.2 R h
      · replace h := iten q82 h
        refine AW.iload (k0 := 0) (pc' := 77) X rfl dL_acts_75 rfl ?_
        refine AW.iload (k0 := 1) (pc' := 79) X rfl dL_acts_77 rfl ?_
        refine AW.icmp_gt (pc' := 82) (tgt := 114) X dL_acts_79 rfl rfl (fun q83 => ?_) (fun q83 => ?_)
        · replace h := itep q83 h
          refine AW.sub (ls' := []) [] rfl ?_
          exact ok_L_acts_114 X hr h0 v80.2 R h
        · replace h := iten q83 h
          refine AW.aload_n (k0 := 6) (pc' := 83) X rfl rfl dL_acts_82 rfl ?_
          refine AW.bipush (v := 8) (pc' := 85) X rfl dL_acts_83 rfl ?_
          obtain ⟨v84, c84, h⟩ := Option.bind_eq_some_iff.mp h
          refine AW.callV (As := [.int 8]) (rest := []) (rv := (some (.int v84))) (M' := v80.2) (pc' := 88) X (ok_X6_total h0 c84) yv_X6_total (h0).1.1 (h0).1.2.1 (cX h0 dA ad _) rfl rfl ml_L_8 ⟨by decide, by decide, by decide, by decide⟩ rfl (Nat.le_of_ble_eq_true rfl) rfl rfl dL_acts_85 rfl ?_
          refine AW.iload (k0 := 2) (pc' := 90) X rfl dL_acts_88 rfl ?_
          refine AW.iload (k0 := 0) (pc' := 92) X rfl dL_acts_90 rfl ?_
          refine AW.iadd (pc' := 93) X dL_acts_92 rfl ?_
          refine AW.icmp_ne (pc' := 96) (tgt := 114) X dL_acts_93 rfl rfl (fun q85 => ?_) (fun q85 => ?_)
          · replace h := iten q85 h
            refine AW.sub (ls' := []) [] rfl ?_
            exact ok_L_acts_114 X hr h0 v80.2 R h
          · replace h := itep q85 h
            refine AW.iload (k0 := 0) (pc' := 98) X rfl dL_acts_96 rfl ?_
            refine AW.iload (k0 := 1) (pc' := 100) X rfl dL_acts_98 rfl ?_
            refine AW.icmp_eq (pc' := 103) (tgt := 110) X dL_acts_100 rfl rfl (fun q86 => ?_) (fun q86 => ?_)
            · replace h := itep q86 h
              refine AW.sub (ls' := []) [] rfl ?_
              exact ok_L_acts_110 X hr h0 v80.2 R h
            · replace h := iten q86 h
              refine AW.aload_n (k0 := 6) (pc' := 104) X rfl rfl dL_acts_103 rfl ?_
              obtain ⟨v87, c87, h⟩ := Option.bind_eq_some_iff.mp h
              refine AW.callS (As := [.ref a0]) (rest := []) (rv := (some (.int (bz v87)))) (M' := v80.2) (pc' := 107) X (ok_L_rests h0 c87) yv_L_rests ml_L_15 ⟨by decide, by decide, by decide, by decide⟩ rfl (Nat.le_of_ble_eq_true rfl) rfl rfl dL_acts_104 rfl ?_
              refine AW.if_eq (pc' := 110) (tgt := 114) X dL_acts_107 rfl rfl (fun q88 => ?_) (fun q88 => ?_)
              · replace h := itep q88 h
                refine AW.sub (ls' := []) [] rfl ?_
                exact ok_L_acts_114 X hr h0 v80.2 R h
              · replace h := iten q88 h
                refine AW.sub (ls' := []) [] rfl ?_
                exact ok_L_acts_110 X hr h0 v80.2 R h
    · replace h := iten q81 h
      refine AW.iload (k0 := 0) (pc' := 56) X rfl dL_acts_54 rfl ?_
      refine AW.bipush (v := (-3)) (pc' := 58) X rfl dL_acts_56 rfl ?_
      refine AW.icmp_ne (pc' := 61) (tgt := 65) X dL_acts_58 rfl rfl (fun q89 => ?_) (fun q89 => ?_)
      · replace h := iten q89 h
        refine AW.iconst (v := 0) (pc' := 66) X rfl dL_acts_65 rfl ?_
        refine AW.goto (pc' := 115) X dL_acts_66 rfl ?_
        refine AW.sub (ls' := []) [] rfl ?_
        exact ok_L_acts_115 X hr h0 false v80.2 R h
      · replace h := itep q89 h
        refine AW.iconst (v := 1) (pc' := 62) X rfl dL_acts_61 rfl ?_
        refine AW.goto (pc' := 115) X dL_acts_62 rfl ?_
        refine AW.sub (ls' := []) [] rfl ?_
        exact ok_L_acts_115 X hr h0 true v80.2 R h
end OK
