section
variable {p : Program} {l : Launch} {e : Env} {s : State} {m : MethodId} {args : Array Value} {below : List Frame} {meth : Method} {c : Code} {D : va_G} {kA : Nat → ClassId} {A : Nat → Prop} {Q : State → Prop} {ad al : Nat → Nat} {b L : Nat} {xs : Nat → Int32}
set_option maxRecDepth 100000 in
set_option maxHeartbeats 4000000 in
theorem lp_L_law_88 (X : CX p m c cL_law 15 s args RL) (E : EX l s D kA A) (hX : va_X b L xs s s.heap) (hbl : b < s.heap.size) (hbA : ¬ A b) (hL : L ≤ 260) (fu : Nat) (w : WS) : ∀ (n : Nat) (y11 : Int32) (f : WS) (rf : WS), iter (fun q => bd_L_law_88 fu L xs w q.1 q.2) n (y11, f) = some (rf) → CS p l e room_1 s m args below meth c D A 15 38 46914 Q ((picC kA ad w) ++ picL kA al rf) 108 [(0, .ref b), (1, .ref (ad 0)), (2, .ref (al 0)), (3, .ref (al 1)), (4, .ref (al 2)), (5, .ref (al 3)), (6, .ref (al 4)), (7, .ref (al 5)), (8, .ref (al 6)), (9, .ref (al 7)), (10, .ref (al 8))] [] → CS p l e room_1 s m args below meth c D A 15 38 46914 Q ((picC kA ad w) ++ picL kA al f) 88 [(0, .ref b), (1, .ref (ad 0)), (2, .ref (al 0)), (3, .ref (al 1)), (4, .ref (al 2)), (5, .ref (al 3)), (6, .ref (al 4)), (7, .ref (al 5)), (8, .ref (al 6)), (9, .ref (al 7)), (10, .ref (al 8)), (11, .int y11)] [] := by
  intro n
  induction n with
  | zero =>
    intro y11 f rf hit kk
    exact (iter_0 hit).elim
  | succ n ih =>
    intro y11 f rf hit kk
    obtain ⟨o, h1, hit⟩ := iter_one hit
    have hf : bd_L_law_88 fu L xs w y11 f = some o := h1
    unfold bd_L_law_88 at hf
    refine x_iload X dL_law_88 11 rfl ?_
    refine x_bipush X (v := 81) dL_law_90 (by decide) ?_
    refine x_icmp_ge X (tgt := 108) dL_law_92 (by decide) hf (fun hf => ?_) (fun hf => ?_)
    · cases hf
      cases hit
      refine x_lpick (lv2 := [(0, .ref b), (1, .ref (ad 0)), (2, .ref (al 0)), (3, .ref (al 1)), (4, .ref (al 2)), (5, .ref (al 3)), (6, .ref (al 4)), (7, .ref (al 5)), (8, .ref (al 6)), (9, .ref (al 7)), (10, .ref (al 8))]) [0, 1, 2, 3, 4, 5, 6, 7, 8, 9, 10] rfl ?_
      exact kk
    · refine x_aload X dL_law_95 5 rfl ?_
      refine x_iload X dL_law_97 11 rfl ?_
      refine x_bipush X (v := (-2)) dL_law_99 (by decide) ?_
      refine x_iast X E.1.1 32 rfl dL_law_101 hf (fun f => picC kA ad w ++ picL kA al f) rfl (fun f1 hf => ?_)
      refine x_iinc X dL_law_102 11 rfl (by decide) (y11 + 1) rfl hf (fun x2 => [(11, .int x2), (0, .ref b), (1, .ref (ad 0)), (2, .ref (al 0)), (3, .ref (al 1)), (4, .ref (al 2)), (5, .ref (al 3)), (6, .ref (al 4)), (7, .ref (al 5)), (8, .ref (al 6)), (9, .ref (al 7)), (10, .ref (al 8))]) (fun _ => rfl) (fun x2 hf => ?_)
      refine x_goto X (tgt := 88) dL_law_105 (by decide) ?_
      cases hf
      refine x_lpick (lv2 := [(0, .ref b), (1, .ref (ad 0)), (2, .ref (al 0)), (3, .ref (al 1)), (4, .ref (al 2)), (5, .ref (al 3)), (6, .ref (al 4)), (7, .ref (al 5)), (8, .ref (al 6)), (9, .ref (al 7)), (10, .ref (al 8)), (11, .int x2)]) [1, 2, 3, 4, 5, 6, 7, 8, 9, 10, 11, 0] rfl ?_
      exact ih _ _ _ hit kk
set_option maxRecDepth 100000 in
set_option maxHeartbeats 4000000 in
theorem lp_L_law_111 (X : CX p m c cL_law 15 s args RL) (E : EX l s D kA A) (hX : va_X b L xs s s.heap) (hbl : b < s.heap.size) (hbA : ¬ A b) (hL : L ≤ 260) (fu : Nat) (w : WS) : ∀ (n : Nat) (y11 : Int32) (f : WS) (rf : WS), iter (fun q => bd_L_law_111 fu L xs w q.1 q.2) n (y11, f) = some (rf) → CS p l e room_1 s m args below meth c D A 15 38 46914 Q ((picC kA ad w) ++ picL kA al rf) 130 [(0, .ref b), (1, .ref (ad 0)), (2, .ref (al 0)), (3, .ref (al 1)), (4, .ref (al 2)), (5, .ref (al 3)), (6, .ref (al 4)), (7, .ref (al 5)), (8, .ref (al 6)), (9, .ref (al 7)), (10, .ref (al 8))] [] → CS p l e room_1 s m args below meth c D A 15 38 46914 Q ((picC kA ad w) ++ picL kA al f) 111 [(0, .ref b), (1, .ref (ad 0)), (2, .ref (al 0)), (3, .ref (al 1)), (4, .ref (al 2)), (5, .ref (al 3)), (6, .ref (al 4)), (7, .ref (al 5)), (8, .ref (al 6)), (9, .ref (al 7)), (10, .ref (al 8)), (11, .int y11)] [] := by
  intro n
  induction n with
  | zero =>
    intro y11 f rf hit kk
    exact (iter_0 hit).elim
  | succ n ih =>
    intro y11 f rf hit kk
    obtain ⟨o, h1, hit⟩ := iter_one hit
    have hf : bd_L_law_111 fu L xs w y11 f = some o := h1
    unfold bd_L_law_111 at hf
    refine x_iload X dL_law_111 11 rfl ?_
    refine x_bipush X (v := 9) dL_law_113 (by decide) ?_
    refine x_icmp_ge X (tgt := 130) dL_law_115 (by decide) hf (fun hf => ?_) (fun hf => ?_)
    · cases hf
      cases hit
      refine x_lpick (lv2 := [(0, .ref b), (1, .ref (ad 0)), (2, .ref (al 0)), (3, .ref (al 1)), (4, .ref (al 2)), (5, .ref (al 3)), (6, .ref (al 4)), (7, .ref (al 5)), (8, .ref (al 6)), (9, .ref (al 7)), (10, .ref (al 8))]) [0, 1, 2, 3, 4, 5, 6, 7, 8, 9, 10] rfl ?_
      exact kk
    · refine x_aload X dL_law_118 6 rfl ?_
      refine x_iload X dL_law_120 11 rfl ?_
      refine x_iconst X (v := 1) dL_law_122 (by decide) ?_
      refine x_zast X E.1.1 33 rfl dL_law_123 hf (fun f => picC kA ad w ++ picL kA al f) rfl (fun f1 hf => ?_)
      refine x_iinc X dL_law_124 11 rfl (by decide) (y11 + 1) rfl hf (fun x2 => [(11, .int x2), (0, .ref b), (1, .ref (ad 0)), (2, .ref (al 0)), (3, .ref (al 1)), (4, .ref (al 2)), (5, .ref (al 3)), (6, .ref (al 4)), (7, .ref (al 5)), (8, .ref (al 6)), (9, .ref (al 7)), (10, .ref (al 8))]) (fun _ => rfl) (fun x2 hf => ?_)
      refine x_goto X (tgt := 111) dL_law_127 (by decide) ?_
      cases hf
      refine x_lpick (lv2 := [(0, .ref b), (1, .ref (ad 0)), (2, .ref (al 0)), (3, .ref (al 1)), (4, .ref (al 2)), (5, .ref (al 3)), (6, .ref (al 4)), (7, .ref (al 5)), (8, .ref (al 6)), (9, .ref (al 7)), (10, .ref (al 8)), (11, .int x2)]) [1, 2, 3, 4, 5, 6, 7, 8, 9, 10, 11, 0] rfl ?_
      exact ih _ _ _ hit kk
set_option maxRecDepth 100000 in
set_option maxHeartbeats 4000000 in
theorem lp_L_law_222 (X : CX p m c cL_law 15 s args RL) (E : EX l s D kA A) (hX : va_X b L xs s s.heap) (hbl : b < s.heap.size) (hbA : ¬ A b) (hL : L ≤ 260) (fu : Nat) (f : WS) (y11 : Int32) (y13 : Int32) : ∀ (n : Nat) (y14 : Int32) (w : WS) (rw : WS), iter (fun q => bd_L_law_222 fu L xs f y11 y13 q.1 q.2) n (y14, w) = some (rw) → CS p l e room_1 s m args below meth c D A 15 38 46914 Q ((picC kA ad rw) ++ picL kA al f) 257 [(0, .ref b), (1, .ref (ad 0)), (2, .ref (al 0)), (3, .ref (al 1)), (4, .ref (al 2)), (5, .ref (al 3)), (6, .ref (al 4)), (7, .ref (al 5)), (8, .ref (al 6)), (9, .ref (al 7)), (10, .ref (al 8)), (11, .int y11), (13, .int y13)] [] → CS p l e room_1 s m args below meth c D A 15 38 46914 Q ((picC kA ad w) ++ picL kA al f) 222 [(0, .ref b), (1, .ref (ad 0)), (2, .ref (al 0)), (3, .ref (al 1)), (4, .ref (al 2)), (5, .ref (al 3)), (6, .ref (al 4)), (7, .ref (al 5)), (8, .ref (al 6)), (9, .ref (al 7)), (10, .ref (al 8)), (11, .int y11), (13, .int y13), (14, .int y14)] [] := by
  intro n
  induction n with
  | zero =>
    intro y14 w rw hit kk
    exact (iter_0 hit).elim
  | succ n ih =>
    intro y14 w rw hit kk
    obtain ⟨o, h1, hit⟩ := iter_one hit
    have hf : bd_L_law_222 fu L xs f y11 y13 y14 w = some o := h1
    unfold bd_L_law_222 at hf
    refine x_iload X dL_law_222 13 rfl ?_
    refine x_iconst X (v := 5) dL_law_224 (by decide) ?_
    refine x_icmp_ge X (tgt := 257) dL_law_225 (by decide) hf (fun hf => ?_) (fun hf => ?_)
    · cases hf
      cases hit
      refine x_lpick (lv2 := [(0, .ref b), (1, .ref (ad 0)), (2, .ref (al 0)), (3, .ref (al 1)), (4, .ref (al 2)), (5, .ref (al 3)), (6, .ref (al 4)), (7, .ref (al 5)), (8, .ref (al 6)), (9, .ref (al 7)), (10, .ref (al 8)), (11, .int y11), (13, .int y13)]) [0, 1, 2, 3, 4, 5, 6, 7, 8, 9, 10, 11, 12] rfl ?_
      exact kk
    · refine x_aload_n X dL_law_228 1 rfl ?_
      refine x_iload X dL_law_229 13 rfl ?_
      refine x_iload X dL_law_231 12 rfl ?_
      obtain ⟨x1, w2, hx1, hf⟩ := bxn2_some hf
      refine x_callVs_i X E (As := [.int y14, .int y13]) (rest := []) (n := 2) (u := picC kA ad w) (u2 := picC kA ad w2) [] (picL kA al f) rfl (goodV w_5229 w_657 w_658 w_47 w_659) (met_X3_distance l E.2.2.2 D kA ad fu w y14 y13 x1 w2 hx1) rfl rfl (by decide +kernel) ⟨Nat.le_of_ble_eq_true rfl, Nat.le_of_ble_eq_true rfl⟩ 0 rfl (qc := (RX3, TX3, _)) rfl rfl rfl rfl (Nat.le_of_ble_eq_true rfl) dL_law_233 ⟨by decide, by decide⟩ (picC kA ad w2 ++ picL kA al f) rfl ?_
      refine x_aload_n X dL_law_236 2 rfl ?_
      refine x_aload X dL_law_237 10 rfl ?_
      refine x_iload X dL_law_239 13 rfl ?_
      refine x_iload X dL_law_241 12 rfl ?_
      obtain ⟨x3, h4, hf⟩ := bn_some hf
      refine x_callSw_i X E (As := [.ref (al 0), .ref (al 8), .int y14, .int y13]) (rest := [.int x1]) (n := 4) (ws2 := picC kA ad w2 ++ picL kA al f) (goodS w_5251 w_654 w_46 w_5252) (fun sz => (met_L_distance l E.2.2.2 D kA ad al fu w2 f y14 y13 x3 h4) sz) rfl rfl (by decide +kernel) ⟨Nat.le_of_ble_eq_true rfl, Nat.le_of_ble_eq_true rfl⟩ rfl rfl (Nat.le_of_ble_eq_true rfl) dL_law_243 ⟨Nat.le_of_ble_eq_true rfl, Nat.le_of_ble_eq_true rfl⟩ ?_
      refine x_icmp_eq X (tgt := 251) dL_law_246 (by decide) hf (fun hf => ?_) (fun hf => ?_)
      · refine x_iinc X dL_law_251 13 rfl (by decide) (y14 + 1) rfl hf (fun x5 => [(14, .int x5), (0, .ref b), (1, .ref (ad 0)), (2, .ref (al 0)), (3, .ref (al 1)), (4, .ref (al 2)), (5, .ref (al 3)), (6, .ref (al 4)), (7, .ref (al 5)), (8, .ref (al 6)), (9, .ref (al 7)), (10, .ref (al 8)), (11, .int y11), (13, .int y13)]) (fun _ => rfl) (fun x5 hf => ?_)
        refine x_goto X (tgt := 222) dL_law_254 (by decide) ?_
        cases hf
        refine x_lpick (lv2 := [(0, .ref b), (1, .ref (ad 0)), (2, .ref (al 0)), (3, .ref (al 1)), (4, .ref (al 2)), (5, .ref (al 3)), (6, .ref (al 4)), (7, .ref (al 5)), (8, .ref (al 6)), (9, .ref (al 7)), (10, .ref (al 8)), (11, .int y11), (13, .int y13), (14, .int x5)]) [1, 2, 3, 4, 5, 6, 7, 8, 9, 10, 11, 12, 13, 0] rfl ?_
        exact ih _ _ _ hit kk
      · cases hf
set_option maxRecDepth 100000 in
set_option maxHeartbeats 4000000 in
theorem lp_L_law_194 (X : CX p m c cL_law 15 s args RL) (E : EX l s D kA A) (hX : va_X b L xs s s.heap) (hbl : b < s.heap.size) (hbA : ¬ A b) (hL : L ≤ 260) (fu : Nat) (y11 : Int32) : ∀ (n : Nat) (y13 : Int32) (w : WS) (f : WS) (rw : WS) (rf : WS), iter (fun q => bd_L_law_194 fu L xs y11 q.1 q.2.1 q.2.2) n (y13, w, f) = some (rw, rf) → CS p l e room_1 s m args below meth c D A 15 38 46914 Q ((picC kA ad rw) ++ picL kA al rf) 263 [(0, .ref b), (1, .ref (ad 0)), (2, .ref (al 0)), (3, .ref (al 1)), (4, .ref (al 2)), (5, .ref (al 3)), (6, .ref (al 4)), (7, .ref (al 5)), (8, .ref (al 6)), (9, .ref (al 7)), (10, .ref (al 8)), (11, .int y11)] [] → CS p l e room_1 s m args below meth c D A 15 38 46914 Q ((picC kA ad w) ++ picL kA al f) 194 [(0, .ref b), (1, .ref (ad 0)), (2, .ref (al 0)), (3, .ref (al 1)), (4, .ref (al 2)), (5, .ref (al 3)), (6, .ref (al 4)), (7, .ref (al 5)), (8, .ref (al 6)), (9, .ref (al 7)), (10, .ref (al 8)), (11, .int y11), (13, .int y13)] [] := by
  intro n
  induction n with
  | zero =>
    intro y13 w f rw rf hit kk
    exact (iter_0 hit).elim
  | succ n ih =>
    intro y13 w f rw rf hit kk
    obtain ⟨o, h1, hit⟩ := iter_one hit
    have hf : bd_L_law_194 fu L xs y11 y13 w f = some o := h1
    unfold bd_L_law_194 at hf
    refine x_iload X dL_law_194 12 rfl ?_
    refine x_iconst X (v := 5) dL_law_196 (by decide) ?_
    refine x_icmp_ge X (tgt := 263) dL_law_197 (by decide) hf (fun hf => ?_) (fun hf => ?_)
    · cases hf
      cases hit
      refine x_lpick (lv2 := [(0, .ref b), (1, .ref (ad 0)), (2, .ref (al 0)), (3, .ref (al 1)), (4, .ref (al 2)), (5, .ref (al 3)), (6, .ref (al 4)), (7, .ref (al 5)), (8, .ref (al 6)), (9, .ref (al 7)), (10, .ref (al 8)), (11, .int y11)]) [0, 1, 2, 3, 4, 5, 6, 7, 8, 9, 10, 11] rfl ?_
      exact kk
    · refine x_aload_n X dL_law_200 2 rfl ?_
      refine x_aload_n X dL_law_201 3 rfl ?_
      refine x_aload X dL_law_202 4 rfl ?_
      refine x_aload X dL_law_204 6 rfl ?_
      refine x_aload X dL_law_206 5 rfl ?_
      refine x_aload X dL_law_208 7 rfl ?_
      refine x_iconst X (v := 0) dL_law_210 (by decide) ?_
      refine x_iald X E.1.1 34 rfl dL_law_211 hf (fun x1 hf => ?_)
      refine x_iload X dL_law_212 12 rfl ?_
      refine x_aload X dL_law_214 10 rfl ?_
      obtain ⟨f2, h3, hf⟩ := bn_some hf
      refine x_callSw_v X E (As := [.ref (al 0), .ref (al 1), .ref (al 2), .ref (al 4), .ref (al 3), .int x1, .int y13, .ref (al 8)]) (rest := []) (n := 8) (ws2 := picC kA ad w ++ picL kA al f2) (goodS w_5243 w_5244 w_46 w_5245) (fun sz => (met_L_find l E.2.2.2 D kA ad al fu w f x1 y13 f2 h3) sz) rfl rfl (by decide +kernel) ⟨Nat.le_of_ble_eq_true rfl, Nat.le_of_ble_eq_true rfl⟩ rfl rfl (Nat.le_of_ble_eq_true rfl) dL_law_216 ⟨Nat.le_of_ble_eq_true rfl, Nat.le_of_ble_eq_true rfl⟩ ?_
      refine x_iconst X (v := 0) dL_law_219 (by decide) ?_
      refine x_istore X (lv2 := [(14, .int 0), (0, .ref b), (1, .ref (ad 0)), (2, .ref (al 0)), (3, .ref (al 1)), (4, .ref (al 2)), (5, .ref (al 3)), (6, .ref (al 4)), (7, .ref (al 5)), (8, .ref (al 6)), (9, .ref (al 7)), (10, .ref (al 8)), (11, .int y11), (13, .int y13)]) dL_law_220 (by decide) rfl ?_
      refine x_lpick (lv2 := [(0, .ref b), (1, .ref (ad 0)), (2, .ref (al 0)), (3, .ref (al 1)), (4, .ref (al 2)), (5, .ref (al 3)), (6, .ref (al 4)), (7, .ref (al 5)), (8, .ref (al 6)), (9, .ref (al 7)), (10, .ref (al 8)), (11, .int y11), (13, .int y13), (14, .int 0)]) [1, 2, 3, 4, 5, 6, 7, 8, 9, 10, 11, 12, 13, 0] rfl ?_
      obtain ⟨w4, h5, hf⟩ := bn_some hf
      refine lp_L_law_222 X E hX hbl hbA hL fu f2 y11 y13 fu (0 : Int32) w w4 h5 ?_
      refine x_iinc X dL_law_257 12 rfl (by decide) (y13 + 1) rfl hf (fun x6 => [(13, .int x6), (0, .ref b), (1, .ref (ad 0)), (2, .ref (al 0)), (3, .ref (al 1)), (4, .ref (al 2)), (5, .ref (al 3)), (6, .ref (al 4)), (7, .ref (al 5)), (8, .ref (al 6)), (9, .ref (al 7)), (10, .ref (al 8)), (11, .int y11)]) (fun _ => rfl) (fun x6 hf => ?_)
      refine x_goto X (tgt := 194) dL_law_260 (by decide) ?_
      cases hf
      refine x_lpick (lv2 := [(0, .ref b), (1, .ref (ad 0)), (2, .ref (al 0)), (3, .ref (al 1)), (4, .ref (al 2)), (5, .ref (al 3)), (6, .ref (al 4)), (7, .ref (al 5)), (8, .ref (al 6)), (9, .ref (al 7)), (10, .ref (al 8)), (11, .int y11), (13, .int x6)]) [1, 2, 3, 4, 5, 6, 7, 8, 9, 10, 11, 12, 0] rfl ?_
      exact ih _ _ _ _ _ hit kk
set_option maxRecDepth 100000 in
set_option maxHeartbeats 4000000 in
theorem lp_L_law_133 (X : CX p m c cL_law 15 s args RL) (E : EX l s D kA A) (hX : va_X b L xs s s.heap) (hbl : b < s.heap.size) (hbA : ¬ A b) (hL : L ≤ 260) (fu : Nat)  : ∀ (n : Nat) (y11 : Int32) (w : WS) (f : WS) (rw : WS) (rf : WS), iter (fun q => bd_L_law_133 fu L xs q.1 q.2.1 q.2.2) n (y11, w, f) = some (rw, rf) → CS p l e room_1 s m args below meth c D A 15 38 46914 Q ((picC kA ad rw) ++ picL kA al rf) 269 [] [] → CS p l e room_1 s m args below meth c D A 15 38 46914 Q ((picC kA ad w) ++ picL kA al f) 133 [(0, .ref b), (1, .ref (ad 0)), (2, .ref (al 0)), (3, .ref (al 1)), (4, .ref (al 2)), (5, .ref (al 3)), (6, .ref (al 4)), (7, .ref (al 5)), (8, .ref (al 6)), (9, .ref (al 7)), (10, .ref (al 8)), (11, .int y11)] [] := by
  intro n
  induction n with
  | zero =>
    intro y11 w f rw rf hit kk
    exact (iter_0 hit).elim
  | succ n ih =>
    intro y11 w f rw rf hit kk
    obtain ⟨o, h1, hit⟩ := iter_one hit
    have hf : bd_L_law_133 fu L xs y11 w f = some o := h1
    unfold bd_L_law_133 at hf
    refine x_iload X dL_law_133 11 rfl ?_
    refine x_bipush X (v := 8) dL_law_135 (by decide) ?_
    refine x_icmp_ge X (tgt := 269) dL_law_137 (by decide) hf (fun hf => ?_) (fun hf => ?_)
    · cases hf
      cases hit
      refine x_lpick (lv2 := []) [] rfl ?_
      exact kk
    · refine x_aload_n X dL_law_140 1 rfl ?_
      refine x_aload X dL_law_141 8 rfl ?_
      obtain ⟨w1, f2, h3, hf⟩ := bn2_some hf
      refine x_callSw_v X E (As := [.ref (ad 0), .ref (al 6)]) (rest := []) (n := 2) (ws2 := picC kA ad w1 ++ picL kA al f2) (goodS w_5260 w_5261 w_46 w_5262) (fun sz => (met_L_read6 l E.2.2.2 D kA ad al fu w f w1 f2 h3) sz) rfl rfl (by decide +kernel) ⟨Nat.le_of_ble_eq_true rfl, Nat.le_of_ble_eq_true rfl⟩ rfl rfl (Nat.le_of_ble_eq_true rfl) dL_law_143 ⟨Nat.le_of_ble_eq_true rfl, Nat.le_of_ble_eq_true rfl⟩ ?_
      refine x_aload_n X dL_law_146 1 rfl ?_
      refine x_aload_n X dL_law_147 0 rfl ?_
      refine x_bipush X (v := 9) dL_law_148 (by decide) ?_
      refine x_iload X dL_law_150 11 rfl ?_
      refine x_iadd X dL_law_152 ?_
      obtain ⟨hk9, hf⟩ := ck_some hf
      refine x_callSx X hX hbl hbA (As := [.ref b, .int ((9 : Int32) + y11)]) (rest := [.ref (ad 0)]) (n := 2) (goodS w_5230 w_5231 w_46 w_5232) (met_L_cell l b L xs hL ((9 : Int32) + y11) hk9) rfl rfl (by decide +kernel) ⟨Nat.le_of_ble_eq_true rfl, Nat.le_of_ble_eq_true rfl⟩ rfl rfl (Nat.le_of_ble_eq_true rfl) dL_law_153 ⟨by decide, by decide⟩ ?_
      refine x_nmI hf (fun x4 hf => ?_)
      refine x_aload_n X dL_law_156 2 rfl ?_
      refine x_aload_n X dL_law_157 3 rfl ?_
      refine x_aload X dL_law_158 4 rfl ?_
      refine x_aload X dL_law_160 6 rfl ?_
      refine x_aload X dL_law_162 5 rfl ?_
      refine x_aload X dL_law_164 7 rfl ?_
      obtain ⟨x5, w6, f7, h8, hf⟩ := bn3_some hf
      refine x_callSw_i X E (As := [.ref (ad 0), .int x4, .ref (al 0), .ref (al 1), .ref (al 2), .ref (al 4), .ref (al 3), .ref (al 5)]) (rest := []) (n := 8) (ws2 := picC kA ad w6 ++ picL kA al f7) (goodS w_5253 w_5254 w_46 w_5255) (fun sz => (met_L_change l E.2.2.2 D kA ad al fu w1 f2 x4 x5 w6 f7 h8) sz) rfl rfl (by decide +kernel) ⟨Nat.le_of_ble_eq_true rfl, Nat.le_of_ble_eq_true rfl⟩ rfl rfl (Nat.le_of_ble_eq_true rfl) dL_law_166 ⟨Nat.le_of_ble_eq_true rfl, Nat.le_of_ble_eq_true rfl⟩ ?_
      refine x_istore X (lv2 := [(12, .int x5), (0, .ref b), (1, .ref (ad 0)), (2, .ref (al 0)), (3, .ref (al 1)), (4, .ref (al 2)), (5, .ref (al 3)), (6, .ref (al 4)), (7, .ref (al 5)), (8, .ref (al 6)), (9, .ref (al 7)), (10, .ref (al 8)), (11, .int y11)]) dL_law_169 (by decide) rfl ?_
      refine x_aload_n X dL_law_171 2 rfl ?_
      refine x_aload X dL_law_172 10 rfl ?_
      obtain ⟨w9, f10, h11, hf⟩ := bn2_some hf
      refine x_callSw_v X E (As := [.ref (ad 0), .ref (al 7)]) (rest := []) (n := 2) (ws2 := picC kA ad w9 ++ picL kA al f10) (goodS w_5260 w_5261 w_46 w_5262) (fun sz => (met_L_read7 l E.2.2.2 D kA ad al fu w6 f7 w9 f10 h11) sz) rfl rfl (by decide +kernel) ⟨Nat.le_of_ble_eq_true rfl, Nat.le_of_ble_eq_true rfl⟩ rfl rfl (Nat.le_of_ble_eq_true rfl) dL_law_174 ⟨Nat.le_of_ble_eq_true rfl, Nat.le_of_ble_eq_true rfl⟩ ?_
      refine x_iload X dL_law_177 0 rfl ?_
      refine x_aload X dL_law_179 9 rfl ?_
      refine x_aload X dL_law_181 10 rfl ?_
      obtain ⟨x12, h13, hf⟩ := bn_some hf
      refine x_callSw_i X E (As := [.ref (al 6), .ref (al 7)]) (rest := [.int x5]) (n := 2) (ws2 := picC kA ad w9 ++ picL kA al f10) (goodS w_5266 w_5267 w_46 w_5268) (fun sz => (met_L_unlike l E.2.2.2 D kA ad al fu w9 f10 x12 h13) sz) rfl rfl (by decide +kernel) ⟨Nat.le_of_ble_eq_true rfl, Nat.le_of_ble_eq_true rfl⟩ rfl rfl (Nat.le_of_ble_eq_true rfl) dL_law_183 ⟨Nat.le_of_ble_eq_true rfl, Nat.le_of_ble_eq_true rfl⟩ ?_
      refine x_icmp_eq X (tgt := 191) dL_law_186 (by decide) hf (fun hf => ?_) (fun hf => ?_)
      · refine x_iconst X (v := 0) dL_law_191 (by decide) ?_
        refine x_istore X (lv2 := [(13, .int 0), (12, .int x5), (0, .ref b), (1, .ref (ad 0)), (2, .ref (al 0)), (3, .ref (al 1)), (4, .ref (al 2)), (5, .ref (al 3)), (6, .ref (al 4)), (7, .ref (al 5)), (8, .ref (al 6)), (9, .ref (al 7)), (10, .ref (al 8)), (11, .int y11)]) dL_law_192 (by decide) rfl ?_
        refine x_lpick (lv2 := [(0, .ref b), (1, .ref (ad 0)), (2, .ref (al 0)), (3, .ref (al 1)), (4, .ref (al 2)), (5, .ref (al 3)), (6, .ref (al 4)), (7, .ref (al 5)), (8, .ref (al 6)), (9, .ref (al 7)), (10, .ref (al 8)), (11, .int y11), (13, .int 0)]) [2, 3, 4, 5, 6, 7, 8, 9, 10, 11, 12, 13, 0] rfl ?_
        obtain ⟨w14, f15, h16, hf⟩ := bn2_some hf
        refine lp_L_law_194 X E hX hbl hbA hL fu y11 fu (0 : Int32) w9 f10 w14 f15 h16 ?_
        refine x_iinc X dL_law_263 11 rfl (by decide) (y11 + 1) rfl hf (fun x17 => [(11, .int x17), (0, .ref b), (1, .ref (ad 0)), (2, .ref (al 0)), (3, .ref (al 1)), (4, .ref (al 2)), (5, .ref (al 3)), (6, .ref (al 4)), (7, .ref (al 5)), (8, .ref (al 6)), (9, .ref (al 7)), (10, .ref (al 8))]) (fun _ => rfl) (fun x17 hf => ?_)
        refine x_goto X (tgt := 133) dL_law_266 (by decide) ?_
        cases hf
        refine x_lpick (lv2 := [(0, .ref b), (1, .ref (ad 0)), (2, .ref (al 0)), (3, .ref (al 1)), (4, .ref (al 2)), (5, .ref (al 3)), (6, .ref (al 4)), (7, .ref (al 5)), (8, .ref (al 6)), (9, .ref (al 7)), (10, .ref (al 8)), (11, .int x17)]) [1, 2, 3, 4, 5, 6, 7, 8, 9, 10, 11, 0] rfl ?_
        exact ih _ _ _ _ _ hit kk
      · cases hf
set_option maxRecDepth 100000 in
set_option maxHeartbeats 4000000 in
theorem law_tail (X : CX p m c cL_law 15 s args RL) (E : EX l s D kA A) (hX : va_X b L xs s s.heap) (hbl : b < s.heap.size) (hbA : ¬ A b) (hL : L ≤ 260) (fu : Nat) (w f : WS) (hf : f_L_main fu L xs w f = some ()) (kk : ∀ w f : WS, CS p l e room_1 s m args below meth c D A 15 38 46914 Q (picC kA ad w ++ picL kA al f) 269 [] []) : CS p l e room_1 s m args below meth c D A 15 38 46914 Q ((picC kA ad w) ++ picL kA al f) 85 [(0, .ref b), (1, .ref (ad 0)), (2, .ref (al 0)), (3, .ref (al 1)), (4, .ref (al 2)), (5, .ref (al 3)), (6, .ref (al 4)), (7, .ref (al 5)), (8, .ref (al 6)), (9, .ref (al 7)), (10, .ref (al 8))] [] := by
  unfold f_L_main at hf
  refine x_iconst X (v := 0) dL_law_85 (by decide) ?_
  refine x_istore X (lv2 := [(11, .int 0), (0, .ref b), (1, .ref (ad 0)), (2, .ref (al 0)), (3, .ref (al 1)), (4, .ref (al 2)), (5, .ref (al 3)), (6, .ref (al 4)), (7, .ref (al 5)), (8, .ref (al 6)), (9, .ref (al 7)), (10, .ref (al 8))]) dL_law_86 (by decide) rfl ?_
  refine x_lpick (lv2 := [(0, .ref b), (1, .ref (ad 0)), (2, .ref (al 0)), (3, .ref (al 1)), (4, .ref (al 2)), (5, .ref (al 3)), (6, .ref (al 4)), (7, .ref (al 5)), (8, .ref (al 6)), (9, .ref (al 7)), (10, .ref (al 8)), (11, .int 0)]) [1, 2, 3, 4, 5, 6, 7, 8, 9, 10, 11, 0] rfl ?_
  obtain ⟨f1, h2, hf⟩ := bn_some hf
  refine lp_L_law_88 X E hX hbl hbA hL fu w fu (0 : Int32) f f1 h2 ?_
  refine x_iconst X (v := 0) dL_law_108 (by decide) ?_
  refine x_istore X (lv2 := [(11, .int 0), (0, .ref b), (1, .ref (ad 0)), (2, .ref (al 0)), (3, .ref (al 1)), (4, .ref (al 2)), (5, .ref (al 3)), (6, .ref (al 4)), (7, .ref (al 5)), (8, .ref (al 6)), (9, .ref (al 7)), (10, .ref (al 8))]) dL_law_109 (by decide) rfl ?_
  refine x_lpick (lv2 := [(0, .ref b), (1, .ref (ad 0)), (2, .ref (al 0)), (3, .ref (al 1)), (4, .ref (al 2)), (5, .ref (al 3)), (6, .ref (al 4)), (7, .ref (al 5)), (8, .ref (al 6)), (9, .ref (al 7)), (10, .ref (al 8)), (11, .int 0)]) [1, 2, 3, 4, 5, 6, 7, 8, 9, 10, 11, 0] rfl ?_
  obtain ⟨f3, h4, hf⟩ := bn_some hf
  refine lp_L_law_111 X E hX hbl hbA hL fu w fu (0 : Int32) f1 f3 h4 ?_
  refine x_iconst X (v := 0) dL_law_130 (by decide) ?_
  refine x_istore X (lv2 := [(11, .int 0), (0, .ref b), (1, .ref (ad 0)), (2, .ref (al 0)), (3, .ref (al 1)), (4, .ref (al 2)), (5, .ref (al 3)), (6, .ref (al 4)), (7, .ref (al 5)), (8, .ref (al 6)), (9, .ref (al 7)), (10, .ref (al 8))]) dL_law_131 (by decide) rfl ?_
  refine x_lpick (lv2 := [(0, .ref b), (1, .ref (ad 0)), (2, .ref (al 0)), (3, .ref (al 1)), (4, .ref (al 2)), (5, .ref (al 3)), (6, .ref (al 4)), (7, .ref (al 5)), (8, .ref (al 6)), (9, .ref (al 7)), (10, .ref (al 8)), (11, .int 0)]) [1, 2, 3, 4, 5, 6, 7, 8, 9, 10, 11, 0] rfl ?_
  obtain ⟨w5, f6, h7, hf⟩ := bn2_some hf
  refine lp_L_law_133 X E hX hbl hbA hL fu  fu (0 : Int32) w f3 w5 f6 h7 ?_
  exact kk w5 f6
end
