section
variable {p : Program} {l : Launch} {e : Env} {s : State} {m : MethodId} {args : Array Value} {below : List Frame} {meth : Method} {c : Code} {D : va_G} {kA : Nat → ClassId} {A : Nat → Prop} {Q : State → Prop} {ad al : Nat → Nat} {b L : Nat} {xs : Nat → Int32}
abbrev rm_L_below : Room := { frames := 0, cells := 0, slots := 0, locals := 0 }
set_option maxRecDepth 100000 in
set_option maxHeartbeats 4000000 in
theorem met_L_below (l : Launch) (fu : Nat) (a0 : Int32) (a1 : Int32) (v : Int32) (hf : f_L_below fu a0 a1 = some v) : Met l yL_below (wsY yL_below cL_below 2 (some .int)) rm_L_below (va_Pc [.int a0, .int a1] (fun _ => True)) (va_Qi (fun (r : Int32) (_ : Unit) => r = v) (fun _ _ => True) (fun _ => False)) 0 0 (fun _ => False) := by
  refine metS (own := RL) (by decide +kernel) rfl (Nat.le_of_ble_eq_true rfl) rfl ?_
  intro p e s m below meth c X hr hlk
  generalize ([] : va_W) = ws
  unfold f_L_below at hf
  refine x_iload_n X dL_below_0 0 rfl ?_
  refine x_ldc X (v := 2147483647) w_5241 dL_below_1 ?_
  refine x_iand X dL_below_3 ?_
  refine x_iload_n X dL_below_4 1 rfl ?_
  refine x_irem X dL_below_5 hf (fun x1 hf => ?_)
  exact x_iretS X hr hlk (Option.some.inj hf) dL_below_6
end
section
variable {p : Program} {l : Launch} {e : Env} {s : State} {m : MethodId} {args : Array Value} {below : List Frame} {meth : Method} {c : Code} {D : va_G} {kA : Nat → ClassId} {A : Nat → Prop} {Q : State → Prop} {ad al : Nat → Nat} {b L : Nat} {xs : Nat → Int32}
abbrev rm_L_build : Room := { frames := 3, cells := 0, slots := 0, locals := 104 }
set_option maxRecDepth 100000 in
set_option maxHeartbeats 4000000 in
theorem lp_L_build_3 (X : CX p m c cL_build 7 s args RL) (E : EX l s D kA A) (hX : va_X b L xs s s.heap) (hbl : b < s.heap.size) (hbA : ¬ A b) (hL : L ≤ 260) (fu : Nat) (f : WS) : ∀ (n : Nat) (y5 : Int32) (w : WS) (out : (WS) ⊕ (WS)), iter (fun q => bd_L_build_3 fu L xs f q.1 q.2) n (y5, w) = some out → (∀ (r : WS), out = .inl r → CS p l e rm_L_build s m args below meth c D A 7 0 0 Q ((picC kA ad r) ++ picB kA al f) 18 [] []) ∧ (∀ (r : WS), out = .inr r → CS p l e rm_L_build s m args below meth c D A 7 0 0 Q ((picC kA ad r) ++ picB kA al f) 26 [(0, .ref (ad 0)), (1, .ref b), (2, .ref (al 0)), (3, .ref (al 1)), (4, .ref (al 2))] []) → CS p l e rm_L_build s m args below meth c D A 7 0 0 Q ((picC kA ad w) ++ picB kA al f) 3 [(0, .ref (ad 0)), (1, .ref b), (2, .ref (al 0)), (3, .ref (al 1)), (4, .ref (al 2)), (5, .int y5)] [] := by
  intro n
  induction n with
  | zero =>
    intro y5 w out hit kk
    exact (iter_0 hit).elim
  | succ n ih =>
    intro y5 w out hit kk
    obtain ⟨o, h1, hit⟩ := iter_one hit
    have hf : bd_L_build_3 fu L xs f y5 w = some o := h1
    unfold bd_L_build_3 at hf
    refine x_iload X dL_build_3 5 rfl ?_
    refine x_iconst X (v := 5) dL_build_5 (by decide) ?_
    refine x_icmp_ge X (tgt := 26) dL_build_6 (by decide) hf (fun hf => ?_) (fun hf => ?_)
    · cases hf
      cases hit
      refine x_lpick (lv2 := [(0, .ref (ad 0)), (1, .ref b), (2, .ref (al 0)), (3, .ref (al 1)), (4, .ref (al 2))]) [0, 1, 2, 3, 4] rfl ?_
      exact kk.2 _ rfl
    · refine x_aload_n X dL_build_9 0 rfl ?_
      obtain ⟨x1, w2, hx1, hf⟩ := bxn2_some hf
      refine x_callVs_i X E (As := []) (rest := []) (n := 0) (u := picC kA ad w) (u2 := picC kA ad w2) [] (picB kA al f) rfl (goodV w_5237 w_304 w_305 w_47 w_306) (met_X3_addJunction l E.2.2.2 D kA ad fu w x1 w2 hx1) rfl rfl (by decide +kernel) ⟨Nat.le_of_ble_eq_true rfl, Nat.le_of_ble_eq_true rfl⟩ 0 rfl (qc := (RX3, TX3, _)) rfl rfl rfl rfl (Nat.le_of_ble_eq_true rfl) dL_build_10 ⟨by decide, by decide⟩ (picC kA ad w2 ++ picB kA al f) rfl ?_
      refine x_iload X dL_build_13 5 rfl ?_
      refine x_icmp_eq X (tgt := 20) dL_build_15 (by decide) hf (fun hf => ?_) (fun hf => ?_)
      · refine x_iinc X dL_build_20 5 rfl (by decide) (y5 + 1) rfl hf (fun x3 => [(5, .int x3), (0, .ref (ad 0)), (1, .ref b), (2, .ref (al 0)), (3, .ref (al 1)), (4, .ref (al 2))]) (fun _ => rfl) (fun x3 hf => ?_)
        refine x_goto X (tgt := 3) dL_build_23 (by decide) ?_
        cases hf
        refine x_lpick (lv2 := [(0, .ref (ad 0)), (1, .ref b), (2, .ref (al 0)), (3, .ref (al 1)), (4, .ref (al 2)), (5, .int x3)]) [1, 2, 3, 4, 5, 0] rfl ?_
        exact ih _ _ _ hit kk
      · cases hf
        cases hit
        refine x_lpick (lv2 := []) [] rfl ?_
        exact kk.1 _ rfl
set_option maxRecDepth 100000 in
set_option maxHeartbeats 4000000 in
theorem lp_L_build_29 (X : CX p m c cL_build 7 s args RL) (E : EX l s D kA A) (hX : va_X b L xs s s.heap) (hbl : b < s.heap.size) (hbA : ¬ A b) (hL : L ≤ 260) (fu : Nat)  : ∀ (n : Nat) (y5 : Int32) (w : WS) (f : WS) (out : (WS × WS) ⊕ (WS × WS)), iter (fun q => bd_L_build_29 fu L xs q.1 q.2.1 q.2.2) n (y5, w, f) = some out → (∀ (r : WS × WS), out = .inl r → CS p l e rm_L_build s m args below meth c D A 7 0 0 Q ((picC kA ad r.1) ++ picB kA al r.2) 140 [] []) ∧ (∀ (r : WS × WS), out = .inr r → CS p l e rm_L_build s m args below meth c D A 7 0 0 Q ((picC kA ad r.1) ++ picB kA al r.2) 148 [] []) → CS p l e rm_L_build s m args below meth c D A 7 0 0 Q ((picC kA ad w) ++ picB kA al f) 29 [(0, .ref (ad 0)), (1, .ref b), (2, .ref (al 0)), (3, .ref (al 1)), (4, .ref (al 2)), (5, .int y5)] [] := by
  intro n
  induction n with
  | zero =>
    intro y5 w f out hit kk
    exact (iter_0 hit).elim
  | succ n ih =>
    intro y5 w f out hit kk
    obtain ⟨o, h1, hit⟩ := iter_one hit
    have hf : bd_L_build_29 fu L xs y5 w f = some o := h1
    unfold bd_L_build_29 at hf
    refine x_iload X dL_build_29 5 rfl ?_
    refine x_bipush X (v := 9) dL_build_31 (by decide) ?_
    refine x_icmp_ge X (tgt := 148) dL_build_33 (by decide) hf (fun hf => ?_) (fun hf => ?_)
    · cases hf
      cases hit
      refine x_lpick (lv2 := []) [] rfl ?_
      exact kk.2 _ rfl
    · refine x_aload_n X dL_build_36 1 rfl ?_
      refine x_iload X dL_build_37 5 rfl ?_
      obtain ⟨hk9, hf⟩ := ck_some hf
      refine x_callSx X hX hbl hbA (As := [.ref b, .int y5]) (rest := []) (n := 2) (goodS w_5230 w_5231 w_46 w_5232) (met_L_cell l b L xs hL y5 hk9) rfl rfl (by decide +kernel) ⟨Nat.le_of_ble_eq_true rfl, Nat.le_of_ble_eq_true rfl⟩ rfl rfl (Nat.le_of_ble_eq_true rfl) dL_build_39 ⟨by decide, by decide⟩ ?_
      refine x_nmI hf (fun x1 hf => ?_)
      refine x_istore X (lv2 := [(6, .int x1), (0, .ref (ad 0)), (1, .ref b), (2, .ref (al 0)), (3, .ref (al 1)), (4, .ref (al 2)), (5, .int y5)]) dL_build_42 (by decide) rfl ?_
      refine x_aload_n X dL_build_44 3 rfl ?_
      refine x_iload X dL_build_45 6 rfl ?_
      refine x_iload X dL_build_47 6 rfl ?_
      refine x_iconst X (v := 5) dL_build_49 (by decide) ?_
      refine x_icmp_ge X (tgt := 58) dL_build_50 (by decide) hf (fun hf => ?_) (fun hf => ?_)
      · refine x_iload X dL_build_58 0 rfl ?_
        refine x_iconst X (v := 5) dL_build_60 (by decide) ?_
        obtain ⟨x2, hx2, hf⟩ := bn_some hf
        refine x_callS_i X (As := [.int x1, .int 5]) (rest := [.int y5, .ref (al 0)]) (n := 2) (goodS w_5238 w_5239 w_46 w_5240) (met_L_below l fu x1 (5 : Int32) x2 hx2) rfl rfl (by decide +kernel) ⟨by decide, by decide⟩ rfl rfl (Nat.le_of_ble_eq_true rfl) dL_build_61 ⟨by decide, by decide⟩ ?_
        refine x_iast X E.1.1 29 rfl dL_build_64 hf (fun f => picC kA ad w ++ picB kA al f) rfl (fun f3 hf => ?_)
        refine x_aload_n X dL_build_65 4 rfl ?_
        refine x_iload X dL_build_66 6 rfl ?_
        refine x_iload X dL_build_68 6 rfl ?_
        refine x_iconst X (v := 5) dL_build_70 (by decide) ?_
        refine x_icmp_ge X (tgt := 83) dL_build_71 (by decide) hf (fun hf => ?_) (fun hf => ?_)
        · refine x_aload_n X dL_build_83 3 rfl ?_
          refine x_iload X dL_build_84 6 rfl ?_
          refine x_iald X E.1.1 29 rfl dL_build_86 hf (fun x4 hf => ?_)
          refine x_iconst X (v := 1) dL_build_87 (by decide) ?_
          refine x_iadd X dL_build_88 ?_
          refine x_iload X dL_build_89 0 rfl ?_
          refine x_iconst X (v := 4) dL_build_91 (by decide) ?_
          refine x_ishr X dL_build_92 ?_
          refine x_iconst X (v := 4) dL_build_93 (by decide) ?_
          obtain ⟨x5, hx5, hf⟩ := bn_some hf
          refine x_callS_i X (As := [.int (x1 >>> ((4 : Int32) &&& 31)), .int 4]) (rest := [.int (x4 + 1), .int y5, .ref (al 1)]) (n := 2) (goodS w_5238 w_5239 w_46 w_5240) (met_L_below l fu (x1 >>> ((4 : Int32) &&& 31)) (4 : Int32) x5 hx5) rfl rfl (by decide +kernel) ⟨by decide, by decide⟩ rfl rfl (Nat.le_of_ble_eq_true rfl) dL_build_94 ⟨by decide, by decide⟩ ?_
          refine x_iadd X dL_build_97 ?_
          refine x_iconst X (v := 5) dL_build_98 (by decide) ?_
          refine x_irem X dL_build_99 hf (fun x6 hf => ?_)
          refine x_iast X E.1.1 30 rfl dL_build_100 hf (fun f => picC kA ad w ++ picB kA al f) rfl (fun f7 hf => ?_)
          refine x_aload X dL_build_101 5 rfl ?_
          refine x_iload X dL_build_103 6 rfl ?_
          refine x_iconst X (v := 1) dL_build_105 (by decide) ?_
          refine x_iload X dL_build_106 0 rfl ?_
          refine x_bipush X (v := 8) dL_build_108 (by decide) ?_
          refine x_ishr X dL_build_110 ?_
          refine x_bipush X (v := 6) dL_build_111 (by decide) ?_
          obtain ⟨x8, hx8, hf⟩ := bn_some hf
          refine x_callS_i X (As := [.int (x1 >>> ((8 : Int32) &&& 31)), .int 6]) (rest := [.int 1, .int y5, .ref (al 2)]) (n := 2) (goodS w_5238 w_5239 w_46 w_5240) (met_L_below l fu (x1 >>> ((8 : Int32) &&& 31)) (6 : Int32) x8 hx8) rfl rfl (by decide +kernel) ⟨by decide, by decide⟩ rfl rfl (Nat.le_of_ble_eq_true rfl) dL_build_113 ⟨by decide, by decide⟩ ?_
          refine x_iadd X dL_build_116 ?_
          refine x_iast X E.1.1 31 rfl dL_build_117 hf (fun f => picC kA ad w ++ picB kA al f) rfl (fun f9 hf => ?_)
          refine x_aload_n X dL_build_118 1 rfl ?_
          refine x_aload_n X dL_build_119 3 rfl ?_
          refine x_iload X dL_build_120 6 rfl ?_
          refine x_iald X E.1.1 29 rfl dL_build_122 hf (fun x10 hf => ?_)
          refine x_aload_n X dL_build_123 4 rfl ?_
          refine x_iload X dL_build_124 6 rfl ?_
          refine x_iald X E.1.1 30 rfl dL_build_126 hf (fun x11 hf => ?_)
          refine x_aload X dL_build_127 5 rfl ?_
          refine x_iload X dL_build_129 6 rfl ?_
          refine x_iald X E.1.1 31 rfl dL_build_131 hf (fun x12 hf => ?_)
          obtain ⟨x13, w14, hx13, hf⟩ := bxn2_some hf
          refine x_callVs_i X E (As := [.int x10, .int x11, .int x12]) (rest := []) (n := 3) (u := picC kA ad w) (u2 := picC kA ad w14) [] (picB kA al f9) rfl (goodV w_5242 w_382 w_383 w_47 w_384) (met_X3_addRoad l E.2.2.2 D kA ad fu w x10 x11 x12 x13 w14 hx13) rfl rfl (by decide +kernel) ⟨Nat.le_of_ble_eq_true rfl, Nat.le_of_ble_eq_true rfl⟩ 0 rfl (qc := (RX3, TX3, _)) rfl rfl rfl rfl (Nat.le_of_ble_eq_true rfl) dL_build_132 ⟨by decide, by decide⟩ (picC kA ad w14 ++ picB kA al f9) rfl ?_
          refine x_iload X dL_build_135 6 rfl ?_
          refine x_icmp_eq X (tgt := 142) dL_build_137 (by decide) hf (fun hf => ?_) (fun hf => ?_)
          · refine x_iinc X dL_build_142 6 rfl (by decide) (y5 + 1) rfl hf (fun x15 => [(5, .int x15), (6, .int x1), (0, .ref (ad 0)), (1, .ref b), (2, .ref (al 0)), (3, .ref (al 1)), (4, .ref (al 2))]) (fun _ => rfl) (fun x15 hf => ?_)
            refine x_goto X (tgt := 29) dL_build_145 (by decide) ?_
            cases hf
            refine x_lpick (lv2 := [(0, .ref (ad 0)), (1, .ref b), (2, .ref (al 0)), (3, .ref (al 1)), (4, .ref (al 2)), (5, .int x15)]) [2, 3, 4, 5, 6, 0] rfl ?_
            exact ih _ _ _ _ hit kk
          · cases hf
            cases hit
            refine x_lpick (lv2 := []) [] rfl ?_
            exact kk.1 _ rfl
        · refine x_iload X dL_build_74 6 rfl ?_
          refine x_iconst X (v := 1) dL_build_76 (by decide) ?_
          refine x_iadd X dL_build_77 ?_
          refine x_iconst X (v := 5) dL_build_78 (by decide) ?_
          refine x_irem X dL_build_79 hf (fun x16 hf => ?_)
          refine x_goto X (tgt := 100) dL_build_80 (by decide) ?_
          refine x_iast X E.1.1 30 rfl dL_build_100 hf (fun f => picC kA ad w ++ picB kA al f) rfl (fun f17 hf => ?_)
          refine x_aload X dL_build_101 5 rfl ?_
          refine x_iload X dL_build_103 6 rfl ?_
          refine x_iconst X (v := 1) dL_build_105 (by decide) ?_
          refine x_iload X dL_build_106 0 rfl ?_
          refine x_bipush X (v := 8) dL_build_108 (by decide) ?_
          refine x_ishr X dL_build_110 ?_
          refine x_bipush X (v := 6) dL_build_111 (by decide) ?_
          obtain ⟨x18, hx18, hf⟩ := bn_some hf
          refine x_callS_i X (As := [.int (x1 >>> ((8 : Int32) &&& 31)), .int 6]) (rest := [.int 1, .int y5, .ref (al 2)]) (n := 2) (goodS w_5238 w_5239 w_46 w_5240) (met_L_below l fu (x1 >>> ((8 : Int32) &&& 31)) (6 : Int32) x18 hx18) rfl rfl (by decide +kernel) ⟨by decide, by decide⟩ rfl rfl (Nat.le_of_ble_eq_true rfl) dL_build_113 ⟨by decide, by decide⟩ ?_
          refine x_iadd X dL_build_116 ?_
          refine x_iast X E.1.1 31 rfl dL_build_117 hf (fun f => picC kA ad w ++ picB kA al f) rfl (fun f19 hf => ?_)
          refine x_aload_n X dL_build_118 1 rfl ?_
          refine x_aload_n X dL_build_119 3 rfl ?_
          refine x_iload X dL_build_120 6 rfl ?_
          refine x_iald X E.1.1 29 rfl dL_build_122 hf (fun x20 hf => ?_)
          refine x_aload_n X dL_build_123 4 rfl ?_
          refine x_iload X dL_build_124 6 rfl ?_
          refine x_iald X E.1.1 30 rfl dL_build_126 hf (fun x21 hf => ?_)
          refine x_aload X dL_build_127 5 rfl ?_
          refine x_iload X dL_build_129 6 rfl ?_
          refine x_iald X E.1.1 31 rfl dL_build_131 hf (fun x22 hf => ?_)
          obtain ⟨x23, w24, hx23, hf⟩ := bxn2_some hf
          refine x_callVs_i X E (As := [.int x20, .int x21, .int x22]) (rest := []) (n := 3) (u := picC kA ad w) (u2 := picC kA ad w24) [] (picB kA al f19) rfl (goodV w_5242 w_382 w_383 w_47 w_384) (met_X3_addRoad l E.2.2.2 D kA ad fu w x20 x21 x22 x23 w24 hx23) rfl rfl (by decide +kernel) ⟨Nat.le_of_ble_eq_true rfl, Nat.le_of_ble_eq_true rfl⟩ 0 rfl (qc := (RX3, TX3, _)) rfl rfl rfl rfl (Nat.le_of_ble_eq_true rfl) dL_build_132 ⟨by decide, by decide⟩ (picC kA ad w24 ++ picB kA al f19) rfl ?_
          refine x_iload X dL_build_135 6 rfl ?_
          refine x_icmp_eq X (tgt := 142) dL_build_137 (by decide) hf (fun hf => ?_) (fun hf => ?_)
          · refine x_iinc X dL_build_142 6 rfl (by decide) (y5 + 1) rfl hf (fun x25 => [(5, .int x25), (6, .int x1), (0, .ref (ad 0)), (1, .ref b), (2, .ref (al 0)), (3, .ref (al 1)), (4, .ref (al 2))]) (fun _ => rfl) (fun x25 hf => ?_)
            refine x_goto X (tgt := 29) dL_build_145 (by decide) ?_
            cases hf
            refine x_lpick (lv2 := [(0, .ref (ad 0)), (1, .ref b), (2, .ref (al 0)), (3, .ref (al 1)), (4, .ref (al 2)), (5, .int x25)]) [2, 3, 4, 5, 6, 0] rfl ?_
            exact ih _ _ _ _ hit kk
          · cases hf
            cases hit
            refine x_lpick (lv2 := []) [] rfl ?_
            exact kk.1 _ rfl
      · refine x_iload X dL_build_53 6 rfl ?_
        refine x_goto X (tgt := 64) dL_build_55 (by decide) ?_
        refine x_iast X E.1.1 29 rfl dL_build_64 hf (fun f => picC kA ad w ++ picB kA al f) rfl (fun f26 hf => ?_)
        refine x_aload_n X dL_build_65 4 rfl ?_
        refine x_iload X dL_build_66 6 rfl ?_
        refine x_iload X dL_build_68 6 rfl ?_
        refine x_iconst X (v := 5) dL_build_70 (by decide) ?_
        refine x_icmp_ge X (tgt := 83) dL_build_71 (by decide) hf (fun hf => ?_) (fun hf => ?_)
        · refine x_aload_n X dL_build_83 3 rfl ?_
          refine x_iload X dL_build_84 6 rfl ?_
          refine x_iald X E.1.1 29 rfl dL_build_86 hf (fun x27 hf => ?_)
          refine x_iconst X (v := 1) dL_build_87 (by decide) ?_
          refine x_iadd X dL_build_88 ?_
          refine x_iload X dL_build_89 0 rfl ?_
          refine x_iconst X (v := 4) dL_build_91 (by decide) ?_
          refine x_ishr X dL_build_92 ?_
          refine x_iconst X (v := 4) dL_build_93 (by decide) ?_
          obtain ⟨x28, hx28, hf⟩ := bn_some hf
          refine x_callS_i X (As := [.int (x1 >>> ((4 : Int32) &&& 31)), .int 4]) (rest := [.int (x27 + 1), .int y5, .ref (al 1)]) (n := 2) (goodS w_5238 w_5239 w_46 w_5240) (met_L_below l fu (x1 >>> ((4 : Int32) &&& 31)) (4 : Int32) x28 hx28) rfl rfl (by decide +kernel) ⟨by decide, by decide⟩ rfl rfl (Nat.le_of_ble_eq_true rfl) dL_build_94 ⟨by decide, by decide⟩ ?_
          refine x_iadd X dL_build_97 ?_
          refine x_iconst X (v := 5) dL_build_98 (by decide) ?_
          refine x_irem X dL_build_99 hf (fun x29 hf => ?_)
          refine x_iast X E.1.1 30 rfl dL_build_100 hf (fun f => picC kA ad w ++ picB kA al f) rfl (fun f30 hf => ?_)
          refine x_aload X dL_build_101 5 rfl ?_
          refine x_iload X dL_build_103 6 rfl ?_
          refine x_iconst X (v := 1) dL_build_105 (by decide) ?_
          refine x_iload X dL_build_106 0 rfl ?_
          refine x_bipush X (v := 8) dL_build_108 (by decide) ?_
          refine x_ishr X dL_build_110 ?_
          refine x_bipush X (v := 6) dL_build_111 (by decide) ?_
          obtain ⟨x31, hx31, hf⟩ := bn_some hf
          refine x_callS_i X (As := [.int (x1 >>> ((8 : Int32) &&& 31)), .int 6]) (rest := [.int 1, .int y5, .ref (al 2)]) (n := 2) (goodS w_5238 w_5239 w_46 w_5240) (met_L_below l fu (x1 >>> ((8 : Int32) &&& 31)) (6 : Int32) x31 hx31) rfl rfl (by decide +kernel) ⟨by decide, by decide⟩ rfl rfl (Nat.le_of_ble_eq_true rfl) dL_build_113 ⟨by decide, by decide⟩ ?_
          refine x_iadd X dL_build_116 ?_
          refine x_iast X E.1.1 31 rfl dL_build_117 hf (fun f => picC kA ad w ++ picB kA al f) rfl (fun f32 hf => ?_)
          refine x_aload_n X dL_build_118 1 rfl ?_
          refine x_aload_n X dL_build_119 3 rfl ?_
          refine x_iload X dL_build_120 6 rfl ?_
          refine x_iald X E.1.1 29 rfl dL_build_122 hf (fun x33 hf => ?_)
          refine x_aload_n X dL_build_123 4 rfl ?_
          refine x_iload X dL_build_124 6 rfl ?_
          refine x_iald X E.1.1 30 rfl dL_build_126 hf (fun x34 hf => ?_)
          refine x_aload X dL_build_127 5 rfl ?_
          refine x_iload X dL_build_129 6 rfl ?_
          refine x_iald X E.1.1 31 rfl dL_build_131 hf (fun x35 hf => ?_)
          obtain ⟨x36, w37, hx36, hf⟩ := bxn2_some hf
          refine x_callVs_i X E (As := [.int x33, .int x34, .int x35]) (rest := []) (n := 3) (u := picC kA ad w) (u2 := picC kA ad w37) [] (picB kA al f32) rfl (goodV w_5242 w_382 w_383 w_47 w_384) (met_X3_addRoad l E.2.2.2 D kA ad fu w x33 x34 x35 x36 w37 hx36) rfl rfl (by decide +kernel) ⟨Nat.le_of_ble_eq_true rfl, Nat.le_of_ble_eq_true rfl⟩ 0 rfl (qc := (RX3, TX3, _)) rfl rfl rfl rfl (Nat.le_of_ble_eq_true rfl) dL_build_132 ⟨by decide, by decide⟩ (picC kA ad w37 ++ picB kA al f32) rfl ?_
          refine x_iload X dL_build_135 6 rfl ?_
          refine x_icmp_eq X (tgt := 142) dL_build_137 (by decide) hf (fun hf => ?_) (fun hf => ?_)
          · refine x_iinc X dL_build_142 6 rfl (by decide) (y5 + 1) rfl hf (fun x38 => [(5, .int x38), (6, .int x1), (0, .ref (ad 0)), (1, .ref b), (2, .ref (al 0)), (3, .ref (al 1)), (4, .ref (al 2))]) (fun _ => rfl) (fun x38 hf => ?_)
            refine x_goto X (tgt := 29) dL_build_145 (by decide) ?_
            cases hf
            refine x_lpick (lv2 := [(0, .ref (ad 0)), (1, .ref b), (2, .ref (al 0)), (3, .ref (al 1)), (4, .ref (al 2)), (5, .int x38)]) [2, 3, 4, 5, 6, 0] rfl ?_
            exact ih _ _ _ _ hit kk
          · cases hf
            cases hit
            refine x_lpick (lv2 := []) [] rfl ?_
            exact kk.1 _ rfl
        · refine x_iload X dL_build_74 6 rfl ?_
          refine x_iconst X (v := 1) dL_build_76 (by decide) ?_
          refine x_iadd X dL_build_77 ?_
          refine x_iconst X (v := 5) dL_build_78 (by decide) ?_
          refine x_irem X dL_build_79 hf (fun x39 hf => ?_)
          refine x_goto X (tgt := 100) dL_build_80 (by decide) ?_
          refine x_iast X E.1.1 30 rfl dL_build_100 hf (fun f => picC kA ad w ++ picB kA al f) rfl (fun f40 hf => ?_)
          refine x_aload X dL_build_101 5 rfl ?_
          refine x_iload X dL_build_103 6 rfl ?_
          refine x_iconst X (v := 1) dL_build_105 (by decide) ?_
          refine x_iload X dL_build_106 0 rfl ?_
          refine x_bipush X (v := 8) dL_build_108 (by decide) ?_
          refine x_ishr X dL_build_110 ?_
          refine x_bipush X (v := 6) dL_build_111 (by decide) ?_
          obtain ⟨x41, hx41, hf⟩ := bn_some hf
          refine x_callS_i X (As := [.int (x1 >>> ((8 : Int32) &&& 31)), .int 6]) (rest := [.int 1, .int y5, .ref (al 2)]) (n := 2) (goodS w_5238 w_5239 w_46 w_5240) (met_L_below l fu (x1 >>> ((8 : Int32) &&& 31)) (6 : Int32) x41 hx41) rfl rfl (by decide +kernel) ⟨by decide, by decide⟩ rfl rfl (Nat.le_of_ble_eq_true rfl) dL_build_113 ⟨by decide, by decide⟩ ?_
          refine x_iadd X dL_build_116 ?_
          refine x_iast X E.1.1 31 rfl dL_build_117 hf (fun f => picC kA ad w ++ picB kA al f) rfl (fun f42 hf => ?_)
          refine x_aload_n X dL_build_118 1 rfl ?_
          refine x_aload_n X dL_build_119 3 rfl ?_
          refine x_iload X dL_build_120 6 rfl ?_
          refine x_iald X E.1.1 29 rfl dL_build_122 hf (fun x43 hf => ?_)
          refine x_aload_n X dL_build_123 4 rfl ?_
          refine x_iload X dL_build_124 6 rfl ?_
          refine x_iald X E.1.1 30 rfl dL_build_126 hf (fun x44 hf => ?_)
          refine x_aload X dL_build_127 5 rfl ?_
          refine x_iload X dL_build_129 6 rfl ?_
          refine x_iald X E.1.1 31 rfl dL_build_131 hf (fun x45 hf => ?_)
          obtain ⟨x46, w47, hx46, hf⟩ := bxn2_some hf
          refine x_callVs_i X E (As := [.int x43, .int x44, .int x45]) (rest := []) (n := 3) (u := picC kA ad w) (u2 := picC kA ad w47) [] (picB kA al f42) rfl (goodV w_5242 w_382 w_383 w_47 w_384) (met_X3_addRoad l E.2.2.2 D kA ad fu w x43 x44 x45 x46 w47 hx46) rfl rfl (by decide +kernel) ⟨Nat.le_of_ble_eq_true rfl, Nat.le_of_ble_eq_true rfl⟩ 0 rfl (qc := (RX3, TX3, _)) rfl rfl rfl rfl (Nat.le_of_ble_eq_true rfl) dL_build_132 ⟨by decide, by decide⟩ (picC kA ad w47 ++ picB kA al f42) rfl ?_
          refine x_iload X dL_build_135 6 rfl ?_
          refine x_icmp_eq X (tgt := 142) dL_build_137 (by decide) hf (fun hf => ?_) (fun hf => ?_)
          · refine x_iinc X dL_build_142 6 rfl (by decide) (y5 + 1) rfl hf (fun x48 => [(5, .int x48), (6, .int x1), (0, .ref (ad 0)), (1, .ref b), (2, .ref (al 0)), (3, .ref (al 1)), (4, .ref (al 2))]) (fun _ => rfl) (fun x48 hf => ?_)
            refine x_goto X (tgt := 29) dL_build_145 (by decide) ?_
            cases hf
            refine x_lpick (lv2 := [(0, .ref (ad 0)), (1, .ref b), (2, .ref (al 0)), (3, .ref (al 1)), (4, .ref (al 2)), (5, .int x48)]) [2, 3, 4, 5, 6, 0] rfl ?_
            exact ih _ _ _ _ hit kk
          · cases hf
            cases hit
            refine x_lpick (lv2 := []) [] rfl ?_
            exact kk.1 _ rfl
set_option maxRecDepth 100000 in
set_option maxHeartbeats 4000000 in
theorem met_L_build (l : Launch) (hst : l.stackTraces = false) (D : va_G) (kA : Nat → ClassId) (ad al : Nat → Nat) (fu : Nat) (b L : Nat) (xs : Nat → Int32) (hL : L ≤ 260) (w : WS) (f : WS)  (v : Int32) (w1 : WS) (f1 : WS) (hf : f_L_build fu L xs w f = some (v, w1, f1)) (sz : Nat) : Met l yL_build (wsY yL_build cL_build 7 (some .boolean)) rm_L_build (va_Pc [.ref (ad 0), .ref b, .ref (al 0), .ref (al 1), .ref (al 2)] (fun U => PreG D kA (picC kA ad w ++ picB kA al f) sz U ∧ va_X b L xs U U.heap ∧ b < U.heap.size ∧ ¬ va_A (picC kA ad w ++ picB kA al f) sz b)) (va_Qi (fun (r : Int32) (_ : Unit) => r = v) (fun _ t => PosG D (va_A (picC kA ad w ++ picB kA al f) sz) (picC kA ad w1 ++ picB kA al f1) t) (va_A (picC kA ad w ++ picB kA al f) sz)) 0 0 (va_A (picC kA ad w ++ picB kA al f) sz) := by
  refine metGx (own := RL) hst (by decide +kernel) rfl (Nat.le_of_ble_eq_true rfl) rfl ?_
  intro p e s m below meth c X hr hlk E hX hbl hbA
  unfold f_L_build at hf
  refine x_iconst X (v := 0) dL_build_0 (by decide) ?_
  refine x_istore X (lv2 := [(5, .int 0), (0, .ref (ad 0)), (1, .ref b), (2, .ref (al 0)), (3, .ref (al 1)), (4, .ref (al 2))]) dL_build_1 (by decide) rfl ?_
  refine x_lpick (lv2 := [(0, .ref (ad 0)), (1, .ref b), (2, .ref (al 0)), (3, .ref (al 1)), (4, .ref (al 2)), (5, .int 0)]) [1, 2, 3, 4, 5, 0] rfl ?_
  obtain ⟨o1, h2, hf, hg⟩ := bx_one hf
  refine lp_L_build_3 X E hX hbl hbA hL fu f fu (0 : Int32) w o1 h2 ⟨fun r ho => ?_, fun r ho => ?_⟩
  · have hf := hf _ ho
    refine x_iconst X (v := 0) dL_build_18 (by decide) ?_
    cases hf
  · have hf := hg _ ho
    refine x_iconst X (v := 0) dL_build_26 (by decide) ?_
    refine x_istore X (lv2 := [(5, .int 0), (0, .ref (ad 0)), (1, .ref b), (2, .ref (al 0)), (3, .ref (al 1)), (4, .ref (al 2))]) dL_build_27 (by decide) rfl ?_
    refine x_lpick (lv2 := [(0, .ref (ad 0)), (1, .ref b), (2, .ref (al 0)), (3, .ref (al 1)), (4, .ref (al 2)), (5, .int 0)]) [1, 2, 3, 4, 5, 0] rfl ?_
    obtain ⟨o5, h6, hf, hg⟩ := bx_one hf
    refine lp_L_build_29 X E hX hbl hbA hL fu  fu (0 : Int32) r f o5 h6 ⟨fun r ho => ?_, fun r ho => ?_⟩
    · have hf := hf _ ho
      refine x_iconst X (v := 0) dL_build_140 (by decide) ?_
      cases hf
    · have hf := hg _ ho
      refine x_iconst X (v := 1) dL_build_148 (by decide) ?_
      cases hf
      exact x_zret X hr hlk rfl (by decide) rfl dL_build_149
end
section
variable {p : Program} {l : Launch} {e : Env} {s : State} {m : MethodId} {args : Array Value} {below : List Frame} {meth : Method} {c : Code} {D : va_G} {kA : Nat → ClassId} {A : Nat → Prop} {Q : State → Prop} {ad al : Nat → Nat} {b L : Nat} {xs : Nat → Int32}
abbrev rm_L_penalty : Room := { frames := 0, cells := 0, slots := 0, locals := 0 }
set_option maxRecDepth 100000 in
set_option maxHeartbeats 4000000 in
theorem met_L_penalty (l : Launch) (hst : l.stackTraces = false) (D : va_G) (kA : Nat → ClassId) (ad al : Nat → Nat) (fu : Nat) (w : WS) (f : WS) (a3 : Int32) (a4 : Int32) (a5 : Int32) (v : Int32) (hf : f_L_penalty fu w f a3 a4 a5 = some (v)) (sz : Nat) : Met l yL_penalty (wsY yL_penalty cL_penalty 7 (some .int)) rm_L_penalty (va_Pc [.ref (al 0), .ref (al 1), .ref (al 3), .int a3, .int a4, .int a5] (PreG D kA (picC kA ad w ++ picL kA al f) sz)) (va_Qi (fun (r : Int32) (_ : Unit) => r = v) (fun _ t => PosG D (va_A (picC kA ad w ++ picL kA al f) sz) (picC kA ad w ++ picL kA al f) t) (va_A (picC kA ad w ++ picL kA al f) sz)) 0 0 (va_A (picC kA ad w ++ picL kA al f) sz) := by
  refine metG (own := RL) hst (by decide +kernel) rfl (Nat.le_of_ble_eq_true rfl) rfl ?_
  intro p e s m below meth c X hr hlk E _
  unfold f_L_penalty at hf
  refine x_aload_n X dL_penalty_0 2 rfl ?_
  refine x_bipush X (v := 9) dL_penalty_1 (by decide) ?_
  refine x_iload X dL_penalty_3 4 rfl ?_
  refine x_imul X dL_penalty_5 ?_
  refine x_iload X dL_penalty_6 5 rfl ?_
  refine x_iadd X dL_penalty_8 ?_
  refine x_iald X E.1.1 32 rfl dL_penalty_9 hf (fun x1 hf => ?_)
  refine x_istore X (lv2 := [(6, .int x1), (0, .ref (al 0)), (1, .ref (al 1)), (2, .ref (al 3)), (3, .int a3), (4, .int a4), (5, .int a5)]) dL_penalty_10 (by decide) rfl ?_
  refine x_iload X dL_penalty_12 0 rfl ?_
  refine x_bipush X (v := (-2)) dL_penalty_14 (by decide) ?_
  refine x_icmp_eq X (tgt := 24) dL_penalty_16 (by decide) hf (fun hf => ?_) (fun hf => ?_)
  · refine x_aload_n X dL_penalty_24 2 rfl ?_
    refine x_iload X dL_penalty_25 6 rfl ?_
    refine x_iald X E.1.1 30 rfl dL_penalty_27 hf (fun x2 hf => ?_)
    refine x_aload_n X dL_penalty_28 1 rfl ?_
    refine x_iload X dL_penalty_29 5 rfl ?_
    refine x_iald X E.1.1 29 rfl dL_penalty_31 hf (fun x3 hf => ?_)
    refine x_icmp_ne X (tgt := 39) dL_penalty_32 (by decide) hf (fun hf => ?_) (fun hf => ?_)
    · refine x_iconst X (v := 0) dL_penalty_39 (by decide) ?_
      cases hf
      exact x_iret X hr hlk rfl rfl dL_penalty_40
    · refine x_iload_n X dL_penalty_35 4 rfl ?_
      refine x_goto X (tgt := 40) dL_penalty_36 (by decide) ?_
      cases hf
      exact x_iret X hr hlk rfl rfl dL_penalty_40
  · refine x_iload X dL_penalty_19 0 rfl ?_
    refine x_goto X (tgt := 40) dL_penalty_21 (by decide) ?_
    cases hf
    exact x_iret X hr hlk rfl rfl dL_penalty_40
end
section
variable {p : Program} {l : Launch} {e : Env} {s : State} {m : MethodId} {args : Array Value} {below : List Frame} {meth : Method} {c : Code} {D : va_G} {kA : Nat → ClassId} {A : Nat → Prop} {Q : State → Prop} {ad al : Nat → Nat} {b L : Nat} {xs : Nat → Int32}
abbrev rm_L_find : Room := { frames := 1, cells := 0, slots := 0, locals := 26 }
set_option maxRecDepth 100000 in
set_option maxHeartbeats 4000000 in
theorem lp_L_find_3 (X : CX p m c cL_find 11 s args RL) (E : EX l s D kA A) (fu : Nat) (w : WS) (y5 : Int32) (y6 : Int32) : ∀ (n : Nat) (y8 : Int32) (f : WS) (rf : WS), iter (fun q => bd_L_find_3 fu w y5 y6 q.1 q.2) n (y8, f) = some (rf) → CS p l e rm_L_find s m args below meth c D A 11 0 0 Q ((picC kA ad w) ++ picL kA al rf) 46 [(0, .ref (al 0)), (1, .ref (al 1)), (2, .ref (al 2)), (3, .ref (al 4)), (4, .ref (al 3)), (5, .int y5), (7, .ref (al 8))] [] → CS p l e rm_L_find s m args below meth c D A 11 0 0 Q ((picC kA ad w) ++ picL kA al f) 3 [(0, .ref (al 0)), (1, .ref (al 1)), (2, .ref (al 2)), (3, .ref (al 4)), (4, .ref (al 3)), (5, .int y5), (6, .int y6), (7, .ref (al 8)), (8, .int y8)] [] := by
  intro n
  induction n with
  | zero =>
    intro y8 f rf hit kk
    exact (iter_0 hit).elim
  | succ n ih =>
    intro y8 f rf hit kk
    obtain ⟨o, h1, hit⟩ := iter_one hit
    have hf : bd_L_find_3 fu w y5 y6 y8 f = some o := h1
    unfold bd_L_find_3 at hf
    refine x_iload X dL_find_3 8 rfl ?_
    refine x_bipush X (v := 9) dL_find_5 (by decide) ?_
    refine x_icmp_ge X (tgt := 46) dL_find_7 (by decide) hf (fun hf => ?_) (fun hf => ?_)
    · cases hf
      cases hit
      refine x_lpick (lv2 := [(0, .ref (al 0)), (1, .ref (al 1)), (2, .ref (al 2)), (3, .ref (al 4)), (4, .ref (al 3)), (5, .int y5), (7, .ref (al 8))]) [0, 1, 2, 3, 4, 5, 7] rfl ?_
      exact kk
    · refine x_aload X dL_find_10 7 rfl ?_
      refine x_iload X dL_find_12 8 rfl ?_
      refine x_aload_n X dL_find_14 3 rfl ?_
      refine x_iload X dL_find_15 8 rfl ?_
      refine x_zald X E.1.1 33 rfl dL_find_17 hf (fun x1 hf => ?_)
      refine x_if_eq X (tgt := 37) dL_find_18 (by decide) hf (fun hf => ?_) (fun hf => ?_)
      · refine x_ldc X (v := 1000000) w_5246 dL_find_37 ?_
        refine x_iast X E.1.1 37 rfl dL_find_39 hf (fun f => picC kA ad w ++ picL kA al f) rfl (fun f2 hf => ?_)
        refine x_iinc X dL_find_40 8 rfl (by decide) (y8 + 1) rfl hf (fun x3 => [(8, .int x3), (0, .ref (al 0)), (1, .ref (al 1)), (2, .ref (al 2)), (3, .ref (al 4)), (4, .ref (al 3)), (5, .int y5), (6, .int y6), (7, .ref (al 8))]) (fun _ => rfl) (fun x3 hf => ?_)
        refine x_goto X (tgt := 3) dL_find_43 (by decide) ?_
        cases hf
        refine x_lpick (lv2 := [(0, .ref (al 0)), (1, .ref (al 1)), (2, .ref (al 2)), (3, .ref (al 4)), (4, .ref (al 3)), (5, .int y5), (6, .int y6), (7, .ref (al 8)), (8, .int x3)]) [1, 2, 3, 4, 5, 6, 7, 8, 0] rfl ?_
        exact ih _ _ _ hit kk
      · refine x_aload_n X dL_find_21 1 rfl ?_
        refine x_iload X dL_find_22 8 rfl ?_
        refine x_iald X E.1.1 30 rfl dL_find_24 hf (fun x4 hf => ?_)
        refine x_iload X dL_find_25 6 rfl ?_
        refine x_icmp_ne X (tgt := 37) dL_find_27 (by decide) hf (fun hf => ?_) (fun hf => ?_)
        · refine x_ldc X (v := 1000000) w_5246 dL_find_37 ?_
          refine x_iast X E.1.1 37 rfl dL_find_39 hf (fun f => picC kA ad w ++ picL kA al f) rfl (fun f5 hf => ?_)
          refine x_iinc X dL_find_40 8 rfl (by decide) (y8 + 1) rfl hf (fun x6 => [(8, .int x6), (0, .ref (al 0)), (1, .ref (al 1)), (2, .ref (al 2)), (3, .ref (al 4)), (4, .ref (al 3)), (5, .int y5), (6, .int y6), (7, .ref (al 8))]) (fun _ => rfl) (fun x6 hf => ?_)
          refine x_goto X (tgt := 3) dL_find_43 (by decide) ?_
          cases hf
          refine x_lpick (lv2 := [(0, .ref (al 0)), (1, .ref (al 1)), (2, .ref (al 2)), (3, .ref (al 4)), (4, .ref (al 3)), (5, .int y5), (6, .int y6), (7, .ref (al 8)), (8, .int x6)]) [1, 2, 3, 4, 5, 6, 7, 8, 0] rfl ?_
          exact ih _ _ _ hit kk
        · refine x_aload_n X dL_find_30 2 rfl ?_
          refine x_iload X dL_find_31 8 rfl ?_
          refine x_iald X E.1.1 31 rfl dL_find_33 hf (fun x7 hf => ?_)
          refine x_goto X (tgt := 39) dL_find_34 (by decide) ?_
          refine x_iast X E.1.1 37 rfl dL_find_39 hf (fun f => picC kA ad w ++ picL kA al f) rfl (fun f8 hf => ?_)
          refine x_iinc X dL_find_40 8 rfl (by decide) (y8 + 1) rfl hf (fun x9 => [(8, .int x9), (0, .ref (al 0)), (1, .ref (al 1)), (2, .ref (al 2)), (3, .ref (al 4)), (4, .ref (al 3)), (5, .int y5), (6, .int y6), (7, .ref (al 8))]) (fun _ => rfl) (fun x9 hf => ?_)
          refine x_goto X (tgt := 3) dL_find_43 (by decide) ?_
          cases hf
          refine x_lpick (lv2 := [(0, .ref (al 0)), (1, .ref (al 1)), (2, .ref (al 2)), (3, .ref (al 4)), (4, .ref (al 3)), (5, .int y5), (6, .int y6), (7, .ref (al 8)), (8, .int x9)]) [1, 2, 3, 4, 5, 6, 7, 8, 0] rfl ?_
          exact ih _ _ _ hit kk
set_option maxRecDepth 100000 in
set_option maxHeartbeats 4000000 in
theorem lp_L_find_69 (X : CX p m c cL_find 11 s args RL) (E : EX l s D kA A) (fu : Nat) (w : WS) (y5 : Int32) (y8 : Int32) (y9 : Int32) : ∀ (n : Nat) (y10 : Int32) (f : WS) (rf : WS), iter (fun q => bd_L_find_69 fu w y5 y8 y9 q.1 q.2) n (y10, f) = some (rf) → CS p l e rm_L_find s m args below meth c D A 11 0 0 Q ((picC kA ad w) ++ picL kA al rf) 156 [(0, .ref (al 0)), (1, .ref (al 1)), (2, .ref (al 2)), (3, .ref (al 4)), (4, .ref (al 3)), (5, .int y5), (7, .ref (al 8)), (8, .int y8), (9, .int y9)] [] → CS p l e rm_L_find s m args below meth c D A 11 0 0 Q ((picC kA ad w) ++ picL kA al f) 69 [(0, .ref (al 0)), (1, .ref (al 1)), (2, .ref (al 2)), (3, .ref (al 4)), (4, .ref (al 3)), (5, .int y5), (7, .ref (al 8)), (8, .int y8), (9, .int y9), (10, .int y10)] [] := by
  intro n
  induction n with
  | zero =>
    intro y10 f rf hit kk
    exact (iter_0 hit).elim
  | succ n ih =>
    intro y10 f rf hit kk
    obtain ⟨o, h1, hit⟩ := iter_one hit
    have hf : bd_L_find_69 fu w y5 y8 y9 y10 f = some o := h1
    unfold bd_L_find_69 at hf
    refine x_iload X dL_find_69 9 rfl ?_
    refine x_bipush X (v := 9) dL_find_71 (by decide) ?_
    refine x_icmp_ge X (tgt := 156) dL_find_73 (by decide) hf (fun hf => ?_) (fun hf => ?_)
    · cases hf
      cases hit
      refine x_lpick (lv2 := [(0, .ref (al 0)), (1, .ref (al 1)), (2, .ref (al 2)), (3, .ref (al 4)), (4, .ref (al 3)), (5, .int y5), (7, .ref (al 8)), (8, .int y8), (9, .int y9)]) [0, 1, 2, 3, 4, 5, 6, 7, 8] rfl ?_
      exact kk
    · refine x_aload_n X dL_find_76 3 rfl ?_
      refine x_iload X dL_find_77 8 rfl ?_
      refine x_zald X E.1.1 33 rfl dL_find_79 hf (fun x1 hf => ?_)
      refine x_if_eq X (tgt := 150) dL_find_80 (by decide) hf (fun hf => ?_) (fun hf => ?_)
      · refine x_iinc X dL_find_150 9 rfl (by decide) (y10 + 1) rfl hf (fun x2 => [(10, .int x2), (0, .ref (al 0)), (1, .ref (al 1)), (2, .ref (al 2)), (3, .ref (al 4)), (4, .ref (al 3)), (5, .int y5), (7, .ref (al 8)), (8, .int y8), (9, .int y9)]) (fun _ => rfl) (fun x2 hf => ?_)
        refine x_goto X (tgt := 69) dL_find_153 (by decide) ?_
        cases hf
        refine x_lpick (lv2 := [(0, .ref (al 0)), (1, .ref (al 1)), (2, .ref (al 2)), (3, .ref (al 4)), (4, .ref (al 3)), (5, .int y5), (7, .ref (al 8)), (8, .int y8), (9, .int y9), (10, .int x2)]) [1, 2, 3, 4, 5, 6, 7, 8, 9, 0] rfl ?_
        exact ih _ _ _ hit kk
      · refine x_aload_n X dL_find_83 1 rfl ?_
        refine x_iload X dL_find_84 8 rfl ?_
        refine x_iald X E.1.1 30 rfl dL_find_86 hf (fun x3 hf => ?_)
        refine x_aload_n X dL_find_87 0 rfl ?_
        refine x_iload X dL_find_88 9 rfl ?_
        refine x_iald X E.1.1 29 rfl dL_find_90 hf (fun x4 hf => ?_)
        refine x_icmp_ne X (tgt := 150) dL_find_91 (by decide) hf (fun hf => ?_) (fun hf => ?_)
        · refine x_iinc X dL_find_150 9 rfl (by decide) (y10 + 1) rfl hf (fun x5 => [(10, .int x5), (0, .ref (al 0)), (1, .ref (al 1)), (2, .ref (al 2)), (3, .ref (al 4)), (4, .ref (al 3)), (5, .int y5), (7, .ref (al 8)), (8, .int y8), (9, .int y9)]) (fun _ => rfl) (fun x5 hf => ?_)
          refine x_goto X (tgt := 69) dL_find_153 (by decide) ?_
          cases hf
          refine x_lpick (lv2 := [(0, .ref (al 0)), (1, .ref (al 1)), (2, .ref (al 2)), (3, .ref (al 4)), (4, .ref (al 3)), (5, .int y5), (7, .ref (al 8)), (8, .int y8), (9, .int y9), (10, .int x5)]) [1, 2, 3, 4, 5, 6, 7, 8, 9, 0] rfl ?_
          exact ih _ _ _ hit kk
        · refine x_aload_n X dL_find_94 0 rfl ?_
          refine x_aload_n X dL_find_95 1 rfl ?_
          refine x_aload X dL_find_96 4 rfl ?_
          refine x_iload X dL_find_98 5 rfl ?_
          refine x_iload X dL_find_100 8 rfl ?_
          refine x_iload X dL_find_102 9 rfl ?_
          obtain ⟨x6, h7, hf⟩ := bn_some hf
          refine x_callSw_i X E (As := [.ref (al 0), .ref (al 1), .ref (al 3), .int y5, .int y9, .int y10]) (rest := []) (n := 6) (ws2 := picC kA ad w ++ picL kA al f) (goodS w_5247 w_5248 w_46 w_5249) (fun sz => (met_L_penalty l E.2.2.2 D kA ad al fu w f y5 y9 y10 x6 h7) sz) rfl rfl (by decide +kernel) ⟨Nat.le_of_ble_eq_true rfl, Nat.le_of_ble_eq_true rfl⟩ rfl rfl (Nat.le_of_ble_eq_true rfl) dL_find_104 ⟨Nat.le_of_ble_eq_true rfl, Nat.le_of_ble_eq_true rfl⟩ ?_
          refine x_if_ge X (tgt := 113) dL_find_107 (by decide) hf (fun hf => ?_) (fun hf => ?_)
          · refine x_aload X dL_find_113 6 rfl ?_
            refine x_iload X dL_find_115 8 rfl ?_
            refine x_aload X dL_find_117 6 rfl ?_
            refine x_iload X dL_find_119 8 rfl ?_
            refine x_iald X E.1.1 37 rfl dL_find_121 hf (fun x8 hf => ?_)
            refine x_aload_n X dL_find_122 2 rfl ?_
            refine x_iload X dL_find_123 8 rfl ?_
            refine x_iald X E.1.1 31 rfl dL_find_125 hf (fun x9 hf => ?_)
            refine x_aload_n X dL_find_126 0 rfl ?_
            refine x_aload_n X dL_find_127 1 rfl ?_
            refine x_aload X dL_find_128 4 rfl ?_
            refine x_iload X dL_find_130 5 rfl ?_
            refine x_iload X dL_find_132 8 rfl ?_
            refine x_iload X dL_find_134 9 rfl ?_
            obtain ⟨x10, h11, hf⟩ := bn_some hf
            refine x_callSw_i X E (As := [.ref (al 0), .ref (al 1), .ref (al 3), .int y5, .int y9, .int y10]) (rest := [.int x9, .int x8, .int y9, .ref (al 8)]) (n := 6) (ws2 := picC kA ad w ++ picL kA al f) (goodS w_5247 w_5248 w_46 w_5249) (fun sz => (met_L_penalty l E.2.2.2 D kA ad al fu w f y5 y9 y10 x10 h11) sz) rfl rfl (by decide +kernel) ⟨Nat.le_of_ble_eq_true rfl, Nat.le_of_ble_eq_true rfl⟩ rfl rfl (Nat.le_of_ble_eq_true rfl) dL_find_136 ⟨Nat.le_of_ble_eq_true rfl, Nat.le_of_ble_eq_true rfl⟩ ?_
            refine x_iadd X dL_find_139 ?_
            refine x_aload X dL_find_140 6 rfl ?_
            refine x_iload X dL_find_142 9 rfl ?_
            refine x_iald X E.1.1 37 rfl dL_find_144 hf (fun x12 hf => ?_)
            refine x_iadd X dL_find_145 ?_
            refine x_mmin X w_5250 w_496 w_62 w_497 (by decide) (Nat.le_of_ble_eq_true rfl) (by decide) (by decide) dL_find_146 ?_
            refine x_iast X E.1.1 37 rfl dL_find_149 hf (fun f => picC kA ad w ++ picL kA al f) rfl (fun f13 hf => ?_)
            refine x_iinc X dL_find_150 9 rfl (by decide) (y10 + 1) rfl hf (fun x14 => [(10, .int x14), (0, .ref (al 0)), (1, .ref (al 1)), (2, .ref (al 2)), (3, .ref (al 4)), (4, .ref (al 3)), (5, .int y5), (7, .ref (al 8)), (8, .int y8), (9, .int y9)]) (fun _ => rfl) (fun x14 hf => ?_)
            refine x_goto X (tgt := 69) dL_find_153 (by decide) ?_
            cases hf
            refine x_lpick (lv2 := [(0, .ref (al 0)), (1, .ref (al 1)), (2, .ref (al 2)), (3, .ref (al 4)), (4, .ref (al 3)), (5, .int y5), (7, .ref (al 8)), (8, .int y8), (9, .int y9), (10, .int x14)]) [1, 2, 3, 4, 5, 6, 7, 8, 9, 0] rfl ?_
            exact ih _ _ _ hit kk
          · refine x_goto X (tgt := 150) dL_find_110 (by decide) ?_
            refine x_iinc X dL_find_150 9 rfl (by decide) (y10 + 1) rfl hf (fun x15 => [(10, .int x15), (0, .ref (al 0)), (1, .ref (al 1)), (2, .ref (al 2)), (3, .ref (al 4)), (4, .ref (al 3)), (5, .int y5), (7, .ref (al 8)), (8, .int y8), (9, .int y9)]) (fun _ => rfl) (fun x15 hf => ?_)
            refine x_goto X (tgt := 69) dL_find_153 (by decide) ?_
            cases hf
            refine x_lpick (lv2 := [(0, .ref (al 0)), (1, .ref (al 1)), (2, .ref (al 2)), (3, .ref (al 4)), (4, .ref (al 3)), (5, .int y5), (7, .ref (al 8)), (8, .int y8), (9, .int y9), (10, .int x15)]) [1, 2, 3, 4, 5, 6, 7, 8, 9, 0] rfl ?_
            exact ih _ _ _ hit kk
set_option maxRecDepth 100000 in
set_option maxHeartbeats 4000000 in
theorem lp_L_find_59 (X : CX p m c cL_find 11 s args RL) (E : EX l s D kA A) (fu : Nat) (w : WS) (y5 : Int32) (y8 : Int32) : ∀ (n : Nat) (y9 : Int32) (f : WS) (rf : WS), iter (fun q => bd_L_find_59 fu w y5 y8 q.1 q.2) n (y9, f) = some (rf) → CS p l e rm_L_find s m args below meth c D A 11 0 0 Q ((picC kA ad w) ++ picL kA al rf) 162 [(0, .ref (al 0)), (1, .ref (al 1)), (2, .ref (al 2)), (3, .ref (al 4)), (4, .ref (al 3)), (5, .int y5), (7, .ref (al 8)), (8, .int y8)] [] → CS p l e rm_L_find s m args below meth c D A 11 0 0 Q ((picC kA ad w) ++ picL kA al f) 59 [(0, .ref (al 0)), (1, .ref (al 1)), (2, .ref (al 2)), (3, .ref (al 4)), (4, .ref (al 3)), (5, .int y5), (7, .ref (al 8)), (8, .int y8), (9, .int y9)] [] := by
  intro n
  induction n with
  | zero =>
    intro y9 f rf hit kk
    exact (iter_0 hit).elim
  | succ n ih =>
    intro y9 f rf hit kk
    obtain ⟨o, h1, hit⟩ := iter_one hit
    have hf : bd_L_find_59 fu w y5 y8 y9 f = some o := h1
    unfold bd_L_find_59 at hf
    refine x_iload X dL_find_59 8 rfl ?_
    refine x_bipush X (v := 9) dL_find_61 (by decide) ?_
    refine x_icmp_ge X (tgt := 162) dL_find_63 (by decide) hf (fun hf => ?_) (fun hf => ?_)
    · cases hf
      cases hit
      refine x_lpick (lv2 := [(0, .ref (al 0)), (1, .ref (al 1)), (2, .ref (al 2)), (3, .ref (al 4)), (4, .ref (al 3)), (5, .int y5), (7, .ref (al 8)), (8, .int y8)]) [0, 1, 2, 3, 4, 5, 6, 7] rfl ?_
      exact kk
    · refine x_iconst X (v := 0) dL_find_66 (by decide) ?_
      refine x_istore X (lv2 := [(10, .int 0), (0, .ref (al 0)), (1, .ref (al 1)), (2, .ref (al 2)), (3, .ref (al 4)), (4, .ref (al 3)), (5, .int y5), (7, .ref (al 8)), (8, .int y8), (9, .int y9)]) dL_find_67 (by decide) rfl ?_
      refine x_lpick (lv2 := [(0, .ref (al 0)), (1, .ref (al 1)), (2, .ref (al 2)), (3, .ref (al 4)), (4, .ref (al 3)), (5, .int y5), (7, .ref (al 8)), (8, .int y8), (9, .int y9), (10, .int 0)]) [1, 2, 3, 4, 5, 6, 7, 8, 9, 0] rfl ?_
      obtain ⟨f1, h2, hf⟩ := bn_some hf
      refine lp_L_find_69 X E fu w y5 y8 y9 fu (0 : Int32) f f1 h2 ?_
      refine x_iinc X dL_find_156 8 rfl (by decide) (y9 + 1) rfl hf (fun x3 => [(9, .int x3), (0, .ref (al 0)), (1, .ref (al 1)), (2, .ref (al 2)), (3, .ref (al 4)), (4, .ref (al 3)), (5, .int y5), (7, .ref (al 8)), (8, .int y8)]) (fun _ => rfl) (fun x3 hf => ?_)
      refine x_goto X (tgt := 59) dL_find_159 (by decide) ?_
      cases hf
      refine x_lpick (lv2 := [(0, .ref (al 0)), (1, .ref (al 1)), (2, .ref (al 2)), (3, .ref (al 4)), (4, .ref (al 3)), (5, .int y5), (7, .ref (al 8)), (8, .int y8), (9, .int x3)]) [1, 2, 3, 4, 5, 6, 7, 8, 0] rfl ?_
      exact ih _ _ _ hit kk
set_option maxRecDepth 100000 in
set_option maxHeartbeats 4000000 in
theorem lp_L_find_49 (X : CX p m c cL_find 11 s args RL) (E : EX l s D kA A) (fu : Nat) (w : WS) (y5 : Int32) : ∀ (n : Nat) (y8 : Int32) (f : WS) (rf : WS), iter (fun q => bd_L_find_49 fu w y5 q.1 q.2) n (y8, f) = some (rf) → CS p l e rm_L_find s m args below meth c D A 11 0 0 Q ((picC kA ad w) ++ picL kA al rf) 168 [] [] → CS p l e rm_L_find s m args below meth c D A 11 0 0 Q ((picC kA ad w) ++ picL kA al f) 49 [(0, .ref (al 0)), (1, .ref (al 1)), (2, .ref (al 2)), (3, .ref (al 4)), (4, .ref (al 3)), (5, .int y5), (7, .ref (al 8)), (8, .int y8)] [] := by
  intro n
  induction n with
  | zero =>
    intro y8 f rf hit kk
    exact (iter_0 hit).elim
  | succ n ih =>
    intro y8 f rf hit kk
    obtain ⟨o, h1, hit⟩ := iter_one hit
    have hf : bd_L_find_49 fu w y5 y8 f = some o := h1
    unfold bd_L_find_49 at hf
    refine x_iload X dL_find_49 7 rfl ?_
    refine x_bipush X (v := 9) dL_find_51 (by decide) ?_
    refine x_icmp_ge X (tgt := 168) dL_find_53 (by decide) hf (fun hf => ?_) (fun hf => ?_)
    · cases hf
      cases hit
      refine x_lpick (lv2 := []) [] rfl ?_
      exact kk
    · refine x_iconst X (v := 0) dL_find_56 (by decide) ?_
      refine x_istore X (lv2 := [(9, .int 0), (0, .ref (al 0)), (1, .ref (al 1)), (2, .ref (al 2)), (3, .ref (al 4)), (4, .ref (al 3)), (5, .int y5), (7, .ref (al 8)), (8, .int y8)]) dL_find_57 (by decide) rfl ?_
      refine x_lpick (lv2 := [(0, .ref (al 0)), (1, .ref (al 1)), (2, .ref (al 2)), (3, .ref (al 4)), (4, .ref (al 3)), (5, .int y5), (7, .ref (al 8)), (8, .int y8), (9, .int 0)]) [1, 2, 3, 4, 5, 6, 7, 8, 0] rfl ?_
      obtain ⟨f1, h2, hf⟩ := bn_some hf
      refine lp_L_find_59 X E fu w y5 y8 fu (0 : Int32) f f1 h2 ?_
      refine x_iinc X dL_find_162 7 rfl (by decide) (y8 + 1) rfl hf (fun x3 => [(8, .int x3), (0, .ref (al 0)), (1, .ref (al 1)), (2, .ref (al 2)), (3, .ref (al 4)), (4, .ref (al 3)), (5, .int y5), (7, .ref (al 8))]) (fun _ => rfl) (fun x3 hf => ?_)
      refine x_goto X (tgt := 49) dL_find_165 (by decide) ?_
      cases hf
      refine x_lpick (lv2 := [(0, .ref (al 0)), (1, .ref (al 1)), (2, .ref (al 2)), (3, .ref (al 4)), (4, .ref (al 3)), (5, .int y5), (7, .ref (al 8)), (8, .int x3)]) [1, 2, 3, 4, 5, 6, 7, 0] rfl ?_
      exact ih _ _ _ hit kk
set_option maxRecDepth 100000 in
set_option maxHeartbeats 4000000 in
theorem met_L_find (l : Launch) (hst : l.stackTraces = false) (D : va_G) (kA : Nat → ClassId) (ad al : Nat → Nat) (fu : Nat) (w : WS) (f : WS) (a5 : Int32) (a6 : Int32) (f1 : WS) (hf : f_L_find fu w f a5 a6 = some (f1)) (sz : Nat) : Met l yL_find (wsY yL_find cL_find 11 none) rm_L_find (va_Pc [.ref (al 0), .ref (al 1), .ref (al 2), .ref (al 4), .ref (al 3), .int a5, .int a6, .ref (al 8)] (PreG D kA (picC kA ad w ++ picL kA al f) sz)) (va_Qv (fun (_ : Unit) => True) (fun _ t => PosG D (va_A (picC kA ad w ++ picL kA al f) sz) (picC kA ad w ++ picL kA al f1) t) (va_A (picC kA ad w ++ picL kA al f) sz)) 0 0 (va_A (picC kA ad w ++ picL kA al f) sz) := by
  refine metG (own := RL) hst (by decide +kernel) rfl (Nat.le_of_ble_eq_true rfl) rfl ?_
  intro p e s m below meth c X hr hlk E _
  unfold f_L_find at hf
  refine x_iconst X (v := 0) dL_find_0 (by decide) ?_
  refine x_istore X (lv2 := [(8, .int 0), (0, .ref (al 0)), (1, .ref (al 1)), (2, .ref (al 2)), (3, .ref (al 4)), (4, .ref (al 3)), (5, .int a5), (6, .int a6), (7, .ref (al 8))]) dL_find_1 (by decide) rfl ?_
  refine x_lpick (lv2 := [(0, .ref (al 0)), (1, .ref (al 1)), (2, .ref (al 2)), (3, .ref (al 4)), (4, .ref (al 3)), (5, .int a5), (6, .int a6), (7, .ref (al 8)), (8, .int 0)]) [1, 2, 3, 4, 5, 6, 7, 8, 0] rfl ?_
  obtain ⟨f1, h2, hf⟩ := bn_some hf
  refine lp_L_find_3 X E fu w a5 a6 fu (0 : Int32) f f1 h2 ?_
  refine x_iconst X (v := 0) dL_find_46 (by decide) ?_
  refine x_istore X (lv2 := [(8, .int 0), (0, .ref (al 0)), (1, .ref (al 1)), (2, .ref (al 2)), (3, .ref (al 4)), (4, .ref (al 3)), (5, .int a5), (7, .ref (al 8))]) dL_find_47 (by decide) rfl ?_
  refine x_lpick (lv2 := [(0, .ref (al 0)), (1, .ref (al 1)), (2, .ref (al 2)), (3, .ref (al 4)), (4, .ref (al 3)), (5, .int a5), (7, .ref (al 8)), (8, .int 0)]) [1, 2, 3, 4, 5, 6, 7, 0] rfl ?_
  obtain ⟨f3, h4, hf⟩ := bn_some hf
  refine lp_L_find_49 X E fu w a5 fu (0 : Int32) f1 f3 h4 ?_
  cases hf
  exact x_vret X hr hlk rfl dL_find_168
end
section
variable {p : Program} {l : Launch} {e : Env} {s : State} {m : MethodId} {args : Array Value} {below : List Frame} {meth : Method} {c : Code} {D : va_G} {kA : Nat → ClassId} {A : Nat → Prop} {Q : State → Prop} {ad al : Nat → Nat} {b L : Nat} {xs : Nat → Int32}
abbrev rm_L_distance : Room := { frames := 1, cells := 0, slots := 0, locals := 21 }
set_option maxRecDepth 100000 in
set_option maxHeartbeats 4000000 in
theorem lp_L_distance_16 (X : CX p m c cL_distance 6 s args RL) (E : EX l s D kA A) (fu : Nat) (w : WS) (f : WS) (y2 : Int32) : ∀ (n : Nat) (y4 : Int32) (y5 : Int32) (r4 : Int32), iter (fun q => bd_L_distance_16 fu w f y2 q.1 q.2) n (y4, y5) = some (r4) → CS p l e rm_L_distance s m args below meth c D A 6 0 0 Q ((picC kA ad w) ++ picL kA al f) 48 [(4, .int r4)] [] → CS p l e rm_L_distance s m args below meth c D A 6 0 0 Q ((picC kA ad w) ++ picL kA al f) 16 [(0, .ref (al 0)), (1, .ref (al 8)), (2, .int y2), (4, .int y4), (5, .int y5)] [] := by
  intro n
  induction n with
  | zero =>
    intro y4 y5 r4 hit kk
    exact (iter_0 hit).elim
  | succ n ih =>
    intro y4 y5 r4 hit kk
    obtain ⟨o, h1, hit⟩ := iter_one hit
    have hf : bd_L_distance_16 fu w f y2 y4 y5 = some o := h1
    unfold bd_L_distance_16 at hf
    refine x_iload X dL_distance_16 4 rfl ?_
    refine x_bipush X (v := 9) dL_distance_18 (by decide) ?_
    refine x_icmp_ge X (tgt := 48) dL_distance_20 (by decide) hf (fun hf => ?_) (fun hf => ?_)
    · cases hf
      cases hit
      refine x_lpick (lv2 := [(4, .int y4)]) [3] rfl ?_
      exact kk
    · refine x_aload_n X dL_distance_23 0 rfl ?_
      refine x_iload X dL_distance_24 4 rfl ?_
      refine x_iald X E.1.1 29 rfl dL_distance_26 hf (fun x1 hf => ?_)
      refine x_iload_n X dL_distance_27 2 rfl ?_
      refine x_icmp_ne X (tgt := 42) dL_distance_28 (by decide) hf (fun hf => ?_) (fun hf => ?_)
      · refine x_iinc X dL_distance_42 4 rfl (by decide) (y5 + 1) rfl hf (fun x2 => [(5, .int x2), (0, .ref (al 0)), (1, .ref (al 8)), (2, .int y2), (4, .int y4)]) (fun _ => rfl) (fun x2 hf => ?_)
        refine x_goto X (tgt := 16) dL_distance_45 (by decide) ?_
        cases hf
        refine x_lpick (lv2 := [(0, .ref (al 0)), (1, .ref (al 8)), (2, .int y2), (4, .int y4), (5, .int x2)]) [1, 2, 3, 4, 0] rfl ?_
        exact ih _ _ _ hit kk
      · refine x_iload X dL_distance_31 3 rfl ?_
        refine x_aload_n X dL_distance_33 1 rfl ?_
        refine x_iload X dL_distance_34 4 rfl ?_
        refine x_iald X E.1.1 37 rfl dL_distance_36 hf (fun x3 hf => ?_)
        refine x_mmin X w_5250 w_496 w_62 w_497 (by decide) (Nat.le_of_ble_eq_true rfl) (by decide) (by decide) dL_distance_37 ?_
        refine x_nmI hf (fun x4 hf => ?_)
        refine x_istore X (lv2 := [(4, .int x4), (0, .ref (al 0)), (1, .ref (al 8)), (2, .int y2), (5, .int y5)]) dL_distance_40 (by decide) rfl ?_
        refine x_iinc X dL_distance_42 4 rfl (by decide) (y5 + 1) rfl hf (fun x5 => [(5, .int x5), (4, .int x4), (0, .ref (al 0)), (1, .ref (al 8)), (2, .int y2)]) (fun _ => rfl) (fun x5 hf => ?_)
        refine x_goto X (tgt := 16) dL_distance_45 (by decide) ?_
        cases hf
        refine x_lpick (lv2 := [(0, .ref (al 0)), (1, .ref (al 8)), (2, .int y2), (4, .int x4), (5, .int x5)]) [2, 3, 4, 1, 0] rfl ?_
        exact ih _ _ _ hit kk
set_option maxRecDepth 100000 in
set_option maxHeartbeats 4000000 in
theorem met_L_distance (l : Launch) (hst : l.stackTraces = false) (D : va_G) (kA : Nat → ClassId) (ad al : Nat → Nat) (fu : Nat) (w : WS) (f : WS) (a2 : Int32) (a3 : Int32) (v : Int32) (hf : f_L_distance fu w f a2 a3 = some (v)) (sz : Nat) : Met l yL_distance (wsY yL_distance cL_distance 6 (some .int)) rm_L_distance (va_Pc [.ref (al 0), .ref (al 8), .int a2, .int a3] (PreG D kA (picC kA ad w ++ picL kA al f) sz)) (va_Qi (fun (r : Int32) (_ : Unit) => r = v) (fun _ t => PosG D (va_A (picC kA ad w ++ picL kA al f) sz) (picC kA ad w ++ picL kA al f) t) (va_A (picC kA ad w ++ picL kA al f) sz)) 0 0 (va_A (picC kA ad w ++ picL kA al f) sz) := by
  refine metG (own := RL) hst (by decide +kernel) rfl (Nat.le_of_ble_eq_true rfl) rfl ?_
  intro p e s m below meth c X hr hlk E _
  unfold f_L_distance at hf
  refine x_iload_n X dL_distance_0 2 rfl ?_
  refine x_iload_n X dL_distance_1 3 rfl ?_
  refine x_icmp_ne X (tgt := 9) dL_distance_2 (by decide) hf (fun hf => ?_) (fun hf => ?_)
  · refine x_ldc X (v := 1000000) w_5246 dL_distance_9 ?_
    refine x_istore X (lv2 := [(4, .int 1000000), (0, .ref (al 0)), (1, .ref (al 8)), (2, .int a2), (3, .int a3)]) dL_distance_11 (by decide) rfl ?_
    refine x_iconst X (v := 0) dL_distance_13 (by decide) ?_
    refine x_istore X (lv2 := [(5, .int 0), (4, .int 1000000), (0, .ref (al 0)), (1, .ref (al 8)), (2, .int a2), (3, .int a3)]) dL_distance_14 (by decide) rfl ?_
    refine x_lpick (lv2 := [(0, .ref (al 0)), (1, .ref (al 8)), (2, .int a2), (4, .int 1000000), (5, .int 0)]) [2, 3, 4, 1, 0] rfl ?_
    obtain ⟨x1, h2, hf⟩ := bn_some hf
    refine lp_L_distance_16 X E fu w f a2 fu (1000000 : Int32) (0 : Int32) x1 h2 ?_
    refine x_iload X dL_distance_48 0 rfl ?_
    refine x_ldc X (v := 1000000) w_5246 dL_distance_50 ?_
    refine x_icmp_lt X (tgt := 59) dL_distance_52 (by decide) hf (fun hf => ?_) (fun hf => ?_)
    · refine x_iload X dL_distance_59 0 rfl ?_
      cases hf
      exact x_iret X hr hlk rfl rfl dL_distance_61
    · refine x_iconst X (v := (-1)) dL_distance_55 (by decide) ?_
      refine x_goto X (tgt := 61) dL_distance_56 (by decide) ?_
      cases hf
      exact x_iret X hr hlk rfl rfl dL_distance_61
  · refine x_iconst X (v := 0) dL_distance_5 (by decide) ?_
    refine x_goto X (tgt := 11) dL_distance_6 (by decide) ?_
    refine x_istore X (lv2 := [(4, .int 0), (0, .ref (al 0)), (1, .ref (al 8)), (2, .int a2), (3, .int a3)]) dL_distance_11 (by decide) rfl ?_
    refine x_iconst X (v := 0) dL_distance_13 (by decide) ?_
    refine x_istore X (lv2 := [(5, .int 0), (4, .int 0), (0, .ref (al 0)), (1, .ref (al 8)), (2, .int a2), (3, .int a3)]) dL_distance_14 (by decide) rfl ?_
    refine x_lpick (lv2 := [(0, .ref (al 0)), (1, .ref (al 8)), (2, .int a2), (4, .int 0), (5, .int 0)]) [2, 3, 4, 1, 0] rfl ?_
    obtain ⟨x3, h4, hf⟩ := bn_some hf
    refine lp_L_distance_16 X E fu w f a2 fu (0 : Int32) (0 : Int32) x3 h4 ?_
    refine x_iload X dL_distance_48 0 rfl ?_
    refine x_ldc X (v := 1000000) w_5246 dL_distance_50 ?_
    refine x_icmp_lt X (tgt := 59) dL_distance_52 (by decide) hf (fun hf => ?_) (fun hf => ?_)
    · refine x_iload X dL_distance_59 0 rfl ?_
      cases hf
      exact x_iret X hr hlk rfl rfl dL_distance_61
    · refine x_iconst X (v := (-1)) dL_distance_55 (by decide) ?_
      refine x_goto X (tgt := 61) dL_distance_56 (by decide) ?_
      cases hf
      exact x_iret X hr hlk rfl rfl dL_distance_61
end
section
variable {p : Program} {l : Launch} {e : Env} {s : State} {m : MethodId} {args : Array Value} {below : List Frame} {meth : Method} {c : Code} {D : va_G} {kA : Nat → ClassId} {A : Nat → Prop} {Q : State → Prop} {ad al : Nat → Nat} {b L : Nat} {xs : Nat → Int32}
abbrev rm_L_change : Room := { frames := 7, cells := 0, slots := 0, locals := 162 }
set_option maxRecDepth 100000 in
set_option maxHeartbeats 4000000 in
theorem met_L_change (l : Launch) (hst : l.stackTraces = false) (D : va_G) (kA : Nat → ClassId) (ad al : Nat → Nat) (fu : Nat) (w : WS) (f : WS) (a1 : Int32) (v : Int32) (w1 : WS) (f1 : WS) (hf : f_L_change fu w f a1 = some (v, w1, f1)) (sz : Nat) : Met l yL_change (wsY yL_change cL_change 11 (some .int)) rm_L_change (va_Pc [.ref (ad 0), .int a1, .ref (al 0), .ref (al 1), .ref (al 2), .ref (al 4), .ref (al 3), .ref (al 5)] (PreG D kA (picC kA ad w ++ picL kA al f) sz)) (va_Qi (fun (r : Int32) (_ : Unit) => r = v) (fun _ t => PosG D (va_A (picC kA ad w ++ picL kA al f) sz) (picC kA ad w1 ++ picL kA al f1) t) (va_A (picC kA ad w ++ picL kA al f) sz)) 0 0 (va_A (picC kA ad w ++ picL kA al f) sz) := by
  refine metG (own := RL) hst (by decide +kernel) rfl (Nat.le_of_ble_eq_true rfl) rfl ?_
  intro p e s m below meth c X hr hlk E _
  unfold f_L_change at hf
  refine x_iload_n X dL_change_0 1 rfl ?_
  refine x_iconst X (v := 3) dL_change_1 (by decide) ?_
  refine x_ishr X dL_change_2 ?_
  refine x_bipush X (v := 9) dL_change_3 (by decide) ?_
  obtain ⟨x1, hx1, hf⟩ := bn_some hf
  refine x_callS_i X (As := [.int (a1 >>> ((3 : Int32) &&& 31)), .int 9]) (rest := []) (n := 2) (goodS w_5238 w_5239 w_46 w_5240) (met_L_below l fu (a1 >>> ((3 : Int32) &&& 31)) (9 : Int32) x1 hx1) rfl rfl (by decide +kernel) ⟨by decide, by decide⟩ rfl rfl (Nat.le_of_ble_eq_true rfl) dL_change_5 ⟨by decide, by decide⟩ ?_
  refine x_istore X (lv2 := [(8, .int x1), (0, .ref (ad 0)), (1, .int a1), (2, .ref (al 0)), (3, .ref (al 1)), (4, .ref (al 2)), (5, .ref (al 4)), (6, .ref (al 3)), (7, .ref (al 5))]) dL_change_8 (by decide) rfl ?_
  refine x_iload_n X dL_change_10 2 rfl ?_
  refine x_bipush X (v := 10) dL_change_11 (by decide) ?_
  refine x_ishr X dL_change_13 ?_
  refine x_bipush X (v := 9) dL_change_14 (by decide) ?_
  obtain ⟨x2, hx2, hf⟩ := bn_some hf
  refine x_callS_i X (As := [.int (a1 >>> ((10 : Int32) &&& 31)), .int 9]) (rest := []) (n := 2) (goodS w_5238 w_5239 w_46 w_5240) (met_L_below l fu (a1 >>> ((10 : Int32) &&& 31)) (9 : Int32) x2 hx2) rfl rfl (by decide +kernel) ⟨by decide, by decide⟩ rfl rfl (Nat.le_of_ble_eq_true rfl) dL_change_16 ⟨by decide, by decide⟩ ?_
  refine x_istore X (lv2 := [(9, .int x2), (8, .int x1), (0, .ref (ad 0)), (1, .int a1), (2, .ref (al 0)), (3, .ref (al 1)), (4, .ref (al 2)), (5, .ref (al 4)), (6, .ref (al 3)), (7, .ref (al 5))]) dL_change_19 (by decide) rfl ?_
  refine x_iload_n X dL_change_21 3 rfl ?_
  refine x_bipush X (v := 16) dL_change_22 (by decide) ?_
  refine x_ishr X dL_change_24 ?_
  refine x_bipush X (v := 8) dL_change_25 (by decide) ?_
  obtain ⟨x3, hx3, hf⟩ := bn_some hf
  refine x_callS_i X (As := [.int (a1 >>> ((16 : Int32) &&& 31)), .int 8]) (rest := []) (n := 2) (goodS w_5238 w_5239 w_46 w_5240) (met_L_below l fu (a1 >>> ((16 : Int32) &&& 31)) (8 : Int32) x3 hx3) rfl rfl (by decide +kernel) ⟨by decide, by decide⟩ rfl rfl (Nat.le_of_ble_eq_true rfl) dL_change_27 ⟨by decide, by decide⟩ ?_
  refine x_istore X (lv2 := [(10, .int x3), (9, .int x2), (8, .int x1), (0, .ref (ad 0)), (1, .int a1), (2, .ref (al 0)), (3, .ref (al 1)), (4, .ref (al 2)), (5, .ref (al 4)), (6, .ref (al 3)), (7, .ref (al 5))]) dL_change_30 (by decide) rfl ?_
  refine x_iload_n X dL_change_32 4 rfl ?_
  refine x_bipush X (v := 7) dL_change_33 (by decide) ?_
  refine x_iand X dL_change_35 ?_
  refine x_iconst X (v := 3) dL_change_36 (by decide) ?_
  refine x_icmp_ge X (tgt := 60) dL_change_37 (by decide) hf (fun hf => ?_) (fun hf => ?_)
  · refine x_iload_n X dL_change_60 4 rfl ?_
    refine x_bipush X (v := 7) dL_change_61 (by decide) ?_
    refine x_iand X dL_change_63 ?_
    refine x_iconst X (v := 5) dL_change_64 (by decide) ?_
    refine x_icmp_ge X (tgt := 102) dL_change_65 (by decide) hf (fun hf => ?_) (fun hf => ?_)
    · refine x_iload_n X dL_change_102 4 rfl ?_
      refine x_bipush X (v := 7) dL_change_103 (by decide) ?_
      refine x_iand X dL_change_105 ?_
      refine x_bipush X (v := 7) dL_change_106 (by decide) ?_
      refine x_icmp_ge X (tgt := 150) dL_change_108 (by decide) hf (fun hf => ?_) (fun hf => ?_)
      · refine x_aload X dL_change_150 10 rfl ?_
        refine x_iconst X (v := 0) dL_change_152 (by decide) ?_
        refine x_iload X dL_change_153 0 rfl ?_
        refine x_iconst X (v := 1) dL_change_155 (by decide) ?_
        refine x_isub X dL_change_156 ?_
        refine x_iast X E.1.1 34 rfl dL_change_157 hf (fun f => picC kA ad w ++ picL kA al f) rfl (fun f4 hf => ?_)
        refine x_aload_n X dL_change_158 3 rfl ?_
        refine x_iload X dL_change_159 0 rfl ?_
        refine x_iconst X (v := 1) dL_change_161 (by decide) ?_
        refine x_isub X dL_change_162 ?_
        obtain ⟨x5, w6, hx5, hf⟩ := bxn2_some hf
        refine x_callVs_i X E (As := [.int (x3 - 1)]) (rest := []) (n := 1) (u := picC kA ad w) (u2 := picC kA ad w6) [] (picL kA al f4) rfl (goodV w_5259 w_541 w_542 w_47 w_543) (met_X3_setUTurn l E.2.2.2 D kA ad fu w (x3 - 1) x5 w6 hx5) rfl rfl (by decide +kernel) ⟨Nat.le_of_ble_eq_true rfl, Nat.le_of_ble_eq_true rfl⟩ 0 rfl (qc := (RX3, TX3, _)) rfl rfl rfl rfl (Nat.le_of_ble_eq_true rfl) dL_change_163 ⟨by decide, by decide⟩ (picC kA ad w6 ++ picL kA al f4) rfl ?_
        cases hf
        exact x_iret X hr hlk rfl rfl dL_change_166
      · refine x_aload_n X dL_change_111 6 rfl ?_
        refine x_iload X dL_change_112 2 rfl ?_
        refine x_iald X E.1.1 30 rfl dL_change_114 hf (fun x7 hf => ?_)
        refine x_aload_n X dL_change_115 5 rfl ?_
        refine x_iload X dL_change_116 1 rfl ?_
        refine x_iald X E.1.1 29 rfl dL_change_118 hf (fun x8 hf => ?_)
        refine x_icmp_ne X (tgt := 150) dL_change_119 (by decide) hf (fun hf => ?_) (fun hf => ?_)
        · refine x_aload X dL_change_150 10 rfl ?_
          refine x_iconst X (v := 0) dL_change_152 (by decide) ?_
          refine x_iload X dL_change_153 0 rfl ?_
          refine x_iconst X (v := 1) dL_change_155 (by decide) ?_
          refine x_isub X dL_change_156 ?_
          refine x_iast X E.1.1 34 rfl dL_change_157 hf (fun f => picC kA ad w ++ picL kA al f) rfl (fun f9 hf => ?_)
          refine x_aload_n X dL_change_158 3 rfl ?_
          refine x_iload X dL_change_159 0 rfl ?_
          refine x_iconst X (v := 1) dL_change_161 (by decide) ?_
          refine x_isub X dL_change_162 ?_
          obtain ⟨x10, w11, hx10, hf⟩ := bxn2_some hf
          refine x_callVs_i X E (As := [.int (x3 - 1)]) (rest := []) (n := 1) (u := picC kA ad w) (u2 := picC kA ad w11) [] (picL kA al f9) rfl (goodV w_5259 w_541 w_542 w_47 w_543) (met_X3_setUTurn l E.2.2.2 D kA ad fu w (x3 - 1) x10 w11 hx10) rfl rfl (by decide +kernel) ⟨Nat.le_of_ble_eq_true rfl, Nat.le_of_ble_eq_true rfl⟩ 0 rfl (qc := (RX3, TX3, _)) rfl rfl rfl rfl (Nat.le_of_ble_eq_true rfl) dL_change_163 ⟨by decide, by decide⟩ (picC kA ad w11 ++ picL kA al f9) rfl ?_
          cases hf
          exact x_iret X hr hlk rfl rfl dL_change_166
        · refine x_aload X dL_change_122 9 rfl ?_
          refine x_bipush X (v := 9) dL_change_124 (by decide) ?_
          refine x_iload X dL_change_126 2 rfl ?_
          refine x_imul X dL_change_128 ?_
          refine x_iload X dL_change_129 1 rfl ?_
          refine x_iadd X dL_change_131 ?_
          refine x_iload X dL_change_132 0 rfl ?_
          refine x_iconst X (v := 2) dL_change_134 (by decide) ?_
          refine x_isub X dL_change_135 ?_
          refine x_iast X E.1.1 32 rfl dL_change_136 hf (fun f => picC kA ad w ++ picL kA al f) rfl (fun f12 hf => ?_)
          refine x_aload_n X dL_change_137 3 rfl ?_
          refine x_iload X dL_change_138 2 rfl ?_
          refine x_iload X dL_change_140 1 rfl ?_
          refine x_iload X dL_change_142 0 rfl ?_
          refine x_iconst X (v := 2) dL_change_144 (by decide) ?_
          refine x_isub X dL_change_145 ?_
          obtain ⟨x13, w14, hx13, hf⟩ := bxn2_some hf
          refine x_callVs_i X E (As := [.int x1, .int x2, .int (x3 - 2)]) (rest := []) (n := 3) (u := picC kA ad w) (u2 := picC kA ad w14) [] (picL kA al f12) rfl (goodV w_5258 w_523 w_524 w_47 w_525) (met_X3_setTurn l E.2.2.2 D kA ad fu w x1 x2 (x3 - 2) x13 w14 hx13) rfl rfl (by decide +kernel) ⟨Nat.le_of_ble_eq_true rfl, Nat.le_of_ble_eq_true rfl⟩ 0 rfl (qc := (RX3, TX3, _)) rfl rfl rfl rfl (Nat.le_of_ble_eq_true rfl) dL_change_146 ⟨by decide, by decide⟩ (picC kA ad w14 ++ picL kA al f12) rfl ?_
          cases hf
          exact x_iret X hr hlk rfl rfl dL_change_149
    · refine x_aload X dL_change_68 8 rfl ?_
      refine x_iload X dL_change_70 2 rfl ?_
      refine x_iload X dL_change_72 0 rfl ?_
      refine x_iconst X (v := 2) dL_change_74 (by decide) ?_
      refine x_icmp_le X (tgt := 82) dL_change_75 (by decide) hf (fun hf => ?_) (fun hf => ?_)
      · refine x_iconst X (v := 0) dL_change_82 (by decide) ?_
        refine x_zast X E.1.1 33 rfl dL_change_83 hf (fun f => picC kA ad w ++ picL kA al f) rfl (fun f15 hf => ?_)
        refine x_aload_n X dL_change_84 3 rfl ?_
        refine x_iload X dL_change_85 2 rfl ?_
        refine x_iload X dL_change_87 0 rfl ?_
        refine x_iconst X (v := 2) dL_change_89 (by decide) ?_
        refine x_icmp_le X (tgt := 97) dL_change_90 (by decide) hf (fun hf => ?_) (fun hf => ?_)
        · refine x_iconst X (v := 0) dL_change_97 (by decide) ?_
          obtain ⟨x16, w17, hx16, hf⟩ := bxn2_some hf
          refine x_callVs_i X E (As := [.int x1, .int 0]) (rest := []) (n := 2) (u := picC kA ad w) (u2 := picC kA ad w17) [] (picL kA al f15) rfl (goodV w_5257 w_511 w_512 w_47 w_513) (met_X3_setOpen l E.2.2.2 D kA ad fu w x1 (0 : Int32) x16 w17 hx16) rfl rfl (by decide +kernel) ⟨Nat.le_of_ble_eq_true rfl, Nat.le_of_ble_eq_true rfl⟩ 0 rfl (qc := (RX3, TX3, _)) rfl rfl rfl rfl (Nat.le_of_ble_eq_true rfl) dL_change_98 ⟨by decide, by decide⟩ (picC kA ad w17 ++ picL kA al f15) rfl ?_
          cases hf
          exact x_iret X hr hlk rfl rfl dL_change_101
        · refine x_iconst X (v := 1) dL_change_93 (by decide) ?_
          refine x_goto X (tgt := 98) dL_change_94 (by decide) ?_
          obtain ⟨x18, w19, hx18, hf⟩ := bxn2_some hf
          refine x_callVs_i X E (As := [.int x1, .int 1]) (rest := []) (n := 2) (u := picC kA ad w) (u2 := picC kA ad w19) [] (picL kA al f15) rfl (goodV w_5257 w_511 w_512 w_47 w_513) (met_X3_setOpen l E.2.2.2 D kA ad fu w x1 (1 : Int32) x18 w19 hx18) rfl rfl (by decide +kernel) ⟨Nat.le_of_ble_eq_true rfl, Nat.le_of_ble_eq_true rfl⟩ 0 rfl (qc := (RX3, TX3, _)) rfl rfl rfl rfl (Nat.le_of_ble_eq_true rfl) dL_change_98 ⟨by decide, by decide⟩ (picC kA ad w19 ++ picL kA al f15) rfl ?_
          cases hf
          exact x_iret X hr hlk rfl rfl dL_change_101
      · refine x_iconst X (v := 1) dL_change_78 (by decide) ?_
        refine x_goto X (tgt := 83) dL_change_79 (by decide) ?_
        refine x_zast X E.1.1 33 rfl dL_change_83 hf (fun f => picC kA ad w ++ picL kA al f) rfl (fun f20 hf => ?_)
        refine x_aload_n X dL_change_84 3 rfl ?_
        refine x_iload X dL_change_85 2 rfl ?_
        refine x_iload X dL_change_87 0 rfl ?_
        refine x_iconst X (v := 2) dL_change_89 (by decide) ?_
        refine x_icmp_le X (tgt := 97) dL_change_90 (by decide) hf (fun hf => ?_) (fun hf => ?_)
        · refine x_iconst X (v := 0) dL_change_97 (by decide) ?_
          obtain ⟨x21, w22, hx21, hf⟩ := bxn2_some hf
          refine x_callVs_i X E (As := [.int x1, .int 0]) (rest := []) (n := 2) (u := picC kA ad w) (u2 := picC kA ad w22) [] (picL kA al f20) rfl (goodV w_5257 w_511 w_512 w_47 w_513) (met_X3_setOpen l E.2.2.2 D kA ad fu w x1 (0 : Int32) x21 w22 hx21) rfl rfl (by decide +kernel) ⟨Nat.le_of_ble_eq_true rfl, Nat.le_of_ble_eq_true rfl⟩ 0 rfl (qc := (RX3, TX3, _)) rfl rfl rfl rfl (Nat.le_of_ble_eq_true rfl) dL_change_98 ⟨by decide, by decide⟩ (picC kA ad w22 ++ picL kA al f20) rfl ?_
          cases hf
          exact x_iret X hr hlk rfl rfl dL_change_101
        · refine x_iconst X (v := 1) dL_change_93 (by decide) ?_
          refine x_goto X (tgt := 98) dL_change_94 (by decide) ?_
          obtain ⟨x23, w24, hx23, hf⟩ := bxn2_some hf
          refine x_callVs_i X E (As := [.int x1, .int 1]) (rest := []) (n := 2) (u := picC kA ad w) (u2 := picC kA ad w24) [] (picL kA al f20) rfl (goodV w_5257 w_511 w_512 w_47 w_513) (met_X3_setOpen l E.2.2.2 D kA ad fu w x1 (1 : Int32) x23 w24 hx23) rfl rfl (by decide +kernel) ⟨Nat.le_of_ble_eq_true rfl, Nat.le_of_ble_eq_true rfl⟩ 0 rfl (qc := (RX3, TX3, _)) rfl rfl rfl rfl (Nat.le_of_ble_eq_true rfl) dL_change_98 ⟨by decide, by decide⟩ (picC kA ad w24 ++ picL kA al f20) rfl ?_
          cases hf
          exact x_iret X hr hlk rfl rfl dL_change_101
  · refine x_aload X dL_change_40 7 rfl ?_
    refine x_iload X dL_change_42 2 rfl ?_
    refine x_iconst X (v := 1) dL_change_44 (by decide) ?_
    refine x_iload X dL_change_45 0 rfl ?_
    refine x_iadd X dL_change_47 ?_
    refine x_iast X E.1.1 31 rfl dL_change_48 hf (fun f => picC kA ad w ++ picL kA al f) rfl (fun f25 hf => ?_)
    refine x_aload_n X dL_change_49 3 rfl ?_
    refine x_iload X dL_change_50 2 rfl ?_
    refine x_iconst X (v := 1) dL_change_52 (by decide) ?_
    refine x_iload X dL_change_53 0 rfl ?_
    refine x_iadd X dL_change_55 ?_
    obtain ⟨x26, w27, hx26, hf⟩ := bxn2_some hf
    refine x_callVs_i X E (As := [.int x1, .int ((1 : Int32) + x3)]) (rest := []) (n := 2) (u := picC kA ad w) (u2 := picC kA ad w27) [] (picL kA al f25) rfl (goodV w_5256 w_438 w_439 w_47 w_440) (met_X3_setWeight l E.2.2.2 D kA ad fu w x1 ((1 : Int32) + x3) x26 w27 hx26) rfl rfl (by decide +kernel) ⟨Nat.le_of_ble_eq_true rfl, Nat.le_of_ble_eq_true rfl⟩ 0 rfl (qc := (RX3, TX3, _)) rfl rfl rfl rfl (Nat.le_of_ble_eq_true rfl) dL_change_56 ⟨by decide, by decide⟩ (picC kA ad w27 ++ picL kA al f25) rfl ?_
    cases hf
    exact x_iret X hr hlk rfl rfl dL_change_59
end
section
variable {p : Program} {l : Launch} {e : Env} {s : State} {m : MethodId} {args : Array Value} {below : List Frame} {meth : Method} {c : Code} {D : va_G} {kA : Nat → ClassId} {A : Nat → Prop} {Q : State → Prop} {ad al : Nat → Nat} {b L : Nat} {xs : Nat → Int32}
abbrev rm_L_read6 : Room := { frames := 3, cells := 0, slots := 0, locals := 103 }
set_option maxRecDepth 100000 in
set_option maxHeartbeats 4000000 in
theorem lp_L_read6_10 (X : CX p m c cL_read 4 s args RL) (E : EX l s D kA A) (fu : Nat) (y2 : Int32) : ∀ (n : Nat) (y3 : Int32) (w : WS) (f : WS) (rw : WS) (rf : WS), iter (fun q => bd_L_read6_10 fu y2 q.1 q.2.1 q.2.2) n (y3, w, f) = some (rw, rf) → CS p l e rm_L_read6 s m args below meth c D A 4 0 0 Q ((picC kA ad rw) ++ picL kA al rf) 50 [(0, .ref (ad 0)), (1, .ref (al 6)), (2, .int y2)] [] → CS p l e rm_L_read6 s m args below meth c D A 4 0 0 Q ((picC kA ad w) ++ picL kA al f) 10 [(0, .ref (ad 0)), (1, .ref (al 6)), (2, .int y2), (3, .int y3)] [] := by
  intro n
  induction n with
  | zero =>
    intro y3 w f rw rf hit kk
    exact (iter_0 hit).elim
  | succ n ih =>
    intro y3 w f rw rf hit kk
    obtain ⟨o, h1, hit⟩ := iter_one hit
    have hf : bd_L_read6_10 fu y2 y3 w f = some o := h1
    unfold bd_L_read6_10 at hf
    refine x_iload_n X dL_read_10 3 rfl ?_
    refine x_bipush X (v := 9) dL_read_11 (by decide) ?_
    refine x_icmp_ge X (tgt := 50) dL_read_13 (by decide) hf (fun hf => ?_) (fun hf => ?_)
    · cases hf
      cases hit
      refine x_lpick (lv2 := [(0, .ref (ad 0)), (1, .ref (al 6)), (2, .int y2)]) [0, 1, 2] rfl ?_
      exact kk
    · refine x_aload_n X dL_read_16 1 rfl ?_
      refine x_bipush X (v := 9) dL_read_17 (by decide) ?_
      refine x_iload_n X dL_read_19 2 rfl ?_
      refine x_imul X dL_read_20 ?_
      refine x_iload_n X dL_read_21 3 rfl ?_
      refine x_iadd X dL_read_22 ?_
      refine x_aload_n X dL_read_23 0 rfl ?_
      refine x_iload_n X dL_read_24 2 rfl ?_
      refine x_iload_n X dL_read_25 3 rfl ?_
      obtain ⟨x1, w2, hx1, hf⟩ := bxn2_some hf
      refine x_callVs_i X E (As := [.int y2, .int y3]) (rest := [.int (((9 : Int32) * y2) + y3), .ref (al 6)]) (n := 2) (u := picC kA ad w) (u2 := picC kA ad w2) [] (picL kA al f) rfl (goodV w_5263 w_625 w_626 w_47 w_627) (met_X3_hasArc l E.2.2.2 D kA ad fu w y2 y3 x1 w2 hx1) rfl rfl (by decide +kernel) ⟨Nat.le_of_ble_eq_true rfl, Nat.le_of_ble_eq_true rfl⟩ 0 rfl (qc := (RX3, TX3, _)) rfl rfl rfl rfl (Nat.le_of_ble_eq_true rfl) dL_read_26 ⟨by decide, by decide⟩ (picC kA ad w2 ++ picL kA al f) rfl ?_
      refine x_if_eq X (tgt := 41) dL_read_29 (by decide) hf (fun hf => ?_) (fun hf => ?_)
      · refine x_bipush X (v := (-2)) dL_read_41 (by decide) ?_
        refine x_iast X E.1.1 35 rfl dL_read_43 hf (fun f => picC kA ad w2 ++ picL kA al f) rfl (fun f3 hf => ?_)
        refine x_iinc X dL_read_44 3 rfl (by decide) (y3 + 1) rfl hf (fun x4 => [(3, .int x4), (0, .ref (ad 0)), (1, .ref (al 6)), (2, .int y2)]) (fun _ => rfl) (fun x4 hf => ?_)
        refine x_goto X (tgt := 10) dL_read_47 (by decide) ?_
        cases hf
        refine x_lpick (lv2 := [(0, .ref (ad 0)), (1, .ref (al 6)), (2, .int y2), (3, .int x4)]) [1, 2, 3, 0] rfl ?_
        exact ih _ _ _ _ _ hit kk
      · refine x_aload_n X dL_read_32 0 rfl ?_
        refine x_iload_n X dL_read_33 2 rfl ?_
        refine x_iload_n X dL_read_34 3 rfl ?_
        obtain ⟨x5, w6, hx5, hf⟩ := bxn2_some hf
        refine x_callVs_i X E (As := [.int y2, .int y3]) (rest := [.int (((9 : Int32) * y2) + y3), .ref (al 6)]) (n := 2) (u := picC kA ad w2) (u2 := picC kA ad w6) [] (picL kA al f) rfl (goodV w_5264 w_633 w_634 w_47 w_635) (met_X3_arcCost l E.2.2.2 D kA ad fu w2 y2 y3 x5 w6 hx5) rfl rfl (by decide +kernel) ⟨Nat.le_of_ble_eq_true rfl, Nat.le_of_ble_eq_true rfl⟩ 0 rfl (qc := (RX3, TX3, _)) rfl rfl rfl rfl (Nat.le_of_ble_eq_true rfl) dL_read_35 ⟨by decide, by decide⟩ (picC kA ad w6 ++ picL kA al f) rfl ?_
        refine x_goto X (tgt := 43) dL_read_38 (by decide) ?_
        refine x_iast X E.1.1 35 rfl dL_read_43 hf (fun f => picC kA ad w6 ++ picL kA al f) rfl (fun f7 hf => ?_)
        refine x_iinc X dL_read_44 3 rfl (by decide) (y3 + 1) rfl hf (fun x8 => [(3, .int x8), (0, .ref (ad 0)), (1, .ref (al 6)), (2, .int y2)]) (fun _ => rfl) (fun x8 hf => ?_)
        refine x_goto X (tgt := 10) dL_read_47 (by decide) ?_
        cases hf
        refine x_lpick (lv2 := [(0, .ref (ad 0)), (1, .ref (al 6)), (2, .int y2), (3, .int x8)]) [1, 2, 3, 0] rfl ?_
        exact ih _ _ _ _ _ hit kk
set_option maxRecDepth 100000 in
set_option maxHeartbeats 4000000 in
theorem lp_L_read6_2 (X : CX p m c cL_read 4 s args RL) (E : EX l s D kA A) (fu : Nat)  : ∀ (n : Nat) (y2 : Int32) (w : WS) (f : WS) (rw : WS) (rf : WS), iter (fun q => bd_L_read6_2 fu q.1 q.2.1 q.2.2) n (y2, w, f) = some (rw, rf) → CS p l e rm_L_read6 s m args below meth c D A 4 0 0 Q ((picC kA ad rw) ++ picL kA al rf) 56 [] [] → CS p l e rm_L_read6 s m args below meth c D A 4 0 0 Q ((picC kA ad w) ++ picL kA al f) 2 [(0, .ref (ad 0)), (1, .ref (al 6)), (2, .int y2)] [] := by
  intro n
  induction n with
  | zero =>
    intro y2 w f rw rf hit kk
    exact (iter_0 hit).elim
  | succ n ih =>
    intro y2 w f rw rf hit kk
    obtain ⟨o, h1, hit⟩ := iter_one hit
    have hf : bd_L_read6_2 fu y2 w f = some o := h1
    unfold bd_L_read6_2 at hf
    refine x_iload_n X dL_read_2 2 rfl ?_
    refine x_bipush X (v := 9) dL_read_3 (by decide) ?_
    refine x_icmp_ge X (tgt := 56) dL_read_5 (by decide) hf (fun hf => ?_) (fun hf => ?_)
    · cases hf
      cases hit
      refine x_lpick (lv2 := []) [] rfl ?_
      exact kk
    · refine x_iconst X (v := 0) dL_read_8 (by decide) ?_
      refine x_istore_n X (lv2 := [(3, .int 0), (0, .ref (ad 0)), (1, .ref (al 6)), (2, .int y2)]) dL_read_9 (by decide) rfl ?_
      refine x_lpick (lv2 := [(0, .ref (ad 0)), (1, .ref (al 6)), (2, .int y2), (3, .int 0)]) [1, 2, 3, 0] rfl ?_
      obtain ⟨w1, f2, h3, hf⟩ := bn2_some hf
      refine lp_L_read6_10 X E fu y2 fu (0 : Int32) w f w1 f2 h3 ?_
      refine x_iinc X dL_read_50 2 rfl (by decide) (y2 + 1) rfl hf (fun x4 => [(2, .int x4), (0, .ref (ad 0)), (1, .ref (al 6))]) (fun _ => rfl) (fun x4 hf => ?_)
      refine x_goto X (tgt := 2) dL_read_53 (by decide) ?_
      cases hf
      refine x_lpick (lv2 := [(0, .ref (ad 0)), (1, .ref (al 6)), (2, .int x4)]) [1, 2, 0] rfl ?_
      exact ih _ _ _ _ _ hit kk
set_option maxRecDepth 100000 in
set_option maxHeartbeats 4000000 in
theorem met_L_read6 (l : Launch) (hst : l.stackTraces = false) (D : va_G) (kA : Nat → ClassId) (ad al : Nat → Nat) (fu : Nat) (w : WS) (f : WS)  (w1 : WS) (f1 : WS) (hf : f_L_read6 fu w f = some (w1, f1)) (sz : Nat) : Met l yL_read (wsY yL_read cL_read 4 none) rm_L_read6 (va_Pc [.ref (ad 0), .ref (al 6)] (PreG D kA (picC kA ad w ++ picL kA al f) sz)) (va_Qv (fun (_ : Unit) => True) (fun _ t => PosG D (va_A (picC kA ad w ++ picL kA al f) sz) (picC kA ad w1 ++ picL kA al f1) t) (va_A (picC kA ad w ++ picL kA al f) sz)) 0 0 (va_A (picC kA ad w ++ picL kA al f) sz) := by
  refine metG (own := RL) hst (by decide +kernel) rfl (Nat.le_of_ble_eq_true rfl) rfl ?_
  intro p e s m below meth c X hr hlk E _
  unfold f_L_read6 at hf
  refine x_iconst X (v := 0) dL_read_0 (by decide) ?_
  refine x_istore_n X (lv2 := [(2, .int 0), (0, .ref (ad 0)), (1, .ref (al 6))]) dL_read_1 (by decide) rfl ?_
  refine x_lpick (lv2 := [(0, .ref (ad 0)), (1, .ref (al 6)), (2, .int 0)]) [1, 2, 0] rfl ?_
  obtain ⟨w1, f2, h3, hf⟩ := bn2_some hf
  refine lp_L_read6_2 X E fu  fu (0 : Int32) w f w1 f2 h3 ?_
  cases hf
  exact x_vret X hr hlk rfl dL_read_56
end
section
variable {p : Program} {l : Launch} {e : Env} {s : State} {m : MethodId} {args : Array Value} {below : List Frame} {meth : Method} {c : Code} {D : va_G} {kA : Nat → ClassId} {A : Nat → Prop} {Q : State → Prop} {ad al : Nat → Nat} {b L : Nat} {xs : Nat → Int32}
abbrev rm_L_read7 : Room := { frames := 3, cells := 0, slots := 0, locals := 103 }
set_option maxRecDepth 100000 in
set_option maxHeartbeats 4000000 in
theorem lp_L_read7_10 (X : CX p m c cL_read 4 s args RL) (E : EX l s D kA A) (fu : Nat) (y2 : Int32) : ∀ (n : Nat) (y3 : Int32) (w : WS) (f : WS) (rw : WS) (rf : WS), iter (fun q => bd_L_read7_10 fu y2 q.1 q.2.1 q.2.2) n (y3, w, f) = some (rw, rf) → CS p l e rm_L_read7 s m args below meth c D A 4 0 0 Q ((picC kA ad rw) ++ picL kA al rf) 50 [(0, .ref (ad 0)), (1, .ref (al 7)), (2, .int y2)] [] → CS p l e rm_L_read7 s m args below meth c D A 4 0 0 Q ((picC kA ad w) ++ picL kA al f) 10 [(0, .ref (ad 0)), (1, .ref (al 7)), (2, .int y2), (3, .int y3)] [] := by
  intro n
  induction n with
  | zero =>
    intro y3 w f rw rf hit kk
    exact (iter_0 hit).elim
  | succ n ih =>
    intro y3 w f rw rf hit kk
    obtain ⟨o, h1, hit⟩ := iter_one hit
    have hf : bd_L_read7_10 fu y2 y3 w f = some o := h1
    unfold bd_L_read7_10 at hf
    refine x_iload_n X dL_read_10 3 rfl ?_
    refine x_bipush X (v := 9) dL_read_11 (by decide) ?_
    refine x_icmp_ge X (tgt := 50) dL_read_13 (by decide) hf (fun hf => ?_) (fun hf => ?_)
    · cases hf
      cases hit
      refine x_lpick (lv2 := [(0, .ref (ad 0)), (1, .ref (al 7)), (2, .int y2)]) [0, 1, 2] rfl ?_
      exact kk
    · refine x_aload_n X dL_read_16 1 rfl ?_
      refine x_bipush X (v := 9) dL_read_17 (by decide) ?_
      refine x_iload_n X dL_read_19 2 rfl ?_
      refine x_imul X dL_read_20 ?_
      refine x_iload_n X dL_read_21 3 rfl ?_
      refine x_iadd X dL_read_22 ?_
      refine x_aload_n X dL_read_23 0 rfl ?_
      refine x_iload_n X dL_read_24 2 rfl ?_
      refine x_iload_n X dL_read_25 3 rfl ?_
      obtain ⟨x1, w2, hx1, hf⟩ := bxn2_some hf
      refine x_callVs_i X E (As := [.int y2, .int y3]) (rest := [.int (((9 : Int32) * y2) + y3), .ref (al 7)]) (n := 2) (u := picC kA ad w) (u2 := picC kA ad w2) [] (picL kA al f) rfl (goodV w_5263 w_625 w_626 w_47 w_627) (met_X3_hasArc l E.2.2.2 D kA ad fu w y2 y3 x1 w2 hx1) rfl rfl (by decide +kernel) ⟨Nat.le_of_ble_eq_true rfl, Nat.le_of_ble_eq_true rfl⟩ 0 rfl (qc := (RX3, TX3, _)) rfl rfl rfl rfl (Nat.le_of_ble_eq_true rfl) dL_read_26 ⟨by decide, by decide⟩ (picC kA ad w2 ++ picL kA al f) rfl ?_
      refine x_if_eq X (tgt := 41) dL_read_29 (by decide) hf (fun hf => ?_) (fun hf => ?_)
      · refine x_bipush X (v := (-2)) dL_read_41 (by decide) ?_
        refine x_iast X E.1.1 36 rfl dL_read_43 hf (fun f => picC kA ad w2 ++ picL kA al f) rfl (fun f3 hf => ?_)
        refine x_iinc X dL_read_44 3 rfl (by decide) (y3 + 1) rfl hf (fun x4 => [(3, .int x4), (0, .ref (ad 0)), (1, .ref (al 7)), (2, .int y2)]) (fun _ => rfl) (fun x4 hf => ?_)
        refine x_goto X (tgt := 10) dL_read_47 (by decide) ?_
        cases hf
        refine x_lpick (lv2 := [(0, .ref (ad 0)), (1, .ref (al 7)), (2, .int y2), (3, .int x4)]) [1, 2, 3, 0] rfl ?_
        exact ih _ _ _ _ _ hit kk
      · refine x_aload_n X dL_read_32 0 rfl ?_
        refine x_iload_n X dL_read_33 2 rfl ?_
        refine x_iload_n X dL_read_34 3 rfl ?_
        obtain ⟨x5, w6, hx5, hf⟩ := bxn2_some hf
        refine x_callVs_i X E (As := [.int y2, .int y3]) (rest := [.int (((9 : Int32) * y2) + y3), .ref (al 7)]) (n := 2) (u := picC kA ad w2) (u2 := picC kA ad w6) [] (picL kA al f) rfl (goodV w_5264 w_633 w_634 w_47 w_635) (met_X3_arcCost l E.2.2.2 D kA ad fu w2 y2 y3 x5 w6 hx5) rfl rfl (by decide +kernel) ⟨Nat.le_of_ble_eq_true rfl, Nat.le_of_ble_eq_true rfl⟩ 0 rfl (qc := (RX3, TX3, _)) rfl rfl rfl rfl (Nat.le_of_ble_eq_true rfl) dL_read_35 ⟨by decide, by decide⟩ (picC kA ad w6 ++ picL kA al f) rfl ?_
        refine x_goto X (tgt := 43) dL_read_38 (by decide) ?_
        refine x_iast X E.1.1 36 rfl dL_read_43 hf (fun f => picC kA ad w6 ++ picL kA al f) rfl (fun f7 hf => ?_)
        refine x_iinc X dL_read_44 3 rfl (by decide) (y3 + 1) rfl hf (fun x8 => [(3, .int x8), (0, .ref (ad 0)), (1, .ref (al 7)), (2, .int y2)]) (fun _ => rfl) (fun x8 hf => ?_)
        refine x_goto X (tgt := 10) dL_read_47 (by decide) ?_
        cases hf
        refine x_lpick (lv2 := [(0, .ref (ad 0)), (1, .ref (al 7)), (2, .int y2), (3, .int x8)]) [1, 2, 3, 0] rfl ?_
        exact ih _ _ _ _ _ hit kk
set_option maxRecDepth 100000 in
set_option maxHeartbeats 4000000 in
theorem lp_L_read7_2 (X : CX p m c cL_read 4 s args RL) (E : EX l s D kA A) (fu : Nat)  : ∀ (n : Nat) (y2 : Int32) (w : WS) (f : WS) (rw : WS) (rf : WS), iter (fun q => bd_L_read7_2 fu q.1 q.2.1 q.2.2) n (y2, w, f) = some (rw, rf) → CS p l e rm_L_read7 s m args below meth c D A 4 0 0 Q ((picC kA ad rw) ++ picL kA al rf) 56 [] [] → CS p l e rm_L_read7 s m args below meth c D A 4 0 0 Q ((picC kA ad w) ++ picL kA al f) 2 [(0, .ref (ad 0)), (1, .ref (al 7)), (2, .int y2)] [] := by
  intro n
  induction n with
  | zero =>
    intro y2 w f rw rf hit kk
    exact (iter_0 hit).elim
  | succ n ih =>
    intro y2 w f rw rf hit kk
    obtain ⟨o, h1, hit⟩ := iter_one hit
    have hf : bd_L_read7_2 fu y2 w f = some o := h1
    unfold bd_L_read7_2 at hf
    refine x_iload_n X dL_read_2 2 rfl ?_
    refine x_bipush X (v := 9) dL_read_3 (by decide) ?_
    refine x_icmp_ge X (tgt := 56) dL_read_5 (by decide) hf (fun hf => ?_) (fun hf => ?_)
    · cases hf
      cases hit
      refine x_lpick (lv2 := []) [] rfl ?_
      exact kk
    · refine x_iconst X (v := 0) dL_read_8 (by decide) ?_
      refine x_istore_n X (lv2 := [(3, .int 0), (0, .ref (ad 0)), (1, .ref (al 7)), (2, .int y2)]) dL_read_9 (by decide) rfl ?_
      refine x_lpick (lv2 := [(0, .ref (ad 0)), (1, .ref (al 7)), (2, .int y2), (3, .int 0)]) [1, 2, 3, 0] rfl ?_
      obtain ⟨w1, f2, h3, hf⟩ := bn2_some hf
      refine lp_L_read7_10 X E fu y2 fu (0 : Int32) w f w1 f2 h3 ?_
      refine x_iinc X dL_read_50 2 rfl (by decide) (y2 + 1) rfl hf (fun x4 => [(2, .int x4), (0, .ref (ad 0)), (1, .ref (al 7))]) (fun _ => rfl) (fun x4 hf => ?_)
      refine x_goto X (tgt := 2) dL_read_53 (by decide) ?_
      cases hf
      refine x_lpick (lv2 := [(0, .ref (ad 0)), (1, .ref (al 7)), (2, .int x4)]) [1, 2, 0] rfl ?_
      exact ih _ _ _ _ _ hit kk
set_option maxRecDepth 100000 in
set_option maxHeartbeats 4000000 in
theorem met_L_read7 (l : Launch) (hst : l.stackTraces = false) (D : va_G) (kA : Nat → ClassId) (ad al : Nat → Nat) (fu : Nat) (w : WS) (f : WS)  (w1 : WS) (f1 : WS) (hf : f_L_read7 fu w f = some (w1, f1)) (sz : Nat) : Met l yL_read (wsY yL_read cL_read 4 none) rm_L_read7 (va_Pc [.ref (ad 0), .ref (al 7)] (PreG D kA (picC kA ad w ++ picL kA al f) sz)) (va_Qv (fun (_ : Unit) => True) (fun _ t => PosG D (va_A (picC kA ad w ++ picL kA al f) sz) (picC kA ad w1 ++ picL kA al f1) t) (va_A (picC kA ad w ++ picL kA al f) sz)) 0 0 (va_A (picC kA ad w ++ picL kA al f) sz) := by
  refine metG (own := RL) hst (by decide +kernel) rfl (Nat.le_of_ble_eq_true rfl) rfl ?_
  intro p e s m below meth c X hr hlk E _
  unfold f_L_read7 at hf
  refine x_iconst X (v := 0) dL_read_0 (by decide) ?_
  refine x_istore_n X (lv2 := [(2, .int 0), (0, .ref (ad 0)), (1, .ref (al 7))]) dL_read_1 (by decide) rfl ?_
  refine x_lpick (lv2 := [(0, .ref (ad 0)), (1, .ref (al 7)), (2, .int 0)]) [1, 2, 0] rfl ?_
  obtain ⟨w1, f2, h3, hf⟩ := bn2_some hf
  refine lp_L_read7_2 X E fu  fu (0 : Int32) w f w1 f2 h3 ?_
  cases hf
  exact x_vret X hr hlk rfl dL_read_56
end
section
variable {p : Program} {l : Launch} {e : Env} {s : State} {m : MethodId} {args : Array Value} {below : List Frame} {meth : Method} {c : Code} {D : va_G} {kA : Nat → ClassId} {A : Nat → Prop} {Q : State → Prop} {ad al : Nat → Nat} {b L : Nat} {xs : Nat → Int32}
abbrev rm_L_unlike : Room := { frames := 0, cells := 0, slots := 0, locals := 0 }
set_option maxRecDepth 100000 in
set_option maxHeartbeats 4000000 in
theorem lp_L_unlike_4 (X : CX p m c cL_unlike 4 s args RL) (E : EX l s D kA A) (fu : Nat) (w : WS) (f : WS) : ∀ (n : Nat) (y2 : Int32) (y3 : Int32) (r2 : Int32), iter (fun q => bd_L_unlike_4 fu w f q.1 q.2) n (y2, y3) = some (r2) → CS p l e rm_L_unlike s m args below meth c D A 4 0 0 Q ((picC kA ad w) ++ picL kA al f) 33 [(2, .int r2)] [] → CS p l e rm_L_unlike s m args below meth c D A 4 0 0 Q ((picC kA ad w) ++ picL kA al f) 4 [(0, .ref (al 6)), (1, .ref (al 7)), (2, .int y2), (3, .int y3)] [] := by
  intro n
  induction n with
  | zero =>
    intro y2 y3 r2 hit kk
    exact (iter_0 hit).elim
  | succ n ih =>
    intro y2 y3 r2 hit kk
    obtain ⟨o, h1, hit⟩ := iter_one hit
    have hf : bd_L_unlike_4 fu w f y2 y3 = some o := h1
    unfold bd_L_unlike_4 at hf
    refine x_iload_n X dL_unlike_4 3 rfl ?_
    refine x_bipush X (v := 81) dL_unlike_5 (by decide) ?_
    refine x_icmp_ge X (tgt := 33) dL_unlike_7 (by decide) hf (fun hf => ?_) (fun hf => ?_)
    · cases hf
      cases hit
      refine x_lpick (lv2 := [(2, .int y2)]) [2] rfl ?_
      exact kk
    · refine x_iload_n X dL_unlike_10 2 rfl ?_
      refine x_aload_n X dL_unlike_11 0 rfl ?_
      refine x_iload_n X dL_unlike_12 3 rfl ?_
      refine x_iald X E.1.1 35 rfl dL_unlike_13 hf (fun x1 hf => ?_)
      refine x_aload_n X dL_unlike_14 1 rfl ?_
      refine x_iload_n X dL_unlike_15 3 rfl ?_
      refine x_iald X E.1.1 36 rfl dL_unlike_16 hf (fun x2 hf => ?_)
      refine x_icmp_ne X (tgt := 24) dL_unlike_17 (by decide) hf (fun hf => ?_) (fun hf => ?_)
      · refine x_iconst X (v := 1) dL_unlike_24 (by decide) ?_
        refine x_iadd X dL_unlike_25 ?_
        refine x_nmI hf (fun x3 hf => ?_)
        refine x_istore_n X (lv2 := [(2, .int x3), (0, .ref (al 6)), (1, .ref (al 7)), (3, .int y3)]) dL_unlike_26 (by decide) rfl ?_
        refine x_iinc X dL_unlike_27 3 rfl (by decide) (y3 + 1) rfl hf (fun x4 => [(3, .int x4), (2, .int x3), (0, .ref (al 6)), (1, .ref (al 7))]) (fun _ => rfl) (fun x4 hf => ?_)
        refine x_goto X (tgt := 4) dL_unlike_30 (by decide) ?_
        cases hf
        refine x_lpick (lv2 := [(0, .ref (al 6)), (1, .ref (al 7)), (2, .int x3), (3, .int x4)]) [2, 3, 1, 0] rfl ?_
        exact ih _ _ _ hit kk
      · refine x_iconst X (v := 0) dL_unlike_20 (by decide) ?_
        refine x_goto X (tgt := 25) dL_unlike_21 (by decide) ?_
        refine x_iadd X dL_unlike_25 ?_
        refine x_nmI hf (fun x5 hf => ?_)
        refine x_istore_n X (lv2 := [(2, .int x5), (0, .ref (al 6)), (1, .ref (al 7)), (3, .int y3)]) dL_unlike_26 (by decide) rfl ?_
        refine x_iinc X dL_unlike_27 3 rfl (by decide) (y3 + 1) rfl hf (fun x6 => [(3, .int x6), (2, .int x5), (0, .ref (al 6)), (1, .ref (al 7))]) (fun _ => rfl) (fun x6 hf => ?_)
        refine x_goto X (tgt := 4) dL_unlike_30 (by decide) ?_
        cases hf
        refine x_lpick (lv2 := [(0, .ref (al 6)), (1, .ref (al 7)), (2, .int x5), (3, .int x6)]) [2, 3, 1, 0] rfl ?_
        exact ih _ _ _ hit kk
set_option maxRecDepth 100000 in
set_option maxHeartbeats 4000000 in
theorem met_L_unlike (l : Launch) (hst : l.stackTraces = false) (D : va_G) (kA : Nat → ClassId) (ad al : Nat → Nat) (fu : Nat) (w : WS) (f : WS)  (v : Int32) (hf : f_L_unlike fu w f = some (v)) (sz : Nat) : Met l yL_unlike (wsY yL_unlike cL_unlike 4 (some .int)) rm_L_unlike (va_Pc [.ref (al 6), .ref (al 7)] (PreG D kA (picC kA ad w ++ picL kA al f) sz)) (va_Qi (fun (r : Int32) (_ : Unit) => r = v) (fun _ t => PosG D (va_A (picC kA ad w ++ picL kA al f) sz) (picC kA ad w ++ picL kA al f) t) (va_A (picC kA ad w ++ picL kA al f) sz)) 0 0 (va_A (picC kA ad w ++ picL kA al f) sz) := by
  refine metG (own := RL) hst (by decide +kernel) rfl (Nat.le_of_ble_eq_true rfl) rfl ?_
  intro p e s m below meth c X hr hlk E _
  unfold f_L_unlike at hf
  refine x_iconst X (v := 0) dL_unlike_0 (by decide) ?_
  refine x_istore_n X (lv2 := [(2, .int 0), (0, .ref (al 6)), (1, .ref (al 7))]) dL_unlike_1 (by decide) rfl ?_
  refine x_iconst X (v := 0) dL_unlike_2 (by decide) ?_
  refine x_istore_n X (lv2 := [(3, .int 0), (2, .int 0), (0, .ref (al 6)), (1, .ref (al 7))]) dL_unlike_3 (by decide) rfl ?_
  refine x_lpick (lv2 := [(0, .ref (al 6)), (1, .ref (al 7)), (2, .int 0), (3, .int 0)]) [2, 3, 1, 0] rfl ?_
  obtain ⟨x1, h2, hf⟩ := bn_some hf
  refine lp_L_unlike_4 X E fu w f fu (0 : Int32) (0 : Int32) x1 h2 ?_
  refine x_iload_n X dL_unlike_33 0 rfl ?_
  cases hf
  exact x_iret X hr hlk rfl rfl dL_unlike_34
end
