section
variable {p : Program} {l : Launch} {e : Env} {s : State} {m : MethodId} {args : Array Value} {below : List Frame} {meth : Method} {c : Code} {D : va_G} {kA : Nat → ClassId} {A : Nat → Prop} {Q : State → Prop} {ad al : Nat → Nat} {b L : Nat} {xs : Nat → Int32}
abbrev rm_X2_followersOf : Room := { frames := 0, cells := 0, slots := 0, locals := 0 }
set_option maxRecDepth 100000 in
set_option maxHeartbeats 4000000 in
theorem met_X2_followersOf (l : Launch) (hst : l.stackTraces = false) (D : va_G) (kA : Nat → ClassId) (ad : Nat → Nat) (fu : Nat) (w : WS) (a1 : Int32) (v : Int64) (hf : f_X2_followersOf fu w a1 = some v) (sz : Nat) : Met l yX2_followersOf (wsY yX2_followersOf cX2_followersOf 2 (some .long)) rm_X2_followersOf (va_Pc [.ref (ad 1), .int a1] (PreG D kA (picC kA ad w) sz)) (va_Ql (fun (r : Int64) (_ : Unit) => r = v) (fun _ t => PosG D (va_A (picC kA ad w) sz) (picC kA ad w) t) (va_A (picC kA ad w) sz)) 0 0 (va_A (picC kA ad w) sz) := by
  refine metG (own := RX2) hst (by decide +kernel) rfl (Nat.le_of_ble_eq_true rfl) rfl ?_
  intro p e s m below meth c X hr hlk E _
  unfold f_X2_followersOf at hf
  refine x_aload_n X dX2_followersOf_0 0 rfl ?_
  refine x_get X E.1.1 (T := TX2) (C := RX2) inW2 1 rfl rfl 6 (by decide) w_97 rfl (v := .ref (ad 13)) rfl dX2_followersOf_1 ?_
  refine x_aload_n X dX2_followersOf_4 0 rfl ?_
  refine x_get X E.1.1 (T := TX2) (C := RX2) inW2 1 rfl rfl 3 (by decide) w_89 rfl (v := .ref (ad 10)) rfl dX2_followersOf_5 ?_
  refine x_iload_n X dX2_followersOf_8 1 rfl ?_
  refine x_iald X E.1.1 10 rfl dX2_followersOf_9 hf (fun x1 hf => ?_)
  refine x_lald X E.1.1 13 rfl dX2_followersOf_10 hf (fun x2 hf => ?_)
  exact x_lret X hr hlk rfl (Option.some.inj hf) dX2_followersOf_11
end
section
variable {p : Program} {l : Launch} {e : Env} {s : State} {m : MethodId} {args : Array Value} {below : List Frame} {meth : Method} {c : Code} {D : va_G} {kA : Nat → ClassId} {A : Nat → Prop} {Q : State → Prop} {ad al : Nat → Nat} {b L : Nat} {xs : Nat → Int32}
abbrev rm_X2_forerunnersOf : Room := { frames := 0, cells := 0, slots := 0, locals := 0 }
set_option maxRecDepth 100000 in
set_option maxHeartbeats 4000000 in
theorem met_X2_forerunnersOf (l : Launch) (hst : l.stackTraces = false) (D : va_G) (kA : Nat → ClassId) (ad : Nat → Nat) (fu : Nat) (w : WS) (a1 : Int32) (v : Int64) (hf : f_X2_forerunnersOf fu w a1 = some v) (sz : Nat) : Met l yX2_forerunnersOf (wsY yX2_forerunnersOf cX2_forerunnersOf 2 (some .long)) rm_X2_forerunnersOf (va_Pc [.ref (ad 1), .int a1] (PreG D kA (picC kA ad w) sz)) (va_Ql (fun (r : Int64) (_ : Unit) => r = v) (fun _ t => PosG D (va_A (picC kA ad w) sz) (picC kA ad w) t) (va_A (picC kA ad w) sz)) 0 0 (va_A (picC kA ad w) sz) := by
  refine metG (own := RX2) hst (by decide +kernel) rfl (Nat.le_of_ble_eq_true rfl) rfl ?_
  intro p e s m below meth c X hr hlk E _
  unfold f_X2_forerunnersOf at hf
  refine x_aload_n X dX2_forerunnersOf_0 0 rfl ?_
  refine x_get X E.1.1 (T := TX2) (C := RX2) inW2 1 rfl rfl 7 (by decide) w_99 rfl (v := .ref (ad 14)) rfl dX2_forerunnersOf_1 ?_
  refine x_aload_n X dX2_forerunnersOf_4 0 rfl ?_
  refine x_get X E.1.1 (T := TX2) (C := RX2) inW2 1 rfl rfl 2 (by decide) w_87 rfl (v := .ref (ad 9)) rfl dX2_forerunnersOf_5 ?_
  refine x_iload_n X dX2_forerunnersOf_8 1 rfl ?_
  refine x_iald X E.1.1 9 rfl dX2_forerunnersOf_9 hf (fun x1 hf => ?_)
  refine x_lald X E.1.1 14 rfl dX2_forerunnersOf_10 hf (fun x2 hf => ?_)
  exact x_lret X hr hlk rfl (Option.some.inj hf) dX2_forerunnersOf_11
end
section
variable {p : Program} {l : Launch} {e : Env} {s : State} {m : MethodId} {args : Array Value} {below : List Frame} {meth : Method} {c : Code} {D : va_G} {kA : Nat → ClassId} {A : Nat → Prop} {Q : State → Prop} {ad al : Nat → Nat} {b L : Nat} {xs : Nat → Int32}
abbrev rm_X0_linkTurns : Room := { frames := 1, cells := 0, slots := 0, locals := 21 }
set_option maxRecDepth 100000 in
set_option maxHeartbeats 4000000 in
theorem lp_X0_linkTurns_4 (X : CX p m c cX0_linkTurns 3 s args RX0) (E : EX l s D kA A) (fu : Nat)  : ∀ (n : Nat) (y1 : Int32) (y2 : Int32) (w : WS) (r1 : Int32) (rw : WS), iter (fun q => bd_X0_linkTurns_4 fu q.1 q.2.1 q.2.2) n (y1, y2, w) = some (r1, rw) → CS p l e rm_X0_linkTurns s m args below meth c D A 3 0 0 Q (picC kA ad rw) 58 [(1, .int r1)] [] → CS p l e rm_X0_linkTurns s m args below meth c D A 3 0 0 Q (picC kA ad w) 4 [(0, .ref (ad 2)), (1, .int y1), (2, .int y2)] [] := by
  intro n
  induction n with
  | zero =>
    intro y1 y2 w r1 rw hit kk
    exact (iter_0 hit).elim
  | succ n ih =>
    intro y1 y2 w r1 rw hit kk
    obtain ⟨o, h1, hit⟩ := iter_one hit
    have hf : bd_X0_linkTurns_4 fu y1 y2 w = some o := h1
    unfold bd_X0_linkTurns_4 at hf
    refine x_iload_n X dX0_linkTurns_4 2 rfl ?_
    refine x_aload_n X dX0_linkTurns_5 0 rfl ?_
    refine x_get X E.1.1 (T := TX0) (C := RX0) inW0 2 rfl rfl 2 (by decide) w_5026 rfl (v := .int (w.1 2 2)) rfl dX0_linkTurns_6 ?_
    refine x_nmI hf (fun x1 hf => ?_)
    refine x_icmp_ge X (tgt := 58) dX0_linkTurns_9 (by decide) hf (fun hf => ?_) (fun hf => ?_)
    · cases hf
      cases hit
      refine x_lpick (lv2 := [(1, .int y1)]) [1] rfl ?_
      exact kk
    · refine x_aload_n X dX0_linkTurns_12 0 rfl ?_
      refine x_get X E.1.1 (T := TX0) (C := RX0) inW0 2 rfl rfl 7 (by decide) w_5032 rfl (v := .ref (ad 18)) rfl dX0_linkTurns_13 ?_
      refine x_iload_n X dX0_linkTurns_16 2 rfl ?_
      refine x_aload_n X dX0_linkTurns_17 0 rfl ?_
      refine x_get X E.1.1 (T := TX0) (C := RX0) inW0 2 rfl rfl 0 (by decide) w_136 rfl (v := .ref (ad 1)) rfl dX0_linkTurns_18 ?_
      refine x_iload_n X dX0_linkTurns_21 2 rfl ?_
      obtain ⟨x2, hx2, hf⟩ := bn_some hf
      refine x_callV_l X E (As := [.int y2]) (rest := [.int y2, .ref (ad 18)]) (n := 1) (ws2 := (picC kA ad w)) (goodV w_459 w_460 w_461 w_48 w_462) (met_X2_followersOf l E.2.2.2 D kA ad fu w y2 x2 hx2) rfl rfl (by decide +kernel) ⟨by decide, by decide⟩ 1 rfl (qc := (RX2, TX2, _)) rfl rfl rfl rfl (Nat.le_of_ble_eq_true rfl) dX0_linkTurns_22 ⟨by decide, by decide⟩ ?_
      refine x_last X E.1.1 18 rfl dX0_linkTurns_25 hf (picC kA ad) (setC_18 kA ad _ _ _) (fun w3 hf => ?_)
      refine x_aload_n X dX0_linkTurns_26 0 rfl ?_
      refine x_get X E.1.1 (T := TX0) (C := RX0) inW0 2 rfl rfl 8 (by decide) w_5034 rfl (v := .ref (ad 19)) rfl dX0_linkTurns_27 ?_
      refine x_iload_n X dX0_linkTurns_30 2 rfl ?_
      refine x_aload_n X dX0_linkTurns_31 0 rfl ?_
      refine x_get X E.1.1 (T := TX0) (C := RX0) inW0 2 rfl rfl 0 (by decide) w_136 rfl (v := .ref (ad 1)) rfl dX0_linkTurns_32 ?_
      refine x_iload_n X dX0_linkTurns_35 2 rfl ?_
      obtain ⟨x4, hx4, hf⟩ := bn_some hf
      refine x_callV_l X E (As := [.int y2]) (rest := [.int y2, .ref (ad 19)]) (n := 1) (ws2 := (picC kA ad w3)) (goodV w_450 w_451 w_452 w_48 w_453) (met_X2_forerunnersOf l E.2.2.2 D kA ad fu w3 y2 x4 hx4) rfl rfl (by decide +kernel) ⟨by decide, by decide⟩ 1 rfl (qc := (RX2, TX2, _)) rfl rfl rfl rfl (Nat.le_of_ble_eq_true rfl) dX0_linkTurns_36 ⟨by decide, by decide⟩ ?_
      refine x_last X E.1.1 19 rfl dX0_linkTurns_39 hf (picC kA ad) (setC_19 kA ad _ _ _) (fun w5 hf => ?_)
      refine x_iload_n X dX0_linkTurns_40 1 rfl ?_
      refine x_aload_n X dX0_linkTurns_41 0 rfl ?_
      refine x_get X E.1.1 (T := TX0) (C := RX0) inW0 2 rfl rfl 7 (by decide) w_5032 rfl (v := .ref (ad 18)) rfl dX0_linkTurns_42 ?_
      refine x_iload_n X dX0_linkTurns_45 2 rfl ?_
      refine x_lald X E.1.1 18 rfl dX0_linkTurns_46 hf (fun x6 hf => ?_)
      obtain ⟨x7, hx7, hf⟩ := bn_some hf
      refine x_callS_i X (As := [.long x6]) (rest := [.int y1]) (n := 1) (goodS w_5148 w_593 w_60 w_594) (met_J13_bitCount_95d88 l fu x6 x7 hx7) rfl rfl (by decide +kernel) ⟨by decide, by decide⟩ rfl rfl (Nat.le_of_ble_eq_true rfl) dX0_linkTurns_47 ⟨by decide, by decide⟩ ?_
      refine x_iadd X dX0_linkTurns_50 ?_
      refine x_nmI hf (fun x8 hf => ?_)
      refine x_istore_n X (lv2 := [(1, .int x8), (0, .ref (ad 2)), (2, .int y2)]) dX0_linkTurns_51 (by decide) rfl ?_
      refine x_iinc X dX0_linkTurns_52 2 rfl (by decide) (y2 + 1) rfl hf (fun x9 => [(2, .int x9), (1, .int x8), (0, .ref (ad 2))]) (fun _ => rfl) (fun x9 hf => ?_)
      refine x_goto X (tgt := 4) dX0_linkTurns_55 (by decide) ?_
      cases hf
      refine x_lpick (lv2 := [(0, .ref (ad 2)), (1, .int x8), (2, .int x9)]) [2, 1, 0] rfl ?_
      exact ih _ _ _ _ _ hit kk
set_option maxRecDepth 100000 in
set_option maxHeartbeats 4000000 in
theorem met_X0_linkTurns (l : Launch) (hst : l.stackTraces = false) (D : va_G) (kA : Nat → ClassId) (ad : Nat → Nat) (fu : Nat) (w : WS)  (v : Int32) (w1 : WS) (hf : f_X0_linkTurns fu w = some (v, w1)) (sz : Nat) : Met l yX0_linkTurns (wsY yX0_linkTurns cX0_linkTurns 3 (some .int)) rm_X0_linkTurns (va_Pc [.ref (ad 2)] (PreG D kA (picC kA ad w) sz)) (va_Qi (fun (r : Int32) (_ : Unit) => r = v) (fun _ t => PosG D (va_A (picC kA ad w) sz) (picC kA ad w1) t) (va_A (picC kA ad w) sz)) 0 0 (va_A (picC kA ad w) sz) := by
  refine metG (own := RX0) hst (by decide +kernel) rfl (Nat.le_of_ble_eq_true rfl) rfl ?_
  intro p e s m below meth c X hr hlk E _
  unfold f_X0_linkTurns at hf
  refine x_iconst X (v := 0) dX0_linkTurns_0 (by decide) ?_
  refine x_istore_n X (lv2 := [(1, .int 0), (0, .ref (ad 2))]) dX0_linkTurns_1 (by decide) rfl ?_
  refine x_iconst X (v := 0) dX0_linkTurns_2 (by decide) ?_
  refine x_istore_n X (lv2 := [(2, .int 0), (1, .int 0), (0, .ref (ad 2))]) dX0_linkTurns_3 (by decide) rfl ?_
  refine x_lpick (lv2 := [(0, .ref (ad 2)), (1, .int 0), (2, .int 0)]) [2, 1, 0] rfl ?_
  obtain ⟨x1, w2, h3, hf⟩ := bn2_some hf
  refine lp_X0_linkTurns_4 X E fu  fu (0 : Int32) (0 : Int32) w x1 w2 h3 ?_
  refine x_iload_n X dX0_linkTurns_58 0 rfl ?_
  cases hf
  exact x_iret X hr hlk rfl rfl dX0_linkTurns_59
end
section
variable {p : Program} {l : Launch} {e : Env} {s : State} {m : MethodId} {args : Array Value} {below : List Frame} {meth : Method} {c : Code} {D : va_G} {kA : Nat → ClassId} {A : Nat → Prop} {Q : State → Prop} {ad al : Nat → Nat} {b L : Nat} {xs : Nat → Int32}
abbrev rm_X2_allRoads : Room := { frames := 1, cells := 0, slots := 0, locals := 20 }
set_option maxRecDepth 100000 in
set_option maxHeartbeats 4000000 in
theorem met_X2_allRoads (l : Launch) (hst : l.stackTraces = false) (D : va_G) (kA : Nat → ClassId) (ad : Nat → Nat) (fu : Nat) (w : WS)  (v : Int64) (hf : f_X2_allRoads fu w = some v) (sz : Nat) : Met l yX2_allRoads (wsY yX2_allRoads cX2_allRoads 1 (some .long)) rm_X2_allRoads (va_Pc [.ref (ad 1)] (PreG D kA (picC kA ad w) sz)) (va_Ql (fun (r : Int64) (_ : Unit) => r = v) (fun _ t => PosG D (va_A (picC kA ad w) sz) (picC kA ad w) t) (va_A (picC kA ad w) sz)) 0 0 (va_A (picC kA ad w) sz) := by
  refine metG (own := RX2) hst (by decide +kernel) rfl (Nat.le_of_ble_eq_true rfl) rfl ?_
  intro p e s m below meth c X hr hlk E _
  unfold f_X2_allRoads at hf
  refine x_aload_n X dX2_allRoads_0 0 rfl ?_
  refine x_get X E.1.1 (T := TX2) (C := RX2) inW2 1 rfl rfl 1 (by decide) w_83 rfl (v := .int (w.1 1 1)) rfl dX2_allRoads_1 ?_
  refine x_nmI hf (fun x1 hf => ?_)
  refine x_bipush X (v := 64) dX2_allRoads_4 (by decide) ?_
  refine x_icmp_lt X (tgt := 15) dX2_allRoads_6 (by decide) hf (fun hf => ?_) (fun hf => ?_)
  · refine x_aload_n X dX2_allRoads_15 0 rfl ?_
    refine x_get X E.1.1 (T := TX2) (C := RX2) inW2 1 rfl rfl 1 (by decide) w_83 rfl (v := .int (w.1 1 1)) rfl dX2_allRoads_16 ?_
    refine x_nmI hf (fun x2 hf => ?_)
    obtain ⟨x3, hx3, hf⟩ := bn_some hf
    refine x_callSN_l X (As := [.int x2]) (rest := []) (n := 1) (goodY w_433) w_432 w_47 (host := "RoadOracle") (E.1.2.1 _ (NWL_in 305 (by decide +kernel) rfl)) (met_X3_only l fu x2 x3 hx3) rfl rfl (by decide +kernel) ⟨by decide, by decide⟩ rfl rfl (Nat.le_of_ble_eq_true rfl) dX2_allRoads_19 ⟨by decide, by decide⟩ ?_
    refine x_lconst X (v := 1) dX2_allRoads_22 (by decide) ?_
    refine x_lsub X dX2_allRoads_23 ?_
    exact x_lret X hr hlk rfl (Option.some.inj hf) dX2_allRoads_24
  · refine x_ldc2 X (v := (-1)) w_553 dX2_allRoads_9 ?_
    refine x_goto X (tgt := 24) dX2_allRoads_12 (by decide) ?_
    exact x_lret X hr hlk rfl (Option.some.inj hf) dX2_allRoads_24
end
section
variable {p : Program} {l : Launch} {e : Env} {s : State} {m : MethodId} {args : Array Value} {below : List Frame} {meth : Method} {c : Code} {D : va_G} {kA : Nat → ClassId} {A : Nat → Prop} {Q : State → Prop} {ad al : Nat → Nat} {b L : Nat} {xs : Nat → Int32}
abbrev rm_X0_cheapest : Room := { frames := 1, cells := 0, slots := 0, locals := 22 }
set_option maxRecDepth 100000 in
set_option maxHeartbeats 4000000 in
theorem lp_X0_cheapest_9 (X : CX p m c cX0_cheapest 8 s args RX0) (E : EX l s D kA A) (fu : Nat) (w : WS) (y1 : Int64) : ∀ (n : Nat) (y3 : Int32) (y4 : Int32) (y5 : Int32) (r3 : Int32), iter (fun q => bd_X0_cheapest_9 fu w y1 q.1 q.2.1 q.2.2) n (y3, y4, y5) = some (r3) → CS p l e rm_X0_cheapest s m args below meth c D A 8 0 0 Q (picC kA ad w) 81 [(3, .int r3)] [] → CS p l e rm_X0_cheapest s m args below meth c D A 8 0 0 Q (picC kA ad w) 9 [(0, .ref (ad 2)), (1, .long y1), (3, .int y3), (4, .int y4), (5, .int y5)] [] := by
  intro n
  induction n with
  | zero =>
    intro y3 y4 y5 r3 hit kk
    exact (iter_0 hit).elim
  | succ n ih =>
    intro y3 y4 y5 r3 hit kk
    obtain ⟨o, h1, hit⟩ := iter_one hit
    have hf : bd_X0_cheapest_9 fu w y1 y3 y4 y5 = some o := h1
    unfold bd_X0_cheapest_9 at hf
    refine x_iload X dX0_cheapest_9 4 rfl ?_
    refine x_aload_n X dX0_cheapest_11 0 rfl ?_
    refine x_get X E.1.1 (T := TX0) (C := RX0) inW0 2 rfl rfl 2 (by decide) w_5026 rfl (v := .int (w.1 2 2)) rfl dX0_cheapest_12 ?_
    refine x_nmI hf (fun x1 hf => ?_)
    refine x_icmp_ge X (tgt := 81) dX0_cheapest_15 (by decide) hf (fun hf => ?_) (fun hf => ?_)
    · cases hf
      cases hit
      refine x_lpick (lv2 := [(3, .int y3)]) [2] rfl ?_
      exact kk
    · refine x_lload_n X dX0_cheapest_18 1 rfl ?_
      refine x_iload X dX0_cheapest_19 4 rfl ?_
      obtain ⟨x2, hx2, hf⟩ := bn_some hf
      refine x_callSN_i X (As := [.long y1, .int y5]) (rest := []) (n := 2) (goodY w_275) w_274 w_47 (host := "RoadOracle") (E.1.2.1 _ (NWL_in 313 (by decide +kernel) rfl)) (met_X3_has l fu y1 y5 x2 hx2) rfl rfl (by decide +kernel) ⟨by decide, by decide⟩ rfl rfl (Nat.le_of_ble_eq_true rfl) dX0_cheapest_21 ⟨by decide, by decide⟩ ?_
      refine x_if_eq X (tgt := 75) dX0_cheapest_24 (by decide) hf (fun hf => ?_) (fun hf => ?_)
      · refine x_iinc X dX0_cheapest_75 4 rfl (by decide) (y5 + 1) rfl hf (fun x3 => [(5, .int x3), (0, .ref (ad 2)), (1, .long y1), (3, .int y3), (4, .int y4)]) (fun _ => rfl) (fun x3 hf => ?_)
        refine x_goto X (tgt := 9) dX0_cheapest_78 (by decide) ?_
        cases hf
        refine x_lpick (lv2 := [(0, .ref (ad 2)), (1, .long y1), (3, .int y3), (4, .int y4), (5, .int x3)]) [1, 2, 3, 4, 0] rfl ?_
        exact ih _ _ _ _ hit kk
      · refine x_aload_n X dX0_cheapest_27 0 rfl ?_
        refine x_get X E.1.1 (T := TX0) (C := RX0) inW0 2 rfl rfl 8 (by decide) w_5034 rfl (v := .ref (ad 19)) rfl dX0_cheapest_28 ?_
        refine x_iload X dX0_cheapest_31 4 rfl ?_
        refine x_lald X E.1.1 19 rfl dX0_cheapest_33 hf (fun x4 hf => ?_)
        refine x_lload_n X dX0_cheapest_34 1 rfl ?_
        refine x_land X dX0_cheapest_35 ?_
        obtain ⟨x5, hx5, hf⟩ := bn_some hf
        refine x_callS_i X (As := [.long (x4 &&& y1)]) (rest := []) (n := 1) (goodS w_5148 w_593 w_60 w_594) (met_J13_bitCount_95d88 l fu (x4 &&& y1) x5 hx5) rfl rfl (by decide +kernel) ⟨by decide, by decide⟩ rfl rfl (Nat.le_of_ble_eq_true rfl) dX0_cheapest_36 ⟨by decide, by decide⟩ ?_
        refine x_istore X (lv2 := [(6, .int x5), (0, .ref (ad 2)), (1, .long y1), (3, .int y3), (4, .int y4), (5, .int y5)]) dX0_cheapest_39 (by decide) rfl ?_
        refine x_aload_n X dX0_cheapest_41 1 rfl ?_
        refine x_get X E.1.1 (T := TX0) (C := RX0) inW0 2 rfl rfl 7 (by decide) w_5032 rfl (v := .ref (ad 18)) rfl dX0_cheapest_42 ?_
        refine x_iload X dX0_cheapest_45 5 rfl ?_
        refine x_lald X E.1.1 18 rfl dX0_cheapest_47 hf (fun x6 hf => ?_)
        refine x_lload_n X dX0_cheapest_48 2 rfl ?_
        refine x_land X dX0_cheapest_49 ?_
        obtain ⟨x7, hx7, hf⟩ := bn_some hf
        refine x_callS_i X (As := [.long (x6 &&& y1)]) (rest := []) (n := 1) (goodS w_5148 w_593 w_60 w_594) (met_J13_bitCount_95d88 l fu (x6 &&& y1) x7 hx7) rfl rfl (by decide +kernel) ⟨by decide, by decide⟩ rfl rfl (Nat.le_of_ble_eq_true rfl) dX0_cheapest_50 ⟨by decide, by decide⟩ ?_
        refine x_istore X (lv2 := [(7, .int x7), (6, .int x5), (0, .ref (ad 2)), (1, .long y1), (3, .int y3), (4, .int y4), (5, .int y5)]) dX0_cheapest_53 (by decide) rfl ?_
        refine x_iload X dX0_cheapest_55 1 rfl ?_
        refine x_iload X dX0_cheapest_57 0 rfl ?_
        refine x_imul X dX0_cheapest_59 ?_
        refine x_iload X dX0_cheapest_60 5 rfl ?_
        refine x_icmp_ge X (tgt := 75) dX0_cheapest_62 (by decide) hf (fun hf => ?_) (fun hf => ?_)
        · refine x_iinc X dX0_cheapest_75 6 rfl (by decide) (y5 + 1) rfl hf (fun x8 => [(5, .int x8), (7, .int x7), (6, .int x5), (0, .ref (ad 2)), (1, .long y1), (3, .int y3), (4, .int y4)]) (fun _ => rfl) (fun x8 hf => ?_)
          refine x_goto X (tgt := 9) dX0_cheapest_78 (by decide) ?_
          cases hf
          refine x_lpick (lv2 := [(0, .ref (ad 2)), (1, .long y1), (3, .int y3), (4, .int y4), (5, .int x8)]) [3, 4, 5, 6, 0] rfl ?_
          exact ih _ _ _ _ hit kk
        · refine x_iload X dX0_cheapest_65 6 rfl ?_
          refine x_istore_n X (lv2 := [(3, .int y5), (7, .int x7), (6, .int x5), (0, .ref (ad 2)), (1, .long y1), (4, .int y4), (5, .int y5)]) dX0_cheapest_67 (by decide) rfl ?_
          refine x_iload X dX0_cheapest_68 2 rfl ?_
          refine x_iload X dX0_cheapest_70 1 rfl ?_
          refine x_imul X dX0_cheapest_72 ?_
          refine x_nmI hf (fun x9 hf => ?_)
          refine x_istore X (lv2 := [(4, .int x9), (3, .int y5), (7, .int x7), (6, .int x5), (0, .ref (ad 2)), (1, .long y1), (5, .int y5)]) dX0_cheapest_73 (by decide) rfl ?_
          refine x_iinc X dX0_cheapest_75 6 rfl (by decide) (y5 + 1) rfl hf (fun x10 => [(5, .int x10), (4, .int x9), (3, .int y5), (7, .int x7), (6, .int x5), (0, .ref (ad 2)), (1, .long y1)]) (fun _ => rfl) (fun x10 hf => ?_)
          refine x_goto X (tgt := 9) dX0_cheapest_78 (by decide) ?_
          cases hf
          refine x_lpick (lv2 := [(0, .ref (ad 2)), (1, .long y1), (3, .int y5), (4, .int x9), (5, .int x10)]) [5, 6, 2, 1, 0] rfl ?_
          exact ih _ _ _ _ hit kk
set_option maxRecDepth 100000 in
set_option maxHeartbeats 4000000 in
theorem met_X0_cheapest (l : Launch) (hst : l.stackTraces = false) (D : va_G) (kA : Nat → ClassId) (ad : Nat → Nat) (fu : Nat) (w : WS) (a1 : Int64) (v : Int32) (hf : f_X0_cheapest fu w a1 = some v) (sz : Nat) : Met l yX0_cheapest (wsY yX0_cheapest cX0_cheapest 8 (some .int)) rm_X0_cheapest (va_Pc [.ref (ad 2), .long a1] (PreG D kA (picC kA ad w) sz)) (va_Qi (fun (r : Int32) (_ : Unit) => r = v) (fun _ t => PosG D (va_A (picC kA ad w) sz) (picC kA ad w) t) (va_A (picC kA ad w) sz)) 0 0 (va_A (picC kA ad w) sz) := by
  refine metG (own := RX0) hst (by decide +kernel) rfl (Nat.le_of_ble_eq_true rfl) rfl ?_
  intro p e s m below meth c X hr hlk E _
  unfold f_X0_cheapest at hf
  refine x_iconst X (v := 0) dX0_cheapest_0 (by decide) ?_
  refine x_istore_n X (lv2 := [(3, .int 0), (0, .ref (ad 2)), (1, .long a1)]) dX0_cheapest_1 (by decide) rfl ?_
  refine x_ldc X (v := 536870912) w_5151 dX0_cheapest_2 ?_
  refine x_istore X (lv2 := [(4, .int 536870912), (3, .int 0), (0, .ref (ad 2)), (1, .long a1)]) dX0_cheapest_4 (by decide) rfl ?_
  refine x_iconst X (v := 0) dX0_cheapest_6 (by decide) ?_
  refine x_istore X (lv2 := [(5, .int 0), (4, .int 536870912), (3, .int 0), (0, .ref (ad 2)), (1, .long a1)]) dX0_cheapest_7 (by decide) rfl ?_
  refine x_lpick (lv2 := [(0, .ref (ad 2)), (1, .long a1), (3, .int 0), (4, .int 536870912), (5, .int 0)]) [3, 4, 2, 1, 0] rfl ?_
  obtain ⟨x1, h2, hf⟩ := bn_some hf
  refine lp_X0_cheapest_9 X E fu w a1 fu (0 : Int32) (536870912 : Int32) (0 : Int32) x1 h2 ?_
  refine x_iload_n X dX0_cheapest_81 0 rfl ?_
  exact x_iret X hr hlk rfl (Option.some.inj hf) dX0_cheapest_82
end
section
variable {p : Program} {l : Launch} {e : Env} {s : State} {m : MethodId} {args : Array Value} {below : List Frame} {meth : Method} {c : Code} {D : va_G} {kA : Nat → ClassId} {A : Nat → Prop} {Q : State → Prop} {ad al : Nat → Nat} {b L : Nat} {xs : Nat → Int32}
abbrev rm_X0_bridge : Room := { frames := 1, cells := 0, slots := 0, locals := 22 }
set_option maxRecDepth 100000 in
set_option maxHeartbeats 4000000 in
theorem lp_X0_bridge_3 (X : CX p m c cX0_bridge 6 s args RX0) (E : EX l s D kA A) (fu : Nat) (y1 : Int64) (y3 : Int64) : ∀ (n : Nat) (y5 : Int32) (w : WS) (rw : WS), iter (fun q => bd_X0_bridge_3 fu y1 y3 q.1 q.2) n (y5, w) = some (rw) → CS p l e rm_X0_bridge s m args below meth c D A 6 0 0 Q (picC kA ad rw) 78 [] [] → CS p l e rm_X0_bridge s m args below meth c D A 6 0 0 Q (picC kA ad w) 3 [(0, .ref (ad 2)), (1, .long y1), (3, .long y3), (5, .int y5)] [] := by
  intro n
  induction n with
  | zero =>
    intro y5 w rw hit kk
    exact (iter_0 hit).elim
  | succ n ih =>
    intro y5 w rw hit kk
    obtain ⟨o, h1, hit⟩ := iter_one hit
    have hf : bd_X0_bridge_3 fu y1 y3 y5 w = some o := h1
    unfold bd_X0_bridge_3 at hf
    refine x_iload X dX0_bridge_3 3 rfl ?_
    refine x_aload_n X dX0_bridge_5 0 rfl ?_
    refine x_get X E.1.1 (T := TX0) (C := RX0) inW0 2 rfl rfl 2 (by decide) w_5026 rfl (v := .int (w.1 2 2)) rfl dX0_bridge_6 ?_
    refine x_nmI hf (fun x1 hf => ?_)
    refine x_icmp_ge X (tgt := 78) dX0_bridge_9 (by decide) hf (fun hf => ?_) (fun hf => ?_)
    · cases hf
      cases hit
      refine x_lpick (lv2 := []) [] rfl ?_
      exact kk
    · refine x_lload_n X dX0_bridge_12 1 rfl ?_
      refine x_iload X dX0_bridge_13 3 rfl ?_
      obtain ⟨x2, hx2, hf⟩ := bn_some hf
      refine x_callSN_i X (As := [.long y1, .int y5]) (rest := []) (n := 2) (goodY w_275) w_274 w_47 (host := "RoadOracle") (E.1.2.1 _ (NWL_in 313 (by decide +kernel) rfl)) (met_X3_has l fu y1 y5 x2 hx2) rfl rfl (by decide +kernel) ⟨by decide, by decide⟩ rfl rfl (Nat.le_of_ble_eq_true rfl) dX0_bridge_15 ⟨by decide, by decide⟩ ?_
      refine x_if_eq X (tgt := 42) dX0_bridge_18 (by decide) hf (fun hf => ?_) (fun hf => ?_)
      · refine x_lload_n X dX0_bridge_42 2 rfl ?_
        refine x_iload X dX0_bridge_43 3 rfl ?_
        obtain ⟨x3, hx3, hf⟩ := bn_some hf
        refine x_callSN_i X (As := [.long y3, .int y5]) (rest := []) (n := 2) (goodY w_275) w_274 w_47 (host := "RoadOracle") (E.1.2.1 _ (NWL_in 313 (by decide +kernel) rfl)) (met_X3_has l fu y3 y5 x3 hx3) rfl rfl (by decide +kernel) ⟨by decide, by decide⟩ rfl rfl (Nat.le_of_ble_eq_true rfl) dX0_bridge_45 ⟨by decide, by decide⟩ ?_
        refine x_if_eq X (tgt := 72) dX0_bridge_48 (by decide) hf (fun hf => ?_) (fun hf => ?_)
        · refine x_iinc X dX0_bridge_72 3 rfl (by decide) (y5 + 1) rfl hf (fun x4 => [(5, .int x4), (0, .ref (ad 2)), (1, .long y1), (3, .long y3)]) (fun _ => rfl) (fun x4 hf => ?_)
          refine x_goto X (tgt := 3) dX0_bridge_75 (by decide) ?_
          cases hf
          refine x_lpick (lv2 := [(0, .ref (ad 2)), (1, .long y1), (3, .long y3), (5, .int x4)]) [1, 2, 3, 0] rfl ?_
          exact ih _ _ _ hit kk
        · refine x_aload_n X dX0_bridge_51 0 rfl ?_
          refine x_get X E.1.1 (T := TX0) (C := RX0) inW0 2 rfl rfl 8 (by decide) w_5034 rfl (v := .ref (ad 19)) rfl dX0_bridge_52 ?_
          refine x_iload X dX0_bridge_55 3 rfl ?_
          refine x_dup2 X dX0_bridge_57 rfl rfl ?_
          refine x_lald X E.1.1 19 rfl dX0_bridge_58 hf (fun x5 hf => ?_)
          refine x_lload_n X dX0_bridge_59 1 rfl ?_
          refine x_iload X dX0_bridge_60 3 rfl ?_
          obtain ⟨x6, hx6, hf⟩ := bn_some hf
          refine x_callSN_l X (As := [.int y5]) (rest := [.long y1, .long x5, .int y5, .ref (ad 19)]) (n := 1) (goodY w_433) w_432 w_47 (host := "RoadOracle") (E.1.2.1 _ (NWL_in 316 (by decide +kernel) rfl)) (met_X3_only l fu y5 x6 hx6) rfl rfl (by decide +kernel) ⟨by decide, by decide⟩ rfl rfl (Nat.le_of_ble_eq_true rfl) dX0_bridge_62 ⟨by decide, by decide⟩ ?_
          refine x_ldc2 X (v := (-1)) w_5152 dX0_bridge_65 ?_
          refine x_lxor X dX0_bridge_68 ?_
          refine x_land X dX0_bridge_69 ?_
          refine x_lor X dX0_bridge_70 ?_
          refine x_last X E.1.1 19 rfl dX0_bridge_71 hf (picC kA ad) (setC_19 kA ad _ _ _) (fun w7 hf => ?_)
          refine x_iinc X dX0_bridge_72 3 rfl (by decide) (y5 + 1) rfl hf (fun x8 => [(5, .int x8), (0, .ref (ad 2)), (1, .long y1), (3, .long y3)]) (fun _ => rfl) (fun x8 hf => ?_)
          refine x_goto X (tgt := 3) dX0_bridge_75 (by decide) ?_
          cases hf
          refine x_lpick (lv2 := [(0, .ref (ad 2)), (1, .long y1), (3, .long y3), (5, .int x8)]) [1, 2, 3, 0] rfl ?_
          exact ih _ _ _ hit kk
      · refine x_aload_n X dX0_bridge_21 0 rfl ?_
        refine x_get X E.1.1 (T := TX0) (C := RX0) inW0 2 rfl rfl 7 (by decide) w_5032 rfl (v := .ref (ad 18)) rfl dX0_bridge_22 ?_
        refine x_iload X dX0_bridge_25 3 rfl ?_
        refine x_dup2 X dX0_bridge_27 rfl rfl ?_
        refine x_lald X E.1.1 18 rfl dX0_bridge_28 hf (fun x9 hf => ?_)
        refine x_lload_n X dX0_bridge_29 2 rfl ?_
        refine x_iload X dX0_bridge_30 3 rfl ?_
        obtain ⟨x10, hx10, hf⟩ := bn_some hf
        refine x_callSN_l X (As := [.int y5]) (rest := [.long y3, .long x9, .int y5, .ref (ad 18)]) (n := 1) (goodY w_433) w_432 w_47 (host := "RoadOracle") (E.1.2.1 _ (NWL_in 316 (by decide +kernel) rfl)) (met_X3_only l fu y5 x10 hx10) rfl rfl (by decide +kernel) ⟨by decide, by decide⟩ rfl rfl (Nat.le_of_ble_eq_true rfl) dX0_bridge_32 ⟨by decide, by decide⟩ ?_
        refine x_ldc2 X (v := (-1)) w_5152 dX0_bridge_35 ?_
        refine x_lxor X dX0_bridge_38 ?_
        refine x_land X dX0_bridge_39 ?_
        refine x_lor X dX0_bridge_40 ?_
        refine x_last X E.1.1 18 rfl dX0_bridge_41 hf (picC kA ad) (setC_18 kA ad _ _ _) (fun w11 hf => ?_)
        refine x_lload_n X dX0_bridge_42 2 rfl ?_
        refine x_iload X dX0_bridge_43 3 rfl ?_
        obtain ⟨x12, hx12, hf⟩ := bn_some hf
        refine x_callSN_i X (As := [.long y3, .int y5]) (rest := []) (n := 2) (goodY w_275) w_274 w_47 (host := "RoadOracle") (E.1.2.1 _ (NWL_in 313 (by decide +kernel) rfl)) (met_X3_has l fu y3 y5 x12 hx12) rfl rfl (by decide +kernel) ⟨by decide, by decide⟩ rfl rfl (Nat.le_of_ble_eq_true rfl) dX0_bridge_45 ⟨by decide, by decide⟩ ?_
        refine x_if_eq X (tgt := 72) dX0_bridge_48 (by decide) hf (fun hf => ?_) (fun hf => ?_)
        · refine x_iinc X dX0_bridge_72 3 rfl (by decide) (y5 + 1) rfl hf (fun x13 => [(5, .int x13), (0, .ref (ad 2)), (1, .long y1), (3, .long y3)]) (fun _ => rfl) (fun x13 hf => ?_)
          refine x_goto X (tgt := 3) dX0_bridge_75 (by decide) ?_
          cases hf
          refine x_lpick (lv2 := [(0, .ref (ad 2)), (1, .long y1), (3, .long y3), (5, .int x13)]) [1, 2, 3, 0] rfl ?_
          exact ih _ _ _ hit kk
        · refine x_aload_n X dX0_bridge_51 0 rfl ?_
          refine x_get X E.1.1 (T := TX0) (C := RX0) inW0 2 rfl rfl 8 (by decide) w_5034 rfl (v := .ref (ad 19)) rfl dX0_bridge_52 ?_
          refine x_iload X dX0_bridge_55 3 rfl ?_
          refine x_dup2 X dX0_bridge_57 rfl rfl ?_
          refine x_lald X E.1.1 19 rfl dX0_bridge_58 hf (fun x14 hf => ?_)
          refine x_lload_n X dX0_bridge_59 1 rfl ?_
          refine x_iload X dX0_bridge_60 3 rfl ?_
          obtain ⟨x15, hx15, hf⟩ := bn_some hf
          refine x_callSN_l X (As := [.int y5]) (rest := [.long y1, .long x14, .int y5, .ref (ad 19)]) (n := 1) (goodY w_433) w_432 w_47 (host := "RoadOracle") (E.1.2.1 _ (NWL_in 316 (by decide +kernel) rfl)) (met_X3_only l fu y5 x15 hx15) rfl rfl (by decide +kernel) ⟨by decide, by decide⟩ rfl rfl (Nat.le_of_ble_eq_true rfl) dX0_bridge_62 ⟨by decide, by decide⟩ ?_
          refine x_ldc2 X (v := (-1)) w_5152 dX0_bridge_65 ?_
          refine x_lxor X dX0_bridge_68 ?_
          refine x_land X dX0_bridge_69 ?_
          refine x_lor X dX0_bridge_70 ?_
          refine x_last X E.1.1 19 rfl dX0_bridge_71 hf (picC kA ad) (setC_19 kA ad _ _ _) (fun w16 hf => ?_)
          refine x_iinc X dX0_bridge_72 3 rfl (by decide) (y5 + 1) rfl hf (fun x17 => [(5, .int x17), (0, .ref (ad 2)), (1, .long y1), (3, .long y3)]) (fun _ => rfl) (fun x17 hf => ?_)
          refine x_goto X (tgt := 3) dX0_bridge_75 (by decide) ?_
          cases hf
          refine x_lpick (lv2 := [(0, .ref (ad 2)), (1, .long y1), (3, .long y3), (5, .int x17)]) [1, 2, 3, 0] rfl ?_
          exact ih _ _ _ hit kk
set_option maxRecDepth 100000 in
set_option maxHeartbeats 4000000 in
theorem met_X0_bridge (l : Launch) (hst : l.stackTraces = false) (D : va_G) (kA : Nat → ClassId) (ad : Nat → Nat) (fu : Nat) (w : WS) (a1 : Int64) (a3 : Int64) (w1 : WS) (hf : f_X0_bridge fu w a1 a3 = some w1) (sz : Nat) : Met l yX0_bridge (wsY yX0_bridge cX0_bridge 6 none) rm_X0_bridge (va_Pc [.ref (ad 2), .long a1, .long a3] (PreG D kA (picC kA ad w) sz)) (va_Qv (fun (_ : Unit) => True) (fun _ t => PosG D (va_A (picC kA ad w) sz) (picC kA ad w1) t) (va_A (picC kA ad w) sz)) 0 0 (va_A (picC kA ad w) sz) := by
  refine metG (own := RX0) hst (by decide +kernel) rfl (Nat.le_of_ble_eq_true rfl) rfl ?_
  intro p e s m below meth c X hr hlk E _
  unfold f_X0_bridge at hf
  refine x_iconst X (v := 0) dX0_bridge_0 (by decide) ?_
  refine x_istore X (lv2 := [(5, .int 0), (0, .ref (ad 2)), (1, .long a1), (3, .long a3)]) dX0_bridge_1 (by decide) rfl ?_
  refine x_lpick (lv2 := [(0, .ref (ad 2)), (1, .long a1), (3, .long a3), (5, .int 0)]) [1, 2, 3, 0] rfl ?_
  obtain ⟨w1, h2, hf⟩ := bn_some hf
  refine lp_X0_bridge_3 X E fu a1 a3 fu (0 : Int32) w w1 h2 ?_
  cases hf
  exact x_vret X hr hlk rfl dX0_bridge_78
end
section
variable {p : Program} {l : Launch} {e : Env} {s : State} {m : MethodId} {args : Array Value} {below : List Frame} {meth : Method} {c : Code} {D : va_G} {kA : Nat → ClassId} {A : Nat → Prop} {Q : State → Prop} {ad al : Nat → Nat} {b L : Nat} {xs : Nat → Int32}
abbrev rm_X2_penaltyOf : Room := { frames := 1, cells := 0, slots := 0, locals := 21 }
set_option maxRecDepth 100000 in
set_option maxHeartbeats 4000000 in
theorem met_X2_penaltyOf (l : Launch) (hst : l.stackTraces = false) (D : va_G) (kA : Nat → ClassId) (ad : Nat → Nat) (fu : Nat) (w : WS) (a1 : Int32) (a2 : Int32) (v : Int32) (hf : f_X2_penaltyOf fu w a1 a2 = some v) (sz : Nat) : Met l yX2_penaltyOf (wsY yX2_penaltyOf cX2_penaltyOf 4 (some .int)) rm_X2_penaltyOf (va_Pc [.ref (ad 1), .int a1, .int a2] (PreG D kA (picC kA ad w) sz)) (va_Qi (fun (r : Int32) (_ : Unit) => r = v) (fun _ t => PosG D (va_A (picC kA ad w) sz) (picC kA ad w) t) (va_A (picC kA ad w) sz)) 0 0 (va_A (picC kA ad w) sz) := by
  refine metG (own := RX2) hst (by decide +kernel) rfl (Nat.le_of_ble_eq_true rfl) rfl ?_
  intro p e s m below meth c X hr hlk E _
  unfold f_X2_penaltyOf at hf
  refine x_aload_n X dX2_penaltyOf_0 0 rfl ?_
  refine x_get X E.1.1 (T := TX2) (C := RX2) inW2 1 rfl rfl 5 (by decide) w_94 rfl (v := .ref (ad 12)) rfl dX2_penaltyOf_1 ?_
  refine x_iload_n X dX2_penaltyOf_4 1 rfl ?_
  refine x_iload_n X dX2_penaltyOf_5 2 rfl ?_
  obtain ⟨x1, hx1, hf⟩ := bn_some hf
  refine x_callSN_i X (As := [.int a1, .int a2]) (rest := [.ref (ad 12)]) (n := 2) (goodY w_294) w_293 w_47 (host := "RoadOracle") (E.1.2.1 _ (NWL_in 339 (by decide +kernel) rfl)) (met_X3_pair l fu a1 a2 x1 hx1) rfl rfl (by decide +kernel) ⟨by decide, by decide⟩ rfl rfl (Nat.le_of_ble_eq_true rfl) dX2_penaltyOf_6 ⟨by decide, by decide⟩ ?_
  refine x_iald X E.1.1 12 rfl dX2_penaltyOf_9 hf (fun x2 hf => ?_)
  refine x_istore_n X (lv2 := [(3, .int x2), (0, .ref (ad 1)), (1, .int a1), (2, .int a2)]) dX2_penaltyOf_10 (by decide) rfl ?_
  refine x_iload_n X dX2_penaltyOf_11 0 rfl ?_
  refine x_bipush X (v := (-2)) dX2_penaltyOf_12 (by decide) ?_
  refine x_icmp_eq X (tgt := 19) dX2_penaltyOf_14 (by decide) hf (fun hf => ?_) (fun hf => ?_)
  · refine x_aload_n X dX2_penaltyOf_19 1 rfl ?_
    refine x_get X E.1.1 (T := TX2) (C := RX2) inW2 1 rfl rfl 3 (by decide) w_89 rfl (v := .ref (ad 10)) rfl dX2_penaltyOf_20 ?_
    refine x_iload_n X dX2_penaltyOf_23 3 rfl ?_
    refine x_iald X E.1.1 10 rfl dX2_penaltyOf_24 hf (fun x3 hf => ?_)
    refine x_aload_n X dX2_penaltyOf_25 1 rfl ?_
    refine x_get X E.1.1 (T := TX2) (C := RX2) inW2 1 rfl rfl 2 (by decide) w_87 rfl (v := .ref (ad 9)) rfl dX2_penaltyOf_26 ?_
    refine x_iload_n X dX2_penaltyOf_29 2 rfl ?_
    refine x_iald X E.1.1 9 rfl dX2_penaltyOf_30 hf (fun x4 hf => ?_)
    refine x_icmp_ne X (tgt := 41) dX2_penaltyOf_31 (by decide) hf (fun hf => ?_) (fun hf => ?_)
    · refine x_iconst X (v := 0) dX2_penaltyOf_41 (by decide) ?_
      exact x_iret X hr hlk rfl (Option.some.inj hf) dX2_penaltyOf_42
    · refine x_aload_n X dX2_penaltyOf_34 1 rfl ?_
      refine x_get X E.1.1 (T := TX2) (C := RX2) inW2 1 rfl rfl 9 (by decide) w_104 rfl (v := .int (w.1 1 9)) rfl dX2_penaltyOf_35 ?_
      refine x_nmI hf (fun x5 hf => ?_)
      refine x_goto X (tgt := 42) dX2_penaltyOf_38 (by decide) ?_
      exact x_iret X hr hlk rfl (Option.some.inj hf) dX2_penaltyOf_42
  · refine x_iload_n X dX2_penaltyOf_17 0 rfl ?_
    exact x_iret X hr hlk rfl (Option.some.inj hf) dX2_penaltyOf_18
end
section
variable {p : Program} {l : Launch} {e : Env} {s : State} {m : MethodId} {args : Array Value} {below : List Frame} {meth : Method} {c : Code} {D : va_G} {kA : Nat → ClassId} {A : Nat → Prop} {Q : State → Prop} {ad al : Nat → Nat} {b L : Nat} {xs : Nat → Int32}
abbrev rm_X2_roadLength : Room := { frames := 0, cells := 0, slots := 0, locals := 0 }
set_option maxRecDepth 100000 in
set_option maxHeartbeats 4000000 in
theorem met_X2_roadLength (l : Launch) (hst : l.stackTraces = false) (D : va_G) (kA : Nat → ClassId) (ad : Nat → Nat) (fu : Nat) (w : WS) (a1 : Int32) (v : Int32) (hf : f_X2_roadLength fu w a1 = some v) (sz : Nat) : Met l yX2_roadLength (wsY yX2_roadLength cX2_roadLength 2 (some .int)) rm_X2_roadLength (va_Pc [.ref (ad 1), .int a1] (PreG D kA (picC kA ad w) sz)) (va_Qi (fun (r : Int32) (_ : Unit) => r = v) (fun _ t => PosG D (va_A (picC kA ad w) sz) (picC kA ad w) t) (va_A (picC kA ad w) sz)) 0 0 (va_A (picC kA ad w) sz) := by
  refine metG (own := RX2) hst (by decide +kernel) rfl (Nat.le_of_ble_eq_true rfl) rfl ?_
  intro p e s m below meth c X hr hlk E _
  unfold f_X2_roadLength at hf
  refine x_aload_n X dX2_roadLength_0 0 rfl ?_
  refine x_get X E.1.1 (T := TX2) (C := RX2) inW2 1 rfl rfl 4 (by decide) w_91 rfl (v := .ref (ad 11)) rfl dX2_roadLength_1 ?_
  refine x_iload_n X dX2_roadLength_4 1 rfl ?_
  refine x_iald X E.1.1 11 rfl dX2_roadLength_5 hf (fun x1 hf => ?_)
  refine x_bipush X (v := 7) dX2_roadLength_6 (by decide) ?_
  refine x_ishl X dX2_roadLength_8 ?_
  refine x_iconst X (v := 1) dX2_roadLength_9 (by decide) ?_
  refine x_iadd X dX2_roadLength_10 ?_
  exact x_iret X hr hlk rfl (Option.some.inj hf) dX2_roadLength_11
end
section
variable {p : Program} {l : Launch} {e : Env} {s : State} {m : MethodId} {args : Array Value} {below : List Frame} {meth : Method} {c : Code} {D : va_G} {kA : Nat → ClassId} {A : Nat → Prop} {Q : State → Prop} {ad al : Nat → Nat} {b L : Nat} {xs : Nat → Int32}
abbrev rm_X2_stepLength : Room := { frames := 2, cells := 0, slots := 0, locals := 44 }
set_option maxRecDepth 100000 in
set_option maxHeartbeats 4000000 in
theorem met_X2_stepLength (l : Launch) (hst : l.stackTraces = false) (D : va_G) (kA : Nat → ClassId) (ad : Nat → Nat) (fu : Nat) (w : WS) (a1 : Int32) (a2 : Int32) (v : Int32) (hf : f_X2_stepLength fu w a1 a2 = some v) (sz : Nat) : Met l yX2_stepLength (wsY yX2_stepLength cX2_stepLength 4 (some .int)) rm_X2_stepLength (va_Pc [.ref (ad 1), .int a1, .int a2] (PreG D kA (picC kA ad w) sz)) (va_Qi (fun (r : Int32) (_ : Unit) => r = v) (fun _ t => PosG D (va_A (picC kA ad w) sz) (picC kA ad w) t) (va_A (picC kA ad w) sz)) 0 0 (va_A (picC kA ad w) sz) := by
  refine metG (own := RX2) hst (by decide +kernel) rfl (Nat.le_of_ble_eq_true rfl) rfl ?_
  intro p e s m below meth c X hr hlk E _
  unfold f_X2_stepLength at hf
  refine x_aload_n X dX2_stepLength_0 0 rfl ?_
  refine x_iload_n X dX2_stepLength_1 1 rfl ?_
  refine x_iload_n X dX2_stepLength_2 2 rfl ?_
  obtain ⟨x1, hx1, hf⟩ := bn_some hf
  refine x_callV_i X E (As := [.int a1, .int a2]) (rest := []) (n := 2) (ws2 := (picC kA ad w)) (goodV w_467 w_468 w_469 w_48 w_470) (met_X2_penaltyOf l E.2.2.2 D kA ad fu w a1 a2 x1 hx1) rfl rfl (by decide +kernel) ⟨by decide, by decide⟩ 1 rfl (qc := (RX2, TX2, _)) rfl rfl rfl rfl (Nat.le_of_ble_eq_true rfl) dX2_stepLength_3 ⟨by decide, by decide⟩ ?_
  refine x_istore_n X (lv2 := [(3, .int x1), (0, .ref (ad 1)), (1, .int a1), (2, .int a2)]) dX2_stepLength_6 (by decide) rfl ?_
  refine x_iload_n X dX2_stepLength_7 0 rfl ?_
  refine x_iconst X (v := (-1)) dX2_stepLength_8 (by decide) ?_
  refine x_icmp_eq X (tgt := 34) dX2_stepLength_9 (by decide) hf (fun hf => ?_) (fun hf => ?_)
  · refine x_ldc X (v := 536870912) w_473 dX2_stepLength_34 ?_
    exact x_iret X hr hlk rfl (Option.some.inj hf) dX2_stepLength_36
  · refine x_aload_n X dX2_stepLength_12 1 rfl ?_
    refine x_get X E.1.1 (T := TX2) (C := RX2) inW2 1 rfl rfl 8 (by decide) w_101 rfl (v := .long (w.2 1 8)) rfl dX2_stepLength_13 ?_
    refine x_nmL hf (fun x2 hf => ?_)
    refine x_iload_n X dX2_stepLength_16 2 rfl ?_
    obtain ⟨x3, hx3, hf⟩ := bn_some hf
    refine x_callSN_i X (As := [.long x2, .int a1]) (rest := []) (n := 2) (goodY w_275) w_274 w_47 (host := "RoadOracle") (E.1.2.1 _ (NWL_in 342 (by decide +kernel) rfl)) (met_X3_has l fu x2 a1 x3 hx3) rfl rfl (by decide +kernel) ⟨by decide, by decide⟩ rfl rfl (Nat.le_of_ble_eq_true rfl) dX2_stepLength_17 ⟨by decide, by decide⟩ ?_
    refine x_if_eq X (tgt := 34) dX2_stepLength_20 (by decide) hf (fun hf => ?_) (fun hf => ?_)
    · refine x_ldc X (v := 536870912) w_473 dX2_stepLength_34 ?_
      exact x_iret X hr hlk rfl (Option.some.inj hf) dX2_stepLength_36
    · refine x_aload_n X dX2_stepLength_23 1 rfl ?_
      refine x_get X E.1.1 (T := TX2) (C := RX2) inW2 1 rfl rfl 8 (by decide) w_101 rfl (v := .long (w.2 1 8)) rfl dX2_stepLength_24 ?_
      refine x_nmL hf (fun x4 hf => ?_)
      refine x_iload_n X dX2_stepLength_27 3 rfl ?_
      obtain ⟨x5, hx5, hf⟩ := bn_some hf
      refine x_callSN_i X (As := [.long x4, .int a2]) (rest := []) (n := 2) (goodY w_275) w_274 w_47 (host := "RoadOracle") (E.1.2.1 _ (NWL_in 342 (by decide +kernel) rfl)) (met_X3_has l fu x4 a2 x5 hx5) rfl rfl (by decide +kernel) ⟨by decide, by decide⟩ rfl rfl (Nat.le_of_ble_eq_true rfl) dX2_stepLength_28 ⟨by decide, by decide⟩ ?_
      refine x_if_ne X (tgt := 37) dX2_stepLength_31 (by decide) hf (fun hf => ?_) (fun hf => ?_)
      · refine x_iload_n X dX2_stepLength_37 0 rfl ?_
        refine x_bipush X (v := 7) dX2_stepLength_38 (by decide) ?_
        refine x_ishl X dX2_stepLength_40 ?_
        refine x_aload_n X dX2_stepLength_41 1 rfl ?_
        refine x_iload_n X dX2_stepLength_42 3 rfl ?_
        obtain ⟨x6, hx6, hf⟩ := bn_some hf
        refine x_callV_i X E (As := [.int a2]) (rest := [.int (x1 <<< ((7 : Int32) &&& 31))]) (n := 1) (ws2 := (picC kA ad w)) (goodV w_474 w_475 w_476 w_48 w_477) (met_X2_roadLength l E.2.2.2 D kA ad fu w a2 x6 hx6) rfl rfl (by decide +kernel) ⟨by decide, by decide⟩ 1 rfl (qc := (RX2, TX2, _)) rfl rfl rfl rfl (Nat.le_of_ble_eq_true rfl) dX2_stepLength_43 ⟨by decide, by decide⟩ ?_
        refine x_iadd X dX2_stepLength_46 ?_
        exact x_iret X hr hlk rfl (Option.some.inj hf) dX2_stepLength_47
      · refine x_ldc X (v := 536870912) w_473 dX2_stepLength_34 ?_
        exact x_iret X hr hlk rfl (Option.some.inj hf) dX2_stepLength_36
end
section
variable {p : Program} {l : Launch} {e : Env} {s : State} {m : MethodId} {args : Array Value} {below : List Frame} {meth : Method} {c : Code} {D : va_G} {kA : Nat → ClassId} {A : Nat → Prop} {Q : State → Prop} {ad al : Nat → Nat} {b L : Nat} {xs : Nat → Int32}
abbrev rm_X0_markArc : Room := { frames := 1, cells := 0, slots := 0, locals := 20 }
set_option maxRecDepth 100000 in
set_option maxHeartbeats 4000000 in
theorem met_X0_markArc (l : Launch) (hst : l.stackTraces = false) (D : va_G) (kA : Nat → ClassId) (ad : Nat → Nat) (fu : Nat) (w : WS) (a1 : Int32) (a2 : Int32) (w1 : WS) (hf : f_X0_markArc fu w a1 a2 = some w1) (sz : Nat) : Met l yX0_markArc (wsY yX0_markArc cX0_markArc 3 none) rm_X0_markArc (va_Pc [.ref (ad 2), .int a1, .int a2] (PreG D kA (picC kA ad w) sz)) (va_Qv (fun (_ : Unit) => True) (fun _ t => PosG D (va_A (picC kA ad w) sz) (picC kA ad w1) t) (va_A (picC kA ad w) sz)) 0 0 (va_A (picC kA ad w) sz) := by
  refine metG (own := RX0) hst (by decide +kernel) rfl (Nat.le_of_ble_eq_true rfl) rfl ?_
  intro p e s m below meth c X hr hlk E _
  unfold f_X0_markArc at hf
  refine x_aload_n X dX0_markArc_0 0 rfl ?_
  refine x_get X E.1.1 (T := TX0) (C := RX0) inW0 2 rfl rfl 5 (by decide) w_144 rfl (v := .ref (ad 15)) rfl dX0_markArc_1 ?_
  refine x_iload_n X dX0_markArc_4 1 rfl ?_
  refine x_iald X E.1.1 15 rfl dX0_markArc_5 hf (fun x1 hf => ?_)
  refine x_aload_n X dX0_markArc_6 0 rfl ?_
  refine x_get X E.1.1 (T := TX0) (C := RX0) inW0 2 rfl rfl 5 (by decide) w_144 rfl (v := .ref (ad 15)) rfl dX0_markArc_7 ?_
  refine x_iload_n X dX0_markArc_10 2 rfl ?_
  refine x_iald X E.1.1 15 rfl dX0_markArc_11 hf (fun x2 hf => ?_)
  refine x_icmp_ge X (tgt := 31) dX0_markArc_12 (by decide) hf (fun hf => ?_) (fun hf => ?_)
  · refine x_aload_n X dX0_markArc_31 0 rfl ?_
    refine x_get X E.1.1 (T := TX0) (C := RX0) inW0 2 rfl rfl 12 (by decide) w_5039 rfl (v := .ref (ad 23)) rfl dX0_markArc_32 ?_
    refine x_iload_n X dX0_markArc_35 2 rfl ?_
    refine x_dup2 X dX0_markArc_36 rfl rfl ?_
    refine x_lald X E.1.1 23 rfl dX0_markArc_37 hf (fun x3 hf => ?_)
    refine x_iload_n X dX0_markArc_38 1 rfl ?_
    obtain ⟨x4, hx4, hf⟩ := bn_some hf
    refine x_callSN_l X (As := [.int a1]) (rest := [.long x3, .int a2, .ref (ad 23)]) (n := 1) (goodY w_433) w_432 w_47 (host := "RoadOracle") (E.1.2.1 _ (NWL_in 316 (by decide +kernel) rfl)) (met_X3_only l fu a1 x4 hx4) rfl rfl (by decide +kernel) ⟨by decide, by decide⟩ rfl rfl (Nat.le_of_ble_eq_true rfl) dX0_markArc_39 ⟨by decide, by decide⟩ ?_
    refine x_lor X dX0_markArc_42 ?_
    refine x_last X E.1.1 23 rfl dX0_markArc_43 hf (picC kA ad) (setC_23 kA ad _ _ _) (fun w5 hf => ?_)
    cases hf
    exact x_vret X hr hlk rfl dX0_markArc_44
  · refine x_aload_n X dX0_markArc_15 0 rfl ?_
    refine x_get X E.1.1 (T := TX0) (C := RX0) inW0 2 rfl rfl 11 (by decide) w_5038 rfl (v := .ref (ad 22)) rfl dX0_markArc_16 ?_
    refine x_iload_n X dX0_markArc_19 1 rfl ?_
    refine x_dup2 X dX0_markArc_20 rfl rfl ?_
    refine x_lald X E.1.1 22 rfl dX0_markArc_21 hf (fun x6 hf => ?_)
    refine x_iload_n X dX0_markArc_22 2 rfl ?_
    obtain ⟨x7, hx7, hf⟩ := bn_some hf
    refine x_callSN_l X (As := [.int a2]) (rest := [.long x6, .int a1, .ref (ad 22)]) (n := 1) (goodY w_433) w_432 w_47 (host := "RoadOracle") (E.1.2.1 _ (NWL_in 316 (by decide +kernel) rfl)) (met_X3_only l fu a2 x7 hx7) rfl rfl (by decide +kernel) ⟨by decide, by decide⟩ rfl rfl (Nat.le_of_ble_eq_true rfl) dX0_markArc_23 ⟨by decide, by decide⟩ ?_
    refine x_lor X dX0_markArc_26 ?_
    refine x_last X E.1.1 22 rfl dX0_markArc_27 hf (picC kA ad) (setC_22 kA ad _ _ _) (fun w8 hf => ?_)
    refine x_goto X (tgt := 44) dX0_markArc_28 (by decide) ?_
    cases hf
    exact x_vret X hr hlk rfl dX0_markArc_44
end
section
variable {p : Program} {l : Launch} {e : Env} {s : State} {m : MethodId} {args : Array Value} {below : List Frame} {meth : Method} {c : Code} {D : va_G} {kA : Nat → ClassId} {A : Nat → Prop} {Q : State → Prop} {ad al : Nat → Nat} {b L : Nat} {xs : Nat → Int32}
abbrev rm_X0_renewStepsFrom : Room := { frames := 3, cells := 0, slots := 0, locals := 67 }
set_option maxRecDepth 100000 in
set_option maxHeartbeats 4000000 in
theorem lp_X0_renewStepsFrom_3 (X : CX p m c cX0_renewStepsFrom 6 s args RX0) (E : EX l s D kA A) (fu : Nat) (y1 : Int32) (y2 : Int64) : ∀ (n : Nat) (y4 : Int32) (w : WS) (rw : WS), iter (fun q => bd_X0_renewStepsFrom_3 fu y1 y2 q.1 q.2) n (y4, w) = some (rw) → CS p l e rm_X0_renewStepsFrom s m args below meth c D A 6 0 0 Q (picC kA ad rw) 75 [] [] → CS p l e rm_X0_renewStepsFrom s m args below meth c D A 6 0 0 Q (picC kA ad w) 3 [(0, .ref (ad 2)), (1, .int y1), (2, .long y2), (4, .int y4)] [] := by
  intro n
  induction n with
  | zero =>
    intro y4 w rw hit kk
    exact (iter_0 hit).elim
  | succ n ih =>
    intro y4 w rw hit kk
    obtain ⟨o, h1, hit⟩ := iter_one hit
    have hf : bd_X0_renewStepsFrom_3 fu y1 y2 y4 w = some o := h1
    unfold bd_X0_renewStepsFrom_3 at hf
    refine x_iload X dX0_renewStepsFrom_3 3 rfl ?_
    refine x_aload_n X dX0_renewStepsFrom_5 0 rfl ?_
    refine x_get X E.1.1 (T := TX0) (C := RX0) inW0 2 rfl rfl 2 (by decide) w_5026 rfl (v := .int (w.1 2 2)) rfl dX0_renewStepsFrom_6 ?_
    refine x_nmI hf (fun x1 hf => ?_)
    refine x_icmp_ge X (tgt := 75) dX0_renewStepsFrom_9 (by decide) hf (fun hf => ?_) (fun hf => ?_)
    · cases hf
      cases hit
      refine x_lpick (lv2 := []) [] rfl ?_
      exact kk
    · refine x_lload_n X dX0_renewStepsFrom_12 2 rfl ?_
      refine x_iload X dX0_renewStepsFrom_13 3 rfl ?_
      obtain ⟨x2, hx2, hf⟩ := bn_some hf
      refine x_callSN_i X (As := [.long y2, .int y4]) (rest := []) (n := 2) (goodY w_275) w_274 w_47 (host := "RoadOracle") (E.1.2.1 _ (NWL_in 313 (by decide +kernel) rfl)) (met_X3_has l fu y2 y4 x2 hx2) rfl rfl (by decide +kernel) ⟨by decide, by decide⟩ rfl rfl (Nat.le_of_ble_eq_true rfl) dX0_renewStepsFrom_15 ⟨by decide, by decide⟩ ?_
      refine x_if_eq X (tgt := 69) dX0_renewStepsFrom_18 (by decide) hf (fun hf => ?_) (fun hf => ?_)
      · refine x_iinc X dX0_renewStepsFrom_69 3 rfl (by decide) (y4 + 1) rfl hf (fun x3 => [(4, .int x3), (0, .ref (ad 2)), (1, .int y1), (2, .long y2)]) (fun _ => rfl) (fun x3 hf => ?_)
        refine x_goto X (tgt := 3) dX0_renewStepsFrom_72 (by decide) ?_
        cases hf
        refine x_lpick (lv2 := [(0, .ref (ad 2)), (1, .int y1), (2, .long y2), (4, .int x3)]) [1, 2, 3, 0] rfl ?_
        exact ih _ _ _ hit kk
      · refine x_aload_n X dX0_renewStepsFrom_21 0 rfl ?_
        refine x_get X E.1.1 (T := TX0) (C := RX0) inW0 2 rfl rfl 0 (by decide) w_136 rfl (v := .ref (ad 1)) rfl dX0_renewStepsFrom_22 ?_
        refine x_iload_n X dX0_renewStepsFrom_25 1 rfl ?_
        refine x_iload X dX0_renewStepsFrom_26 3 rfl ?_
        obtain ⟨x4, hx4, hf⟩ := bn_some hf
        refine x_callV_i X E (As := [.int y1, .int y4]) (rest := []) (n := 2) (ws2 := (picC kA ad w)) (goodV w_5124 w_464 w_465 w_48 w_466) (met_X2_stepLength l E.2.2.2 D kA ad fu w y1 y4 x4 hx4) rfl rfl (by decide +kernel) ⟨by decide, by decide⟩ 1 rfl (qc := (RX2, TX2, _)) rfl rfl rfl rfl (Nat.le_of_ble_eq_true rfl) dX0_renewStepsFrom_28 ⟨by decide, by decide⟩ ?_
        refine x_istore X (lv2 := [(5, .int x4), (0, .ref (ad 2)), (1, .int y1), (2, .long y2), (4, .int y4)]) dX0_renewStepsFrom_31 (by decide) rfl ?_
        refine x_iload X dX0_renewStepsFrom_33 0 rfl ?_
        refine x_aload_n X dX0_renewStepsFrom_35 1 rfl ?_
        refine x_get X E.1.1 (T := TX0) (C := RX0) inW0 2 rfl rfl 10 (by decide) w_5037 rfl (v := .ref (ad 21)) rfl dX0_renewStepsFrom_36 ?_
        refine x_iload_n X dX0_renewStepsFrom_39 2 rfl ?_
        refine x_iload X dX0_renewStepsFrom_40 4 rfl ?_
        obtain ⟨x5, hx5, hf⟩ := bn_some hf
        refine x_callSN_i X (As := [.int y1, .int y4]) (rest := [.ref (ad 21), .int x4]) (n := 2) (goodY w_294) w_293 w_47 (host := "RoadOracle") (E.1.2.1 _ (NWL_in 348 (by decide +kernel) rfl)) (met_X3_pair l fu y1 y4 x5 hx5) rfl rfl (by decide +kernel) ⟨by decide, by decide⟩ rfl rfl (Nat.le_of_ble_eq_true rfl) dX0_renewStepsFrom_42 ⟨by decide, by decide⟩ ?_
        refine x_iald X E.1.1 21 rfl dX0_renewStepsFrom_45 hf (fun x6 hf => ?_)
        refine x_icmp_eq X (tgt := 69) dX0_renewStepsFrom_46 (by decide) hf (fun hf => ?_) (fun hf => ?_)
        · refine x_iinc X dX0_renewStepsFrom_69 4 rfl (by decide) (y4 + 1) rfl hf (fun x7 => [(4, .int x7), (5, .int x4), (0, .ref (ad 2)), (1, .int y1), (2, .long y2)]) (fun _ => rfl) (fun x7 hf => ?_)
          refine x_goto X (tgt := 3) dX0_renewStepsFrom_72 (by decide) ?_
          cases hf
          refine x_lpick (lv2 := [(0, .ref (ad 2)), (1, .int y1), (2, .long y2), (4, .int x7)]) [2, 3, 4, 0] rfl ?_
          exact ih _ _ _ hit kk
        · refine x_aload_n X dX0_renewStepsFrom_49 1 rfl ?_
          refine x_get X E.1.1 (T := TX0) (C := RX0) inW0 2 rfl rfl 10 (by decide) w_5037 rfl (v := .ref (ad 21)) rfl dX0_renewStepsFrom_50 ?_
          refine x_iload_n X dX0_renewStepsFrom_53 2 rfl ?_
          refine x_iload X dX0_renewStepsFrom_54 4 rfl ?_
          obtain ⟨x8, hx8, hf⟩ := bn_some hf
          refine x_callSN_i X (As := [.int y1, .int y4]) (rest := [.ref (ad 21)]) (n := 2) (goodY w_294) w_293 w_47 (host := "RoadOracle") (E.1.2.1 _ (NWL_in 348 (by decide +kernel) rfl)) (met_X3_pair l fu y1 y4 x8 hx8) rfl rfl (by decide +kernel) ⟨by decide, by decide⟩ rfl rfl (Nat.le_of_ble_eq_true rfl) dX0_renewStepsFrom_56 ⟨by decide, by decide⟩ ?_
          refine x_iload X dX0_renewStepsFrom_59 0 rfl ?_
          refine x_iast X E.1.1 21 rfl dX0_renewStepsFrom_61 hf (picC kA ad) (setC_21 kA ad _ _ _) (fun w9 hf => ?_)
          refine x_aload_n X dX0_renewStepsFrom_62 1 rfl ?_
          refine x_iload_n X dX0_renewStepsFrom_63 2 rfl ?_
          refine x_iload X dX0_renewStepsFrom_64 4 rfl ?_
          obtain ⟨w10, hw10, hf⟩ := bn_some hf
          refine x_callV_v X E (As := [.int y1, .int y4]) (rest := []) (n := 2) (ws2 := (picC kA ad w10)) (goodV w_5125 w_5126 s_501 w_50 w_5127) (met_X0_markArc l E.2.2.2 D kA ad fu w9 y1 y4 w10 hw10) rfl rfl (by decide +kernel) ⟨by decide, by decide⟩ 2 rfl (qc := (RX0, TX0, _)) rfl rfl rfl rfl (Nat.le_of_ble_eq_true rfl) dX0_renewStepsFrom_66 ⟨by decide, by decide⟩ ?_
          refine x_iinc X dX0_renewStepsFrom_69 4 rfl (by decide) (y4 + 1) rfl hf (fun x11 => [(4, .int x11), (5, .int x4), (0, .ref (ad 2)), (1, .int y1), (2, .long y2)]) (fun _ => rfl) (fun x11 hf => ?_)
          refine x_goto X (tgt := 3) dX0_renewStepsFrom_72 (by decide) ?_
          cases hf
          refine x_lpick (lv2 := [(0, .ref (ad 2)), (1, .int y1), (2, .long y2), (4, .int x11)]) [2, 3, 4, 0] rfl ?_
          exact ih _ _ _ hit kk
set_option maxRecDepth 100000 in
set_option maxHeartbeats 4000000 in
theorem met_X0_renewStepsFrom (l : Launch) (hst : l.stackTraces = false) (D : va_G) (kA : Nat → ClassId) (ad : Nat → Nat) (fu : Nat) (w : WS) (a1 : Int32) (a2 : Int64) (w1 : WS) (hf : f_X0_renewStepsFrom fu w a1 a2 = some w1) (sz : Nat) : Met l yX0_renewStepsFrom (wsY yX0_renewStepsFrom cX0_renewStepsFrom 6 none) rm_X0_renewStepsFrom (va_Pc [.ref (ad 2), .int a1, .long a2] (PreG D kA (picC kA ad w) sz)) (va_Qv (fun (_ : Unit) => True) (fun _ t => PosG D (va_A (picC kA ad w) sz) (picC kA ad w1) t) (va_A (picC kA ad w) sz)) 0 0 (va_A (picC kA ad w) sz) := by
  refine metG (own := RX0) hst (by decide +kernel) rfl (Nat.le_of_ble_eq_true rfl) rfl ?_
  intro p e s m below meth c X hr hlk E _
  unfold f_X0_renewStepsFrom at hf
  refine x_iconst X (v := 0) dX0_renewStepsFrom_0 (by decide) ?_
  refine x_istore X (lv2 := [(4, .int 0), (0, .ref (ad 2)), (1, .int a1), (2, .long a2)]) dX0_renewStepsFrom_1 (by decide) rfl ?_
  refine x_lpick (lv2 := [(0, .ref (ad 2)), (1, .int a1), (2, .long a2), (4, .int 0)]) [1, 2, 3, 0] rfl ?_
  obtain ⟨w1, h2, hf⟩ := bn_some hf
  refine lp_X0_renewStepsFrom_3 X E fu a1 a2 fu (0 : Int32) w w1 h2 ?_
  cases hf
  exact x_vret X hr hlk rfl dX0_renewStepsFrom_75
end
section
variable {p : Program} {l : Launch} {e : Env} {s : State} {m : MethodId} {args : Array Value} {below : List Frame} {meth : Method} {c : Code} {D : va_G} {kA : Nat → ClassId} {A : Nat → Prop} {Q : State → Prop} {ad al : Nat → Nat} {b L : Nat} {xs : Nat → Int32}
abbrev rm_X0_renewSteps : Room := { frames := 4, cells := 0, slots := 0, locals := 92 }
set_option maxRecDepth 100000 in
set_option maxHeartbeats 4000000 in
theorem lp_X0_renewSteps_3 (X : CX p m c cX0_renewSteps 6 s args RX0) (E : EX l s D kA A) (fu : Nat) (y1 : Int64) (y3 : Int64) : ∀ (n : Nat) (y5 : Int32) (w : WS) (rw : WS), iter (fun q => bd_X0_renewSteps_3 fu y1 y3 q.1 q.2) n (y5, w) = some (rw) → CS p l e rm_X0_renewSteps s m args below meth c D A 6 0 0 Q (picC kA ad rw) 44 [] [] → CS p l e rm_X0_renewSteps s m args below meth c D A 6 0 0 Q (picC kA ad w) 3 [(0, .ref (ad 2)), (1, .long y1), (3, .long y3), (5, .int y5)] [] := by
  intro n
  induction n with
  | zero =>
    intro y5 w rw hit kk
    exact (iter_0 hit).elim
  | succ n ih =>
    intro y5 w rw hit kk
    obtain ⟨o, h1, hit⟩ := iter_one hit
    have hf : bd_X0_renewSteps_3 fu y1 y3 y5 w = some o := h1
    unfold bd_X0_renewSteps_3 at hf
    refine x_iload X dX0_renewSteps_3 3 rfl ?_
    refine x_aload_n X dX0_renewSteps_5 0 rfl ?_
    refine x_get X E.1.1 (T := TX0) (C := RX0) inW0 2 rfl rfl 2 (by decide) w_5026 rfl (v := .int (w.1 2 2)) rfl dX0_renewSteps_6 ?_
    refine x_nmI hf (fun x1 hf => ?_)
    refine x_icmp_ge X (tgt := 44) dX0_renewSteps_9 (by decide) hf (fun hf => ?_) (fun hf => ?_)
    · cases hf
      cases hit
      refine x_lpick (lv2 := []) [] rfl ?_
      exact kk
    · refine x_lload_n X dX0_renewSteps_12 1 rfl ?_
      refine x_iload X dX0_renewSteps_13 3 rfl ?_
      obtain ⟨x2, hx2, hf⟩ := bn_some hf
      refine x_callSN_i X (As := [.long y1, .int y5]) (rest := []) (n := 2) (goodY w_275) w_274 w_47 (host := "RoadOracle") (E.1.2.1 _ (NWL_in 313 (by decide +kernel) rfl)) (met_X3_has l fu y1 y5 x2 hx2) rfl rfl (by decide +kernel) ⟨by decide, by decide⟩ rfl rfl (Nat.le_of_ble_eq_true rfl) dX0_renewSteps_15 ⟨by decide, by decide⟩ ?_
      refine x_if_eq X (tgt := 38) dX0_renewSteps_18 (by decide) hf (fun hf => ?_) (fun hf => ?_)
      · refine x_iinc X dX0_renewSteps_38 3 rfl (by decide) (y5 + 1) rfl hf (fun x3 => [(5, .int x3), (0, .ref (ad 2)), (1, .long y1), (3, .long y3)]) (fun _ => rfl) (fun x3 hf => ?_)
        refine x_goto X (tgt := 3) dX0_renewSteps_41 (by decide) ?_
        cases hf
        refine x_lpick (lv2 := [(0, .ref (ad 2)), (1, .long y1), (3, .long y3), (5, .int x3)]) [1, 2, 3, 0] rfl ?_
        exact ih _ _ _ hit kk
      · refine x_aload_n X dX0_renewSteps_21 0 rfl ?_
        refine x_iload X dX0_renewSteps_22 3 rfl ?_
        refine x_aload_n X dX0_renewSteps_24 0 rfl ?_
        refine x_get X E.1.1 (T := TX0) (C := RX0) inW0 2 rfl rfl 0 (by decide) w_136 rfl (v := .ref (ad 1)) rfl dX0_renewSteps_25 ?_
        refine x_iload X dX0_renewSteps_28 3 rfl ?_
        obtain ⟨x4, hx4, hf⟩ := bn_some hf
        refine x_callV_l X E (As := [.int y5]) (rest := [.int y5, .ref (ad 2)]) (n := 1) (ws2 := (picC kA ad w)) (goodV w_459 w_460 w_461 w_48 w_462) (met_X2_followersOf l E.2.2.2 D kA ad fu w y5 x4 hx4) rfl rfl (by decide +kernel) ⟨by decide, by decide⟩ 1 rfl (qc := (RX2, TX2, _)) rfl rfl rfl rfl (Nat.le_of_ble_eq_true rfl) dX0_renewSteps_30 ⟨by decide, by decide⟩ ?_
        refine x_lload_n X dX0_renewSteps_33 2 rfl ?_
        refine x_land X dX0_renewSteps_34 ?_
        obtain ⟨w5, hw5, hf⟩ := bn_some hf
        refine x_callV_v X E (As := [.int y5, .long (x4 &&& y3)]) (rest := []) (n := 2) (ws2 := (picC kA ad w5)) (goodV w_5121 w_5122 s_500 w_50 w_5123) (met_X0_renewStepsFrom l E.2.2.2 D kA ad fu w y5 (x4 &&& y3) w5 hw5) rfl rfl (by decide +kernel) ⟨by decide, by decide⟩ 2 rfl (qc := (RX0, TX0, _)) rfl rfl rfl rfl (Nat.le_of_ble_eq_true rfl) dX0_renewSteps_35 ⟨by decide, by decide⟩ ?_
        refine x_iinc X dX0_renewSteps_38 3 rfl (by decide) (y5 + 1) rfl hf (fun x6 => [(5, .int x6), (0, .ref (ad 2)), (1, .long y1), (3, .long y3)]) (fun _ => rfl) (fun x6 hf => ?_)
        refine x_goto X (tgt := 3) dX0_renewSteps_41 (by decide) ?_
        cases hf
        refine x_lpick (lv2 := [(0, .ref (ad 2)), (1, .long y1), (3, .long y3), (5, .int x6)]) [1, 2, 3, 0] rfl ?_
        exact ih _ _ _ hit kk
set_option maxRecDepth 100000 in
set_option maxHeartbeats 4000000 in
theorem met_X0_renewSteps (l : Launch) (hst : l.stackTraces = false) (D : va_G) (kA : Nat → ClassId) (ad : Nat → Nat) (fu : Nat) (w : WS) (a1 : Int64) (a3 : Int64) (w1 : WS) (hf : f_X0_renewSteps fu w a1 a3 = some w1) (sz : Nat) : Met l yX0_renewSteps (wsY yX0_renewSteps cX0_renewSteps 6 none) rm_X0_renewSteps (va_Pc [.ref (ad 2), .long a1, .long a3] (PreG D kA (picC kA ad w) sz)) (va_Qv (fun (_ : Unit) => True) (fun _ t => PosG D (va_A (picC kA ad w) sz) (picC kA ad w1) t) (va_A (picC kA ad w) sz)) 0 0 (va_A (picC kA ad w) sz) := by
  refine metG (own := RX0) hst (by decide +kernel) rfl (Nat.le_of_ble_eq_true rfl) rfl ?_
  intro p e s m below meth c X hr hlk E _
  unfold f_X0_renewSteps at hf
  refine x_iconst X (v := 0) dX0_renewSteps_0 (by decide) ?_
  refine x_istore X (lv2 := [(5, .int 0), (0, .ref (ad 2)), (1, .long a1), (3, .long a3)]) dX0_renewSteps_1 (by decide) rfl ?_
  refine x_lpick (lv2 := [(0, .ref (ad 2)), (1, .long a1), (3, .long a3), (5, .int 0)]) [1, 2, 3, 0] rfl ?_
  obtain ⟨w1, h2, hf⟩ := bn_some hf
  refine lp_X0_renewSteps_3 X E fu a1 a3 fu (0 : Int32) w w1 h2 ?_
  cases hf
  exact x_vret X hr hlk rfl dX0_renewSteps_44
end
section
variable {p : Program} {l : Launch} {e : Env} {s : State} {m : MethodId} {args : Array Value} {below : List Frame} {meth : Method} {c : Code} {D : va_G} {kA : Nat → ClassId} {A : Nat → Prop} {Q : State → Prop} {ad al : Nat → Nat} {b L : Nat} {xs : Nat → Int32}
abbrev rm_X0_computeArc : Room := { frames := 1, cells := 0, slots := 0, locals := 22 }
set_option maxRecDepth 100000 in
set_option maxHeartbeats 4000000 in
theorem lp_X0_computeArc_46 (X : CX p m c cX0_computeArc 10 s args RX0) (E : EX l s D kA A) (fu : Nat) (w : WS) (y1 : Int32) (y2 : Int32) (y4 : Int64) (y6 : Int32) : ∀ (n : Nat) (y3 : Int32) (y7 : Int32) (r3 : Int32), iter (fun q => bd_X0_computeArc_46 fu w y1 y2 y4 y6 q.1 q.2) n (y3, y7) = some (r3) → CS p l e rm_X0_computeArc s m args below meth c D A 10 0 0 Q (picC kA ad w) 110 [(3, .int r3)] [] → CS p l e rm_X0_computeArc s m args below meth c D A 10 0 0 Q (picC kA ad w) 46 [(0, .ref (ad 2)), (1, .int y1), (2, .int y2), (3, .int y3), (4, .long y4), (6, .int y6), (7, .int y7)] [] := by
  intro n
  induction n with
  | zero =>
    intro y3 y7 r3 hit kk
    exact (iter_0 hit).elim
  | succ n ih =>
    intro y3 y7 r3 hit kk
    obtain ⟨o, h1, hit⟩ := iter_one hit
    have hf : bd_X0_computeArc_46 fu w y1 y2 y4 y6 y3 y7 = some o := h1
    unfold bd_X0_computeArc_46 at hf
    refine x_iload X dX0_computeArc_46 6 rfl ?_
    refine x_iload X dX0_computeArc_48 5 rfl ?_
    refine x_icmp_ge X (tgt := 110) dX0_computeArc_50 (by decide) hf (fun hf => ?_) (fun hf => ?_)
    · cases hf
      cases hit
      refine x_lpick (lv2 := [(3, .int y3)]) [3] rfl ?_
      exact kk
    · refine x_aload_n X dX0_computeArc_53 0 rfl ?_
      refine x_get X E.1.1 (T := TX0) (C := RX0) inW0 2 rfl rfl 6 (by decide) w_146 rfl (v := .ref (ad 16)) rfl dX0_computeArc_54 ?_
      refine x_iload X dX0_computeArc_57 6 rfl ?_
      refine x_iald X E.1.1 16 rfl dX0_computeArc_59 hf (fun x1 hf => ?_)
      refine x_istore X (lv2 := [(8, .int x1), (0, .ref (ad 2)), (1, .int y1), (2, .int y2), (3, .int y3), (4, .long y4), (6, .int y6), (7, .int y7)]) dX0_computeArc_60 (by decide) rfl ?_
      refine x_lload X dX0_computeArc_62 5 rfl ?_
      refine x_iload X dX0_computeArc_64 0 rfl ?_
      obtain ⟨x2, hx2, hf⟩ := bn_some hf
      refine x_callSN_i X (As := [.long y4, .int x1]) (rest := []) (n := 2) (goodY w_275) w_274 w_47 (host := "RoadOracle") (E.1.2.1 _ (NWL_in 313 (by decide +kernel) rfl)) (met_X3_has l fu y4 x1 x2 hx2) rfl rfl (by decide +kernel) ⟨by decide, by decide⟩ rfl rfl (Nat.le_of_ble_eq_true rfl) dX0_computeArc_66 ⟨by decide, by decide⟩ ?_
      refine x_if_eq X (tgt := 104) dX0_computeArc_69 (by decide) hf (fun hf => ?_) (fun hf => ?_)
      · refine x_iinc X dX0_computeArc_104 7 rfl (by decide) (y7 + 1) rfl hf (fun x3 => [(7, .int x3), (8, .int x1), (0, .ref (ad 2)), (1, .int y1), (2, .int y2), (3, .int y3), (4, .long y4), (6, .int y6)]) (fun _ => rfl) (fun x3 hf => ?_)
        refine x_goto X (tgt := 46) dX0_computeArc_107 (by decide) ?_
        cases hf
        refine x_lpick (lv2 := [(0, .ref (ad 2)), (1, .int y1), (2, .int y2), (3, .int y3), (4, .long y4), (6, .int y6), (7, .int x3)]) [2, 3, 4, 5, 6, 7, 0] rfl ?_
        exact ih _ _ _ hit kk
      · refine x_aload_n X dX0_computeArc_72 1 rfl ?_
        refine x_get X E.1.1 (T := TX0) (C := RX0) inW0 2 rfl rfl 9 (by decide) w_5035 rfl (v := .ref (ad 20)) rfl dX0_computeArc_73 ?_
        refine x_iload_n X dX0_computeArc_76 2 rfl ?_
        refine x_iload X dX0_computeArc_77 0 rfl ?_
        obtain ⟨x4, hx4, hf⟩ := bn_some hf
        refine x_callSN_i X (As := [.int y1, .int x1]) (rest := [.ref (ad 20)]) (n := 2) (goodY w_294) w_293 w_47 (host := "RoadOracle") (E.1.2.1 _ (NWL_in 348 (by decide +kernel) rfl)) (met_X3_pair l fu y1 x1 x4 hx4) rfl rfl (by decide +kernel) ⟨by decide, by decide⟩ rfl rfl (Nat.le_of_ble_eq_true rfl) dX0_computeArc_79 ⟨by decide, by decide⟩ ?_
        refine x_iald X E.1.1 20 rfl dX0_computeArc_82 hf (fun x5 hf => ?_)
        refine x_aload_n X dX0_computeArc_83 1 rfl ?_
        refine x_get X E.1.1 (T := TX0) (C := RX0) inW0 2 rfl rfl 9 (by decide) w_5035 rfl (v := .ref (ad 20)) rfl dX0_computeArc_84 ?_
        refine x_iload X dX0_computeArc_87 0 rfl ?_
        refine x_iload_n X dX0_computeArc_89 3 rfl ?_
        obtain ⟨x6, hx6, hf⟩ := bn_some hf
        refine x_callSN_i X (As := [.int x1, .int y2]) (rest := [.ref (ad 20), .int x5]) (n := 2) (goodY w_294) w_293 w_47 (host := "RoadOracle") (E.1.2.1 _ (NWL_in 348 (by decide +kernel) rfl)) (met_X3_pair l fu x1 y2 x6 hx6) rfl rfl (by decide +kernel) ⟨by decide, by decide⟩ rfl rfl (Nat.le_of_ble_eq_true rfl) dX0_computeArc_90 ⟨by decide, by decide⟩ ?_
        refine x_iald X E.1.1 20 rfl dX0_computeArc_93 hf (fun x7 hf => ?_)
        refine x_iadd X dX0_computeArc_94 ?_
        refine x_nmI hf (fun x8 hf => ?_)
        refine x_istore X (lv2 := [(9, .int x8), (8, .int x1), (0, .ref (ad 2)), (1, .int y1), (2, .int y2), (3, .int y3), (4, .long y4), (6, .int y6), (7, .int y7)]) dX0_computeArc_95 (by decide) rfl ?_
        refine x_iload_n X dX0_computeArc_97 5 rfl ?_
        refine x_iload X dX0_computeArc_98 0 rfl ?_
        refine x_mmin X w_5133 w_496 w_62 w_497 (by decide) (Nat.le_of_ble_eq_true rfl) (by decide) (by decide) dX0_computeArc_100 ?_
        refine x_nmI hf (fun x9 hf => ?_)
        refine x_istore_n X (lv2 := [(3, .int x9), (9, .int x8), (8, .int x1), (0, .ref (ad 2)), (1, .int y1), (2, .int y2), (4, .long y4), (6, .int y6), (7, .int y7)]) dX0_computeArc_103 (by decide) rfl ?_
        refine x_iinc X dX0_computeArc_104 8 rfl (by decide) (y7 + 1) rfl hf (fun x10 => [(7, .int x10), (3, .int x9), (9, .int x8), (8, .int x1), (0, .ref (ad 2)), (1, .int y1), (2, .int y2), (4, .long y4), (6, .int y6)]) (fun _ => rfl) (fun x10 hf => ?_)
        refine x_goto X (tgt := 46) dX0_computeArc_107 (by decide) ?_
        cases hf
        refine x_lpick (lv2 := [(0, .ref (ad 2)), (1, .int y1), (2, .int y2), (3, .int x9), (4, .long y4), (6, .int y6), (7, .int x10)]) [4, 5, 6, 1, 7, 8, 0] rfl ?_
        exact ih _ _ _ hit kk
set_option maxRecDepth 100000 in
set_option maxHeartbeats 4000000 in
theorem met_X0_computeArc (l : Launch) (hst : l.stackTraces = false) (D : va_G) (kA : Nat → ClassId) (ad : Nat → Nat) (fu : Nat) (w : WS) (a1 : Int32) (a2 : Int32) (v : Int32) (hf : f_X0_computeArc fu w a1 a2 = some v) (sz : Nat) : Met l yX0_computeArc (wsY yX0_computeArc cX0_computeArc 10 (some .int)) rm_X0_computeArc (va_Pc [.ref (ad 2), .int a1, .int a2] (PreG D kA (picC kA ad w) sz)) (va_Qi (fun (r : Int32) (_ : Unit) => r = v) (fun _ t => PosG D (va_A (picC kA ad w) sz) (picC kA ad w) t) (va_A (picC kA ad w) sz)) 0 0 (va_A (picC kA ad w) sz) := by
  refine metG (own := RX0) hst (by decide +kernel) rfl (Nat.le_of_ble_eq_true rfl) rfl ?_
  intro p e s m below meth c X hr hlk E _
  unfold f_X0_computeArc at hf
  refine x_aload_n X dX0_computeArc_0 0 rfl ?_
  refine x_get X E.1.1 (T := TX0) (C := RX0) inW0 2 rfl rfl 10 (by decide) w_5037 rfl (v := .ref (ad 21)) rfl dX0_computeArc_1 ?_
  refine x_iload_n X dX0_computeArc_4 1 rfl ?_
  refine x_iload_n X dX0_computeArc_5 2 rfl ?_
  obtain ⟨x1, hx1, hf⟩ := bn_some hf
  refine x_callSN_i X (As := [.int a1, .int a2]) (rest := [.ref (ad 21)]) (n := 2) (goodY w_294) w_293 w_47 (host := "RoadOracle") (E.1.2.1 _ (NWL_in 348 (by decide +kernel) rfl)) (met_X3_pair l fu a1 a2 x1 hx1) rfl rfl (by decide +kernel) ⟨by decide, by decide⟩ rfl rfl (Nat.le_of_ble_eq_true rfl) dX0_computeArc_6 ⟨by decide, by decide⟩ ?_
  refine x_iald X E.1.1 21 rfl dX0_computeArc_9 hf (fun x2 hf => ?_)
  refine x_istore_n X (lv2 := [(3, .int x2), (0, .ref (ad 2)), (1, .int a1), (2, .int a2)]) dX0_computeArc_10 (by decide) rfl ?_
  refine x_aload_n X dX0_computeArc_11 1 rfl ?_
  refine x_get X E.1.1 (T := TX0) (C := RX0) inW0 2 rfl rfl 7 (by decide) w_5032 rfl (v := .ref (ad 18)) rfl dX0_computeArc_12 ?_
  refine x_iload_n X dX0_computeArc_15 2 rfl ?_
  refine x_lald X E.1.1 18 rfl dX0_computeArc_16 hf (fun x3 hf => ?_)
  refine x_aload_n X dX0_computeArc_17 1 rfl ?_
  refine x_get X E.1.1 (T := TX0) (C := RX0) inW0 2 rfl rfl 8 (by decide) w_5034 rfl (v := .ref (ad 19)) rfl dX0_computeArc_18 ?_
  refine x_iload_n X dX0_computeArc_21 3 rfl ?_
  refine x_lald X E.1.1 19 rfl dX0_computeArc_22 hf (fun x4 hf => ?_)
  refine x_land X dX0_computeArc_23 ?_
  refine x_nmL hf (fun x5 hf => ?_)
  refine x_lstore X (lv2 := [(4, .long x5), (3, .int x2), (0, .ref (ad 2)), (1, .int a1), (2, .int a2)]) dX0_computeArc_24 (by decide) rfl ?_
  refine x_aload_n X dX0_computeArc_26 2 rfl ?_
  refine x_get X E.1.1 (T := TX0) (C := RX0) inW0 2 rfl rfl 5 (by decide) w_144 rfl (v := .ref (ad 15)) rfl dX0_computeArc_27 ?_
  refine x_iload_n X dX0_computeArc_30 3 rfl ?_
  refine x_iald X E.1.1 15 rfl dX0_computeArc_31 hf (fun x6 hf => ?_)
  refine x_aload_n X dX0_computeArc_32 2 rfl ?_
  refine x_get X E.1.1 (T := TX0) (C := RX0) inW0 2 rfl rfl 5 (by decide) w_144 rfl (v := .ref (ad 15)) rfl dX0_computeArc_33 ?_
  refine x_iload_n X dX0_computeArc_36 4 rfl ?_
  refine x_iald X E.1.1 15 rfl dX0_computeArc_37 hf (fun x7 hf => ?_)
  refine x_mmin X w_5133 w_496 w_62 w_497 (by decide) (Nat.le_of_ble_eq_true rfl) (by decide) (by decide) dX0_computeArc_38 ?_
  refine x_nmI hf (fun x8 hf => ?_)
  refine x_istore X (lv2 := [(6, .int x8), (4, .long x5), (3, .int x2), (0, .ref (ad 2)), (1, .int a1), (2, .int a2)]) dX0_computeArc_41 (by decide) rfl ?_
  refine x_iconst X (v := 0) dX0_computeArc_43 (by decide) ?_
  refine x_istore X (lv2 := [(7, .int 0), (6, .int x8), (4, .long x5), (3, .int x2), (0, .ref (ad 2)), (1, .int a1), (2, .int a2)]) dX0_computeArc_44 (by decide) rfl ?_
  refine x_lpick (lv2 := [(0, .ref (ad 2)), (1, .int a1), (2, .int a2), (3, .int x2), (4, .long x5), (6, .int x8), (7, .int 0)]) [4, 5, 6, 3, 2, 1, 0] rfl ?_
  obtain ⟨x9, h10, hf⟩ := bn_some hf
  refine lp_X0_computeArc_46 X E fu w a1 a2 x5 x8 fu x2 (0 : Int32) x9 h10 ?_
  refine x_iload_n X dX0_computeArc_110 0 rfl ?_
  exact x_iret X hr hlk rfl (Option.some.inj hf) dX0_computeArc_111
end
section
variable {p : Program} {l : Launch} {e : Env} {s : State} {m : MethodId} {args : Array Value} {below : List Frame} {meth : Method} {c : Code} {D : va_G} {kA : Nat → ClassId} {A : Nat → Prop} {Q : State → Prop} {ad al : Nat → Nat} {b L : Nat} {xs : Nat → Int32}
abbrev rm_X0_markAbove : Room := { frames := 2, cells := 0, slots := 0, locals := 42 }
set_option maxRecDepth 100000 in
set_option maxHeartbeats 4000000 in
theorem lp_X0_markAbove_85 (X : CX p m c cX0_markAbove 5 s args RX0) (E : EX l s D kA A) (fu : Nat) (y1 : Int32) (y2 : Int32) : ∀ (n : Nat) (y3 : Int32) (w : WS) (rw : WS), iter (fun q => bd_X0_markAbove_85 fu y1 y2 q.1 q.2) n (y3, w) = some (rw) → CS p l e rm_X0_markAbove s m args below meth c D A 5 0 0 Q (picC kA ad rw) 134 [] [] → CS p l e rm_X0_markAbove s m args below meth c D A 5 0 0 Q (picC kA ad w) 85 [(0, .ref (ad 2)), (1, .int y1), (2, .int y2), (3, .int y3)] [] := by
  intro n
  induction n with
  | zero =>
    intro y3 w rw hit kk
    exact (iter_0 hit).elim
  | succ n ih =>
    intro y3 w rw hit kk
    obtain ⟨o, h1, hit⟩ := iter_one hit
    have hf : bd_X0_markAbove_85 fu y1 y2 y3 w = some o := h1
    unfold bd_X0_markAbove_85 at hf
    refine x_iload_n X dX0_markAbove_85 3 rfl ?_
    refine x_aload_n X dX0_markAbove_86 0 rfl ?_
    refine x_get X E.1.1 (T := TX0) (C := RX0) inW0 2 rfl rfl 2 (by decide) w_5026 rfl (v := .int (w.1 2 2)) rfl dX0_markAbove_87 ?_
    refine x_nmI hf (fun x1 hf => ?_)
    refine x_icmp_ge X (tgt := 134) dX0_markAbove_90 (by decide) hf (fun hf => ?_) (fun hf => ?_)
    · cases hf
      cases hit
      refine x_lpick (lv2 := []) [] rfl ?_
      exact kk
    · refine x_aload_n X dX0_markAbove_93 0 rfl ?_
      refine x_get X E.1.1 (T := TX0) (C := RX0) inW0 2 rfl rfl 6 (by decide) w_146 rfl (v := .ref (ad 16)) rfl dX0_markAbove_94 ?_
      refine x_iload_n X dX0_markAbove_97 3 rfl ?_
      refine x_iald X E.1.1 16 rfl dX0_markAbove_98 hf (fun x2 hf => ?_)
      refine x_istore X (lv2 := [(4, .int x2), (0, .ref (ad 2)), (1, .int y1), (2, .int y2), (3, .int y3)]) dX0_markAbove_99 (by decide) rfl ?_
      refine x_iload X dX0_markAbove_101 0 rfl ?_
      refine x_iload_n X dX0_markAbove_103 2 rfl ?_
      refine x_icmp_eq X (tgt := 128) dX0_markAbove_104 (by decide) hf (fun hf => ?_) (fun hf => ?_)
      · refine x_iinc X dX0_markAbove_128 4 rfl (by decide) (y3 + 1) rfl hf (fun x3 => [(3, .int x3), (4, .int x2), (0, .ref (ad 2)), (1, .int y1), (2, .int y2)]) (fun _ => rfl) (fun x3 hf => ?_)
        refine x_goto X (tgt := 85) dX0_markAbove_131 (by decide) ?_
        cases hf
        refine x_lpick (lv2 := [(0, .ref (ad 2)), (1, .int y1), (2, .int y2), (3, .int x3)]) [2, 3, 4, 0] rfl ?_
        exact ih _ _ _ hit kk
      · refine x_aload_n X dX0_markAbove_107 1 rfl ?_
        refine x_get X E.1.1 (T := TX0) (C := RX0) inW0 2 rfl rfl 7 (by decide) w_5032 rfl (v := .ref (ad 18)) rfl dX0_markAbove_108 ?_
        refine x_iload_n X dX0_markAbove_111 3 rfl ?_
        refine x_lald X E.1.1 18 rfl dX0_markAbove_112 hf (fun x4 hf => ?_)
        refine x_iload X dX0_markAbove_113 0 rfl ?_
        obtain ⟨x5, hx5, hf⟩ := bn_some hf
        refine x_callSN_i X (As := [.long x4, .int x2]) (rest := []) (n := 2) (goodY w_275) w_274 w_47 (host := "RoadOracle") (E.1.2.1 _ (NWL_in 313 (by decide +kernel) rfl)) (met_X3_has l fu x4 x2 x5 hx5) rfl rfl (by decide +kernel) ⟨by decide, by decide⟩ rfl rfl (Nat.le_of_ble_eq_true rfl) dX0_markAbove_115 ⟨by decide, by decide⟩ ?_
        refine x_if_eq X (tgt := 128) dX0_markAbove_118 (by decide) hf (fun hf => ?_) (fun hf => ?_)
        · refine x_iinc X dX0_markAbove_128 4 rfl (by decide) (y3 + 1) rfl hf (fun x6 => [(3, .int x6), (4, .int x2), (0, .ref (ad 2)), (1, .int y1), (2, .int y2)]) (fun _ => rfl) (fun x6 hf => ?_)
          refine x_goto X (tgt := 85) dX0_markAbove_131 (by decide) ?_
          cases hf
          refine x_lpick (lv2 := [(0, .ref (ad 2)), (1, .int y1), (2, .int y2), (3, .int x6)]) [2, 3, 4, 0] rfl ?_
          exact ih _ _ _ hit kk
        · refine x_aload_n X dX0_markAbove_121 1 rfl ?_
          refine x_iload_n X dX0_markAbove_122 2 rfl ?_
          refine x_iload X dX0_markAbove_123 0 rfl ?_
          obtain ⟨w7, hw7, hf⟩ := bn_some hf
          refine x_callV_v X E (As := [.int y1, .int x2]) (rest := []) (n := 2) (ws2 := (picC kA ad w7)) (goodV w_5125 w_5126 s_501 w_50 w_5127) (met_X0_markArc l E.2.2.2 D kA ad fu w y1 x2 w7 hw7) rfl rfl (by decide +kernel) ⟨by decide, by decide⟩ 2 rfl (qc := (RX0, TX0, _)) rfl rfl rfl rfl (Nat.le_of_ble_eq_true rfl) dX0_markAbove_125 ⟨by decide, by decide⟩ ?_
          refine x_iinc X dX0_markAbove_128 4 rfl (by decide) (y3 + 1) rfl hf (fun x8 => [(3, .int x8), (4, .int x2), (0, .ref (ad 2)), (1, .int y1), (2, .int y2)]) (fun _ => rfl) (fun x8 hf => ?_)
          refine x_goto X (tgt := 85) dX0_markAbove_131 (by decide) ?_
          cases hf
          refine x_lpick (lv2 := [(0, .ref (ad 2)), (1, .int y1), (2, .int y2), (3, .int x8)]) [2, 3, 4, 0] rfl ?_
          exact ih _ _ _ hit kk
set_option maxRecDepth 100000 in
set_option maxHeartbeats 4000000 in
theorem lp_X0_markAbove_24 (X : CX p m c cX0_markAbove 5 s args RX0) (E : EX l s D kA A) (fu : Nat) (y1 : Int32) (y2 : Int32) : ∀ (n : Nat) (y3 : Int32) (w : WS) (rw : WS), iter (fun q => bd_X0_markAbove_24 fu y1 y2 q.1 q.2) n (y3, w) = some (rw) → CS p l e rm_X0_markAbove s m args below meth c D A 5 0 0 Q (picC kA ad rw) 73 [] [] → CS p l e rm_X0_markAbove s m args below meth c D A 5 0 0 Q (picC kA ad w) 24 [(0, .ref (ad 2)), (1, .int y1), (2, .int y2), (3, .int y3)] [] := by
  intro n
  induction n with
  | zero =>
    intro y3 w rw hit kk
    exact (iter_0 hit).elim
  | succ n ih =>
    intro y3 w rw hit kk
    obtain ⟨o, h1, hit⟩ := iter_one hit
    have hf : bd_X0_markAbove_24 fu y1 y2 y3 w = some o := h1
    unfold bd_X0_markAbove_24 at hf
    refine x_iload_n X dX0_markAbove_24 3 rfl ?_
    refine x_aload_n X dX0_markAbove_25 0 rfl ?_
    refine x_get X E.1.1 (T := TX0) (C := RX0) inW0 2 rfl rfl 2 (by decide) w_5026 rfl (v := .int (w.1 2 2)) rfl dX0_markAbove_26 ?_
    refine x_nmI hf (fun x1 hf => ?_)
    refine x_icmp_ge X (tgt := 73) dX0_markAbove_29 (by decide) hf (fun hf => ?_) (fun hf => ?_)
    · cases hf
      cases hit
      refine x_lpick (lv2 := []) [] rfl ?_
      exact kk
    · refine x_aload_n X dX0_markAbove_32 0 rfl ?_
      refine x_get X E.1.1 (T := TX0) (C := RX0) inW0 2 rfl rfl 6 (by decide) w_146 rfl (v := .ref (ad 16)) rfl dX0_markAbove_33 ?_
      refine x_iload_n X dX0_markAbove_36 3 rfl ?_
      refine x_iald X E.1.1 16 rfl dX0_markAbove_37 hf (fun x2 hf => ?_)
      refine x_istore X (lv2 := [(4, .int x2), (0, .ref (ad 2)), (1, .int y1), (2, .int y2), (3, .int y3)]) dX0_markAbove_38 (by decide) rfl ?_
      refine x_iload X dX0_markAbove_40 0 rfl ?_
      refine x_iload_n X dX0_markAbove_42 3 rfl ?_
      refine x_icmp_eq X (tgt := 67) dX0_markAbove_43 (by decide) hf (fun hf => ?_) (fun hf => ?_)
      · refine x_iinc X dX0_markAbove_67 4 rfl (by decide) (y3 + 1) rfl hf (fun x3 => [(3, .int x3), (4, .int x2), (0, .ref (ad 2)), (1, .int y1), (2, .int y2)]) (fun _ => rfl) (fun x3 hf => ?_)
        refine x_goto X (tgt := 24) dX0_markAbove_70 (by decide) ?_
        cases hf
        refine x_lpick (lv2 := [(0, .ref (ad 2)), (1, .int y1), (2, .int y2), (3, .int x3)]) [2, 3, 4, 0] rfl ?_
        exact ih _ _ _ hit kk
      · refine x_aload_n X dX0_markAbove_46 1 rfl ?_
        refine x_get X E.1.1 (T := TX0) (C := RX0) inW0 2 rfl rfl 8 (by decide) w_5034 rfl (v := .ref (ad 19)) rfl dX0_markAbove_47 ?_
        refine x_iload_n X dX0_markAbove_50 2 rfl ?_
        refine x_lald X E.1.1 19 rfl dX0_markAbove_51 hf (fun x4 hf => ?_)
        refine x_iload X dX0_markAbove_52 0 rfl ?_
        obtain ⟨x5, hx5, hf⟩ := bn_some hf
        refine x_callSN_i X (As := [.long x4, .int x2]) (rest := []) (n := 2) (goodY w_275) w_274 w_47 (host := "RoadOracle") (E.1.2.1 _ (NWL_in 313 (by decide +kernel) rfl)) (met_X3_has l fu x4 x2 x5 hx5) rfl rfl (by decide +kernel) ⟨by decide, by decide⟩ rfl rfl (Nat.le_of_ble_eq_true rfl) dX0_markAbove_54 ⟨by decide, by decide⟩ ?_
        refine x_if_eq X (tgt := 67) dX0_markAbove_57 (by decide) hf (fun hf => ?_) (fun hf => ?_)
        · refine x_iinc X dX0_markAbove_67 4 rfl (by decide) (y3 + 1) rfl hf (fun x6 => [(3, .int x6), (4, .int x2), (0, .ref (ad 2)), (1, .int y1), (2, .int y2)]) (fun _ => rfl) (fun x6 hf => ?_)
          refine x_goto X (tgt := 24) dX0_markAbove_70 (by decide) ?_
          cases hf
          refine x_lpick (lv2 := [(0, .ref (ad 2)), (1, .int y1), (2, .int y2), (3, .int x6)]) [2, 3, 4, 0] rfl ?_
          exact ih _ _ _ hit kk
        · refine x_aload_n X dX0_markAbove_60 1 rfl ?_
          refine x_iload X dX0_markAbove_61 0 rfl ?_
          refine x_iload_n X dX0_markAbove_63 3 rfl ?_
          obtain ⟨w7, hw7, hf⟩ := bn_some hf
          refine x_callV_v X E (As := [.int x2, .int y2]) (rest := []) (n := 2) (ws2 := (picC kA ad w7)) (goodV w_5125 w_5126 s_501 w_50 w_5127) (met_X0_markArc l E.2.2.2 D kA ad fu w x2 y2 w7 hw7) rfl rfl (by decide +kernel) ⟨by decide, by decide⟩ 2 rfl (qc := (RX0, TX0, _)) rfl rfl rfl rfl (Nat.le_of_ble_eq_true rfl) dX0_markAbove_64 ⟨by decide, by decide⟩ ?_
          refine x_iinc X dX0_markAbove_67 4 rfl (by decide) (y3 + 1) rfl hf (fun x8 => [(3, .int x8), (4, .int x2), (0, .ref (ad 2)), (1, .int y1), (2, .int y2)]) (fun _ => rfl) (fun x8 hf => ?_)
          refine x_goto X (tgt := 24) dX0_markAbove_70 (by decide) ?_
          cases hf
          refine x_lpick (lv2 := [(0, .ref (ad 2)), (1, .int y1), (2, .int y2), (3, .int x8)]) [2, 3, 4, 0] rfl ?_
          exact ih _ _ _ hit kk
set_option maxRecDepth 100000 in
set_option maxHeartbeats 4000000 in
theorem met_X0_markAbove (l : Launch) (hst : l.stackTraces = false) (D : va_G) (kA : Nat → ClassId) (ad : Nat → Nat) (fu : Nat) (w : WS) (a1 : Int32) (a2 : Int32) (w1 : WS) (hf : f_X0_markAbove fu w a1 a2 = some w1) (sz : Nat) : Met l yX0_markAbove (wsY yX0_markAbove cX0_markAbove 5 none) rm_X0_markAbove (va_Pc [.ref (ad 2), .int a1, .int a2] (PreG D kA (picC kA ad w) sz)) (va_Qv (fun (_ : Unit) => True) (fun _ t => PosG D (va_A (picC kA ad w) sz) (picC kA ad w1) t) (va_A (picC kA ad w) sz)) 0 0 (va_A (picC kA ad w) sz) := by
  refine metG (own := RX0) hst (by decide +kernel) rfl (Nat.le_of_ble_eq_true rfl) rfl ?_
  intro p e s m below meth c X hr hlk E _
  unfold f_X0_markAbove at hf
  refine x_aload_n X dX0_markAbove_0 0 rfl ?_
  refine x_get X E.1.1 (T := TX0) (C := RX0) inW0 2 rfl rfl 5 (by decide) w_144 rfl (v := .ref (ad 15)) rfl dX0_markAbove_1 ?_
  refine x_iload_n X dX0_markAbove_4 1 rfl ?_
  refine x_iald X E.1.1 15 rfl dX0_markAbove_5 hf (fun x1 hf => ?_)
  refine x_aload_n X dX0_markAbove_6 0 rfl ?_
  refine x_get X E.1.1 (T := TX0) (C := RX0) inW0 2 rfl rfl 5 (by decide) w_144 rfl (v := .ref (ad 15)) rfl dX0_markAbove_7 ?_
  refine x_iload_n X dX0_markAbove_10 2 rfl ?_
  refine x_iald X E.1.1 15 rfl dX0_markAbove_11 hf (fun x2 hf => ?_)
  refine x_icmp_ge X (tgt := 76) dX0_markAbove_12 (by decide) hf (fun hf => ?_) (fun hf => ?_)
  · refine x_aload_n X dX0_markAbove_76 0 rfl ?_
    refine x_get X E.1.1 (T := TX0) (C := RX0) inW0 2 rfl rfl 5 (by decide) w_144 rfl (v := .ref (ad 15)) rfl dX0_markAbove_77 ?_
    refine x_iload_n X dX0_markAbove_80 2 rfl ?_
    refine x_iald X E.1.1 15 rfl dX0_markAbove_81 hf (fun x3 hf => ?_)
    refine x_iconst X (v := 1) dX0_markAbove_82 (by decide) ?_
    refine x_iadd X dX0_markAbove_83 ?_
    refine x_nmI hf (fun x4 hf => ?_)
    refine x_istore_n X (lv2 := [(3, .int x4), (0, .ref (ad 2)), (1, .int a1), (2, .int a2)]) dX0_markAbove_84 (by decide) rfl ?_
    refine x_lpick (lv2 := [(0, .ref (ad 2)), (1, .int a1), (2, .int a2), (3, .int x4)]) [1, 2, 3, 0] rfl ?_
    obtain ⟨w5, h6, hf⟩ := bn_some hf
    refine lp_X0_markAbove_85 X E fu a1 a2 fu x4 w w5 h6 ?_
    cases hf
    exact x_vret X hr hlk rfl dX0_markAbove_134
  · refine x_aload_n X dX0_markAbove_15 0 rfl ?_
    refine x_get X E.1.1 (T := TX0) (C := RX0) inW0 2 rfl rfl 5 (by decide) w_144 rfl (v := .ref (ad 15)) rfl dX0_markAbove_16 ?_
    refine x_iload_n X dX0_markAbove_19 1 rfl ?_
    refine x_iald X E.1.1 15 rfl dX0_markAbove_20 hf (fun x7 hf => ?_)
    refine x_iconst X (v := 1) dX0_markAbove_21 (by decide) ?_
    refine x_iadd X dX0_markAbove_22 ?_
    refine x_nmI hf (fun x8 hf => ?_)
    refine x_istore_n X (lv2 := [(3, .int x8), (0, .ref (ad 2)), (1, .int a1), (2, .int a2)]) dX0_markAbove_23 (by decide) rfl ?_
    refine x_lpick (lv2 := [(0, .ref (ad 2)), (1, .int a1), (2, .int a2), (3, .int x8)]) [1, 2, 3, 0] rfl ?_
    obtain ⟨w9, h10, hf⟩ := bn_some hf
    refine lp_X0_markAbove_24 X E fu a1 a2 fu x8 w w9 h10 ?_
    refine x_goto X (tgt := 134) dX0_markAbove_73 (by decide) ?_
    cases hf
    exact x_vret X hr hlk rfl dX0_markAbove_134
end
section
variable {p : Program} {l : Launch} {e : Env} {s : State} {m : MethodId} {args : Array Value} {below : List Frame} {meth : Method} {c : Code} {D : va_G} {kA : Nat → ClassId} {A : Nat → Prop} {Q : State → Prop} {ad al : Nat → Nat} {b L : Nat} {xs : Nat → Int32}
abbrev rm_X0_settleArc : Room := { frames := 3, cells := 0, slots := 0, locals := 66 }
set_option maxRecDepth 100000 in
set_option maxHeartbeats 4000000 in
theorem met_X0_settleArc (l : Launch) (hst : l.stackTraces = false) (D : va_G) (kA : Nat → ClassId) (ad : Nat → Nat) (fu : Nat) (w : WS) (a1 : Int32) (a2 : Int32) (v : Int32) (w1 : WS) (hf : f_X0_settleArc fu w a1 a2 = some (v, w1)) (sz : Nat) : Met l yX0_settleArc (wsY yX0_settleArc cX0_settleArc 5 (some .int)) rm_X0_settleArc (va_Pc [.ref (ad 2), .int a1, .int a2] (PreG D kA (picC kA ad w) sz)) (va_Qi (fun (r : Int32) (_ : Unit) => r = v) (fun _ t => PosG D (va_A (picC kA ad w) sz) (picC kA ad w1) t) (va_A (picC kA ad w) sz)) 0 0 (va_A (picC kA ad w) sz) := by
  refine metG (own := RX0) hst (by decide +kernel) rfl (Nat.le_of_ble_eq_true rfl) rfl ?_
  intro p e s m below meth c X hr hlk E _
  unfold f_X0_settleArc at hf
  refine x_aload_n X dX0_settleArc_0 0 rfl ?_
  refine x_get X E.1.1 (T := TX0) (C := RX0) inW0 2 rfl rfl 9 (by decide) w_5035 rfl (v := .ref (ad 20)) rfl dX0_settleArc_1 ?_
  refine x_iload_n X dX0_settleArc_4 1 rfl ?_
  refine x_iload_n X dX0_settleArc_5 2 rfl ?_
  obtain ⟨x1, hx1, hf⟩ := bn_some hf
  refine x_callSN_i X (As := [.int a1, .int a2]) (rest := [.ref (ad 20)]) (n := 2) (goodY w_294) w_293 w_47 (host := "RoadOracle") (E.1.2.1 _ (NWL_in 348 (by decide +kernel) rfl)) (met_X3_pair l fu a1 a2 x1 hx1) rfl rfl (by decide +kernel) ⟨by decide, by decide⟩ rfl rfl (Nat.le_of_ble_eq_true rfl) dX0_settleArc_6 ⟨by decide, by decide⟩ ?_
  refine x_iald X E.1.1 20 rfl dX0_settleArc_9 hf (fun x2 hf => ?_)
  refine x_istore_n X (lv2 := [(3, .int x2), (0, .ref (ad 2)), (1, .int a1), (2, .int a2)]) dX0_settleArc_10 (by decide) rfl ?_
  refine x_aload_n X dX0_settleArc_11 1 rfl ?_
  refine x_iload_n X dX0_settleArc_12 2 rfl ?_
  refine x_iload_n X dX0_settleArc_13 3 rfl ?_
  obtain ⟨x3, hx3, hf⟩ := bn_some hf
  refine x_callV_i X E (As := [.int a1, .int a2]) (rest := []) (n := 2) (ws2 := (picC kA ad w)) (goodV w_5131 w_493 s_8 w_50 w_5132) (met_X0_computeArc l E.2.2.2 D kA ad fu w a1 a2 x3 hx3) rfl rfl (by decide +kernel) ⟨by decide, by decide⟩ 2 rfl (qc := (RX0, TX0, _)) rfl rfl rfl rfl (Nat.le_of_ble_eq_true rfl) dX0_settleArc_14 ⟨by decide, by decide⟩ ?_
  refine x_istore X (lv2 := [(4, .int x3), (3, .int x2), (0, .ref (ad 2)), (1, .int a1), (2, .int a2)]) dX0_settleArc_17 (by decide) rfl ?_
  refine x_iload X dX0_settleArc_19 0 rfl ?_
  refine x_iload_n X dX0_settleArc_21 1 rfl ?_
  refine x_icmp_eq X (tgt := 43) dX0_settleArc_22 (by decide) hf (fun hf => ?_) (fun hf => ?_)
  · refine x_iload X dX0_settleArc_43 0 rfl ?_
    obtain ⟨x4, hx4, hf⟩ := bn_some hf
    refine x_callSN_i X (As := [.int x3]) (rest := []) (n := 1) (goodY w_297) w_296 w_47 (host := "RoadOracle") (E.1.2.1 _ (NWL_in 372 (by decide +kernel) rfl)) (met_X3_costOf l fu x3 x4 hx4) rfl rfl (by decide +kernel) ⟨by decide, by decide⟩ rfl rfl (Nat.le_of_ble_eq_true rfl) dX0_settleArc_45 ⟨by decide, by decide⟩ ?_
    refine x_iload_n X dX0_settleArc_48 1 rfl ?_
    obtain ⟨x5, hx5, hf⟩ := bn_some hf
    refine x_callSN_i X (As := [.int x2]) (rest := [.int x4]) (n := 1) (goodY w_297) w_296 w_47 (host := "RoadOracle") (E.1.2.1 _ (NWL_in 372 (by decide +kernel) rfl)) (met_X3_costOf l fu x2 x5 hx5) rfl rfl (by decide +kernel) ⟨by decide, by decide⟩ rfl rfl (Nat.le_of_ble_eq_true rfl) dX0_settleArc_49 ⟨by decide, by decide⟩ ?_
    refine x_icmp_ne X (tgt := 59) dX0_settleArc_52 (by decide) hf (fun hf => ?_) (fun hf => ?_)
    · refine x_iconst X (v := 1) dX0_settleArc_59 (by decide) ?_
      cases hf
      exact x_iret X hr hlk rfl rfl dX0_settleArc_60
    · refine x_iconst X (v := 0) dX0_settleArc_55 (by decide) ?_
      refine x_goto X (tgt := 60) dX0_settleArc_56 (by decide) ?_
      cases hf
      exact x_iret X hr hlk rfl rfl dX0_settleArc_60
  · refine x_aload_n X dX0_settleArc_25 2 rfl ?_
    refine x_get X E.1.1 (T := TX0) (C := RX0) inW0 2 rfl rfl 9 (by decide) w_5035 rfl (v := .ref (ad 20)) rfl dX0_settleArc_26 ?_
    refine x_iload_n X dX0_settleArc_29 3 rfl ?_
    refine x_iload_n X dX0_settleArc_30 4 rfl ?_
    obtain ⟨x6, hx6, hf⟩ := bn_some hf
    refine x_callSN_i X (As := [.int a1, .int a2]) (rest := [.ref (ad 20)]) (n := 2) (goodY w_294) w_293 w_47 (host := "RoadOracle") (E.1.2.1 _ (NWL_in 348 (by decide +kernel) rfl)) (met_X3_pair l fu a1 a2 x6 hx6) rfl rfl (by decide +kernel) ⟨by decide, by decide⟩ rfl rfl (Nat.le_of_ble_eq_true rfl) dX0_settleArc_31 ⟨by decide, by decide⟩ ?_
    refine x_iload X dX0_settleArc_34 0 rfl ?_
    refine x_iast X E.1.1 20 rfl dX0_settleArc_36 hf (picC kA ad) (setC_20 kA ad _ _ _) (fun w7 hf => ?_)
    refine x_aload_n X dX0_settleArc_37 2 rfl ?_
    refine x_iload_n X dX0_settleArc_38 3 rfl ?_
    refine x_iload_n X dX0_settleArc_39 4 rfl ?_
    obtain ⟨w8, hw8, hf⟩ := bn_some hf
    refine x_callV_v X E (As := [.int a1, .int a2]) (rest := []) (n := 2) (ws2 := (picC kA ad w8)) (goodV w_5134 w_500 s_9 w_50 w_5135) (met_X0_markAbove l E.2.2.2 D kA ad fu w7 a1 a2 w8 hw8) rfl rfl (by decide +kernel) ⟨by decide, by decide⟩ 2 rfl (qc := (RX0, TX0, _)) rfl rfl rfl rfl (Nat.le_of_ble_eq_true rfl) dX0_settleArc_40 ⟨by decide, by decide⟩ ?_
    refine x_iload X dX0_settleArc_43 0 rfl ?_
    obtain ⟨x9, hx9, hf⟩ := bn_some hf
    refine x_callSN_i X (As := [.int x3]) (rest := []) (n := 1) (goodY w_297) w_296 w_47 (host := "RoadOracle") (E.1.2.1 _ (NWL_in 372 (by decide +kernel) rfl)) (met_X3_costOf l fu x3 x9 hx9) rfl rfl (by decide +kernel) ⟨by decide, by decide⟩ rfl rfl (Nat.le_of_ble_eq_true rfl) dX0_settleArc_45 ⟨by decide, by decide⟩ ?_
    refine x_iload_n X dX0_settleArc_48 1 rfl ?_
    obtain ⟨x10, hx10, hf⟩ := bn_some hf
    refine x_callSN_i X (As := [.int x2]) (rest := [.int x9]) (n := 1) (goodY w_297) w_296 w_47 (host := "RoadOracle") (E.1.2.1 _ (NWL_in 372 (by decide +kernel) rfl)) (met_X3_costOf l fu x2 x10 hx10) rfl rfl (by decide +kernel) ⟨by decide, by decide⟩ rfl rfl (Nat.le_of_ble_eq_true rfl) dX0_settleArc_49 ⟨by decide, by decide⟩ ?_
    refine x_icmp_ne X (tgt := 59) dX0_settleArc_52 (by decide) hf (fun hf => ?_) (fun hf => ?_)
    · refine x_iconst X (v := 1) dX0_settleArc_59 (by decide) ?_
      cases hf
      exact x_iret X hr hlk rfl rfl dX0_settleArc_60
    · refine x_iconst X (v := 0) dX0_settleArc_55 (by decide) ?_
      refine x_goto X (tgt := 60) dX0_settleArc_56 (by decide) ?_
      cases hf
      exact x_iret X hr hlk rfl rfl dX0_settleArc_60
end
section
variable {p : Program} {l : Launch} {e : Env} {s : State} {m : MethodId} {args : Array Value} {below : List Frame} {meth : Method} {c : Code} {D : va_G} {kA : Nat → ClassId} {A : Nat → Prop} {Q : State → Prop} {ad al : Nat → Nat} {b L : Nat} {xs : Nat → Int32}
abbrev rm_X0_settle : Room := { frames := 4, cells := 0, slots := 0, locals := 90 }
set_option maxRecDepth 100000 in
set_option maxHeartbeats 4000000 in
theorem lp_X0_settle_49 (X : CX p m c cX0_settle 6 s args RX0) (E : EX l s D kA A) (fu : Nat) (y2 : Int32) (y3 : Int32) : ∀ (n : Nat) (y1 : Int32) (y4 : Int32) (w : WS) (r1 : Int32) (rw : WS), iter (fun q => bd_X0_settle_49 fu y2 y3 q.1 q.2.1 q.2.2) n (y1, y4, w) = some (r1, rw) → CS p l e rm_X0_settle s m args below meth c D A 6 0 0 Q (picC kA ad rw) 121 [(0, .ref (ad 2)), (1, .int r1), (2, .int y2), (3, .int y3)] [] → CS p l e rm_X0_settle s m args below meth c D A 6 0 0 Q (picC kA ad w) 49 [(0, .ref (ad 2)), (1, .int y1), (2, .int y2), (3, .int y3), (4, .int y4)] [] := by
  intro n
  induction n with
  | zero =>
    intro y1 y4 w r1 rw hit kk
    exact (iter_0 hit).elim
  | succ n ih =>
    intro y1 y4 w r1 rw hit kk
    obtain ⟨o, h1, hit⟩ := iter_one hit
    have hf : bd_X0_settle_49 fu y2 y3 y1 y4 w = some o := h1
    unfold bd_X0_settle_49 at hf
    refine x_iload X dX0_settle_49 4 rfl ?_
    refine x_aload_n X dX0_settle_51 0 rfl ?_
    refine x_get X E.1.1 (T := TX0) (C := RX0) inW0 2 rfl rfl 2 (by decide) w_5026 rfl (v := .int (w.1 2 2)) rfl dX0_settle_52 ?_
    refine x_nmI hf (fun x1 hf => ?_)
    refine x_icmp_ge X (tgt := 121) dX0_settle_55 (by decide) hf (fun hf => ?_) (fun hf => ?_)
    · cases hf
      cases hit
      refine x_lpick (lv2 := [(0, .ref (ad 2)), (1, .int y1), (2, .int y2), (3, .int y3)]) [0, 1, 2, 3] rfl ?_
      exact kk
    · refine x_aload_n X dX0_settle_58 0 rfl ?_
      refine x_get X E.1.1 (T := TX0) (C := RX0) inW0 2 rfl rfl 6 (by decide) w_146 rfl (v := .ref (ad 16)) rfl dX0_settle_59 ?_
      refine x_iload X dX0_settle_62 4 rfl ?_
      refine x_iald X E.1.1 16 rfl dX0_settle_64 hf (fun x2 hf => ?_)
      refine x_istore X (lv2 := [(5, .int x2), (0, .ref (ad 2)), (1, .int y1), (2, .int y2), (3, .int y3), (4, .int y4)]) dX0_settle_65 (by decide) rfl ?_
      refine x_aload_n X dX0_settle_67 1 rfl ?_
      refine x_get X E.1.1 (T := TX0) (C := RX0) inW0 2 rfl rfl 11 (by decide) w_5038 rfl (v := .ref (ad 22)) rfl dX0_settle_68 ?_
      refine x_iload_n X dX0_settle_71 4 rfl ?_
      refine x_lald X E.1.1 22 rfl dX0_settle_72 hf (fun x3 hf => ?_)
      refine x_iload X dX0_settle_73 0 rfl ?_
      obtain ⟨x4, hx4, hf⟩ := bn_some hf
      refine x_callSN_i X (As := [.long x3, .int x2]) (rest := []) (n := 2) (goodY w_275) w_274 w_47 (host := "RoadOracle") (E.1.2.1 _ (NWL_in 313 (by decide +kernel) rfl)) (met_X3_has l fu x3 x2 x4 hx4) rfl rfl (by decide +kernel) ⟨by decide, by decide⟩ rfl rfl (Nat.le_of_ble_eq_true rfl) dX0_settle_75 ⟨by decide, by decide⟩ ?_
      refine x_if_eq X (tgt := 91) dX0_settle_78 (by decide) hf (fun hf => ?_) (fun hf => ?_)
      · refine x_aload_n X dX0_settle_91 1 rfl ?_
        refine x_get X E.1.1 (T := TX0) (C := RX0) inW0 2 rfl rfl 12 (by decide) w_5039 rfl (v := .ref (ad 23)) rfl dX0_settle_92 ?_
        refine x_iload_n X dX0_settle_95 4 rfl ?_
        refine x_lald X E.1.1 23 rfl dX0_settle_96 hf (fun x5 hf => ?_)
        refine x_iload X dX0_settle_97 0 rfl ?_
        obtain ⟨x6, hx6, hf⟩ := bn_some hf
        refine x_callSN_i X (As := [.long x5, .int x2]) (rest := []) (n := 2) (goodY w_275) w_274 w_47 (host := "RoadOracle") (E.1.2.1 _ (NWL_in 313 (by decide +kernel) rfl)) (met_X3_has l fu x5 x2 x6 hx6) rfl rfl (by decide +kernel) ⟨by decide, by decide⟩ rfl rfl (Nat.le_of_ble_eq_true rfl) dX0_settle_99 ⟨by decide, by decide⟩ ?_
        refine x_if_eq X (tgt := 115) dX0_settle_102 (by decide) hf (fun hf => ?_) (fun hf => ?_)
        · refine x_iinc X dX0_settle_115 5 rfl (by decide) (y4 + 1) rfl hf (fun x7 => [(4, .int x7), (5, .int x2), (0, .ref (ad 2)), (1, .int y1), (2, .int y2), (3, .int y3)]) (fun _ => rfl) (fun x7 hf => ?_)
          refine x_goto X (tgt := 49) dX0_settle_118 (by decide) ?_
          cases hf
          refine x_lpick (lv2 := [(0, .ref (ad 2)), (1, .int y1), (2, .int y2), (3, .int y3), (4, .int x7)]) [2, 3, 4, 5, 0] rfl ?_
          exact ih _ _ _ _ _ hit kk
        · refine x_iload_n X dX0_settle_105 2 rfl ?_
          refine x_aload_n X dX0_settle_106 1 rfl ?_
          refine x_iload X dX0_settle_107 0 rfl ?_
          refine x_iload_n X dX0_settle_109 4 rfl ?_
          obtain ⟨x9, w8, hx9, hf⟩ := bn2_some hf
          refine x_callV_i X E (As := [.int x2, .int y3]) (rest := [.int y1]) (n := 2) (ws2 := (picC kA ad w8)) (goodV w_5130 w_489 s_7 w_50 w_490) (met_X0_settleArc l E.2.2.2 D kA ad fu w x2 y3 x9 w8 hx9) rfl rfl (by decide +kernel) ⟨by decide, by decide⟩ 2 rfl (qc := (RX0, TX0, _)) rfl rfl rfl rfl (Nat.le_of_ble_eq_true rfl) dX0_settle_110 ⟨by decide, by decide⟩ ?_
          refine x_iadd X dX0_settle_113 ?_
          refine x_nmI hf (fun x10 hf => ?_)
          refine x_istore_n X (lv2 := [(1, .int x10), (5, .int x2), (0, .ref (ad 2)), (2, .int y2), (3, .int y3), (4, .int y4)]) dX0_settle_114 (by decide) rfl ?_
          refine x_iinc X dX0_settle_115 5 rfl (by decide) (y4 + 1) rfl hf (fun x11 => [(4, .int x11), (1, .int x10), (5, .int x2), (0, .ref (ad 2)), (2, .int y2), (3, .int y3)]) (fun _ => rfl) (fun x11 hf => ?_)
          refine x_goto X (tgt := 49) dX0_settle_118 (by decide) ?_
          cases hf
          refine x_lpick (lv2 := [(0, .ref (ad 2)), (1, .int x10), (2, .int y2), (3, .int y3), (4, .int x11)]) [3, 1, 4, 5, 0] rfl ?_
          exact ih _ _ _ _ _ hit kk
      · refine x_iload_n X dX0_settle_81 2 rfl ?_
        refine x_aload_n X dX0_settle_82 1 rfl ?_
        refine x_iload_n X dX0_settle_83 4 rfl ?_
        refine x_iload X dX0_settle_84 0 rfl ?_
        obtain ⟨x13, w12, hx13, hf⟩ := bn2_some hf
        refine x_callV_i X E (As := [.int y3, .int x2]) (rest := [.int y1]) (n := 2) (ws2 := (picC kA ad w12)) (goodV w_5130 w_489 s_7 w_50 w_490) (met_X0_settleArc l E.2.2.2 D kA ad fu w y3 x2 x13 w12 hx13) rfl rfl (by decide +kernel) ⟨by decide, by decide⟩ 2 rfl (qc := (RX0, TX0, _)) rfl rfl rfl rfl (Nat.le_of_ble_eq_true rfl) dX0_settle_86 ⟨by decide, by decide⟩ ?_
        refine x_iadd X dX0_settle_89 ?_
        refine x_nmI hf (fun x14 hf => ?_)
        refine x_istore_n X (lv2 := [(1, .int x14), (5, .int x2), (0, .ref (ad 2)), (2, .int y2), (3, .int y3), (4, .int y4)]) dX0_settle_90 (by decide) rfl ?_
        refine x_aload_n X dX0_settle_91 2 rfl ?_
        refine x_get X E.1.1 (T := TX0) (C := RX0) inW0 2 rfl rfl 12 (by decide) w_5039 rfl (v := .ref (ad 23)) rfl dX0_settle_92 ?_
        refine x_iload_n X dX0_settle_95 4 rfl ?_
        refine x_lald X E.1.1 23 rfl dX0_settle_96 hf (fun x15 hf => ?_)
        refine x_iload X dX0_settle_97 1 rfl ?_
        obtain ⟨x16, hx16, hf⟩ := bn_some hf
        refine x_callSN_i X (As := [.long x15, .int x2]) (rest := []) (n := 2) (goodY w_275) w_274 w_47 (host := "RoadOracle") (E.1.2.1 _ (NWL_in 313 (by decide +kernel) rfl)) (met_X3_has l fu x15 x2 x16 hx16) rfl rfl (by decide +kernel) ⟨by decide, by decide⟩ rfl rfl (Nat.le_of_ble_eq_true rfl) dX0_settle_99 ⟨by decide, by decide⟩ ?_
        refine x_if_eq X (tgt := 115) dX0_settle_102 (by decide) hf (fun hf => ?_) (fun hf => ?_)
        · refine x_iinc X dX0_settle_115 5 rfl (by decide) (y4 + 1) rfl hf (fun x17 => [(4, .int x17), (1, .int x14), (5, .int x2), (0, .ref (ad 2)), (2, .int y2), (3, .int y3)]) (fun _ => rfl) (fun x17 hf => ?_)
          refine x_goto X (tgt := 49) dX0_settle_118 (by decide) ?_
          cases hf
          refine x_lpick (lv2 := [(0, .ref (ad 2)), (1, .int x14), (2, .int y2), (3, .int y3), (4, .int x17)]) [3, 1, 4, 5, 0] rfl ?_
          exact ih _ _ _ _ _ hit kk
        · refine x_iload_n X dX0_settle_105 0 rfl ?_
          refine x_aload_n X dX0_settle_106 2 rfl ?_
          refine x_iload X dX0_settle_107 1 rfl ?_
          refine x_iload_n X dX0_settle_109 4 rfl ?_
          obtain ⟨x19, w18, hx19, hf⟩ := bn2_some hf
          refine x_callV_i X E (As := [.int x2, .int y3]) (rest := [.int x14]) (n := 2) (ws2 := (picC kA ad w18)) (goodV w_5130 w_489 s_7 w_50 w_490) (met_X0_settleArc l E.2.2.2 D kA ad fu w12 x2 y3 x19 w18 hx19) rfl rfl (by decide +kernel) ⟨by decide, by decide⟩ 2 rfl (qc := (RX0, TX0, _)) rfl rfl rfl rfl (Nat.le_of_ble_eq_true rfl) dX0_settle_110 ⟨by decide, by decide⟩ ?_
          refine x_iadd X dX0_settle_113 ?_
          refine x_nmI hf (fun x20 hf => ?_)
          refine x_istore_n X (lv2 := [(1, .int x20), (5, .int x2), (0, .ref (ad 2)), (2, .int y2), (3, .int y3), (4, .int y4)]) dX0_settle_114 (by decide) rfl ?_
          refine x_iinc X dX0_settle_115 5 rfl (by decide) (y4 + 1) rfl hf (fun x21 => [(4, .int x21), (1, .int x20), (5, .int x2), (0, .ref (ad 2)), (2, .int y2), (3, .int y3)]) (fun _ => rfl) (fun x21 hf => ?_)
          refine x_goto X (tgt := 49) dX0_settle_118 (by decide) ?_
          cases hf
          refine x_lpick (lv2 := [(0, .ref (ad 2)), (1, .int x20), (2, .int y2), (3, .int y3), (4, .int x21)]) [3, 1, 4, 5, 0] rfl ?_
          exact ih _ _ _ _ _ hit kk
set_option maxRecDepth 100000 in
set_option maxHeartbeats 4000000 in
theorem lp_X0_settle_4 (X : CX p m c cX0_settle 6 s args RX0) (E : EX l s D kA A) (fu : Nat)  : ∀ (n : Nat) (y1 : Int32) (y2 : Int32) (w : WS) (r1 : Int32) (rw : WS), iter (fun q => bd_X0_settle_4 fu q.1 q.2.1 q.2.2) n (y1, y2, w) = some (r1, rw) → CS p l e rm_X0_settle s m args below meth c D A 6 0 0 Q (picC kA ad rw) 141 [(1, .int r1)] [] → CS p l e rm_X0_settle s m args below meth c D A 6 0 0 Q (picC kA ad w) 4 [(0, .ref (ad 2)), (1, .int y1), (2, .int y2)] [] := by
  intro n
  induction n with
  | zero =>
    intro y1 y2 w r1 rw hit kk
    exact (iter_0 hit).elim
  | succ n ih =>
    intro y1 y2 w r1 rw hit kk
    obtain ⟨o, h1, hit⟩ := iter_one hit
    have hf : bd_X0_settle_4 fu y1 y2 w = some o := h1
    unfold bd_X0_settle_4 at hf
    refine x_iload_n X dX0_settle_4 2 rfl ?_
    refine x_aload_n X dX0_settle_5 0 rfl ?_
    refine x_get X E.1.1 (T := TX0) (C := RX0) inW0 2 rfl rfl 2 (by decide) w_5026 rfl (v := .int (w.1 2 2)) rfl dX0_settle_6 ?_
    refine x_nmI hf (fun x1 hf => ?_)
    refine x_icmp_ge X (tgt := 141) dX0_settle_9 (by decide) hf (fun hf => ?_) (fun hf => ?_)
    · cases hf
      cases hit
      refine x_lpick (lv2 := [(1, .int y1)]) [1] rfl ?_
      exact kk
    · refine x_aload_n X dX0_settle_12 0 rfl ?_
      refine x_get X E.1.1 (T := TX0) (C := RX0) inW0 2 rfl rfl 6 (by decide) w_146 rfl (v := .ref (ad 16)) rfl dX0_settle_13 ?_
      refine x_iload_n X dX0_settle_16 2 rfl ?_
      refine x_iald X E.1.1 16 rfl dX0_settle_17 hf (fun x2 hf => ?_)
      refine x_istore_n X (lv2 := [(3, .int x2), (0, .ref (ad 2)), (1, .int y1), (2, .int y2)]) dX0_settle_18 (by decide) rfl ?_
      refine x_aload_n X dX0_settle_19 1 rfl ?_
      refine x_get X E.1.1 (T := TX0) (C := RX0) inW0 2 rfl rfl 11 (by decide) w_5038 rfl (v := .ref (ad 22)) rfl dX0_settle_20 ?_
      refine x_iload_n X dX0_settle_23 0 rfl ?_
      refine x_lald X E.1.1 22 rfl dX0_settle_24 hf (fun x3 hf => ?_)
      refine x_lconst X (v := 0) dX0_settle_25 (by decide) ?_
      refine x_lcmp X dX0_settle_26 ?_
      refine x_if_ne X (tgt := 44) dX0_settle_27 (by decide) hf (fun hf => ?_) (fun hf => ?_)
      · refine x_iload_n X dX0_settle_44 3 rfl ?_
        refine x_iconst X (v := 1) dX0_settle_45 (by decide) ?_
        refine x_iadd X dX0_settle_46 ?_
        refine x_nmI hf (fun x4 hf => ?_)
        refine x_istore X (lv2 := [(4, .int x4), (3, .int x2), (0, .ref (ad 2)), (1, .int y1), (2, .int y2)]) dX0_settle_47 (by decide) rfl ?_
        refine x_lpick (lv2 := [(0, .ref (ad 2)), (1, .int y1), (2, .int y2), (3, .int x2), (4, .int x4)]) [2, 3, 4, 1, 0] rfl ?_
        obtain ⟨x5, w6, h7, hf⟩ := bn2_some hf
        refine lp_X0_settle_49 X E fu y2 x2 fu y1 x4 w x5 w6 h7 ?_
        refine x_aload_n X dX0_settle_121 0 rfl ?_
        refine x_get X E.1.1 (T := TX0) (C := RX0) inW0 2 rfl rfl 11 (by decide) w_5038 rfl (v := .ref (ad 22)) rfl dX0_settle_122 ?_
        refine x_iload_n X dX0_settle_125 3 rfl ?_
        refine x_lconst X (v := 0) dX0_settle_126 (by decide) ?_
        refine x_last X E.1.1 22 rfl dX0_settle_127 hf (picC kA ad) (setC_22 kA ad _ _ _) (fun w8 hf => ?_)
        refine x_aload_n X dX0_settle_128 0 rfl ?_
        refine x_get X E.1.1 (T := TX0) (C := RX0) inW0 2 rfl rfl 12 (by decide) w_5039 rfl (v := .ref (ad 23)) rfl dX0_settle_129 ?_
        refine x_iload_n X dX0_settle_132 3 rfl ?_
        refine x_lconst X (v := 0) dX0_settle_133 (by decide) ?_
        refine x_last X E.1.1 23 rfl dX0_settle_134 hf (picC kA ad) (setC_23 kA ad _ _ _) (fun w9 hf => ?_)
        refine x_iinc X dX0_settle_135 2 rfl (by decide) (y2 + 1) rfl hf (fun x10 => [(2, .int x10), (0, .ref (ad 2)), (1, .int x5), (3, .int x2)]) (fun _ => rfl) (fun x10 hf => ?_)
        refine x_goto X (tgt := 4) dX0_settle_138 (by decide) ?_
        cases hf
        refine x_lpick (lv2 := [(0, .ref (ad 2)), (1, .int x5), (2, .int x10)]) [1, 2, 0] rfl ?_
        exact ih _ _ _ _ _ hit kk
      · refine x_aload_n X dX0_settle_30 1 rfl ?_
        refine x_get X E.1.1 (T := TX0) (C := RX0) inW0 2 rfl rfl 12 (by decide) w_5039 rfl (v := .ref (ad 23)) rfl dX0_settle_31 ?_
        refine x_iload_n X dX0_settle_34 0 rfl ?_
        refine x_lald X E.1.1 23 rfl dX0_settle_35 hf (fun x11 hf => ?_)
        refine x_lconst X (v := 0) dX0_settle_36 (by decide) ?_
        refine x_lcmp X dX0_settle_37 ?_
        refine x_if_ne X (tgt := 44) dX0_settle_38 (by decide) hf (fun hf => ?_) (fun hf => ?_)
        · refine x_iload_n X dX0_settle_44 3 rfl ?_
          refine x_iconst X (v := 1) dX0_settle_45 (by decide) ?_
          refine x_iadd X dX0_settle_46 ?_
          refine x_nmI hf (fun x12 hf => ?_)
          refine x_istore X (lv2 := [(4, .int x12), (3, .int x2), (0, .ref (ad 2)), (1, .int y1), (2, .int y2)]) dX0_settle_47 (by decide) rfl ?_
          refine x_lpick (lv2 := [(0, .ref (ad 2)), (1, .int y1), (2, .int y2), (3, .int x2), (4, .int x12)]) [2, 3, 4, 1, 0] rfl ?_
          obtain ⟨x13, w14, h15, hf⟩ := bn2_some hf
          refine lp_X0_settle_49 X E fu y2 x2 fu y1 x12 w x13 w14 h15 ?_
          refine x_aload_n X dX0_settle_121 0 rfl ?_
          refine x_get X E.1.1 (T := TX0) (C := RX0) inW0 2 rfl rfl 11 (by decide) w_5038 rfl (v := .ref (ad 22)) rfl dX0_settle_122 ?_
          refine x_iload_n X dX0_settle_125 3 rfl ?_
          refine x_lconst X (v := 0) dX0_settle_126 (by decide) ?_
          refine x_last X E.1.1 22 rfl dX0_settle_127 hf (picC kA ad) (setC_22 kA ad _ _ _) (fun w16 hf => ?_)
          refine x_aload_n X dX0_settle_128 0 rfl ?_
          refine x_get X E.1.1 (T := TX0) (C := RX0) inW0 2 rfl rfl 12 (by decide) w_5039 rfl (v := .ref (ad 23)) rfl dX0_settle_129 ?_
          refine x_iload_n X dX0_settle_132 3 rfl ?_
          refine x_lconst X (v := 0) dX0_settle_133 (by decide) ?_
          refine x_last X E.1.1 23 rfl dX0_settle_134 hf (picC kA ad) (setC_23 kA ad _ _ _) (fun w17 hf => ?_)
          refine x_iinc X dX0_settle_135 2 rfl (by decide) (y2 + 1) rfl hf (fun x18 => [(2, .int x18), (0, .ref (ad 2)), (1, .int x13), (3, .int x2)]) (fun _ => rfl) (fun x18 hf => ?_)
          refine x_goto X (tgt := 4) dX0_settle_138 (by decide) ?_
          cases hf
          refine x_lpick (lv2 := [(0, .ref (ad 2)), (1, .int x13), (2, .int x18)]) [1, 2, 0] rfl ?_
          exact ih _ _ _ _ _ hit kk
        · refine x_goto X (tgt := 135) dX0_settle_41 (by decide) ?_
          refine x_iinc X dX0_settle_135 3 rfl (by decide) (y2 + 1) rfl hf (fun x19 => [(2, .int x19), (3, .int x2), (0, .ref (ad 2)), (1, .int y1)]) (fun _ => rfl) (fun x19 hf => ?_)
          refine x_goto X (tgt := 4) dX0_settle_138 (by decide) ?_
          cases hf
          refine x_lpick (lv2 := [(0, .ref (ad 2)), (1, .int y1), (2, .int x19)]) [2, 3, 0] rfl ?_
          exact ih _ _ _ _ _ hit kk
set_option maxRecDepth 100000 in
set_option maxHeartbeats 4000000 in
theorem met_X0_settle (l : Launch) (hst : l.stackTraces = false) (D : va_G) (kA : Nat → ClassId) (ad : Nat → Nat) (fu : Nat) (w : WS)  (v : Int32) (w1 : WS) (hf : f_X0_settle fu w = some (v, w1)) (sz : Nat) : Met l yX0_settle (wsY yX0_settle cX0_settle 6 (some .int)) rm_X0_settle (va_Pc [.ref (ad 2)] (PreG D kA (picC kA ad w) sz)) (va_Qi (fun (r : Int32) (_ : Unit) => r = v) (fun _ t => PosG D (va_A (picC kA ad w) sz) (picC kA ad w1) t) (va_A (picC kA ad w) sz)) 0 0 (va_A (picC kA ad w) sz) := by
  refine metG (own := RX0) hst (by decide +kernel) rfl (Nat.le_of_ble_eq_true rfl) rfl ?_
  intro p e s m below meth c X hr hlk E _
  unfold f_X0_settle at hf
  refine x_iconst X (v := 0) dX0_settle_0 (by decide) ?_
  refine x_istore_n X (lv2 := [(1, .int 0), (0, .ref (ad 2))]) dX0_settle_1 (by decide) rfl ?_
  refine x_iconst X (v := 0) dX0_settle_2 (by decide) ?_
  refine x_istore_n X (lv2 := [(2, .int 0), (1, .int 0), (0, .ref (ad 2))]) dX0_settle_3 (by decide) rfl ?_
  refine x_lpick (lv2 := [(0, .ref (ad 2)), (1, .int 0), (2, .int 0)]) [2, 1, 0] rfl ?_
  obtain ⟨x1, w2, h3, hf⟩ := bn2_some hf
  refine lp_X0_settle_4 X E fu  fu (0 : Int32) (0 : Int32) w x1 w2 h3 ?_
  refine x_iload_n X dX0_settle_141 0 rfl ?_
  cases hf
  exact x_iret X hr hlk rfl rfl dX0_settle_142
end
section
variable {p : Program} {l : Launch} {e : Env} {s : State} {m : MethodId} {args : Array Value} {below : List Frame} {meth : Method} {c : Code} {D : va_G} {kA : Nat → ClassId} {A : Nat → Prop} {Q : State → Prop} {ad al : Nat → Nat} {b L : Nat} {xs : Nat → Int32}
abbrev rm_X0_build : Room := { frames := 5, cells := 0, slots := 0, locals := 117 }
set_option maxRecDepth 100000 in
set_option maxHeartbeats 4000000 in
theorem lp_X0_build_27 (X : CX p m c cX0_build 6 s args RX0) (E : EX l s D kA A) (fu : Nat) (y1 : Int32) : ∀ (n : Nat) (y2 : Int64) (y4 : Int32) (w : WS) (rw : WS), iter (fun q => bd_X0_build_27 fu y1 q.1 q.2.1 q.2.2) n (y2, y4, w) = some (rw) → CS p l e rm_X0_build s m args below meth c D A 6 0 0 Q (picC kA ad rw) 101 [(0, .ref (ad 2)), (1, .int y1)] [] → CS p l e rm_X0_build s m args below meth c D A 6 0 0 Q (picC kA ad w) 27 [(0, .ref (ad 2)), (1, .int y1), (2, .long y2), (4, .int y4)] [] := by
  intro n
  induction n with
  | zero =>
    intro y2 y4 w rw hit kk
    exact (iter_0 hit).elim
  | succ n ih =>
    intro y2 y4 w rw hit kk
    obtain ⟨o, h1, hit⟩ := iter_one hit
    have hf : bd_X0_build_27 fu y1 y2 y4 w = some o := h1
    unfold bd_X0_build_27 at hf
    refine x_iload X dX0_build_27 3 rfl ?_
    refine x_aload_n X dX0_build_29 0 rfl ?_
    refine x_get X E.1.1 (T := TX0) (C := RX0) inW0 2 rfl rfl 2 (by decide) w_5026 rfl (v := .int (w.1 2 2)) rfl dX0_build_30 ?_
    refine x_nmI hf (fun x1 hf => ?_)
    refine x_icmp_ge X (tgt := 101) dX0_build_33 (by decide) hf (fun hf => ?_) (fun hf => ?_)
    · cases hf
      cases hit
      refine x_lpick (lv2 := [(0, .ref (ad 2)), (1, .int y1)]) [0, 1] rfl ?_
      exact kk
    · refine x_aload_n X dX0_build_36 0 rfl ?_
      refine x_lload_n X dX0_build_37 2 rfl ?_
      obtain ⟨x2, hx2, hf⟩ := bn_some hf
      refine x_callV_i X E (As := [.long y2]) (rest := []) (n := 1) (ws2 := (picC kA ad w)) (goodV w_5149 w_600 s_14 w_50 w_5150) (met_X0_cheapest l E.2.2.2 D kA ad fu w y2 x2 hx2) rfl rfl (by decide +kernel) ⟨by decide, by decide⟩ 2 rfl (qc := (RX0, TX0, _)) rfl rfl rfl rfl (Nat.le_of_ble_eq_true rfl) dX0_build_38 ⟨by decide, by decide⟩ ?_
      refine x_istore X (lv2 := [(5, .int x2), (0, .ref (ad 2)), (1, .int y1), (2, .long y2), (4, .int y4)]) dX0_build_41 (by decide) rfl ?_
      refine x_aload_n X dX0_build_43 1 rfl ?_
      refine x_get X E.1.1 (T := TX0) (C := RX0) inW0 2 rfl rfl 5 (by decide) w_144 rfl (v := .ref (ad 15)) rfl dX0_build_44 ?_
      refine x_iload X dX0_build_47 0 rfl ?_
      refine x_iload X dX0_build_49 4 rfl ?_
      refine x_iast X E.1.1 15 rfl dX0_build_51 hf (picC kA ad) (setC_15 kA ad _ _ _) (fun w3 hf => ?_)
      refine x_aload_n X dX0_build_52 1 rfl ?_
      refine x_get X E.1.1 (T := TX0) (C := RX0) inW0 2 rfl rfl 6 (by decide) w_146 rfl (v := .ref (ad 16)) rfl dX0_build_53 ?_
      refine x_iload X dX0_build_56 4 rfl ?_
      refine x_iload X dX0_build_58 0 rfl ?_
      refine x_iast X E.1.1 16 rfl dX0_build_60 hf (picC kA ad) (setC_16 kA ad _ _ _) (fun w4 hf => ?_)
      refine x_lload_n X dX0_build_61 3 rfl ?_
      refine x_iload X dX0_build_62 0 rfl ?_
      obtain ⟨x5, hx5, hf⟩ := bn_some hf
      refine x_callSN_l X (As := [.int x2]) (rest := [.long y2]) (n := 1) (goodY w_433) w_432 w_47 (host := "RoadOracle") (E.1.2.1 _ (NWL_in 316 (by decide +kernel) rfl)) (met_X3_only l fu x2 x5 hx5) rfl rfl (by decide +kernel) ⟨by decide, by decide⟩ rfl rfl (Nat.le_of_ble_eq_true rfl) dX0_build_64 ⟨by decide, by decide⟩ ?_
      refine x_ldc2 X (v := (-1)) w_5152 dX0_build_67 ?_
      refine x_lxor X dX0_build_70 ?_
      refine x_land X dX0_build_71 ?_
      refine x_nmL hf (fun x6 hf => ?_)
      refine x_lstore_n X (lv2 := [(2, .long x6), (5, .int x2), (0, .ref (ad 2)), (1, .int y1), (4, .int y4)]) dX0_build_72 (by decide) rfl ?_
      refine x_aload_n X dX0_build_73 2 rfl ?_
      refine x_aload_n X dX0_build_74 2 rfl ?_
      refine x_get X E.1.1 (T := TX0) (C := RX0) inW0 2 rfl rfl 8 (by decide) w_5034 rfl (v := .ref (ad 19)) rfl dX0_build_75 ?_
      refine x_iload X dX0_build_78 1 rfl ?_
      refine x_lald X E.1.1 19 rfl dX0_build_80 hf (fun x7 hf => ?_)
      refine x_lload_n X dX0_build_81 0 rfl ?_
      refine x_land X dX0_build_82 ?_
      refine x_aload_n X dX0_build_83 2 rfl ?_
      refine x_get X E.1.1 (T := TX0) (C := RX0) inW0 2 rfl rfl 7 (by decide) w_5032 rfl (v := .ref (ad 18)) rfl dX0_build_84 ?_
      refine x_iload X dX0_build_87 1 rfl ?_
      refine x_lald X E.1.1 18 rfl dX0_build_89 hf (fun x8 hf => ?_)
      refine x_lload_n X dX0_build_90 0 rfl ?_
      refine x_land X dX0_build_91 ?_
      obtain ⟨w9, hw9, hf⟩ := bn_some hf
      refine x_callV_v X E (As := [.long (x7 &&& x6), .long (x8 &&& x6)]) (rest := []) (n := 2) (ws2 := (picC kA ad w9)) (goodV w_5153 w_605 s_15 w_50 w_606) (met_X0_bridge l E.2.2.2 D kA ad fu w4 (x7 &&& x6) (x8 &&& x6) w9 hw9) rfl rfl (by decide +kernel) ⟨by decide, by decide⟩ 2 rfl (qc := (RX0, TX0, _)) rfl rfl rfl rfl (Nat.le_of_ble_eq_true rfl) dX0_build_92 ⟨by decide, by decide⟩ ?_
      refine x_iinc X dX0_build_95 4 rfl (by decide) (y4 + 1) rfl hf (fun x10 => [(4, .int x10), (2, .long x6), (5, .int x2), (0, .ref (ad 2)), (1, .int y1)]) (fun _ => rfl) (fun x10 hf => ?_)
      refine x_goto X (tgt := 27) dX0_build_98 (by decide) ?_
      cases hf
      refine x_lpick (lv2 := [(0, .ref (ad 2)), (1, .int y1), (2, .long x6), (4, .int x10)]) [3, 4, 1, 0] rfl ?_
      exact ih _ _ _ _ hit kk
set_option maxRecDepth 100000 in
set_option maxHeartbeats 4000000 in
theorem lp_X0_build_109 (X : CX p m c cX0_build 6 s args RX0) (E : EX l s D kA A) (fu : Nat) (y1 : Int32) : ∀ (n : Nat) (y4 : Int32) (w : WS) (rw : WS), iter (fun q => bd_X0_build_109 fu y1 q.1 q.2) n (y4, w) = some (rw) → CS p l e rm_X0_build s m args below meth c D A 6 0 0 Q (picC kA ad rw) 143 [(0, .ref (ad 2)), (1, .int y1)] [] → CS p l e rm_X0_build s m args below meth c D A 6 0 0 Q (picC kA ad w) 109 [(0, .ref (ad 2)), (1, .int y1), (4, .int y4)] [] := by
  intro n
  induction n with
  | zero =>
    intro y4 w rw hit kk
    exact (iter_0 hit).elim
  | succ n ih =>
    intro y4 w rw hit kk
    obtain ⟨o, h1, hit⟩ := iter_one hit
    have hf : bd_X0_build_109 fu y1 y4 w = some o := h1
    unfold bd_X0_build_109 at hf
    refine x_iload X dX0_build_109 2 rfl ?_
    refine x_aload_n X dX0_build_111 0 rfl ?_
    refine x_get X E.1.1 (T := TX0) (C := RX0) inW0 2 rfl rfl 2 (by decide) w_5026 rfl (v := .int (w.1 2 2)) rfl dX0_build_112 ?_
    refine x_nmI hf (fun x1 hf => ?_)
    refine x_icmp_ge X (tgt := 143) dX0_build_115 (by decide) hf (fun hf => ?_) (fun hf => ?_)
    · cases hf
      cases hit
      refine x_lpick (lv2 := [(0, .ref (ad 2)), (1, .int y1)]) [0, 1] rfl ?_
      exact kk
    · refine x_aload_n X dX0_build_118 0 rfl ?_
      refine x_dup X dX0_build_119 rfl ?_
      refine x_get X E.1.1 (T := TX0) (C := RX0) inW0 2 rfl rfl 3 (by decide) w_5027 rfl (v := .int (w.1 2 3)) rfl dX0_build_120 ?_
      refine x_nmI hf (fun x2 hf => ?_)
      refine x_aload_n X dX0_build_123 0 rfl ?_
      refine x_get X E.1.1 (T := TX0) (C := RX0) inW0 2 rfl rfl 7 (by decide) w_5032 rfl (v := .ref (ad 18)) rfl dX0_build_124 ?_
      refine x_iload X dX0_build_127 2 rfl ?_
      refine x_lald X E.1.1 18 rfl dX0_build_129 hf (fun x3 hf => ?_)
      obtain ⟨x4, hx4, hf⟩ := bn_some hf
      refine x_callS_i X (As := [.long x3]) (rest := [.int x2, .ref (ad 2)]) (n := 1) (goodS w_5148 w_593 w_60 w_594) (met_J13_bitCount_95d88 l fu x3 x4 hx4) rfl rfl (by decide +kernel) ⟨by decide, by decide⟩ rfl rfl (Nat.le_of_ble_eq_true rfl) dX0_build_130 ⟨by decide, by decide⟩ ?_
      refine x_iadd X dX0_build_133 ?_
      refine x_put X E.1.1 (T := TX0) (C := RX0) (ty := .int) inW0 tyX0 tyX0_ok nmX0 2 rfl rfl 3 (by decide) w_5027 rfl rfl (by decide +kernel) rfl rfl (Nat.le_of_ble_eq_true rfl) dX0_build_134 (picC kA ad (wI w 2 3 (x2 + x4))) rfl ?_
      refine x_nmW (pic := (picC kA ad)) (u := (wI w 2 3 (x2 + x4))) hf (fun w5 hf => ?_)
      refine x_iinc X dX0_build_137 2 rfl (by decide) (y4 + 1) rfl hf (fun x6 => [(4, .int x6), (0, .ref (ad 2)), (1, .int y1)]) (fun _ => rfl) (fun x6 hf => ?_)
      refine x_goto X (tgt := 109) dX0_build_140 (by decide) ?_
      cases hf
      refine x_lpick (lv2 := [(0, .ref (ad 2)), (1, .int y1), (4, .int x6)]) [1, 2, 0] rfl ?_
      exact ih _ _ _ hit kk
set_option maxRecDepth 100000 in
set_option maxHeartbeats 4000000 in
theorem met_X0_build (l : Launch) (hst : l.stackTraces = false) (D : va_G) (kA : Nat → ClassId) (ad : Nat → Nat) (fu : Nat) (w : WS)  (w1 : WS) (hf : f_X0_build fu w = some w1) (sz : Nat) : Met l yX0_build (wsY yX0_build cX0_build 6 none) rm_X0_build (va_Pc [.ref (ad 2)] (PreG D kA (picC kA ad w) sz)) (va_Qv (fun (_ : Unit) => True) (fun _ t => PosG D (va_A (picC kA ad w) sz) (picC kA ad w1) t) (va_A (picC kA ad w) sz)) 0 0 (va_A (picC kA ad w) sz) := by
  refine metG (own := RX0) hst (by decide +kernel) rfl (Nat.le_of_ble_eq_true rfl) rfl ?_
  intro p e s m below meth c X hr hlk E _
  unfold f_X0_build at hf
  refine x_aload_n X dX0_build_0 0 rfl ?_
  refine x_aload_n X dX0_build_1 0 rfl ?_
  refine x_get X E.1.1 (T := TX0) (C := RX0) inW0 2 rfl rfl 0 (by decide) w_136 rfl (v := .ref (ad 1)) rfl dX0_build_2 ?_
  refine x_get X E.1.1 (T := TX2) (C := RX2) inW2 1 rfl rfl 1 (by decide) w_5002 rfl (v := .int (w.1 1 1)) rfl dX0_build_5 ?_
  refine x_nmI hf (fun x1 hf => ?_)
  refine x_put X E.1.1 (T := TX0) (C := RX0) (ty := .int) inW0 tyX0 tyX0_ok nmX0 2 rfl rfl 2 (by decide) w_5026 rfl rfl (by decide +kernel) rfl rfl (Nat.le_of_ble_eq_true rfl) dX0_build_8 (picC kA ad (wI w 2 2 x1)) rfl ?_
  refine x_nmW (pic := (picC kA ad)) (u := (wI w 2 2 x1)) hf (fun w2 hf => ?_)
  refine x_aload_n X dX0_build_11 0 rfl ?_
  obtain ⟨x4, w3, hx4, hf⟩ := bn2_some hf
  refine x_callV_i X E (As := []) (rest := []) (n := 0) (ws2 := (picC kA ad w3)) (goodV w_5147 w_590 s_13 w_50 w_591) (met_X0_linkTurns l E.2.2.2 D kA ad fu w2 x4 w3 hx4) rfl rfl (by decide +kernel) ⟨by decide, by decide⟩ 2 rfl (qc := (RX0, TX0, _)) rfl rfl rfl rfl (Nat.le_of_ble_eq_true rfl) dX0_build_12 ⟨by decide, by decide⟩ ?_
  refine x_istore_n X (lv2 := [(1, .int x4), (0, .ref (ad 2))]) dX0_build_15 (by decide) rfl ?_
  refine x_aload_n X dX0_build_16 1 rfl ?_
  refine x_get X E.1.1 (T := TX0) (C := RX0) inW0 2 rfl rfl 0 (by decide) w_136 rfl (v := .ref (ad 1)) rfl dX0_build_17 ?_
  obtain ⟨x5, hx5, hf⟩ := bn_some hf
  refine x_callV_l X E (As := []) (rest := []) (n := 0) (ws2 := (picC kA ad w3)) (goodV w_5144 w_550 w_551 w_48 w_552) (met_X2_allRoads l E.2.2.2 D kA ad fu w3 x5 hx5) rfl rfl (by decide +kernel) ⟨by decide, by decide⟩ 1 rfl (qc := (RX2, TX2, _)) rfl rfl rfl rfl (Nat.le_of_ble_eq_true rfl) dX0_build_20 ⟨by decide, by decide⟩ ?_
  refine x_lstore_n X (lv2 := [(2, .long x5), (1, .int x4), (0, .ref (ad 2))]) dX0_build_23 (by decide) rfl ?_
  refine x_iconst X (v := 0) dX0_build_24 (by decide) ?_
  refine x_istore X (lv2 := [(4, .int 0), (2, .long x5), (1, .int x4), (0, .ref (ad 2))]) dX0_build_25 (by decide) rfl ?_
  refine x_lpick (lv2 := [(0, .ref (ad 2)), (1, .int x4), (2, .long x5), (4, .int 0)]) [3, 2, 1, 0] rfl ?_
  obtain ⟨w6, h7, hf⟩ := bn_some hf
  refine lp_X0_build_27 X E fu x4 fu x5 (0 : Int32) w3 w6 h7 ?_
  refine x_aload_n X dX0_build_101 0 rfl ?_
  refine x_iconst X (v := 0) dX0_build_102 (by decide) ?_
  refine x_put X E.1.1 (T := TX0) (C := RX0) (ty := .int) inW0 tyX0 tyX0_ok nmX0 2 rfl rfl 3 (by decide) w_5027 rfl rfl (by decide +kernel) rfl rfl (Nat.le_of_ble_eq_true rfl) dX0_build_103 (picC kA ad (wI w6 2 3 0)) rfl ?_
  refine x_nmW (pic := (picC kA ad)) (u := (wI w6 2 3 0)) hf (fun w8 hf => ?_)
  refine x_iconst X (v := 0) dX0_build_106 (by decide) ?_
  refine x_istore X (lv2 := [(4, .int 0), (0, .ref (ad 2)), (1, .int x4)]) dX0_build_107 (by decide) rfl ?_
  refine x_lpick (lv2 := [(0, .ref (ad 2)), (1, .int x4), (4, .int 0)]) [1, 2, 0] rfl ?_
  obtain ⟨w9, h10, hf⟩ := bn_some hf
  refine lp_X0_build_109 X E fu x4 fu (0 : Int32) w8 w9 h10 ?_
  refine x_aload_n X dX0_build_143 0 rfl ?_
  refine x_aload_n X dX0_build_144 0 rfl ?_
  refine x_get X E.1.1 (T := TX0) (C := RX0) inW0 2 rfl rfl 3 (by decide) w_5027 rfl (v := .int (w9.1 2 3)) rfl dX0_build_145 ?_
  refine x_nmI hf (fun x11 hf => ?_)
  refine x_iload_n X dX0_build_148 1 rfl ?_
  refine x_isub X dX0_build_149 ?_
  refine x_put X E.1.1 (T := TX0) (C := RX0) (ty := .int) inW0 tyX0 tyX0_ok nmX0 2 rfl rfl 4 (by decide) w_5029 rfl rfl (by decide +kernel) rfl rfl (Nat.le_of_ble_eq_true rfl) dX0_build_150 (picC kA ad (wI w9 2 4 (x11 - x4))) rfl ?_
  refine x_nmW (pic := (picC kA ad)) (u := (wI w9 2 4 (x11 - x4))) hf (fun w12 hf => ?_)
  refine x_aload_n X dX0_build_153 0 rfl ?_
  refine x_get X E.1.1 (T := TX0) (C := RX0) inW0 2 rfl rfl 9 (by decide) w_5035 rfl (v := .ref (ad 20)) rfl dX0_build_154 ?_
  refine x_ldc X (v := 536870912) w_5151 dX0_build_157 ?_
  refine x_fill X E w_5154 w_80 w_49 w_81 (by decide) (by decide) 20 rfl (by decide) dX0_build_159 ⟨by decide, by decide⟩ hf (picC kA ad) (setFC_20 kA ad _ _) (fun w13 hf => ?_)
  refine x_aload_n X dX0_build_162 0 rfl ?_
  refine x_get X E.1.1 (T := TX0) (C := RX0) inW0 2 rfl rfl 10 (by decide) w_5037 rfl (v := .ref (ad 21)) rfl dX0_build_163 ?_
  refine x_ldc X (v := 536870912) w_5151 dX0_build_166 ?_
  refine x_fill X E w_5154 w_80 w_49 w_81 (by decide) (by decide) 21 rfl (by decide) dX0_build_168 ⟨by decide, by decide⟩ hf (picC kA ad) (setFC_21 kA ad _ _) (fun w14 hf => ?_)
  refine x_aload_n X dX0_build_171 0 rfl ?_
  refine x_aload_n X dX0_build_172 0 rfl ?_
  refine x_get X E.1.1 (T := TX0) (C := RX0) inW0 2 rfl rfl 0 (by decide) w_136 rfl (v := .ref (ad 1)) rfl dX0_build_173 ?_
  obtain ⟨x15, hx15, hf⟩ := bn_some hf
  refine x_callV_l X E (As := []) (rest := [.ref (ad 2)]) (n := 0) (ws2 := (picC kA ad w14)) (goodV w_5144 w_550 w_551 w_48 w_552) (met_X2_allRoads l E.2.2.2 D kA ad fu w14 x15 hx15) rfl rfl (by decide +kernel) ⟨by decide, by decide⟩ 1 rfl (qc := (RX2, TX2, _)) rfl rfl rfl rfl (Nat.le_of_ble_eq_true rfl) dX0_build_176 ⟨by decide, by decide⟩ ?_
  refine x_aload_n X dX0_build_179 0 rfl ?_
  refine x_get X E.1.1 (T := TX0) (C := RX0) inW0 2 rfl rfl 0 (by decide) w_136 rfl (v := .ref (ad 1)) rfl dX0_build_180 ?_
  obtain ⟨x16, hx16, hf⟩ := bn_some hf
  refine x_callV_l X E (As := []) (rest := [.long x15, .ref (ad 2)]) (n := 0) (ws2 := (picC kA ad w14)) (goodV w_5144 w_550 w_551 w_48 w_552) (met_X2_allRoads l E.2.2.2 D kA ad fu w14 x16 hx16) rfl rfl (by decide +kernel) ⟨by decide, by decide⟩ 1 rfl (qc := (RX2, TX2, _)) rfl rfl rfl rfl (Nat.le_of_ble_eq_true rfl) dX0_build_183 ⟨by decide, by decide⟩ ?_
  obtain ⟨w17, hw17, hf⟩ := bn_some hf
  refine x_callV_v X E (As := [.long x15, .long x16]) (rest := []) (n := 2) (ws2 := (picC kA ad w17)) (goodV w_5119 w_457 s_4 w_50 w_5120) (met_X0_renewSteps l E.2.2.2 D kA ad fu w14 x15 x16 w17 hw17) rfl rfl (by decide +kernel) ⟨by decide, by decide⟩ 2 rfl (qc := (RX0, TX0, _)) rfl rfl rfl rfl (Nat.le_of_ble_eq_true rfl) dX0_build_186 ⟨by decide, by decide⟩ ?_
  refine x_aload_n X dX0_build_189 0 rfl ?_
  obtain ⟨x19, w18, hx19, hf⟩ := bn2_some hf
  refine x_callV_i X E (As := []) (rest := []) (n := 0) (ws2 := (picC kA ad w18)) (goodV w_5128 w_485 s_6 w_50 w_5129) (met_X0_settle l E.2.2.2 D kA ad fu w17 x19 w18 hx19) rfl rfl (by decide +kernel) ⟨by decide, by decide⟩ 2 rfl (qc := (RX0, TX0, _)) rfl rfl rfl rfl (Nat.le_of_ble_eq_true rfl) dX0_build_190 ⟨by decide, by decide⟩ ?_
  refine x_pop X dX0_build_193 rfl ?_
  refine x_aload_n X dX0_build_194 0 rfl ?_
  refine x_iconst X (v := 1) dX0_build_195 (by decide) ?_
  refine x_put X E.1.1 (T := TX0) (C := RX0) (ty := .boolean) inW0 tyX0 tyX0_ok nmX0 2 rfl rfl 1 (by decide) w_5024 rfl rfl (by decide +kernel) (by decide +kernel) rfl (Nat.le_of_ble_eq_true rfl) dX0_build_196 (picC kA ad (wI w18 2 1 1)) rfl ?_
  refine x_nmW (pic := (picC kA ad)) (u := (wI w18 2 1 1)) hf (fun w20 hf => ?_)
  cases hf
  exact x_vret X hr hlk rfl dX0_build_199
end
section
variable {p : Program} {l : Launch} {e : Env} {s : State} {m : MethodId} {args : Array Value} {below : List Frame} {meth : Method} {c : Code} {D : va_G} {kA : Nat → ClassId} {A : Nat → Prop} {Q : State → Prop} {ad al : Nat → Nat} {b L : Nat} {xs : Nat → Int32}
abbrev rm_X0_renewRoad : Room := { frames := 5, cells := 0, slots := 0, locals := 117 }
set_option maxRecDepth 100000 in
set_option maxHeartbeats 4000000 in
theorem met_X0_renewRoad (l : Launch) (hst : l.stackTraces = false) (D : va_G) (kA : Nat → ClassId) (ad : Nat → Nat) (fu : Nat) (w : WS) (a1 : Int32) (v : Int32) (w1 : WS) (hf : f_X0_renewRoad fu w a1 = some (v, w1)) (sz : Nat) : Met l yX0_renewRoad (wsY yX0_renewRoad cX0_renewRoad 2 (some .int)) rm_X0_renewRoad (va_Pc [.ref (ad 2), .int a1] (PreG D kA (picC kA ad w) sz)) (va_Qi (fun (r : Int32) (_ : Unit) => r = v) (fun _ t => PosG D (va_A (picC kA ad w) sz) (picC kA ad w1) t) (va_A (picC kA ad w) sz)) 0 0 (va_A (picC kA ad w) sz) := by
  refine metG (own := RX0) hst (by decide +kernel) rfl (Nat.le_of_ble_eq_true rfl) rfl ?_
  intro p e s m below meth c X hr hlk E _
  unfold f_X0_renewRoad at hf
  refine x_aload_n X dX0_renewRoad_0 0 rfl ?_
  refine x_get X E.1.1 (T := TX0) (C := RX0) inW0 2 rfl rfl 1 (by decide) w_5024 rfl (v := .int (w.1 2 1)) rfl dX0_renewRoad_1 ?_
  refine x_nmI hf (fun x1 hf => ?_)
  refine x_if_ne X (tgt := 9) dX0_renewRoad_4 (by decide) hf (fun hf => ?_) (fun hf => ?_)
  · refine x_aload_n X dX0_renewRoad_9 0 rfl ?_
    refine x_aload_n X dX0_renewRoad_10 0 rfl ?_
    refine x_get X E.1.1 (T := TX0) (C := RX0) inW0 2 rfl rfl 0 (by decide) w_136 rfl (v := .ref (ad 1)) rfl dX0_renewRoad_11 ?_
    refine x_iload_n X dX0_renewRoad_14 1 rfl ?_
    obtain ⟨x2, hx2, hf⟩ := bn_some hf
    refine x_callV_l X E (As := [.int a1]) (rest := [.ref (ad 2)]) (n := 1) (ws2 := (picC kA ad w)) (goodV w_450 w_451 w_452 w_48 w_453) (met_X2_forerunnersOf l E.2.2.2 D kA ad fu w a1 x2 hx2) rfl rfl (by decide +kernel) ⟨by decide, by decide⟩ 1 rfl (qc := (RX2, TX2, _)) rfl rfl rfl rfl (Nat.le_of_ble_eq_true rfl) dX0_renewRoad_15 ⟨by decide, by decide⟩ ?_
    refine x_iload_n X dX0_renewRoad_18 1 rfl ?_
    obtain ⟨x3, hx3, hf⟩ := bn_some hf
    refine x_callSN_l X (As := [.int a1]) (rest := [.long x2, .ref (ad 2)]) (n := 1) (goodY w_433) w_432 w_47 (host := "RoadOracle") (E.1.2.1 _ (NWL_in 316 (by decide +kernel) rfl)) (met_X3_only l fu a1 x3 hx3) rfl rfl (by decide +kernel) ⟨by decide, by decide⟩ rfl rfl (Nat.le_of_ble_eq_true rfl) dX0_renewRoad_19 ⟨by decide, by decide⟩ ?_
    obtain ⟨w4, hw4, hf⟩ := bn_some hf
    refine x_callV_v X E (As := [.long x2, .long x3]) (rest := []) (n := 2) (ws2 := (picC kA ad w4)) (goodV w_5119 w_457 s_4 w_50 w_5120) (met_X0_renewSteps l E.2.2.2 D kA ad fu w x2 x3 w4 hw4) rfl rfl (by decide +kernel) ⟨by decide, by decide⟩ 2 rfl (qc := (RX0, TX0, _)) rfl rfl rfl rfl (Nat.le_of_ble_eq_true rfl) dX0_renewRoad_22 ⟨by decide, by decide⟩ ?_
    refine x_aload_n X dX0_renewRoad_25 0 rfl ?_
    refine x_iload_n X dX0_renewRoad_26 1 rfl ?_
    obtain ⟨x5, hx5, hf⟩ := bn_some hf
    refine x_callSN_l X (As := [.int a1]) (rest := [.ref (ad 2)]) (n := 1) (goodY w_433) w_432 w_47 (host := "RoadOracle") (E.1.2.1 _ (NWL_in 316 (by decide +kernel) rfl)) (met_X3_only l fu a1 x5 hx5) rfl rfl (by decide +kernel) ⟨by decide, by decide⟩ rfl rfl (Nat.le_of_ble_eq_true rfl) dX0_renewRoad_27 ⟨by decide, by decide⟩ ?_
    refine x_aload_n X dX0_renewRoad_30 0 rfl ?_
    refine x_get X E.1.1 (T := TX0) (C := RX0) inW0 2 rfl rfl 0 (by decide) w_136 rfl (v := .ref (ad 1)) rfl dX0_renewRoad_31 ?_
    refine x_iload_n X dX0_renewRoad_34 1 rfl ?_
    obtain ⟨x6, hx6, hf⟩ := bn_some hf
    refine x_callV_l X E (As := [.int a1]) (rest := [.long x5, .ref (ad 2)]) (n := 1) (ws2 := (picC kA ad w4)) (goodV w_459 w_460 w_461 w_48 w_462) (met_X2_followersOf l E.2.2.2 D kA ad fu w4 a1 x6 hx6) rfl rfl (by decide +kernel) ⟨by decide, by decide⟩ 1 rfl (qc := (RX2, TX2, _)) rfl rfl rfl rfl (Nat.le_of_ble_eq_true rfl) dX0_renewRoad_35 ⟨by decide, by decide⟩ ?_
    obtain ⟨w7, hw7, hf⟩ := bn_some hf
    refine x_callV_v X E (As := [.long x5, .long x6]) (rest := []) (n := 2) (ws2 := (picC kA ad w7)) (goodV w_5119 w_457 s_4 w_50 w_5120) (met_X0_renewSteps l E.2.2.2 D kA ad fu w4 x5 x6 w7 hw7) rfl rfl (by decide +kernel) ⟨by decide, by decide⟩ 2 rfl (qc := (RX0, TX0, _)) rfl rfl rfl rfl (Nat.le_of_ble_eq_true rfl) dX0_renewRoad_38 ⟨by decide, by decide⟩ ?_
    refine x_aload_n X dX0_renewRoad_41 0 rfl ?_
    obtain ⟨x9, w8, hx9, hf⟩ := bn2_some hf
    refine x_callV_i X E (As := []) (rest := []) (n := 0) (ws2 := (picC kA ad w8)) (goodV w_5128 w_485 s_6 w_50 w_5129) (met_X0_settle l E.2.2.2 D kA ad fu w7 x9 w8 hx9) rfl rfl (by decide +kernel) ⟨by decide, by decide⟩ 2 rfl (qc := (RX0, TX0, _)) rfl rfl rfl rfl (Nat.le_of_ble_eq_true rfl) dX0_renewRoad_42 ⟨by decide, by decide⟩ ?_
    cases hf
    exact x_iret X hr hlk rfl rfl dX0_renewRoad_45
  · refine x_iconst X (v := 0) dX0_renewRoad_7 (by decide) ?_
    cases hf
    exact x_iret X hr hlk rfl rfl dX0_renewRoad_8
end
section
variable {p : Program} {l : Launch} {e : Env} {s : State} {m : MethodId} {args : Array Value} {below : List Frame} {meth : Method} {c : Code} {D : va_G} {kA : Nat → ClassId} {A : Nat → Prop} {Q : State → Prop} {ad al : Nat → Nat} {b L : Nat} {xs : Nat → Int32}
abbrev rm_X0_renewTurn : Room := { frames := 5, cells := 0, slots := 0, locals := 117 }
set_option maxRecDepth 100000 in
set_option maxHeartbeats 4000000 in
theorem met_X0_renewTurn (l : Launch) (hst : l.stackTraces = false) (D : va_G) (kA : Nat → ClassId) (ad : Nat → Nat) (fu : Nat) (w : WS) (a1 : Int32) (a2 : Int32) (v : Int32) (w1 : WS) (hf : f_X0_renewTurn fu w a1 a2 = some (v, w1)) (sz : Nat) : Met l yX0_renewTurn (wsY yX0_renewTurn cX0_renewTurn 3 (some .int)) rm_X0_renewTurn (va_Pc [.ref (ad 2), .int a1, .int a2] (PreG D kA (picC kA ad w) sz)) (va_Qi (fun (r : Int32) (_ : Unit) => r = v) (fun _ t => PosG D (va_A (picC kA ad w) sz) (picC kA ad w1) t) (va_A (picC kA ad w) sz)) 0 0 (va_A (picC kA ad w) sz) := by
  refine metG (own := RX0) hst (by decide +kernel) rfl (Nat.le_of_ble_eq_true rfl) rfl ?_
  intro p e s m below meth c X hr hlk E _
  unfold f_X0_renewTurn at hf
  refine x_aload_n X dX0_renewTurn_0 0 rfl ?_
  refine x_get X E.1.1 (T := TX0) (C := RX0) inW0 2 rfl rfl 1 (by decide) w_5024 rfl (v := .int (w.1 2 1)) rfl dX0_renewTurn_1 ?_
  refine x_nmI hf (fun x1 hf => ?_)
  refine x_if_ne X (tgt := 9) dX0_renewTurn_4 (by decide) hf (fun hf => ?_) (fun hf => ?_)
  · refine x_aload_n X dX0_renewTurn_9 0 rfl ?_
    refine x_iload_n X dX0_renewTurn_10 1 rfl ?_
    obtain ⟨x2, hx2, hf⟩ := bn_some hf
    refine x_callSN_l X (As := [.int a1]) (rest := [.ref (ad 2)]) (n := 1) (goodY w_433) w_432 w_47 (host := "RoadOracle") (E.1.2.1 _ (NWL_in 316 (by decide +kernel) rfl)) (met_X3_only l fu a1 x2 hx2) rfl rfl (by decide +kernel) ⟨by decide, by decide⟩ rfl rfl (Nat.le_of_ble_eq_true rfl) dX0_renewTurn_11 ⟨by decide, by decide⟩ ?_
    refine x_iload_n X dX0_renewTurn_14 2 rfl ?_
    obtain ⟨x3, hx3, hf⟩ := bn_some hf
    refine x_callSN_l X (As := [.int a2]) (rest := [.long x2, .ref (ad 2)]) (n := 1) (goodY w_433) w_432 w_47 (host := "RoadOracle") (E.1.2.1 _ (NWL_in 316 (by decide +kernel) rfl)) (met_X3_only l fu a2 x3 hx3) rfl rfl (by decide +kernel) ⟨by decide, by decide⟩ rfl rfl (Nat.le_of_ble_eq_true rfl) dX0_renewTurn_15 ⟨by decide, by decide⟩ ?_
    obtain ⟨w4, hw4, hf⟩ := bn_some hf
    refine x_callV_v X E (As := [.long x2, .long x3]) (rest := []) (n := 2) (ws2 := (picC kA ad w4)) (goodV w_5119 w_457 s_4 w_50 w_5120) (met_X0_renewSteps l E.2.2.2 D kA ad fu w x2 x3 w4 hw4) rfl rfl (by decide +kernel) ⟨by decide, by decide⟩ 2 rfl (qc := (RX0, TX0, _)) rfl rfl rfl rfl (Nat.le_of_ble_eq_true rfl) dX0_renewTurn_18 ⟨by decide, by decide⟩ ?_
    refine x_aload_n X dX0_renewTurn_21 0 rfl ?_
    obtain ⟨x6, w5, hx6, hf⟩ := bn2_some hf
    refine x_callV_i X E (As := []) (rest := []) (n := 0) (ws2 := (picC kA ad w5)) (goodV w_5128 w_485 s_6 w_50 w_5129) (met_X0_settle l E.2.2.2 D kA ad fu w4 x6 w5 hx6) rfl rfl (by decide +kernel) ⟨by decide, by decide⟩ 2 rfl (qc := (RX0, TX0, _)) rfl rfl rfl rfl (Nat.le_of_ble_eq_true rfl) dX0_renewTurn_22 ⟨by decide, by decide⟩ ?_
    cases hf
    exact x_iret X hr hlk rfl rfl dX0_renewTurn_25
  · refine x_iconst X (v := 0) dX0_renewTurn_7 (by decide) ?_
    cases hf
    exact x_iret X hr hlk rfl rfl dX0_renewTurn_8
end
section
variable {p : Program} {l : Launch} {e : Env} {s : State} {m : MethodId} {args : Array Value} {below : List Frame} {meth : Method} {c : Code} {D : va_G} {kA : Nat → ClassId} {A : Nat → Prop} {Q : State → Prop} {ad al : Nat → Nat} {b L : Nat} {xs : Nat → Int32}
abbrev rm_X0_renewAll : Room := { frames := 5, cells := 0, slots := 0, locals := 117 }
set_option maxRecDepth 100000 in
set_option maxHeartbeats 4000000 in
theorem met_X0_renewAll (l : Launch) (hst : l.stackTraces = false) (D : va_G) (kA : Nat → ClassId) (ad : Nat → Nat) (fu : Nat) (w : WS)  (v : Int32) (w1 : WS) (hf : f_X0_renewAll fu w = some (v, w1)) (sz : Nat) : Met l yX0_renewAll (wsY yX0_renewAll cX0_renewAll 1 (some .int)) rm_X0_renewAll (va_Pc [.ref (ad 2)] (PreG D kA (picC kA ad w) sz)) (va_Qi (fun (r : Int32) (_ : Unit) => r = v) (fun _ t => PosG D (va_A (picC kA ad w) sz) (picC kA ad w1) t) (va_A (picC kA ad w) sz)) 0 0 (va_A (picC kA ad w) sz) := by
  refine metG (own := RX0) hst (by decide +kernel) rfl (Nat.le_of_ble_eq_true rfl) rfl ?_
  intro p e s m below meth c X hr hlk E _
  unfold f_X0_renewAll at hf
  refine x_aload_n X dX0_renewAll_0 0 rfl ?_
  refine x_get X E.1.1 (T := TX0) (C := RX0) inW0 2 rfl rfl 1 (by decide) w_5024 rfl (v := .int (w.1 2 1)) rfl dX0_renewAll_1 ?_
  refine x_nmI hf (fun x1 hf => ?_)
  refine x_if_ne X (tgt := 9) dX0_renewAll_4 (by decide) hf (fun hf => ?_) (fun hf => ?_)
  · refine x_aload_n X dX0_renewAll_9 0 rfl ?_
    refine x_aload_n X dX0_renewAll_10 0 rfl ?_
    refine x_get X E.1.1 (T := TX0) (C := RX0) inW0 2 rfl rfl 0 (by decide) w_136 rfl (v := .ref (ad 1)) rfl dX0_renewAll_11 ?_
    obtain ⟨x2, hx2, hf⟩ := bn_some hf
    refine x_callV_l X E (As := []) (rest := [.ref (ad 2)]) (n := 0) (ws2 := (picC kA ad w)) (goodV w_5144 w_550 w_551 w_48 w_552) (met_X2_allRoads l E.2.2.2 D kA ad fu w x2 hx2) rfl rfl (by decide +kernel) ⟨by decide, by decide⟩ 1 rfl (qc := (RX2, TX2, _)) rfl rfl rfl rfl (Nat.le_of_ble_eq_true rfl) dX0_renewAll_14 ⟨by decide, by decide⟩ ?_
    refine x_aload_n X dX0_renewAll_17 0 rfl ?_
    refine x_get X E.1.1 (T := TX0) (C := RX0) inW0 2 rfl rfl 0 (by decide) w_136 rfl (v := .ref (ad 1)) rfl dX0_renewAll_18 ?_
    obtain ⟨x3, hx3, hf⟩ := bn_some hf
    refine x_callV_l X E (As := []) (rest := [.long x2, .ref (ad 2)]) (n := 0) (ws2 := (picC kA ad w)) (goodV w_5144 w_550 w_551 w_48 w_552) (met_X2_allRoads l E.2.2.2 D kA ad fu w x3 hx3) rfl rfl (by decide +kernel) ⟨by decide, by decide⟩ 1 rfl (qc := (RX2, TX2, _)) rfl rfl rfl rfl (Nat.le_of_ble_eq_true rfl) dX0_renewAll_21 ⟨by decide, by decide⟩ ?_
    obtain ⟨w4, hw4, hf⟩ := bn_some hf
    refine x_callV_v X E (As := [.long x2, .long x3]) (rest := []) (n := 2) (ws2 := (picC kA ad w4)) (goodV w_5119 w_457 s_4 w_50 w_5120) (met_X0_renewSteps l E.2.2.2 D kA ad fu w x2 x3 w4 hw4) rfl rfl (by decide +kernel) ⟨by decide, by decide⟩ 2 rfl (qc := (RX0, TX0, _)) rfl rfl rfl rfl (Nat.le_of_ble_eq_true rfl) dX0_renewAll_24 ⟨by decide, by decide⟩ ?_
    refine x_aload_n X dX0_renewAll_27 0 rfl ?_
    obtain ⟨x6, w5, hx6, hf⟩ := bn2_some hf
    refine x_callV_i X E (As := []) (rest := []) (n := 0) (ws2 := (picC kA ad w5)) (goodV w_5128 w_485 s_6 w_50 w_5129) (met_X0_settle l E.2.2.2 D kA ad fu w4 x6 w5 hx6) rfl rfl (by decide +kernel) ⟨by decide, by decide⟩ 2 rfl (qc := (RX0, TX0, _)) rfl rfl rfl rfl (Nat.le_of_ble_eq_true rfl) dX0_renewAll_28 ⟨by decide, by decide⟩ ?_
    cases hf
    exact x_iret X hr hlk rfl rfl dX0_renewAll_31
  · refine x_iconst X (v := 0) dX0_renewAll_7 (by decide) ?_
    cases hf
    exact x_iret X hr hlk rfl rfl dX0_renewAll_8
end
section
variable {p : Program} {l : Launch} {e : Env} {s : State} {m : MethodId} {args : Array Value} {below : List Frame} {meth : Method} {c : Code} {D : va_G} {kA : Nat → ClassId} {A : Nat → Prop} {Q : State → Prop} {ad al : Nat → Nat} {b L : Nat} {xs : Nat → Int32}
abbrev rm_X0_passOn : Room := { frames := 1, cells := 0, slots := 0, locals := 22 }
set_option maxRecDepth 100000 in
set_option maxHeartbeats 4000000 in
theorem lp_X0_passOn_12 (X : CX p m c cX0_passOn 7 s args RX0) (E : EX l s D kA A) (fu : Nat) (y2 : Int32) (y4 : Int32) : ∀ (n : Nat) (y5 : Int32) (w : WS) (rw : WS), iter (fun q => bd_X0_passOn_12 fu y2 y4 q.1 q.2) n (y5, w) = some (rw) → CS p l e rm_X0_passOn s m args below meth c D A 7 0 0 Q (picC kA ad rw) 74 [] [] → CS p l e rm_X0_passOn s m args below meth c D A 7 0 0 Q (picC kA ad w) 12 [(0, .ref (ad 2)), (1, .ref (ad 5)), (2, .int y2), (4, .int y4), (5, .int y5)] [] := by
  intro n
  induction n with
  | zero =>
    intro y5 w rw hit kk
    exact (iter_0 hit).elim
  | succ n ih =>
    intro y5 w rw hit kk
    obtain ⟨o, h1, hit⟩ := iter_one hit
    have hf : bd_X0_passOn_12 fu y2 y4 y5 w = some o := h1
    unfold bd_X0_passOn_12 at hf
    refine x_iload X dX0_passOn_12 4 rfl ?_
    refine x_iload X dX0_passOn_14 3 rfl ?_
    refine x_icmp_ge X (tgt := 74) dX0_passOn_16 (by decide) hf (fun hf => ?_) (fun hf => ?_)
    · cases hf
      cases hit
      refine x_lpick (lv2 := []) [] rfl ?_
      exact kk
    · refine x_aload_n X dX0_passOn_19 0 rfl ?_
      refine x_get X E.1.1 (T := TX0) (C := RX0) inW0 2 rfl rfl 6 (by decide) w_146 rfl (v := .ref (ad 16)) rfl dX0_passOn_20 ?_
      refine x_iload X dX0_passOn_23 4 rfl ?_
      refine x_iald X E.1.1 16 rfl dX0_passOn_25 hf (fun x1 hf => ?_)
      refine x_istore X (lv2 := [(6, .int x1), (0, .ref (ad 2)), (1, .ref (ad 5)), (2, .int y2), (4, .int y4), (5, .int y5)]) dX0_passOn_26 (by decide) rfl ?_
      refine x_aload_n X dX0_passOn_28 1 rfl ?_
      refine x_get X E.1.1 (T := TX0) (C := RX0) inW0 2 rfl rfl 7 (by decide) w_5032 rfl (v := .ref (ad 18)) rfl dX0_passOn_29 ?_
      refine x_iload_n X dX0_passOn_32 3 rfl ?_
      refine x_lald X E.1.1 18 rfl dX0_passOn_33 hf (fun x2 hf => ?_)
      refine x_iload X dX0_passOn_34 0 rfl ?_
      obtain ⟨x3, hx3, hf⟩ := bn_some hf
      refine x_callSN_i X (As := [.long x2, .int x1]) (rest := []) (n := 2) (goodY w_275) w_274 w_47 (host := "RoadOracle") (E.1.2.1 _ (NWL_in 313 (by decide +kernel) rfl)) (met_X3_has l fu x2 x1 x3 hx3) rfl rfl (by decide +kernel) ⟨by decide, by decide⟩ rfl rfl (Nat.le_of_ble_eq_true rfl) dX0_passOn_36 ⟨by decide, by decide⟩ ?_
      refine x_if_eq X (tgt := 68) dX0_passOn_39 (by decide) hf (fun hf => ?_) (fun hf => ?_)
      · refine x_iinc X dX0_passOn_68 5 rfl (by decide) (y5 + 1) rfl hf (fun x4 => [(5, .int x4), (6, .int x1), (0, .ref (ad 2)), (1, .ref (ad 5)), (2, .int y2), (4, .int y4)]) (fun _ => rfl) (fun x4 hf => ?_)
        refine x_goto X (tgt := 12) dX0_passOn_71 (by decide) ?_
        cases hf
        refine x_lpick (lv2 := [(0, .ref (ad 2)), (1, .ref (ad 5)), (2, .int y2), (4, .int y4), (5, .int x4)]) [2, 3, 4, 5, 0] rfl ?_
        exact ih _ _ _ hit kk
      · refine x_aload_n X dX0_passOn_42 2 rfl ?_
        refine x_iload X dX0_passOn_43 0 rfl ?_
        refine x_aload_n X dX0_passOn_45 2 rfl ?_
        refine x_iload X dX0_passOn_46 0 rfl ?_
        refine x_iald X E.1.1 5 rfl dX0_passOn_48 hf (fun x5 hf => ?_)
        refine x_aload_n X dX0_passOn_49 2 rfl ?_
        refine x_iload_n X dX0_passOn_50 3 rfl ?_
        refine x_iald X E.1.1 5 rfl dX0_passOn_51 hf (fun x6 hf => ?_)
        refine x_aload_n X dX0_passOn_52 1 rfl ?_
        refine x_get X E.1.1 (T := TX0) (C := RX0) inW0 2 rfl rfl 9 (by decide) w_5035 rfl (v := .ref (ad 20)) rfl dX0_passOn_53 ?_
        refine x_iload_n X dX0_passOn_56 3 rfl ?_
        refine x_iload X dX0_passOn_57 0 rfl ?_
        obtain ⟨x7, hx7, hf⟩ := bn_some hf
        refine x_callSN_i X (As := [.int y2, .int x1]) (rest := [.ref (ad 20), .int x6, .int x5, .int x1, .ref (ad 5)]) (n := 2) (goodY w_294) w_293 w_47 (host := "RoadOracle") (E.1.2.1 _ (NWL_in 348 (by decide +kernel) rfl)) (met_X3_pair l fu y2 x1 x7 hx7) rfl rfl (by decide +kernel) ⟨by decide, by decide⟩ rfl rfl (Nat.le_of_ble_eq_true rfl) dX0_passOn_59 ⟨by decide, by decide⟩ ?_
        refine x_iald X E.1.1 20 rfl dX0_passOn_62 hf (fun x8 hf => ?_)
        refine x_iadd X dX0_passOn_63 ?_
        refine x_mmin X w_5133 w_496 w_62 w_497 (by decide) (Nat.le_of_ble_eq_true rfl) (by decide) (by decide) dX0_passOn_64 ?_
        refine x_iast X E.1.1 5 rfl dX0_passOn_67 hf (picC kA ad) (setC_5 kA ad _ _ _) (fun w9 hf => ?_)
        refine x_iinc X dX0_passOn_68 5 rfl (by decide) (y5 + 1) rfl hf (fun x10 => [(5, .int x10), (6, .int x1), (0, .ref (ad 2)), (1, .ref (ad 5)), (2, .int y2), (4, .int y4)]) (fun _ => rfl) (fun x10 hf => ?_)
        refine x_goto X (tgt := 12) dX0_passOn_71 (by decide) ?_
        cases hf
        refine x_lpick (lv2 := [(0, .ref (ad 2)), (1, .ref (ad 5)), (2, .int y2), (4, .int y4), (5, .int x10)]) [2, 3, 4, 5, 0] rfl ?_
        exact ih _ _ _ hit kk
set_option maxRecDepth 100000 in
set_option maxHeartbeats 4000000 in
theorem met_X0_passOn (l : Launch) (hst : l.stackTraces = false) (D : va_G) (kA : Nat → ClassId) (ad : Nat → Nat) (fu : Nat) (w : WS) (a2 : Int32) (a3 : Int32) (a4 : Int32) (w1 : WS) (hf : f_X0_passOn fu w a2 a3 a4 = some w1) (sz : Nat) : Met l yX0_passOn (wsY yX0_passOn cX0_passOn 7 none) rm_X0_passOn (va_Pc [.ref (ad 2), .ref (ad 5), .int a2, .int a3, .int a4] (PreG D kA (picC kA ad w) sz)) (va_Qv (fun (_ : Unit) => True) (fun _ t => PosG D (va_A (picC kA ad w) sz) (picC kA ad w1) t) (va_A (picC kA ad w) sz)) 0 0 (va_A (picC kA ad w) sz) := by
  refine metG (own := RX0) hst (by decide +kernel) rfl (Nat.le_of_ble_eq_true rfl) rfl ?_
  intro p e s m below meth c X hr hlk E _
  unfold f_X0_passOn at hf
  refine x_aload_n X dX0_passOn_0 1 rfl ?_
  refine x_iload_n X dX0_passOn_1 2 rfl ?_
  refine x_iald X E.1.1 5 rfl dX0_passOn_2 hf (fun x1 hf => ?_)
  refine x_ldc X (v := 536870912) w_5151 dX0_passOn_3 ?_
  refine x_icmp_lt X (tgt := 9) dX0_passOn_5 (by decide) hf (fun hf => ?_) (fun hf => ?_)
  · refine x_iload_n X dX0_passOn_9 3 rfl ?_
    refine x_istore X (lv2 := [(5, .int a3), (0, .ref (ad 2)), (1, .ref (ad 5)), (2, .int a2), (3, .int a3), (4, .int a4)]) dX0_passOn_10 (by decide) rfl ?_
    refine x_lpick (lv2 := [(0, .ref (ad 2)), (1, .ref (ad 5)), (2, .int a2), (4, .int a4), (5, .int a3)]) [1, 2, 3, 5, 0] rfl ?_
    obtain ⟨w2, h3, hf⟩ := bn_some hf
    refine lp_X0_passOn_12 X E fu a2 a4 fu a3 w w2 h3 ?_
    cases hf
    exact x_vret X hr hlk rfl dX0_passOn_74
  · cases hf
    exact x_vret X hr hlk rfl dX0_passOn_8
end
section
variable {p : Program} {l : Launch} {e : Env} {s : State} {m : MethodId} {args : Array Value} {below : List Frame} {meth : Method} {c : Code} {D : va_G} {kA : Nat → ClassId} {A : Nat → Prop} {Q : State → Prop} {ad al : Nat → Nat} {b L : Nat} {xs : Nat → Int32}
abbrev rm_X0_spreadForward : Room := { frames := 2, cells := 0, slots := 0, locals := 48 }
set_option maxRecDepth 100000 in
set_option maxHeartbeats 4000000 in
theorem lp_X0_spreadForward_2 (X : CX p m c cX0_spreadForward 3 s args RX0) (E : EX l s D kA A) (fu : Nat)  : ∀ (n : Nat) (y2 : Int32) (w : WS) (rw : WS), iter (fun q => bd_X0_spreadForward_2 fu q.1 q.2) n (y2, w) = some (rw) → CS p l e rm_X0_spreadForward s m args below meth c D A 3 0 0 Q (picC kA ad rw) 34 [(0, .ref (ad 2)), (1, .ref (ad 5))] [] → CS p l e rm_X0_spreadForward s m args below meth c D A 3 0 0 Q (picC kA ad w) 2 [(0, .ref (ad 2)), (1, .ref (ad 5)), (2, .int y2)] [] := by
  intro n
  induction n with
  | zero =>
    intro y2 w rw hit kk
    exact (iter_0 hit).elim
  | succ n ih =>
    intro y2 w rw hit kk
    obtain ⟨o, h1, hit⟩ := iter_one hit
    have hf : bd_X0_spreadForward_2 fu y2 w = some o := h1
    unfold bd_X0_spreadForward_2 at hf
    refine x_iload_n X dX0_spreadForward_2 2 rfl ?_
    refine x_aload_n X dX0_spreadForward_3 0 rfl ?_
    refine x_get X E.1.1 (T := TX0) (C := RX0) inW0 2 rfl rfl 2 (by decide) w_5026 rfl (v := .int (w.1 2 2)) rfl dX0_spreadForward_4 ?_
    refine x_nmI hf (fun x1 hf => ?_)
    refine x_icmp_ge X (tgt := 34) dX0_spreadForward_7 (by decide) hf (fun hf => ?_) (fun hf => ?_)
    · cases hf
      cases hit
      refine x_lpick (lv2 := [(0, .ref (ad 2)), (1, .ref (ad 5))]) [0, 1] rfl ?_
      exact kk
    · refine x_aload_n X dX0_spreadForward_10 0 rfl ?_
      refine x_aload_n X dX0_spreadForward_11 1 rfl ?_
      refine x_aload_n X dX0_spreadForward_12 0 rfl ?_
      refine x_get X E.1.1 (T := TX0) (C := RX0) inW0 2 rfl rfl 6 (by decide) w_146 rfl (v := .ref (ad 16)) rfl dX0_spreadForward_13 ?_
      refine x_iload_n X dX0_spreadForward_16 2 rfl ?_
      refine x_iald X E.1.1 16 rfl dX0_spreadForward_17 hf (fun x2 hf => ?_)
      refine x_iload_n X dX0_spreadForward_18 2 rfl ?_
      refine x_iconst X (v := 1) dX0_spreadForward_19 (by decide) ?_
      refine x_iadd X dX0_spreadForward_20 ?_
      refine x_aload_n X dX0_spreadForward_21 0 rfl ?_
      refine x_get X E.1.1 (T := TX0) (C := RX0) inW0 2 rfl rfl 2 (by decide) w_5026 rfl (v := .int (w.1 2 2)) rfl dX0_spreadForward_22 ?_
      refine x_nmI hf (fun x3 hf => ?_)
      obtain ⟨w4, hw4, hf⟩ := bn_some hf
      refine x_callV_v X E (As := [.ref (ad 5), .int x2, .int (y2 + 1), .int x3]) (rest := []) (n := 4) (ws2 := (picC kA ad w4)) (goodV w_5170 w_677 s_19 w_50 w_5171) (met_X0_passOn l E.2.2.2 D kA ad fu w x2 (y2 + 1) x3 w4 hw4) rfl rfl (by decide +kernel) ⟨by decide, by decide⟩ 2 rfl (qc := (RX0, TX0, _)) rfl rfl rfl rfl (Nat.le_of_ble_eq_true rfl) dX0_spreadForward_25 ⟨by decide, by decide⟩ ?_
      refine x_iinc X dX0_spreadForward_28 2 rfl (by decide) (y2 + 1) rfl hf (fun x5 => [(2, .int x5), (0, .ref (ad 2)), (1, .ref (ad 5))]) (fun _ => rfl) (fun x5 hf => ?_)
      refine x_goto X (tgt := 2) dX0_spreadForward_31 (by decide) ?_
      cases hf
      refine x_lpick (lv2 := [(0, .ref (ad 2)), (1, .ref (ad 5)), (2, .int x5)]) [1, 2, 0] rfl ?_
      exact ih _ _ _ hit kk
set_option maxRecDepth 100000 in
set_option maxHeartbeats 4000000 in
theorem lp_X0_spreadForward_41 (X : CX p m c cX0_spreadForward 3 s args RX0) (E : EX l s D kA A) (fu : Nat)  : ∀ (n : Nat) (y2 : Int32) (w : WS) (rw : WS), iter (fun q => bd_X0_spreadForward_41 fu q.1 q.2) n (y2, w) = some (rw) → CS p l e rm_X0_spreadForward s m args below meth c D A 3 0 0 Q (picC kA ad rw) 64 [] [] → CS p l e rm_X0_spreadForward s m args below meth c D A 3 0 0 Q (picC kA ad w) 41 [(0, .ref (ad 2)), (1, .ref (ad 5)), (2, .int y2)] [] := by
  intro n
  induction n with
  | zero =>
    intro y2 w rw hit kk
    exact (iter_0 hit).elim
  | succ n ih =>
    intro y2 w rw hit kk
    obtain ⟨o, h1, hit⟩ := iter_one hit
    have hf : bd_X0_spreadForward_41 fu y2 w = some o := h1
    unfold bd_X0_spreadForward_41 at hf
    refine x_iload_n X dX0_spreadForward_41 2 rfl ?_
    refine x_if_lt X (tgt := 64) dX0_spreadForward_42 (by decide) hf (fun hf => ?_) (fun hf => ?_)
    · cases hf
      cases hit
      refine x_lpick (lv2 := []) [] rfl ?_
      exact kk
    · refine x_aload_n X dX0_spreadForward_45 0 rfl ?_
      refine x_aload_n X dX0_spreadForward_46 1 rfl ?_
      refine x_aload_n X dX0_spreadForward_47 0 rfl ?_
      refine x_get X E.1.1 (T := TX0) (C := RX0) inW0 2 rfl rfl 6 (by decide) w_146 rfl (v := .ref (ad 16)) rfl dX0_spreadForward_48 ?_
      refine x_iload_n X dX0_spreadForward_51 2 rfl ?_
      refine x_iald X E.1.1 16 rfl dX0_spreadForward_52 hf (fun x1 hf => ?_)
      refine x_iconst X (v := 0) dX0_spreadForward_53 (by decide) ?_
      refine x_iload_n X dX0_spreadForward_54 2 rfl ?_
      obtain ⟨w2, hw2, hf⟩ := bn_some hf
      refine x_callV_v X E (As := [.ref (ad 5), .int x1, .int 0, .int y2]) (rest := []) (n := 4) (ws2 := (picC kA ad w2)) (goodV w_5170 w_677 s_19 w_50 w_5171) (met_X0_passOn l E.2.2.2 D kA ad fu w x1 (0 : Int32) y2 w2 hw2) rfl rfl (by decide +kernel) ⟨by decide, by decide⟩ 2 rfl (qc := (RX0, TX0, _)) rfl rfl rfl rfl (Nat.le_of_ble_eq_true rfl) dX0_spreadForward_55 ⟨by decide, by decide⟩ ?_
      refine x_iinc X dX0_spreadForward_58 2 rfl (by decide) (y2 + (-1)) rfl hf (fun x3 => [(2, .int x3), (0, .ref (ad 2)), (1, .ref (ad 5))]) (fun _ => rfl) (fun x3 hf => ?_)
      refine x_goto X (tgt := 41) dX0_spreadForward_61 (by decide) ?_
      cases hf
      refine x_lpick (lv2 := [(0, .ref (ad 2)), (1, .ref (ad 5)), (2, .int x3)]) [1, 2, 0] rfl ?_
      exact ih _ _ _ hit kk
set_option maxRecDepth 100000 in
set_option maxHeartbeats 4000000 in
theorem met_X0_spreadForward (l : Launch) (hst : l.stackTraces = false) (D : va_G) (kA : Nat → ClassId) (ad : Nat → Nat) (fu : Nat) (w : WS)  (w1 : WS) (hf : f_X0_spreadForward fu w = some w1) (sz : Nat) : Met l yX0_spreadForward (wsY yX0_spreadForward cX0_spreadForward 3 none) rm_X0_spreadForward (va_Pc [.ref (ad 2), .ref (ad 5)] (PreG D kA (picC kA ad w) sz)) (va_Qv (fun (_ : Unit) => True) (fun _ t => PosG D (va_A (picC kA ad w) sz) (picC kA ad w1) t) (va_A (picC kA ad w) sz)) 0 0 (va_A (picC kA ad w) sz) := by
  refine metG (own := RX0) hst (by decide +kernel) rfl (Nat.le_of_ble_eq_true rfl) rfl ?_
  intro p e s m below meth c X hr hlk E _
  unfold f_X0_spreadForward at hf
  refine x_iconst X (v := 0) dX0_spreadForward_0 (by decide) ?_
  refine x_istore_n X (lv2 := [(2, .int 0), (0, .ref (ad 2)), (1, .ref (ad 5))]) dX0_spreadForward_1 (by decide) rfl ?_
  refine x_lpick (lv2 := [(0, .ref (ad 2)), (1, .ref (ad 5)), (2, .int 0)]) [1, 2, 0] rfl ?_
  obtain ⟨w1, h2, hf⟩ := bn_some hf
  refine lp_X0_spreadForward_2 X E fu  fu (0 : Int32) w w1 h2 ?_
  refine x_aload_n X dX0_spreadForward_34 0 rfl ?_
  refine x_get X E.1.1 (T := TX0) (C := RX0) inW0 2 rfl rfl 2 (by decide) w_5026 rfl (v := .int (w1.1 2 2)) rfl dX0_spreadForward_35 ?_
  refine x_nmI hf (fun x3 hf => ?_)
  refine x_iconst X (v := 1) dX0_spreadForward_38 (by decide) ?_
  refine x_isub X dX0_spreadForward_39 ?_
  refine x_nmI hf (fun x4 hf => ?_)
  refine x_istore_n X (lv2 := [(2, .int x4), (0, .ref (ad 2)), (1, .ref (ad 5))]) dX0_spreadForward_40 (by decide) rfl ?_
  refine x_lpick (lv2 := [(0, .ref (ad 2)), (1, .ref (ad 5)), (2, .int x4)]) [1, 2, 0] rfl ?_
  obtain ⟨w5, h6, hf⟩ := bn_some hf
  refine lp_X0_spreadForward_41 X E fu  fu x4 w1 w5 h6 ?_
  cases hf
  exact x_vret X hr hlk rfl dX0_spreadForward_64
end
section
variable {p : Program} {l : Launch} {e : Env} {s : State} {m : MethodId} {args : Array Value} {below : List Frame} {meth : Method} {c : Code} {D : va_G} {kA : Nat → ClassId} {A : Nat → Prop} {Q : State → Prop} {ad al : Nat → Nat} {b L : Nat} {xs : Nat → Int32}
abbrev rm_X2_append : Room := { frames := 1, cells := 0, slots := 0, locals := 20 }
set_option maxRecDepth 100000 in
set_option maxHeartbeats 4000000 in
theorem met_X2_append (l : Launch) (hst : l.stackTraces = false) (D : va_G) (kA : Nat → ClassId) (ad : Nat → Nat) (fu : Nat) (w : WS) (a1 : Int32) (a2 : Int32) (a3 : Int32) (v : Int32) (w1 : WS) (hf : f_X2_append fu w a1 a2 a3 = some (v, w1)) (sz : Nat) : Met l yX2_append (wsY yX2_append cX2_append 5 (some .int)) rm_X2_append (va_Pc [.ref (ad 1), .int a1, .int a2, .int a3] (PreG D kA (picC kA ad w) sz)) (va_Qi (fun (r : Int32) (_ : Unit) => r = v) (fun _ t => PosG D (va_A (picC kA ad w) sz) (picC kA ad w1) t) (va_A (picC kA ad w) sz)) 0 0 (va_A (picC kA ad w) sz) := by
  refine metG (own := RX2) hst (by decide +kernel) rfl (Nat.le_of_ble_eq_true rfl) rfl ?_
  intro p e s m below meth c X hr hlk E _
  unfold f_X2_append at hf
  refine x_aload_n X dX2_append_0 0 rfl ?_
  refine x_get X E.1.1 (T := TX2) (C := RX2) inW2 1 rfl rfl 1 (by decide) w_83 rfl (v := .int (w.1 1 1)) rfl dX2_append_1 ?_
  refine x_nmI hf (fun x1 hf => ?_)
  refine x_istore X (lv2 := [(4, .int x1), (0, .ref (ad 1)), (1, .int a1), (2, .int a2), (3, .int a3)]) dX2_append_4 (by decide) rfl ?_
  refine x_aload_n X dX2_append_6 1 rfl ?_
  refine x_get X E.1.1 (T := TX2) (C := RX2) inW2 1 rfl rfl 2 (by decide) w_87 rfl (v := .ref (ad 9)) rfl dX2_append_7 ?_
  refine x_iload X dX2_append_10 0 rfl ?_
  refine x_iload_n X dX2_append_12 2 rfl ?_
  refine x_iast X E.1.1 9 rfl dX2_append_13 hf (picC kA ad) (setC_9 kA ad _ _ _) (fun w2 hf => ?_)
  refine x_aload_n X dX2_append_14 1 rfl ?_
  refine x_get X E.1.1 (T := TX2) (C := RX2) inW2 1 rfl rfl 3 (by decide) w_89 rfl (v := .ref (ad 10)) rfl dX2_append_15 ?_
  refine x_iload X dX2_append_18 0 rfl ?_
  refine x_iload_n X dX2_append_20 3 rfl ?_
  refine x_iast X E.1.1 10 rfl dX2_append_21 hf (picC kA ad) (setC_10 kA ad _ _ _) (fun w3 hf => ?_)
  refine x_aload_n X dX2_append_22 1 rfl ?_
  refine x_get X E.1.1 (T := TX2) (C := RX2) inW2 1 rfl rfl 4 (by decide) w_91 rfl (v := .ref (ad 11)) rfl dX2_append_23 ?_
  refine x_iload X dX2_append_26 0 rfl ?_
  refine x_iload_n X dX2_append_28 4 rfl ?_
  refine x_iast X E.1.1 11 rfl dX2_append_29 hf (picC kA ad) (setC_11 kA ad _ _ _) (fun w4 hf => ?_)
  refine x_aload_n X dX2_append_30 1 rfl ?_
  refine x_get X E.1.1 (T := TX2) (C := RX2) inW2 1 rfl rfl 6 (by decide) w_97 rfl (v := .ref (ad 13)) rfl dX2_append_31 ?_
  refine x_iload_n X dX2_append_34 2 rfl ?_
  refine x_dup2 X dX2_append_35 rfl rfl ?_
  refine x_lald X E.1.1 13 rfl dX2_append_36 hf (fun x5 hf => ?_)
  refine x_iload X dX2_append_37 0 rfl ?_
  obtain ⟨x6, hx6, hf⟩ := bn_some hf
  refine x_callSN_l X (As := [.int x1]) (rest := [.long x5, .int a1, .ref (ad 13)]) (n := 1) (goodY w_433) w_432 w_47 (host := "RoadOracle") (E.1.2.1 _ (NWL_in 305 (by decide +kernel) rfl)) (met_X3_only l fu x1 x6 hx6) rfl rfl (by decide +kernel) ⟨by decide, by decide⟩ rfl rfl (Nat.le_of_ble_eq_true rfl) dX2_append_39 ⟨by decide, by decide⟩ ?_
  refine x_lor X dX2_append_42 ?_
  refine x_last X E.1.1 13 rfl dX2_append_43 hf (picC kA ad) (setC_13 kA ad _ _ _) (fun w7 hf => ?_)
  refine x_aload_n X dX2_append_44 1 rfl ?_
  refine x_get X E.1.1 (T := TX2) (C := RX2) inW2 1 rfl rfl 7 (by decide) w_99 rfl (v := .ref (ad 14)) rfl dX2_append_45 ?_
  refine x_iload_n X dX2_append_48 3 rfl ?_
  refine x_dup2 X dX2_append_49 rfl rfl ?_
  refine x_lald X E.1.1 14 rfl dX2_append_50 hf (fun x8 hf => ?_)
  refine x_iload X dX2_append_51 0 rfl ?_
  obtain ⟨x9, hx9, hf⟩ := bn_some hf
  refine x_callSN_l X (As := [.int x1]) (rest := [.long x8, .int a2, .ref (ad 14)]) (n := 1) (goodY w_433) w_432 w_47 (host := "RoadOracle") (E.1.2.1 _ (NWL_in 305 (by decide +kernel) rfl)) (met_X3_only l fu x1 x9 hx9) rfl rfl (by decide +kernel) ⟨by decide, by decide⟩ rfl rfl (Nat.le_of_ble_eq_true rfl) dX2_append_53 ⟨by decide, by decide⟩ ?_
  refine x_lor X dX2_append_56 ?_
  refine x_last X E.1.1 14 rfl dX2_append_57 hf (picC kA ad) (setC_14 kA ad _ _ _) (fun w10 hf => ?_)
  refine x_aload_n X dX2_append_58 1 rfl ?_
  refine x_dup X dX2_append_59 rfl ?_
  refine x_get X E.1.1 (T := TX2) (C := RX2) inW2 1 rfl rfl 8 (by decide) w_101 rfl (v := .long (w10.2 1 8)) rfl dX2_append_60 ?_
  refine x_nmL hf (fun x11 hf => ?_)
  refine x_iload X dX2_append_63 0 rfl ?_
  obtain ⟨x12, hx12, hf⟩ := bn_some hf
  refine x_callSN_l X (As := [.int x1]) (rest := [.long x11, .ref (ad 1)]) (n := 1) (goodY w_433) w_432 w_47 (host := "RoadOracle") (E.1.2.1 _ (NWL_in 305 (by decide +kernel) rfl)) (met_X3_only l fu x1 x12 hx12) rfl rfl (by decide +kernel) ⟨by decide, by decide⟩ rfl rfl (Nat.le_of_ble_eq_true rfl) dX2_append_65 ⟨by decide, by decide⟩ ?_
  refine x_lor X dX2_append_68 ?_
  refine x_put X E.1.1 (T := TX2) (C := RX2) (ty := .long) inW2 tyX2 tyX2_ok nmX2 1 rfl rfl 8 (by decide) w_101 rfl rfl (by decide +kernel) rfl rfl (Nat.le_of_ble_eq_true rfl) dX2_append_69 (picC kA ad (wL w10 1 8 (x11 ||| x12))) rfl ?_
  refine x_nmW (pic := (picC kA ad)) (u := (wL w10 1 8 (x11 ||| x12))) hf (fun w13 hf => ?_)
  refine x_aload_n X dX2_append_72 1 rfl ?_
  refine x_dup X dX2_append_73 rfl ?_
  refine x_get X E.1.1 (T := TX2) (C := RX2) inW2 1 rfl rfl 1 (by decide) w_83 rfl (v := .int (w13.1 1 1)) rfl dX2_append_74 ?_
  refine x_nmI hf (fun x14 hf => ?_)
  refine x_iconst X (v := 1) dX2_append_77 (by decide) ?_
  refine x_iadd X dX2_append_78 ?_
  refine x_put X E.1.1 (T := TX2) (C := RX2) (ty := .int) inW2 tyX2 tyX2_ok nmX2 1 rfl rfl 1 (by decide) w_83 rfl rfl (by decide +kernel) rfl rfl (Nat.le_of_ble_eq_true rfl) dX2_append_79 (picC kA ad (wI w13 1 1 (x14 + 1))) rfl ?_
  refine x_nmW (pic := (picC kA ad)) (u := (wI w13 1 1 (x14 + 1))) hf (fun w15 hf => ?_)
  refine x_iload X dX2_append_82 0 rfl ?_
  cases hf
  exact x_iret X hr hlk rfl rfl dX2_append_84
end
section
variable {p : Program} {l : Launch} {e : Env} {s : State} {m : MethodId} {args : Array Value} {below : List Frame} {meth : Method} {c : Code} {D : va_G} {kA : Nat → ClassId} {A : Nat → Prop} {Q : State → Prop} {ad al : Nat → Nat} {b L : Nat} {xs : Nat → Int32}
abbrev rm_X2_openOrClose : Room := { frames := 1, cells := 0, slots := 0, locals := 20 }
set_option maxRecDepth 100000 in
set_option maxHeartbeats 4000000 in
theorem met_X2_openOrClose (l : Launch) (hst : l.stackTraces = false) (D : va_G) (kA : Nat → ClassId) (ad : Nat → Nat) (fu : Nat) (w : WS) (a1 : Int32) (a2 : Int32) (w1 : WS) (hf : f_X2_openOrClose fu w a1 a2 = some w1) (sz : Nat) : Met l yX2_openOrClose (wsY yX2_openOrClose cX2_openOrClose 5 none) rm_X2_openOrClose (va_Pc [.ref (ad 1), .int a1, .int a2] (PreG D kA (picC kA ad w) sz)) (va_Qv (fun (_ : Unit) => True) (fun _ t => PosG D (va_A (picC kA ad w) sz) (picC kA ad w1) t) (va_A (picC kA ad w) sz)) 0 0 (va_A (picC kA ad w) sz) := by
  refine metG (own := RX2) hst (by decide +kernel) rfl (Nat.le_of_ble_eq_true rfl) rfl ?_
  intro p e s m below meth c X hr hlk E _
  unfold f_X2_openOrClose at hf
  refine x_aload_n X dX2_openOrClose_0 0 rfl ?_
  refine x_get X E.1.1 (T := TX2) (C := RX2) inW2 1 rfl rfl 8 (by decide) w_101 rfl (v := .long (w.2 1 8)) rfl dX2_openOrClose_1 ?_
  refine x_nmL hf (fun x1 hf => ?_)
  refine x_iload_n X dX2_openOrClose_4 1 rfl ?_
  obtain ⟨x2, hx2, hf⟩ := bn_some hf
  refine x_callSN_l X (As := [.int a1]) (rest := [.long x1]) (n := 1) (goodY w_433) w_432 w_47 (host := "RoadOracle") (E.1.2.1 _ (NWL_in 305 (by decide +kernel) rfl)) (met_X3_only l fu a1 x2 hx2) rfl rfl (by decide +kernel) ⟨by decide, by decide⟩ rfl rfl (Nat.le_of_ble_eq_true rfl) dX2_openOrClose_5 ⟨by decide, by decide⟩ ?_
  refine x_ldc2 X (v := (-1)) w_553 dX2_openOrClose_8 ?_
  refine x_lxor X dX2_openOrClose_11 ?_
  refine x_land X dX2_openOrClose_12 ?_
  refine x_nmL hf (fun x3 hf => ?_)
  refine x_lstore_n X (lv2 := [(3, .long x3), (0, .ref (ad 1)), (1, .int a1), (2, .int a2)]) dX2_openOrClose_13 (by decide) rfl ?_
  refine x_aload_n X dX2_openOrClose_14 1 rfl ?_
  refine x_iload_n X dX2_openOrClose_15 3 rfl ?_
  refine x_if_eq X (tgt := 28) dX2_openOrClose_16 (by decide) hf (fun hf => ?_) (fun hf => ?_)
  · refine x_lload_n X dX2_openOrClose_28 0 rfl ?_
    refine x_put X E.1.1 (T := TX2) (C := RX2) (ty := .long) inW2 tyX2 tyX2_ok nmX2 1 rfl rfl 8 (by decide) w_101 rfl rfl (by decide +kernel) rfl rfl (Nat.le_of_ble_eq_true rfl) dX2_openOrClose_29 (picC kA ad (wL w 1 8 x3)) rfl ?_
    refine x_nmW (pic := (picC kA ad)) (u := (wL w 1 8 x3)) hf (fun w4 hf => ?_)
    cases hf
    exact x_vret X hr hlk rfl dX2_openOrClose_32
  · refine x_lload_n X dX2_openOrClose_19 0 rfl ?_
    refine x_iload_n X dX2_openOrClose_20 2 rfl ?_
    obtain ⟨x5, hx5, hf⟩ := bn_some hf
    refine x_callSN_l X (As := [.int a1]) (rest := [.long x3, .ref (ad 1)]) (n := 1) (goodY w_433) w_432 w_47 (host := "RoadOracle") (E.1.2.1 _ (NWL_in 305 (by decide +kernel) rfl)) (met_X3_only l fu a1 x5 hx5) rfl rfl (by decide +kernel) ⟨by decide, by decide⟩ rfl rfl (Nat.le_of_ble_eq_true rfl) dX2_openOrClose_21 ⟨by decide, by decide⟩ ?_
    refine x_lor X dX2_openOrClose_24 ?_
    refine x_goto X (tgt := 29) dX2_openOrClose_25 (by decide) ?_
    refine x_put X E.1.1 (T := TX2) (C := RX2) (ty := .long) inW2 tyX2 tyX2_ok nmX2 1 rfl rfl 8 (by decide) w_101 rfl rfl (by decide +kernel) rfl rfl (Nat.le_of_ble_eq_true rfl) dX2_openOrClose_29 (picC kA ad (wL w 1 8 (x3 ||| x5))) rfl ?_
    refine x_nmW (pic := (picC kA ad)) (u := (wL w 1 8 (x3 ||| x5))) hf (fun w6 hf => ?_)
    cases hf
    exact x_vret X hr hlk rfl dX2_openOrClose_32
end
