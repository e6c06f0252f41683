section
variable {p : Program} {l : Launch} {e : Env} {s : State} {m : MethodId} {args : Array Value} {below : List Frame} {meth : Method} {c : Code} {D : va_G} {kA : Nat → ClassId} {A : Nat → Prop} {Q : State → Prop} {ad al : Nat → Nat} {b L : Nat} {xs : Nat → Int32}
abbrev rm_X3_addJunction : Room := { frames := 1, cells := 0, slots := 0, locals := 60 }
set_option maxRecDepth 100000 in
set_option maxHeartbeats 4000000 in
theorem met_X3_addJunction (l : Launch) (hst : l.stackTraces = false) (D : va_G) (kA : Nat → ClassId) (ad : Nat → Nat) (fu : Nat) (w : WS)  (v : Int32) (w1 : WS) (hf : f_X3_addJunction fu w = some (.inl (v, w1))) (sz : Nat) : Met l yX3_addJunction (wsY yX3_addJunction cX3_addJunction 1 (some .int)) rm_X3_addJunction (va_Pc [.ref (ad 0)] (PreG D kA (picC kA ad w) sz)) (va_Qi (fun (r : Int32) (_ : Unit) => r = v) (fun _ t => PosG D (va_A (picC kA ad w) sz) (picC kA ad w1) t) (va_A (picC kA ad w) sz)) 0 0 (va_A (picC kA ad w) sz) := by
  refine metG (own := RX3) hst (by decide +kernel) rfl (Nat.le_of_ble_eq_true rfl) rfl ?_
  intro p e s m below meth c X hr hlk E _
  unfold f_X3_addJunction at hf
  refine x_aload_n X dX3_addJunction_0 0 rfl ?_
  refine x_get X E.1.1 (T := TX3) (C := RX3) inW3 0 rfl rfl 0 (by decide) w_212 rfl (v := .ref (ad 1)) rfl dX3_addJunction_1 ?_
  refine x_get X E.1.1 (T := TX2) (C := RX2) inW2 1 rfl rfl 0 (by decide) w_5001 rfl (v := .int (w.1 1 0)) rfl dX3_addJunction_4 ?_
  refine x_nmI hf (fun x1 hf => ?_)
  refine x_bipush X (v := 32) dX3_addJunction_7 (by decide) ?_
  refine x_icmp_lt X (tgt := 22) dX3_addJunction_9 (by decide) hf (fun hf => ?_) (fun hf => ?_)
  · refine x_aload_n X dX3_addJunction_22 0 rfl ?_
    refine x_get X E.1.1 (T := TX3) (C := RX3) inW3 0 rfl rfl 0 (by decide) w_212 rfl (v := .ref (ad 1)) rfl dX3_addJunction_23 ?_
    refine x_dup X dX3_addJunction_26 rfl ?_
    refine x_get X E.1.1 (T := TX2) (C := RX2) inW2 1 rfl rfl 0 (by decide) w_5001 rfl (v := .int (w.1 1 0)) rfl dX3_addJunction_27 ?_
    refine x_nmI hf (fun x2 hf => ?_)
    refine x_iconst X (v := 1) dX3_addJunction_30 (by decide) ?_
    refine x_iadd X dX3_addJunction_31 ?_
    refine x_put X E.1.1 (T := TX2) (C := RX2) (ty := .int) inW2 tyX2 tyX2_ok nmX2 1 rfl rfl 0 (by decide) w_5001 rfl rfl (by decide +kernel) rfl rfl (Nat.le_of_ble_eq_true rfl) dX3_addJunction_32 (picC kA ad (wI w 1 0 (x2 + 1))) rfl ?_
    refine x_nmW (pic := (picC kA ad)) (u := (wI w 1 0 (x2 + 1))) hf (fun w3 hf => ?_)
    refine x_aload_n X dX3_addJunction_35 0 rfl ?_
    refine x_get X E.1.1 (T := TX3) (C := RX3) inW3 0 rfl rfl 0 (by decide) w_212 rfl (v := .ref (ad 1)) rfl dX3_addJunction_36 ?_
    refine x_get X E.1.1 (T := TX2) (C := RX2) inW2 1 rfl rfl 0 (by decide) w_5001 rfl (v := .int (w3.1 1 0)) rfl dX3_addJunction_39 ?_
    refine x_nmI hf (fun x4 hf => ?_)
    refine x_iconst X (v := 1) dX3_addJunction_42 (by decide) ?_
    refine x_isub X dX3_addJunction_43 ?_
    cases hf
    exact x_iret X hr hlk rfl rfl dX3_addJunction_44
  · cases hf
end
section
variable {p : Program} {l : Launch} {e : Env} {s : State} {m : MethodId} {args : Array Value} {below : List Frame} {meth : Method} {c : Code} {D : va_G} {kA : Nat → ClassId} {A : Nat → Prop} {Q : State → Prop} {ad al : Nat → Nat} {b L : Nat} {xs : Nat → Int32}
abbrev rm_X3_requireJunction : Room := { frames := 1, cells := 0, slots := 0, locals := 60 }
set_option maxRecDepth 100000 in
set_option maxHeartbeats 4000000 in
theorem met_X3_requireJunction (l : Launch) (hst : l.stackTraces = false) (D : va_G) (kA : Nat → ClassId) (ad : Nat → Nat) (fu : Nat) (w : WS) (a1 : Int32) (w1 : WS) (hf : f_X3_requireJunction fu w a1 = some (.inl w1)) (sz : Nat) : Met l yX3_requireJunction (wsY yX3_requireJunction cX3_requireJunction 2 none) rm_X3_requireJunction (va_Pc [.ref (ad 0), .int a1] (PreG D kA (picC kA ad w) sz)) (va_Qv (fun (_ : Unit) => True) (fun _ t => PosG D (va_A (picC kA ad w) sz) (picC kA ad w1) t) (va_A (picC kA ad w) sz)) 0 0 (va_A (picC kA ad w) sz) := by
  refine metG (own := RX3) hst (by decide +kernel) rfl (Nat.le_of_ble_eq_true rfl) rfl ?_
  intro p e s m below meth c X hr hlk E _
  unfold f_X3_requireJunction at hf
  refine x_iload_n X dX3_requireJunction_0 1 rfl ?_
  refine x_if_lt X (tgt := 15) dX3_requireJunction_1 (by decide) hf (fun hf => ?_) (fun hf => ?_)
  · cases hf
  · refine x_iload_n X dX3_requireJunction_4 1 rfl ?_
    refine x_aload_n X dX3_requireJunction_5 0 rfl ?_
    refine x_get X E.1.1 (T := TX3) (C := RX3) inW3 0 rfl rfl 0 (by decide) w_212 rfl (v := .ref (ad 1)) rfl dX3_requireJunction_6 ?_
    refine x_get X E.1.1 (T := TX2) (C := RX2) inW2 1 rfl rfl 0 (by decide) w_5001 rfl (v := .int (w.1 1 0)) rfl dX3_requireJunction_9 ?_
    refine x_nmI hf (fun x1 hf => ?_)
    refine x_icmp_lt X (tgt := 25) dX3_requireJunction_12 (by decide) hf (fun hf => ?_) (fun hf => ?_)
    · cases hf
      exact x_vret X hr hlk rfl dX3_requireJunction_25
    · cases hf
end
section
variable {p : Program} {l : Launch} {e : Env} {s : State} {m : MethodId} {args : Array Value} {below : List Frame} {meth : Method} {c : Code} {D : va_G} {kA : Nat → ClassId} {A : Nat → Prop} {Q : State → Prop} {ad al : Nat → Nat} {b L : Nat} {xs : Nat → Int32}
abbrev rm_X3_requireWeight : Room := { frames := 1, cells := 0, slots := 0, locals := 60 }
set_option maxRecDepth 100000 in
set_option maxHeartbeats 4000000 in
theorem met_X3_requireWeight (l : Launch) (hst : l.stackTraces = false) (D : va_G) (kA : Nat → ClassId) (ad : Nat → Nat) (fu : Nat) (w : WS) (a1 : Int32) (w1 : WS) (hf : f_X3_requireWeight fu w a1 = some (.inl w1)) (sz : Nat) : Met l yX3_requireWeight (wsY yX3_requireWeight cX3_requireWeight 2 none) rm_X3_requireWeight (va_Pc [.ref (ad 0), .int a1] (PreG D kA (picC kA ad w) sz)) (va_Qv (fun (_ : Unit) => True) (fun _ t => PosG D (va_A (picC kA ad w) sz) (picC kA ad w1) t) (va_A (picC kA ad w) sz)) 0 0 (va_A (picC kA ad w) sz) := by
  refine metG (own := RX3) hst (by decide +kernel) rfl (Nat.le_of_ble_eq_true rfl) rfl ?_
  intro p e s m below meth c X hr hlk E _
  unfold f_X3_requireWeight at hf
  refine x_iload_n X dX3_requireWeight_0 1 rfl ?_
  refine x_iconst X (v := 1) dX3_requireWeight_1 (by decide) ?_
  refine x_icmp_lt X (tgt := 12) dX3_requireWeight_2 (by decide) hf (fun hf => ?_) (fun hf => ?_)
  · cases hf
  · refine x_iload_n X dX3_requireWeight_5 1 rfl ?_
    refine x_sipush X (v := 10000) dX3_requireWeight_6 (by decide) ?_
    refine x_icmp_le X (tgt := 23) dX3_requireWeight_9 (by decide) hf (fun hf => ?_) (fun hf => ?_)
    · cases hf
      exact x_vret X hr hlk rfl dX3_requireWeight_23
    · cases hf
end
section
variable {p : Program} {l : Launch} {e : Env} {s : State} {m : MethodId} {args : Array Value} {below : List Frame} {meth : Method} {c : Code} {D : va_G} {kA : Nat → ClassId} {A : Nat → Prop} {Q : State → Prop} {ad al : Nat → Nat} {b L : Nat} {xs : Nat → Int32}
abbrev rm_X3_addRoad : Room := { frames := 2, cells := 0, slots := 0, locals := 81 }
set_option maxRecDepth 100000 in
set_option maxHeartbeats 4000000 in
theorem met_X3_addRoad (l : Launch) (hst : l.stackTraces = false) (D : va_G) (kA : Nat → ClassId) (ad : Nat → Nat) (fu : Nat) (w : WS) (a1 : Int32) (a2 : Int32) (a3 : Int32) (v : Int32) (w1 : WS) (hf : f_X3_addRoad fu w a1 a2 a3 = some (.inl (v, w1))) (sz : Nat) : Met l yX3_addRoad (wsY yX3_addRoad cX3_addRoad 4 (some .int)) rm_X3_addRoad (va_Pc [.ref (ad 0), .int a1, .int a2, .int a3] (PreG D kA (picC kA ad w) sz)) (va_Qi (fun (r : Int32) (_ : Unit) => r = v) (fun _ t => PosG D (va_A (picC kA ad w) sz) (picC kA ad w1) t) (va_A (picC kA ad w) sz)) 0 0 (va_A (picC kA ad w) sz) := by
  refine metG (own := RX3) hst (by decide +kernel) rfl (Nat.le_of_ble_eq_true rfl) rfl ?_
  intro p e s m below meth c X hr hlk E _
  unfold f_X3_addRoad at hf
  refine x_aload_n X dX3_addRoad_0 0 rfl ?_
  refine x_iload_n X dX3_addRoad_1 1 rfl ?_
  obtain ⟨w1, hw1, hf⟩ := bxr_some hf
  refine x_callV_v X E (As := [.int a1]) (rest := []) (n := 1) (ws2 := (picC kA ad w1)) (goodV w_5106 w_387 s_1 w_47 w_388) (met_X3_requireJunction l E.2.2.2 D kA ad fu w a1 w1 hw1) rfl rfl (by decide +kernel) ⟨by decide, by decide⟩ 0 rfl (qc := (RX3, TX3, _)) rfl rfl rfl rfl (Nat.le_of_ble_eq_true rfl) dX3_addRoad_2 ⟨by decide, by decide⟩ ?_
  refine x_aload_n X dX3_addRoad_5 0 rfl ?_
  refine x_iload_n X dX3_addRoad_6 2 rfl ?_
  obtain ⟨w2, hw2, hf⟩ := bxr_some hf
  refine x_callV_v X E (As := [.int a2]) (rest := []) (n := 1) (ws2 := (picC kA ad w2)) (goodV w_5106 w_387 s_1 w_47 w_388) (met_X3_requireJunction l E.2.2.2 D kA ad fu w1 a2 w2 hw2) rfl rfl (by decide +kernel) ⟨by decide, by decide⟩ 0 rfl (qc := (RX3, TX3, _)) rfl rfl rfl rfl (Nat.le_of_ble_eq_true rfl) dX3_addRoad_7 ⟨by decide, by decide⟩ ?_
  refine x_iload_n X dX3_addRoad_10 1 rfl ?_
  refine x_iload_n X dX3_addRoad_11 2 rfl ?_
  refine x_icmp_ne X (tgt := 25) dX3_addRoad_12 (by decide) hf (fun hf => ?_) (fun hf => ?_)
  · refine x_aload_n X dX3_addRoad_25 0 rfl ?_
    refine x_iload_n X dX3_addRoad_26 3 rfl ?_
    obtain ⟨w3, hw3, hf⟩ := bxr_some hf
    refine x_callV_v X E (As := [.int a3]) (rest := []) (n := 1) (ws2 := (picC kA ad w3)) (goodV w_5115 w_423 s_2 w_47 w_424) (met_X3_requireWeight l E.2.2.2 D kA ad fu w2 a3 w3 hw3) rfl rfl (by decide +kernel) ⟨by decide, by decide⟩ 0 rfl (qc := (RX3, TX3, _)) rfl rfl rfl rfl (Nat.le_of_ble_eq_true rfl) dX3_addRoad_27 ⟨by decide, by decide⟩ ?_
    refine x_aload_n X dX3_addRoad_30 0 rfl ?_
    refine x_get X E.1.1 (T := TX3) (C := RX3) inW3 0 rfl rfl 0 (by decide) w_212 rfl (v := .ref (ad 1)) rfl dX3_addRoad_31 ?_
    refine x_get X E.1.1 (T := TX2) (C := RX2) inW2 1 rfl rfl 1 (by decide) w_5003 rfl (v := .int (w3.1 1 1)) rfl dX3_addRoad_34 ?_
    refine x_nmI hf (fun x4 hf => ?_)
    refine x_bipush X (v := 64) dX3_addRoad_37 (by decide) ?_
    refine x_icmp_lt X (tgt := 52) dX3_addRoad_39 (by decide) hf (fun hf => ?_) (fun hf => ?_)
    · refine x_aload_n X dX3_addRoad_52 0 rfl ?_
      refine x_get X E.1.1 (T := TX3) (C := RX3) inW3 0 rfl rfl 1 (by decide) w_213 rfl (v := .ref (ad 2)) rfl dX3_addRoad_53 ?_
      refine x_iconst X (v := 0) dX3_addRoad_56 (by decide) ?_
      refine x_put X E.1.1 (T := TX0) (C := RX0) (ty := .boolean) inW0 tyX0 tyX0_ok nmX0 2 rfl rfl 1 (by decide) w_5025 rfl rfl (by decide +kernel) (by decide +kernel) rfl (Nat.le_of_ble_eq_true rfl) dX3_addRoad_57 (picC kA ad (wI w3 2 1 0)) rfl ?_
      refine x_nmW (pic := (picC kA ad)) (u := (wI w3 2 1 0)) hf (fun w5 hf => ?_)
      refine x_aload_n X dX3_addRoad_60 0 rfl ?_
      refine x_get X E.1.1 (T := TX3) (C := RX3) inW3 0 rfl rfl 0 (by decide) w_212 rfl (v := .ref (ad 1)) rfl dX3_addRoad_61 ?_
      refine x_iload_n X dX3_addRoad_64 1 rfl ?_
      refine x_iload_n X dX3_addRoad_65 2 rfl ?_
      refine x_iload_n X dX3_addRoad_66 3 rfl ?_
      obtain ⟨x7, w6, hx7, hf⟩ := bn2_some hf
      refine x_callV_i X E (As := [.int a1, .int a2, .int a3]) (rest := []) (n := 3) (ws2 := (picC kA ad w6)) (goodV w_5116 w_428 w_429 w_48 w_430) (met_X2_append l E.2.2.2 D kA ad fu w5 a1 a2 a3 x7 w6 hx7) rfl rfl (by decide +kernel) ⟨by decide, by decide⟩ 1 rfl (qc := (RX2, TX2, _)) rfl rfl rfl rfl (Nat.le_of_ble_eq_true rfl) dX3_addRoad_67 ⟨by decide, by decide⟩ ?_
      cases hf
      exact x_iret X hr hlk rfl rfl dX3_addRoad_70
    · cases hf
  · cases hf
end
section
variable {p : Program} {l : Launch} {e : Env} {s : State} {m : MethodId} {args : Array Value} {below : List Frame} {meth : Method} {c : Code} {D : va_G} {kA : Nat → ClassId} {A : Nat → Prop} {Q : State → Prop} {ad al : Nat → Nat} {b L : Nat} {xs : Nat → Int32}
abbrev rm_X3_requireRoad : Room := { frames := 1, cells := 0, slots := 0, locals := 60 }
set_option maxRecDepth 100000 in
set_option maxHeartbeats 4000000 in
theorem met_X3_requireRoad (l : Launch) (hst : l.stackTraces = false) (D : va_G) (kA : Nat → ClassId) (ad : Nat → Nat) (fu : Nat) (w : WS) (a1 : Int32) (w1 : WS) (hf : f_X3_requireRoad fu w a1 = some (.inl w1)) (sz : Nat) : Met l yX3_requireRoad (wsY yX3_requireRoad cX3_requireRoad 2 none) rm_X3_requireRoad (va_Pc [.ref (ad 0), .int a1] (PreG D kA (picC kA ad w) sz)) (va_Qv (fun (_ : Unit) => True) (fun _ t => PosG D (va_A (picC kA ad w) sz) (picC kA ad w1) t) (va_A (picC kA ad w) sz)) 0 0 (va_A (picC kA ad w) sz) := by
  refine metG (own := RX3) hst (by decide +kernel) rfl (Nat.le_of_ble_eq_true rfl) rfl ?_
  intro p e s m below meth c X hr hlk E _
  unfold f_X3_requireRoad at hf
  refine x_iload_n X dX3_requireRoad_0 1 rfl ?_
  refine x_if_lt X (tgt := 15) dX3_requireRoad_1 (by decide) hf (fun hf => ?_) (fun hf => ?_)
  · cases hf
  · refine x_iload_n X dX3_requireRoad_4 1 rfl ?_
    refine x_aload_n X dX3_requireRoad_5 0 rfl ?_
    refine x_get X E.1.1 (T := TX3) (C := RX3) inW3 0 rfl rfl 0 (by decide) w_212 rfl (v := .ref (ad 1)) rfl dX3_requireRoad_6 ?_
    refine x_get X E.1.1 (T := TX2) (C := RX2) inW2 1 rfl rfl 1 (by decide) w_5003 rfl (v := .int (w.1 1 1)) rfl dX3_requireRoad_9 ?_
    refine x_nmI hf (fun x1 hf => ?_)
    refine x_icmp_lt X (tgt := 25) dX3_requireRoad_12 (by decide) hf (fun hf => ?_) (fun hf => ?_)
    · cases hf
      exact x_vret X hr hlk rfl dX3_requireRoad_25
    · cases hf
end
section
variable {p : Program} {l : Launch} {e : Env} {s : State} {m : MethodId} {args : Array Value} {below : List Frame} {meth : Method} {c : Code} {D : va_G} {kA : Nat → ClassId} {A : Nat → Prop} {Q : State → Prop} {ad al : Nat → Nat} {b L : Nat} {xs : Nat → Int32}
abbrev rm_X3_setWeight : Room := { frames := 6, cells := 0, slots := 0, locals := 138 }
set_option maxRecDepth 100000 in
set_option maxHeartbeats 4000000 in
theorem met_X3_setWeight (l : Launch) (hst : l.stackTraces = false) (D : va_G) (kA : Nat → ClassId) (ad : Nat → Nat) (fu : Nat) (w : WS) (a1 : Int32) (a2 : Int32) (v : Int32) (w1 : WS) (hf : f_X3_setWeight fu w a1 a2 = some (.inl (v, w1))) (sz : Nat) : Met l yX3_setWeight (wsY yX3_setWeight cX3_setWeight 3 (some .int)) rm_X3_setWeight (va_Pc [.ref (ad 0), .int a1, .int a2] (PreG D kA (picC kA ad w) sz)) (va_Qi (fun (r : Int32) (_ : Unit) => r = v) (fun _ t => PosG D (va_A (picC kA ad w) sz) (picC kA ad w1) t) (va_A (picC kA ad w) sz)) 0 0 (va_A (picC kA ad w) sz) := by
  refine metG (own := RX3) hst (by decide +kernel) rfl (Nat.le_of_ble_eq_true rfl) rfl ?_
  intro p e s m below meth c X hr hlk E _
  unfold f_X3_setWeight at hf
  refine x_aload_n X dX3_setWeight_0 0 rfl ?_
  refine x_iload_n X dX3_setWeight_1 1 rfl ?_
  obtain ⟨w1, hw1, hf⟩ := bxr_some hf
  refine x_callV_v X E (As := [.int a1]) (rest := []) (n := 1) (ws2 := (picC kA ad w1)) (goodV w_5117 w_443 s_3 w_47 w_444) (met_X3_requireRoad l E.2.2.2 D kA ad fu w a1 w1 hw1) rfl rfl (by decide +kernel) ⟨by decide, by decide⟩ 0 rfl (qc := (RX3, TX3, _)) rfl rfl rfl rfl (Nat.le_of_ble_eq_true rfl) dX3_setWeight_2 ⟨by decide, by decide⟩ ?_
  refine x_aload_n X dX3_setWeight_5 0 rfl ?_
  refine x_iload_n X dX3_setWeight_6 2 rfl ?_
  obtain ⟨w2, hw2, hf⟩ := bxr_some hf
  refine x_callV_v X E (As := [.int a2]) (rest := []) (n := 1) (ws2 := (picC kA ad w2)) (goodV w_5115 w_423 s_2 w_47 w_424) (met_X3_requireWeight l E.2.2.2 D kA ad fu w1 a2 w2 hw2) rfl rfl (by decide +kernel) ⟨by decide, by decide⟩ 0 rfl (qc := (RX3, TX3, _)) rfl rfl rfl rfl (Nat.le_of_ble_eq_true rfl) dX3_setWeight_7 ⟨by decide, by decide⟩ ?_
  refine x_aload_n X dX3_setWeight_10 0 rfl ?_
  refine x_get X E.1.1 (T := TX3) (C := RX3) inW3 0 rfl rfl 0 (by decide) w_212 rfl (v := .ref (ad 1)) rfl dX3_setWeight_11 ?_
  refine x_get X E.1.1 (T := TX2) (C := RX2) inW2 1 rfl rfl 4 (by decide) w_5006 rfl (v := .ref (ad 11)) rfl dX3_setWeight_14 ?_
  refine x_iload_n X dX3_setWeight_17 1 rfl ?_
  refine x_iload_n X dX3_setWeight_18 2 rfl ?_
  refine x_iast X E.1.1 11 rfl dX3_setWeight_19 hf (picC kA ad) (setC_11 kA ad _ _ _) (fun w3 hf => ?_)
  refine x_aload_n X dX3_setWeight_20 0 rfl ?_
  refine x_get X E.1.1 (T := TX3) (C := RX3) inW3 0 rfl rfl 1 (by decide) w_213 rfl (v := .ref (ad 2)) rfl dX3_setWeight_21 ?_
  refine x_iload_n X dX3_setWeight_24 1 rfl ?_
  obtain ⟨x5, w4, hx5, hf⟩ := bn2_some hf
  refine x_callV_i X E (As := [.int a1]) (rest := []) (n := 1) (ws2 := (picC kA ad w4)) (goodV w_5118 w_447 w_448 w_50 w_449) (met_X0_renewRoad l E.2.2.2 D kA ad fu w3 a1 x5 w4 hx5) rfl rfl (by decide +kernel) ⟨by decide, by decide⟩ 2 rfl (qc := (RX0, TX0, _)) rfl rfl rfl rfl (Nat.le_of_ble_eq_true rfl) dX3_setWeight_25 ⟨by decide, by decide⟩ ?_
  cases hf
  exact x_iret X hr hlk rfl rfl dX3_setWeight_28
end
section
variable {p : Program} {l : Launch} {e : Env} {s : State} {m : MethodId} {args : Array Value} {below : List Frame} {meth : Method} {c : Code} {D : va_G} {kA : Nat → ClassId} {A : Nat → Prop} {Q : State → Prop} {ad al : Nat → Nat} {b L : Nat} {xs : Nat → Int32}
abbrev rm_X3_setOpen : Room := { frames := 6, cells := 0, slots := 0, locals := 138 }
set_option maxRecDepth 100000 in
set_option maxHeartbeats 4000000 in
theorem met_X3_setOpen (l : Launch) (hst : l.stackTraces = false) (D : va_G) (kA : Nat → ClassId) (ad : Nat → Nat) (fu : Nat) (w : WS) (a1 : Int32) (a2 : Int32) (v : Int32) (w1 : WS) (hf : f_X3_setOpen fu w a1 a2 = some (.inl (v, w1))) (sz : Nat) : Met l yX3_setOpen (wsY yX3_setOpen cX3_setOpen 3 (some .int)) rm_X3_setOpen (va_Pc [.ref (ad 0), .int a1, .int a2] (PreG D kA (picC kA ad w) sz)) (va_Qi (fun (r : Int32) (_ : Unit) => r = v) (fun _ t => PosG D (va_A (picC kA ad w) sz) (picC kA ad w1) t) (va_A (picC kA ad w) sz)) 0 0 (va_A (picC kA ad w) sz) := by
  refine metG (own := RX3) hst (by decide +kernel) rfl (Nat.le_of_ble_eq_true rfl) rfl ?_
  intro p e s m below meth c X hr hlk E _
  unfold f_X3_setOpen at hf
  refine x_aload_n X dX3_setOpen_0 0 rfl ?_
  refine x_iload_n X dX3_setOpen_1 1 rfl ?_
  obtain ⟨w1, hw1, hf⟩ := bxr_some hf
  refine x_callV_v X E (As := [.int a1]) (rest := []) (n := 1) (ws2 := (picC kA ad w1)) (goodV w_5117 w_443 s_3 w_47 w_444) (met_X3_requireRoad l E.2.2.2 D kA ad fu w a1 w1 hw1) rfl rfl (by decide +kernel) ⟨by decide, by decide⟩ 0 rfl (qc := (RX3, TX3, _)) rfl rfl rfl rfl (Nat.le_of_ble_eq_true rfl) dX3_setOpen_2 ⟨by decide, by decide⟩ ?_
  refine x_aload_n X dX3_setOpen_5 0 rfl ?_
  refine x_get X E.1.1 (T := TX3) (C := RX3) inW3 0 rfl rfl 0 (by decide) w_212 rfl (v := .ref (ad 1)) rfl dX3_setOpen_6 ?_
  refine x_iload_n X dX3_setOpen_9 1 rfl ?_
  refine x_iload_n X dX3_setOpen_10 2 rfl ?_
  obtain ⟨w2, hw2, hf⟩ := bn_some hf
  refine x_callV_v X E (As := [.int a1, .int a2]) (rest := []) (n := 2) (ws2 := (picC kA ad w2)) (goodV w_5136 w_5137 w_5138 w_48 w_5139) (met_X2_openOrClose l E.2.2.2 D kA ad fu w1 a1 a2 w2 hw2) rfl rfl (by decide +kernel) ⟨by decide, by decide⟩ 1 rfl (qc := (RX2, TX2, _)) rfl rfl rfl rfl (Nat.le_of_ble_eq_true rfl) dX3_setOpen_11 ⟨by decide, by decide⟩ ?_
  refine x_aload_n X dX3_setOpen_14 0 rfl ?_
  refine x_get X E.1.1 (T := TX3) (C := RX3) inW3 0 rfl rfl 1 (by decide) w_213 rfl (v := .ref (ad 2)) rfl dX3_setOpen_15 ?_
  refine x_iload_n X dX3_setOpen_18 1 rfl ?_
  obtain ⟨x4, w3, hx4, hf⟩ := bn2_some hf
  refine x_callV_i X E (As := [.int a1]) (rest := []) (n := 1) (ws2 := (picC kA ad w3)) (goodV w_5118 w_447 w_448 w_50 w_449) (met_X0_renewRoad l E.2.2.2 D kA ad fu w2 a1 x4 w3 hx4) rfl rfl (by decide +kernel) ⟨by decide, by decide⟩ 2 rfl (qc := (RX0, TX0, _)) rfl rfl rfl rfl (Nat.le_of_ble_eq_true rfl) dX3_setOpen_19 ⟨by decide, by decide⟩ ?_
  cases hf
  exact x_iret X hr hlk rfl rfl dX3_setOpen_22
end
section
variable {p : Program} {l : Launch} {e : Env} {s : State} {m : MethodId} {args : Array Value} {below : List Frame} {meth : Method} {c : Code} {D : va_G} {kA : Nat → ClassId} {A : Nat → Prop} {Q : State → Prop} {ad al : Nat → Nat} {b L : Nat} {xs : Nat → Int32}
abbrev rm_X3_requireTurn : Room := { frames := 2, cells := 0, slots := 0, locals := 81 }
set_option maxRecDepth 100000 in
set_option maxHeartbeats 4000000 in
theorem met_X3_requireTurn (l : Launch) (hst : l.stackTraces = false) (D : va_G) (kA : Nat → ClassId) (ad : Nat → Nat) (fu : Nat) (w : WS) (a1 : Int32) (a2 : Int32) (w1 : WS) (hf : f_X3_requireTurn fu w a1 a2 = some (.inl w1)) (sz : Nat) : Met l yX3_requireTurn (wsY yX3_requireTurn cX3_requireTurn 3 none) rm_X3_requireTurn (va_Pc [.ref (ad 0), .int a1, .int a2] (PreG D kA (picC kA ad w) sz)) (va_Qv (fun (_ : Unit) => True) (fun _ t => PosG D (va_A (picC kA ad w) sz) (picC kA ad w1) t) (va_A (picC kA ad w) sz)) 0 0 (va_A (picC kA ad w) sz) := by
  refine metG (own := RX3) hst (by decide +kernel) rfl (Nat.le_of_ble_eq_true rfl) rfl ?_
  intro p e s m below meth c X hr hlk E _
  unfold f_X3_requireTurn at hf
  refine x_aload_n X dX3_requireTurn_0 0 rfl ?_
  refine x_iload_n X dX3_requireTurn_1 1 rfl ?_
  obtain ⟨w1, hw1, hf⟩ := bxr_some hf
  refine x_callV_v X E (As := [.int a1]) (rest := []) (n := 1) (ws2 := (picC kA ad w1)) (goodV w_5117 w_443 s_3 w_47 w_444) (met_X3_requireRoad l E.2.2.2 D kA ad fu w a1 w1 hw1) rfl rfl (by decide +kernel) ⟨by decide, by decide⟩ 0 rfl (qc := (RX3, TX3, _)) rfl rfl rfl rfl (Nat.le_of_ble_eq_true rfl) dX3_requireTurn_2 ⟨by decide, by decide⟩ ?_
  refine x_aload_n X dX3_requireTurn_5 0 rfl ?_
  refine x_iload_n X dX3_requireTurn_6 2 rfl ?_
  obtain ⟨w2, hw2, hf⟩ := bxr_some hf
  refine x_callV_v X E (As := [.int a2]) (rest := []) (n := 1) (ws2 := (picC kA ad w2)) (goodV w_5117 w_443 s_3 w_47 w_444) (met_X3_requireRoad l E.2.2.2 D kA ad fu w1 a2 w2 hw2) rfl rfl (by decide +kernel) ⟨by decide, by decide⟩ 0 rfl (qc := (RX3, TX3, _)) rfl rfl rfl rfl (Nat.le_of_ble_eq_true rfl) dX3_requireTurn_7 ⟨by decide, by decide⟩ ?_
  refine x_aload_n X dX3_requireTurn_10 0 rfl ?_
  refine x_get X E.1.1 (T := TX3) (C := RX3) inW3 0 rfl rfl 0 (by decide) w_212 rfl (v := .ref (ad 1)) rfl dX3_requireTurn_11 ?_
  refine x_get X E.1.1 (T := TX2) (C := RX2) inW2 1 rfl rfl 3 (by decide) w_5005 rfl (v := .ref (ad 10)) rfl dX3_requireTurn_14 ?_
  refine x_iload_n X dX3_requireTurn_17 1 rfl ?_
  refine x_iald X E.1.1 10 rfl dX3_requireTurn_18 hf (fun x3 hf => ?_)
  refine x_aload_n X dX3_requireTurn_19 0 rfl ?_
  refine x_get X E.1.1 (T := TX3) (C := RX3) inW3 0 rfl rfl 0 (by decide) w_212 rfl (v := .ref (ad 1)) rfl dX3_requireTurn_20 ?_
  refine x_get X E.1.1 (T := TX2) (C := RX2) inW2 1 rfl rfl 2 (by decide) w_5004 rfl (v := .ref (ad 9)) rfl dX3_requireTurn_23 ?_
  refine x_iload_n X dX3_requireTurn_26 2 rfl ?_
  refine x_iald X E.1.1 9 rfl dX3_requireTurn_27 hf (fun x4 hf => ?_)
  refine x_icmp_eq X (tgt := 42) dX3_requireTurn_28 (by decide) hf (fun hf => ?_) (fun hf => ?_)
  · cases hf
    exact x_vret X hr hlk rfl dX3_requireTurn_42
  · cases hf
end
section
variable {p : Program} {l : Launch} {e : Env} {s : State} {m : MethodId} {args : Array Value} {below : List Frame} {meth : Method} {c : Code} {D : va_G} {kA : Nat → ClassId} {A : Nat → Prop} {Q : State → Prop} {ad al : Nat → Nat} {b L : Nat} {xs : Nat → Int32}
abbrev rm_X3_setTurn : Room := { frames := 6, cells := 0, slots := 0, locals := 139 }
set_option maxRecDepth 100000 in
set_option maxHeartbeats 4000000 in
theorem met_X3_setTurn (l : Launch) (hst : l.stackTraces = false) (D : va_G) (kA : Nat → ClassId) (ad : Nat → Nat) (fu : Nat) (w : WS) (a1 : Int32) (a2 : Int32) (a3 : Int32) (v : Int32) (w1 : WS) (hf : f_X3_setTurn fu w a1 a2 a3 = some (.inl (v, w1))) (sz : Nat) : Met l yX3_setTurn (wsY yX3_setTurn cX3_setTurn 4 (some .int)) rm_X3_setTurn (va_Pc [.ref (ad 0), .int a1, .int a2, .int a3] (PreG D kA (picC kA ad w) sz)) (va_Qi (fun (r : Int32) (_ : Unit) => r = v) (fun _ t => PosG D (va_A (picC kA ad w) sz) (picC kA ad w1) t) (va_A (picC kA ad w) sz)) 0 0 (va_A (picC kA ad w) sz) := by
  refine metG (own := RX3) hst (by decide +kernel) rfl (Nat.le_of_ble_eq_true rfl) rfl ?_
  intro p e s m below meth c X hr hlk E _
  unfold f_X3_setTurn at hf
  refine x_aload_n X dX3_setTurn_0 0 rfl ?_
  refine x_iload_n X dX3_setTurn_1 1 rfl ?_
  refine x_iload_n X dX3_setTurn_2 2 rfl ?_
  obtain ⟨w1, hw1, hf⟩ := bxr_some hf
  refine x_callV_v X E (As := [.int a1, .int a2]) (rest := []) (n := 2) (ws2 := (picC kA ad w1)) (goodV w_5140 w_528 s_12 w_47 w_529) (met_X3_requireTurn l E.2.2.2 D kA ad fu w a1 a2 w1 hw1) rfl rfl (by decide +kernel) ⟨by decide, by decide⟩ 0 rfl (qc := (RX3, TX3, _)) rfl rfl rfl rfl (Nat.le_of_ble_eq_true rfl) dX3_setTurn_3 ⟨by decide, by decide⟩ ?_
  refine x_iload_n X dX3_setTurn_6 3 rfl ?_
  refine x_bipush X (v := (-2)) dX3_setTurn_7 (by decide) ?_
  refine x_icmp_lt X (tgt := 19) dX3_setTurn_9 (by decide) hf (fun hf => ?_) (fun hf => ?_)
  · cases hf
  · refine x_iload_n X dX3_setTurn_12 3 rfl ?_
    refine x_sipush X (v := 1000) dX3_setTurn_13 (by decide) ?_
    refine x_icmp_le X (tgt := 29) dX3_setTurn_16 (by decide) hf (fun hf => ?_) (fun hf => ?_)
    · refine x_aload_n X dX3_setTurn_29 0 rfl ?_
      refine x_get X E.1.1 (T := TX3) (C := RX3) inW3 0 rfl rfl 0 (by decide) w_212 rfl (v := .ref (ad 1)) rfl dX3_setTurn_30 ?_
      refine x_get X E.1.1 (T := TX2) (C := RX2) inW2 1 rfl rfl 5 (by decide) w_5007 rfl (v := .ref (ad 12)) rfl dX3_setTurn_33 ?_
      refine x_iload_n X dX3_setTurn_36 1 rfl ?_
      refine x_iload_n X dX3_setTurn_37 2 rfl ?_
      obtain ⟨x2, hx2, hf⟩ := bn_some hf
      refine x_callS_i X (As := [.int a1, .int a2]) (rest := [.ref (ad 12)]) (n := 2) (goodS w_5141 w_293 w_47 w_294) (met_X3_pair l fu a1 a2 x2 hx2) rfl rfl (by decide +kernel) ⟨by decide, by decide⟩ rfl rfl (Nat.le_of_ble_eq_true rfl) dX3_setTurn_38 ⟨by decide, by decide⟩ ?_
      refine x_iload_n X dX3_setTurn_41 3 rfl ?_
      refine x_iast X E.1.1 12 rfl dX3_setTurn_42 hf (picC kA ad) (setC_12 kA ad _ _ _) (fun w3 hf => ?_)
      refine x_aload_n X dX3_setTurn_43 0 rfl ?_
      refine x_get X E.1.1 (T := TX3) (C := RX3) inW3 0 rfl rfl 1 (by decide) w_213 rfl (v := .ref (ad 2)) rfl dX3_setTurn_44 ?_
      refine x_iload_n X dX3_setTurn_47 1 rfl ?_
      refine x_iload_n X dX3_setTurn_48 2 rfl ?_
      obtain ⟨x5, w4, hx5, hf⟩ := bn2_some hf
      refine x_callV_i X E (As := [.int a1, .int a2]) (rest := []) (n := 2) (ws2 := (picC kA ad w4)) (goodV w_5142 w_534 w_535 w_50 w_536) (met_X0_renewTurn l E.2.2.2 D kA ad fu w3 a1 a2 x5 w4 hx5) rfl rfl (by decide +kernel) ⟨by decide, by decide⟩ 2 rfl (qc := (RX0, TX0, _)) rfl rfl rfl rfl (Nat.le_of_ble_eq_true rfl) dX3_setTurn_49 ⟨by decide, by decide⟩ ?_
      cases hf
      exact x_iret X hr hlk rfl rfl dX3_setTurn_52
    · cases hf
end
section
variable {p : Program} {l : Launch} {e : Env} {s : State} {m : MethodId} {args : Array Value} {below : List Frame} {meth : Method} {c : Code} {D : va_G} {kA : Nat → ClassId} {A : Nat → Prop} {Q : State → Prop} {ad al : Nat → Nat} {b L : Nat} {xs : Nat → Int32}
abbrev rm_X3_setUTurn : Room := { frames := 6, cells := 0, slots := 0, locals := 137 }
set_option maxRecDepth 100000 in
set_option maxHeartbeats 4000000 in
theorem met_X3_setUTurn (l : Launch) (hst : l.stackTraces = false) (D : va_G) (kA : Nat → ClassId) (ad : Nat → Nat) (fu : Nat) (w : WS) (a1 : Int32) (v : Int32) (w1 : WS) (hf : f_X3_setUTurn fu w a1 = some (.inl (v, w1))) (sz : Nat) : Met l yX3_setUTurn (wsY yX3_setUTurn cX3_setUTurn 2 (some .int)) rm_X3_setUTurn (va_Pc [.ref (ad 0), .int a1] (PreG D kA (picC kA ad w) sz)) (va_Qi (fun (r : Int32) (_ : Unit) => r = v) (fun _ t => PosG D (va_A (picC kA ad w) sz) (picC kA ad w1) t) (va_A (picC kA ad w) sz)) 0 0 (va_A (picC kA ad w) sz) := by
  refine metG (own := RX3) hst (by decide +kernel) rfl (Nat.le_of_ble_eq_true rfl) rfl ?_
  intro p e s m below meth c X hr hlk E _
  unfold f_X3_setUTurn at hf
  refine x_iload_n X dX3_setUTurn_0 1 rfl ?_
  refine x_iconst X (v := (-1)) dX3_setUTurn_1 (by decide) ?_
  refine x_icmp_lt X (tgt := 12) dX3_setUTurn_2 (by decide) hf (fun hf => ?_) (fun hf => ?_)
  · cases hf
  · refine x_iload_n X dX3_setUTurn_5 1 rfl ?_
    refine x_sipush X (v := 1000) dX3_setUTurn_6 (by decide) ?_
    refine x_icmp_le X (tgt := 22) dX3_setUTurn_9 (by decide) hf (fun hf => ?_) (fun hf => ?_)
    · refine x_aload_n X dX3_setUTurn_22 0 rfl ?_
      refine x_get X E.1.1 (T := TX3) (C := RX3) inW3 0 rfl rfl 0 (by decide) w_212 rfl (v := .ref (ad 1)) rfl dX3_setUTurn_23 ?_
      refine x_iload_n X dX3_setUTurn_26 1 rfl ?_
      refine x_put X E.1.1 (T := TX2) (C := RX2) (ty := .int) inW2 tyX2 tyX2_ok nmX2 1 rfl rfl 9 (by decide) w_5011 rfl rfl (by decide +kernel) rfl rfl (Nat.le_of_ble_eq_true rfl) dX3_setUTurn_27 (picC kA ad (wI w 1 9 a1)) rfl ?_
      refine x_nmW (pic := (picC kA ad)) (u := (wI w 1 9 a1)) hf (fun w1 hf => ?_)
      refine x_aload_n X dX3_setUTurn_30 0 rfl ?_
      refine x_get X E.1.1 (T := TX3) (C := RX3) inW3 0 rfl rfl 1 (by decide) w_213 rfl (v := .ref (ad 2)) rfl dX3_setUTurn_31 ?_
      obtain ⟨x3, w2, hx3, hf⟩ := bn2_some hf
      refine x_callV_i X E (As := []) (rest := []) (n := 0) (ws2 := (picC kA ad w2)) (goodV w_5143 w_546 w_547 w_50 w_548) (met_X0_renewAll l E.2.2.2 D kA ad fu w1 x3 w2 hx3) rfl rfl (by decide +kernel) ⟨by decide, by decide⟩ 2 rfl (qc := (RX0, TX0, _)) rfl rfl rfl rfl (Nat.le_of_ble_eq_true rfl) dX3_setUTurn_34 ⟨by decide, by decide⟩ ?_
      cases hf
      exact x_iret X hr hlk rfl rfl dX3_setUTurn_37
    · cases hf
end
section
variable {p : Program} {l : Launch} {e : Env} {s : State} {m : MethodId} {args : Array Value} {below : List Frame} {meth : Method} {c : Code} {D : va_G} {kA : Nat → ClassId} {A : Nat → Prop} {Q : State → Prop} {ad al : Nat → Nat} {b L : Nat} {xs : Nat → Int32}
abbrev rm_X3_prepare : Room := { frames := 6, cells := 0, slots := 0, locals := 142 }
set_option maxRecDepth 100000 in
set_option maxHeartbeats 4000000 in
theorem met_X3_prepare (l : Launch) (hst : l.stackTraces = false) (D : va_G) (kA : Nat → ClassId) (ad : Nat → Nat) (fu : Nat) (w : WS)  (v : Int32) (w1 : WS) (hf : f_X3_prepare fu w = some (.inl (v, w1))) (sz : Nat) : Met l yX3_prepare (wsY yX3_prepare cX3_prepare 1 (some .int)) rm_X3_prepare (va_Pc [.ref (ad 0)] (PreG D kA (picC kA ad w) sz)) (va_Qi (fun (r : Int32) (_ : Unit) => r = v) (fun _ t => PosG D (va_A (picC kA ad w) sz) (picC kA ad w1) t) (va_A (picC kA ad w) sz)) 0 0 (va_A (picC kA ad w) sz) := by
  refine metG (own := RX3) hst (by decide +kernel) rfl (Nat.le_of_ble_eq_true rfl) rfl ?_
  intro p e s m below meth c X hr hlk E _
  unfold f_X3_prepare at hf
  refine x_aload_n X dX3_prepare_0 0 rfl ?_
  refine x_get X E.1.1 (T := TX3) (C := RX3) inW3 0 rfl rfl 0 (by decide) w_212 rfl (v := .ref (ad 1)) rfl dX3_prepare_1 ?_
  refine x_get X E.1.1 (T := TX2) (C := RX2) inW2 1 rfl rfl 1 (by decide) w_5003 rfl (v := .int (w.1 1 1)) rfl dX3_prepare_4 ?_
  refine x_nmI hf (fun x1 hf => ?_)
  refine x_if_ne X (tgt := 20) dX3_prepare_7 (by decide) hf (fun hf => ?_) (fun hf => ?_)
  · refine x_aload_n X dX3_prepare_20 0 rfl ?_
    refine x_get X E.1.1 (T := TX3) (C := RX3) inW3 0 rfl rfl 1 (by decide) w_213 rfl (v := .ref (ad 2)) rfl dX3_prepare_21 ?_
    refine x_get X E.1.1 (T := TX0) (C := RX0) inW0 2 rfl rfl 1 (by decide) w_5025 rfl (v := .int (w.1 2 1)) rfl dX3_prepare_24 ?_
    refine x_nmI hf (fun x2 hf => ?_)
    refine x_if_ne X (tgt := 37) dX3_prepare_27 (by decide) hf (fun hf => ?_) (fun hf => ?_)
    · refine x_aload_n X dX3_prepare_37 0 rfl ?_
      refine x_get X E.1.1 (T := TX3) (C := RX3) inW3 0 rfl rfl 1 (by decide) w_213 rfl (v := .ref (ad 2)) rfl dX3_prepare_38 ?_
      refine x_get X E.1.1 (T := TX0) (C := RX0) inW0 2 rfl rfl 4 (by decide) w_5030 rfl (v := .int (w.1 2 4)) rfl dX3_prepare_41 ?_
      refine x_nmI hf (fun x3 hf => ?_)
      cases hf
      exact x_iret X hr hlk rfl rfl dX3_prepare_44
    · refine x_aload_n X dX3_prepare_30 0 rfl ?_
      refine x_get X E.1.1 (T := TX3) (C := RX3) inW3 0 rfl rfl 1 (by decide) w_213 rfl (v := .ref (ad 2)) rfl dX3_prepare_31 ?_
      obtain ⟨w4, hw4, hf⟩ := bn_some hf
      refine x_callV_v X E (As := []) (rest := []) (n := 0) (ws2 := (picC kA ad w4)) (goodV w_5146 w_585 w_586 w_50 w_587) (met_X0_build l E.2.2.2 D kA ad fu w w4 hw4) rfl rfl (by decide +kernel) ⟨by decide, by decide⟩ 2 rfl (qc := (RX0, TX0, _)) rfl rfl rfl rfl (Nat.le_of_ble_eq_true rfl) dX3_prepare_34 ⟨by decide, by decide⟩ ?_
      refine x_aload_n X dX3_prepare_37 0 rfl ?_
      refine x_get X E.1.1 (T := TX3) (C := RX3) inW3 0 rfl rfl 1 (by decide) w_213 rfl (v := .ref (ad 2)) rfl dX3_prepare_38 ?_
      refine x_get X E.1.1 (T := TX0) (C := RX0) inW0 2 rfl rfl 4 (by decide) w_5030 rfl (v := .int (w4.1 2 4)) rfl dX3_prepare_41 ?_
      refine x_nmI hf (fun x5 hf => ?_)
      cases hf
      exact x_iret X hr hlk rfl rfl dX3_prepare_44
  · cases hf
end
section
variable {p : Program} {l : Launch} {e : Env} {s : State} {m : MethodId} {args : Array Value} {below : List Frame} {meth : Method} {c : Code} {D : va_G} {kA : Nat → ClassId} {A : Nat → Prop} {Q : State → Prop} {ad al : Nat → Nat} {b L : Nat} {xs : Nat → Int32}
abbrev rm_X3_requireHierarchy : Room := { frames := 1, cells := 0, slots := 0, locals := 60 }
set_option maxRecDepth 100000 in
set_option maxHeartbeats 4000000 in
theorem met_X3_requireHierarchy (l : Launch) (hst : l.stackTraces = false) (D : va_G) (kA : Nat → ClassId) (ad : Nat → Nat) (fu : Nat) (w : WS)  (w1 : WS) (hf : f_X3_requireHierarchy fu w = some (.inl w1)) (sz : Nat) : Met l yX3_requireHierarchy (wsY yX3_requireHierarchy cX3_requireHierarchy 1 none) rm_X3_requireHierarchy (va_Pc [.ref (ad 0)] (PreG D kA (picC kA ad w) sz)) (va_Qv (fun (_ : Unit) => True) (fun _ t => PosG D (va_A (picC kA ad w) sz) (picC kA ad w1) t) (va_A (picC kA ad w) sz)) 0 0 (va_A (picC kA ad w) sz) := by
  refine metG (own := RX3) hst (by decide +kernel) rfl (Nat.le_of_ble_eq_true rfl) rfl ?_
  intro p e s m below meth c X hr hlk E _
  unfold f_X3_requireHierarchy at hf
  refine x_aload_n X dX3_requireHierarchy_0 0 rfl ?_
  refine x_get X E.1.1 (T := TX3) (C := RX3) inW3 0 rfl rfl 1 (by decide) w_213 rfl (v := .ref (ad 2)) rfl dX3_requireHierarchy_1 ?_
  refine x_get X E.1.1 (T := TX0) (C := RX0) inW0 2 rfl rfl 1 (by decide) w_5025 rfl (v := .int (w.1 2 1)) rfl dX3_requireHierarchy_4 ?_
  refine x_nmI hf (fun x1 hf => ?_)
  refine x_if_ne X (tgt := 21) dX3_requireHierarchy_7 (by decide) hf (fun hf => ?_) (fun hf => ?_)
  · cases hf
    exact x_vret X hr hlk rfl dX3_requireHierarchy_21
  · cases hf
end
section
variable {p : Program} {l : Launch} {e : Env} {s : State} {m : MethodId} {args : Array Value} {below : List Frame} {meth : Method} {c : Code} {D : va_G} {kA : Nat → ClassId} {A : Nat → Prop} {Q : State → Prop} {ad al : Nat → Nat} {b L : Nat} {xs : Nat → Int32}
abbrev rm_X3_hasArc : Room := { frames := 2, cells := 0, slots := 0, locals := 81 }
set_option maxRecDepth 100000 in
set_option maxHeartbeats 4000000 in
theorem met_X3_hasArc (l : Launch) (hst : l.stackTraces = false) (D : va_G) (kA : Nat → ClassId) (ad : Nat → Nat) (fu : Nat) (w : WS) (a1 : Int32) (a2 : Int32) (v : Int32) (w1 : WS) (hf : f_X3_hasArc fu w a1 a2 = some (.inl (v, w1))) (sz : Nat) : Met l yX3_hasArc (wsY yX3_hasArc cX3_hasArc 3 (some .boolean)) rm_X3_hasArc (va_Pc [.ref (ad 0), .int a1, .int a2] (PreG D kA (picC kA ad w) sz)) (va_Qi (fun (r : Int32) (_ : Unit) => r = v) (fun _ t => PosG D (va_A (picC kA ad w) sz) (picC kA ad w1) t) (va_A (picC kA ad w) sz)) 0 0 (va_A (picC kA ad w) sz) := by
  refine metG (own := RX3) hst (by decide +kernel) rfl (Nat.le_of_ble_eq_true rfl) rfl ?_
  intro p e s m below meth c X hr hlk E _
  unfold f_X3_hasArc at hf
  refine x_aload_n X dX3_hasArc_0 0 rfl ?_
  obtain ⟨w1, hw1, hf⟩ := bxr_some hf
  refine x_callV_v X E (As := []) (rest := []) (n := 0) (ws2 := (picC kA ad w1)) (goodV w_5155 w_618 s_16 w_47 w_619) (met_X3_requireHierarchy l E.2.2.2 D kA ad fu w w1 hw1) rfl rfl (by decide +kernel) ⟨by decide, by decide⟩ 0 rfl (qc := (RX3, TX3, _)) rfl rfl rfl rfl (Nat.le_of_ble_eq_true rfl) dX3_hasArc_1 ⟨by decide, by decide⟩ ?_
  refine x_aload_n X dX3_hasArc_4 0 rfl ?_
  refine x_iload_n X dX3_hasArc_5 1 rfl ?_
  obtain ⟨w2, hw2, hf⟩ := bxr_some hf
  refine x_callV_v X E (As := [.int a1]) (rest := []) (n := 1) (ws2 := (picC kA ad w2)) (goodV w_5117 w_443 s_3 w_47 w_444) (met_X3_requireRoad l E.2.2.2 D kA ad fu w1 a1 w2 hw2) rfl rfl (by decide +kernel) ⟨by decide, by decide⟩ 0 rfl (qc := (RX3, TX3, _)) rfl rfl rfl rfl (Nat.le_of_ble_eq_true rfl) dX3_hasArc_6 ⟨by decide, by decide⟩ ?_
  refine x_aload_n X dX3_hasArc_9 0 rfl ?_
  refine x_iload_n X dX3_hasArc_10 2 rfl ?_
  obtain ⟨w3, hw3, hf⟩ := bxr_some hf
  refine x_callV_v X E (As := [.int a2]) (rest := []) (n := 1) (ws2 := (picC kA ad w3)) (goodV w_5117 w_443 s_3 w_47 w_444) (met_X3_requireRoad l E.2.2.2 D kA ad fu w2 a2 w3 hw3) rfl rfl (by decide +kernel) ⟨by decide, by decide⟩ 0 rfl (qc := (RX3, TX3, _)) rfl rfl rfl rfl (Nat.le_of_ble_eq_true rfl) dX3_hasArc_11 ⟨by decide, by decide⟩ ?_
  refine x_aload_n X dX3_hasArc_14 0 rfl ?_
  refine x_get X E.1.1 (T := TX3) (C := RX3) inW3 0 rfl rfl 1 (by decide) w_213 rfl (v := .ref (ad 2)) rfl dX3_hasArc_15 ?_
  refine x_get X E.1.1 (T := TX0) (C := RX0) inW0 2 rfl rfl 7 (by decide) w_5033 rfl (v := .ref (ad 18)) rfl dX3_hasArc_18 ?_
  refine x_iload_n X dX3_hasArc_21 1 rfl ?_
  refine x_lald X E.1.1 18 rfl dX3_hasArc_22 hf (fun x4 hf => ?_)
  refine x_iload_n X dX3_hasArc_23 2 rfl ?_
  obtain ⟨x5, hx5, hf⟩ := bn_some hf
  refine x_callS_i X (As := [.long x4, .int a2]) (rest := []) (n := 2) (goodS w_5085 w_274 w_47 w_275) (met_X3_has l fu x4 a2 x5 hx5) rfl rfl (by decide +kernel) ⟨by decide, by decide⟩ rfl rfl (Nat.le_of_ble_eq_true rfl) dX3_hasArc_24 ⟨by decide, by decide⟩ ?_
  obtain ⟨hz, hf⟩ := ck_some hf
  cases hf
  exact x_zret X hr hlk rfl hz rfl dX3_hasArc_27
end
section
variable {p : Program} {l : Launch} {e : Env} {s : State} {m : MethodId} {args : Array Value} {below : List Frame} {meth : Method} {c : Code} {D : va_G} {kA : Nat → ClassId} {A : Nat → Prop} {Q : State → Prop} {ad al : Nat → Nat} {b L : Nat} {xs : Nat → Int32}
abbrev rm_X3_arcCost : Room := { frames := 2, cells := 0, slots := 0, locals := 81 }
set_option maxRecDepth 100000 in
set_option maxHeartbeats 4000000 in
theorem met_X3_arcCost (l : Launch) (hst : l.stackTraces = false) (D : va_G) (kA : Nat → ClassId) (ad : Nat → Nat) (fu : Nat) (w : WS) (a1 : Int32) (a2 : Int32) (v : Int32) (w1 : WS) (hf : f_X3_arcCost fu w a1 a2 = some (.inl (v, w1))) (sz : Nat) : Met l yX3_arcCost (wsY yX3_arcCost cX3_arcCost 3 (some .int)) rm_X3_arcCost (va_Pc [.ref (ad 0), .int a1, .int a2] (PreG D kA (picC kA ad w) sz)) (va_Qi (fun (r : Int32) (_ : Unit) => r = v) (fun _ t => PosG D (va_A (picC kA ad w) sz) (picC kA ad w1) t) (va_A (picC kA ad w) sz)) 0 0 (va_A (picC kA ad w) sz) := by
  refine metG (own := RX3) hst (by decide +kernel) rfl (Nat.le_of_ble_eq_true rfl) rfl ?_
  intro p e s m below meth c X hr hlk E _
  unfold f_X3_arcCost at hf
  refine x_aload_n X dX3_arcCost_0 0 rfl ?_
  obtain ⟨w1, hw1, hf⟩ := bxr_some hf
  refine x_callV_v X E (As := []) (rest := []) (n := 0) (ws2 := (picC kA ad w1)) (goodV w_5155 w_618 s_16 w_47 w_619) (met_X3_requireHierarchy l E.2.2.2 D kA ad fu w w1 hw1) rfl rfl (by decide +kernel) ⟨by decide, by decide⟩ 0 rfl (qc := (RX3, TX3, _)) rfl rfl rfl rfl (Nat.le_of_ble_eq_true rfl) dX3_arcCost_1 ⟨by decide, by decide⟩ ?_
  refine x_aload_n X dX3_arcCost_4 0 rfl ?_
  refine x_iload_n X dX3_arcCost_5 1 rfl ?_
  obtain ⟨w2, hw2, hf⟩ := bxr_some hf
  refine x_callV_v X E (As := [.int a1]) (rest := []) (n := 1) (ws2 := (picC kA ad w2)) (goodV w_5117 w_443 s_3 w_47 w_444) (met_X3_requireRoad l E.2.2.2 D kA ad fu w1 a1 w2 hw2) rfl rfl (by decide +kernel) ⟨by decide, by decide⟩ 0 rfl (qc := (RX3, TX3, _)) rfl rfl rfl rfl (Nat.le_of_ble_eq_true rfl) dX3_arcCost_6 ⟨by decide, by decide⟩ ?_
  refine x_aload_n X dX3_arcCost_9 0 rfl ?_
  refine x_iload_n X dX3_arcCost_10 2 rfl ?_
  obtain ⟨w3, hw3, hf⟩ := bxr_some hf
  refine x_callV_v X E (As := [.int a2]) (rest := []) (n := 1) (ws2 := (picC kA ad w3)) (goodV w_5117 w_443 s_3 w_47 w_444) (met_X3_requireRoad l E.2.2.2 D kA ad fu w2 a2 w3 hw3) rfl rfl (by decide +kernel) ⟨by decide, by decide⟩ 0 rfl (qc := (RX3, TX3, _)) rfl rfl rfl rfl (Nat.le_of_ble_eq_true rfl) dX3_arcCost_11 ⟨by decide, by decide⟩ ?_
  refine x_aload_n X dX3_arcCost_14 0 rfl ?_
  refine x_get X E.1.1 (T := TX3) (C := RX3) inW3 0 rfl rfl 1 (by decide) w_213 rfl (v := .ref (ad 2)) rfl dX3_arcCost_15 ?_
  refine x_get X E.1.1 (T := TX0) (C := RX0) inW0 2 rfl rfl 7 (by decide) w_5033 rfl (v := .ref (ad 18)) rfl dX3_arcCost_18 ?_
  refine x_iload_n X dX3_arcCost_21 1 rfl ?_
  refine x_lald X E.1.1 18 rfl dX3_arcCost_22 hf (fun x4 hf => ?_)
  refine x_iload_n X dX3_arcCost_23 2 rfl ?_
  obtain ⟨x5, hx5, hf⟩ := bn_some hf
  refine x_callS_i X (As := [.long x4, .int a2]) (rest := []) (n := 2) (goodS w_5085 w_274 w_47 w_275) (met_X3_has l fu x4 a2 x5 hx5) rfl rfl (by decide +kernel) ⟨by decide, by decide⟩ rfl rfl (Nat.le_of_ble_eq_true rfl) dX3_arcCost_24 ⟨by decide, by decide⟩ ?_
  refine x_if_ne X (tgt := 40) dX3_arcCost_27 (by decide) hf (fun hf => ?_) (fun hf => ?_)
  · refine x_aload_n X dX3_arcCost_40 0 rfl ?_
    refine x_get X E.1.1 (T := TX3) (C := RX3) inW3 0 rfl rfl 1 (by decide) w_213 rfl (v := .ref (ad 2)) rfl dX3_arcCost_41 ?_
    refine x_get X E.1.1 (T := TX0) (C := RX0) inW0 2 rfl rfl 9 (by decide) w_5036 rfl (v := .ref (ad 20)) rfl dX3_arcCost_44 ?_
    refine x_iload_n X dX3_arcCost_47 1 rfl ?_
    refine x_iload_n X dX3_arcCost_48 2 rfl ?_
    obtain ⟨x6, hx6, hf⟩ := bn_some hf
    refine x_callS_i X (As := [.int a1, .int a2]) (rest := [.ref (ad 20)]) (n := 2) (goodS w_5141 w_293 w_47 w_294) (met_X3_pair l fu a1 a2 x6 hx6) rfl rfl (by decide +kernel) ⟨by decide, by decide⟩ rfl rfl (Nat.le_of_ble_eq_true rfl) dX3_arcCost_49 ⟨by decide, by decide⟩ ?_
    refine x_iald X E.1.1 20 rfl dX3_arcCost_52 hf (fun x7 hf => ?_)
    obtain ⟨x8, hx8, hf⟩ := bn_some hf
    refine x_callS_i X (As := [.int x7]) (rest := []) (n := 1) (goodS w_5160 w_296 w_47 w_297) (met_X3_costOf l fu x7 x8 hx8) rfl rfl (by decide +kernel) ⟨by decide, by decide⟩ rfl rfl (Nat.le_of_ble_eq_true rfl) dX3_arcCost_53 ⟨by decide, by decide⟩ ?_
    cases hf
    exact x_iret X hr hlk rfl rfl dX3_arcCost_56
  · cases hf
end
section
variable {p : Program} {l : Launch} {e : Env} {s : State} {m : MethodId} {args : Array Value} {below : List Frame} {meth : Method} {c : Code} {D : va_G} {kA : Nat → ClassId} {A : Nat → Prop} {Q : State → Prop} {ad al : Nat → Nat} {b L : Nat} {xs : Nat → Int32}
abbrev rm_X3_spreadToJunctions : Room := { frames := 3, cells := 0, slots := 0, locals := 70 }
set_option maxRecDepth 100000 in
set_option maxHeartbeats 4000000 in
theorem lp_X3_spreadToJunctions_22 (X : CX p m c cX3_spreadToJunctions 3 s args RX3) (E : EX l s D kA A) (fu : Nat)  : ∀ (n : Nat) (y1 : Int32) (w : WS) (rw : WS), iter (fun q => bd_X3_spreadToJunctions_22 fu q.1 q.2) n (y1, w) = some (rw) → CS p l e rm_X3_spreadToJunctions s m args below meth c D A 3 0 0 Q (picC kA ad rw) 70 [] [] → CS p l e rm_X3_spreadToJunctions s m args below meth c D A 3 0 0 Q (picC kA ad w) 22 [(0, .ref (ad 0)), (1, .int y1)] [] := by
  intro n
  induction n with
  | zero =>
    intro y1 w rw hit kk
    exact (iter_0 hit).elim
  | succ n ih =>
    intro y1 w rw hit kk
    obtain ⟨o, h1, hit⟩ := iter_one hit
    have hf : bd_X3_spreadToJunctions_22 fu y1 w = some o := h1
    unfold bd_X3_spreadToJunctions_22 at hf
    refine x_iload_n X dX3_spreadToJunctions_22 1 rfl ?_
    refine x_aload_n X dX3_spreadToJunctions_23 0 rfl ?_
    refine x_get X E.1.1 (T := TX3) (C := RX3) inW3 0 rfl rfl 0 (by decide) w_212 rfl (v := .ref (ad 1)) rfl dX3_spreadToJunctions_24 ?_
    refine x_get X E.1.1 (T := TX2) (C := RX2) inW2 1 rfl rfl 1 (by decide) w_5003 rfl (v := .int (w.1 1 1)) rfl dX3_spreadToJunctions_27 ?_
    refine x_nmI hf (fun x1 hf => ?_)
    refine x_icmp_ge X (tgt := 70) dX3_spreadToJunctions_30 (by decide) hf (fun hf => ?_) (fun hf => ?_)
    · cases hf
      cases hit
      refine x_lpick (lv2 := []) [] rfl ?_
      exact kk
    · refine x_aload_n X dX3_spreadToJunctions_33 0 rfl ?_
      refine x_get X E.1.1 (T := TX3) (C := RX3) inW3 0 rfl rfl 0 (by decide) w_212 rfl (v := .ref (ad 1)) rfl dX3_spreadToJunctions_34 ?_
      refine x_get X E.1.1 (T := TX2) (C := RX2) inW2 1 rfl rfl 3 (by decide) w_5005 rfl (v := .ref (ad 10)) rfl dX3_spreadToJunctions_37 ?_
      refine x_iload_n X dX3_spreadToJunctions_40 1 rfl ?_
      refine x_iald X E.1.1 10 rfl dX3_spreadToJunctions_41 hf (fun x2 hf => ?_)
      refine x_istore_n X (lv2 := [(2, .int x2), (0, .ref (ad 0)), (1, .int y1)]) dX3_spreadToJunctions_42 (by decide) rfl ?_
      refine x_aload_n X dX3_spreadToJunctions_43 1 rfl ?_
      refine x_get X E.1.1 (T := TX3) (C := RX3) inW3 0 rfl rfl 5 (by decide) w_5062 rfl (v := .ref (ad 17)) rfl dX3_spreadToJunctions_44 ?_
      refine x_iload_n X dX3_spreadToJunctions_47 0 rfl ?_
      refine x_aload_n X dX3_spreadToJunctions_48 1 rfl ?_
      refine x_get X E.1.1 (T := TX3) (C := RX3) inW3 0 rfl rfl 5 (by decide) w_5062 rfl (v := .ref (ad 17)) rfl dX3_spreadToJunctions_49 ?_
      refine x_iload_n X dX3_spreadToJunctions_52 0 rfl ?_
      refine x_iald X E.1.1 17 rfl dX3_spreadToJunctions_53 hf (fun x3 hf => ?_)
      refine x_aload_n X dX3_spreadToJunctions_54 1 rfl ?_
      refine x_get X E.1.1 (T := TX3) (C := RX3) inW3 0 rfl rfl 4 (by decide) w_216 rfl (v := .ref (ad 5)) rfl dX3_spreadToJunctions_55 ?_
      refine x_iload_n X dX3_spreadToJunctions_58 2 rfl ?_
      refine x_iald X E.1.1 5 rfl dX3_spreadToJunctions_59 hf (fun x4 hf => ?_)
      refine x_mmin X w_5172 w_496 w_62 w_497 (by decide) (Nat.le_of_ble_eq_true rfl) (by decide) (by decide) dX3_spreadToJunctions_60 ?_
      refine x_iast X E.1.1 17 rfl dX3_spreadToJunctions_63 hf (picC kA ad) (setC_17 kA ad _ _ _) (fun w5 hf => ?_)
      refine x_iinc X dX3_spreadToJunctions_64 2 rfl (by decide) (y1 + 1) rfl hf (fun x6 => [(1, .int x6), (2, .int x2), (0, .ref (ad 0))]) (fun _ => rfl) (fun x6 hf => ?_)
      refine x_goto X (tgt := 22) dX3_spreadToJunctions_67 (by decide) ?_
      cases hf
      refine x_lpick (lv2 := [(0, .ref (ad 0)), (1, .int x6)]) [2, 0] rfl ?_
      exact ih _ _ _ hit kk
set_option maxRecDepth 100000 in
set_option maxHeartbeats 4000000 in
theorem met_X3_spreadToJunctions (l : Launch) (hst : l.stackTraces = false) (D : va_G) (kA : Nat → ClassId) (ad : Nat → Nat) (fu : Nat) (w : WS)  (w1 : WS) (hf : f_X3_spreadToJunctions fu w = some w1) (sz : Nat) : Met l yX3_spreadToJunctions (wsY yX3_spreadToJunctions cX3_spreadToJunctions 3 none) rm_X3_spreadToJunctions (va_Pc [.ref (ad 0)] (PreG D kA (picC kA ad w) sz)) (va_Qv (fun (_ : Unit) => True) (fun _ t => PosG D (va_A (picC kA ad w) sz) (picC kA ad w1) t) (va_A (picC kA ad w) sz)) 0 0 (va_A (picC kA ad w) sz) := by
  refine metG (own := RX3) hst (by decide +kernel) rfl (Nat.le_of_ble_eq_true rfl) rfl ?_
  intro p e s m below meth c X hr hlk E _
  unfold f_X3_spreadToJunctions at hf
  refine x_aload_n X dX3_spreadToJunctions_0 0 rfl ?_
  refine x_get X E.1.1 (T := TX3) (C := RX3) inW3 0 rfl rfl 1 (by decide) w_213 rfl (v := .ref (ad 2)) rfl dX3_spreadToJunctions_1 ?_
  refine x_aload_n X dX3_spreadToJunctions_4 0 rfl ?_
  refine x_get X E.1.1 (T := TX3) (C := RX3) inW3 0 rfl rfl 4 (by decide) w_216 rfl (v := .ref (ad 5)) rfl dX3_spreadToJunctions_5 ?_
  obtain ⟨w1, hw1, hf⟩ := bn_some hf
  refine x_callV_v X E (As := [.ref (ad 5)]) (rest := []) (n := 1) (ws2 := (picC kA ad w1)) (goodV w_5168 w_672 w_673 w_50 w_5169) (met_X0_spreadForward l E.2.2.2 D kA ad fu w w1 hw1) rfl rfl (by decide +kernel) ⟨by decide, by decide⟩ 2 rfl (qc := (RX0, TX0, _)) rfl rfl rfl rfl (Nat.le_of_ble_eq_true rfl) dX3_spreadToJunctions_8 ⟨by decide, by decide⟩ ?_
  refine x_aload_n X dX3_spreadToJunctions_11 0 rfl ?_
  refine x_get X E.1.1 (T := TX3) (C := RX3) inW3 0 rfl rfl 5 (by decide) w_5062 rfl (v := .ref (ad 17)) rfl dX3_spreadToJunctions_12 ?_
  refine x_ldc X (v := 536870912) w_5089 dX3_spreadToJunctions_15 ?_
  refine x_fill X E w_5163 w_80 w_49 w_81 (by decide) (by decide) 17 rfl (by decide) dX3_spreadToJunctions_17 ⟨by decide, by decide⟩ hf (picC kA ad) (setFC_17 kA ad _ _) (fun w2 hf => ?_)
  refine x_iconst X (v := 0) dX3_spreadToJunctions_20 (by decide) ?_
  refine x_istore_n X (lv2 := [(1, .int 0), (0, .ref (ad 0))]) dX3_spreadToJunctions_21 (by decide) rfl ?_
  refine x_lpick (lv2 := [(0, .ref (ad 0)), (1, .int 0)]) [1, 0] rfl ?_
  obtain ⟨w3, h4, hf⟩ := bn_some hf
  refine lp_X3_spreadToJunctions_22 X E fu  fu (0 : Int32) w2 w3 h4 ?_
  cases hf
  exact x_vret X hr hlk rfl dX3_spreadToJunctions_70
end
section
variable {p : Program} {l : Launch} {e : Env} {s : State} {m : MethodId} {args : Array Value} {below : List Frame} {meth : Method} {c : Code} {D : va_G} {kA : Nat → ClassId} {A : Nat → Prop} {Q : State → Prop} {ad al : Nat → Nat} {b L : Nat} {xs : Nat → Int32}
abbrev rm_X3_searchFrom : Room := { frames := 4, cells := 0, slots := 0, locals := 92 }
set_option maxRecDepth 100000 in
set_option maxHeartbeats 4000000 in
theorem lp_X3_searchFrom_30 (X : CX p m c cX3_searchFrom 5 s args RX3) (E : EX l s D kA A) (fu : Nat) (y1 : Int32) (y2 : Int64) : ∀ (n : Nat) (y4 : Int32) (w : WS) (rw : WS), iter (fun q => bd_X3_searchFrom_30 fu y1 y2 q.1 q.2) n (y4, w) = some (rw) → CS p l e rm_X3_searchFrom s m args below meth c D A 5 0 0 Q (picC kA ad rw) 73 [(0, .ref (ad 0)), (1, .int y1)] [] → CS p l e rm_X3_searchFrom s m args below meth c D A 5 0 0 Q (picC kA ad w) 30 [(0, .ref (ad 0)), (1, .int y1), (2, .long y2), (4, .int y4)] [] := by
  intro n
  induction n with
  | zero =>
    intro y4 w rw hit kk
    exact (iter_0 hit).elim
  | succ n ih =>
    intro y4 w rw hit kk
    obtain ⟨o, h1, hit⟩ := iter_one hit
    have hf : bd_X3_searchFrom_30 fu y1 y2 y4 w = some o := h1
    unfold bd_X3_searchFrom_30 at hf
    refine x_iload X dX3_searchFrom_30 3 rfl ?_
    refine x_aload_n X dX3_searchFrom_32 0 rfl ?_
    refine x_get X E.1.1 (T := TX3) (C := RX3) inW3 0 rfl rfl 0 (by decide) w_212 rfl (v := .ref (ad 1)) rfl dX3_searchFrom_33 ?_
    refine x_get X E.1.1 (T := TX2) (C := RX2) inW2 1 rfl rfl 1 (by decide) w_5003 rfl (v := .int (w.1 1 1)) rfl dX3_searchFrom_36 ?_
    refine x_nmI hf (fun x1 hf => ?_)
    refine x_icmp_ge X (tgt := 73) dX3_searchFrom_39 (by decide) hf (fun hf => ?_) (fun hf => ?_)
    · cases hf
      cases hit
      refine x_lpick (lv2 := [(0, .ref (ad 0)), (1, .int y1)]) [0, 1] rfl ?_
      exact kk
    · refine x_lload_n X dX3_searchFrom_42 2 rfl ?_
      refine x_iload X dX3_searchFrom_43 3 rfl ?_
      obtain ⟨x2, hx2, hf⟩ := bn_some hf
      refine x_callS_i X (As := [.long y2, .int y4]) (rest := []) (n := 2) (goodS w_5085 w_274 w_47 w_275) (met_X3_has l fu y2 y4 x2 hx2) rfl rfl (by decide +kernel) ⟨by decide, by decide⟩ rfl rfl (Nat.le_of_ble_eq_true rfl) dX3_searchFrom_45 ⟨by decide, by decide⟩ ?_
      refine x_if_eq X (tgt := 67) dX3_searchFrom_48 (by decide) hf (fun hf => ?_) (fun hf => ?_)
      · refine x_iinc X dX3_searchFrom_67 3 rfl (by decide) (y4 + 1) rfl hf (fun x3 => [(4, .int x3), (0, .ref (ad 0)), (1, .int y1), (2, .long y2)]) (fun _ => rfl) (fun x3 hf => ?_)
        refine x_goto X (tgt := 30) dX3_searchFrom_70 (by decide) ?_
        cases hf
        refine x_lpick (lv2 := [(0, .ref (ad 0)), (1, .int y1), (2, .long y2), (4, .int x3)]) [1, 2, 3, 0] rfl ?_
        exact ih _ _ _ hit kk
      · refine x_aload_n X dX3_searchFrom_51 0 rfl ?_
        refine x_get X E.1.1 (T := TX3) (C := RX3) inW3 0 rfl rfl 4 (by decide) w_216 rfl (v := .ref (ad 5)) rfl dX3_searchFrom_52 ?_
        refine x_iload X dX3_searchFrom_55 3 rfl ?_
        refine x_aload_n X dX3_searchFrom_57 0 rfl ?_
        refine x_get X E.1.1 (T := TX3) (C := RX3) inW3 0 rfl rfl 0 (by decide) w_212 rfl (v := .ref (ad 1)) rfl dX3_searchFrom_58 ?_
        refine x_iload X dX3_searchFrom_61 3 rfl ?_
        obtain ⟨x4, hx4, hf⟩ := bn_some hf
        refine x_callV_i X E (As := [.int y4]) (rest := [.int y4, .ref (ad 5)]) (n := 1) (ws2 := (picC kA ad w)) (goodV w_5164 w_475 w_476 w_48 w_477) (met_X2_roadLength l E.2.2.2 D kA ad fu w y4 x4 hx4) rfl rfl (by decide +kernel) ⟨by decide, by decide⟩ 1 rfl (qc := (RX2, TX2, _)) rfl rfl rfl rfl (Nat.le_of_ble_eq_true rfl) dX3_searchFrom_63 ⟨by decide, by decide⟩ ?_
        refine x_iast X E.1.1 5 rfl dX3_searchFrom_66 hf (picC kA ad) (setC_5 kA ad _ _ _) (fun w5 hf => ?_)
        refine x_iinc X dX3_searchFrom_67 3 rfl (by decide) (y4 + 1) rfl hf (fun x6 => [(4, .int x6), (0, .ref (ad 0)), (1, .int y1), (2, .long y2)]) (fun _ => rfl) (fun x6 hf => ?_)
        refine x_goto X (tgt := 30) dX3_searchFrom_70 (by decide) ?_
        cases hf
        refine x_lpick (lv2 := [(0, .ref (ad 0)), (1, .int y1), (2, .long y2), (4, .int x6)]) [1, 2, 3, 0] rfl ?_
        exact ih _ _ _ hit kk
set_option maxRecDepth 100000 in
set_option maxHeartbeats 4000000 in
theorem met_X3_searchFrom (l : Launch) (hst : l.stackTraces = false) (D : va_G) (kA : Nat → ClassId) (ad : Nat → Nat) (fu : Nat) (w : WS) (a1 : Int32) (w1 : WS) (hf : f_X3_searchFrom fu w a1 = some w1) (sz : Nat) : Met l yX3_searchFrom (wsY yX3_searchFrom cX3_searchFrom 5 none) rm_X3_searchFrom (va_Pc [.ref (ad 0), .int a1] (PreG D kA (picC kA ad w) sz)) (va_Qv (fun (_ : Unit) => True) (fun _ t => PosG D (va_A (picC kA ad w) sz) (picC kA ad w1) t) (va_A (picC kA ad w) sz)) 0 0 (va_A (picC kA ad w) sz) := by
  refine metG (own := RX3) hst (by decide +kernel) rfl (Nat.le_of_ble_eq_true rfl) rfl ?_
  intro p e s m below meth c X hr hlk E _
  unfold f_X3_searchFrom at hf
  refine x_aload_n X dX3_searchFrom_0 0 rfl ?_
  refine x_get X E.1.1 (T := TX3) (C := RX3) inW3 0 rfl rfl 4 (by decide) w_216 rfl (v := .ref (ad 5)) rfl dX3_searchFrom_1 ?_
  refine x_ldc X (v := 536870912) w_5089 dX3_searchFrom_4 ?_
  refine x_fill X E w_5163 w_80 w_49 w_81 (by decide) (by decide) 5 rfl (by decide) dX3_searchFrom_6 ⟨by decide, by decide⟩ hf (picC kA ad) (setFC_5 kA ad _ _) (fun w1 hf => ?_)
  refine x_aload_n X dX3_searchFrom_9 0 rfl ?_
  refine x_get X E.1.1 (T := TX3) (C := RX3) inW3 0 rfl rfl 0 (by decide) w_212 rfl (v := .ref (ad 1)) rfl dX3_searchFrom_10 ?_
  refine x_get X E.1.1 (T := TX2) (C := RX2) inW2 1 rfl rfl 6 (by decide) w_5008 rfl (v := .ref (ad 13)) rfl dX3_searchFrom_13 ?_
  refine x_iload_n X dX3_searchFrom_16 1 rfl ?_
  refine x_lald X E.1.1 13 rfl dX3_searchFrom_17 hf (fun x2 hf => ?_)
  refine x_aload_n X dX3_searchFrom_18 0 rfl ?_
  refine x_get X E.1.1 (T := TX3) (C := RX3) inW3 0 rfl rfl 0 (by decide) w_212 rfl (v := .ref (ad 1)) rfl dX3_searchFrom_19 ?_
  refine x_get X E.1.1 (T := TX2) (C := RX2) inW2 1 rfl rfl 8 (by decide) w_5010 rfl (v := .long (w1.2 1 8)) rfl dX3_searchFrom_22 ?_
  refine x_nmL hf (fun x3 hf => ?_)
  refine x_land X dX3_searchFrom_25 ?_
  refine x_nmL hf (fun x4 hf => ?_)
  refine x_lstore_n X (lv2 := [(2, .long x4), (0, .ref (ad 0)), (1, .int a1)]) dX3_searchFrom_26 (by decide) rfl ?_
  refine x_iconst X (v := 0) dX3_searchFrom_27 (by decide) ?_
  refine x_istore X (lv2 := [(4, .int 0), (2, .long x4), (0, .ref (ad 0)), (1, .int a1)]) dX3_searchFrom_28 (by decide) rfl ?_
  refine x_lpick (lv2 := [(0, .ref (ad 0)), (1, .int a1), (2, .long x4), (4, .int 0)]) [2, 3, 1, 0] rfl ?_
  obtain ⟨w5, h6, hf⟩ := bn_some hf
  refine lp_X3_searchFrom_30 X E fu a1 x4 fu (0 : Int32) w1 w5 h6 ?_
  refine x_aload_n X dX3_searchFrom_73 0 rfl ?_
  obtain ⟨w7, hw7, hf⟩ := bn_some hf
  refine x_callV_v X E (As := []) (rest := []) (n := 0) (ws2 := (picC kA ad w7)) (goodV w_5165 w_5166 s_502 w_47 w_5167) (met_X3_spreadToJunctions l E.2.2.2 D kA ad fu w5 w7 hw7) rfl rfl (by decide +kernel) ⟨by decide, by decide⟩ 0 rfl (qc := (RX3, TX3, _)) rfl rfl rfl rfl (Nat.le_of_ble_eq_true rfl) dX3_searchFrom_74 ⟨by decide, by decide⟩ ?_
  refine x_aload_n X dX3_searchFrom_77 0 rfl ?_
  refine x_get X E.1.1 (T := TX3) (C := RX3) inW3 0 rfl rfl 5 (by decide) w_5062 rfl (v := .ref (ad 17)) rfl dX3_searchFrom_78 ?_
  refine x_iload_n X dX3_searchFrom_81 1 rfl ?_
  refine x_iconst X (v := 0) dX3_searchFrom_82 (by decide) ?_
  refine x_iast X E.1.1 17 rfl dX3_searchFrom_83 hf (picC kA ad) (setC_17 kA ad _ _ _) (fun w8 hf => ?_)
  cases hf
  exact x_vret X hr hlk rfl dX3_searchFrom_84
end
section
variable {p : Program} {l : Launch} {e : Env} {s : State} {m : MethodId} {args : Array Value} {below : List Frame} {meth : Method} {c : Code} {D : va_G} {kA : Nat → ClassId} {A : Nat → Prop} {Q : State → Prop} {ad al : Nat → Nat} {b L : Nat} {xs : Nat → Int32}
abbrev rm_X3_foundCost : Room := { frames := 1, cells := 0, slots := 0, locals := 20 }
set_option maxRecDepth 100000 in
set_option maxHeartbeats 4000000 in
theorem met_X3_foundCost (l : Launch) (hst : l.stackTraces = false) (D : va_G) (kA : Nat → ClassId) (ad : Nat → Nat) (fu : Nat) (w : WS) (a1 : Int32) (v : Int32) (hf : f_X3_foundCost fu w a1 = some v) (sz : Nat) : Met l yX3_foundCost (wsY yX3_foundCost cX3_foundCost 2 (some .int)) rm_X3_foundCost (va_Pc [.ref (ad 0), .int a1] (PreG D kA (picC kA ad w) sz)) (va_Qi (fun (r : Int32) (_ : Unit) => r = v) (fun _ t => PosG D (va_A (picC kA ad w) sz) (picC kA ad w) t) (va_A (picC kA ad w) sz)) 0 0 (va_A (picC kA ad w) sz) := by
  refine metG (own := RX3) hst (by decide +kernel) rfl (Nat.le_of_ble_eq_true rfl) rfl ?_
  intro p e s m below meth c X hr hlk E _
  unfold f_X3_foundCost at hf
  refine x_aload_n X dX3_foundCost_0 0 rfl ?_
  refine x_get X E.1.1 (T := TX3) (C := RX3) inW3 0 rfl rfl 5 (by decide) w_5062 rfl (v := .ref (ad 17)) rfl dX3_foundCost_1 ?_
  refine x_iload_n X dX3_foundCost_4 1 rfl ?_
  refine x_iald X E.1.1 17 rfl dX3_foundCost_5 hf (fun x1 hf => ?_)
  obtain ⟨x2, hx2, hf⟩ := bn_some hf
  refine x_callS_i X (As := [.int x1]) (rest := []) (n := 1) (goodS w_5160 w_296 w_47 w_297) (met_X3_costOf l fu x1 x2 hx2) rfl rfl (by decide +kernel) ⟨by decide, by decide⟩ rfl rfl (Nat.le_of_ble_eq_true rfl) dX3_foundCost_6 ⟨by decide, by decide⟩ ?_
  exact x_iret X hr hlk rfl (Option.some.inj hf) dX3_foundCost_9
end
section
variable {p : Program} {l : Launch} {e : Env} {s : State} {m : MethodId} {args : Array Value} {below : List Frame} {meth : Method} {c : Code} {D : va_G} {kA : Nat → ClassId} {A : Nat → Prop} {Q : State → Prop} {ad al : Nat → Nat} {b L : Nat} {xs : Nat → Int32}
abbrev rm_X3_costBetween : Room := { frames := 5, cells := 0, slots := 0, locals := 116 }
set_option maxRecDepth 100000 in
set_option maxHeartbeats 4000000 in
theorem met_X3_costBetween (l : Launch) (hst : l.stackTraces = false) (D : va_G) (kA : Nat → ClassId) (ad : Nat → Nat) (fu : Nat) (w : WS) (a1 : Int32) (a2 : Int32) (v : Int32) (w1 : WS) (hf : f_X3_costBetween fu w a1 a2 = some (v, w1)) (sz : Nat) : Met l yX3_costBetween (wsY yX3_costBetween cX3_costBetween 3 (some .int)) rm_X3_costBetween (va_Pc [.ref (ad 0), .int a1, .int a2] (PreG D kA (picC kA ad w) sz)) (va_Qi (fun (r : Int32) (_ : Unit) => r = v) (fun _ t => PosG D (va_A (picC kA ad w) sz) (picC kA ad w1) t) (va_A (picC kA ad w) sz)) 0 0 (va_A (picC kA ad w) sz) := by
  refine metG (own := RX3) hst (by decide +kernel) rfl (Nat.le_of_ble_eq_true rfl) rfl ?_
  intro p e s m below meth c X hr hlk E _
  unfold f_X3_costBetween at hf
  refine x_aload_n X dX3_costBetween_0 0 rfl ?_
  refine x_iload_n X dX3_costBetween_1 1 rfl ?_
  obtain ⟨w1, hw1, hf⟩ := bn_some hf
  refine x_callV_v X E (As := [.int a1]) (rest := []) (n := 1) (ws2 := (picC kA ad w1)) (goodV w_5162 w_666 s_18 w_47 w_667) (met_X3_searchFrom l E.2.2.2 D kA ad fu w a1 w1 hw1) rfl rfl (by decide +kernel) ⟨by decide, by decide⟩ 0 rfl (qc := (RX3, TX3, _)) rfl rfl rfl rfl (Nat.le_of_ble_eq_true rfl) dX3_costBetween_2 ⟨by decide, by decide⟩ ?_
  refine x_aload_n X dX3_costBetween_5 0 rfl ?_
  refine x_iload_n X dX3_costBetween_6 2 rfl ?_
  obtain ⟨x2, hx2, hf⟩ := bn_some hf
  refine x_callV_i X E (As := [.int a2]) (rest := []) (n := 1) (ws2 := (picC kA ad w1)) (goodV w_5173 w_681 s_20 w_47 w_5174) (met_X3_foundCost l E.2.2.2 D kA ad fu w1 a2 x2 hx2) rfl rfl (by decide +kernel) ⟨by decide, by decide⟩ 0 rfl (qc := (RX3, TX3, _)) rfl rfl rfl rfl (Nat.le_of_ble_eq_true rfl) dX3_costBetween_7 ⟨by decide, by decide⟩ ?_
  cases hf
  exact x_iret X hr hlk rfl rfl dX3_costBetween_10
end
section
variable {p : Program} {l : Launch} {e : Env} {s : State} {m : MethodId} {args : Array Value} {below : List Frame} {meth : Method} {c : Code} {D : va_G} {kA : Nat → ClassId} {A : Nat → Prop} {Q : State → Prop} {ad al : Nat → Nat} {b L : Nat} {xs : Nat → Int32}
abbrev rm_X3_distance : Room := { frames := 6, cells := 0, slots := 0, locals := 138 }
set_option maxRecDepth 100000 in
set_option maxHeartbeats 4000000 in
theorem met_X3_distance (l : Launch) (hst : l.stackTraces = false) (D : va_G) (kA : Nat → ClassId) (ad : Nat → Nat) (fu : Nat) (w : WS) (a1 : Int32) (a2 : Int32) (v : Int32) (w1 : WS) (hf : f_X3_distance fu w a1 a2 = some (.inl (v, w1))) (sz : Nat) : Met l yX3_distance (wsY yX3_distance cX3_distance 3 (some .int)) rm_X3_distance (va_Pc [.ref (ad 0), .int a1, .int a2] (PreG D kA (picC kA ad w) sz)) (va_Qi (fun (r : Int32) (_ : Unit) => r = v) (fun _ t => PosG D (va_A (picC kA ad w) sz) (picC kA ad w1) t) (va_A (picC kA ad w) sz)) 0 0 (va_A (picC kA ad w) sz) := by
  refine metG (own := RX3) hst (by decide +kernel) rfl (Nat.le_of_ble_eq_true rfl) rfl ?_
  intro p e s m below meth c X hr hlk E _
  unfold f_X3_distance at hf
  refine x_aload_n X dX3_distance_0 0 rfl ?_
  obtain ⟨w1, hw1, hf⟩ := bxr_some hf
  refine x_callV_v X E (As := []) (rest := []) (n := 0) (ws2 := (picC kA ad w1)) (goodV w_5155 w_618 s_16 w_47 w_619) (met_X3_requireHierarchy l E.2.2.2 D kA ad fu w w1 hw1) rfl rfl (by decide +kernel) ⟨by decide, by decide⟩ 0 rfl (qc := (RX3, TX3, _)) rfl rfl rfl rfl (Nat.le_of_ble_eq_true rfl) dX3_distance_1 ⟨by decide, by decide⟩ ?_
  refine x_aload_n X dX3_distance_4 0 rfl ?_
  refine x_iload_n X dX3_distance_5 1 rfl ?_
  obtain ⟨w2, hw2, hf⟩ := bxr_some hf
  refine x_callV_v X E (As := [.int a1]) (rest := []) (n := 1) (ws2 := (picC kA ad w2)) (goodV w_5106 w_387 s_1 w_47 w_388) (met_X3_requireJunction l E.2.2.2 D kA ad fu w1 a1 w2 hw2) rfl rfl (by decide +kernel) ⟨by decide, by decide⟩ 0 rfl (qc := (RX3, TX3, _)) rfl rfl rfl rfl (Nat.le_of_ble_eq_true rfl) dX3_distance_6 ⟨by decide, by decide⟩ ?_
  refine x_aload_n X dX3_distance_9 0 rfl ?_
  refine x_iload_n X dX3_distance_10 2 rfl ?_
  obtain ⟨w3, hw3, hf⟩ := bxr_some hf
  refine x_callV_v X E (As := [.int a2]) (rest := []) (n := 1) (ws2 := (picC kA ad w3)) (goodV w_5106 w_387 s_1 w_47 w_388) (met_X3_requireJunction l E.2.2.2 D kA ad fu w2 a2 w3 hw3) rfl rfl (by decide +kernel) ⟨by decide, by decide⟩ 0 rfl (qc := (RX3, TX3, _)) rfl rfl rfl rfl (Nat.le_of_ble_eq_true rfl) dX3_distance_11 ⟨by decide, by decide⟩ ?_
  refine x_aload_n X dX3_distance_14 0 rfl ?_
  refine x_iload_n X dX3_distance_15 1 rfl ?_
  refine x_iload_n X dX3_distance_16 2 rfl ?_
  obtain ⟨x5, w4, hx5, hf⟩ := bn2_some hf
  refine x_callV_i X E (As := [.int a1, .int a2]) (rest := []) (n := 2) (ws2 := (picC kA ad w4)) (goodV w_5161 w_662 s_17 w_47 w_663) (met_X3_costBetween l E.2.2.2 D kA ad fu w3 a1 a2 x5 w4 hx5) rfl rfl (by decide +kernel) ⟨by decide, by decide⟩ 0 rfl (qc := (RX3, TX3, _)) rfl rfl rfl rfl (Nat.le_of_ble_eq_true rfl) dX3_distance_17 ⟨by decide, by decide⟩ ?_
  cases hf
  exact x_iret X hr hlk rfl rfl dX3_distance_20
end
