theorem at_IAE_71 : ∀ w ∈ (vx_atS "RoadOracle" 71 "java/lang/IllegalArgumentException" ["java/lang/RuntimeException", "java/lang/Exception"]), w ∈ WG ∨ w ∈ NWL := by decide +kernel
theorem gd_IAE_71 : ∀ w ∈ Cond.classLink "RoadOracle" 67 "java/lang/IllegalArgumentException" :: Cond.initialized "java/lang/IllegalArgumentException" :: vx_atS "RoadOracle" 71 "java/lang/IllegalArgumentException" ["java/lang/RuntimeException", "java/lang/Exception"], vx_ot w = true := by decide +kernel
theorem at_ISE_60 : ∀ w ∈ (vx_atS "RoadOracle" 60 "java/lang/IllegalStateException" ["java/lang/RuntimeException", "java/lang/Exception"]), w ∈ WG ∨ w ∈ NWL := by decide +kernel
theorem gd_ISE_60 : ∀ w ∈ Cond.classLink "RoadOracle" 56 "java/lang/IllegalStateException" :: Cond.initialized "java/lang/IllegalStateException" :: vx_atS "RoadOracle" 60 "java/lang/IllegalStateException" ["java/lang/RuntimeException", "java/lang/Exception"], vx_ot w = true := by decide +kernel
theorem at_IOB_208 : ∀ w ∈ (vx_atS "RoadOracle" 208 "java/lang/IndexOutOfBoundsException" ["java/lang/RuntimeException", "java/lang/Exception"]), w ∈ WG ∨ w ∈ NWL := by decide +kernel
theorem gd_IOB_208 : ∀ w ∈ Cond.classLink "RoadOracle" 204 "java/lang/IndexOutOfBoundsException" :: Cond.initialized "java/lang/IndexOutOfBoundsException" :: vx_atS "RoadOracle" 208 "java/lang/IndexOutOfBoundsException" ["java/lang/RuntimeException", "java/lang/Exception"], vx_ot w = true := by decide +kernel
section
variable {p : Program} {l : Launch} {e : Env} {s : State} {m : MethodId} {args : Array Value} {below : List Frame} {meth : Method} {c : Code} {D : va_G} {kA : Nat → ClassId} {A : Nat → Prop} {Q : State → Prop} {ad : Nat → Nat}
abbrev rm_X3_addJunction : Room := { frames := 6, cells := 1, slots := 6, locals := 90 }
set_option maxRecDepth 100000 in
set_option maxHeartbeats 4000000 in
theorem met_X3_addJunction (l : Launch) (hst : l.stackTraces = false) (D : va_G) (kA : Nat → ClassId) (ad : Nat → Nat) (fu : Nat) (w : WS)  (o : ((Int32 × WS) ⊕ (String × WS))) (hf : f_X3_addJunction fu w = some o) (sz : Nat) : vx_Met l yX3_addJunction (wsY yX3_addJunction cX3_addJunction 1 (some .int)) rm_X3_addJunction (va_Pc [.ref (ad 0)] (PreG D kA (picC kA ad w) sz)) (va_Qi (fun (r : Int32) (w1 : WS) => o = .inl (r, w1)) (fun w1 t => PosG D (va_A (picC kA ad w) sz) (picC kA ad w1) t) (va_A (picC kA ad w) sz)) (vx_X (fun q : String × WS => o = .inr q) (fun E q t => E = q.1 ∧ PosG D (va_A (picC kA ad w) sz) (picC kA ad q.2) t) (va_A (picC kA ad w) sz)) 1 6 (va_A (picC kA ad w) sz) := by
  refine metX (own := RX3) hst (by decide +kernel) rfl (Nat.le_of_ble_eq_true rfl) rfl ?_
  intro p e s m below meth c X hr hlk E htab
  unfold f_X3_addJunction at hf
  refine x_aload_n X dX3_addJunction_0 0 rfl ?_
  refine x_get X E.1.1 (T := TX3) (C := RX3) inW3 0 rfl rfl 0 (by decide) w_212 rfl (v := .ref (ad 1)) rfl dX3_addJunction_1 ?_
  refine x_get X E.1.1 (T := TX2) (C := RX2) inW2 1 rfl rfl 0 (by decide) w_5001 rfl (v := .int (w.1 1 0)) rfl dX3_addJunction_4 ?_
  refine x_nmI hf (fun x1 hf => ?_)
  refine x_bipush X (v := 32) dX3_addJunction_7 (by decide) ?_
  refine x_icmp_lt X (tgt := 22) dX3_addJunction_9 (by decide) hf (fun hf => ?_) (fun hf => ?_)
  · refine x_aload_n X dX3_addJunction_22 0 rfl ?_
    refine x_get X E.1.1 (T := TX3) (C := RX3) inW3 0 rfl rfl 0 (by decide) w_212 rfl (v := .ref (ad 1)) rfl dX3_addJunction_23 ?_
    refine x_dup X dX3_addJunction_26 rfl ?_
    refine x_get X E.1.1 (T := TX2) (C := RX2) inW2 1 rfl rfl 0 (by decide) w_5001 rfl (v := .int (w.1 1 0)) rfl dX3_addJunction_27 ?_
    refine x_nmI hf (fun x2 hf => ?_)
    refine x_iconst X (v := 1) dX3_addJunction_30 (by decide) ?_
    refine x_iadd X dX3_addJunction_31 ?_
    refine x_put X E.1.1 (T := TX2) (C := RX2) (ty := .int) inW2 tyX2 tyX2_ok nmX2 1 rfl rfl 0 (by decide) w_5001 rfl rfl (by decide +kernel) rfl rfl (Nat.le_of_ble_eq_true rfl) dX3_addJunction_32 (picC kA ad (wI w 1 0 (x2 + 1))) rfl ?_
    refine x_nmW (pic := (picC kA ad)) (u := (wI w 1 0 (x2 + 1))) hf (fun w3 hf => ?_)
    refine x_aload_n X dX3_addJunction_35 0 rfl ?_
    refine x_get X E.1.1 (T := TX3) (C := RX3) inW3 0 rfl rfl 0 (by decide) w_212 rfl (v := .ref (ad 1)) rfl dX3_addJunction_36 ?_
    refine x_get X E.1.1 (T := TX2) (C := RX2) inW2 1 rfl rfl 0 (by decide) w_5001 rfl (v := .int (w3.1 1 0)) rfl dX3_addJunction_39 ?_
    refine x_nmI hf (fun x4 hf => ?_)
    refine x_iconst X (v := 1) dX3_addJunction_42 (by decide) ?_
    refine x_isub X dX3_addJunction_43 ?_
    exact x_iretX X hr hlk rfl (pic := picC kA ad) (Option.some.inj hf) (by decide) (by decide) dX3_addJunction_44
  · exact x_throw X E (pic := picC kA ad) (text := "no more junctions") (is := 58) (ic := 60) (by decide +kernel) w_5090 w_56 (by decide +kernel) (at_ISE_60) (gd_ISE_60) dX3_addJunction_12 dX3_addJunction_15 dX3_addJunction_16 dX3_addJunction_18 dX3_addJunction_21 htab hlk rfl (by decide) (by decide) (by decide) (by decide) (by decide) (by decide) (Option.some.inj hf).symm
end
section
variable {p : Program} {l : Launch} {e : Env} {s : State} {m : MethodId} {args : Array Value} {below : List Frame} {meth : Method} {c : Code} {D : va_G} {kA : Nat → ClassId} {A : Nat → Prop} {Q : State → Prop} {ad : Nat → Nat}
abbrev rm_X3_requireJunction : Room := { frames := 6, cells := 1, slots := 6, locals := 90 }
set_option maxRecDepth 100000 in
set_option maxHeartbeats 4000000 in
theorem met_X3_requireJunction (l : Launch) (hst : l.stackTraces = false) (D : va_G) (kA : Nat → ClassId) (ad : Nat → Nat) (fu : Nat) (w : WS) (a1 : Int32) (o : (WS ⊕ (String × WS))) (hf : f_X3_requireJunction fu w a1 = some o) (sz : Nat) : vx_Met l yX3_requireJunction (wsY yX3_requireJunction cX3_requireJunction 2 none) rm_X3_requireJunction (va_Pc [.ref (ad 0), .int a1] (PreG D kA (picC kA ad w) sz)) (va_Qv (fun (w1 : WS) => o = .inl w1) (fun w1 t => PosG D (va_A (picC kA ad w) sz) (picC kA ad w1) t) (va_A (picC kA ad w) sz)) (vx_X (fun q : String × WS => o = .inr q) (fun E q t => E = q.1 ∧ PosG D (va_A (picC kA ad w) sz) (picC kA ad q.2) t) (va_A (picC kA ad w) sz)) 1 6 (va_A (picC kA ad w) sz) := by
  refine metX (own := RX3) hst (by decide +kernel) rfl (Nat.le_of_ble_eq_true rfl) rfl ?_
  intro p e s m below meth c X hr hlk E htab
  unfold f_X3_requireJunction at hf
  refine x_iload_n X dX3_requireJunction_0 1 rfl ?_
  refine x_if_lt X (tgt := 15) dX3_requireJunction_1 (by decide) hf (fun hf => ?_) (fun hf => ?_)
  · exact x_throw X E (pic := picC kA ad) (text := "no such junction") (is := 251) (ic := 208) (by decide +kernel) w_5107 w_57 (by decide +kernel) (at_IOB_208) (gd_IOB_208) dX3_requireJunction_15 dX3_requireJunction_18 dX3_requireJunction_19 dX3_requireJunction_21 dX3_requireJunction_24 htab hlk rfl (by decide) (by decide) (by decide) (by decide) (by decide) (by decide) (Option.some.inj hf).symm
  · refine x_iload_n X dX3_requireJunction_4 1 rfl ?_
    refine x_aload_n X dX3_requireJunction_5 0 rfl ?_
    refine x_get X E.1.1 (T := TX3) (C := RX3) inW3 0 rfl rfl 0 (by decide) w_212 rfl (v := .ref (ad 1)) rfl dX3_requireJunction_6 ?_
    refine x_get X E.1.1 (T := TX2) (C := RX2) inW2 1 rfl rfl 0 (by decide) w_5001 rfl (v := .int (w.1 1 0)) rfl dX3_requireJunction_9 ?_
    refine x_nmI hf (fun x1 hf => ?_)
    refine x_icmp_lt X (tgt := 25) dX3_requireJunction_12 (by decide) hf (fun hf => ?_) (fun hf => ?_)
    · exact x_vretX X hr hlk rfl (pic := picC kA ad) (Option.some.inj hf) (by decide) (by decide) dX3_requireJunction_25
    · exact x_throw X E (pic := picC kA ad) (text := "no such junction") (is := 251) (ic := 208) (by decide +kernel) w_5107 w_57 (by decide +kernel) (at_IOB_208) (gd_IOB_208) dX3_requireJunction_15 dX3_requireJunction_18 dX3_requireJunction_19 dX3_requireJunction_21 dX3_requireJunction_24 htab hlk rfl (by decide) (by decide) (by decide) (by decide) (by decide) (by decide) (Option.some.inj hf).symm
end
section
variable {p : Program} {l : Launch} {e : Env} {s : State} {m : MethodId} {args : Array Value} {below : List Frame} {meth : Method} {c : Code} {D : va_G} {kA : Nat → ClassId} {A : Nat → Prop} {Q : State → Prop} {ad : Nat → Nat}
abbrev rm_X3_requireWeight : Room := { frames := 6, cells := 1, slots := 6, locals := 90 }
set_option maxRecDepth 100000 in
set_option maxHeartbeats 4000000 in
theorem met_X3_requireWeight (l : Launch) (hst : l.stackTraces = false) (D : va_G) (kA : Nat → ClassId) (ad : Nat → Nat) (fu : Nat) (w : WS) (a1 : Int32) (o : (WS ⊕ (String × WS))) (hf : f_X3_requireWeight fu w a1 = some o) (sz : Nat) : vx_Met l yX3_requireWeight (wsY yX3_requireWeight cX3_requireWeight 2 none) rm_X3_requireWeight (va_Pc [.ref (ad 0), .int a1] (PreG D kA (picC kA ad w) sz)) (va_Qv (fun (w1 : WS) => o = .inl w1) (fun w1 t => PosG D (va_A (picC kA ad w) sz) (picC kA ad w1) t) (va_A (picC kA ad w) sz)) (vx_X (fun q : String × WS => o = .inr q) (fun E q t => E = q.1 ∧ PosG D (va_A (picC kA ad w) sz) (picC kA ad q.2) t) (va_A (picC kA ad w) sz)) 1 6 (va_A (picC kA ad w) sz) := by
  refine metX (own := RX3) hst (by decide +kernel) rfl (Nat.le_of_ble_eq_true rfl) rfl ?_
  intro p e s m below meth c X hr hlk E htab
  unfold f_X3_requireWeight at hf
  refine x_iload_n X dX3_requireWeight_0 1 rfl ?_
  refine x_iconst X (v := 1) dX3_requireWeight_1 (by decide) ?_
  refine x_icmp_lt X (tgt := 12) dX3_requireWeight_2 (by decide) hf (fun hf => ?_) (fun hf => ?_)
  · exact x_throwW X E (pic := picC kA ad) (text := "a weight is 1 to 10000") (is := 265) (ic := 71) (by decide +kernel) w_5111 w_58 (by decide +kernel) (at_IAE_71) (gd_IAE_71) dX3_requireWeight_12 dX3_requireWeight_15 dX3_requireWeight_16 dX3_requireWeight_19 dX3_requireWeight_22 htab hlk rfl (by decide) (by decide) (by decide) (by decide) (by decide) (by decide) (Option.some.inj hf).symm
  · refine x_iload_n X dX3_requireWeight_5 1 rfl ?_
    refine x_sipush X (v := 10000) dX3_requireWeight_6 (by decide) ?_
    refine x_icmp_le X (tgt := 23) dX3_requireWeight_9 (by decide) hf (fun hf => ?_) (fun hf => ?_)
    · exact x_vretX X hr hlk rfl (pic := picC kA ad) (Option.some.inj hf) (by decide) (by decide) dX3_requireWeight_23
    · exact x_throwW X E (pic := picC kA ad) (text := "a weight is 1 to 10000") (is := 265) (ic := 71) (by decide +kernel) w_5111 w_58 (by decide +kernel) (at_IAE_71) (gd_IAE_71) dX3_requireWeight_12 dX3_requireWeight_15 dX3_requireWeight_16 dX3_requireWeight_19 dX3_requireWeight_22 htab hlk rfl (by decide) (by decide) (by decide) (by decide) (by decide) (by decide) (Option.some.inj hf).symm
end
section
variable {p : Program} {l : Launch} {e : Env} {s : State} {m : MethodId} {args : Array Value} {below : List Frame} {meth : Method} {c : Code} {D : va_G} {kA : Nat → ClassId} {A : Nat → Prop} {Q : State → Prop} {ad : Nat → Nat}
abbrev rm_X3_addRoad : Room := { frames := 7, cells := 5, slots := 30, locals := 111 }
set_option maxRecDepth 100000 in
set_option maxHeartbeats 4000000 in
theorem met_X3_addRoad (l : Launch) (hst : l.stackTraces = false) (D : va_G) (kA : Nat → ClassId) (ad : Nat → Nat) (fu : Nat) (w : WS) (a1 : Int32) (a2 : Int32) (a3 : Int32) (o : ((Int32 × WS) ⊕ (String × WS))) (hf : f_X3_addRoad fu w a1 a2 a3 = some o) (sz : Nat) : vx_Met l yX3_addRoad (wsY yX3_addRoad cX3_addRoad 4 (some .int)) rm_X3_addRoad (va_Pc [.ref (ad 0), .int a1, .int a2, .int a3] (PreG D kA (picC kA ad w) sz)) (va_Qi (fun (r : Int32) (w1 : WS) => o = .inl (r, w1)) (fun w1 t => PosG D (va_A (picC kA ad w) sz) (picC kA ad w1) t) (va_A (picC kA ad w) sz)) (vx_X (fun q : String × WS => o = .inr q) (fun E q t => E = q.1 ∧ PosG D (va_A (picC kA ad w) sz) (picC kA ad q.2) t) (va_A (picC kA ad w) sz)) 5 30 (va_A (picC kA ad w) sz) := by
  refine metX (own := RX3) hst (by decide +kernel) rfl (Nat.le_of_ble_eq_true rfl) rfl ?_
  intro p e s m below meth c X hr hlk E htab
  unfold f_X3_addRoad at hf
  refine x_aload_n X dX3_addRoad_0 0 rfl ?_
  refine x_iload_n X dX3_addRoad_1 1 rfl ?_
  obtain ⟨o1, ho1, hf, hg⟩ := bx_one hf
  refine x_callX_v X E (As := [.int a1]) (rest := []) (n := 1) (pic := picC kA ad) (w0 := w) (mc := 1) (ms := 6) (goodV w_5106 w_387 s_1 w_47 w_388) (met_X3_requireJunction l E.2.2.2 D kA ad fu w a1 o1 ho1) rfl rfl (by decide +kernel) ⟨by decide, by decide⟩ 0 rfl (qc := (RX3, TX3, _)) rfl rfl rfl rfl (Nat.le_of_ble_eq_true rfl) dX3_addRoad_2 ⟨by decide, by decide⟩ (fun q ce q9 H1 locs1 ls ho hP hD hS hl hce hcv hcl => x_thru (pic := picC kA ad) htab hlk rfl (Option.some.inj (hg q ho)).symm hP hD hS hce hcv hcl (by decide) (by decide)) (fun w2 ho => ?_)
  have hf := hf _ ho
  refine x_aload_n X dX3_addRoad_5 0 rfl ?_
  refine x_iload_n X dX3_addRoad_6 2 rfl ?_
  obtain ⟨o3, ho3, hf, hg⟩ := bx_one hf
  refine x_callX_v X E (As := [.int a2]) (rest := []) (n := 1) (pic := picC kA ad) (w0 := w2) (mc := 1) (ms := 6) (goodV w_5106 w_387 s_1 w_47 w_388) (met_X3_requireJunction l E.2.2.2 D kA ad fu w2 a2 o3 ho3) rfl rfl (by decide +kernel) ⟨by decide, by decide⟩ 0 rfl (qc := (RX3, TX3, _)) rfl rfl rfl rfl (Nat.le_of_ble_eq_true rfl) dX3_addRoad_7 ⟨by decide, by decide⟩ (fun q ce q9 H1 locs1 ls ho hP hD hS hl hce hcv hcl => x_thru (pic := picC kA ad) htab hlk rfl (Option.some.inj (hg q ho)).symm hP hD hS hce hcv hcl (by decide) (by decide)) (fun w4 ho => ?_)
  have hf := hf _ ho
  refine x_iload_n X dX3_addRoad_10 1 rfl ?_
  refine x_iload_n X dX3_addRoad_11 2 rfl ?_
  refine x_icmp_ne X (tgt := 25) dX3_addRoad_12 (by decide) hf (fun hf => ?_) (fun hf => ?_)
  · refine x_aload_n X dX3_addRoad_25 0 rfl ?_
    refine x_iload_n X dX3_addRoad_26 3 rfl ?_
    obtain ⟨o5, ho5, hf, hg⟩ := bx_one hf
    refine x_callX_v X E (As := [.int a3]) (rest := []) (n := 1) (pic := picC kA ad) (w0 := w4) (mc := 1) (ms := 6) (goodV w_5115 w_423 s_2 w_47 w_424) (met_X3_requireWeight l E.2.2.2 D kA ad fu w4 a3 o5 ho5) rfl rfl (by decide +kernel) ⟨by decide, by decide⟩ 0 rfl (qc := (RX3, TX3, _)) rfl rfl rfl rfl (Nat.le_of_ble_eq_true rfl) dX3_addRoad_27 ⟨by decide, by decide⟩ (fun q ce q9 H1 locs1 ls ho hP hD hS hl hce hcv hcl => x_thru (pic := picC kA ad) htab hlk rfl (Option.some.inj (hg q ho)).symm hP hD hS hce hcv hcl (by decide) (by decide)) (fun w6 ho => ?_)
    have hf := hf _ ho
    refine x_aload_n X dX3_addRoad_30 0 rfl ?_
    refine x_get X E.1.1 (T := TX3) (C := RX3) inW3 0 rfl rfl 0 (by decide) w_212 rfl (v := .ref (ad 1)) rfl dX3_addRoad_31 ?_
    refine x_get X E.1.1 (T := TX2) (C := RX2) inW2 1 rfl rfl 1 (by decide) w_5003 rfl (v := .int (w6.1 1 1)) rfl dX3_addRoad_34 ?_
    refine x_nmI hf (fun x7 hf => ?_)
    refine x_bipush X (v := 64) dX3_addRoad_37 (by decide) ?_
    refine x_icmp_lt X (tgt := 52) dX3_addRoad_39 (by decide) hf (fun hf => ?_) (fun hf => ?_)
    · refine x_aload_n X dX3_addRoad_52 0 rfl ?_
      refine x_get X E.1.1 (T := TX3) (C := RX3) inW3 0 rfl rfl 1 (by decide) w_213 rfl (v := .ref (ad 2)) rfl dX3_addRoad_53 ?_
      refine x_iconst X (v := 0) dX3_addRoad_56 (by decide) ?_
      refine x_put X E.1.1 (T := TX0) (C := RX0) (ty := .boolean) inW0 tyX0 tyX0_ok nmX0 2 rfl rfl 1 (by decide) w_5025 rfl rfl (by decide +kernel) (by decide +kernel) rfl (Nat.le_of_ble_eq_true rfl) dX3_addRoad_57 (picC kA ad (wI w6 2 1 0)) rfl ?_
      refine x_nmW (pic := (picC kA ad)) (u := (wI w6 2 1 0)) hf (fun w8 hf => ?_)
      refine x_aload_n X dX3_addRoad_60 0 rfl ?_
      refine x_get X E.1.1 (T := TX3) (C := RX3) inW3 0 rfl rfl 0 (by decide) w_212 rfl (v := .ref (ad 1)) rfl dX3_addRoad_61 ?_
      refine x_iload_n X dX3_addRoad_64 1 rfl ?_
      refine x_iload_n X dX3_addRoad_65 2 rfl ?_
      refine x_iload_n X dX3_addRoad_66 3 rfl ?_
      obtain ⟨x10, w9, hx10, hf⟩ := bn2_some hf
      refine x_callV_i X E (As := [.int a1, .int a2, .int a3]) (rest := []) (n := 3) (ws2 := (picC kA ad w9)) (goodV w_5116 w_428 w_429 w_48 w_430) (met_X2_append l E.2.2.2 D kA ad fu w8 a1 a2 a3 x10 w9 hx10) rfl rfl (by decide +kernel) ⟨by decide, by decide⟩ 1 rfl (qc := (RX2, TX2, _)) rfl rfl rfl rfl (Nat.le_of_ble_eq_true rfl) dX3_addRoad_67 ⟨by decide, by decide⟩ ?_
      exact x_iretX X hr hlk rfl (pic := picC kA ad) (Option.some.inj hf) (by decide) (by decide) dX3_addRoad_70
    · exact x_throw X E (pic := picC kA ad) (text := "no more roads") (is := 78) (ic := 60) (by decide +kernel) w_5090 w_56 (by decide +kernel) (at_ISE_60) (gd_ISE_60) dX3_addRoad_42 dX3_addRoad_45 dX3_addRoad_46 dX3_addRoad_48 dX3_addRoad_51 htab hlk rfl (by decide) (by decide) (by decide) (by decide) (by decide) (by decide) (Option.some.inj hf).symm
  · exact x_throw X E (pic := picC kA ad) (text := "a road ends at another junction") (is := 69) (ic := 71) (by decide +kernel) w_5111 w_58 (by decide +kernel) (at_IAE_71) (gd_IAE_71) dX3_addRoad_15 dX3_addRoad_18 dX3_addRoad_19 dX3_addRoad_21 dX3_addRoad_24 htab hlk rfl (by decide) (by decide) (by decide) (by decide) (by decide) (by decide) (Option.some.inj hf).symm
end
section
variable {p : Program} {l : Launch} {e : Env} {s : State} {m : MethodId} {args : Array Value} {below : List Frame} {meth : Method} {c : Code} {D : va_G} {kA : Nat → ClassId} {A : Nat → Prop} {Q : State → Prop} {ad : Nat → Nat}
abbrev rm_X3_requireRoad : Room := { frames := 6, cells := 1, slots := 6, locals := 90 }
set_option maxRecDepth 100000 in
set_option maxHeartbeats 4000000 in
theorem met_X3_requireRoad (l : Launch) (hst : l.stackTraces = false) (D : va_G) (kA : Nat → ClassId) (ad : Nat → Nat) (fu : Nat) (w : WS) (a1 : Int32) (o : (WS ⊕ (String × WS))) (hf : f_X3_requireRoad fu w a1 = some o) (sz : Nat) : vx_Met l yX3_requireRoad (wsY yX3_requireRoad cX3_requireRoad 2 none) rm_X3_requireRoad (va_Pc [.ref (ad 0), .int a1] (PreG D kA (picC kA ad w) sz)) (va_Qv (fun (w1 : WS) => o = .inl w1) (fun w1 t => PosG D (va_A (picC kA ad w) sz) (picC kA ad w1) t) (va_A (picC kA ad w) sz)) (vx_X (fun q : String × WS => o = .inr q) (fun E q t => E = q.1 ∧ PosG D (va_A (picC kA ad w) sz) (picC kA ad q.2) t) (va_A (picC kA ad w) sz)) 1 6 (va_A (picC kA ad w) sz) := by
  refine metX (own := RX3) hst (by decide +kernel) rfl (Nat.le_of_ble_eq_true rfl) rfl ?_
  intro p e s m below meth c X hr hlk E htab
  unfold f_X3_requireRoad at hf
  refine x_iload_n X dX3_requireRoad_0 1 rfl ?_
  refine x_if_lt X (tgt := 15) dX3_requireRoad_1 (by decide) hf (fun hf => ?_) (fun hf => ?_)
  · exact x_throw X E (pic := picC kA ad) (text := "no such road") (is := 253) (ic := 208) (by decide +kernel) w_5107 w_57 (by decide +kernel) (at_IOB_208) (gd_IOB_208) dX3_requireRoad_15 dX3_requireRoad_18 dX3_requireRoad_19 dX3_requireRoad_21 dX3_requireRoad_24 htab hlk rfl (by decide) (by decide) (by decide) (by decide) (by decide) (by decide) (Option.some.inj hf).symm
  · refine x_iload_n X dX3_requireRoad_4 1 rfl ?_
    refine x_aload_n X dX3_requireRoad_5 0 rfl ?_
    refine x_get X E.1.1 (T := TX3) (C := RX3) inW3 0 rfl rfl 0 (by decide) w_212 rfl (v := .ref (ad 1)) rfl dX3_requireRoad_6 ?_
    refine x_get X E.1.1 (T := TX2) (C := RX2) inW2 1 rfl rfl 1 (by decide) w_5003 rfl (v := .int (w.1 1 1)) rfl dX3_requireRoad_9 ?_
    refine x_nmI hf (fun x1 hf => ?_)
    refine x_icmp_lt X (tgt := 25) dX3_requireRoad_12 (by decide) hf (fun hf => ?_) (fun hf => ?_)
    · exact x_vretX X hr hlk rfl (pic := picC kA ad) (Option.some.inj hf) (by decide) (by decide) dX3_requireRoad_25
    · exact x_throw X E (pic := picC kA ad) (text := "no such road") (is := 253) (ic := 208) (by decide +kernel) w_5107 w_57 (by decide +kernel) (at_IOB_208) (gd_IOB_208) dX3_requireRoad_15 dX3_requireRoad_18 dX3_requireRoad_19 dX3_requireRoad_21 dX3_requireRoad_24 htab hlk rfl (by decide) (by decide) (by decide) (by decide) (by decide) (by decide) (Option.some.inj hf).symm
end
section
variable {p : Program} {l : Launch} {e : Env} {s : State} {m : MethodId} {args : Array Value} {below : List Frame} {meth : Method} {c : Code} {D : va_G} {kA : Nat → ClassId} {A : Nat → Prop} {Q : State → Prop} {ad : Nat → Nat}
abbrev rm_X3_setWeight : Room := { frames := 7, cells := 2, slots := 12, locals := 138 }
set_option maxRecDepth 100000 in
set_option maxHeartbeats 4000000 in
theorem met_X3_setWeight (l : Launch) (hst : l.stackTraces = false) (D : va_G) (kA : Nat → ClassId) (ad : Nat → Nat) (fu : Nat) (w : WS) (a1 : Int32) (a2 : Int32) (o : ((Int32 × WS) ⊕ (String × WS))) (hf : f_X3_setWeight fu w a1 a2 = some o) (sz : Nat) : vx_Met l yX3_setWeight (wsY yX3_setWeight cX3_setWeight 3 (some .int)) rm_X3_setWeight (va_Pc [.ref (ad 0), .int a1, .int a2] (PreG D kA (picC kA ad w) sz)) (va_Qi (fun (r : Int32) (w1 : WS) => o = .inl (r, w1)) (fun w1 t => PosG D (va_A (picC kA ad w) sz) (picC kA ad w1) t) (va_A (picC kA ad w) sz)) (vx_X (fun q : String × WS => o = .inr q) (fun E q t => E = q.1 ∧ PosG D (va_A (picC kA ad w) sz) (picC kA ad q.2) t) (va_A (picC kA ad w) sz)) 2 12 (va_A (picC kA ad w) sz) := by
  refine metX (own := RX3) hst (by decide +kernel) rfl (Nat.le_of_ble_eq_true rfl) rfl ?_
  intro p e s m below meth c X hr hlk E htab
  unfold f_X3_setWeight at hf
  refine x_aload_n X dX3_setWeight_0 0 rfl ?_
  refine x_iload_n X dX3_setWeight_1 1 rfl ?_
  obtain ⟨o1, ho1, hf, hg⟩ := bx_one hf
  refine x_callX_v X E (As := [.int a1]) (rest := []) (n := 1) (pic := picC kA ad) (w0 := w) (mc := 1) (ms := 6) (goodV w_5117 w_443 s_3 w_47 w_444) (met_X3_requireRoad l E.2.2.2 D kA ad fu w a1 o1 ho1) rfl rfl (by decide +kernel) ⟨by decide, by decide⟩ 0 rfl (qc := (RX3, TX3, _)) rfl rfl rfl rfl (Nat.le_of_ble_eq_true rfl) dX3_setWeight_2 ⟨by decide, by decide⟩ (fun q ce q9 H1 locs1 ls ho hP hD hS hl hce hcv hcl => x_thru (pic := picC kA ad) htab hlk rfl (Option.some.inj (hg q ho)).symm hP hD hS hce hcv hcl (by decide) (by decide)) (fun w2 ho => ?_)
  have hf := hf _ ho
  refine x_aload_n X dX3_setWeight_5 0 rfl ?_
  refine x_iload_n X dX3_setWeight_6 2 rfl ?_
  obtain ⟨o3, ho3, hf, hg⟩ := bx_one hf
  refine x_callX_v X E (As := [.int a2]) (rest := []) (n := 1) (pic := picC kA ad) (w0 := w2) (mc := 1) (ms := 6) (goodV w_5115 w_423 s_2 w_47 w_424) (met_X3_requireWeight l E.2.2.2 D kA ad fu w2 a2 o3 ho3) rfl rfl (by decide +kernel) ⟨by decide, by decide⟩ 0 rfl (qc := (RX3, TX3, _)) rfl rfl rfl rfl (Nat.le_of_ble_eq_true rfl) dX3_setWeight_7 ⟨by decide, by decide⟩ (fun q ce q9 H1 locs1 ls ho hP hD hS hl hce hcv hcl => x_thru (pic := picC kA ad) htab hlk rfl (Option.some.inj (hg q ho)).symm hP hD hS hce hcv hcl (by decide) (by decide)) (fun w4 ho => ?_)
  have hf := hf _ ho
  refine x_aload_n X dX3_setWeight_10 0 rfl ?_
  refine x_get X E.1.1 (T := TX3) (C := RX3) inW3 0 rfl rfl 0 (by decide) w_212 rfl (v := .ref (ad 1)) rfl dX3_setWeight_11 ?_
  refine x_get X E.1.1 (T := TX2) (C := RX2) inW2 1 rfl rfl 4 (by decide) w_5006 rfl (v := .ref (ad 11)) rfl dX3_setWeight_14 ?_
  refine x_iload_n X dX3_setWeight_17 1 rfl ?_
  refine x_iload_n X dX3_setWeight_18 2 rfl ?_
  refine x_iast X E.1.1 11 rfl dX3_setWeight_19 hf (picC kA ad) (setC_11 kA ad _ _ _) (fun w5 hf => ?_)
  refine x_aload_n X dX3_setWeight_20 0 rfl ?_
  refine x_get X E.1.1 (T := TX3) (C := RX3) inW3 0 rfl rfl 1 (by decide) w_213 rfl (v := .ref (ad 2)) rfl dX3_setWeight_21 ?_
  refine x_iload_n X dX3_setWeight_24 1 rfl ?_
  obtain ⟨x7, w6, hx7, hf⟩ := bn2_some hf
  refine x_callV_i X E (As := [.int a1]) (rest := []) (n := 1) (ws2 := (picC kA ad w6)) (goodV w_5118 w_447 w_448 w_50 w_449) (met_X0_renewRoad l E.2.2.2 D kA ad fu w5 a1 x7 w6 hx7) rfl rfl (by decide +kernel) ⟨by decide, by decide⟩ 2 rfl (qc := (RX0, TX0, _)) rfl rfl rfl rfl (Nat.le_of_ble_eq_true rfl) dX3_setWeight_25 ⟨by decide, by decide⟩ ?_
  exact x_iretX X hr hlk rfl (pic := picC kA ad) (Option.some.inj hf) (by decide) (by decide) dX3_setWeight_28
end
section
variable {p : Program} {l : Launch} {e : Env} {s : State} {m : MethodId} {args : Array Value} {below : List Frame} {meth : Method} {c : Code} {D : va_G} {kA : Nat → ClassId} {A : Nat → Prop} {Q : State → Prop} {ad : Nat → Nat}
abbrev rm_X3_setOpen : Room := { frames := 7, cells := 1, slots := 6, locals := 138 }
set_option maxRecDepth 100000 in
set_option maxHeartbeats 4000000 in
theorem met_X3_setOpen (l : Launch) (hst : l.stackTraces = false) (D : va_G) (kA : Nat → ClassId) (ad : Nat → Nat) (fu : Nat) (w : WS) (a1 : Int32) (a2 : Int32) (o : ((Int32 × WS) ⊕ (String × WS))) (hf : f_X3_setOpen fu w a1 a2 = some o) (sz : Nat) : vx_Met l yX3_setOpen (wsY yX3_setOpen cX3_setOpen 3 (some .int)) rm_X3_setOpen (va_Pc [.ref (ad 0), .int a1, .int a2] (PreG D kA (picC kA ad w) sz)) (va_Qi (fun (r : Int32) (w1 : WS) => o = .inl (r, w1)) (fun w1 t => PosG D (va_A (picC kA ad w) sz) (picC kA ad w1) t) (va_A (picC kA ad w) sz)) (vx_X (fun q : String × WS => o = .inr q) (fun E q t => E = q.1 ∧ PosG D (va_A (picC kA ad w) sz) (picC kA ad q.2) t) (va_A (picC kA ad w) sz)) 1 6 (va_A (picC kA ad w) sz) := by
  refine metX (own := RX3) hst (by decide +kernel) rfl (Nat.le_of_ble_eq_true rfl) rfl ?_
  intro p e s m below meth c X hr hlk E htab
  unfold f_X3_setOpen at hf
  refine x_aload_n X dX3_setOpen_0 0 rfl ?_
  refine x_iload_n X dX3_setOpen_1 1 rfl ?_
  obtain ⟨o1, ho1, hf, hg⟩ := bx_one hf
  refine x_callX_v X E (As := [.int a1]) (rest := []) (n := 1) (pic := picC kA ad) (w0 := w) (mc := 1) (ms := 6) (goodV w_5117 w_443 s_3 w_47 w_444) (met_X3_requireRoad l E.2.2.2 D kA ad fu w a1 o1 ho1) rfl rfl (by decide +kernel) ⟨by decide, by decide⟩ 0 rfl (qc := (RX3, TX3, _)) rfl rfl rfl rfl (Nat.le_of_ble_eq_true rfl) dX3_setOpen_2 ⟨by decide, by decide⟩ (fun q ce q9 H1 locs1 ls ho hP hD hS hl hce hcv hcl => x_thru (pic := picC kA ad) htab hlk rfl (Option.some.inj (hg q ho)).symm hP hD hS hce hcv hcl (by decide) (by decide)) (fun w2 ho => ?_)
  have hf := hf _ ho
  refine x_aload_n X dX3_setOpen_5 0 rfl ?_
  refine x_get X E.1.1 (T := TX3) (C := RX3) inW3 0 rfl rfl 0 (by decide) w_212 rfl (v := .ref (ad 1)) rfl dX3_setOpen_6 ?_
  refine x_iload_n X dX3_setOpen_9 1 rfl ?_
  refine x_iload_n X dX3_setOpen_10 2 rfl ?_
  obtain ⟨w3, hw3, hf⟩ := bn_some hf
  refine x_callV_v X E (As := [.int a1, .int a2]) (rest := []) (n := 2) (ws2 := (picC kA ad w3)) (goodV w_5136 w_5137 w_5138 w_48 w_5139) (met_X2_openOrClose l E.2.2.2 D kA ad fu w2 a1 a2 w3 hw3) rfl rfl (by decide +kernel) ⟨by decide, by decide⟩ 1 rfl (qc := (RX2, TX2, _)) rfl rfl rfl rfl (Nat.le_of_ble_eq_true rfl) dX3_setOpen_11 ⟨by decide, by decide⟩ ?_
  refine x_aload_n X dX3_setOpen_14 0 rfl ?_
  refine x_get X E.1.1 (T := TX3) (C := RX3) inW3 0 rfl rfl 1 (by decide) w_213 rfl (v := .ref (ad 2)) rfl dX3_setOpen_15 ?_
  refine x_iload_n X dX3_setOpen_18 1 rfl ?_
  obtain ⟨x5, w4, hx5, hf⟩ := bn2_some hf
  refine x_callV_i X E (As := [.int a1]) (rest := []) (n := 1) (ws2 := (picC kA ad w4)) (goodV w_5118 w_447 w_448 w_50 w_449) (met_X0_renewRoad l E.2.2.2 D kA ad fu w3 a1 x5 w4 hx5) rfl rfl (by decide +kernel) ⟨by decide, by decide⟩ 2 rfl (qc := (RX0, TX0, _)) rfl rfl rfl rfl (Nat.le_of_ble_eq_true rfl) dX3_setOpen_19 ⟨by decide, by decide⟩ ?_
  exact x_iretX X hr hlk rfl (pic := picC kA ad) (Option.some.inj hf) (by decide) (by decide) dX3_setOpen_22
end
section
variable {p : Program} {l : Launch} {e : Env} {s : State} {m : MethodId} {args : Array Value} {below : List Frame} {meth : Method} {c : Code} {D : va_G} {kA : Nat → ClassId} {A : Nat → Prop} {Q : State → Prop} {ad : Nat → Nat}
abbrev rm_X3_requireTurn : Room := { frames := 7, cells := 3, slots := 18, locals := 111 }
set_option maxRecDepth 100000 in
set_option maxHeartbeats 4000000 in
theorem met_X3_requireTurn (l : Launch) (hst : l.stackTraces = false) (D : va_G) (kA : Nat → ClassId) (ad : Nat → Nat) (fu : Nat) (w : WS) (a1 : Int32) (a2 : Int32) (o : (WS ⊕ (String × WS))) (hf : f_X3_requireTurn fu w a1 a2 = some o) (sz : Nat) : vx_Met l yX3_requireTurn (wsY yX3_requireTurn cX3_requireTurn 3 none) rm_X3_requireTurn (va_Pc [.ref (ad 0), .int a1, .int a2] (PreG D kA (picC kA ad w) sz)) (va_Qv (fun (w1 : WS) => o = .inl w1) (fun w1 t => PosG D (va_A (picC kA ad w) sz) (picC kA ad w1) t) (va_A (picC kA ad w) sz)) (vx_X (fun q : String × WS => o = .inr q) (fun E q t => E = q.1 ∧ PosG D (va_A (picC kA ad w) sz) (picC kA ad q.2) t) (va_A (picC kA ad w) sz)) 3 18 (va_A (picC kA ad w) sz) := by
  refine metX (own := RX3) hst (by decide +kernel) rfl (Nat.le_of_ble_eq_true rfl) rfl ?_
  intro p e s m below meth c X hr hlk E htab
  unfold f_X3_requireTurn at hf
  refine x_aload_n X dX3_requireTurn_0 0 rfl ?_
  refine x_iload_n X dX3_requireTurn_1 1 rfl ?_
  obtain ⟨o1, ho1, hf, hg⟩ := bx_one hf
  refine x_callX_v X E (As := [.int a1]) (rest := []) (n := 1) (pic := picC kA ad) (w0 := w) (mc := 1) (ms := 6) (goodV w_5117 w_443 s_3 w_47 w_444) (met_X3_requireRoad l E.2.2.2 D kA ad fu w a1 o1 ho1) rfl rfl (by decide +kernel) ⟨by decide, by decide⟩ 0 rfl (qc := (RX3, TX3, _)) rfl rfl rfl rfl (Nat.le_of_ble_eq_true rfl) dX3_requireTurn_2 ⟨by decide, by decide⟩ (fun q ce q9 H1 locs1 ls ho hP hD hS hl hce hcv hcl => x_thru (pic := picC kA ad) htab hlk rfl (Option.some.inj (hg q ho)).symm hP hD hS hce hcv hcl (by decide) (by decide)) (fun w2 ho => ?_)
  have hf := hf _ ho
  refine x_aload_n X dX3_requireTurn_5 0 rfl ?_
  refine x_iload_n X dX3_requireTurn_6 2 rfl ?_
  obtain ⟨o3, ho3, hf, hg⟩ := bx_one hf
  refine x_callX_v X E (As := [.int a2]) (rest := []) (n := 1) (pic := picC kA ad) (w0 := w2) (mc := 1) (ms := 6) (goodV w_5117 w_443 s_3 w_47 w_444) (met_X3_requireRoad l E.2.2.2 D kA ad fu w2 a2 o3 ho3) rfl rfl (by decide +kernel) ⟨by decide, by decide⟩ 0 rfl (qc := (RX3, TX3, _)) rfl rfl rfl rfl (Nat.le_of_ble_eq_true rfl) dX3_requireTurn_7 ⟨by decide, by decide⟩ (fun q ce q9 H1 locs1 ls ho hP hD hS hl hce hcv hcl => x_thru (pic := picC kA ad) htab hlk rfl (Option.some.inj (hg q ho)).symm hP hD hS hce hcv hcl (by decide) (by decide)) (fun w4 ho => ?_)
  have hf := hf _ ho
  refine x_aload_n X dX3_requireTurn_10 0 rfl ?_
  refine x_get X E.1.1 (T := TX3) (C := RX3) inW3 0 rfl rfl 0 (by decide) w_212 rfl (v := .ref (ad 1)) rfl dX3_requireTurn_11 ?_
  refine x_get X E.1.1 (T := TX2) (C := RX2) inW2 1 rfl rfl 3 (by decide) w_5005 rfl (v := .ref (ad 10)) rfl dX3_requireTurn_14 ?_
  refine x_iload_n X dX3_requireTurn_17 1 rfl ?_
  refine x_iald X E.1.1 10 rfl dX3_requireTurn_18 hf (fun x5 hf => ?_)
  refine x_aload_n X dX3_requireTurn_19 0 rfl ?_
  refine x_get X E.1.1 (T := TX3) (C := RX3) inW3 0 rfl rfl 0 (by decide) w_212 rfl (v := .ref (ad 1)) rfl dX3_requireTurn_20 ?_
  refine x_get X E.1.1 (T := TX2) (C := RX2) inW2 1 rfl rfl 2 (by decide) w_5004 rfl (v := .ref (ad 9)) rfl dX3_requireTurn_23 ?_
  refine x_iload_n X dX3_requireTurn_26 2 rfl ?_
  refine x_iald X E.1.1 9 rfl dX3_requireTurn_27 hf (fun x6 hf => ?_)
  refine x_icmp_eq X (tgt := 42) dX3_requireTurn_28 (by decide) hf (fun hf => ?_) (fun hf => ?_)
  · exact x_vretX X hr hlk rfl (pic := picC kA ad) (Option.some.inj hf) (by decide) (by decide) dX3_requireTurn_42
  · exact x_throwW X E (pic := picC kA ad) (text := "the second road does not follow the first") (is := 261) (ic := 71) (by decide +kernel) w_5111 w_58 (by decide +kernel) (at_IAE_71) (gd_IAE_71) dX3_requireTurn_31 dX3_requireTurn_34 dX3_requireTurn_35 dX3_requireTurn_38 dX3_requireTurn_41 htab hlk rfl (by decide) (by decide) (by decide) (by decide) (by decide) (by decide) (Option.some.inj hf).symm
end
section
variable {p : Program} {l : Launch} {e : Env} {s : State} {m : MethodId} {args : Array Value} {below : List Frame} {meth : Method} {c : Code} {D : va_G} {kA : Nat → ClassId} {A : Nat → Prop} {Q : State → Prop} {ad : Nat → Nat}
abbrev rm_X3_setTurn : Room := { frames := 8, cells := 4, slots := 24, locals := 139 }
set_option maxRecDepth 100000 in
set_option maxHeartbeats 4000000 in
theorem met_X3_setTurn (l : Launch) (hst : l.stackTraces = false) (D : va_G) (kA : Nat → ClassId) (ad : Nat → Nat) (fu : Nat) (w : WS) (a1 : Int32) (a2 : Int32) (a3 : Int32) (o : ((Int32 × WS) ⊕ (String × WS))) (hf : f_X3_setTurn fu w a1 a2 a3 = some o) (sz : Nat) : vx_Met l yX3_setTurn (wsY yX3_setTurn cX3_setTurn 4 (some .int)) rm_X3_setTurn (va_Pc [.ref (ad 0), .int a1, .int a2, .int a3] (PreG D kA (picC kA ad w) sz)) (va_Qi (fun (r : Int32) (w1 : WS) => o = .inl (r, w1)) (fun w1 t => PosG D (va_A (picC kA ad w) sz) (picC kA ad w1) t) (va_A (picC kA ad w) sz)) (vx_X (fun q : String × WS => o = .inr q) (fun E q t => E = q.1 ∧ PosG D (va_A (picC kA ad w) sz) (picC kA ad q.2) t) (va_A (picC kA ad w) sz)) 4 24 (va_A (picC kA ad w) sz) := by
  refine metX (own := RX3) hst (by decide +kernel) rfl (Nat.le_of_ble_eq_true rfl) rfl ?_
  intro p e s m below meth c X hr hlk E htab
  unfold f_X3_setTurn at hf
  refine x_aload_n X dX3_setTurn_0 0 rfl ?_
  refine x_iload_n X dX3_setTurn_1 1 rfl ?_
  refine x_iload_n X dX3_setTurn_2 2 rfl ?_
  obtain ⟨o1, ho1, hf, hg⟩ := bx_one hf
  refine x_callX_v X E (As := [.int a1, .int a2]) (rest := []) (n := 2) (pic := picC kA ad) (w0 := w) (mc := 3) (ms := 18) (goodV w_5140 w_528 s_12 w_47 w_529) (met_X3_requireTurn l E.2.2.2 D kA ad fu w a1 a2 o1 ho1) rfl rfl (by decide +kernel) ⟨by decide, by decide⟩ 0 rfl (qc := (RX3, TX3, _)) rfl rfl rfl rfl (Nat.le_of_ble_eq_true rfl) dX3_setTurn_3 ⟨by decide, by decide⟩ (fun q ce q9 H1 locs1 ls ho hP hD hS hl hce hcv hcl => x_thru (pic := picC kA ad) htab hlk rfl (Option.some.inj (hg q ho)).symm hP hD hS hce hcv hcl (by decide) (by decide)) (fun w2 ho => ?_)
  have hf := hf _ ho
  refine x_iload_n X dX3_setTurn_6 3 rfl ?_
  refine x_bipush X (v := (-2)) dX3_setTurn_7 (by decide) ?_
  refine x_icmp_lt X (tgt := 19) dX3_setTurn_9 (by decide) hf (fun hf => ?_) (fun hf => ?_)
  · exact x_throw X E (pic := picC kA ad) (text := "a setting is -2 to 1000") (is := 106) (ic := 71) (by decide +kernel) w_5111 w_58 (by decide +kernel) (at_IAE_71) (gd_IAE_71) dX3_setTurn_19 dX3_setTurn_22 dX3_setTurn_23 dX3_setTurn_25 dX3_setTurn_28 htab hlk rfl (by decide) (by decide) (by decide) (by decide) (by decide) (by decide) (Option.some.inj hf).symm
  · refine x_iload_n X dX3_setTurn_12 3 rfl ?_
    refine x_sipush X (v := 1000) dX3_setTurn_13 (by decide) ?_
    refine x_icmp_le X (tgt := 29) dX3_setTurn_16 (by decide) hf (fun hf => ?_) (fun hf => ?_)
    · refine x_aload_n X dX3_setTurn_29 0 rfl ?_
      refine x_get X E.1.1 (T := TX3) (C := RX3) inW3 0 rfl rfl 0 (by decide) w_212 rfl (v := .ref (ad 1)) rfl dX3_setTurn_30 ?_
      refine x_get X E.1.1 (T := TX2) (C := RX2) inW2 1 rfl rfl 5 (by decide) w_5007 rfl (v := .ref (ad 12)) rfl dX3_setTurn_33 ?_
      refine x_iload_n X dX3_setTurn_36 1 rfl ?_
      refine x_iload_n X dX3_setTurn_37 2 rfl ?_
      obtain ⟨x3, hx3, hf⟩ := bn_some hf
      refine x_callS_i X (As := [.int a1, .int a2]) (rest := [.ref (ad 12)]) (n := 2) (goodS w_5141 w_293 w_47 w_294) (met_X3_pair l fu a1 a2 x3 hx3) rfl rfl (by decide +kernel) ⟨by decide, by decide⟩ rfl rfl (Nat.le_of_ble_eq_true rfl) dX3_setTurn_38 ⟨by decide, by decide⟩ ?_
      refine x_iload_n X dX3_setTurn_41 3 rfl ?_
      refine x_iast X E.1.1 12 rfl dX3_setTurn_42 hf (picC kA ad) (setC_12 kA ad _ _ _) (fun w4 hf => ?_)
      refine x_aload_n X dX3_setTurn_43 0 rfl ?_
      refine x_get X E.1.1 (T := TX3) (C := RX3) inW3 0 rfl rfl 1 (by decide) w_213 rfl (v := .ref (ad 2)) rfl dX3_setTurn_44 ?_
      refine x_iload_n X dX3_setTurn_47 1 rfl ?_
      refine x_iload_n X dX3_setTurn_48 2 rfl ?_
      obtain ⟨x6, w5, hx6, hf⟩ := bn2_some hf
      refine x_callV_i X E (As := [.int a1, .int a2]) (rest := []) (n := 2) (ws2 := (picC kA ad w5)) (goodV w_5142 w_534 w_535 w_50 w_536) (met_X0_renewTurn l E.2.2.2 D kA ad fu w4 a1 a2 x6 w5 hx6) rfl rfl (by decide +kernel) ⟨by decide, by decide⟩ 2 rfl (qc := (RX0, TX0, _)) rfl rfl rfl rfl (Nat.le_of_ble_eq_true rfl) dX3_setTurn_49 ⟨by decide, by decide⟩ ?_
      exact x_iretX X hr hlk rfl (pic := picC kA ad) (Option.some.inj hf) (by decide) (by decide) dX3_setTurn_52
    · exact x_throw X E (pic := picC kA ad) (text := "a setting is -2 to 1000") (is := 106) (ic := 71) (by decide +kernel) w_5111 w_58 (by decide +kernel) (at_IAE_71) (gd_IAE_71) dX3_setTurn_19 dX3_setTurn_22 dX3_setTurn_23 dX3_setTurn_25 dX3_setTurn_28 htab hlk rfl (by decide) (by decide) (by decide) (by decide) (by decide) (by decide) (Option.some.inj hf).symm
end
section
variable {p : Program} {l : Launch} {e : Env} {s : State} {m : MethodId} {args : Array Value} {below : List Frame} {meth : Method} {c : Code} {D : va_G} {kA : Nat → ClassId} {A : Nat → Prop} {Q : State → Prop} {ad : Nat → Nat}
abbrev rm_X3_setUTurn : Room := { frames := 6, cells := 1, slots := 6, locals := 137 }
set_option maxRecDepth 100000 in
set_option maxHeartbeats 4000000 in
theorem met_X3_setUTurn (l : Launch) (hst : l.stackTraces = false) (D : va_G) (kA : Nat → ClassId) (ad : Nat → Nat) (fu : Nat) (w : WS) (a1 : Int32) (o : ((Int32 × WS) ⊕ (String × WS))) (hf : f_X3_setUTurn fu w a1 = some o) (sz : Nat) : vx_Met l yX3_setUTurn (wsY yX3_setUTurn cX3_setUTurn 2 (some .int)) rm_X3_setUTurn (va_Pc [.ref (ad 0), .int a1] (PreG D kA (picC kA ad w) sz)) (va_Qi (fun (r : Int32) (w1 : WS) => o = .inl (r, w1)) (fun w1 t => PosG D (va_A (picC kA ad w) sz) (picC kA ad w1) t) (va_A (picC kA ad w) sz)) (vx_X (fun q : String × WS => o = .inr q) (fun E q t => E = q.1 ∧ PosG D (va_A (picC kA ad w) sz) (picC kA ad q.2) t) (va_A (picC kA ad w) sz)) 1 6 (va_A (picC kA ad w) sz) := by
  refine metX (own := RX3) hst (by decide +kernel) rfl (Nat.le_of_ble_eq_true rfl) rfl ?_
  intro p e s m below meth c X hr hlk E htab
  unfold f_X3_setUTurn at hf
  refine x_iload_n X dX3_setUTurn_0 1 rfl ?_
  refine x_iconst X (v := (-1)) dX3_setUTurn_1 (by decide) ?_
  refine x_icmp_lt X (tgt := 12) dX3_setUTurn_2 (by decide) hf (fun hf => ?_) (fun hf => ?_)
  · exact x_throw X E (pic := picC kA ad) (text := "a U-turn penalty is -1 to 1000") (is := 118) (ic := 71) (by decide +kernel) w_5111 w_58 (by decide +kernel) (at_IAE_71) (gd_IAE_71) dX3_setUTurn_12 dX3_setUTurn_15 dX3_setUTurn_16 dX3_setUTurn_18 dX3_setUTurn_21 htab hlk rfl (by decide) (by decide) (by decide) (by decide) (by decide) (by decide) (Option.some.inj hf).symm
  · refine x_iload_n X dX3_setUTurn_5 1 rfl ?_
    refine x_sipush X (v := 1000) dX3_setUTurn_6 (by decide) ?_
    refine x_icmp_le X (tgt := 22) dX3_setUTurn_9 (by decide) hf (fun hf => ?_) (fun hf => ?_)
    · refine x_aload_n X dX3_setUTurn_22 0 rfl ?_
      refine x_get X E.1.1 (T := TX3) (C := RX3) inW3 0 rfl rfl 0 (by decide) w_212 rfl (v := .ref (ad 1)) rfl dX3_setUTurn_23 ?_
      refine x_iload_n X dX3_setUTurn_26 1 rfl ?_
      refine x_put X E.1.1 (T := TX2) (C := RX2) (ty := .int) inW2 tyX2 tyX2_ok nmX2 1 rfl rfl 9 (by decide) w_5011 rfl rfl (by decide +kernel) rfl rfl (Nat.le_of_ble_eq_true rfl) dX3_setUTurn_27 (picC kA ad (wI w 1 9 a1)) rfl ?_
      refine x_nmW (pic := (picC kA ad)) (u := (wI w 1 9 a1)) hf (fun w1 hf => ?_)
      refine x_aload_n X dX3_setUTurn_30 0 rfl ?_
      refine x_get X E.1.1 (T := TX3) (C := RX3) inW3 0 rfl rfl 1 (by decide) w_213 rfl (v := .ref (ad 2)) rfl dX3_setUTurn_31 ?_
      obtain ⟨x3, w2, hx3, hf⟩ := bn2_some hf
      refine x_callV_i X E (As := []) (rest := []) (n := 0) (ws2 := (picC kA ad w2)) (goodV w_5143 w_546 w_547 w_50 w_548) (met_X0_renewAll l E.2.2.2 D kA ad fu w1 x3 w2 hx3) rfl rfl (by decide +kernel) ⟨by decide, by decide⟩ 2 rfl (qc := (RX0, TX0, _)) rfl rfl rfl rfl (Nat.le_of_ble_eq_true rfl) dX3_setUTurn_34 ⟨by decide, by decide⟩ ?_
      exact x_iretX X hr hlk rfl (pic := picC kA ad) (Option.some.inj hf) (by decide) (by decide) dX3_setUTurn_37
    · exact x_throw X E (pic := picC kA ad) (text := "a U-turn penalty is -1 to 1000") (is := 118) (ic := 71) (by decide +kernel) w_5111 w_58 (by decide +kernel) (at_IAE_71) (gd_IAE_71) dX3_setUTurn_12 dX3_setUTurn_15 dX3_setUTurn_16 dX3_setUTurn_18 dX3_setUTurn_21 htab hlk rfl (by decide) (by decide) (by decide) (by decide) (by decide) (by decide) (Option.some.inj hf).symm
end
section
variable {p : Program} {l : Launch} {e : Env} {s : State} {m : MethodId} {args : Array Value} {below : List Frame} {meth : Method} {c : Code} {D : va_G} {kA : Nat → ClassId} {A : Nat → Prop} {Q : State → Prop} {ad : Nat → Nat}
abbrev rm_X3_junctionCount : Room := { frames := 0, cells := 0, slots := 0, locals := 0 }
set_option maxRecDepth 100000 in
set_option maxHeartbeats 4000000 in
theorem met_X3_junctionCount (l : Launch) (hst : l.stackTraces = false) (D : va_G) (kA : Nat → ClassId) (ad : Nat → Nat) (fu : Nat) (w : WS)  (v : Int32) (hf : f_X3_junctionCount fu w = some v) (sz : Nat) : Met l yX3_junctionCount (wsY yX3_junctionCount cX3_junctionCount 1 (some .int)) rm_X3_junctionCount (va_Pc [.ref (ad 0)] (PreG D kA (picC kA ad w) sz)) (va_Qi (fun (r : Int32) (_ : Unit) => r = v) (fun _ t => PosG D (va_A (picC kA ad w) sz) (picC kA ad w) t) (va_A (picC kA ad w) sz)) 0 0 (va_A (picC kA ad w) sz) := by
  refine metG (own := RX3) hst (by decide +kernel) rfl (Nat.le_of_ble_eq_true rfl) rfl ?_
  intro p e s m below meth c X hr hlk E _
  unfold f_X3_junctionCount at hf
  refine x_aload_n X dX3_junctionCount_0 0 rfl ?_
  refine x_get X E.1.1 (T := TX3) (C := RX3) inW3 0 rfl rfl 0 (by decide) w_212 rfl (v := .ref (ad 1)) rfl dX3_junctionCount_1 ?_
  refine x_get X E.1.1 (T := TX2) (C := RX2) inW2 1 rfl rfl 0 (by decide) w_5001 rfl (v := .int (w.1 1 0)) rfl dX3_junctionCount_4 ?_
  refine x_nmI hf (fun x1 hf => ?_)
  exact x_iret X hr hlk rfl (Option.some.inj hf) dX3_junctionCount_7
end
section
variable {p : Program} {l : Launch} {e : Env} {s : State} {m : MethodId} {args : Array Value} {below : List Frame} {meth : Method} {c : Code} {D : va_G} {kA : Nat → ClassId} {A : Nat → Prop} {Q : State → Prop} {ad : Nat → Nat}
abbrev rm_X3_roadCount : Room := { frames := 0, cells := 0, slots := 0, locals := 0 }
set_option maxRecDepth 100000 in
set_option maxHeartbeats 4000000 in
theorem met_X3_roadCount (l : Launch) (hst : l.stackTraces = false) (D : va_G) (kA : Nat → ClassId) (ad : Nat → Nat) (fu : Nat) (w : WS)  (v : Int32) (hf : f_X3_roadCount fu w = some v) (sz : Nat) : Met l yX3_roadCount (wsY yX3_roadCount cX3_roadCount 1 (some .int)) rm_X3_roadCount (va_Pc [.ref (ad 0)] (PreG D kA (picC kA ad w) sz)) (va_Qi (fun (r : Int32) (_ : Unit) => r = v) (fun _ t => PosG D (va_A (picC kA ad w) sz) (picC kA ad w) t) (va_A (picC kA ad w) sz)) 0 0 (va_A (picC kA ad w) sz) := by
  refine metG (own := RX3) hst (by decide +kernel) rfl (Nat.le_of_ble_eq_true rfl) rfl ?_
  intro p e s m below meth c X hr hlk E _
  unfold f_X3_roadCount at hf
  refine x_aload_n X dX3_roadCount_0 0 rfl ?_
  refine x_get X E.1.1 (T := TX3) (C := RX3) inW3 0 rfl rfl 0 (by decide) w_212 rfl (v := .ref (ad 1)) rfl dX3_roadCount_1 ?_
  refine x_get X E.1.1 (T := TX2) (C := RX2) inW2 1 rfl rfl 1 (by decide) w_5003 rfl (v := .int (w.1 1 1)) rfl dX3_roadCount_4 ?_
  refine x_nmI hf (fun x1 hf => ?_)
  exact x_iret X hr hlk rfl (Option.some.inj hf) dX3_roadCount_7
end
section
variable {p : Program} {l : Launch} {e : Env} {s : State} {m : MethodId} {args : Array Value} {below : List Frame} {meth : Method} {c : Code} {D : va_G} {kA : Nat → ClassId} {A : Nat → Prop} {Q : State → Prop} {ad : Nat → Nat}
abbrev rm_X3_weight : Room := { frames := 7, cells := 1, slots := 6, locals := 111 }
set_option maxRecDepth 100000 in
set_option maxHeartbeats 4000000 in
theorem met_X3_weight (l : Launch) (hst : l.stackTraces = false) (D : va_G) (kA : Nat → ClassId) (ad : Nat → Nat) (fu : Nat) (w : WS) (a1 : Int32) (o : ((Int32 × WS) ⊕ (String × WS))) (hf : f_X3_weight fu w a1 = some o) (sz : Nat) : vx_Met l yX3_weight (wsY yX3_weight cX3_weight 2 (some .int)) rm_X3_weight (va_Pc [.ref (ad 0), .int a1] (PreG D kA (picC kA ad w) sz)) (va_Qi (fun (r : Int32) (w1 : WS) => o = .inl (r, w1)) (fun w1 t => PosG D (va_A (picC kA ad w) sz) (picC kA ad w1) t) (va_A (picC kA ad w) sz)) (vx_X (fun q : String × WS => o = .inr q) (fun E q t => E = q.1 ∧ PosG D (va_A (picC kA ad w) sz) (picC kA ad q.2) t) (va_A (picC kA ad w) sz)) 1 6 (va_A (picC kA ad w) sz) := by
  refine metX (own := RX3) hst (by decide +kernel) rfl (Nat.le_of_ble_eq_true rfl) rfl ?_
  intro p e s m below meth c X hr hlk E htab
  unfold f_X3_weight at hf
  refine x_aload_n X dX3_weight_0 0 rfl ?_
  refine x_iload_n X dX3_weight_1 1 rfl ?_
  obtain ⟨o1, ho1, hf, hg⟩ := bx_one hf
  refine x_callX_v X E (As := [.int a1]) (rest := []) (n := 1) (pic := picC kA ad) (w0 := w) (mc := 1) (ms := 6) (goodV w_5117 w_443 s_3 w_47 w_444) (met_X3_requireRoad l E.2.2.2 D kA ad fu w a1 o1 ho1) rfl rfl (by decide +kernel) ⟨by decide, by decide⟩ 0 rfl (qc := (RX3, TX3, _)) rfl rfl rfl rfl (Nat.le_of_ble_eq_true rfl) dX3_weight_2 ⟨by decide, by decide⟩ (fun q ce q9 H1 locs1 ls ho hP hD hS hl hce hcv hcl => x_thru (pic := picC kA ad) htab hlk rfl (Option.some.inj (hg q ho)).symm hP hD hS hce hcv hcl (by decide) (by decide)) (fun w2 ho => ?_)
  have hf := hf _ ho
  refine x_aload_n X dX3_weight_5 0 rfl ?_
  refine x_get X E.1.1 (T := TX3) (C := RX3) inW3 0 rfl rfl 0 (by decide) w_212 rfl (v := .ref (ad 1)) rfl dX3_weight_6 ?_
  refine x_get X E.1.1 (T := TX2) (C := RX2) inW2 1 rfl rfl 4 (by decide) w_5006 rfl (v := .ref (ad 11)) rfl dX3_weight_9 ?_
  refine x_iload_n X dX3_weight_12 1 rfl ?_
  refine x_iald X E.1.1 11 rfl dX3_weight_13 hf (fun x3 hf => ?_)
  exact x_iretX X hr hlk rfl (pic := picC kA ad) (Option.some.inj hf) (by decide) (by decide) dX3_weight_14
end
section
variable {p : Program} {l : Launch} {e : Env} {s : State} {m : MethodId} {args : Array Value} {below : List Frame} {meth : Method} {c : Code} {D : va_G} {kA : Nat → ClassId} {A : Nat → Prop} {Q : State → Prop} {ad : Nat → Nat}
abbrev rm_X3_isOpen : Room := { frames := 7, cells := 1, slots := 6, locals := 111 }
set_option maxRecDepth 100000 in
set_option maxHeartbeats 4000000 in
theorem met_X3_isOpen (l : Launch) (hst : l.stackTraces = false) (D : va_G) (kA : Nat → ClassId) (ad : Nat → Nat) (fu : Nat) (w : WS) (a1 : Int32) (o : ((Int32 × WS) ⊕ (String × WS))) (hf : f_X3_isOpen fu w a1 = some o) (sz : Nat) : vx_Met l yX3_isOpen (wsY yX3_isOpen cX3_isOpen 2 (some .boolean)) rm_X3_isOpen (va_Pc [.ref (ad 0), .int a1] (PreG D kA (picC kA ad w) sz)) (va_Qi (fun (r : Int32) (w1 : WS) => o = .inl (r, w1)) (fun w1 t => PosG D (va_A (picC kA ad w) sz) (picC kA ad w1) t) (va_A (picC kA ad w) sz)) (vx_X (fun q : String × WS => o = .inr q) (fun E q t => E = q.1 ∧ PosG D (va_A (picC kA ad w) sz) (picC kA ad q.2) t) (va_A (picC kA ad w) sz)) 1 6 (va_A (picC kA ad w) sz) := by
  refine metX (own := RX3) hst (by decide +kernel) rfl (Nat.le_of_ble_eq_true rfl) rfl ?_
  intro p e s m below meth c X hr hlk E htab
  unfold f_X3_isOpen at hf
  refine x_aload_n X dX3_isOpen_0 0 rfl ?_
  refine x_iload_n X dX3_isOpen_1 1 rfl ?_
  obtain ⟨o1, ho1, hf, hg⟩ := bx_one hf
  refine x_callX_v X E (As := [.int a1]) (rest := []) (n := 1) (pic := picC kA ad) (w0 := w) (mc := 1) (ms := 6) (goodV w_5117 w_443 s_3 w_47 w_444) (met_X3_requireRoad l E.2.2.2 D kA ad fu w a1 o1 ho1) rfl rfl (by decide +kernel) ⟨by decide, by decide⟩ 0 rfl (qc := (RX3, TX3, _)) rfl rfl rfl rfl (Nat.le_of_ble_eq_true rfl) dX3_isOpen_2 ⟨by decide, by decide⟩ (fun q ce q9 H1 locs1 ls ho hP hD hS hl hce hcv hcl => x_thru (pic := picC kA ad) htab hlk rfl (Option.some.inj (hg q ho)).symm hP hD hS hce hcv hcl (by decide) (by decide)) (fun w2 ho => ?_)
  have hf := hf _ ho
  refine x_aload_n X dX3_isOpen_5 0 rfl ?_
  refine x_get X E.1.1 (T := TX3) (C := RX3) inW3 0 rfl rfl 0 (by decide) w_212 rfl (v := .ref (ad 1)) rfl dX3_isOpen_6 ?_
  refine x_get X E.1.1 (T := TX2) (C := RX2) inW2 1 rfl rfl 8 (by decide) w_5010 rfl (v := .long (w2.2 1 8)) rfl dX3_isOpen_9 ?_
  refine x_nmL hf (fun x3 hf => ?_)
  refine x_iload_n X dX3_isOpen_12 1 rfl ?_
  obtain ⟨x4, hx4, hf⟩ := bn_some hf
  refine x_callS_i X (As := [.long x3, .int a1]) (rest := []) (n := 2) (goodS w_5085 w_274 w_47 w_275) (met_X3_has l fu x3 a1 x4 hx4) rfl rfl (by decide +kernel) ⟨by decide, by decide⟩ rfl rfl (Nat.le_of_ble_eq_true rfl) dX3_isOpen_13 ⟨by decide, by decide⟩ ?_
  obtain ⟨hz, hf⟩ := ck_some hf
  exact x_zretX X hr hlk rfl (pic := picC kA ad) hz (Option.some.inj hf) (by decide) (by decide) dX3_isOpen_16
end
section
variable {p : Program} {l : Launch} {e : Env} {s : State} {m : MethodId} {args : Array Value} {below : List Frame} {meth : Method} {c : Code} {D : va_G} {kA : Nat → ClassId} {A : Nat → Prop} {Q : State → Prop} {ad : Nat → Nat}
abbrev rm_X3_turnPenalty : Room := { frames := 8, cells := 3, slots := 18, locals := 133 }
set_option maxRecDepth 100000 in
set_option maxHeartbeats 4000000 in
theorem met_X3_turnPenalty (l : Launch) (hst : l.stackTraces = false) (D : va_G) (kA : Nat → ClassId) (ad : Nat → Nat) (fu : Nat) (w : WS) (a1 : Int32) (a2 : Int32) (o : ((Int32 × WS) ⊕ (String × WS))) (hf : f_X3_turnPenalty fu w a1 a2 = some o) (sz : Nat) : vx_Met l yX3_turnPenalty (wsY yX3_turnPenalty cX3_turnPenalty 3 (some .int)) rm_X3_turnPenalty (va_Pc [.ref (ad 0), .int a1, .int a2] (PreG D kA (picC kA ad w) sz)) (va_Qi (fun (r : Int32) (w1 : WS) => o = .inl (r, w1)) (fun w1 t => PosG D (va_A (picC kA ad w) sz) (picC kA ad w1) t) (va_A (picC kA ad w) sz)) (vx_X (fun q : String × WS => o = .inr q) (fun E q t => E = q.1 ∧ PosG D (va_A (picC kA ad w) sz) (picC kA ad q.2) t) (va_A (picC kA ad w) sz)) 3 18 (va_A (picC kA ad w) sz) := by
  refine metX (own := RX3) hst (by decide +kernel) rfl (Nat.le_of_ble_eq_true rfl) rfl ?_
  intro p e s m below meth c X hr hlk E htab
  unfold f_X3_turnPenalty at hf
  refine x_aload_n X dX3_turnPenalty_0 0 rfl ?_
  refine x_iload_n X dX3_turnPenalty_1 1 rfl ?_
  refine x_iload_n X dX3_turnPenalty_2 2 rfl ?_
  obtain ⟨o1, ho1, hf, hg⟩ := bx_one hf
  refine x_callX_v X E (As := [.int a1, .int a2]) (rest := []) (n := 2) (pic := picC kA ad) (w0 := w) (mc := 3) (ms := 18) (goodV w_5140 w_528 s_12 w_47 w_529) (met_X3_requireTurn l E.2.2.2 D kA ad fu w a1 a2 o1 ho1) rfl rfl (by decide +kernel) ⟨by decide, by decide⟩ 0 rfl (qc := (RX3, TX3, _)) rfl rfl rfl rfl (Nat.le_of_ble_eq_true rfl) dX3_turnPenalty_3 ⟨by decide, by decide⟩ (fun q ce q9 H1 locs1 ls ho hP hD hS hl hce hcv hcl => x_thru (pic := picC kA ad) htab hlk rfl (Option.some.inj (hg q ho)).symm hP hD hS hce hcv hcl (by decide) (by decide)) (fun w2 ho => ?_)
  have hf := hf _ ho
  refine x_aload_n X dX3_turnPenalty_6 0 rfl ?_
  refine x_get X E.1.1 (T := TX3) (C := RX3) inW3 0 rfl rfl 0 (by decide) w_212 rfl (v := .ref (ad 1)) rfl dX3_turnPenalty_7 ?_
  refine x_iload_n X dX3_turnPenalty_10 1 rfl ?_
  refine x_iload_n X dX3_turnPenalty_11 2 rfl ?_
  obtain ⟨x3, hx3, hf⟩ := bn_some hf
  refine x_callV_i X E (As := [.int a1, .int a2]) (rest := []) (n := 2) (ws2 := (picC kA ad w2)) (goodV w_5145 w_468 w_469 w_48 w_470) (met_X2_penaltyOf l E.2.2.2 D kA ad fu w2 a1 a2 x3 hx3) rfl rfl (by decide +kernel) ⟨by decide, by decide⟩ 1 rfl (qc := (RX2, TX2, _)) rfl rfl rfl rfl (Nat.le_of_ble_eq_true rfl) dX3_turnPenalty_12 ⟨by decide, by decide⟩ ?_
  exact x_iretX X hr hlk rfl (pic := picC kA ad) (Option.some.inj hf) (by decide) (by decide) dX3_turnPenalty_15
end
section
variable {p : Program} {l : Launch} {e : Env} {s : State} {m : MethodId} {args : Array Value} {below : List Frame} {meth : Method} {c : Code} {D : va_G} {kA : Nat → ClassId} {A : Nat → Prop} {Q : State → Prop} {ad : Nat → Nat}
abbrev rm_X3_prepare : Room := { frames := 6, cells := 1, slots := 6, locals := 142 }
set_option maxRecDepth 100000 in
set_option maxHeartbeats 4000000 in
theorem met_X3_prepare (l : Launch) (hst : l.stackTraces = false) (D : va_G) (kA : Nat → ClassId) (ad : Nat → Nat) (fu : Nat) (w : WS)  (o : ((Int32 × WS) ⊕ (String × WS))) (hf : f_X3_prepare fu w = some o) (sz : Nat) : vx_Met l yX3_prepare (wsY yX3_prepare cX3_prepare 1 (some .int)) rm_X3_prepare (va_Pc [.ref (ad 0)] (PreG D kA (picC kA ad w) sz)) (va_Qi (fun (r : Int32) (w1 : WS) => o = .inl (r, w1)) (fun w1 t => PosG D (va_A (picC kA ad w) sz) (picC kA ad w1) t) (va_A (picC kA ad w) sz)) (vx_X (fun q : String × WS => o = .inr q) (fun E q t => E = q.1 ∧ PosG D (va_A (picC kA ad w) sz) (picC kA ad q.2) t) (va_A (picC kA ad w) sz)) 1 6 (va_A (picC kA ad w) sz) := by
  refine metX (own := RX3) hst (by decide +kernel) rfl (Nat.le_of_ble_eq_true rfl) rfl ?_
  intro p e s m below meth c X hr hlk E htab
  unfold f_X3_prepare at hf
  refine x_aload_n X dX3_prepare_0 0 rfl ?_
  refine x_get X E.1.1 (T := TX3) (C := RX3) inW3 0 rfl rfl 0 (by decide) w_212 rfl (v := .ref (ad 1)) rfl dX3_prepare_1 ?_
  refine x_get X E.1.1 (T := TX2) (C := RX2) inW2 1 rfl rfl 1 (by decide) w_5003 rfl (v := .int (w.1 1 1)) rfl dX3_prepare_4 ?_
  refine x_nmI hf (fun x1 hf => ?_)
  refine x_if_ne X (tgt := 20) dX3_prepare_7 (by decide) hf (fun hf => ?_) (fun hf => ?_)
  · refine x_aload_n X dX3_prepare_20 0 rfl ?_
    refine x_get X E.1.1 (T := TX3) (C := RX3) inW3 0 rfl rfl 1 (by decide) w_213 rfl (v := .ref (ad 2)) rfl dX3_prepare_21 ?_
    refine x_get X E.1.1 (T := TX0) (C := RX0) inW0 2 rfl rfl 1 (by decide) w_5025 rfl (v := .int (w.1 2 1)) rfl dX3_prepare_24 ?_
    refine x_nmI hf (fun x2 hf => ?_)
    refine x_if_ne X (tgt := 37) dX3_prepare_27 (by decide) hf (fun hf => ?_) (fun hf => ?_)
    · refine x_aload_n X dX3_prepare_37 0 rfl ?_
      refine x_get X E.1.1 (T := TX3) (C := RX3) inW3 0 rfl rfl 1 (by decide) w_213 rfl (v := .ref (ad 2)) rfl dX3_prepare_38 ?_
      refine x_get X E.1.1 (T := TX0) (C := RX0) inW0 2 rfl rfl 4 (by decide) w_5030 rfl (v := .int (w.1 2 4)) rfl dX3_prepare_41 ?_
      refine x_nmI hf (fun x3 hf => ?_)
      exact x_iretX X hr hlk rfl (pic := picC kA ad) (Option.some.inj hf) (by decide) (by decide) dX3_prepare_44
    · refine x_aload_n X dX3_prepare_30 0 rfl ?_
      refine x_get X E.1.1 (T := TX3) (C := RX3) inW3 0 rfl rfl 1 (by decide) w_213 rfl (v := .ref (ad 2)) rfl dX3_prepare_31 ?_
      obtain ⟨w4, hw4, hf⟩ := bn_some hf
      refine x_callV_v X E (As := []) (rest := []) (n := 0) (ws2 := (picC kA ad w4)) (goodV w_5146 w_585 w_586 w_50 w_587) (met_X0_build l E.2.2.2 D kA ad fu w w4 hw4) rfl rfl (by decide +kernel) ⟨by decide, by decide⟩ 2 rfl (qc := (RX0, TX0, _)) rfl rfl rfl rfl (Nat.le_of_ble_eq_true rfl) dX3_prepare_34 ⟨by decide, by decide⟩ ?_
      refine x_aload_n X dX3_prepare_37 0 rfl ?_
      refine x_get X E.1.1 (T := TX3) (C := RX3) inW3 0 rfl rfl 1 (by decide) w_213 rfl (v := .ref (ad 2)) rfl dX3_prepare_38 ?_
      refine x_get X E.1.1 (T := TX0) (C := RX0) inW0 2 rfl rfl 4 (by decide) w_5030 rfl (v := .int (w4.1 2 4)) rfl dX3_prepare_41 ?_
      refine x_nmI hf (fun x5 hf => ?_)
      exact x_iretX X hr hlk rfl (pic := picC kA ad) (Option.some.inj hf) (by decide) (by decide) dX3_prepare_44
  · exact x_throw X E (pic := picC kA ad) (text := "there are no roads") (is := 138) (ic := 60) (by decide +kernel) w_5090 w_56 (by decide +kernel) (at_ISE_60) (gd_ISE_60) dX3_prepare_10 dX3_prepare_13 dX3_prepare_14 dX3_prepare_16 dX3_prepare_19 htab hlk rfl (by decide) (by decide) (by decide) (by decide) (by decide) (by decide) (Option.some.inj hf).symm
end
section
variable {p : Program} {l : Launch} {e : Env} {s : State} {m : MethodId} {args : Array Value} {below : List Frame} {meth : Method} {c : Code} {D : va_G} {kA : Nat → ClassId} {A : Nat → Prop} {Q : State → Prop} {ad : Nat → Nat}
abbrev rm_X3_isPrepared : Room := { frames := 0, cells := 0, slots := 0, locals := 0 }
set_option maxRecDepth 100000 in
set_option maxHeartbeats 4000000 in
theorem met_X3_isPrepared (l : Launch) (hst : l.stackTraces = false) (D : va_G) (kA : Nat → ClassId) (ad : Nat → Nat) (fu : Nat) (w : WS)  (v : Int32) (hf : f_X3_isPrepared fu w = some v) (sz : Nat) : Met l yX3_isPrepared (wsY yX3_isPrepared cX3_isPrepared 1 (some .boolean)) rm_X3_isPrepared (va_Pc [.ref (ad 0)] (PreG D kA (picC kA ad w) sz)) (va_Qi (fun (r : Int32) (_ : Unit) => r = v) (fun _ t => PosG D (va_A (picC kA ad w) sz) (picC kA ad w) t) (va_A (picC kA ad w) sz)) 0 0 (va_A (picC kA ad w) sz) := by
  refine metG (own := RX3) hst (by decide +kernel) rfl (Nat.le_of_ble_eq_true rfl) rfl ?_
  intro p e s m below meth c X hr hlk E _
  unfold f_X3_isPrepared at hf
  refine x_aload_n X dX3_isPrepared_0 0 rfl ?_
  refine x_get X E.1.1 (T := TX3) (C := RX3) inW3 0 rfl rfl 1 (by decide) w_213 rfl (v := .ref (ad 2)) rfl dX3_isPrepared_1 ?_
  refine x_get X E.1.1 (T := TX0) (C := RX0) inW0 2 rfl rfl 1 (by decide) w_5025 rfl (v := .int (w.1 2 1)) rfl dX3_isPrepared_4 ?_
  refine x_nmI hf (fun x1 hf => ?_)
  obtain ⟨hz, hf⟩ := ck_some hf
  exact x_zret X hr hlk rfl hz (Option.some.inj hf) dX3_isPrepared_7
end
section
variable {p : Program} {l : Launch} {e : Env} {s : State} {m : MethodId} {args : Array Value} {below : List Frame} {meth : Method} {c : Code} {D : va_G} {kA : Nat → ClassId} {A : Nat → Prop} {Q : State → Prop} {ad : Nat → Nat}
abbrev rm_X3_requireHierarchy : Room := { frames := 6, cells := 1, slots := 6, locals := 90 }
set_option maxRecDepth 100000 in
set_option maxHeartbeats 4000000 in
theorem met_X3_requireHierarchy (l : Launch) (hst : l.stackTraces = false) (D : va_G) (kA : Nat → ClassId) (ad : Nat → Nat) (fu : Nat) (w : WS)  (o : (WS ⊕ (String × WS))) (hf : f_X3_requireHierarchy fu w = some o) (sz : Nat) : vx_Met l yX3_requireHierarchy (wsY yX3_requireHierarchy cX3_requireHierarchy 1 none) rm_X3_requireHierarchy (va_Pc [.ref (ad 0)] (PreG D kA (picC kA ad w) sz)) (va_Qv (fun (w1 : WS) => o = .inl w1) (fun w1 t => PosG D (va_A (picC kA ad w) sz) (picC kA ad w1) t) (va_A (picC kA ad w) sz)) (vx_X (fun q : String × WS => o = .inr q) (fun E q t => E = q.1 ∧ PosG D (va_A (picC kA ad w) sz) (picC kA ad q.2) t) (va_A (picC kA ad w) sz)) 1 6 (va_A (picC kA ad w) sz) := by
  refine metX (own := RX3) hst (by decide +kernel) rfl (Nat.le_of_ble_eq_true rfl) rfl ?_
  intro p e s m below meth c X hr hlk E htab
  unfold f_X3_requireHierarchy at hf
  refine x_aload_n X dX3_requireHierarchy_0 0 rfl ?_
  refine x_get X E.1.1 (T := TX3) (C := RX3) inW3 0 rfl rfl 1 (by decide) w_213 rfl (v := .ref (ad 2)) rfl dX3_requireHierarchy_1 ?_
  refine x_get X E.1.1 (T := TX0) (C := RX0) inW0 2 rfl rfl 1 (by decide) w_5025 rfl (v := .int (w.1 2 1)) rfl dX3_requireHierarchy_4 ?_
  refine x_nmI hf (fun x1 hf => ?_)
  refine x_if_ne X (tgt := 21) dX3_requireHierarchy_7 (by decide) hf (fun hf => ?_) (fun hf => ?_)
  · exact x_vretX X hr hlk rfl (pic := picC kA ad) (Option.some.inj hf) (by decide) (by decide) dX3_requireHierarchy_21
  · exact x_throwW X E (pic := picC kA ad) (text := "there is no hierarchy") (is := 267) (ic := 60) (by decide +kernel) w_5090 w_56 (by decide +kernel) (at_ISE_60) (gd_ISE_60) dX3_requireHierarchy_10 dX3_requireHierarchy_13 dX3_requireHierarchy_14 dX3_requireHierarchy_17 dX3_requireHierarchy_20 htab hlk rfl (by decide) (by decide) (by decide) (by decide) (by decide) (by decide) (Option.some.inj hf).symm
end
section
variable {p : Program} {l : Launch} {e : Env} {s : State} {m : MethodId} {args : Array Value} {below : List Frame} {meth : Method} {c : Code} {D : va_G} {kA : Nat → ClassId} {A : Nat → Prop} {Q : State → Prop} {ad : Nat → Nat}
abbrev rm_X3_position : Room := { frames := 7, cells := 2, slots := 12, locals := 111 }
set_option maxRecDepth 100000 in
set_option maxHeartbeats 4000000 in
theorem met_X3_position (l : Launch) (hst : l.stackTraces = false) (D : va_G) (kA : Nat → ClassId) (ad : Nat → Nat) (fu : Nat) (w : WS) (a1 : Int32) (o : ((Int32 × WS) ⊕ (String × WS))) (hf : f_X3_position fu w a1 = some o) (sz : Nat) : vx_Met l yX3_position (wsY yX3_position cX3_position 2 (some .int)) rm_X3_position (va_Pc [.ref (ad 0), .int a1] (PreG D kA (picC kA ad w) sz)) (va_Qi (fun (r : Int32) (w1 : WS) => o = .inl (r, w1)) (fun w1 t => PosG D (va_A (picC kA ad w) sz) (picC kA ad w1) t) (va_A (picC kA ad w) sz)) (vx_X (fun q : String × WS => o = .inr q) (fun E q t => E = q.1 ∧ PosG D (va_A (picC kA ad w) sz) (picC kA ad q.2) t) (va_A (picC kA ad w) sz)) 2 12 (va_A (picC kA ad w) sz) := by
  refine metX (own := RX3) hst (by decide +kernel) rfl (Nat.le_of_ble_eq_true rfl) rfl ?_
  intro p e s m below meth c X hr hlk E htab
  unfold f_X3_position at hf
  refine x_aload_n X dX3_position_0 0 rfl ?_
  obtain ⟨o1, ho1, hf, hg⟩ := bx_one hf
  refine x_callX_v X E (As := []) (rest := []) (n := 0) (pic := picC kA ad) (w0 := w) (mc := 1) (ms := 6) (goodV w_5155 w_618 s_16 w_47 w_619) (met_X3_requireHierarchy l E.2.2.2 D kA ad fu w o1 ho1) rfl rfl (by decide +kernel) ⟨by decide, by decide⟩ 0 rfl (qc := (RX3, TX3, _)) rfl rfl rfl rfl (Nat.le_of_ble_eq_true rfl) dX3_position_1 ⟨by decide, by decide⟩ (fun q ce q9 H1 locs1 ls ho hP hD hS hl hce hcv hcl => x_thru (pic := picC kA ad) htab hlk rfl (Option.some.inj (hg q ho)).symm hP hD hS hce hcv hcl (by decide) (by decide)) (fun w2 ho => ?_)
  have hf := hf _ ho
  refine x_aload_n X dX3_position_4 0 rfl ?_
  refine x_iload_n X dX3_position_5 1 rfl ?_
  obtain ⟨o3, ho3, hf, hg⟩ := bx_one hf
  refine x_callX_v X E (As := [.int a1]) (rest := []) (n := 1) (pic := picC kA ad) (w0 := w2) (mc := 1) (ms := 6) (goodV w_5117 w_443 s_3 w_47 w_444) (met_X3_requireRoad l E.2.2.2 D kA ad fu w2 a1 o3 ho3) rfl rfl (by decide +kernel) ⟨by decide, by decide⟩ 0 rfl (qc := (RX3, TX3, _)) rfl rfl rfl rfl (Nat.le_of_ble_eq_true rfl) dX3_position_6 ⟨by decide, by decide⟩ (fun q ce q9 H1 locs1 ls ho hP hD hS hl hce hcv hcl => x_thru (pic := picC kA ad) htab hlk rfl (Option.some.inj (hg q ho)).symm hP hD hS hce hcv hcl (by decide) (by decide)) (fun w4 ho => ?_)
  have hf := hf _ ho
  refine x_aload_n X dX3_position_9 0 rfl ?_
  refine x_get X E.1.1 (T := TX3) (C := RX3) inW3 0 rfl rfl 1 (by decide) w_213 rfl (v := .ref (ad 2)) rfl dX3_position_10 ?_
  refine x_get X E.1.1 (T := TX0) (C := RX0) inW0 2 rfl rfl 5 (by decide) w_5031 rfl (v := .ref (ad 15)) rfl dX3_position_13 ?_
  refine x_iload_n X dX3_position_16 1 rfl ?_
  refine x_iald X E.1.1 15 rfl dX3_position_17 hf (fun x5 hf => ?_)
  exact x_iretX X hr hlk rfl (pic := picC kA ad) (Option.some.inj hf) (by decide) (by decide) dX3_position_18
end
section
variable {p : Program} {l : Launch} {e : Env} {s : State} {m : MethodId} {args : Array Value} {below : List Frame} {meth : Method} {c : Code} {D : va_G} {kA : Nat → ClassId} {A : Nat → Prop} {Q : State → Prop} {ad : Nat → Nat}
abbrev rm_X3_arcCount : Room := { frames := 0, cells := 0, slots := 0, locals := 0 }
set_option maxRecDepth 100000 in
set_option maxHeartbeats 4000000 in
theorem met_X3_arcCount (l : Launch) (hst : l.stackTraces = false) (D : va_G) (kA : Nat → ClassId) (ad : Nat → Nat) (fu : Nat) (w : WS)  (v : Int32) (hf : f_X3_arcCount fu w = some v) (sz : Nat) : Met l yX3_arcCount (wsY yX3_arcCount cX3_arcCount 1 (some .int)) rm_X3_arcCount (va_Pc [.ref (ad 0)] (PreG D kA (picC kA ad w) sz)) (va_Qi (fun (r : Int32) (_ : Unit) => r = v) (fun _ t => PosG D (va_A (picC kA ad w) sz) (picC kA ad w) t) (va_A (picC kA ad w) sz)) 0 0 (va_A (picC kA ad w) sz) := by
  refine metG (own := RX3) hst (by decide +kernel) rfl (Nat.le_of_ble_eq_true rfl) rfl ?_
  intro p e s m below meth c X hr hlk E _
  unfold f_X3_arcCount at hf
  refine x_aload_n X dX3_arcCount_0 0 rfl ?_
  refine x_get X E.1.1 (T := TX3) (C := RX3) inW3 0 rfl rfl 1 (by decide) w_213 rfl (v := .ref (ad 2)) rfl dX3_arcCount_1 ?_
  refine x_get X E.1.1 (T := TX0) (C := RX0) inW0 2 rfl rfl 1 (by decide) w_5025 rfl (v := .int (w.1 2 1)) rfl dX3_arcCount_4 ?_
  refine x_nmI hf (fun x1 hf => ?_)
  refine x_if_eq X (tgt := 20) dX3_arcCount_7 (by decide) hf (fun hf => ?_) (fun hf => ?_)
  · refine x_iconst X (v := 0) dX3_arcCount_20 (by decide) ?_
    exact x_iret X hr hlk rfl (Option.some.inj hf) dX3_arcCount_21
  · refine x_aload_n X dX3_arcCount_10 0 rfl ?_
    refine x_get X E.1.1 (T := TX3) (C := RX3) inW3 0 rfl rfl 1 (by decide) w_213 rfl (v := .ref (ad 2)) rfl dX3_arcCount_11 ?_
    refine x_get X E.1.1 (T := TX0) (C := RX0) inW0 2 rfl rfl 3 (by decide) w_5028 rfl (v := .int (w.1 2 3)) rfl dX3_arcCount_14 ?_
    refine x_nmI hf (fun x2 hf => ?_)
    refine x_goto X (tgt := 21) dX3_arcCount_17 (by decide) ?_
    exact x_iret X hr hlk rfl (Option.some.inj hf) dX3_arcCount_21
end
section
variable {p : Program} {l : Launch} {e : Env} {s : State} {m : MethodId} {args : Array Value} {below : List Frame} {meth : Method} {c : Code} {D : va_G} {kA : Nat → ClassId} {A : Nat → Prop} {Q : State → Prop} {ad : Nat → Nat}
abbrev rm_X3_hasArc : Room := { frames := 7, cells := 3, slots := 18, locals := 111 }
set_option maxRecDepth 100000 in
set_option maxHeartbeats 4000000 in
theorem met_X3_hasArc (l : Launch) (hst : l.stackTraces = false) (D : va_G) (kA : Nat → ClassId) (ad : Nat → Nat) (fu : Nat) (w : WS) (a1 : Int32) (a2 : Int32) (o : ((Int32 × WS) ⊕ (String × WS))) (hf : f_X3_hasArc fu w a1 a2 = some o) (sz : Nat) : vx_Met l yX3_hasArc (wsY yX3_hasArc cX3_hasArc 3 (some .boolean)) rm_X3_hasArc (va_Pc [.ref (ad 0), .int a1, .int a2] (PreG D kA (picC kA ad w) sz)) (va_Qi (fun (r : Int32) (w1 : WS) => o = .inl (r, w1)) (fun w1 t => PosG D (va_A (picC kA ad w) sz) (picC kA ad w1) t) (va_A (picC kA ad w) sz)) (vx_X (fun q : String × WS => o = .inr q) (fun E q t => E = q.1 ∧ PosG D (va_A (picC kA ad w) sz) (picC kA ad q.2) t) (va_A (picC kA ad w) sz)) 3 18 (va_A (picC kA ad w) sz) := by
  refine metX (own := RX3) hst (by decide +kernel) rfl (Nat.le_of_ble_eq_true rfl) rfl ?_
  intro p e s m below meth c X hr hlk E htab
  unfold f_X3_hasArc at hf
  refine x_aload_n X dX3_hasArc_0 0 rfl ?_
  obtain ⟨o1, ho1, hf, hg⟩ := bx_one hf
  refine x_callX_v X E (As := []) (rest := []) (n := 0) (pic := picC kA ad) (w0 := w) (mc := 1) (ms := 6) (goodV w_5155 w_618 s_16 w_47 w_619) (met_X3_requireHierarchy l E.2.2.2 D kA ad fu w o1 ho1) rfl rfl (by decide +kernel) ⟨by decide, by decide⟩ 0 rfl (qc := (RX3, TX3, _)) rfl rfl rfl rfl (Nat.le_of_ble_eq_true rfl) dX3_hasArc_1 ⟨by decide, by decide⟩ (fun q ce q9 H1 locs1 ls ho hP hD hS hl hce hcv hcl => x_thru (pic := picC kA ad) htab hlk rfl (Option.some.inj (hg q ho)).symm hP hD hS hce hcv hcl (by decide) (by decide)) (fun w2 ho => ?_)
  have hf := hf _ ho
  refine x_aload_n X dX3_hasArc_4 0 rfl ?_
  refine x_iload_n X dX3_hasArc_5 1 rfl ?_
  obtain ⟨o3, ho3, hf, hg⟩ := bx_one hf
  refine x_callX_v X E (As := [.int a1]) (rest := []) (n := 1) (pic := picC kA ad) (w0 := w2) (mc := 1) (ms := 6) (goodV w_5117 w_443 s_3 w_47 w_444) (met_X3_requireRoad l E.2.2.2 D kA ad fu w2 a1 o3 ho3) rfl rfl (by decide +kernel) ⟨by decide, by decide⟩ 0 rfl (qc := (RX3, TX3, _)) rfl rfl rfl rfl (Nat.le_of_ble_eq_true rfl) dX3_hasArc_6 ⟨by decide, by decide⟩ (fun q ce q9 H1 locs1 ls ho hP hD hS hl hce hcv hcl => x_thru (pic := picC kA ad) htab hlk rfl (Option.some.inj (hg q ho)).symm hP hD hS hce hcv hcl (by decide) (by decide)) (fun w4 ho => ?_)
  have hf := hf _ ho
  refine x_aload_n X dX3_hasArc_9 0 rfl ?_
  refine x_iload_n X dX3_hasArc_10 2 rfl ?_
  obtain ⟨o5, ho5, hf, hg⟩ := bx_one hf
  refine x_callX_v X E (As := [.int a2]) (rest := []) (n := 1) (pic := picC kA ad) (w0 := w4) (mc := 1) (ms := 6) (goodV w_5117 w_443 s_3 w_47 w_444) (met_X3_requireRoad l E.2.2.2 D kA ad fu w4 a2 o5 ho5) rfl rfl (by decide +kernel) ⟨by decide, by decide⟩ 0 rfl (qc := (RX3, TX3, _)) rfl rfl rfl rfl (Nat.le_of_ble_eq_true rfl) dX3_hasArc_11 ⟨by decide, by decide⟩ (fun q ce q9 H1 locs1 ls ho hP hD hS hl hce hcv hcl => x_thru (pic := picC kA ad) htab hlk rfl (Option.some.inj (hg q ho)).symm hP hD hS hce hcv hcl (by decide) (by decide)) (fun w6 ho => ?_)
  have hf := hf _ ho
  refine x_aload_n X dX3_hasArc_14 0 rfl ?_
  refine x_get X E.1.1 (T := TX3) (C := RX3) inW3 0 rfl rfl 1 (by decide) w_213 rfl (v := .ref (ad 2)) rfl dX3_hasArc_15 ?_
  refine x_get X E.1.1 (T := TX0) (C := RX0) inW0 2 rfl rfl 7 (by decide) w_5033 rfl (v := .ref (ad 18)) rfl dX3_hasArc_18 ?_
  refine x_iload_n X dX3_hasArc_21 1 rfl ?_
  refine x_lald X E.1.1 18 rfl dX3_hasArc_22 hf (fun x7 hf => ?_)
  refine x_iload_n X dX3_hasArc_23 2 rfl ?_
  obtain ⟨x8, hx8, hf⟩ := bn_some hf
  refine x_callS_i X (As := [.long x7, .int a2]) (rest := []) (n := 2) (goodS w_5085 w_274 w_47 w_275) (met_X3_has l fu x7 a2 x8 hx8) rfl rfl (by decide +kernel) ⟨by decide, by decide⟩ rfl rfl (Nat.le_of_ble_eq_true rfl) dX3_hasArc_24 ⟨by decide, by decide⟩ ?_
  obtain ⟨hz, hf⟩ := ck_some hf
  exact x_zretX X hr hlk rfl (pic := picC kA ad) hz (Option.some.inj hf) (by decide) (by decide) dX3_hasArc_27
end
section
variable {p : Program} {l : Launch} {e : Env} {s : State} {m : MethodId} {args : Array Value} {below : List Frame} {meth : Method} {c : Code} {D : va_G} {kA : Nat → ClassId} {A : Nat → Prop} {Q : State → Prop} {ad : Nat → Nat}
abbrev rm_X3_arcCost : Room := { frames := 7, cells := 4, slots := 24, locals := 111 }
set_option maxRecDepth 100000 in
set_option maxHeartbeats 4000000 in
theorem met_X3_arcCost (l : Launch) (hst : l.stackTraces = false) (D : va_G) (kA : Nat → ClassId) (ad : Nat → Nat) (fu : Nat) (w : WS) (a1 : Int32) (a2 : Int32) (o : ((Int32 × WS) ⊕ (String × WS))) (hf : f_X3_arcCost fu w a1 a2 = some o) (sz : Nat) : vx_Met l yX3_arcCost (wsY yX3_arcCost cX3_arcCost 3 (some .int)) rm_X3_arcCost (va_Pc [.ref (ad 0), .int a1, .int a2] (PreG D kA (picC kA ad w) sz)) (va_Qi (fun (r : Int32) (w1 : WS) => o = .inl (r, w1)) (fun w1 t => PosG D (va_A (picC kA ad w) sz) (picC kA ad w1) t) (va_A (picC kA ad w) sz)) (vx_X (fun q : String × WS => o = .inr q) (fun E q t => E = q.1 ∧ PosG D (va_A (picC kA ad w) sz) (picC kA ad q.2) t) (va_A (picC kA ad w) sz)) 4 24 (va_A (picC kA ad w) sz) := by
  refine metX (own := RX3) hst (by decide +kernel) rfl (Nat.le_of_ble_eq_true rfl) rfl ?_
  intro p e s m below meth c X hr hlk E htab
  unfold f_X3_arcCost at hf
  refine x_aload_n X dX3_arcCost_0 0 rfl ?_
  obtain ⟨o1, ho1, hf, hg⟩ := bx_one hf
  refine x_callX_v X E (As := []) (rest := []) (n := 0) (pic := picC kA ad) (w0 := w) (mc := 1) (ms := 6) (goodV w_5155 w_618 s_16 w_47 w_619) (met_X3_requireHierarchy l E.2.2.2 D kA ad fu w o1 ho1) rfl rfl (by decide +kernel) ⟨by decide, by decide⟩ 0 rfl (qc := (RX3, TX3, _)) rfl rfl rfl rfl (Nat.le_of_ble_eq_true rfl) dX3_arcCost_1 ⟨by decide, by decide⟩ (fun q ce q9 H1 locs1 ls ho hP hD hS hl hce hcv hcl => x_thru (pic := picC kA ad) htab hlk rfl (Option.some.inj (hg q ho)).symm hP hD hS hce hcv hcl (by decide) (by decide)) (fun w2 ho => ?_)
  have hf := hf _ ho
  refine x_aload_n X dX3_arcCost_4 0 rfl ?_
  refine x_iload_n X dX3_arcCost_5 1 rfl ?_
  obtain ⟨o3, ho3, hf, hg⟩ := bx_one hf
  refine x_callX_v X E (As := [.int a1]) (rest := []) (n := 1) (pic := picC kA ad) (w0 := w2) (mc := 1) (ms := 6) (goodV w_5117 w_443 s_3 w_47 w_444) (met_X3_requireRoad l E.2.2.2 D kA ad fu w2 a1 o3 ho3) rfl rfl (by decide +kernel) ⟨by decide, by decide⟩ 0 rfl (qc := (RX3, TX3, _)) rfl rfl rfl rfl (Nat.le_of_ble_eq_true rfl) dX3_arcCost_6 ⟨by decide, by decide⟩ (fun q ce q9 H1 locs1 ls ho hP hD hS hl hce hcv hcl => x_thru (pic := picC kA ad) htab hlk rfl (Option.some.inj (hg q ho)).symm hP hD hS hce hcv hcl (by decide) (by decide)) (fun w4 ho => ?_)
  have hf := hf _ ho
  refine x_aload_n X dX3_arcCost_9 0 rfl ?_
  refine x_iload_n X dX3_arcCost_10 2 rfl ?_
  obtain ⟨o5, ho5, hf, hg⟩ := bx_one hf
  refine x_callX_v X E (As := [.int a2]) (rest := []) (n := 1) (pic := picC kA ad) (w0 := w4) (mc := 1) (ms := 6) (goodV w_5117 w_443 s_3 w_47 w_444) (met_X3_requireRoad l E.2.2.2 D kA ad fu w4 a2 o5 ho5) rfl rfl (by decide +kernel) ⟨by decide, by decide⟩ 0 rfl (qc := (RX3, TX3, _)) rfl rfl rfl rfl (Nat.le_of_ble_eq_true rfl) dX3_arcCost_11 ⟨by decide, by decide⟩ (fun q ce q9 H1 locs1 ls ho hP hD hS hl hce hcv hcl => x_thru (pic := picC kA ad) htab hlk rfl (Option.some.inj (hg q ho)).symm hP hD hS hce hcv hcl (by decide) (by decide)) (fun w6 ho => ?_)
  have hf := hf _ ho
  refine x_aload_n X dX3_arcCost_14 0 rfl ?_
  refine x_get X E.1.1 (T := TX3) (C := RX3) inW3 0 rfl rfl 1 (by decide) w_213 rfl (v := .ref (ad 2)) rfl dX3_arcCost_15 ?_
  refine x_get X E.1.1 (T := TX0) (C := RX0) inW0 2 rfl rfl 7 (by decide) w_5033 rfl (v := .ref (ad 18)) rfl dX3_arcCost_18 ?_
  refine x_iload_n X dX3_arcCost_21 1 rfl ?_
  refine x_lald X E.1.1 18 rfl dX3_arcCost_22 hf (fun x7 hf => ?_)
  refine x_iload_n X dX3_arcCost_23 2 rfl ?_
  obtain ⟨x8, hx8, hf⟩ := bn_some hf
  refine x_callS_i X (As := [.long x7, .int a2]) (rest := []) (n := 2) (goodS w_5085 w_274 w_47 w_275) (met_X3_has l fu x7 a2 x8 hx8) rfl rfl (by decide +kernel) ⟨by decide, by decide⟩ rfl rfl (Nat.le_of_ble_eq_true rfl) dX3_arcCost_24 ⟨by decide, by decide⟩ ?_
  refine x_if_ne X (tgt := 40) dX3_arcCost_27 (by decide) hf (fun hf => ?_) (fun hf => ?_)
  · refine x_aload_n X dX3_arcCost_40 0 rfl ?_
    refine x_get X E.1.1 (T := TX3) (C := RX3) inW3 0 rfl rfl 1 (by decide) w_213 rfl (v := .ref (ad 2)) rfl dX3_arcCost_41 ?_
    refine x_get X E.1.1 (T := TX0) (C := RX0) inW0 2 rfl rfl 9 (by decide) w_5036 rfl (v := .ref (ad 20)) rfl dX3_arcCost_44 ?_
    refine x_iload_n X dX3_arcCost_47 1 rfl ?_
    refine x_iload_n X dX3_arcCost_48 2 rfl ?_
    obtain ⟨x9, hx9, hf⟩ := bn_some hf
    refine x_callS_i X (As := [.int a1, .int a2]) (rest := [.ref (ad 20)]) (n := 2) (goodS w_5141 w_293 w_47 w_294) (met_X3_pair l fu a1 a2 x9 hx9) rfl rfl (by decide +kernel) ⟨by decide, by decide⟩ rfl rfl (Nat.le_of_ble_eq_true rfl) dX3_arcCost_49 ⟨by decide, by decide⟩ ?_
    refine x_iald X E.1.1 20 rfl dX3_arcCost_52 hf (fun x10 hf => ?_)
    obtain ⟨x11, hx11, hf⟩ := bn_some hf
    refine x_callS_i X (As := [.int x10]) (rest := []) (n := 1) (goodS w_5160 w_296 w_47 w_297) (met_X3_costOf l fu x10 x11 hx11) rfl rfl (by decide +kernel) ⟨by decide, by decide⟩ rfl rfl (Nat.le_of_ble_eq_true rfl) dX3_arcCost_53 ⟨by decide, by decide⟩ ?_
    exact x_iretX X hr hlk rfl (pic := picC kA ad) (Option.some.inj hf) (by decide) (by decide) dX3_arcCost_56
  · exact x_throwN X E (pic := picC kA ad) (text := "there is no such arc") (is := 161) (ic := 163) w_5156 w_63 (by decide +kernel) (at_NSE_163) (gd_NSE_163) dX3_arcCost_30 dX3_arcCost_33 dX3_arcCost_34 dX3_arcCost_36 dX3_arcCost_39 htab hlk rfl (by decide) (by decide) (by decide) (by decide) (by decide) (by decide) (Option.some.inj hf).symm
end
section
variable {p : Program} {l : Launch} {e : Env} {s : State} {m : MethodId} {args : Array Value} {below : List Frame} {meth : Method} {c : Code} {D : va_G} {kA : Nat → ClassId} {A : Nat → Prop} {Q : State → Prop} {ad : Nat → Nat}
abbrev rm_X3_spreadToJunctions : Room := { frames := 3, cells := 0, slots := 0, locals := 70 }
set_option maxRecDepth 100000 in
set_option maxHeartbeats 4000000 in
theorem lp_X3_spreadToJunctions_22 (X : CX p m c cX3_spreadToJunctions 3 s args RX3) (E : EX l s D kA A) (fu : Nat)  : ∀ (n : Nat) (y1 : Int32) (w : WS) (rw : WS), iter (fun q => bd_X3_spreadToJunctions_22 fu q.1 q.2) n (y1, w) = some (rw) → CS p l e rm_X3_spreadToJunctions s m args below meth c D A 3 0 0 Q (picC kA ad rw) 70 [] [] → CS p l e rm_X3_spreadToJunctions s m args below meth c D A 3 0 0 Q (picC kA ad w) 22 [(0, .ref (ad 0)), (1, .int y1)] [] := by
  intro n
  induction n with
  | zero =>
    intro y1 w rw hit kk
    exact (iter_0 hit).elim
  | succ n ih =>
    intro y1 w rw hit kk
    obtain ⟨o, h1, hit⟩ := iter_one hit
    have hf : bd_X3_spreadToJunctions_22 fu y1 w = some o := h1
    unfold bd_X3_spreadToJunctions_22 at hf
    refine x_iload_n X dX3_spreadToJunctions_22 1 rfl ?_
    refine x_aload_n X dX3_spreadToJunctions_23 0 rfl ?_
    refine x_get X E.1.1 (T := TX3) (C := RX3) inW3 0 rfl rfl 0 (by decide) w_212 rfl (v := .ref (ad 1)) rfl dX3_spreadToJunctions_24 ?_
    refine x_get X E.1.1 (T := TX2) (C := RX2) inW2 1 rfl rfl 1 (by decide) w_5003 rfl (v := .int (w.1 1 1)) rfl dX3_spreadToJunctions_27 ?_
    refine x_nmI hf (fun x1 hf => ?_)
    refine x_icmp_ge X (tgt := 70) dX3_spreadToJunctions_30 (by decide) hf (fun hf => ?_) (fun hf => ?_)
    · cases hf
      cases hit
      refine x_lpick (lv2 := []) [] rfl ?_
      exact kk
    · refine x_aload_n X dX3_spreadToJunctions_33 0 rfl ?_
      refine x_get X E.1.1 (T := TX3) (C := RX3) inW3 0 rfl rfl 0 (by decide) w_212 rfl (v := .ref (ad 1)) rfl dX3_spreadToJunctions_34 ?_
      refine x_get X E.1.1 (T := TX2) (C := RX2) inW2 1 rfl rfl 3 (by decide) w_5005 rfl (v := .ref (ad 10)) rfl dX3_spreadToJunctions_37 ?_
      refine x_iload_n X dX3_spreadToJunctions_40 1 rfl ?_
      refine x_iald X E.1.1 10 rfl dX3_spreadToJunctions_41 hf (fun x2 hf => ?_)
      refine x_istore_n X (lv2 := [(2, .int x2), (0, .ref (ad 0)), (1, .int y1)]) dX3_spreadToJunctions_42 (by decide) rfl ?_
      refine x_aload_n X dX3_spreadToJunctions_43 1 rfl ?_
      refine x_get X E.1.1 (T := TX3) (C := RX3) inW3 0 rfl rfl 5 (by decide) w_5062 rfl (v := .ref (ad 17)) rfl dX3_spreadToJunctions_44 ?_
      refine x_iload_n X dX3_spreadToJunctions_47 0 rfl ?_
      refine x_aload_n X dX3_spreadToJunctions_48 1 rfl ?_
      refine x_get X E.1.1 (T := TX3) (C := RX3) inW3 0 rfl rfl 5 (by decide) w_5062 rfl (v := .ref (ad 17)) rfl dX3_spreadToJunctions_49 ?_
      refine x_iload_n X dX3_spreadToJunctions_52 0 rfl ?_
      refine x_iald X E.1.1 17 rfl dX3_spreadToJunctions_53 hf (fun x3 hf => ?_)
      refine x_aload_n X dX3_spreadToJunctions_54 1 rfl ?_
      refine x_get X E.1.1 (T := TX3) (C := RX3) inW3 0 rfl rfl 4 (by decide) w_216 rfl (v := .ref (ad 5)) rfl dX3_spreadToJunctions_55 ?_
      refine x_iload_n X dX3_spreadToJunctions_58 2 rfl ?_
      refine x_iald X E.1.1 5 rfl dX3_spreadToJunctions_59 hf (fun x4 hf => ?_)
      refine x_mmin X w_5172 w_496 w_62 w_497 (by decide) (Nat.le_of_ble_eq_true rfl) (by decide) (by decide) dX3_spreadToJunctions_60 ?_
      refine x_iast X E.1.1 17 rfl dX3_spreadToJunctions_63 hf (picC kA ad) (setC_17 kA ad _ _ _) (fun w5 hf => ?_)
      refine x_iinc X dX3_spreadToJunctions_64 2 rfl (by decide) (y1 + 1) rfl hf (fun x6 => [(1, .int x6), (2, .int x2), (0, .ref (ad 0))]) (fun _ => rfl) (fun x6 hf => ?_)
      refine x_goto X (tgt := 22) dX3_spreadToJunctions_67 (by decide) ?_
      cases hf
      refine x_lpick (lv2 := [(0, .ref (ad 0)), (1, .int x6)]) [2, 0] rfl ?_
      exact ih _ _ _ hit kk
set_option maxRecDepth 100000 in
set_option maxHeartbeats 4000000 in
theorem met_X3_spreadToJunctions (l : Launch) (hst : l.stackTraces = false) (D : va_G) (kA : Nat → ClassId) (ad : Nat → Nat) (fu : Nat) (w : WS)  (w1 : WS) (hf : f_X3_spreadToJunctions fu w = some w1) (sz : Nat) : Met l yX3_spreadToJunctions (wsY yX3_spreadToJunctions cX3_spreadToJunctions 3 none) rm_X3_spreadToJunctions (va_Pc [.ref (ad 0)] (PreG D kA (picC kA ad w) sz)) (va_Qv (fun (_ : Unit) => True) (fun _ t => PosG D (va_A (picC kA ad w) sz) (picC kA ad w1) t) (va_A (picC kA ad w) sz)) 0 0 (va_A (picC kA ad w) sz) := by
  refine metG (own := RX3) hst (by decide +kernel) rfl (Nat.le_of_ble_eq_true rfl) rfl ?_
  intro p e s m below meth c X hr hlk E _
  unfold f_X3_spreadToJunctions at hf
  refine x_aload_n X dX3_spreadToJunctions_0 0 rfl ?_
  refine x_get X E.1.1 (T := TX3) (C := RX3) inW3 0 rfl rfl 1 (by decide) w_213 rfl (v := .ref (ad 2)) rfl dX3_spreadToJunctions_1 ?_
  refine x_aload_n X dX3_spreadToJunctions_4 0 rfl ?_
  refine x_get X E.1.1 (T := TX3) (C := RX3) inW3 0 rfl rfl 4 (by decide) w_216 rfl (v := .ref (ad 5)) rfl dX3_spreadToJunctions_5 ?_
  obtain ⟨w1, hw1, hf⟩ := bn_some hf
  refine x_callV_v X E (As := [.ref (ad 5)]) (rest := []) (n := 1) (ws2 := (picC kA ad w1)) (goodV w_5168 w_672 w_673 w_50 w_5169) (met_X0_spreadForward l E.2.2.2 D kA ad fu w w1 hw1) rfl rfl (by decide +kernel) ⟨by decide, by decide⟩ 2 rfl (qc := (RX0, TX0, _)) rfl rfl rfl rfl (Nat.le_of_ble_eq_true rfl) dX3_spreadToJunctions_8 ⟨by decide, by decide⟩ ?_
  refine x_aload_n X dX3_spreadToJunctions_11 0 rfl ?_
  refine x_get X E.1.1 (T := TX3) (C := RX3) inW3 0 rfl rfl 5 (by decide) w_5062 rfl (v := .ref (ad 17)) rfl dX3_spreadToJunctions_12 ?_
  refine x_ldc X (v := 536870912) w_5089 dX3_spreadToJunctions_15 ?_
  refine x_fill X E w_5163 w_80 w_49 w_81 (by decide) (by decide) 17 rfl (by decide) dX3_spreadToJunctions_17 ⟨by decide, by decide⟩ hf (picC kA ad) (setFC_17 kA ad _ _) (fun w2 hf => ?_)
  refine x_iconst X (v := 0) dX3_spreadToJunctions_20 (by decide) ?_
  refine x_istore_n X (lv2 := [(1, .int 0), (0, .ref (ad 0))]) dX3_spreadToJunctions_21 (by decide) rfl ?_
  refine x_lpick (lv2 := [(0, .ref (ad 0)), (1, .int 0)]) [1, 0] rfl ?_
  obtain ⟨w3, h4, hf⟩ := bn_some hf
  refine lp_X3_spreadToJunctions_22 X E fu  fu (0 : Int32) w2 w3 h4 ?_
  cases hf
  exact x_vret X hr hlk rfl dX3_spreadToJunctions_70
end
section
variable {p : Program} {l : Launch} {e : Env} {s : State} {m : MethodId} {args : Array Value} {below : List Frame} {meth : Method} {c : Code} {D : va_G} {kA : Nat → ClassId} {A : Nat → Prop} {Q : State → Prop} {ad : Nat → Nat}
abbrev rm_X3_searchFrom : Room := { frames := 4, cells := 0, slots := 0, locals := 92 }
set_option maxRecDepth 100000 in
set_option maxHeartbeats 4000000 in
theorem lp_X3_searchFrom_30 (X : CX p m c cX3_searchFrom 5 s args RX3) (E : EX l s D kA A) (fu : Nat) (y1 : Int32) (y2 : Int64) : ∀ (n : Nat) (y4 : Int32) (w : WS) (rw : WS), iter (fun q => bd_X3_searchFrom_30 fu y1 y2 q.1 q.2) n (y4, w) = some (rw) → CS p l e rm_X3_searchFrom s m args below meth c D A 5 0 0 Q (picC kA ad rw) 73 [(0, .ref (ad 0)), (1, .int y1)] [] → CS p l e rm_X3_searchFrom s m args below meth c D A 5 0 0 Q (picC kA ad w) 30 [(0, .ref (ad 0)), (1, .int y1), (2, .long y2), (4, .int y4)] [] := by
  intro n
  induction n with
  | zero =>
    intro y4 w rw hit kk
    exact (iter_0 hit).elim
  | succ n ih =>
    intro y4 w rw hit kk
    obtain ⟨o, h1, hit⟩ := iter_one hit
    have hf : bd_X3_searchFrom_30 fu y1 y2 y4 w = some o := h1
    unfold bd_X3_searchFrom_30 at hf
    refine x_iload X dX3_searchFrom_30 3 rfl ?_
    refine x_aload_n X dX3_searchFrom_32 0 rfl ?_
    refine x_get X E.1.1 (T := TX3) (C := RX3) inW3 0 rfl rfl 0 (by decide) w_212 rfl (v := .ref (ad 1)) rfl dX3_searchFrom_33 ?_
    refine x_get X E.1.1 (T := TX2) (C := RX2) inW2 1 rfl rfl 1 (by decide) w_5003 rfl (v := .int (w.1 1 1)) rfl dX3_searchFrom_36 ?_
    refine x_nmI hf (fun x1 hf => ?_)
    refine x_icmp_ge X (tgt := 73) dX3_searchFrom_39 (by decide) hf (fun hf => ?_) (fun hf => ?_)
    · cases hf
      cases hit
      refine x_lpick (lv2 := [(0, .ref (ad 0)), (1, .int y1)]) [0, 1] rfl ?_
      exact kk
    · refine x_lload_n X dX3_searchFrom_42 2 rfl ?_
      refine x_iload X dX3_searchFrom_43 3 rfl ?_
      obtain ⟨x2, hx2, hf⟩ := bn_some hf
      refine x_callS_i X (As := [.long y2, .int y4]) (rest := []) (n := 2) (goodS w_5085 w_274 w_47 w_275) (met_X3_has l fu y2 y4 x2 hx2) rfl rfl (by decide +kernel) ⟨by decide, by decide⟩ rfl rfl (Nat.le_of_ble_eq_true rfl) dX3_searchFrom_45 ⟨by decide, by decide⟩ ?_
      refine x_if_eq X (tgt := 67) dX3_searchFrom_48 (by decide) hf (fun hf => ?_) (fun hf => ?_)
      · refine x_iinc X dX3_searchFrom_67 3 rfl (by decide) (y4 + 1) rfl hf (fun x3 => [(4, .int x3), (0, .ref (ad 0)), (1, .int y1), (2, .long y2)]) (fun _ => rfl) (fun x3 hf => ?_)
        refine x_goto X (tgt := 30) dX3_searchFrom_70 (by decide) ?_
        cases hf
        refine x_lpick (lv2 := [(0, .ref (ad 0)), (1, .int y1), (2, .long y2), (4, .int x3)]) [1, 2, 3, 0] rfl ?_
        exact ih _ _ _ hit kk
      · refine x_aload_n X dX3_searchFrom_51 0 rfl ?_
        refine x_get X E.1.1 (T := TX3) (C := RX3) inW3 0 rfl rfl 4 (by decide) w_216 rfl (v := .ref (ad 5)) rfl dX3_searchFrom_52 ?_
        refine x_iload X dX3_searchFrom_55 3 rfl ?_
        refine x_aload_n X dX3_searchFrom_57 0 rfl ?_
        refine x_get X E.1.1 (T := TX3) (C := RX3) inW3 0 rfl rfl 0 (by decide) w_212 rfl (v := .ref (ad 1)) rfl dX3_searchFrom_58 ?_
        refine x_iload X dX3_searchFrom_61 3 rfl ?_
        obtain ⟨x4, hx4, hf⟩ := bn_some hf
        refine x_callV_i X E (As := [.int y4]) (rest := [.int y4, .ref (ad 5)]) (n := 1) (ws2 := (picC kA ad w)) (goodV w_5164 w_475 w_476 w_48 w_477) (met_X2_roadLength l E.2.2.2 D kA ad fu w y4 x4 hx4) rfl rfl (by decide +kernel) ⟨by decide, by decide⟩ 1 rfl (qc := (RX2, TX2, _)) rfl rfl rfl rfl (Nat.le_of_ble_eq_true rfl) dX3_searchFrom_63 ⟨by decide, by decide⟩ ?_
        refine x_iast X E.1.1 5 rfl dX3_searchFrom_66 hf (picC kA ad) (setC_5 kA ad _ _ _) (fun w5 hf => ?_)
        refine x_iinc X dX3_searchFrom_67 3 rfl (by decide) (y4 + 1) rfl hf (fun x6 => [(4, .int x6), (0, .ref (ad 0)), (1, .int y1), (2, .long y2)]) (fun _ => rfl) (fun x6 hf => ?_)
        refine x_goto X (tgt := 30) dX3_searchFrom_70 (by decide) ?_
        cases hf
        refine x_lpick (lv2 := [(0, .ref (ad 0)), (1, .int y1), (2, .long y2), (4, .int x6)]) [1, 2, 3, 0] rfl ?_
        exact ih _ _ _ hit kk
set_option maxRecDepth 100000 in
set_option maxHeartbeats 4000000 in
theorem met_X3_searchFrom (l : Launch) (hst : l.stackTraces = false) (D : va_G) (kA : Nat → ClassId) (ad : Nat → Nat) (fu : Nat) (w : WS) (a1 : Int32) (w1 : WS) (hf : f_X3_searchFrom fu w a1 = some w1) (sz : Nat) : Met l yX3_searchFrom (wsY yX3_searchFrom cX3_searchFrom 5 none) rm_X3_searchFrom (va_Pc [.ref (ad 0), .int a1] (PreG D kA (picC kA ad w) sz)) (va_Qv (fun (_ : Unit) => True) (fun _ t => PosG D (va_A (picC kA ad w) sz) (picC kA ad w1) t) (va_A (picC kA ad w) sz)) 0 0 (va_A (picC kA ad w) sz) := by
  refine metG (own := RX3) hst (by decide +kernel) rfl (Nat.le_of_ble_eq_true rfl) rfl ?_
  intro p e s m below meth c X hr hlk E _
  unfold f_X3_searchFrom at hf
  refine x_aload_n X dX3_searchFrom_0 0 rfl ?_
  refine x_get X E.1.1 (T := TX3) (C := RX3) inW3 0 rfl rfl 4 (by decide) w_216 rfl (v := .ref (ad 5)) rfl dX3_searchFrom_1 ?_
  refine x_ldc X (v := 536870912) w_5089 dX3_searchFrom_4 ?_
  refine x_fill X E w_5163 w_80 w_49 w_81 (by decide) (by decide) 5 rfl (by decide) dX3_searchFrom_6 ⟨by decide, by decide⟩ hf (picC kA ad) (setFC_5 kA ad _ _) (fun w1 hf => ?_)
  refine x_aload_n X dX3_searchFrom_9 0 rfl ?_
  refine x_get X E.1.1 (T := TX3) (C := RX3) inW3 0 rfl rfl 0 (by decide) w_212 rfl (v := .ref (ad 1)) rfl dX3_searchFrom_10 ?_
  refine x_get X E.1.1 (T := TX2) (C := RX2) inW2 1 rfl rfl 6 (by decide) w_5008 rfl (v := .ref (ad 13)) rfl dX3_searchFrom_13 ?_
  refine x_iload_n X dX3_searchFrom_16 1 rfl ?_
  refine x_lald X E.1.1 13 rfl dX3_searchFrom_17 hf (fun x2 hf => ?_)
  refine x_aload_n X dX3_searchFrom_18 0 rfl ?_
  refine x_get X E.1.1 (T := TX3) (C := RX3) inW3 0 rfl rfl 0 (by decide) w_212 rfl (v := .ref (ad 1)) rfl dX3_searchFrom_19 ?_
  refine x_get X E.1.1 (T := TX2) (C := RX2) inW2 1 rfl rfl 8 (by decide) w_5010 rfl (v := .long (w1.2 1 8)) rfl dX3_searchFrom_22 ?_
  refine x_nmL hf (fun x3 hf => ?_)
  refine x_land X dX3_searchFrom_25 ?_
  refine x_nmL hf (fun x4 hf => ?_)
  refine x_lstore_n X (lv2 := [(2, .long x4), (0, .ref (ad 0)), (1, .int a1)]) dX3_searchFrom_26 (by decide) rfl ?_
  refine x_iconst X (v := 0) dX3_searchFrom_27 (by decide) ?_
  refine x_istore X (lv2 := [(4, .int 0), (2, .long x4), (0, .ref (ad 0)), (1, .int a1)]) dX3_searchFrom_28 (by decide) rfl ?_
  refine x_lpick (lv2 := [(0, .ref (ad 0)), (1, .int a1), (2, .long x4), (4, .int 0)]) [2, 3, 1, 0] rfl ?_
  obtain ⟨w5, h6, hf⟩ := bn_some hf
  refine lp_X3_searchFrom_30 X E fu a1 x4 fu (0 : Int32) w1 w5 h6 ?_
  refine x_aload_n X dX3_searchFrom_73 0 rfl ?_
  obtain ⟨w7, hw7, hf⟩ := bn_some hf
  refine x_callV_v X E (As := []) (rest := []) (n := 0) (ws2 := (picC kA ad w7)) (goodV w_5165 w_5166 s_502 w_47 w_5167) (met_X3_spreadToJunctions l E.2.2.2 D kA ad fu w5 w7 hw7) rfl rfl (by decide +kernel) ⟨by decide, by decide⟩ 0 rfl (qc := (RX3, TX3, _)) rfl rfl rfl rfl (Nat.le_of_ble_eq_true rfl) dX3_searchFrom_74 ⟨by decide, by decide⟩ ?_
  refine x_aload_n X dX3_searchFrom_77 0 rfl ?_
  refine x_get X E.1.1 (T := TX3) (C := RX3) inW3 0 rfl rfl 5 (by decide) w_5062 rfl (v := .ref (ad 17)) rfl dX3_searchFrom_78 ?_
  refine x_iload_n X dX3_searchFrom_81 1 rfl ?_
  refine x_iconst X (v := 0) dX3_searchFrom_82 (by decide) ?_
  refine x_iast X E.1.1 17 rfl dX3_searchFrom_83 hf (picC kA ad) (setC_17 kA ad _ _ _) (fun w8 hf => ?_)
  cases hf
  exact x_vret X hr hlk rfl dX3_searchFrom_84
end
section
variable {p : Program} {l : Launch} {e : Env} {s : State} {m : MethodId} {args : Array Value} {below : List Frame} {meth : Method} {c : Code} {D : va_G} {kA : Nat → ClassId} {A : Nat → Prop} {Q : State → Prop} {ad : Nat → Nat}
abbrev rm_X3_foundCost : Room := { frames := 1, cells := 0, slots := 0, locals := 20 }
set_option maxRecDepth 100000 in
set_option maxHeartbeats 4000000 in
theorem met_X3_foundCost (l : Launch) (hst : l.stackTraces = false) (D : va_G) (kA : Nat → ClassId) (ad : Nat → Nat) (fu : Nat) (w : WS) (a1 : Int32) (v : Int32) (hf : f_X3_foundCost fu w a1 = some v) (sz : Nat) : Met l yX3_foundCost (wsY yX3_foundCost cX3_foundCost 2 (some .int)) rm_X3_foundCost (va_Pc [.ref (ad 0), .int a1] (PreG D kA (picC kA ad w) sz)) (va_Qi (fun (r : Int32) (_ : Unit) => r = v) (fun _ t => PosG D (va_A (picC kA ad w) sz) (picC kA ad w) t) (va_A (picC kA ad w) sz)) 0 0 (va_A (picC kA ad w) sz) := by
  refine metG (own := RX3) hst (by decide +kernel) rfl (Nat.le_of_ble_eq_true rfl) rfl ?_
  intro p e s m below meth c X hr hlk E _
  unfold f_X3_foundCost at hf
  refine x_aload_n X dX3_foundCost_0 0 rfl ?_
  refine x_get X E.1.1 (T := TX3) (C := RX3) inW3 0 rfl rfl 5 (by decide) w_5062 rfl (v := .ref (ad 17)) rfl dX3_foundCost_1 ?_
  refine x_iload_n X dX3_foundCost_4 1 rfl ?_
  refine x_iald X E.1.1 17 rfl dX3_foundCost_5 hf (fun x1 hf => ?_)
  obtain ⟨x2, hx2, hf⟩ := bn_some hf
  refine x_callS_i X (As := [.int x1]) (rest := []) (n := 1) (goodS w_5160 w_296 w_47 w_297) (met_X3_costOf l fu x1 x2 hx2) rfl rfl (by decide +kernel) ⟨by decide, by decide⟩ rfl rfl (Nat.le_of_ble_eq_true rfl) dX3_foundCost_6 ⟨by decide, by decide⟩ ?_
  exact x_iret X hr hlk rfl (Option.some.inj hf) dX3_foundCost_9
end
section
variable {p : Program} {l : Launch} {e : Env} {s : State} {m : MethodId} {args : Array Value} {below : List Frame} {meth : Method} {c : Code} {D : va_G} {kA : Nat → ClassId} {A : Nat → Prop} {Q : State → Prop} {ad : Nat → Nat}
abbrev rm_X3_costBetween : Room := { frames := 5, cells := 0, slots := 0, locals := 116 }
set_option maxRecDepth 100000 in
set_option maxHeartbeats 4000000 in
theorem met_X3_costBetween (l : Launch) (hst : l.stackTraces = false) (D : va_G) (kA : Nat → ClassId) (ad : Nat → Nat) (fu : Nat) (w : WS) (a1 : Int32) (a2 : Int32) (v : Int32) (w1 : WS) (hf : f_X3_costBetween fu w a1 a2 = some (v, w1)) (sz : Nat) : Met l yX3_costBetween (wsY yX3_costBetween cX3_costBetween 3 (some .int)) rm_X3_costBetween (va_Pc [.ref (ad 0), .int a1, .int a2] (PreG D kA (picC kA ad w) sz)) (va_Qi (fun (r : Int32) (_ : Unit) => r = v) (fun _ t => PosG D (va_A (picC kA ad w) sz) (picC kA ad w1) t) (va_A (picC kA ad w) sz)) 0 0 (va_A (picC kA ad w) sz) := by
  refine metG (own := RX3) hst (by decide +kernel) rfl (Nat.le_of_ble_eq_true rfl) rfl ?_
  intro p e s m below meth c X hr hlk E _
  unfold f_X3_costBetween at hf
  refine x_aload_n X dX3_costBetween_0 0 rfl ?_
  refine x_iload_n X dX3_costBetween_1 1 rfl ?_
  obtain ⟨w1, hw1, hf⟩ := bn_some hf
  refine x_callV_v X E (As := [.int a1]) (rest := []) (n := 1) (ws2 := (picC kA ad w1)) (goodV w_5162 w_666 s_18 w_47 w_667) (met_X3_searchFrom l E.2.2.2 D kA ad fu w a1 w1 hw1) rfl rfl (by decide +kernel) ⟨by decide, by decide⟩ 0 rfl (qc := (RX3, TX3, _)) rfl rfl rfl rfl (Nat.le_of_ble_eq_true rfl) dX3_costBetween_2 ⟨by decide, by decide⟩ ?_
  refine x_aload_n X dX3_costBetween_5 0 rfl ?_
  refine x_iload_n X dX3_costBetween_6 2 rfl ?_
  obtain ⟨x2, hx2, hf⟩ := bn_some hf
  refine x_callV_i X E (As := [.int a2]) (rest := []) (n := 1) (ws2 := (picC kA ad w1)) (goodV w_5173 w_681 s_20 w_47 w_5174) (met_X3_foundCost l E.2.2.2 D kA ad fu w1 a2 x2 hx2) rfl rfl (by decide +kernel) ⟨by decide, by decide⟩ 0 rfl (qc := (RX3, TX3, _)) rfl rfl rfl rfl (Nat.le_of_ble_eq_true rfl) dX3_costBetween_7 ⟨by decide, by decide⟩ ?_
  cases hf
  exact x_iret X hr hlk rfl rfl dX3_costBetween_10
end
section
variable {p : Program} {l : Launch} {e : Env} {s : State} {m : MethodId} {args : Array Value} {below : List Frame} {meth : Method} {c : Code} {D : va_G} {kA : Nat → ClassId} {A : Nat → Prop} {Q : State → Prop} {ad : Nat → Nat}
abbrev rm_X3_distance : Room := { frames := 7, cells := 3, slots := 18, locals := 138 }
set_option maxRecDepth 100000 in
set_option maxHeartbeats 4000000 in
theorem met_X3_distance (l : Launch) (hst : l.stackTraces = false) (D : va_G) (kA : Nat → ClassId) (ad : Nat → Nat) (fu : Nat) (w : WS) (a1 : Int32) (a2 : Int32) (o : ((Int32 × WS) ⊕ (String × WS))) (hf : f_X3_distance fu w a1 a2 = some o) (sz : Nat) : vx_Met l yX3_distance (wsY yX3_distance cX3_distance 3 (some .int)) rm_X3_distance (va_Pc [.ref (ad 0), .int a1, .int a2] (PreG D kA (picC kA ad w) sz)) (va_Qi (fun (r : Int32) (w1 : WS) => o = .inl (r, w1)) (fun w1 t => PosG D (va_A (picC kA ad w) sz) (picC kA ad w1) t) (va_A (picC kA ad w) sz)) (vx_X (fun q : String × WS => o = .inr q) (fun E q t => E = q.1 ∧ PosG D (va_A (picC kA ad w) sz) (picC kA ad q.2) t) (va_A (picC kA ad w) sz)) 3 18 (va_A (picC kA ad w) sz) := by
  refine metX (own := RX3) hst (by decide +kernel) rfl (Nat.le_of_ble_eq_true rfl) rfl ?_
  intro p e s m below meth c X hr hlk E htab
  unfold f_X3_distance at hf
  refine x_aload_n X dX3_distance_0 0 rfl ?_
  obtain ⟨o1, ho1, hf, hg⟩ := bx_one hf
  refine x_callX_v X E (As := []) (rest := []) (n := 0) (pic := picC kA ad) (w0 := w) (mc := 1) (ms := 6) (goodV w_5155 w_618 s_16 w_47 w_619) (met_X3_requireHierarchy l E.2.2.2 D kA ad fu w o1 ho1) rfl rfl (by decide +kernel) ⟨by decide, by decide⟩ 0 rfl (qc := (RX3, TX3, _)) rfl rfl rfl rfl (Nat.le_of_ble_eq_true rfl) dX3_distance_1 ⟨by decide, by decide⟩ (fun q ce q9 H1 locs1 ls ho hP hD hS hl hce hcv hcl => x_thru (pic := picC kA ad) htab hlk rfl (Option.some.inj (hg q ho)).symm hP hD hS hce hcv hcl (by decide) (by decide)) (fun w2 ho => ?_)
  have hf := hf _ ho
  refine x_aload_n X dX3_distance_4 0 rfl ?_
  refine x_iload_n X dX3_distance_5 1 rfl ?_
  obtain ⟨o3, ho3, hf, hg⟩ := bx_one hf
  refine x_callX_v X E (As := [.int a1]) (rest := []) (n := 1) (pic := picC kA ad) (w0 := w2) (mc := 1) (ms := 6) (goodV w_5106 w_387 s_1 w_47 w_388) (met_X3_requireJunction l E.2.2.2 D kA ad fu w2 a1 o3 ho3) rfl rfl (by decide +kernel) ⟨by decide, by decide⟩ 0 rfl (qc := (RX3, TX3, _)) rfl rfl rfl rfl (Nat.le_of_ble_eq_true rfl) dX3_distance_6 ⟨by decide, by decide⟩ (fun q ce q9 H1 locs1 ls ho hP hD hS hl hce hcv hcl => x_thru (pic := picC kA ad) htab hlk rfl (Option.some.inj (hg q ho)).symm hP hD hS hce hcv hcl (by decide) (by decide)) (fun w4 ho => ?_)
  have hf := hf _ ho
  refine x_aload_n X dX3_distance_9 0 rfl ?_
  refine x_iload_n X dX3_distance_10 2 rfl ?_
  obtain ⟨o5, ho5, hf, hg⟩ := bx_one hf
  refine x_callX_v X E (As := [.int a2]) (rest := []) (n := 1) (pic := picC kA ad) (w0 := w4) (mc := 1) (ms := 6) (goodV w_5106 w_387 s_1 w_47 w_388) (met_X3_requireJunction l E.2.2.2 D kA ad fu w4 a2 o5 ho5) rfl rfl (by decide +kernel) ⟨by decide, by decide⟩ 0 rfl (qc := (RX3, TX3, _)) rfl rfl rfl rfl (Nat.le_of_ble_eq_true rfl) dX3_distance_11 ⟨by decide, by decide⟩ (fun q ce q9 H1 locs1 ls ho hP hD hS hl hce hcv hcl => x_thru (pic := picC kA ad) htab hlk rfl (Option.some.inj (hg q ho)).symm hP hD hS hce hcv hcl (by decide) (by decide)) (fun w6 ho => ?_)
  have hf := hf _ ho
  refine x_aload_n X dX3_distance_14 0 rfl ?_
  refine x_iload_n X dX3_distance_15 1 rfl ?_
  refine x_iload_n X dX3_distance_16 2 rfl ?_
  obtain ⟨x8, w7, hx8, hf⟩ := bn2_some hf
  refine x_callV_i X E (As := [.int a1, .int a2]) (rest := []) (n := 2) (ws2 := (picC kA ad w7)) (goodV w_5161 w_662 s_17 w_47 w_663) (met_X3_costBetween l E.2.2.2 D kA ad fu w6 a1 a2 x8 w7 hx8) rfl rfl (by decide +kernel) ⟨by decide, by decide⟩ 0 rfl (qc := (RX3, TX3, _)) rfl rfl rfl rfl (Nat.le_of_ble_eq_true rfl) dX3_distance_17 ⟨by decide, by decide⟩ ?_
  exact x_iretX X hr hlk rfl (pic := picC kA ad) (Option.some.inj hf) (by decide) (by decide) dX3_distance_20
end
section
variable {p : Program} {l : Launch} {e : Env} {s : State} {m : MethodId} {args : Array Value} {below : List Frame} {meth : Method} {c : Code} {D : va_G} {kA : Nat → ClassId} {A : Nat → Prop} {Q : State → Prop} {ad : Nat → Nat}
abbrev rm_X3_distanceBehind : Room := { frames := 7, cells := 3, slots := 18, locals := 111 }
set_option maxRecDepth 100000 in
set_option maxHeartbeats 4000000 in
theorem met_X3_distanceBehind (l : Launch) (hst : l.stackTraces = false) (D : va_G) (kA : Nat → ClassId) (ad : Nat → Nat) (fu : Nat) (w : WS) (a1 : Int32) (a2 : Int32) (o : ((Int32 × WS) ⊕ (String × WS))) (hf : f_X3_distanceBehind fu w a1 a2 = some o) (sz : Nat) : vx_Met l yX3_distanceBehind (wsY yX3_distanceBehind cX3_distanceBehind 3 (some .int)) rm_X3_distanceBehind (va_Pc [.ref (ad 0), .int a1, .int a2] (PreG D kA (picC kA ad w) sz)) (va_Qi (fun (r : Int32) (w1 : WS) => o = .inl (r, w1)) (fun w1 t => PosG D (va_A (picC kA ad w) sz) (picC kA ad w1) t) (va_A (picC kA ad w) sz)) (vx_X (fun q : String × WS => o = .inr q) (fun E q t => E = q.1 ∧ PosG D (va_A (picC kA ad w) sz) (picC kA ad q.2) t) (va_A (picC kA ad w) sz)) 3 18 (va_A (picC kA ad w) sz) := by
  refine metX (own := RX3) hst (by decide +kernel) rfl (Nat.le_of_ble_eq_true rfl) rfl ?_
  intro p e s m below meth c X hr hlk E htab
  unfold f_X3_distanceBehind at hf
  refine x_aload_n X dX3_distanceBehind_0 0 rfl ?_
  obtain ⟨o1, ho1, hf, hg⟩ := bx_one hf
  refine x_callX_v X E (As := []) (rest := []) (n := 0) (pic := picC kA ad) (w0 := w) (mc := 1) (ms := 6) (goodV w_5155 w_618 s_16 w_47 w_619) (met_X3_requireHierarchy l E.2.2.2 D kA ad fu w o1 ho1) rfl rfl (by decide +kernel) ⟨by decide, by decide⟩ 0 rfl (qc := (RX3, TX3, _)) rfl rfl rfl rfl (Nat.le_of_ble_eq_true rfl) dX3_distanceBehind_1 ⟨by decide, by decide⟩ (fun q ce q9 H1 locs1 ls ho hP hD hS hl hce hcv hcl => x_thru (pic := picC kA ad) htab hlk rfl (Option.some.inj (hg q ho)).symm hP hD hS hce hcv hcl (by decide) (by decide)) (fun w2 ho => ?_)
  have hf := hf _ ho
  refine x_aload_n X dX3_distanceBehind_4 0 rfl ?_
  refine x_iload_n X dX3_distanceBehind_5 1 rfl ?_
  obtain ⟨o3, ho3, hf, hg⟩ := bx_one hf
  refine x_callX_v X E (As := [.int a1]) (rest := []) (n := 1) (pic := picC kA ad) (w0 := w2) (mc := 1) (ms := 6) (goodV w_5117 w_443 s_3 w_47 w_444) (met_X3_requireRoad l E.2.2.2 D kA ad fu w2 a1 o3 ho3) rfl rfl (by decide +kernel) ⟨by decide, by decide⟩ 0 rfl (qc := (RX3, TX3, _)) rfl rfl rfl rfl (Nat.le_of_ble_eq_true rfl) dX3_distanceBehind_6 ⟨by decide, by decide⟩ (fun q ce q9 H1 locs1 ls ho hP hD hS hl hce hcv hcl => x_thru (pic := picC kA ad) htab hlk rfl (Option.some.inj (hg q ho)).symm hP hD hS hce hcv hcl (by decide) (by decide)) (fun w4 ho => ?_)
  have hf := hf _ ho
  refine x_aload_n X dX3_distanceBehind_9 0 rfl ?_
  refine x_iload_n X dX3_distanceBehind_10 2 rfl ?_
  obtain ⟨o5, ho5, hf, hg⟩ := bx_one hf
  refine x_callX_v X E (As := [.int a2]) (rest := []) (n := 1) (pic := picC kA ad) (w0 := w4) (mc := 1) (ms := 6) (goodV w_5106 w_387 s_1 w_47 w_388) (met_X3_requireJunction l E.2.2.2 D kA ad fu w4 a2 o5 ho5) rfl rfl (by decide +kernel) ⟨by decide, by decide⟩ 0 rfl (qc := (RX3, TX3, _)) rfl rfl rfl rfl (Nat.le_of_ble_eq_true rfl) dX3_distanceBehind_11 ⟨by decide, by decide⟩ (fun q ce q9 H1 locs1 ls ho hP hD hS hl hce hcv hcl => x_thru (pic := picC kA ad) htab hlk rfl (Option.some.inj (hg q ho)).symm hP hD hS hce hcv hcl (by decide) (by decide)) (fun w6 ho => ?_)
  have hf := hf _ ho
  refine x_aload_n X dX3_distanceBehind_14 0 rfl ?_
  refine x_get X E.1.1 (T := TX3) (C := RX3) inW3 0 rfl rfl 4 (by decide) w_216 rfl (v := .ref (ad 5)) rfl dX3_distanceBehind_15 ?_
  refine x_ldc X (v := 536870912) w_5089 dX3_distanceBehind_18 ?_
  refine x_fill X E w_5163 w_80 w_49 w_81 (by decide) (by decide) 5 rfl (by decide) dX3_distanceBehind_20 ⟨by decide, by decide⟩ hf (picC kA ad) (setFC_5 kA ad _ _) (fun w7 hf => ?_)
  refine x_aload_n X dX3_distanceBehind_23 0 rfl ?_
  refine x_get X E.1.1 (T := TX3) (C := RX3) inW3 0 rfl rfl 0 (by decide) w_212 rfl (v := .ref (ad 1)) rfl dX3_distanceBehind_24 ?_
  refine x_get X E.1.1 (T := TX2) (C := RX2) inW2 1 rfl rfl 8 (by decide) w_5010 rfl (v := .long (w7.2 1 8)) rfl dX3_distanceBehind_27 ?_
  refine x_nmL hf (fun x8 hf => ?_)
  refine x_iload_n X dX3_distanceBehind_30 1 rfl ?_
  obtain ⟨x9, hx9, hf⟩ := bn_some hf
  refine x_callS_i X (As := [.long x8, .int a1]) (rest := []) (n := 2) (goodS w_5085 w_274 w_47 w_275) (met_X3_has l fu x8 a1 x9 hx9) rfl rfl (by decide +kernel) ⟨by decide, by decide⟩ rfl rfl (Nat.le_of_ble_eq_true rfl) dX3_distanceBehind_31 ⟨by decide, by decide⟩ ?_
  refine x_if_eq X (tgt := 44) dX3_distanceBehind_34 (by decide) hf (fun hf => ?_) (fun hf => ?_)
  · refine x_aload_n X dX3_distanceBehind_44 0 rfl ?_
    obtain ⟨w10, hw10, hf⟩ := bn_some hf
    refine x_callV_v X E (As := []) (rest := []) (n := 0) (ws2 := (picC kA ad w10)) (goodV w_5165 w_5166 s_502 w_47 w_5167) (met_X3_spreadToJunctions l E.2.2.2 D kA ad fu w7 w10 hw10) rfl rfl (by decide +kernel) ⟨by decide, by decide⟩ 0 rfl (qc := (RX3, TX3, _)) rfl rfl rfl rfl (Nat.le_of_ble_eq_true rfl) dX3_distanceBehind_45 ⟨by decide, by decide⟩ ?_
    refine x_aload_n X dX3_distanceBehind_48 0 rfl ?_
    refine x_iload_n X dX3_distanceBehind_49 2 rfl ?_
    obtain ⟨x11, hx11, hf⟩ := bn_some hf
    refine x_callV_i X E (As := [.int a2]) (rest := []) (n := 1) (ws2 := (picC kA ad w10)) (goodV w_5173 w_681 s_20 w_47 w_5174) (met_X3_foundCost l E.2.2.2 D kA ad fu w10 a2 x11 hx11) rfl rfl (by decide +kernel) ⟨by decide, by decide⟩ 0 rfl (qc := (RX3, TX3, _)) rfl rfl rfl rfl (Nat.le_of_ble_eq_true rfl) dX3_distanceBehind_50 ⟨by decide, by decide⟩ ?_
    exact x_iretX X hr hlk rfl (pic := picC kA ad) (Option.some.inj hf) (by decide) (by decide) dX3_distanceBehind_53
  · refine x_aload_n X dX3_distanceBehind_37 0 rfl ?_
    refine x_get X E.1.1 (T := TX3) (C := RX3) inW3 0 rfl rfl 4 (by decide) w_216 rfl (v := .ref (ad 5)) rfl dX3_distanceBehind_38 ?_
    refine x_iload_n X dX3_distanceBehind_41 1 rfl ?_
    refine x_iconst X (v := 0) dX3_distanceBehind_42 (by decide) ?_
    refine x_iast X E.1.1 5 rfl dX3_distanceBehind_43 hf (picC kA ad) (setC_5 kA ad _ _ _) (fun w12 hf => ?_)
    refine x_aload_n X dX3_distanceBehind_44 0 rfl ?_
    obtain ⟨w13, hw13, hf⟩ := bn_some hf
    refine x_callV_v X E (As := []) (rest := []) (n := 0) (ws2 := (picC kA ad w13)) (goodV w_5165 w_5166 s_502 w_47 w_5167) (met_X3_spreadToJunctions l E.2.2.2 D kA ad fu w12 w13 hw13) rfl rfl (by decide +kernel) ⟨by decide, by decide⟩ 0 rfl (qc := (RX3, TX3, _)) rfl rfl rfl rfl (Nat.le_of_ble_eq_true rfl) dX3_distanceBehind_45 ⟨by decide, by decide⟩ ?_
    refine x_aload_n X dX3_distanceBehind_48 0 rfl ?_
    refine x_iload_n X dX3_distanceBehind_49 2 rfl ?_
    obtain ⟨x14, hx14, hf⟩ := bn_some hf
    refine x_callV_i X E (As := [.int a2]) (rest := []) (n := 1) (ws2 := (picC kA ad w13)) (goodV w_5173 w_681 s_20 w_47 w_5174) (met_X3_foundCost l E.2.2.2 D kA ad fu w13 a2 x14 hx14) rfl rfl (by decide +kernel) ⟨by decide, by decide⟩ 0 rfl (qc := (RX3, TX3, _)) rfl rfl rfl rfl (Nat.le_of_ble_eq_true rfl) dX3_distanceBehind_50 ⟨by decide, by decide⟩ ?_
    exact x_iretX X hr hlk rfl (pic := picC kA ad) (Option.some.inj hf) (by decide) (by decide) dX3_distanceBehind_53
end
section
variable {p : Program} {l : Launch} {e : Env} {s : State} {m : MethodId} {args : Array Value} {below : List Frame} {meth : Method} {c : Code} {D : va_G} {kA : Nat → ClassId} {A : Nat → Prop} {Q : State → Prop} {ad : Nat → Nat}
abbrev rm_X3_searchTo : Room := { frames := 3, cells := 0, slots := 0, locals := 70 }
set_option maxRecDepth 100000 in
set_option maxHeartbeats 4000000 in
theorem lp_X3_searchTo_30 (X : CX p m c cX3_searchTo 5 s args RX3) (E : EX l s D kA A) (fu : Nat) (y2 : Int64) : ∀ (n : Nat) (y4 : Int32) (w : WS) (rw : WS), iter (fun q => bd_X3_searchTo_30 fu y2 q.1 q.2) n (y4, w) = some (rw) → CS p l e rm_X3_searchTo s m args below meth c D A 5 0 0 Q (picC kA ad rw) 65 [(0, .ref (ad 0))] [] → CS p l e rm_X3_searchTo s m args below meth c D A 5 0 0 Q (picC kA ad w) 30 [(0, .ref (ad 0)), (2, .long y2), (4, .int y4)] [] := by
  intro n
  induction n with
  | zero =>
    intro y4 w rw hit kk
    exact (iter_0 hit).elim
  | succ n ih =>
    intro y4 w rw hit kk
    obtain ⟨o, h1, hit⟩ := iter_one hit
    have hf : bd_X3_searchTo_30 fu y2 y4 w = some o := h1
    unfold bd_X3_searchTo_30 at hf
    refine x_iload X dX3_searchTo_30 2 rfl ?_
    refine x_aload_n X dX3_searchTo_32 0 rfl ?_
    refine x_get X E.1.1 (T := TX3) (C := RX3) inW3 0 rfl rfl 0 (by decide) w_212 rfl (v := .ref (ad 1)) rfl dX3_searchTo_33 ?_
    refine x_get X E.1.1 (T := TX2) (C := RX2) inW2 1 rfl rfl 1 (by decide) w_5003 rfl (v := .int (w.1 1 1)) rfl dX3_searchTo_36 ?_
    refine x_nmI hf (fun x1 hf => ?_)
    refine x_icmp_ge X (tgt := 65) dX3_searchTo_39 (by decide) hf (fun hf => ?_) (fun hf => ?_)
    · cases hf
      cases hit
      refine x_lpick (lv2 := [(0, .ref (ad 0))]) [0] rfl ?_
      exact kk
    · refine x_lload_n X dX3_searchTo_42 1 rfl ?_
      refine x_iload X dX3_searchTo_43 2 rfl ?_
      obtain ⟨x2, hx2, hf⟩ := bn_some hf
      refine x_callS_i X (As := [.long y2, .int y4]) (rest := []) (n := 2) (goodS w_5085 w_274 w_47 w_275) (met_X3_has l fu y2 y4 x2 hx2) rfl rfl (by decide +kernel) ⟨by decide, by decide⟩ rfl rfl (Nat.le_of_ble_eq_true rfl) dX3_searchTo_45 ⟨by decide, by decide⟩ ?_
      refine x_if_eq X (tgt := 59) dX3_searchTo_48 (by decide) hf (fun hf => ?_) (fun hf => ?_)
      · refine x_iinc X dX3_searchTo_59 2 rfl (by decide) (y4 + 1) rfl hf (fun x3 => [(4, .int x3), (0, .ref (ad 0)), (2, .long y2)]) (fun _ => rfl) (fun x3 hf => ?_)
        refine x_goto X (tgt := 30) dX3_searchTo_62 (by decide) ?_
        cases hf
        refine x_lpick (lv2 := [(0, .ref (ad 0)), (2, .long y2), (4, .int x3)]) [1, 2, 0] rfl ?_
        exact ih _ _ _ hit kk
      · refine x_aload_n X dX3_searchTo_51 0 rfl ?_
        refine x_get X E.1.1 (T := TX3) (C := RX3) inW3 0 rfl rfl 4 (by decide) w_216 rfl (v := .ref (ad 5)) rfl dX3_searchTo_52 ?_
        refine x_iload X dX3_searchTo_55 2 rfl ?_
        refine x_iconst X (v := 0) dX3_searchTo_57 (by decide) ?_
        refine x_iast X E.1.1 5 rfl dX3_searchTo_58 hf (picC kA ad) (setC_5 kA ad _ _ _) (fun w4 hf => ?_)
        refine x_iinc X dX3_searchTo_59 2 rfl (by decide) (y4 + 1) rfl hf (fun x5 => [(4, .int x5), (0, .ref (ad 0)), (2, .long y2)]) (fun _ => rfl) (fun x5 hf => ?_)
        refine x_goto X (tgt := 30) dX3_searchTo_62 (by decide) ?_
        cases hf
        refine x_lpick (lv2 := [(0, .ref (ad 0)), (2, .long y2), (4, .int x5)]) [1, 2, 0] rfl ?_
        exact ih _ _ _ hit kk
set_option maxRecDepth 100000 in
set_option maxHeartbeats 4000000 in
theorem met_X3_searchTo (l : Launch) (hst : l.stackTraces = false) (D : va_G) (kA : Nat → ClassId) (ad : Nat → Nat) (fu : Nat) (w : WS) (a1 : Int32) (w1 : WS) (hf : f_X3_searchTo fu w a1 = some w1) (sz : Nat) : Met l yX3_searchTo (wsY yX3_searchTo cX3_searchTo 5 none) rm_X3_searchTo (va_Pc [.ref (ad 0), .int a1] (PreG D kA (picC kA ad w) sz)) (va_Qv (fun (_ : Unit) => True) (fun _ t => PosG D (va_A (picC kA ad w) sz) (picC kA ad w1) t) (va_A (picC kA ad w) sz)) 0 0 (va_A (picC kA ad w) sz) := by
  refine metG (own := RX3) hst (by decide +kernel) rfl (Nat.le_of_ble_eq_true rfl) rfl ?_
  intro p e s m below meth c X hr hlk E _
  unfold f_X3_searchTo at hf
  refine x_aload_n X dX3_searchTo_0 0 rfl ?_
  refine x_get X E.1.1 (T := TX3) (C := RX3) inW3 0 rfl rfl 4 (by decide) w_216 rfl (v := .ref (ad 5)) rfl dX3_searchTo_1 ?_
  refine x_ldc X (v := 536870912) w_5089 dX3_searchTo_4 ?_
  refine x_fill X E w_5163 w_80 w_49 w_81 (by decide) (by decide) 5 rfl (by decide) dX3_searchTo_6 ⟨by decide, by decide⟩ hf (picC kA ad) (setFC_5 kA ad _ _) (fun w1 hf => ?_)
  refine x_aload_n X dX3_searchTo_9 0 rfl ?_
  refine x_get X E.1.1 (T := TX3) (C := RX3) inW3 0 rfl rfl 0 (by decide) w_212 rfl (v := .ref (ad 1)) rfl dX3_searchTo_10 ?_
  refine x_get X E.1.1 (T := TX2) (C := RX2) inW2 1 rfl rfl 7 (by decide) w_5009 rfl (v := .ref (ad 14)) rfl dX3_searchTo_13 ?_
  refine x_iload_n X dX3_searchTo_16 1 rfl ?_
  refine x_lald X E.1.1 14 rfl dX3_searchTo_17 hf (fun x2 hf => ?_)
  refine x_aload_n X dX3_searchTo_18 0 rfl ?_
  refine x_get X E.1.1 (T := TX3) (C := RX3) inW3 0 rfl rfl 0 (by decide) w_212 rfl (v := .ref (ad 1)) rfl dX3_searchTo_19 ?_
  refine x_get X E.1.1 (T := TX2) (C := RX2) inW2 1 rfl rfl 8 (by decide) w_5010 rfl (v := .long (w1.2 1 8)) rfl dX3_searchTo_22 ?_
  refine x_nmL hf (fun x3 hf => ?_)
  refine x_land X dX3_searchTo_25 ?_
  refine x_nmL hf (fun x4 hf => ?_)
  refine x_lstore_n X (lv2 := [(2, .long x4), (0, .ref (ad 0)), (1, .int a1)]) dX3_searchTo_26 (by decide) rfl ?_
  refine x_iconst X (v := 0) dX3_searchTo_27 (by decide) ?_
  refine x_istore X (lv2 := [(4, .int 0), (2, .long x4), (0, .ref (ad 0)), (1, .int a1)]) dX3_searchTo_28 (by decide) rfl ?_
  refine x_lpick (lv2 := [(0, .ref (ad 0)), (2, .long x4), (4, .int 0)]) [2, 1, 0] rfl ?_
  obtain ⟨w5, h6, hf⟩ := bn_some hf
  refine lp_X3_searchTo_30 X E fu x4 fu (0 : Int32) w1 w5 h6 ?_
  refine x_aload_n X dX3_searchTo_65 0 rfl ?_
  refine x_get X E.1.1 (T := TX3) (C := RX3) inW3 0 rfl rfl 1 (by decide) w_213 rfl (v := .ref (ad 2)) rfl dX3_searchTo_66 ?_
  refine x_aload_n X dX3_searchTo_69 0 rfl ?_
  refine x_get X E.1.1 (T := TX3) (C := RX3) inW3 0 rfl rfl 4 (by decide) w_216 rfl (v := .ref (ad 5)) rfl dX3_searchTo_70 ?_
  obtain ⟨w7, hw7, hf⟩ := bn_some hf
  refine x_callV_v X E (As := [.ref (ad 5)]) (rest := []) (n := 1) (ws2 := (picC kA ad w7)) (goodV w_5176 w_707 w_708 w_50 w_5177) (met_X0_spreadBackward l E.2.2.2 D kA ad fu w5 w7 hw7) rfl rfl (by decide +kernel) ⟨by decide, by decide⟩ 2 rfl (qc := (RX0, TX0, _)) rfl rfl rfl rfl (Nat.le_of_ble_eq_true rfl) dX3_searchTo_73 ⟨by decide, by decide⟩ ?_
  cases hf
  exact x_vret X hr hlk rfl dX3_searchTo_76
end
section
variable {p : Program} {l : Launch} {e : Env} {s : State} {m : MethodId} {args : Array Value} {below : List Frame} {meth : Method} {c : Code} {D : va_G} {kA : Nat → ClassId} {A : Nat → Prop} {Q : State → Prop} {ad : Nat → Nat}
abbrev rm_X3_bestFirstRoad : Room := { frames := 1, cells := 0, slots := 0, locals := 22 }
set_option maxRecDepth 100000 in
set_option maxHeartbeats 4000000 in
theorem lp_X3_bestFirstRoad_28 (X : CX p m c cX3_bestFirstRoad 8 s args RX3) (E : EX l s D kA A) (fu : Nat) (w : WS) (y2 : Int64) : ∀ (n : Nat) (y4 : Int32) (y5 : Int32) (y6 : Int32) (r4 : Int32), iter (fun q => bd_X3_bestFirstRoad_28 fu w y2 q.1 q.2.1 q.2.2) n (y4, y5, y6) = some (r4) → CS p l e rm_X3_bestFirstRoad s m args below meth c D A 8 0 0 Q (picC kA ad w) 89 [(4, .int r4)] [] → CS p l e rm_X3_bestFirstRoad s m args below meth c D A 8 0 0 Q (picC kA ad w) 28 [(0, .ref (ad 0)), (2, .long y2), (4, .int y4), (5, .int y5), (6, .int y6)] [] := by
  intro n
  induction n with
  | zero =>
    intro y4 y5 y6 r4 hit kk
    exact (iter_0 hit).elim
  | succ n ih =>
    intro y4 y5 y6 r4 hit kk
    obtain ⟨o, h1, hit⟩ := iter_one hit
    have hf : bd_X3_bestFirstRoad_28 fu w y2 y4 y5 y6 = some o := h1
    unfold bd_X3_bestFirstRoad_28 at hf
    refine x_iload X dX3_bestFirstRoad_28 4 rfl ?_
    refine x_aload_n X dX3_bestFirstRoad_30 0 rfl ?_
    refine x_get X E.1.1 (T := TX3) (C := RX3) inW3 0 rfl rfl 0 (by decide) w_212 rfl (v := .ref (ad 1)) rfl dX3_bestFirstRoad_31 ?_
    refine x_get X E.1.1 (T := TX2) (C := RX2) inW2 1 rfl rfl 1 (by decide) w_5003 rfl (v := .int (w.1 1 1)) rfl dX3_bestFirstRoad_34 ?_
    refine x_nmI hf (fun x1 hf => ?_)
    refine x_icmp_ge X (tgt := 89) dX3_bestFirstRoad_37 (by decide) hf (fun hf => ?_) (fun hf => ?_)
    · cases hf
      cases hit
      refine x_lpick (lv2 := [(4, .int y4)]) [2] rfl ?_
      exact kk
    · refine x_aload_n X dX3_bestFirstRoad_40 0 rfl ?_
      refine x_get X E.1.1 (T := TX3) (C := RX3) inW3 0 rfl rfl 0 (by decide) w_212 rfl (v := .ref (ad 1)) rfl dX3_bestFirstRoad_41 ?_
      refine x_iload X dX3_bestFirstRoad_44 4 rfl ?_
      obtain ⟨x2, hx2, hf⟩ := bn_some hf
      refine x_callV_i X E (As := [.int y6]) (rest := []) (n := 1) (ws2 := (picC kA ad w)) (goodV w_5164 w_475 w_476 w_48 w_477) (met_X2_roadLength l E.2.2.2 D kA ad fu w y6 x2 hx2) rfl rfl (by decide +kernel) ⟨by decide, by decide⟩ 1 rfl (qc := (RX2, TX2, _)) rfl rfl rfl rfl (Nat.le_of_ble_eq_true rfl) dX3_bestFirstRoad_46 ⟨by decide, by decide⟩ ?_
      refine x_aload_n X dX3_bestFirstRoad_49 0 rfl ?_
      refine x_get X E.1.1 (T := TX3) (C := RX3) inW3 0 rfl rfl 4 (by decide) w_216 rfl (v := .ref (ad 5)) rfl dX3_bestFirstRoad_50 ?_
      refine x_iload X dX3_bestFirstRoad_53 4 rfl ?_
      refine x_iald X E.1.1 5 rfl dX3_bestFirstRoad_55 hf (fun x3 hf => ?_)
      refine x_iadd X dX3_bestFirstRoad_56 ?_
      refine x_nmI hf (fun x4 hf => ?_)
      refine x_istore X (lv2 := [(7, .int x4), (0, .ref (ad 0)), (2, .long y2), (4, .int y4), (5, .int y5), (6, .int y6)]) dX3_bestFirstRoad_57 (by decide) rfl ?_
      refine x_lload_n X dX3_bestFirstRoad_59 2 rfl ?_
      refine x_iload X dX3_bestFirstRoad_60 5 rfl ?_
      obtain ⟨x5, hx5, hf⟩ := bn_some hf
      refine x_callS_i X (As := [.long y2, .int y6]) (rest := []) (n := 2) (goodS w_5085 w_274 w_47 w_275) (met_X3_has l fu y2 y6 x5 hx5) rfl rfl (by decide +kernel) ⟨by decide, by decide⟩ rfl rfl (Nat.le_of_ble_eq_true rfl) dX3_bestFirstRoad_62 ⟨by decide, by decide⟩ ?_
      refine x_if_eq X (tgt := 83) dX3_bestFirstRoad_65 (by decide) hf (fun hf => ?_) (fun hf => ?_)
      · refine x_iinc X dX3_bestFirstRoad_83 5 rfl (by decide) (y6 + 1) rfl hf (fun x6 => [(6, .int x6), (7, .int x4), (0, .ref (ad 0)), (2, .long y2), (4, .int y4), (5, .int y5)]) (fun _ => rfl) (fun x6 hf => ?_)
        refine x_goto X (tgt := 28) dX3_bestFirstRoad_86 (by decide) ?_
        cases hf
        refine x_lpick (lv2 := [(0, .ref (ad 0)), (2, .long y2), (4, .int y4), (5, .int y5), (6, .int x6)]) [2, 3, 4, 5, 0] rfl ?_
        exact ih _ _ _ _ hit kk
      · refine x_iload X dX3_bestFirstRoad_68 0 rfl ?_
        refine x_iload X dX3_bestFirstRoad_70 4 rfl ?_
        refine x_icmp_ge X (tgt := 83) dX3_bestFirstRoad_72 (by decide) hf (fun hf => ?_) (fun hf => ?_)
        · refine x_iinc X dX3_bestFirstRoad_83 5 rfl (by decide) (y6 + 1) rfl hf (fun x7 => [(6, .int x7), (7, .int x4), (0, .ref (ad 0)), (2, .long y2), (4, .int y4), (5, .int y5)]) (fun _ => rfl) (fun x7 hf => ?_)
          refine x_goto X (tgt := 28) dX3_bestFirstRoad_86 (by decide) ?_
          cases hf
          refine x_lpick (lv2 := [(0, .ref (ad 0)), (2, .long y2), (4, .int y4), (5, .int y5), (6, .int x7)]) [2, 3, 4, 5, 0] rfl ?_
          exact ih _ _ _ _ hit kk
        · refine x_iload X dX3_bestFirstRoad_75 5 rfl ?_
          refine x_istore X (lv2 := [(4, .int y6), (7, .int x4), (0, .ref (ad 0)), (2, .long y2), (5, .int y5), (6, .int y6)]) dX3_bestFirstRoad_77 (by decide) rfl ?_
          refine x_iload X dX3_bestFirstRoad_79 1 rfl ?_
          refine x_istore X (lv2 := [(5, .int x4), (4, .int y6), (7, .int x4), (0, .ref (ad 0)), (2, .long y2), (6, .int y6)]) dX3_bestFirstRoad_81 (by decide) rfl ?_
          refine x_iinc X dX3_bestFirstRoad_83 5 rfl (by decide) (y6 + 1) rfl hf (fun x8 => [(6, .int x8), (5, .int x4), (4, .int y6), (7, .int x4), (0, .ref (ad 0)), (2, .long y2)]) (fun _ => rfl) (fun x8 hf => ?_)
          refine x_goto X (tgt := 28) dX3_bestFirstRoad_86 (by decide) ?_
          cases hf
          refine x_lpick (lv2 := [(0, .ref (ad 0)), (2, .long y2), (4, .int y6), (5, .int x4), (6, .int x8)]) [4, 5, 2, 1, 0] rfl ?_
          exact ih _ _ _ _ hit kk
set_option maxRecDepth 100000 in
set_option maxHeartbeats 4000000 in
theorem met_X3_bestFirstRoad (l : Launch) (hst : l.stackTraces = false) (D : va_G) (kA : Nat → ClassId) (ad : Nat → Nat) (fu : Nat) (w : WS) (a1 : Int32) (v : Int32) (hf : f_X3_bestFirstRoad fu w a1 = some v) (sz : Nat) : Met l yX3_bestFirstRoad (wsY yX3_bestFirstRoad cX3_bestFirstRoad 8 (some .int)) rm_X3_bestFirstRoad (va_Pc [.ref (ad 0), .int a1] (PreG D kA (picC kA ad w) sz)) (va_Qi (fun (r : Int32) (_ : Unit) => r = v) (fun _ t => PosG D (va_A (picC kA ad w) sz) (picC kA ad w) t) (va_A (picC kA ad w) sz)) 0 0 (va_A (picC kA ad w) sz) := by
  refine metG (own := RX3) hst (by decide +kernel) rfl (Nat.le_of_ble_eq_true rfl) rfl ?_
  intro p e s m below meth c X hr hlk E _
  unfold f_X3_bestFirstRoad at hf
  refine x_aload_n X dX3_bestFirstRoad_0 0 rfl ?_
  refine x_get X E.1.1 (T := TX3) (C := RX3) inW3 0 rfl rfl 0 (by decide) w_212 rfl (v := .ref (ad 1)) rfl dX3_bestFirstRoad_1 ?_
  refine x_get X E.1.1 (T := TX2) (C := RX2) inW2 1 rfl rfl 6 (by decide) w_5008 rfl (v := .ref (ad 13)) rfl dX3_bestFirstRoad_4 ?_
  refine x_iload_n X dX3_bestFirstRoad_7 1 rfl ?_
  refine x_lald X E.1.1 13 rfl dX3_bestFirstRoad_8 hf (fun x1 hf => ?_)
  refine x_aload_n X dX3_bestFirstRoad_9 0 rfl ?_
  refine x_get X E.1.1 (T := TX3) (C := RX3) inW3 0 rfl rfl 0 (by decide) w_212 rfl (v := .ref (ad 1)) rfl dX3_bestFirstRoad_10 ?_
  refine x_get X E.1.1 (T := TX2) (C := RX2) inW2 1 rfl rfl 8 (by decide) w_5010 rfl (v := .long (w.2 1 8)) rfl dX3_bestFirstRoad_13 ?_
  refine x_nmL hf (fun x2 hf => ?_)
  refine x_land X dX3_bestFirstRoad_16 ?_
  refine x_nmL hf (fun x3 hf => ?_)
  refine x_lstore_n X (lv2 := [(2, .long x3), (0, .ref (ad 0)), (1, .int a1)]) dX3_bestFirstRoad_17 (by decide) rfl ?_
  refine x_iconst X (v := (-1)) dX3_bestFirstRoad_18 (by decide) ?_
  refine x_istore X (lv2 := [(4, .int (-1)), (2, .long x3), (0, .ref (ad 0)), (1, .int a1)]) dX3_bestFirstRoad_19 (by decide) rfl ?_
  refine x_ldc X (v := 536870912) w_5089 dX3_bestFirstRoad_21 ?_
  refine x_istore X (lv2 := [(5, .int 536870912), (4, .int (-1)), (2, .long x3), (0, .ref (ad 0)), (1, .int a1)]) dX3_bestFirstRoad_23 (by decide) rfl ?_
  refine x_iconst X (v := 0) dX3_bestFirstRoad_25 (by decide) ?_
  refine x_istore X (lv2 := [(6, .int 0), (5, .int 536870912), (4, .int (-1)), (2, .long x3), (0, .ref (ad 0)), (1, .int a1)]) dX3_bestFirstRoad_26 (by decide) rfl ?_
  refine x_lpick (lv2 := [(0, .ref (ad 0)), (2, .long x3), (4, .int (-1)), (5, .int 536870912), (6, .int 0)]) [4, 3, 2, 1, 0] rfl ?_
  obtain ⟨x4, h5, hf⟩ := bn_some hf
  refine lp_X3_bestFirstRoad_28 X E fu w x3 fu ((-1) : Int32) (536870912 : Int32) (0 : Int32) x4 h5 ?_
  refine x_iload X dX3_bestFirstRoad_89 0 rfl ?_
  exact x_iret X hr hlk rfl (Option.some.inj hf) dX3_bestFirstRoad_91
end
section
variable {p : Program} {l : Launch} {e : Env} {s : State} {m : MethodId} {args : Array Value} {below : List Frame} {meth : Method} {c : Code} {D : va_G} {kA : Nat → ClassId} {A : Nat → Prop} {Q : State → Prop} {ad : Nat → Nat}
abbrev rm_X3_bestNextRoad : Room := { frames := 3, cells := 0, slots := 0, locals := 67 }
set_option maxRecDepth 100000 in
set_option maxHeartbeats 4000000 in
theorem lp_X3_bestNextRoad_12 (X : CX p m c cX3_bestNextRoad 5 s args RX3) (E : EX l s D kA A) (fu : Nat) (w : WS) (y1 : Int32) (y2 : Int64) : ∀ (n : Nat) (y4 : Int32) (out : (Int32) ⊕ (Unit)), iter (fun q => bd_X3_bestNextRoad_12 fu w y1 y2 q) n (y4) = some out → (∀ (r : Int32), out = .inl r → CS p l e rm_X3_bestNextRoad s m args below meth c D A 5 0 0 Q (picC kA ad w) 60 [(4, .int r)] []) ∧ (∀ (r : Unit), out = .inr r → CS p l e rm_X3_bestNextRoad s m args below meth c D A 5 0 0 Q (picC kA ad w) 69 [] []) → CS p l e rm_X3_bestNextRoad s m args below meth c D A 5 0 0 Q (picC kA ad w) 12 [(0, .ref (ad 0)), (1, .int y1), (2, .long y2), (4, .int y4)] [] := by
  intro n
  induction n with
  | zero =>
    intro y4 out hit kk
    exact (iter_0 hit).elim
  | succ n ih =>
    intro y4 out hit kk
    obtain ⟨o, h1, hit⟩ := iter_one hit
    have hf : bd_X3_bestNextRoad_12 fu w y1 y2 y4 = some o := h1
    unfold bd_X3_bestNextRoad_12 at hf
    refine x_iload X dX3_bestNextRoad_12 3 rfl ?_
    refine x_aload_n X dX3_bestNextRoad_14 0 rfl ?_
    refine x_get X E.1.1 (T := TX3) (C := RX3) inW3 0 rfl rfl 0 (by decide) w_212 rfl (v := .ref (ad 1)) rfl dX3_bestNextRoad_15 ?_
    refine x_get X E.1.1 (T := TX2) (C := RX2) inW2 1 rfl rfl 1 (by decide) w_5003 rfl (v := .int (w.1 1 1)) rfl dX3_bestNextRoad_18 ?_
    refine x_nmI hf (fun x1 hf => ?_)
    refine x_icmp_ge X (tgt := 69) dX3_bestNextRoad_21 (by decide) hf (fun hf => ?_) (fun hf => ?_)
    · cases hf
      cases hit
      refine x_lpick (lv2 := []) [] rfl ?_
      exact kk.2 _ rfl
    · refine x_lload_n X dX3_bestNextRoad_24 2 rfl ?_
      refine x_iload X dX3_bestNextRoad_25 3 rfl ?_
      obtain ⟨x2, hx2, hf⟩ := bn_some hf
      refine x_callS_i X (As := [.long y2, .int y4]) (rest := []) (n := 2) (goodS w_5085 w_274 w_47 w_275) (met_X3_has l fu y2 y4 x2 hx2) rfl rfl (by decide +kernel) ⟨by decide, by decide⟩ rfl rfl (Nat.le_of_ble_eq_true rfl) dX3_bestNextRoad_27 ⟨by decide, by decide⟩ ?_
      refine x_if_eq X (tgt := 63) dX3_bestNextRoad_30 (by decide) hf (fun hf => ?_) (fun hf => ?_)
      · refine x_iinc X dX3_bestNextRoad_63 3 rfl (by decide) (y4 + 1) rfl hf (fun x3 => [(4, .int x3), (0, .ref (ad 0)), (1, .int y1), (2, .long y2)]) (fun _ => rfl) (fun x3 hf => ?_)
        refine x_goto X (tgt := 12) dX3_bestNextRoad_66 (by decide) ?_
        cases hf
        refine x_lpick (lv2 := [(0, .ref (ad 0)), (1, .int y1), (2, .long y2), (4, .int x3)]) [1, 2, 3, 0] rfl ?_
        exact ih _ _ hit kk
      · refine x_aload_n X dX3_bestNextRoad_33 0 rfl ?_
        refine x_get X E.1.1 (T := TX3) (C := RX3) inW3 0 rfl rfl 0 (by decide) w_212 rfl (v := .ref (ad 1)) rfl dX3_bestNextRoad_34 ?_
        refine x_iload_n X dX3_bestNextRoad_37 1 rfl ?_
        refine x_iload X dX3_bestNextRoad_38 3 rfl ?_
        obtain ⟨x4, hx4, hf⟩ := bn_some hf
        refine x_callV_i X E (As := [.int y1, .int y4]) (rest := []) (n := 2) (ws2 := (picC kA ad w)) (goodV w_5184 w_464 w_465 w_48 w_466) (met_X2_stepLength l E.2.2.2 D kA ad fu w y1 y4 x4 hx4) rfl rfl (by decide +kernel) ⟨by decide, by decide⟩ 1 rfl (qc := (RX2, TX2, _)) rfl rfl rfl rfl (Nat.le_of_ble_eq_true rfl) dX3_bestNextRoad_40 ⟨by decide, by decide⟩ ?_
        refine x_aload_n X dX3_bestNextRoad_43 0 rfl ?_
        refine x_get X E.1.1 (T := TX3) (C := RX3) inW3 0 rfl rfl 4 (by decide) w_216 rfl (v := .ref (ad 5)) rfl dX3_bestNextRoad_44 ?_
        refine x_iload X dX3_bestNextRoad_47 3 rfl ?_
        refine x_iald X E.1.1 5 rfl dX3_bestNextRoad_49 hf (fun x5 hf => ?_)
        refine x_iadd X dX3_bestNextRoad_50 ?_
        refine x_aload_n X dX3_bestNextRoad_51 0 rfl ?_
        refine x_get X E.1.1 (T := TX3) (C := RX3) inW3 0 rfl rfl 4 (by decide) w_216 rfl (v := .ref (ad 5)) rfl dX3_bestNextRoad_52 ?_
        refine x_iload_n X dX3_bestNextRoad_55 1 rfl ?_
        refine x_iald X E.1.1 5 rfl dX3_bestNextRoad_56 hf (fun x6 hf => ?_)
        refine x_icmp_ne X (tgt := 63) dX3_bestNextRoad_57 (by decide) hf (fun hf => ?_) (fun hf => ?_)
        · refine x_iinc X dX3_bestNextRoad_63 3 rfl (by decide) (y4 + 1) rfl hf (fun x7 => [(4, .int x7), (0, .ref (ad 0)), (1, .int y1), (2, .long y2)]) (fun _ => rfl) (fun x7 hf => ?_)
          refine x_goto X (tgt := 12) dX3_bestNextRoad_66 (by decide) ?_
          cases hf
          refine x_lpick (lv2 := [(0, .ref (ad 0)), (1, .int y1), (2, .long y2), (4, .int x7)]) [1, 2, 3, 0] rfl ?_
          exact ih _ _ hit kk
        · cases hf
          cases hit
          refine x_lpick (lv2 := [(4, .int y4)]) [3] rfl ?_
          exact kk.1 _ rfl
set_option maxRecDepth 100000 in
set_option maxHeartbeats 4000000 in
theorem met_X3_bestNextRoad (l : Launch) (hst : l.stackTraces = false) (D : va_G) (kA : Nat → ClassId) (ad : Nat → Nat) (fu : Nat) (w : WS) (a1 : Int32) (v : Int32) (hf : f_X3_bestNextRoad fu w a1 = some v) (sz : Nat) : Met l yX3_bestNextRoad (wsY yX3_bestNextRoad cX3_bestNextRoad 5 (some .int)) rm_X3_bestNextRoad (va_Pc [.ref (ad 0), .int a1] (PreG D kA (picC kA ad w) sz)) (va_Qi (fun (r : Int32) (_ : Unit) => r = v) (fun _ t => PosG D (va_A (picC kA ad w) sz) (picC kA ad w) t) (va_A (picC kA ad w) sz)) 0 0 (va_A (picC kA ad w) sz) := by
  refine metG (own := RX3) hst (by decide +kernel) rfl (Nat.le_of_ble_eq_true rfl) rfl ?_
  intro p e s m below meth c X hr hlk E _
  unfold f_X3_bestNextRoad at hf
  refine x_aload_n X dX3_bestNextRoad_0 0 rfl ?_
  refine x_get X E.1.1 (T := TX3) (C := RX3) inW3 0 rfl rfl 0 (by decide) w_212 rfl (v := .ref (ad 1)) rfl dX3_bestNextRoad_1 ?_
  refine x_iload_n X dX3_bestNextRoad_4 1 rfl ?_
  obtain ⟨x1, hx1, hf⟩ := bn_some hf
  refine x_callV_l X E (As := [.int a1]) (rest := []) (n := 1) (ws2 := (picC kA ad w)) (goodV w_5183 w_460 w_461 w_48 w_462) (met_X2_followersOf l E.2.2.2 D kA ad fu w a1 x1 hx1) rfl rfl (by decide +kernel) ⟨by decide, by decide⟩ 1 rfl (qc := (RX2, TX2, _)) rfl rfl rfl rfl (Nat.le_of_ble_eq_true rfl) dX3_bestNextRoad_5 ⟨by decide, by decide⟩ ?_
  refine x_lstore_n X (lv2 := [(2, .long x1), (0, .ref (ad 0)), (1, .int a1)]) dX3_bestNextRoad_8 (by decide) rfl ?_
  refine x_iconst X (v := 0) dX3_bestNextRoad_9 (by decide) ?_
  refine x_istore X (lv2 := [(4, .int 0), (2, .long x1), (0, .ref (ad 0)), (1, .int a1)]) dX3_bestNextRoad_10 (by decide) rfl ?_
  refine x_lpick (lv2 := [(0, .ref (ad 0)), (1, .int a1), (2, .long x1), (4, .int 0)]) [2, 3, 1, 0] rfl ?_
  obtain ⟨o2, h3, hf, hg⟩ := bx_one hf
  refine lp_X3_bestNextRoad_12 X E fu w a1 x1 fu (0 : Int32) o2 h3 ⟨fun r ho => ?_, fun r ho => ?_⟩
  · have hf := hf _ ho
    refine x_iload X dX3_bestNextRoad_60 0 rfl ?_
    exact x_iret X hr hlk rfl (Option.some.inj hf) dX3_bestNextRoad_62
  · have hf := hg _ ho
    refine x_iconst X (v := (-1)) dX3_bestNextRoad_69 (by decide) ?_
    exact x_iret X hr hlk rfl (Option.some.inj hf) dX3_bestNextRoad_70
end
section
variable {p : Program} {l : Launch} {e : Env} {s : State} {m : MethodId} {args : Array Value} {below : List Frame} {meth : Method} {c : Code} {D : va_G} {kA : Nat → ClassId} {A : Nat → Prop} {Q : State → Prop} {ad : Nat → Nat}
abbrev rm_X3_writePath : Room := { frames := 4, cells := 0, slots := 0, locals := 91 }
set_option maxRecDepth 100000 in
set_option maxHeartbeats 4000000 in
theorem lp_X3_writePath_4 (X : CX p m c cX3_writePath 4 s args RX3) (E : EX l s D kA A) (fu : Nat)  : ∀ (n : Nat) (y2 : Int32) (y3 : Int32) (w : WS) (r2 : Int32) (rw : WS), iter (fun q => bd_X3_writePath_4 fu q.1 q.2.1 q.2.2) n (y2, y3, w) = some (r2, rw) → CS p l e rm_X3_writePath s m args below meth c D A 4 0 0 Q (picC kA ad rw) 33 [(2, .int r2)] [] → CS p l e rm_X3_writePath s m args below meth c D A 4 0 0 Q (picC kA ad w) 4 [(0, .ref (ad 0)), (2, .int y2), (3, .int y3)] [] := by
  intro n
  induction n with
  | zero =>
    intro y2 y3 w r2 rw hit kk
    exact (iter_0 hit).elim
  | succ n ih =>
    intro y2 y3 w r2 rw hit kk
    obtain ⟨o, h1, hit⟩ := iter_one hit
    have hf : bd_X3_writePath_4 fu y2 y3 w = some o := h1
    unfold bd_X3_writePath_4 at hf
    refine x_iload_n X dX3_writePath_4 2 rfl ?_
    refine x_if_lt X (tgt := 33) dX3_writePath_5 (by decide) hf (fun hf => ?_) (fun hf => ?_)
    · cases hf
      cases hit
      refine x_lpick (lv2 := [(2, .int y2)]) [1] rfl ?_
      exact kk
    · refine x_iload_n X dX3_writePath_8 1 rfl ?_
      refine x_bipush X (v := 64) dX3_writePath_9 (by decide) ?_
      refine x_icmp_ge X (tgt := 33) dX3_writePath_11 (by decide) hf (fun hf => ?_) (fun hf => ?_)
      · cases hf
        cases hit
        refine x_lpick (lv2 := [(2, .int y2)]) [1] rfl ?_
        exact kk
      · refine x_aload_n X dX3_writePath_14 0 rfl ?_
        refine x_get X E.1.1 (T := TX3) (C := RX3) inW3 0 rfl rfl 6 (by decide) w_5063 rfl (v := .ref (ad 6)) rfl dX3_writePath_15 ?_
        refine x_iload_n X dX3_writePath_18 1 rfl ?_
        refine x_iload_n X dX3_writePath_19 2 rfl ?_
        refine x_iast X E.1.1 6 rfl dX3_writePath_20 hf (picC kA ad) (setC_6 kA ad _ _ _) (fun w1 hf => ?_)
        refine x_iinc X dX3_writePath_21 1 rfl (by decide) (y2 + 1) rfl hf (fun x2 => [(2, .int x2), (0, .ref (ad 0)), (3, .int y3)]) (fun _ => rfl) (fun x2 hf => ?_)
        refine x_aload_n X dX3_writePath_24 1 rfl ?_
        refine x_iload_n X dX3_writePath_25 2 rfl ?_
        obtain ⟨x3, hx3, hf⟩ := bn_some hf
        refine x_callV_i X E (As := [.int y3]) (rest := []) (n := 1) (ws2 := (picC kA ad w1)) (goodV w_5182 w_725 s_26 w_47 w_726) (met_X3_bestNextRoad l E.2.2.2 D kA ad fu w1 y3 x3 hx3) rfl rfl (by decide +kernel) ⟨by decide, by decide⟩ 0 rfl (qc := (RX3, TX3, _)) rfl rfl rfl rfl (Nat.le_of_ble_eq_true rfl) dX3_writePath_26 ⟨by decide, by decide⟩ ?_
        refine x_istore_n X (lv2 := [(3, .int x3), (2, .int x2), (0, .ref (ad 0))]) dX3_writePath_29 (by decide) rfl ?_
        refine x_goto X (tgt := 4) dX3_writePath_30 (by decide) ?_
        cases hf
        refine x_lpick (lv2 := [(0, .ref (ad 0)), (2, .int x2), (3, .int x3)]) [2, 1, 0] rfl ?_
        exact ih _ _ _ _ _ hit kk
set_option maxRecDepth 100000 in
set_option maxHeartbeats 4000000 in
theorem met_X3_writePath (l : Launch) (hst : l.stackTraces = false) (D : va_G) (kA : Nat → ClassId) (ad : Nat → Nat) (fu : Nat) (w : WS) (a1 : Int32) (v : Int32) (w1 : WS) (hf : f_X3_writePath fu w a1 = some (v, w1)) (sz : Nat) : Met l yX3_writePath (wsY yX3_writePath cX3_writePath 4 (some .int)) rm_X3_writePath (va_Pc [.ref (ad 0), .int a1] (PreG D kA (picC kA ad w) sz)) (va_Qi (fun (r : Int32) (_ : Unit) => r = v) (fun _ t => PosG D (va_A (picC kA ad w) sz) (picC kA ad w1) t) (va_A (picC kA ad w) sz)) 0 0 (va_A (picC kA ad w) sz) := by
  refine metG (own := RX3) hst (by decide +kernel) rfl (Nat.le_of_ble_eq_true rfl) rfl ?_
  intro p e s m below meth c X hr hlk E _
  unfold f_X3_writePath at hf
  refine x_iconst X (v := 0) dX3_writePath_0 (by decide) ?_
  refine x_istore_n X (lv2 := [(2, .int 0), (0, .ref (ad 0)), (1, .int a1)]) dX3_writePath_1 (by decide) rfl ?_
  refine x_iload_n X dX3_writePath_2 2 rfl ?_
  refine x_istore_n X (lv2 := [(3, .int a1), (2, .int 0), (0, .ref (ad 0)), (1, .int a1)]) dX3_writePath_3 (by decide) rfl ?_
  refine x_lpick (lv2 := [(0, .ref (ad 0)), (2, .int 0), (3, .int a1)]) [2, 1, 0] rfl ?_
  obtain ⟨x1, w2, h3, hf⟩ := bn2_some hf
  refine lp_X3_writePath_4 X E fu  fu (0 : Int32) a1 w x1 w2 h3 ?_
  refine x_iload_n X dX3_writePath_33 0 rfl ?_
  cases hf
  exact x_iret X hr hlk rfl rfl dX3_writePath_34
end
section
variable {p : Program} {l : Launch} {e : Env} {s : State} {m : MethodId} {args : Array Value} {below : List Frame} {meth : Method} {c : Code} {D : va_G} {kA : Nat → ClassId} {A : Nat → Prop} {Q : State → Prop} {ad : Nat → Nat}
abbrev rm_X3_route : Room := { frames := 7, cells := 4, slots := 24, locals := 114 }
set_option maxRecDepth 100000 in
set_option maxHeartbeats 4000000 in
theorem met_X3_route (l : Launch) (hst : l.stackTraces = false) (D : va_G) (kA : Nat → ClassId) (ad : Nat → Nat) (fu : Nat) (w : WS) (a1 : Int32) (a2 : Int32) (o : ((Int32 × WS) ⊕ (String × WS))) (hf : f_X3_route fu w a1 a2 = some o) (sz : Nat) : vx_Met l yX3_route (wsY yX3_route cX3_route 4 (some .int)) rm_X3_route (va_Pc [.ref (ad 0), .int a1, .int a2] (PreG D kA (picC kA ad w) sz)) (va_Qi (fun (r : Int32) (w1 : WS) => o = .inl (r, w1)) (fun w1 t => PosG D (va_A (picC kA ad w) sz) (picC kA ad w1) t) (va_A (picC kA ad w) sz)) (vx_X (fun q : String × WS => o = .inr q) (fun E q t => E = q.1 ∧ PosG D (va_A (picC kA ad w) sz) (picC kA ad q.2) t) (va_A (picC kA ad w) sz)) 4 24 (va_A (picC kA ad w) sz) := by
  refine metX (own := RX3) hst (by decide +kernel) rfl (Nat.le_of_ble_eq_true rfl) rfl ?_
  intro p e s m below meth c X hr hlk E htab
  unfold f_X3_route at hf
  refine x_aload_n X dX3_route_0 0 rfl ?_
  obtain ⟨o1, ho1, hf, hg⟩ := bx_one hf
  refine x_callX_v X E (As := []) (rest := []) (n := 0) (pic := picC kA ad) (w0 := w) (mc := 1) (ms := 6) (goodV w_5155 w_618 s_16 w_47 w_619) (met_X3_requireHierarchy l E.2.2.2 D kA ad fu w o1 ho1) rfl rfl (by decide +kernel) ⟨by decide, by decide⟩ 0 rfl (qc := (RX3, TX3, _)) rfl rfl rfl rfl (Nat.le_of_ble_eq_true rfl) dX3_route_1 ⟨by decide, by decide⟩ (fun q ce q9 H1 locs1 ls ho hP hD hS hl hce hcv hcl => x_thru (pic := picC kA ad) htab hlk rfl (Option.some.inj (hg q ho)).symm hP hD hS hce hcv hcl (by decide) (by decide)) (fun w2 ho => ?_)
  have hf := hf _ ho
  refine x_aload_n X dX3_route_4 0 rfl ?_
  refine x_iload_n X dX3_route_5 1 rfl ?_
  obtain ⟨o3, ho3, hf, hg⟩ := bx_one hf
  refine x_callX_v X E (As := [.int a1]) (rest := []) (n := 1) (pic := picC kA ad) (w0 := w2) (mc := 1) (ms := 6) (goodV w_5106 w_387 s_1 w_47 w_388) (met_X3_requireJunction l E.2.2.2 D kA ad fu w2 a1 o3 ho3) rfl rfl (by decide +kernel) ⟨by decide, by decide⟩ 0 rfl (qc := (RX3, TX3, _)) rfl rfl rfl rfl (Nat.le_of_ble_eq_true rfl) dX3_route_6 ⟨by decide, by decide⟩ (fun q ce q9 H1 locs1 ls ho hP hD hS hl hce hcv hcl => x_thru (pic := picC kA ad) htab hlk rfl (Option.some.inj (hg q ho)).symm hP hD hS hce hcv hcl (by decide) (by decide)) (fun w4 ho => ?_)
  have hf := hf _ ho
  refine x_aload_n X dX3_route_9 0 rfl ?_
  refine x_iload_n X dX3_route_10 2 rfl ?_
  obtain ⟨o5, ho5, hf, hg⟩ := bx_one hf
  refine x_callX_v X E (As := [.int a2]) (rest := []) (n := 1) (pic := picC kA ad) (w0 := w4) (mc := 1) (ms := 6) (goodV w_5106 w_387 s_1 w_47 w_388) (met_X3_requireJunction l E.2.2.2 D kA ad fu w4 a2 o5 ho5) rfl rfl (by decide +kernel) ⟨by decide, by decide⟩ 0 rfl (qc := (RX3, TX3, _)) rfl rfl rfl rfl (Nat.le_of_ble_eq_true rfl) dX3_route_11 ⟨by decide, by decide⟩ (fun q ce q9 H1 locs1 ls ho hP hD hS hl hce hcv hcl => x_thru (pic := picC kA ad) htab hlk rfl (Option.some.inj (hg q ho)).symm hP hD hS hce hcv hcl (by decide) (by decide)) (fun w6 ho => ?_)
  have hf := hf _ ho
  refine x_iload_n X dX3_route_14 1 rfl ?_
  refine x_iload_n X dX3_route_15 2 rfl ?_
  refine x_icmp_ne X (tgt := 31) dX3_route_16 (by decide) hf (fun hf => ?_) (fun hf => ?_)
  · refine x_aload_n X dX3_route_31 0 rfl ?_
    refine x_iload_n X dX3_route_32 2 rfl ?_
    obtain ⟨w7, hw7, hf⟩ := bn_some hf
    refine x_callV_v X E (As := [.int a2]) (rest := []) (n := 1) (ws2 := (picC kA ad w7)) (goodV w_5175 w_704 s_22 w_47 w_705) (met_X3_searchTo l E.2.2.2 D kA ad fu w6 a2 w7 hw7) rfl rfl (by decide +kernel) ⟨by decide, by decide⟩ 0 rfl (qc := (RX3, TX3, _)) rfl rfl rfl rfl (Nat.le_of_ble_eq_true rfl) dX3_route_33 ⟨by decide, by decide⟩ ?_
    refine x_aload_n X dX3_route_36 0 rfl ?_
    refine x_iload_n X dX3_route_37 1 rfl ?_
    obtain ⟨x8, hx8, hf⟩ := bn_some hf
    refine x_callV_i X E (As := [.int a1]) (rest := []) (n := 1) (ws2 := (picC kA ad w7)) (goodV w_5180 w_716 s_24 w_47 w_717) (met_X3_bestFirstRoad l E.2.2.2 D kA ad fu w7 a1 x8 hx8) rfl rfl (by decide +kernel) ⟨by decide, by decide⟩ 0 rfl (qc := (RX3, TX3, _)) rfl rfl rfl rfl (Nat.le_of_ble_eq_true rfl) dX3_route_38 ⟨by decide, by decide⟩ ?_
    refine x_istore_n X (lv2 := [(3, .int x8), (0, .ref (ad 0)), (1, .int a1), (2, .int a2)]) dX3_route_41 (by decide) rfl ?_
    refine x_iload_n X dX3_route_42 0 rfl ?_
    refine x_if_ge X (tgt := 56) dX3_route_43 (by decide) hf (fun hf => ?_) (fun hf => ?_)
    · refine x_aload_n X dX3_route_56 1 rfl ?_
      refine x_aload_n X dX3_route_57 1 rfl ?_
      refine x_get X E.1.1 (T := TX3) (C := RX3) inW3 0 rfl rfl 0 (by decide) w_212 rfl (v := .ref (ad 1)) rfl dX3_route_58 ?_
      refine x_iload_n X dX3_route_61 0 rfl ?_
      obtain ⟨x9, hx9, hf⟩ := bn_some hf
      refine x_callV_i X E (As := [.int x8]) (rest := [.ref (ad 0)]) (n := 1) (ws2 := (picC kA ad w7)) (goodV w_5164 w_475 w_476 w_48 w_477) (met_X2_roadLength l E.2.2.2 D kA ad fu w7 x8 x9 hx9) rfl rfl (by decide +kernel) ⟨by decide, by decide⟩ 1 rfl (qc := (RX2, TX2, _)) rfl rfl rfl rfl (Nat.le_of_ble_eq_true rfl) dX3_route_62 ⟨by decide, by decide⟩ ?_
      refine x_aload_n X dX3_route_65 1 rfl ?_
      refine x_get X E.1.1 (T := TX3) (C := RX3) inW3 0 rfl rfl 4 (by decide) w_216 rfl (v := .ref (ad 5)) rfl dX3_route_66 ?_
      refine x_iload_n X dX3_route_69 0 rfl ?_
      refine x_iald X E.1.1 5 rfl dX3_route_70 hf (fun x10 hf => ?_)
      refine x_iadd X dX3_route_71 ?_
      obtain ⟨x11, hx11, hf⟩ := bn_some hf
      refine x_callS_i X (As := [.int (x9 + x10)]) (rest := [.ref (ad 0)]) (n := 1) (goodS w_5160 w_296 w_47 w_297) (met_X3_costOf l fu (x9 + x10) x11 hx11) rfl rfl (by decide +kernel) ⟨by decide, by decide⟩ rfl rfl (Nat.le_of_ble_eq_true rfl) dX3_route_72 ⟨by decide, by decide⟩ ?_
      refine x_put X E.1.1 (T := TX3) (C := RX3) (ty := .int) inW3 tyX3 tyX3_ok nmX3 0 rfl rfl 8 (by decide) w_5065 rfl rfl (by decide +kernel) rfl rfl (Nat.le_of_ble_eq_true rfl) dX3_route_75 (picC kA ad (wI w7 0 7 x11)) rfl ?_
      refine x_nmW (pic := (picC kA ad)) (u := (wI w7 0 7 x11)) hf (fun w12 hf => ?_)
      refine x_aload_n X dX3_route_78 1 rfl ?_
      refine x_aload_n X dX3_route_79 1 rfl ?_
      refine x_iload_n X dX3_route_80 0 rfl ?_
      obtain ⟨x14, w13, hx14, hf⟩ := bn2_some hf
      refine x_callV_i X E (As := [.int x8]) (rest := [.ref (ad 0)]) (n := 1) (ws2 := (picC kA ad w13)) (goodV w_5181 w_721 s_25 w_47 w_722) (met_X3_writePath l E.2.2.2 D kA ad fu w12 x8 x14 w13 hx14) rfl rfl (by decide +kernel) ⟨by decide, by decide⟩ 0 rfl (qc := (RX3, TX3, _)) rfl rfl rfl rfl (Nat.le_of_ble_eq_true rfl) dX3_route_81 ⟨by decide, by decide⟩ ?_
      refine x_put X E.1.1 (T := TX3) (C := RX3) (ty := .int) inW3 tyX3 tyX3_ok nmX3 0 rfl rfl 7 (by decide) w_5064 rfl rfl (by decide +kernel) rfl rfl (Nat.le_of_ble_eq_true rfl) dX3_route_84 (picC kA ad (wI w13 0 6 x14)) rfl ?_
      refine x_nmW (pic := (picC kA ad)) (u := (wI w13 0 6 x14)) hf (fun w15 hf => ?_)
      refine x_aload_n X dX3_route_87 1 rfl ?_
      refine x_get X E.1.1 (T := TX3) (C := RX3) inW3 0 rfl rfl 7 (by decide) w_5064 rfl (v := .int (w15.1 0 6)) rfl dX3_route_88 ?_
      refine x_nmI hf (fun x16 hf => ?_)
      exact x_iretX X hr hlk rfl (pic := picC kA ad) (Option.some.inj hf) (by decide) (by decide) dX3_route_91
    · exact x_throwN X E (pic := picC kA ad) (text := "there is no path") (is := 196) (ic := 163) w_5156 w_63 (by decide +kernel) (at_NSE_163) (gd_NSE_163) dX3_route_46 dX3_route_49 dX3_route_50 dX3_route_52 dX3_route_55 htab hlk rfl (by decide) (by decide) (by decide) (by decide) (by decide) (by decide) (Option.some.inj hf).symm
  · refine x_aload_n X dX3_route_19 0 rfl ?_
    refine x_iconst X (v := 0) dX3_route_20 (by decide) ?_
    refine x_put X E.1.1 (T := TX3) (C := RX3) (ty := .int) inW3 tyX3 tyX3_ok nmX3 0 rfl rfl 7 (by decide) w_5064 rfl rfl (by decide +kernel) rfl rfl (Nat.le_of_ble_eq_true rfl) dX3_route_21 (picC kA ad (wI w6 0 6 0)) rfl ?_
    refine x_nmW (pic := (picC kA ad)) (u := (wI w6 0 6 0)) hf (fun w17 hf => ?_)
    refine x_aload_n X dX3_route_24 0 rfl ?_
    refine x_iconst X (v := 0) dX3_route_25 (by decide) ?_
    refine x_put X E.1.1 (T := TX3) (C := RX3) (ty := .int) inW3 tyX3 tyX3_ok nmX3 0 rfl rfl 8 (by decide) w_5065 rfl rfl (by decide +kernel) rfl rfl (Nat.le_of_ble_eq_true rfl) dX3_route_26 (picC kA ad (wI w17 0 7 0)) rfl ?_
    refine x_nmW (pic := (picC kA ad)) (u := (wI w17 0 7 0)) hf (fun w18 hf => ?_)
    refine x_iconst X (v := 0) dX3_route_29 (by decide) ?_
    exact x_iretX X hr hlk rfl (pic := picC kA ad) (Option.some.inj hf) (by decide) (by decide) dX3_route_30
end
section
variable {p : Program} {l : Launch} {e : Env} {s : State} {m : MethodId} {args : Array Value} {below : List Frame} {meth : Method} {c : Code} {D : va_G} {kA : Nat → ClassId} {A : Nat → Prop} {Q : State → Prop} {ad : Nat → Nat}
abbrev rm_X3_routeRoad : Room := { frames := 6, cells := 1, slots := 6, locals := 90 }
set_option maxRecDepth 100000 in
set_option maxHeartbeats 4000000 in
theorem met_X3_routeRoad (l : Launch) (hst : l.stackTraces = false) (D : va_G) (kA : Nat → ClassId) (ad : Nat → Nat) (fu : Nat) (w : WS) (a1 : Int32) (o : ((Int32 × WS) ⊕ (String × WS))) (hf : f_X3_routeRoad fu w a1 = some o) (sz : Nat) : vx_Met l yX3_routeRoad (wsY yX3_routeRoad cX3_routeRoad 2 (some .int)) rm_X3_routeRoad (va_Pc [.ref (ad 0), .int a1] (PreG D kA (picC kA ad w) sz)) (va_Qi (fun (r : Int32) (w1 : WS) => o = .inl (r, w1)) (fun w1 t => PosG D (va_A (picC kA ad w) sz) (picC kA ad w1) t) (va_A (picC kA ad w) sz)) (vx_X (fun q : String × WS => o = .inr q) (fun E q t => E = q.1 ∧ PosG D (va_A (picC kA ad w) sz) (picC kA ad q.2) t) (va_A (picC kA ad w) sz)) 1 6 (va_A (picC kA ad w) sz) := by
  refine metX (own := RX3) hst (by decide +kernel) rfl (Nat.le_of_ble_eq_true rfl) rfl ?_
  intro p e s m below meth c X hr hlk E htab
  unfold f_X3_routeRoad at hf
  refine x_iload_n X dX3_routeRoad_0 1 rfl ?_
  refine x_if_lt X (tgt := 12) dX3_routeRoad_1 (by decide) hf (fun hf => ?_) (fun hf => ?_)
  · exact x_throw X E (pic := picC kA ad) (text := "no such index in the path") (is := 206) (ic := 208) (by decide +kernel) w_5107 w_57 (by decide +kernel) (at_IOB_208) (gd_IOB_208) dX3_routeRoad_12 dX3_routeRoad_15 dX3_routeRoad_16 dX3_routeRoad_18 dX3_routeRoad_21 htab hlk rfl (by decide) (by decide) (by decide) (by decide) (by decide) (by decide) (Option.some.inj hf).symm
  · refine x_iload_n X dX3_routeRoad_4 1 rfl ?_
    refine x_aload_n X dX3_routeRoad_5 0 rfl ?_
    refine x_get X E.1.1 (T := TX3) (C := RX3) inW3 0 rfl rfl 7 (by decide) w_5064 rfl (v := .int (w.1 0 6)) rfl dX3_routeRoad_6 ?_
    refine x_nmI hf (fun x1 hf => ?_)
    refine x_icmp_lt X (tgt := 22) dX3_routeRoad_9 (by decide) hf (fun hf => ?_) (fun hf => ?_)
    · refine x_aload_n X dX3_routeRoad_22 0 rfl ?_
      refine x_get X E.1.1 (T := TX3) (C := RX3) inW3 0 rfl rfl 6 (by decide) w_5063 rfl (v := .ref (ad 6)) rfl dX3_routeRoad_23 ?_
      refine x_iload_n X dX3_routeRoad_26 1 rfl ?_
      refine x_iald X E.1.1 6 rfl dX3_routeRoad_27 hf (fun x2 hf => ?_)
      exact x_iretX X hr hlk rfl (pic := picC kA ad) (Option.some.inj hf) (by decide) (by decide) dX3_routeRoad_28
    · exact x_throw X E (pic := picC kA ad) (text := "no such index in the path") (is := 206) (ic := 208) (by decide +kernel) w_5107 w_57 (by decide +kernel) (at_IOB_208) (gd_IOB_208) dX3_routeRoad_12 dX3_routeRoad_15 dX3_routeRoad_16 dX3_routeRoad_18 dX3_routeRoad_21 htab hlk rfl (by decide) (by decide) (by decide) (by decide) (by decide) (by decide) (Option.some.inj hf).symm
end
section
variable {p : Program} {l : Launch} {e : Env} {s : State} {m : MethodId} {args : Array Value} {below : List Frame} {meth : Method} {c : Code} {D : va_G} {kA : Nat → ClassId} {A : Nat → Prop} {Q : State → Prop} {ad : Nat → Nat}
abbrev rm_X3_routeCost : Room := { frames := 0, cells := 0, slots := 0, locals := 0 }
set_option maxRecDepth 100000 in
set_option maxHeartbeats 4000000 in
theorem met_X3_routeCost (l : Launch) (hst : l.stackTraces = false) (D : va_G) (kA : Nat → ClassId) (ad : Nat → Nat) (fu : Nat) (w : WS)  (v : Int32) (hf : f_X3_routeCost fu w = some v) (sz : Nat) : Met l yX3_routeCost (wsY yX3_routeCost cX3_routeCost 1 (some .int)) rm_X3_routeCost (va_Pc [.ref (ad 0)] (PreG D kA (picC kA ad w) sz)) (va_Qi (fun (r : Int32) (_ : Unit) => r = v) (fun _ t => PosG D (va_A (picC kA ad w) sz) (picC kA ad w) t) (va_A (picC kA ad w) sz)) 0 0 (va_A (picC kA ad w) sz) := by
  refine metG (own := RX3) hst (by decide +kernel) rfl (Nat.le_of_ble_eq_true rfl) rfl ?_
  intro p e s m below meth c X hr hlk E _
  unfold f_X3_routeCost at hf
  refine x_aload_n X dX3_routeCost_0 0 rfl ?_
  refine x_get X E.1.1 (T := TX3) (C := RX3) inW3 0 rfl rfl 8 (by decide) w_5065 rfl (v := .int (w.1 0 7)) rfl dX3_routeCost_1 ?_
  refine x_nmI hf (fun x1 hf => ?_)
  exact x_iret X hr hlk rfl (Option.some.inj hf) dX3_routeCost_4
end
section
variable {p : Program} {l : Launch} {e : Env} {s : State} {m : MethodId} {args : Array Value} {below : List Frame} {meth : Method} {c : Code} {D : va_G} {kA : Nat → ClassId} {A : Nat → Prop} {Q : State → Prop} {ad : Nat → Nat}
abbrev rm_X3_keepReached : Room := { frames := 0, cells := 0, slots := 0, locals := 0 }
set_option maxRecDepth 100000 in
set_option maxHeartbeats 4000000 in
theorem lp_X3_keepReached_15 (X : CX p m c cX3_keepReached 4 s args RX3) (E : EX l s D kA A) (fu : Nat) (y1 : Int32) (y2 : Int32) : ∀ (n : Nat) (y3 : Int32) (w : WS) (r3 : Int32) (rw : WS), iter (fun q => bd_X3_keepReached_15 fu y1 y2 q.1 q.2) n (y3, w) = some (r3, rw) → CS p l e rm_X3_keepReached s m args below meth c D A 4 0 0 Q (picC kA ad rw) 65 [(0, .ref (ad 0)), (1, .int y1), (2, .int y2), (3, .int r3)] [] → CS p l e rm_X3_keepReached s m args below meth c D A 4 0 0 Q (picC kA ad w) 15 [(0, .ref (ad 0)), (1, .int y1), (2, .int y2), (3, .int y3)] [] := by
  intro n
  induction n with
  | zero =>
    intro y3 w r3 rw hit kk
    exact (iter_0 hit).elim
  | succ n ih =>
    intro y3 w r3 rw hit kk
    obtain ⟨o, h1, hit⟩ := iter_one hit
    have hf : bd_X3_keepReached_15 fu y1 y2 y3 w = some o := h1
    unfold bd_X3_keepReached_15 at hf
    refine x_iload_n X dX3_keepReached_15 3 rfl ?_
    refine x_if_le X (tgt := 65) dX3_keepReached_16 (by decide) hf (fun hf => ?_) (fun hf => ?_)
    · cases hf
      cases hit
      exact kk
    · refine x_aload_n X dX3_keepReached_19 0 rfl ?_
      refine x_get X E.1.1 (T := TX3) (C := RX3) inW3 0 rfl rfl 10 (by decide) w_5067 rfl (v := .ref (ad 8)) rfl dX3_keepReached_20 ?_
      refine x_iload_n X dX3_keepReached_23 3 rfl ?_
      refine x_iconst X (v := 1) dX3_keepReached_24 (by decide) ?_
      refine x_isub X dX3_keepReached_25 ?_
      refine x_iald X E.1.1 8 rfl dX3_keepReached_26 hf (fun x1 hf => ?_)
      refine x_iload_n X dX3_keepReached_27 2 rfl ?_
      refine x_icmp_le X (tgt := 65) dX3_keepReached_28 (by decide) hf (fun hf => ?_) (fun hf => ?_)
      · cases hf
        cases hit
        exact kk
      · refine x_aload_n X dX3_keepReached_31 0 rfl ?_
        refine x_get X E.1.1 (T := TX3) (C := RX3) inW3 0 rfl rfl 9 (by decide) w_5066 rfl (v := .ref (ad 7)) rfl dX3_keepReached_32 ?_
        refine x_iload_n X dX3_keepReached_35 3 rfl ?_
        refine x_aload_n X dX3_keepReached_36 0 rfl ?_
        refine x_get X E.1.1 (T := TX3) (C := RX3) inW3 0 rfl rfl 9 (by decide) w_5066 rfl (v := .ref (ad 7)) rfl dX3_keepReached_37 ?_
        refine x_iload_n X dX3_keepReached_40 3 rfl ?_
        refine x_iconst X (v := 1) dX3_keepReached_41 (by decide) ?_
        refine x_isub X dX3_keepReached_42 ?_
        refine x_iald X E.1.1 7 rfl dX3_keepReached_43 hf (fun x2 hf => ?_)
        refine x_iast X E.1.1 7 rfl dX3_keepReached_44 hf (picC kA ad) (setC_7 kA ad _ _ _) (fun w3 hf => ?_)
        refine x_aload_n X dX3_keepReached_45 0 rfl ?_
        refine x_get X E.1.1 (T := TX3) (C := RX3) inW3 0 rfl rfl 10 (by decide) w_5067 rfl (v := .ref (ad 8)) rfl dX3_keepReached_46 ?_
        refine x_iload_n X dX3_keepReached_49 3 rfl ?_
        refine x_aload_n X dX3_keepReached_50 0 rfl ?_
        refine x_get X E.1.1 (T := TX3) (C := RX3) inW3 0 rfl rfl 10 (by decide) w_5067 rfl (v := .ref (ad 8)) rfl dX3_keepReached_51 ?_
        refine x_iload_n X dX3_keepReached_54 3 rfl ?_
        refine x_iconst X (v := 1) dX3_keepReached_55 (by decide) ?_
        refine x_isub X dX3_keepReached_56 ?_
        refine x_iald X E.1.1 8 rfl dX3_keepReached_57 hf (fun x4 hf => ?_)
        refine x_iast X E.1.1 8 rfl dX3_keepReached_58 hf (picC kA ad) (setC_8 kA ad _ _ _) (fun w5 hf => ?_)
        refine x_iinc X dX3_keepReached_59 3 rfl (by decide) (y3 + (-1)) rfl hf (fun x6 => [(3, .int x6), (0, .ref (ad 0)), (1, .int y1), (2, .int y2)]) (fun _ => rfl) (fun x6 hf => ?_)
        refine x_goto X (tgt := 15) dX3_keepReached_62 (by decide) ?_
        cases hf
        refine x_lpick (lv2 := [(0, .ref (ad 0)), (1, .int y1), (2, .int y2), (3, .int x6)]) [1, 2, 3, 0] rfl ?_
        exact ih _ _ _ _ hit kk
set_option maxRecDepth 100000 in
set_option maxHeartbeats 4000000 in
theorem met_X3_keepReached (l : Launch) (hst : l.stackTraces = false) (D : va_G) (kA : Nat → ClassId) (ad : Nat → Nat) (fu : Nat) (w : WS) (a1 : Int32) (a2 : Int32) (w1 : WS) (hf : f_X3_keepReached fu w a1 a2 = some w1) (sz : Nat) : Met l yX3_keepReached (wsY yX3_keepReached cX3_keepReached 4 none) rm_X3_keepReached (va_Pc [.ref (ad 0), .int a1, .int a2] (PreG D kA (picC kA ad w) sz)) (va_Qv (fun (_ : Unit) => True) (fun _ t => PosG D (va_A (picC kA ad w) sz) (picC kA ad w1) t) (va_A (picC kA ad w) sz)) 0 0 (va_A (picC kA ad w) sz) := by
  refine metG (own := RX3) hst (by decide +kernel) rfl (Nat.le_of_ble_eq_true rfl) rfl ?_
  intro p e s m below meth c X hr hlk E _
  unfold f_X3_keepReached at hf
  refine x_aload_n X dX3_keepReached_0 0 rfl ?_
  refine x_get X E.1.1 (T := TX3) (C := RX3) inW3 0 rfl rfl 11 (by decide) w_5068 rfl (v := .int (w.1 0 10)) rfl dX3_keepReached_1 ?_
  refine x_nmI hf (fun x1 hf => ?_)
  refine x_bipush X (v := 32) dX3_keepReached_4 (by decide) ?_
  refine x_icmp_lt X (tgt := 10) dX3_keepReached_6 (by decide) hf (fun hf => ?_) (fun hf => ?_)
  · refine x_aload_n X dX3_keepReached_10 0 rfl ?_
    refine x_get X E.1.1 (T := TX3) (C := RX3) inW3 0 rfl rfl 11 (by decide) w_5068 rfl (v := .int (w.1 0 10)) rfl dX3_keepReached_11 ?_
    refine x_nmI hf (fun x2 hf => ?_)
    refine x_istore_n X (lv2 := [(3, .int x2), (0, .ref (ad 0)), (1, .int a1), (2, .int a2)]) dX3_keepReached_14 (by decide) rfl ?_
    refine x_lpick (lv2 := [(0, .ref (ad 0)), (1, .int a1), (2, .int a2), (3, .int x2)]) [1, 2, 3, 0] rfl ?_
    obtain ⟨x3, w4, h5, hf⟩ := bn2_some hf
    refine lp_X3_keepReached_15 X E fu a1 a2 fu x2 w x3 w4 h5 ?_
    refine x_aload_n X dX3_keepReached_65 0 rfl ?_
    refine x_get X E.1.1 (T := TX3) (C := RX3) inW3 0 rfl rfl 9 (by decide) w_5066 rfl (v := .ref (ad 7)) rfl dX3_keepReached_66 ?_
    refine x_iload_n X dX3_keepReached_69 3 rfl ?_
    refine x_iload_n X dX3_keepReached_70 1 rfl ?_
    refine x_iast X E.1.1 7 rfl dX3_keepReached_71 hf (picC kA ad) (setC_7 kA ad _ _ _) (fun w6 hf => ?_)
    refine x_aload_n X dX3_keepReached_72 0 rfl ?_
    refine x_get X E.1.1 (T := TX3) (C := RX3) inW3 0 rfl rfl 10 (by decide) w_5067 rfl (v := .ref (ad 8)) rfl dX3_keepReached_73 ?_
    refine x_iload_n X dX3_keepReached_76 3 rfl ?_
    refine x_iload_n X dX3_keepReached_77 2 rfl ?_
    refine x_iast X E.1.1 8 rfl dX3_keepReached_78 hf (picC kA ad) (setC_8 kA ad _ _ _) (fun w7 hf => ?_)
    refine x_aload_n X dX3_keepReached_79 0 rfl ?_
    refine x_dup X dX3_keepReached_80 rfl ?_
    refine x_get X E.1.1 (T := TX3) (C := RX3) inW3 0 rfl rfl 11 (by decide) w_5068 rfl (v := .int (w7.1 0 10)) rfl dX3_keepReached_81 ?_
    refine x_nmI hf (fun x8 hf => ?_)
    refine x_iconst X (v := 1) dX3_keepReached_84 (by decide) ?_
    refine x_iadd X dX3_keepReached_85 ?_
    refine x_put X E.1.1 (T := TX3) (C := RX3) (ty := .int) inW3 tyX3 tyX3_ok nmX3 0 rfl rfl 11 (by decide) w_5068 rfl rfl (by decide +kernel) rfl rfl (Nat.le_of_ble_eq_true rfl) dX3_keepReached_86 (picC kA ad (wI w7 0 10 (x8 + 1))) rfl ?_
    refine x_nmW (pic := (picC kA ad)) (u := (wI w7 0 10 (x8 + 1))) hf (fun w9 hf => ?_)
    cases hf
    exact x_vret X hr hlk rfl dX3_keepReached_89
  · cases hf
    exact x_vret X hr hlk rfl dX3_keepReached_9
end
section
variable {p : Program} {l : Launch} {e : Env} {s : State} {m : MethodId} {args : Array Value} {below : List Frame} {meth : Method} {c : Code} {D : va_G} {kA : Nat → ClassId} {A : Nat → Prop} {Q : State → Prop} {ad : Nat → Nat}
abbrev rm_X3_reach : Room := { frames := 7, cells := 3, slots := 18, locals := 116 }
set_option maxRecDepth 100000 in
set_option maxHeartbeats 4000000 in
theorem lp_X3_reach_35 (X : CX p m c cX3_reach 5 s args RX3) (E : EX l s D kA A) (fu : Nat) (y2 : Int32) : ∀ (n : Nat) (y3 : Int32) (w : WS) (rw : WS), iter (fun q => bd_X3_reach_35 fu y2 q.1 q.2) n (y3, w) = some (rw) → CS p l e rm_X3_reach s m args below meth c D A 5 2 12 Q (picC kA ad rw) 77 [(0, .ref (ad 0))] [] → CS p l e rm_X3_reach s m args below meth c D A 5 2 12 Q (picC kA ad w) 35 [(0, .ref (ad 0)), (2, .int y2), (3, .int y3)] [] := by
  intro n
  induction n with
  | zero =>
    intro y3 w rw hit kk
    exact (iter_0 hit).elim
  | succ n ih =>
    intro y3 w rw hit kk
    obtain ⟨o, h1, hit⟩ := iter_one hit
    have hf : bd_X3_reach_35 fu y2 y3 w = some o := h1
    unfold bd_X3_reach_35 at hf
    refine x_iload_n X dX3_reach_35 2 rfl ?_
    refine x_aload_n X dX3_reach_36 0 rfl ?_
    refine x_get X E.1.1 (T := TX3) (C := RX3) inW3 0 rfl rfl 0 (by decide) w_212 rfl (v := .ref (ad 1)) rfl dX3_reach_37 ?_
    refine x_get X E.1.1 (T := TX2) (C := RX2) inW2 1 rfl rfl 0 (by decide) w_5001 rfl (v := .int (w.1 1 0)) rfl dX3_reach_40 ?_
    refine x_nmI hf (fun x1 hf => ?_)
    refine x_icmp_ge X (tgt := 77) dX3_reach_43 (by decide) hf (fun hf => ?_) (fun hf => ?_)
    · cases hf
      cases hit
      refine x_lpick (lv2 := [(0, .ref (ad 0))]) [0] rfl ?_
      exact kk
    · refine x_aload_n X dX3_reach_46 0 rfl ?_
      refine x_iload_n X dX3_reach_47 2 rfl ?_
      obtain ⟨x2, hx2, hf⟩ := bn_some hf
      refine x_callV_i X E (As := [.int y3]) (rest := []) (n := 1) (ws2 := (picC kA ad w)) (goodV w_5173 w_681 s_20 w_47 w_5174) (met_X3_foundCost l E.2.2.2 D kA ad fu w y3 x2 hx2) rfl rfl (by decide +kernel) ⟨by decide, by decide⟩ 0 rfl (qc := (RX3, TX3, _)) rfl rfl rfl rfl (Nat.le_of_ble_eq_true rfl) dX3_reach_48 ⟨by decide, by decide⟩ ?_
      refine x_istore X (lv2 := [(4, .int x2), (0, .ref (ad 0)), (2, .int y2), (3, .int y3)]) dX3_reach_51 (by decide) rfl ?_
      refine x_iload X dX3_reach_53 0 rfl ?_
      refine x_if_lt X (tgt := 71) dX3_reach_55 (by decide) hf (fun hf => ?_) (fun hf => ?_)
      · refine x_iinc X dX3_reach_71 3 rfl (by decide) (y3 + 1) rfl hf (fun x3 => [(3, .int x3), (4, .int x2), (0, .ref (ad 0)), (2, .int y2)]) (fun _ => rfl) (fun x3 hf => ?_)
        refine x_goto X (tgt := 35) dX3_reach_74 (by decide) ?_
        cases hf
        refine x_lpick (lv2 := [(0, .ref (ad 0)), (2, .int y2), (3, .int x3)]) [2, 3, 0] rfl ?_
        exact ih _ _ _ hit kk
      · refine x_iload X dX3_reach_58 0 rfl ?_
        refine x_iload_n X dX3_reach_60 2 rfl ?_
        refine x_icmp_gt X (tgt := 71) dX3_reach_61 (by decide) hf (fun hf => ?_) (fun hf => ?_)
        · refine x_iinc X dX3_reach_71 3 rfl (by decide) (y3 + 1) rfl hf (fun x4 => [(3, .int x4), (4, .int x2), (0, .ref (ad 0)), (2, .int y2)]) (fun _ => rfl) (fun x4 hf => ?_)
          refine x_goto X (tgt := 35) dX3_reach_74 (by decide) ?_
          cases hf
          refine x_lpick (lv2 := [(0, .ref (ad 0)), (2, .int y2), (3, .int x4)]) [2, 3, 0] rfl ?_
          exact ih _ _ _ hit kk
        · refine x_aload_n X dX3_reach_64 1 rfl ?_
          refine x_iload_n X dX3_reach_65 3 rfl ?_
          refine x_iload X dX3_reach_66 0 rfl ?_
          obtain ⟨w5, hw5, hf⟩ := bn_some hf
          refine x_callV_v X E (As := [.int y3, .int x2]) (rest := []) (n := 2) (ws2 := (picC kA ad w5)) (goodV w_5185 w_747 s_27 w_47 w_748) (met_X3_keepReached l E.2.2.2 D kA ad fu w y3 x2 w5 hw5) rfl rfl (by decide +kernel) ⟨by decide, by decide⟩ 0 rfl (qc := (RX3, TX3, _)) rfl rfl rfl rfl (Nat.le_of_ble_eq_true rfl) dX3_reach_68 ⟨by decide, by decide⟩ ?_
          refine x_iinc X dX3_reach_71 3 rfl (by decide) (y3 + 1) rfl hf (fun x6 => [(3, .int x6), (4, .int x2), (0, .ref (ad 0)), (2, .int y2)]) (fun _ => rfl) (fun x6 hf => ?_)
          refine x_goto X (tgt := 35) dX3_reach_74 (by decide) ?_
          cases hf
          refine x_lpick (lv2 := [(0, .ref (ad 0)), (2, .int y2), (3, .int x6)]) [2, 3, 0] rfl ?_
          exact ih _ _ _ hit kk
set_option maxRecDepth 100000 in
set_option maxHeartbeats 4000000 in
theorem met_X3_reach (l : Launch) (hst : l.stackTraces = false) (D : va_G) (kA : Nat → ClassId) (ad : Nat → Nat) (fu : Nat) (w : WS) (a1 : Int32) (a2 : Int32) (o : ((Int32 × WS) ⊕ (String × WS))) (hf : f_X3_reach fu w a1 a2 = some o) (sz : Nat) : vx_Met l yX3_reach (wsY yX3_reach cX3_reach 5 (some .int)) rm_X3_reach (va_Pc [.ref (ad 0), .int a1, .int a2] (PreG D kA (picC kA ad w) sz)) (va_Qi (fun (r : Int32) (w1 : WS) => o = .inl (r, w1)) (fun w1 t => PosG D (va_A (picC kA ad w) sz) (picC kA ad w1) t) (va_A (picC kA ad w) sz)) (vx_X (fun q : String × WS => o = .inr q) (fun E q t => E = q.1 ∧ PosG D (va_A (picC kA ad w) sz) (picC kA ad q.2) t) (va_A (picC kA ad w) sz)) 3 18 (va_A (picC kA ad w) sz) := by
  refine metX (own := RX3) hst (by decide +kernel) rfl (Nat.le_of_ble_eq_true rfl) rfl ?_
  intro p e s m below meth c X hr hlk E htab
  unfold f_X3_reach at hf
  refine x_aload_n X dX3_reach_0 0 rfl ?_
  obtain ⟨o1, ho1, hf, hg⟩ := bx_one hf
  refine x_callX_v X E (As := []) (rest := []) (n := 0) (pic := picC kA ad) (w0 := w) (mc := 1) (ms := 6) (goodV w_5155 w_618 s_16 w_47 w_619) (met_X3_requireHierarchy l E.2.2.2 D kA ad fu w o1 ho1) rfl rfl (by decide +kernel) ⟨by decide, by decide⟩ 0 rfl (qc := (RX3, TX3, _)) rfl rfl rfl rfl (Nat.le_of_ble_eq_true rfl) dX3_reach_1 ⟨by decide, by decide⟩ (fun q ce q9 H1 locs1 ls ho hP hD hS hl hce hcv hcl => x_thru (pic := picC kA ad) htab hlk rfl (Option.some.inj (hg q ho)).symm hP hD hS hce hcv hcl (by decide) (by decide)) (fun w2 ho => ?_)
  have hf := hf _ ho
  refine x_aload_n X dX3_reach_4 0 rfl ?_
  refine x_iload_n X dX3_reach_5 1 rfl ?_
  obtain ⟨o3, ho3, hf, hg⟩ := bx_one hf
  refine x_callX_v X E (As := [.int a1]) (rest := []) (n := 1) (pic := picC kA ad) (w0 := w2) (mc := 1) (ms := 6) (goodV w_5106 w_387 s_1 w_47 w_388) (met_X3_requireJunction l E.2.2.2 D kA ad fu w2 a1 o3 ho3) rfl rfl (by decide +kernel) ⟨by decide, by decide⟩ 0 rfl (qc := (RX3, TX3, _)) rfl rfl rfl rfl (Nat.le_of_ble_eq_true rfl) dX3_reach_6 ⟨by decide, by decide⟩ (fun q ce q9 H1 locs1 ls ho hP hD hS hl hce hcv hcl => x_thru (pic := picC kA ad) htab hlk rfl (Option.some.inj (hg q ho)).symm hP hD hS hce hcv hcl (by decide) (by decide)) (fun w4 ho => ?_)
  have hf := hf _ ho
  refine x_iload_n X dX3_reach_9 2 rfl ?_
  refine x_if_ge X (tgt := 23) dX3_reach_10 (by decide) hf (fun hf => ?_) (fun hf => ?_)
  · refine x_aload_n X dX3_reach_23 0 rfl ?_
    refine x_iload_n X dX3_reach_24 1 rfl ?_
    obtain ⟨w5, hw5, hf⟩ := bn_some hf
    refine x_callV_v X E (As := [.int a1]) (rest := []) (n := 1) (ws2 := (picC kA ad w5)) (goodV w_5162 w_666 s_18 w_47 w_667) (met_X3_searchFrom l E.2.2.2 D kA ad fu w4 a1 w5 hw5) rfl rfl (by decide +kernel) ⟨by decide, by decide⟩ 0 rfl (qc := (RX3, TX3, _)) rfl rfl rfl rfl (Nat.le_of_ble_eq_true rfl) dX3_reach_25 ⟨by decide, by decide⟩ ?_
    refine x_aload_n X dX3_reach_28 0 rfl ?_
    refine x_iconst X (v := 0) dX3_reach_29 (by decide) ?_
    refine x_put X E.1.1 (T := TX3) (C := RX3) (ty := .int) inW3 tyX3 tyX3_ok nmX3 0 rfl rfl 11 (by decide) w_5068 rfl rfl (by decide +kernel) rfl rfl (Nat.le_of_ble_eq_true rfl) dX3_reach_30 (picC kA ad (wI w5 0 10 0)) rfl ?_
    refine x_nmW (pic := (picC kA ad)) (u := (wI w5 0 10 0)) hf (fun w6 hf => ?_)
    refine x_iconst X (v := 0) dX3_reach_33 (by decide) ?_
    refine x_istore_n X (lv2 := [(3, .int 0), (0, .ref (ad 0)), (1, .int a1), (2, .int a2)]) dX3_reach_34 (by decide) rfl ?_
    refine x_lpick (lv2 := [(0, .ref (ad 0)), (2, .int a2), (3, .int 0)]) [1, 3, 0] rfl ?_
    obtain ⟨w7, h8, hf⟩ := bn_some hf
    refine lp_X3_reach_35 X E fu a2 fu (0 : Int32) w6 w7 h8 ?_
    refine x_aload_n X dX3_reach_77 0 rfl ?_
    refine x_get X E.1.1 (T := TX3) (C := RX3) inW3 0 rfl rfl 11 (by decide) w_5068 rfl (v := .int (w7.1 0 10)) rfl dX3_reach_78 ?_
    refine x_nmI hf (fun x9 hf => ?_)
    exact x_iretX X hr hlk rfl (pic := picC kA ad) (Option.some.inj hf) (by decide) (by decide) dX3_reach_81
  · exact x_throw X E (pic := picC kA ad) (text := "a budget is not negative") (is := 209) (ic := 71) (by decide +kernel) w_5111 w_58 (by decide +kernel) (at_IAE_71) (gd_IAE_71) dX3_reach_13 dX3_reach_16 dX3_reach_17 dX3_reach_19 dX3_reach_22 htab hlk rfl (by decide) (by decide) (by decide) (by decide) (by decide) (by decide) (Option.some.inj hf).symm
end
section
variable {p : Program} {l : Launch} {e : Env} {s : State} {m : MethodId} {args : Array Value} {below : List Frame} {meth : Method} {c : Code} {D : va_G} {kA : Nat → ClassId} {A : Nat → Prop} {Q : State → Prop} {ad : Nat → Nat}
abbrev rm_X3_reached : Room := { frames := 6, cells := 1, slots := 6, locals := 90 }
set_option maxRecDepth 100000 in
set_option maxHeartbeats 4000000 in
theorem met_X3_reached (l : Launch) (hst : l.stackTraces = false) (D : va_G) (kA : Nat → ClassId) (ad : Nat → Nat) (fu : Nat) (w : WS) (a1 : Int32) (o : ((Int32 × WS) ⊕ (String × WS))) (hf : f_X3_reached fu w a1 = some o) (sz : Nat) : vx_Met l yX3_reached (wsY yX3_reached cX3_reached 2 (some .int)) rm_X3_reached (va_Pc [.ref (ad 0), .int a1] (PreG D kA (picC kA ad w) sz)) (va_Qi (fun (r : Int32) (w1 : WS) => o = .inl (r, w1)) (fun w1 t => PosG D (va_A (picC kA ad w) sz) (picC kA ad w1) t) (va_A (picC kA ad w) sz)) (vx_X (fun q : String × WS => o = .inr q) (fun E q t => E = q.1 ∧ PosG D (va_A (picC kA ad w) sz) (picC kA ad q.2) t) (va_A (picC kA ad w) sz)) 1 6 (va_A (picC kA ad w) sz) := by
  refine metX (own := RX3) hst (by decide +kernel) rfl (Nat.le_of_ble_eq_true rfl) rfl ?_
  intro p e s m below meth c X hr hlk E htab
  unfold f_X3_reached at hf
  refine x_iload_n X dX3_reached_0 1 rfl ?_
  refine x_if_lt X (tgt := 12) dX3_reached_1 (by decide) hf (fun hf => ?_) (fun hf => ?_)
  · exact x_throw X E (pic := picC kA ad) (text := "no such index among the junctions") (is := 220) (ic := 208) (by decide +kernel) w_5107 w_57 (by decide +kernel) (at_IOB_208) (gd_IOB_208) dX3_reached_12 dX3_reached_15 dX3_reached_16 dX3_reached_18 dX3_reached_21 htab hlk rfl (by decide) (by decide) (by decide) (by decide) (by decide) (by decide) (Option.some.inj hf).symm
  · refine x_iload_n X dX3_reached_4 1 rfl ?_
    refine x_aload_n X dX3_reached_5 0 rfl ?_
    refine x_get X E.1.1 (T := TX3) (C := RX3) inW3 0 rfl rfl 11 (by decide) w_5068 rfl (v := .int (w.1 0 10)) rfl dX3_reached_6 ?_
    refine x_nmI hf (fun x1 hf => ?_)
    refine x_icmp_lt X (tgt := 22) dX3_reached_9 (by decide) hf (fun hf => ?_) (fun hf => ?_)
    · refine x_aload_n X dX3_reached_22 0 rfl ?_
      refine x_get X E.1.1 (T := TX3) (C := RX3) inW3 0 rfl rfl 9 (by decide) w_5066 rfl (v := .ref (ad 7)) rfl dX3_reached_23 ?_
      refine x_iload_n X dX3_reached_26 1 rfl ?_
      refine x_iald X E.1.1 7 rfl dX3_reached_27 hf (fun x2 hf => ?_)
      exact x_iretX X hr hlk rfl (pic := picC kA ad) (Option.some.inj hf) (by decide) (by decide) dX3_reached_28
    · exact x_throw X E (pic := picC kA ad) (text := "no such index among the junctions") (is := 220) (ic := 208) (by decide +kernel) w_5107 w_57 (by decide +kernel) (at_IOB_208) (gd_IOB_208) dX3_reached_12 dX3_reached_15 dX3_reached_16 dX3_reached_18 dX3_reached_21 htab hlk rfl (by decide) (by decide) (by decide) (by decide) (by decide) (by decide) (Option.some.inj hf).symm
end
section
variable {p : Program} {l : Launch} {e : Env} {s : State} {m : MethodId} {args : Array Value} {below : List Frame} {meth : Method} {c : Code} {D : va_G} {kA : Nat → ClassId} {A : Nat → Prop} {Q : State → Prop} {ad : Nat → Nat}
abbrev rm_X3_averageDistance : Room := { frames := 7, cells := 2, slots := 12, locals := 116 }
set_option maxRecDepth 100000 in
set_option maxHeartbeats 4000000 in
theorem lp_X3_averageDistance_21 (X : CX p m c cX3_averageDistance 6 s args RX3) (E : EX l s D kA A) (fu : Nat) (w : WS) (y1 : Int32) : ∀ (n : Nat) (y2 : Int32) (y3 : Int32) (y4 : Int32) (r2 : Int32) (r3 : Int32), iter (fun q => bd_X3_averageDistance_21 fu w y1 q.1 q.2.1 q.2.2) n (y2, y3, y4) = some (r2, r3) → CS p l e rm_X3_averageDistance s m args below meth c D A 6 2 12 Q (picC kA ad w) 66 [(2, .int r2), (3, .int r3)] [] → CS p l e rm_X3_averageDistance s m args below meth c D A 6 2 12 Q (picC kA ad w) 21 [(0, .ref (ad 0)), (1, .int y1), (2, .int y2), (3, .int y3), (4, .int y4)] [] := by
  intro n
  induction n with
  | zero =>
    intro y2 y3 y4 r2 r3 hit kk
    exact (iter_0 hit).elim
  | succ n ih =>
    intro y2 y3 y4 r2 r3 hit kk
    obtain ⟨o, h1, hit⟩ := iter_one hit
    have hf : bd_X3_averageDistance_21 fu w y1 y2 y3 y4 = some o := h1
    unfold bd_X3_averageDistance_21 at hf
    refine x_iload X dX3_averageDistance_21 4 rfl ?_
    refine x_aload_n X dX3_averageDistance_23 0 rfl ?_
    refine x_get X E.1.1 (T := TX3) (C := RX3) inW3 0 rfl rfl 0 (by decide) w_212 rfl (v := .ref (ad 1)) rfl dX3_averageDistance_24 ?_
    refine x_get X E.1.1 (T := TX2) (C := RX2) inW2 1 rfl rfl 0 (by decide) w_5001 rfl (v := .int (w.1 1 0)) rfl dX3_averageDistance_27 ?_
    refine x_nmI hf (fun x1 hf => ?_)
    refine x_icmp_ge X (tgt := 66) dX3_averageDistance_30 (by decide) hf (fun hf => ?_) (fun hf => ?_)
    · cases hf
      cases hit
      refine x_lpick (lv2 := [(2, .int y2), (3, .int y3)]) [2, 3] rfl ?_
      exact kk
    · refine x_aload_n X dX3_averageDistance_33 0 rfl ?_
      refine x_iload X dX3_averageDistance_34 4 rfl ?_
      obtain ⟨x2, hx2, hf⟩ := bn_some hf
      refine x_callV_i X E (As := [.int y4]) (rest := []) (n := 1) (ws2 := (picC kA ad w)) (goodV w_5173 w_681 s_20 w_47 w_5174) (met_X3_foundCost l E.2.2.2 D kA ad fu w y4 x2 hx2) rfl rfl (by decide +kernel) ⟨by decide, by decide⟩ 0 rfl (qc := (RX3, TX3, _)) rfl rfl rfl rfl (Nat.le_of_ble_eq_true rfl) dX3_averageDistance_36 ⟨by decide, by decide⟩ ?_
      refine x_istore X (lv2 := [(5, .int x2), (0, .ref (ad 0)), (1, .int y1), (2, .int y2), (3, .int y3), (4, .int y4)]) dX3_averageDistance_39 (by decide) rfl ?_
      refine x_iload X dX3_averageDistance_41 5 rfl ?_
      refine x_iload_n X dX3_averageDistance_43 2 rfl ?_
      refine x_icmp_eq X (tgt := 60) dX3_averageDistance_44 (by decide) hf (fun hf => ?_) (fun hf => ?_)
      · refine x_iinc X dX3_averageDistance_60 5 rfl (by decide) (y4 + 1) rfl hf (fun x3 => [(4, .int x3), (5, .int x2), (0, .ref (ad 0)), (1, .int y1), (2, .int y2), (3, .int y3)]) (fun _ => rfl) (fun x3 hf => ?_)
        refine x_goto X (tgt := 21) dX3_averageDistance_63 (by decide) ?_
        cases hf
        refine x_lpick (lv2 := [(0, .ref (ad 0)), (1, .int y1), (2, .int y2), (3, .int y3), (4, .int x3)]) [2, 3, 4, 5, 0] rfl ?_
        exact ih _ _ _ _ _ hit kk
      · refine x_iload X dX3_averageDistance_47 0 rfl ?_
        refine x_if_lt X (tgt := 60) dX3_averageDistance_49 (by decide) hf (fun hf => ?_) (fun hf => ?_)
        · refine x_iinc X dX3_averageDistance_60 5 rfl (by decide) (y4 + 1) rfl hf (fun x4 => [(4, .int x4), (5, .int x2), (0, .ref (ad 0)), (1, .int y1), (2, .int y2), (3, .int y3)]) (fun _ => rfl) (fun x4 hf => ?_)
          refine x_goto X (tgt := 21) dX3_averageDistance_63 (by decide) ?_
          cases hf
          refine x_lpick (lv2 := [(0, .ref (ad 0)), (1, .int y1), (2, .int y2), (3, .int y3), (4, .int x4)]) [2, 3, 4, 5, 0] rfl ?_
          exact ih _ _ _ _ _ hit kk
        · refine x_iload_n X dX3_averageDistance_52 3 rfl ?_
          refine x_iload X dX3_averageDistance_53 0 rfl ?_
          refine x_iadd X dX3_averageDistance_55 ?_
          refine x_nmI hf (fun x5 hf => ?_)
          refine x_istore_n X (lv2 := [(2, .int x5), (5, .int x2), (0, .ref (ad 0)), (1, .int y1), (3, .int y3), (4, .int y4)]) dX3_averageDistance_56 (by decide) rfl ?_
          refine x_iinc X dX3_averageDistance_57 4 rfl (by decide) (y3 + 1) rfl hf (fun x6 => [(3, .int x6), (2, .int x5), (5, .int x2), (0, .ref (ad 0)), (1, .int y1), (4, .int y4)]) (fun _ => rfl) (fun x6 hf => ?_)
          refine x_iinc X dX3_averageDistance_60 5 rfl (by decide) (y4 + 1) rfl hf (fun x7 => [(4, .int x7), (3, .int x6), (2, .int x5), (5, .int x2), (0, .ref (ad 0)), (1, .int y1)]) (fun _ => rfl) (fun x7 hf => ?_)
          refine x_goto X (tgt := 21) dX3_averageDistance_63 (by decide) ?_
          cases hf
          refine x_lpick (lv2 := [(0, .ref (ad 0)), (1, .int y1), (2, .int x5), (3, .int x6), (4, .int x7)]) [4, 5, 2, 1, 0] rfl ?_
          exact ih _ _ _ _ _ hit kk
set_option maxRecDepth 100000 in
set_option maxHeartbeats 4000000 in
theorem met_X3_averageDistance (l : Launch) (hst : l.stackTraces = false) (D : va_G) (kA : Nat → ClassId) (ad : Nat → Nat) (fu : Nat) (w : WS) (a1 : Int32) (o : ((UInt64 × WS) ⊕ (String × WS))) (hf : f_X3_averageDistance fu w a1 = some o) (sz : Nat) : vx_Met l yX3_averageDistance (wsY yX3_averageDistance cX3_averageDistance 6 (some .double)) rm_X3_averageDistance (va_Pc [.ref (ad 0), .int a1] (PreG D kA (picC kA ad w) sz)) (va_Qd (fun (r : UInt64) (w1 : WS) => o = .inl (r, w1)) (fun w1 t => PosG D (va_A (picC kA ad w) sz) (picC kA ad w1) t) (va_A (picC kA ad w) sz)) (vx_X (fun q : String × WS => o = .inr q) (fun E q t => E = q.1 ∧ PosG D (va_A (picC kA ad w) sz) (picC kA ad q.2) t) (va_A (picC kA ad w) sz)) 2 12 (va_A (picC kA ad w) sz) := by
  refine metX (own := RX3) hst (by decide +kernel) rfl (Nat.le_of_ble_eq_true rfl) rfl ?_
  intro p e s m below meth c X hr hlk E htab
  unfold f_X3_averageDistance at hf
  refine x_aload_n X dX3_averageDistance_0 0 rfl ?_
  obtain ⟨o1, ho1, hf, hg⟩ := bx_one hf
  refine x_callX_v X E (As := []) (rest := []) (n := 0) (pic := picC kA ad) (w0 := w) (mc := 1) (ms := 6) (goodV w_5155 w_618 s_16 w_47 w_619) (met_X3_requireHierarchy l E.2.2.2 D kA ad fu w o1 ho1) rfl rfl (by decide +kernel) ⟨by decide, by decide⟩ 0 rfl (qc := (RX3, TX3, _)) rfl rfl rfl rfl (Nat.le_of_ble_eq_true rfl) dX3_averageDistance_1 ⟨by decide, by decide⟩ (fun q ce q9 H1 locs1 ls ho hP hD hS hl hce hcv hcl => x_thru (pic := picC kA ad) htab hlk rfl (Option.some.inj (hg q ho)).symm hP hD hS hce hcv hcl (by decide) (by decide)) (fun w2 ho => ?_)
  have hf := hf _ ho
  refine x_aload_n X dX3_averageDistance_4 0 rfl ?_
  refine x_iload_n X dX3_averageDistance_5 1 rfl ?_
  obtain ⟨o3, ho3, hf, hg⟩ := bx_one hf
  refine x_callX_v X E (As := [.int a1]) (rest := []) (n := 1) (pic := picC kA ad) (w0 := w2) (mc := 1) (ms := 6) (goodV w_5106 w_387 s_1 w_47 w_388) (met_X3_requireJunction l E.2.2.2 D kA ad fu w2 a1 o3 ho3) rfl rfl (by decide +kernel) ⟨by decide, by decide⟩ 0 rfl (qc := (RX3, TX3, _)) rfl rfl rfl rfl (Nat.le_of_ble_eq_true rfl) dX3_averageDistance_6 ⟨by decide, by decide⟩ (fun q ce q9 H1 locs1 ls ho hP hD hS hl hce hcv hcl => x_thru (pic := picC kA ad) htab hlk rfl (Option.some.inj (hg q ho)).symm hP hD hS hce hcv hcl (by decide) (by decide)) (fun w4 ho => ?_)
  have hf := hf _ ho
  refine x_aload_n X dX3_averageDistance_9 0 rfl ?_
  refine x_iload_n X dX3_averageDistance_10 1 rfl ?_
  obtain ⟨w5, hw5, hf⟩ := bn_some hf
  refine x_callV_v X E (As := [.int a1]) (rest := []) (n := 1) (ws2 := (picC kA ad w5)) (goodV w_5162 w_666 s_18 w_47 w_667) (met_X3_searchFrom l E.2.2.2 D kA ad fu w4 a1 w5 hw5) rfl rfl (by decide +kernel) ⟨by decide, by decide⟩ 0 rfl (qc := (RX3, TX3, _)) rfl rfl rfl rfl (Nat.le_of_ble_eq_true rfl) dX3_averageDistance_11 ⟨by decide, by decide⟩ ?_
  refine x_iconst X (v := 0) dX3_averageDistance_14 (by decide) ?_
  refine x_istore_n X (lv2 := [(2, .int 0), (0, .ref (ad 0)), (1, .int a1)]) dX3_averageDistance_15 (by decide) rfl ?_
  refine x_iconst X (v := 0) dX3_averageDistance_16 (by decide) ?_
  refine x_istore_n X (lv2 := [(3, .int 0), (2, .int 0), (0, .ref (ad 0)), (1, .int a1)]) dX3_averageDistance_17 (by decide) rfl ?_
  refine x_iconst X (v := 0) dX3_averageDistance_18 (by decide) ?_
  refine x_istore X (lv2 := [(4, .int 0), (3, .int 0), (2, .int 0), (0, .ref (ad 0)), (1, .int a1)]) dX3_averageDistance_19 (by decide) rfl ?_
  refine x_lpick (lv2 := [(0, .ref (ad 0)), (1, .int a1), (2, .int 0), (3, .int 0), (4, .int 0)]) [3, 4, 2, 1, 0] rfl ?_
  obtain ⟨x6, x7, h8, hf⟩ := bn2_some hf
  refine lp_X3_averageDistance_21 X E fu w5 a1 fu (0 : Int32) (0 : Int32) (0 : Int32) x6 x7 h8 ?_
  refine x_iload_n X dX3_averageDistance_66 1 rfl ?_
  refine x_if_ne X (tgt := 74) dX3_averageDistance_67 (by decide) hf (fun hf => ?_) (fun hf => ?_)
  · refine x_iload_n X dX3_averageDistance_74 0 rfl ?_
    refine x_i2d X dX3_averageDistance_75 ?_
    refine x_iload_n X dX3_averageDistance_76 1 rfl ?_
    refine x_i2d X dX3_averageDistance_77 ?_
    refine x_ddiv X dX3_averageDistance_78 hf (fun x9 hf => ?_)
    exact x_dretX X hr hlk rfl (pic := picC kA ad) (Option.some.inj hf) (by decide) (by decide) dX3_averageDistance_79
  · refine x_dconst0 X dX3_averageDistance_70 ?_
    refine x_goto X (tgt := 79) dX3_averageDistance_71 (by decide) ?_
    exact x_dretX X hr hlk rfl (pic := picC kA ad) (Option.some.inj hf) (by decide) (by decide) dX3_averageDistance_79
end
section
variable {p : Program} {l : Launch} {e : Env} {s : State} {m : MethodId} {args : Array Value} {below : List Frame} {meth : Method} {c : Code} {D : va_G} {kA : Nat → ClassId} {A : Nat → Prop} {Q : State → Prop} {ad : Nat → Nat}
abbrev rm_X3_detour : Room := { frames := 7, cells := 5, slots := 30, locals := 138 }
set_option maxRecDepth 100000 in
set_option maxHeartbeats 4000000 in
theorem met_X3_detour (l : Launch) (hst : l.stackTraces = false) (D : va_G) (kA : Nat → ClassId) (ad : Nat → Nat) (fu : Nat) (w : WS) (a1 : Int32) (a2 : Int32) (a3 : Int32) (o : ((Int32 × WS) ⊕ (String × WS))) (hf : f_X3_detour fu w a1 a2 a3 = some o) (sz : Nat) : vx_Met l yX3_detour (wsY yX3_detour cX3_detour 6 (some .int)) rm_X3_detour (va_Pc [.ref (ad 0), .int a1, .int a2, .int a3] (PreG D kA (picC kA ad w) sz)) (va_Qi (fun (r : Int32) (w1 : WS) => o = .inl (r, w1)) (fun w1 t => PosG D (va_A (picC kA ad w) sz) (picC kA ad w1) t) (va_A (picC kA ad w) sz)) (vx_X (fun q : String × WS => o = .inr q) (fun E q t => E = q.1 ∧ PosG D (va_A (picC kA ad w) sz) (picC kA ad q.2) t) (va_A (picC kA ad w) sz)) 5 30 (va_A (picC kA ad w) sz) := by
  refine metX (own := RX3) hst (by decide +kernel) rfl (Nat.le_of_ble_eq_true rfl) rfl ?_
  intro p e s m below meth c X hr hlk E htab
  unfold f_X3_detour at hf
  refine x_aload_n X dX3_detour_0 0 rfl ?_
  obtain ⟨o1, ho1, hf, hg⟩ := bx_one hf
  refine x_callX_v X E (As := []) (rest := []) (n := 0) (pic := picC kA ad) (w0 := w) (mc := 1) (ms := 6) (goodV w_5155 w_618 s_16 w_47 w_619) (met_X3_requireHierarchy l E.2.2.2 D kA ad fu w o1 ho1) rfl rfl (by decide +kernel) ⟨by decide, by decide⟩ 0 rfl (qc := (RX3, TX3, _)) rfl rfl rfl rfl (Nat.le_of_ble_eq_true rfl) dX3_detour_1 ⟨by decide, by decide⟩ (fun q ce q9 H1 locs1 ls ho hP hD hS hl hce hcv hcl => x_thru (pic := picC kA ad) htab hlk rfl (Option.some.inj (hg q ho)).symm hP hD hS hce hcv hcl (by decide) (by decide)) (fun w2 ho => ?_)
  have hf := hf _ ho
  refine x_aload_n X dX3_detour_4 0 rfl ?_
  refine x_iload_n X dX3_detour_5 1 rfl ?_
  obtain ⟨o3, ho3, hf, hg⟩ := bx_one hf
  refine x_callX_v X E (As := [.int a1]) (rest := []) (n := 1) (pic := picC kA ad) (w0 := w2) (mc := 1) (ms := 6) (goodV w_5106 w_387 s_1 w_47 w_388) (met_X3_requireJunction l E.2.2.2 D kA ad fu w2 a1 o3 ho3) rfl rfl (by decide +kernel) ⟨by decide, by decide⟩ 0 rfl (qc := (RX3, TX3, _)) rfl rfl rfl rfl (Nat.le_of_ble_eq_true rfl) dX3_detour_6 ⟨by decide, by decide⟩ (fun q ce q9 H1 locs1 ls ho hP hD hS hl hce hcv hcl => x_thru (pic := picC kA ad) htab hlk rfl (Option.some.inj (hg q ho)).symm hP hD hS hce hcv hcl (by decide) (by decide)) (fun w4 ho => ?_)
  have hf := hf _ ho
  refine x_aload_n X dX3_detour_9 0 rfl ?_
  refine x_iload_n X dX3_detour_10 2 rfl ?_
  obtain ⟨o5, ho5, hf, hg⟩ := bx_one hf
  refine x_callX_v X E (As := [.int a2]) (rest := []) (n := 1) (pic := picC kA ad) (w0 := w4) (mc := 1) (ms := 6) (goodV w_5106 w_387 s_1 w_47 w_388) (met_X3_requireJunction l E.2.2.2 D kA ad fu w4 a2 o5 ho5) rfl rfl (by decide +kernel) ⟨by decide, by decide⟩ 0 rfl (qc := (RX3, TX3, _)) rfl rfl rfl rfl (Nat.le_of_ble_eq_true rfl) dX3_detour_11 ⟨by decide, by decide⟩ (fun q ce q9 H1 locs1 ls ho hP hD hS hl hce hcv hcl => x_thru (pic := picC kA ad) htab hlk rfl (Option.some.inj (hg q ho)).symm hP hD hS hce hcv hcl (by decide) (by decide)) (fun w6 ho => ?_)
  have hf := hf _ ho
  refine x_aload_n X dX3_detour_14 0 rfl ?_
  refine x_iload_n X dX3_detour_15 3 rfl ?_
  obtain ⟨o7, ho7, hf, hg⟩ := bx_one hf
  refine x_callX_v X E (As := [.int a3]) (rest := []) (n := 1) (pic := picC kA ad) (w0 := w6) (mc := 1) (ms := 6) (goodV w_5117 w_443 s_3 w_47 w_444) (met_X3_requireRoad l E.2.2.2 D kA ad fu w6 a3 o7 ho7) rfl rfl (by decide +kernel) ⟨by decide, by decide⟩ 0 rfl (qc := (RX3, TX3, _)) rfl rfl rfl rfl (Nat.le_of_ble_eq_true rfl) dX3_detour_16 ⟨by decide, by decide⟩ (fun q ce q9 H1 locs1 ls ho hP hD hS hl hce hcv hcl => x_thru (pic := picC kA ad) htab hlk rfl (Option.some.inj (hg q ho)).symm hP hD hS hce hcv hcl (by decide) (by decide)) (fun w8 ho => ?_)
  have hf := hf _ ho
  refine x_aload_n X dX3_detour_19 0 rfl ?_
  refine x_iload_n X dX3_detour_20 1 rfl ?_
  refine x_iload_n X dX3_detour_21 2 rfl ?_
  obtain ⟨x10, w9, hx10, hf⟩ := bn2_some hf
  refine x_callV_i X E (As := [.int a1, .int a2]) (rest := []) (n := 2) (ws2 := (picC kA ad w9)) (goodV w_5161 w_662 s_17 w_47 w_663) (met_X3_costBetween l E.2.2.2 D kA ad fu w8 a1 a2 x10 w9 hx10) rfl rfl (by decide +kernel) ⟨by decide, by decide⟩ 0 rfl (qc := (RX3, TX3, _)) rfl rfl rfl rfl (Nat.le_of_ble_eq_true rfl) dX3_detour_22 ⟨by decide, by decide⟩ ?_
  refine x_istore X (lv2 := [(4, .int x10), (0, .ref (ad 0)), (1, .int a1), (2, .int a2), (3, .int a3)]) dX3_detour_25 (by decide) rfl ?_
  refine x_iload X dX3_detour_27 0 rfl ?_
  refine x_if_ge X (tgt := 42) dX3_detour_29 (by decide) hf (fun hf => ?_) (fun hf => ?_)
  · refine x_aload_n X dX3_detour_42 1 rfl ?_
    refine x_get X E.1.1 (T := TX3) (C := RX3) inW3 0 rfl rfl 0 (by decide) w_212 rfl (v := .ref (ad 1)) rfl dX3_detour_43 ?_
    refine x_get X E.1.1 (T := TX2) (C := RX2) inW2 1 rfl rfl 8 (by decide) w_5010 rfl (v := .long (w9.2 1 8)) rfl dX3_detour_46 ?_
    refine x_nmL hf (fun x11 hf => ?_)
    refine x_iload_n X dX3_detour_49 4 rfl ?_
    obtain ⟨x12, hx12, hf⟩ := bn_some hf
    refine x_callS_i X (As := [.long x11, .int a3]) (rest := []) (n := 2) (goodS w_5085 w_274 w_47 w_275) (met_X3_has l fu x11 a3 x12 hx12) rfl rfl (by decide +kernel) ⟨by decide, by decide⟩ rfl rfl (Nat.le_of_ble_eq_true rfl) dX3_detour_50 ⟨by decide, by decide⟩ ?_
    refine x_if_ne X (tgt := 58) dX3_detour_53 (by decide) hf (fun hf => ?_) (fun hf => ?_)
    · refine x_aload_n X dX3_detour_58 1 rfl ?_
      refine x_get X E.1.1 (T := TX3) (C := RX3) inW3 0 rfl rfl 0 (by decide) w_212 rfl (v := .ref (ad 1)) rfl dX3_detour_59 ?_
      refine x_iload_n X dX3_detour_62 4 rfl ?_
      refine x_iconst X (v := 0) dX3_detour_63 (by decide) ?_
      obtain ⟨w13, hw13, hf⟩ := bn_some hf
      refine x_callV_v X E (As := [.int a3, .int 0]) (rest := []) (n := 2) (ws2 := (picC kA ad w13)) (goodV w_5136 w_5137 w_5138 w_48 w_5139) (met_X2_openOrClose l E.2.2.2 D kA ad fu w9 a3 (0 : Int32) w13 hw13) rfl rfl (by decide +kernel) ⟨by decide, by decide⟩ 1 rfl (qc := (RX2, TX2, _)) rfl rfl rfl rfl (Nat.le_of_ble_eq_true rfl) dX3_detour_64 ⟨by decide, by decide⟩ ?_
      refine x_aload_n X dX3_detour_67 1 rfl ?_
      refine x_get X E.1.1 (T := TX3) (C := RX3) inW3 0 rfl rfl 1 (by decide) w_213 rfl (v := .ref (ad 2)) rfl dX3_detour_68 ?_
      refine x_iload_n X dX3_detour_71 4 rfl ?_
      obtain ⟨x15, w14, hx15, hf⟩ := bn2_some hf
      refine x_callV_i X E (As := [.int a3]) (rest := []) (n := 1) (ws2 := (picC kA ad w14)) (goodV w_5118 w_447 w_448 w_50 w_449) (met_X0_renewRoad l E.2.2.2 D kA ad fu w13 a3 x15 w14 hx15) rfl rfl (by decide +kernel) ⟨by decide, by decide⟩ 2 rfl (qc := (RX0, TX0, _)) rfl rfl rfl rfl (Nat.le_of_ble_eq_true rfl) dX3_detour_72 ⟨by decide, by decide⟩ ?_
      refine x_pop X dX3_detour_75 rfl ?_
      refine x_aload_n X dX3_detour_76 1 rfl ?_
      refine x_iload_n X dX3_detour_77 2 rfl ?_
      refine x_iload_n X dX3_detour_78 3 rfl ?_
      obtain ⟨x17, w16, hx17, hf⟩ := bn2_some hf
      refine x_callV_i X E (As := [.int a1, .int a2]) (rest := []) (n := 2) (ws2 := (picC kA ad w16)) (goodV w_5161 w_662 s_17 w_47 w_663) (met_X3_costBetween l E.2.2.2 D kA ad fu w14 a1 a2 x17 w16 hx17) rfl rfl (by decide +kernel) ⟨by decide, by decide⟩ 0 rfl (qc := (RX3, TX3, _)) rfl rfl rfl rfl (Nat.le_of_ble_eq_true rfl) dX3_detour_79 ⟨by decide, by decide⟩ ?_
      refine x_istore X (lv2 := [(5, .int x17), (4, .int x10), (0, .ref (ad 0)), (1, .int a1), (2, .int a2), (3, .int a3)]) dX3_detour_82 (by decide) rfl ?_
      refine x_aload_n X dX3_detour_84 2 rfl ?_
      refine x_get X E.1.1 (T := TX3) (C := RX3) inW3 0 rfl rfl 0 (by decide) w_212 rfl (v := .ref (ad 1)) rfl dX3_detour_85 ?_
      refine x_iload_n X dX3_detour_88 5 rfl ?_
      refine x_iconst X (v := 1) dX3_detour_89 (by decide) ?_
      obtain ⟨w18, hw18, hf⟩ := bn_some hf
      refine x_callV_v X E (As := [.int a3, .int 1]) (rest := []) (n := 2) (ws2 := (picC kA ad w18)) (goodV w_5136 w_5137 w_5138 w_48 w_5139) (met_X2_openOrClose l E.2.2.2 D kA ad fu w16 a3 (1 : Int32) w18 hw18) rfl rfl (by decide +kernel) ⟨by decide, by decide⟩ 1 rfl (qc := (RX2, TX2, _)) rfl rfl rfl rfl (Nat.le_of_ble_eq_true rfl) dX3_detour_90 ⟨by decide, by decide⟩ ?_
      refine x_aload_n X dX3_detour_93 2 rfl ?_
      refine x_get X E.1.1 (T := TX3) (C := RX3) inW3 0 rfl rfl 1 (by decide) w_213 rfl (v := .ref (ad 2)) rfl dX3_detour_94 ?_
      refine x_iload_n X dX3_detour_97 5 rfl ?_
      obtain ⟨x20, w19, hx20, hf⟩ := bn2_some hf
      refine x_callV_i X E (As := [.int a3]) (rest := []) (n := 1) (ws2 := (picC kA ad w19)) (goodV w_5118 w_447 w_448 w_50 w_449) (met_X0_renewRoad l E.2.2.2 D kA ad fu w18 a3 x20 w19 hx20) rfl rfl (by decide +kernel) ⟨by decide, by decide⟩ 2 rfl (qc := (RX0, TX0, _)) rfl rfl rfl rfl (Nat.le_of_ble_eq_true rfl) dX3_detour_98 ⟨by decide, by decide⟩ ?_
      refine x_pop X dX3_detour_101 rfl ?_
      refine x_iload X dX3_detour_102 0 rfl ?_
      refine x_if_ge X (tgt := 111) dX3_detour_104 (by decide) hf (fun hf => ?_) (fun hf => ?_)
      · refine x_iload X dX3_detour_111 0 rfl ?_
        refine x_iload X dX3_detour_113 1 rfl ?_
        refine x_isub X dX3_detour_115 ?_
        exact x_iretX X hr hlk rfl (pic := picC kA ad) (Option.some.inj hf) (by decide) (by decide) dX3_detour_116
      · refine x_iconst X (v := (-1)) dX3_detour_107 (by decide) ?_
        refine x_goto X (tgt := 116) dX3_detour_108 (by decide) ?_
        exact x_iretX X hr hlk rfl (pic := picC kA ad) (Option.some.inj hf) (by decide) (by decide) dX3_detour_116
    · refine x_iconst X (v := 0) dX3_detour_56 (by decide) ?_
      exact x_iretX X hr hlk rfl (pic := picC kA ad) (Option.some.inj hf) (by decide) (by decide) dX3_detour_57
  · exact x_throwN X E (pic := picC kA ad) (text := "there is no path") (is := 196) (ic := 163) w_5156 w_63 (by decide +kernel) (at_NSE_163) (gd_NSE_163) dX3_detour_32 dX3_detour_35 dX3_detour_36 dX3_detour_38 dX3_detour_41 htab hlk rfl (by decide) (by decide) (by decide) (by decide) (by decide) (by decide) (Option.some.inj hf).symm
end
section
variable {p : Program} {l : Launch} {e : Env} {s : State} {m : MethodId} {args : Array Value} {below : List Frame} {meth : Method} {c : Code} {D : va_G} {kA : Nat → ClassId} {A : Nat → Prop} {Q : State → Prop} {ad : Nat → Nat}
abbrev rm_X3_requireKind : Room := { frames := 6, cells := 1, slots := 6, locals := 90 }
set_option maxRecDepth 100000 in
set_option maxHeartbeats 4000000 in
theorem met_X3_requireKind (l : Launch) (hst : l.stackTraces = false) (D : va_G) (kA : Nat → ClassId) (ad : Nat → Nat) (fu : Nat) (w : WS) (a1 : Int32) (o : (WS ⊕ (String × WS))) (hf : f_X3_requireKind fu w a1 = some o) (sz : Nat) : vx_Met l yX3_requireKind (wsY yX3_requireKind cX3_requireKind 2 none) rm_X3_requireKind (va_Pc [.ref (ad 0), .int a1] (PreG D kA (picC kA ad w) sz)) (va_Qv (fun (w1 : WS) => o = .inl w1) (fun w1 t => PosG D (va_A (picC kA ad w) sz) (picC kA ad w1) t) (va_A (picC kA ad w) sz)) (vx_X (fun q : String × WS => o = .inr q) (fun E q t => E = q.1 ∧ PosG D (va_A (picC kA ad w) sz) (picC kA ad q.2) t) (va_A (picC kA ad w) sz)) 1 6 (va_A (picC kA ad w) sz) := by
  refine metX (own := RX3) hst (by decide +kernel) rfl (Nat.le_of_ble_eq_true rfl) rfl ?_
  intro p e s m below meth c X hr hlk E htab
  unfold f_X3_requireKind at hf
  refine x_iload_n X dX3_requireKind_0 1 rfl ?_
  refine x_if_lt X (tgt := 9) dX3_requireKind_1 (by decide) hf (fun hf => ?_) (fun hf => ?_)
  · exact x_throwW X E (pic := picC kA ad) (text := "no such kind") (is := 263) (ic := 208) (by decide +kernel) w_5107 w_57 (by decide +kernel) (at_IOB_208) (gd_IOB_208) dX3_requireKind_9 dX3_requireKind_12 dX3_requireKind_13 dX3_requireKind_16 dX3_requireKind_19 htab hlk rfl (by decide) (by decide) (by decide) (by decide) (by decide) (by decide) (Option.some.inj hf).symm
  · refine x_iload_n X dX3_requireKind_4 1 rfl ?_
    refine x_iconst X (v := 4) dX3_requireKind_5 (by decide) ?_
    refine x_icmp_lt X (tgt := 20) dX3_requireKind_6 (by decide) hf (fun hf => ?_) (fun hf => ?_)
    · exact x_vretX X hr hlk rfl (pic := picC kA ad) (Option.some.inj hf) (by decide) (by decide) dX3_requireKind_20
    · exact x_throwW X E (pic := picC kA ad) (text := "no such kind") (is := 263) (ic := 208) (by decide +kernel) w_5107 w_57 (by decide +kernel) (at_IOB_208) (gd_IOB_208) dX3_requireKind_9 dX3_requireKind_12 dX3_requireKind_13 dX3_requireKind_16 dX3_requireKind_19 htab hlk rfl (by decide) (by decide) (by decide) (by decide) (by decide) (by decide) (Option.some.inj hf).symm
end
section
variable {p : Program} {l : Launch} {e : Env} {s : State} {m : MethodId} {args : Array Value} {below : List Frame} {meth : Method} {c : Code} {D : va_G} {kA : Nat → ClassId} {A : Nat → Prop} {Q : State → Prop} {ad : Nat → Nat}
abbrev rm_X3_setPlace : Room := { frames := 7, cells := 2, slots := 12, locals := 111 }
set_option maxRecDepth 100000 in
set_option maxHeartbeats 4000000 in
theorem met_X3_setPlace (l : Launch) (hst : l.stackTraces = false) (D : va_G) (kA : Nat → ClassId) (ad : Nat → Nat) (fu : Nat) (w : WS) (a1 : Int32) (a2 : Int32) (a3 : Int32) (o : ((Int32 × WS) ⊕ (String × WS))) (hf : f_X3_setPlace fu w a1 a2 a3 = some o) (sz : Nat) : vx_Met l yX3_setPlace (wsY yX3_setPlace cX3_setPlace 5 (some .boolean)) rm_X3_setPlace (va_Pc [.ref (ad 0), .int a1, .int a2, .int a3] (PreG D kA (picC kA ad w) sz)) (va_Qi (fun (r : Int32) (w1 : WS) => o = .inl (r, w1)) (fun w1 t => PosG D (va_A (picC kA ad w) sz) (picC kA ad w1) t) (va_A (picC kA ad w) sz)) (vx_X (fun q : String × WS => o = .inr q) (fun E q t => E = q.1 ∧ PosG D (va_A (picC kA ad w) sz) (picC kA ad q.2) t) (va_A (picC kA ad w) sz)) 2 12 (va_A (picC kA ad w) sz) := by
  refine metX (own := RX3) hst (by decide +kernel) rfl (Nat.le_of_ble_eq_true rfl) rfl ?_
  intro p e s m below meth c X hr hlk E htab
  unfold f_X3_setPlace at hf
  refine x_aload_n X dX3_setPlace_0 0 rfl ?_
  refine x_iload_n X dX3_setPlace_1 1 rfl ?_
  obtain ⟨o1, ho1, hf, hg⟩ := bx_one hf
  refine x_callX_v X E (As := [.int a1]) (rest := []) (n := 1) (pic := picC kA ad) (w0 := w) (mc := 1) (ms := 6) (goodV w_5106 w_387 s_1 w_47 w_388) (met_X3_requireJunction l E.2.2.2 D kA ad fu w a1 o1 ho1) rfl rfl (by decide +kernel) ⟨by decide, by decide⟩ 0 rfl (qc := (RX3, TX3, _)) rfl rfl rfl rfl (Nat.le_of_ble_eq_true rfl) dX3_setPlace_2 ⟨by decide, by decide⟩ (fun q ce q9 H1 locs1 ls ho hP hD hS hl hce hcv hcl => x_thru (pic := picC kA ad) htab hlk rfl (Option.some.inj (hg q ho)).symm hP hD hS hce hcv hcl (by decide) (by decide)) (fun w2 ho => ?_)
  have hf := hf _ ho
  refine x_aload_n X dX3_setPlace_5 0 rfl ?_
  refine x_iload_n X dX3_setPlace_6 2 rfl ?_
  obtain ⟨o3, ho3, hf, hg⟩ := bx_one hf
  refine x_callX_v X E (As := [.int a2]) (rest := []) (n := 1) (pic := picC kA ad) (w0 := w2) (mc := 1) (ms := 6) (goodV w_5186 w_780 s_28 w_47 w_781) (met_X3_requireKind l E.2.2.2 D kA ad fu w2 a2 o3 ho3) rfl rfl (by decide +kernel) ⟨by decide, by decide⟩ 0 rfl (qc := (RX3, TX3, _)) rfl rfl rfl rfl (Nat.le_of_ble_eq_true rfl) dX3_setPlace_7 ⟨by decide, by decide⟩ (fun q ce q9 H1 locs1 ls ho hP hD hS hl hce hcv hcl => x_thru (pic := picC kA ad) htab hlk rfl (Option.some.inj (hg q ho)).symm hP hD hS hce hcv hcl (by decide) (by decide)) (fun w4 ho => ?_)
  have hf := hf _ ho
  refine x_aload_n X dX3_setPlace_10 0 rfl ?_
  refine x_get X E.1.1 (T := TX3) (C := RX3) inW3 0 rfl rfl 3 (by decide) w_215 rfl (v := .ref (ad 4)) rfl dX3_setPlace_11 ?_
  refine x_iload_n X dX3_setPlace_14 1 rfl ?_
  refine x_iload_n X dX3_setPlace_15 2 rfl ?_
  obtain ⟨x5, hx5, hf⟩ := bn_some hf
  refine x_callS_i X (As := [.int a1, .int a2]) (rest := [.ref (ad 4)]) (n := 2) (goodS w_5187 w_784 w_47 w_785) (met_X3_place l fu a1 a2 x5 hx5) rfl rfl (by decide +kernel) ⟨by decide, by decide⟩ rfl rfl (Nat.le_of_ble_eq_true rfl) dX3_setPlace_16 ⟨by decide, by decide⟩ ?_
  refine x_zald X E.1.1 4 rfl dX3_setPlace_19 hf (fun x6 hf => ?_)
  refine x_istore X (lv2 := [(4, .int x6), (0, .ref (ad 0)), (1, .int a1), (2, .int a2), (3, .int a3)]) dX3_setPlace_20 (by decide) rfl ?_
  refine x_aload_n X dX3_setPlace_22 1 rfl ?_
  refine x_get X E.1.1 (T := TX3) (C := RX3) inW3 0 rfl rfl 3 (by decide) w_215 rfl (v := .ref (ad 4)) rfl dX3_setPlace_23 ?_
  refine x_iload_n X dX3_setPlace_26 2 rfl ?_
  refine x_iload_n X dX3_setPlace_27 3 rfl ?_
  obtain ⟨x7, hx7, hf⟩ := bn_some hf
  refine x_callS_i X (As := [.int a1, .int a2]) (rest := [.ref (ad 4)]) (n := 2) (goodS w_5187 w_784 w_47 w_785) (met_X3_place l fu a1 a2 x7 hx7) rfl rfl (by decide +kernel) ⟨by decide, by decide⟩ rfl rfl (Nat.le_of_ble_eq_true rfl) dX3_setPlace_28 ⟨by decide, by decide⟩ ?_
  refine x_iload_n X dX3_setPlace_31 4 rfl ?_
  refine x_zast X E.1.1 4 rfl dX3_setPlace_32 hf (picC kA ad) (setC_4 kA ad _ _ _) (fun w8 hf => ?_)
  refine x_iload X dX3_setPlace_33 0 rfl ?_
  obtain ⟨hz, hf⟩ := ck_some hf
  exact x_zretX X hr hlk rfl (pic := picC kA ad) hz (Option.some.inj hf) (by decide) (by decide) dX3_setPlace_35
end
section
variable {p : Program} {l : Launch} {e : Env} {s : State} {m : MethodId} {args : Array Value} {below : List Frame} {meth : Method} {c : Code} {D : va_G} {kA : Nat → ClassId} {A : Nat → Prop} {Q : State → Prop} {ad : Nat → Nat}
abbrev rm_X3_nearest : Room := { frames := 7, cells := 4, slots := 24, locals := 116 }
set_option maxRecDepth 100000 in
set_option maxHeartbeats 4000000 in
theorem lp_X3_nearest_28 (X : CX p m c cX3_nearest 7 s args RX3) (E : EX l s D kA A) (fu : Nat) (w : WS) (y2 : Int32) : ∀ (n : Nat) (y3 : Int32) (y4 : Int32) (y5 : Int32) (r3 : Int32), iter (fun q => bd_X3_nearest_28 fu w y2 q.1 q.2.1 q.2.2) n (y3, y4, y5) = some (r3) → CS p l e rm_X3_nearest s m args below meth c D A 7 3 18 Q (picC kA ad w) 87 [(3, .int r3)] [] → CS p l e rm_X3_nearest s m args below meth c D A 7 3 18 Q (picC kA ad w) 28 [(0, .ref (ad 0)), (2, .int y2), (3, .int y3), (4, .int y4), (5, .int y5)] [] := by
  intro n
  induction n with
  | zero =>
    intro y3 y4 y5 r3 hit kk
    exact (iter_0 hit).elim
  | succ n ih =>
    intro y3 y4 y5 r3 hit kk
    obtain ⟨o, h1, hit⟩ := iter_one hit
    have hf : bd_X3_nearest_28 fu w y2 y3 y4 y5 = some o := h1
    unfold bd_X3_nearest_28 at hf
    refine x_iload X dX3_nearest_28 4 rfl ?_
    refine x_aload_n X dX3_nearest_30 0 rfl ?_
    refine x_get X E.1.1 (T := TX3) (C := RX3) inW3 0 rfl rfl 0 (by decide) w_212 rfl (v := .ref (ad 1)) rfl dX3_nearest_31 ?_
    refine x_get X E.1.1 (T := TX2) (C := RX2) inW2 1 rfl rfl 0 (by decide) w_5001 rfl (v := .int (w.1 1 0)) rfl dX3_nearest_34 ?_
    refine x_nmI hf (fun x1 hf => ?_)
    refine x_icmp_ge X (tgt := 87) dX3_nearest_37 (by decide) hf (fun hf => ?_) (fun hf => ?_)
    · cases hf
      cases hit
      refine x_lpick (lv2 := [(3, .int y3)]) [2] rfl ?_
      exact kk
    · refine x_aload_n X dX3_nearest_40 0 rfl ?_
      refine x_iload X dX3_nearest_41 4 rfl ?_
      obtain ⟨x2, hx2, hf⟩ := bn_some hf
      refine x_callV_i X E (As := [.int y5]) (rest := []) (n := 1) (ws2 := (picC kA ad w)) (goodV w_5173 w_681 s_20 w_47 w_5174) (met_X3_foundCost l E.2.2.2 D kA ad fu w y5 x2 hx2) rfl rfl (by decide +kernel) ⟨by decide, by decide⟩ 0 rfl (qc := (RX3, TX3, _)) rfl rfl rfl rfl (Nat.le_of_ble_eq_true rfl) dX3_nearest_43 ⟨by decide, by decide⟩ ?_
      refine x_istore X (lv2 := [(6, .int x2), (0, .ref (ad 0)), (2, .int y2), (3, .int y3), (4, .int y4), (5, .int y5)]) dX3_nearest_46 (by decide) rfl ?_
      refine x_aload_n X dX3_nearest_48 1 rfl ?_
      refine x_get X E.1.1 (T := TX3) (C := RX3) inW3 0 rfl rfl 3 (by decide) w_215 rfl (v := .ref (ad 4)) rfl dX3_nearest_49 ?_
      refine x_iload X dX3_nearest_52 5 rfl ?_
      refine x_iload_n X dX3_nearest_54 2 rfl ?_
      obtain ⟨x3, hx3, hf⟩ := bn_some hf
      refine x_callS_i X (As := [.int y5, .int y2]) (rest := [.ref (ad 4)]) (n := 2) (goodS w_5187 w_784 w_47 w_785) (met_X3_place l fu y5 y2 x3 hx3) rfl rfl (by decide +kernel) ⟨by decide, by decide⟩ rfl rfl (Nat.le_of_ble_eq_true rfl) dX3_nearest_55 ⟨by decide, by decide⟩ ?_
      refine x_zald X E.1.1 4 rfl dX3_nearest_58 hf (fun x4 hf => ?_)
      refine x_if_eq X (tgt := 81) dX3_nearest_59 (by decide) hf (fun hf => ?_) (fun hf => ?_)
      · refine x_iinc X dX3_nearest_81 5 rfl (by decide) (y5 + 1) rfl hf (fun x5 => [(5, .int x5), (6, .int x2), (0, .ref (ad 0)), (2, .int y2), (3, .int y3), (4, .int y4)]) (fun _ => rfl) (fun x5 hf => ?_)
        refine x_goto X (tgt := 28) dX3_nearest_84 (by decide) ?_
        cases hf
        refine x_lpick (lv2 := [(0, .ref (ad 0)), (2, .int y2), (3, .int y3), (4, .int y4), (5, .int x5)]) [2, 3, 4, 5, 0] rfl ?_
        exact ih _ _ _ _ hit kk
      · refine x_iload X dX3_nearest_62 0 rfl ?_
        refine x_if_lt X (tgt := 81) dX3_nearest_64 (by decide) hf (fun hf => ?_) (fun hf => ?_)
        · refine x_iinc X dX3_nearest_81 5 rfl (by decide) (y5 + 1) rfl hf (fun x6 => [(5, .int x6), (6, .int x2), (0, .ref (ad 0)), (2, .int y2), (3, .int y3), (4, .int y4)]) (fun _ => rfl) (fun x6 hf => ?_)
          refine x_goto X (tgt := 28) dX3_nearest_84 (by decide) ?_
          cases hf
          refine x_lpick (lv2 := [(0, .ref (ad 0)), (2, .int y2), (3, .int y3), (4, .int y4), (5, .int x6)]) [2, 3, 4, 5, 0] rfl ?_
          exact ih _ _ _ _ hit kk
        · refine x_iload X dX3_nearest_67 0 rfl ?_
          refine x_iload X dX3_nearest_69 4 rfl ?_
          refine x_icmp_ge X (tgt := 81) dX3_nearest_71 (by decide) hf (fun hf => ?_) (fun hf => ?_)
          · refine x_iinc X dX3_nearest_81 5 rfl (by decide) (y5 + 1) rfl hf (fun x7 => [(5, .int x7), (6, .int x2), (0, .ref (ad 0)), (2, .int y2), (3, .int y3), (4, .int y4)]) (fun _ => rfl) (fun x7 hf => ?_)
            refine x_goto X (tgt := 28) dX3_nearest_84 (by decide) ?_
            cases hf
            refine x_lpick (lv2 := [(0, .ref (ad 0)), (2, .int y2), (3, .int y3), (4, .int y4), (5, .int x7)]) [2, 3, 4, 5, 0] rfl ?_
            exact ih _ _ _ _ hit kk
          · refine x_iload X dX3_nearest_74 5 rfl ?_
            refine x_istore_n X (lv2 := [(3, .int y5), (6, .int x2), (0, .ref (ad 0)), (2, .int y2), (4, .int y4), (5, .int y5)]) dX3_nearest_76 (by decide) rfl ?_
            refine x_iload X dX3_nearest_77 1 rfl ?_
            refine x_istore X (lv2 := [(4, .int x2), (3, .int y5), (6, .int x2), (0, .ref (ad 0)), (2, .int y2), (5, .int y5)]) dX3_nearest_79 (by decide) rfl ?_
            refine x_iinc X dX3_nearest_81 5 rfl (by decide) (y5 + 1) rfl hf (fun x8 => [(5, .int x8), (4, .int x2), (3, .int y5), (6, .int x2), (0, .ref (ad 0)), (2, .int y2)]) (fun _ => rfl) (fun x8 hf => ?_)
            refine x_goto X (tgt := 28) dX3_nearest_84 (by decide) ?_
            cases hf
            refine x_lpick (lv2 := [(0, .ref (ad 0)), (2, .int y2), (3, .int y5), (4, .int x2), (5, .int x8)]) [4, 5, 2, 1, 0] rfl ?_
            exact ih _ _ _ _ hit kk
set_option maxRecDepth 100000 in
set_option maxHeartbeats 4000000 in
theorem met_X3_nearest (l : Launch) (hst : l.stackTraces = false) (D : va_G) (kA : Nat → ClassId) (ad : Nat → Nat) (fu : Nat) (w : WS) (a1 : Int32) (a2 : Int32) (o : ((Int32 × WS) ⊕ (String × WS))) (hf : f_X3_nearest fu w a1 a2 = some o) (sz : Nat) : vx_Met l yX3_nearest (wsY yX3_nearest cX3_nearest 7 (some .int)) rm_X3_nearest (va_Pc [.ref (ad 0), .int a1, .int a2] (PreG D kA (picC kA ad w) sz)) (va_Qi (fun (r : Int32) (w1 : WS) => o = .inl (r, w1)) (fun w1 t => PosG D (va_A (picC kA ad w) sz) (picC kA ad w1) t) (va_A (picC kA ad w) sz)) (vx_X (fun q : String × WS => o = .inr q) (fun E q t => E = q.1 ∧ PosG D (va_A (picC kA ad w) sz) (picC kA ad q.2) t) (va_A (picC kA ad w) sz)) 4 24 (va_A (picC kA ad w) sz) := by
  refine metX (own := RX3) hst (by decide +kernel) rfl (Nat.le_of_ble_eq_true rfl) rfl ?_
  intro p e s m below meth c X hr hlk E htab
  unfold f_X3_nearest at hf
  refine x_aload_n X dX3_nearest_0 0 rfl ?_
  obtain ⟨o1, ho1, hf, hg⟩ := bx_one hf
  refine x_callX_v X E (As := []) (rest := []) (n := 0) (pic := picC kA ad) (w0 := w) (mc := 1) (ms := 6) (goodV w_5155 w_618 s_16 w_47 w_619) (met_X3_requireHierarchy l E.2.2.2 D kA ad fu w o1 ho1) rfl rfl (by decide +kernel) ⟨by decide, by decide⟩ 0 rfl (qc := (RX3, TX3, _)) rfl rfl rfl rfl (Nat.le_of_ble_eq_true rfl) dX3_nearest_1 ⟨by decide, by decide⟩ (fun q ce q9 H1 locs1 ls ho hP hD hS hl hce hcv hcl => x_thru (pic := picC kA ad) htab hlk rfl (Option.some.inj (hg q ho)).symm hP hD hS hce hcv hcl (by decide) (by decide)) (fun w2 ho => ?_)
  have hf := hf _ ho
  refine x_aload_n X dX3_nearest_4 0 rfl ?_
  refine x_iload_n X dX3_nearest_5 1 rfl ?_
  obtain ⟨o3, ho3, hf, hg⟩ := bx_one hf
  refine x_callX_v X E (As := [.int a1]) (rest := []) (n := 1) (pic := picC kA ad) (w0 := w2) (mc := 1) (ms := 6) (goodV w_5106 w_387 s_1 w_47 w_388) (met_X3_requireJunction l E.2.2.2 D kA ad fu w2 a1 o3 ho3) rfl rfl (by decide +kernel) ⟨by decide, by decide⟩ 0 rfl (qc := (RX3, TX3, _)) rfl rfl rfl rfl (Nat.le_of_ble_eq_true rfl) dX3_nearest_6 ⟨by decide, by decide⟩ (fun q ce q9 H1 locs1 ls ho hP hD hS hl hce hcv hcl => x_thru (pic := picC kA ad) htab hlk rfl (Option.some.inj (hg q ho)).symm hP hD hS hce hcv hcl (by decide) (by decide)) (fun w4 ho => ?_)
  have hf := hf _ ho
  refine x_aload_n X dX3_nearest_9 0 rfl ?_
  refine x_iload_n X dX3_nearest_10 2 rfl ?_
  obtain ⟨o5, ho5, hf, hg⟩ := bx_one hf
  refine x_callX_v X E (As := [.int a2]) (rest := []) (n := 1) (pic := picC kA ad) (w0 := w4) (mc := 1) (ms := 6) (goodV w_5186 w_780 s_28 w_47 w_781) (met_X3_requireKind l E.2.2.2 D kA ad fu w4 a2 o5 ho5) rfl rfl (by decide +kernel) ⟨by decide, by decide⟩ 0 rfl (qc := (RX3, TX3, _)) rfl rfl rfl rfl (Nat.le_of_ble_eq_true rfl) dX3_nearest_11 ⟨by decide, by decide⟩ (fun q ce q9 H1 locs1 ls ho hP hD hS hl hce hcv hcl => x_thru (pic := picC kA ad) htab hlk rfl (Option.some.inj (hg q ho)).symm hP hD hS hce hcv hcl (by decide) (by decide)) (fun w6 ho => ?_)
  have hf := hf _ ho
  refine x_aload_n X dX3_nearest_14 0 rfl ?_
  refine x_iload_n X dX3_nearest_15 1 rfl ?_
  obtain ⟨w7, hw7, hf⟩ := bn_some hf
  refine x_callV_v X E (As := [.int a1]) (rest := []) (n := 1) (ws2 := (picC kA ad w7)) (goodV w_5162 w_666 s_18 w_47 w_667) (met_X3_searchFrom l E.2.2.2 D kA ad fu w6 a1 w7 hw7) rfl rfl (by decide +kernel) ⟨by decide, by decide⟩ 0 rfl (qc := (RX3, TX3, _)) rfl rfl rfl rfl (Nat.le_of_ble_eq_true rfl) dX3_nearest_16 ⟨by decide, by decide⟩ ?_
  refine x_iconst X (v := (-1)) dX3_nearest_19 (by decide) ?_
  refine x_istore_n X (lv2 := [(3, .int (-1)), (0, .ref (ad 0)), (1, .int a1), (2, .int a2)]) dX3_nearest_20 (by decide) rfl ?_
  refine x_ldc X (v := 536870912) w_5089 dX3_nearest_21 ?_
  refine x_istore X (lv2 := [(4, .int 536870912), (3, .int (-1)), (0, .ref (ad 0)), (1, .int a1), (2, .int a2)]) dX3_nearest_23 (by decide) rfl ?_
  refine x_iconst X (v := 0) dX3_nearest_25 (by decide) ?_
  refine x_istore X (lv2 := [(5, .int 0), (4, .int 536870912), (3, .int (-1)), (0, .ref (ad 0)), (1, .int a1), (2, .int a2)]) dX3_nearest_26 (by decide) rfl ?_
  refine x_lpick (lv2 := [(0, .ref (ad 0)), (2, .int a2), (3, .int (-1)), (4, .int 536870912), (5, .int 0)]) [3, 5, 2, 1, 0] rfl ?_
  obtain ⟨x8, h9, hf⟩ := bn_some hf
  refine lp_X3_nearest_28 X E fu w7 a2 fu ((-1) : Int32) (536870912 : Int32) (0 : Int32) x8 h9 ?_
  refine x_iload_n X dX3_nearest_87 0 rfl ?_
  refine x_if_ge X (tgt := 101) dX3_nearest_88 (by decide) hf (fun hf => ?_) (fun hf => ?_)
  · refine x_iload_n X dX3_nearest_101 0 rfl ?_
    exact x_iretX X hr hlk rfl (pic := picC kA ad) (Option.some.inj hf) (by decide) (by decide) dX3_nearest_102
  · exact x_throwN X E (pic := picC kA ad) (text := "there is no path to such a place") (is := 228) (ic := 163) w_5156 w_63 (by decide +kernel) (at_NSE_163) (gd_NSE_163) dX3_nearest_91 dX3_nearest_94 dX3_nearest_95 dX3_nearest_97 dX3_nearest_100 htab hlk rfl (by decide) (by decide) (by decide) (by decide) (by decide) (by decide) (Option.some.inj hf).symm
end
section
variable {p : Program} {l : Launch} {e : Env} {s : State} {m : MethodId} {args : Array Value} {below : List Frame} {meth : Method} {c : Code} {D : va_G} {kA : Nat → ClassId} {A : Nat → Prop} {Q : State → Prop} {ad : Nat → Nat}
abbrev rm_X3_push : Room := { frames := 6, cells := 1, slots := 6, locals := 90 }
set_option maxRecDepth 100000 in
set_option maxHeartbeats 4000000 in
theorem met_X3_push (l : Launch) (hst : l.stackTraces = false) (D : va_G) (kA : Nat → ClassId) (ad : Nat → Nat) (fu : Nat) (w : WS)  (o : ((Int32 × WS) ⊕ (String × WS))) (hf : f_X3_push fu w = some o) (sz : Nat) : vx_Met l yX3_push (wsY yX3_push cX3_push 1 (some .int)) rm_X3_push (va_Pc [.ref (ad 0)] (PreG D kA (picC kA ad w) sz)) (va_Qi (fun (r : Int32) (w1 : WS) => o = .inl (r, w1)) (fun w1 t => PosG D (va_A (picC kA ad w) sz) (picC kA ad w1) t) (va_A (picC kA ad w) sz)) (vx_X (fun q : String × WS => o = .inr q) (fun E q t => E = q.1 ∧ PosG D (va_A (picC kA ad w) sz) (picC kA ad q.2) t) (va_A (picC kA ad w) sz)) 1 6 (va_A (picC kA ad w) sz) := by
  refine metX (own := RX3) hst (by decide +kernel) rfl (Nat.le_of_ble_eq_true rfl) rfl ?_
  intro p e s m below meth c X hr hlk E htab
  unfold f_X3_push at hf
  refine x_aload_n X dX3_push_0 0 rfl ?_
  refine x_get X E.1.1 (T := TX3) (C := RX3) inW3 0 rfl rfl 2 (by decide) w_214 rfl (v := .ref (ad 3)) rfl dX3_push_1 ?_
  refine x_get X E.1.1 (T := TX1) (C := RX1) inW1 3 rfl rfl 0 (by decide) w_5054 rfl (v := .int (w.1 3 0)) rfl dX3_push_4 ?_
  refine x_nmI hf (fun x1 hf => ?_)
  refine x_bipush X (v := 8) dX3_push_7 (by decide) ?_
  refine x_icmp_lt X (tgt := 22) dX3_push_9 (by decide) hf (fun hf => ?_) (fun hf => ?_)
  · refine x_aload_n X dX3_push_22 0 rfl ?_
    refine x_get X E.1.1 (T := TX3) (C := RX3) inW3 0 rfl rfl 2 (by decide) w_214 rfl (v := .ref (ad 3)) rfl dX3_push_23 ?_
    refine x_aload_n X dX3_push_26 0 rfl ?_
    refine x_get X E.1.1 (T := TX3) (C := RX3) inW3 0 rfl rfl 0 (by decide) w_212 rfl (v := .ref (ad 1)) rfl dX3_push_27 ?_
    obtain ⟨w2, hw2, hf⟩ := bn_some hf
    refine x_callV_v X E (As := [.ref (ad 1)]) (rest := []) (n := 1) (ws2 := (picC kA ad w2)) (goodV w_5188 w_803 w_804 w_51 w_805) (met_X1_store l E.2.2.2 D kA ad fu w w2 hw2) rfl rfl (by decide +kernel) ⟨by decide, by decide⟩ 3 rfl (qc := (RX1, TX1, _)) rfl rfl rfl rfl (Nat.le_of_ble_eq_true rfl) dX3_push_30 ⟨by decide, by decide⟩ ?_
    refine x_aload_n X dX3_push_33 0 rfl ?_
    refine x_get X E.1.1 (T := TX3) (C := RX3) inW3 0 rfl rfl 2 (by decide) w_214 rfl (v := .ref (ad 3)) rfl dX3_push_34 ?_
    refine x_get X E.1.1 (T := TX1) (C := RX1) inW1 3 rfl rfl 0 (by decide) w_5054 rfl (v := .int (w2.1 3 0)) rfl dX3_push_37 ?_
    refine x_nmI hf (fun x3 hf => ?_)
    exact x_iretX X hr hlk rfl (pic := picC kA ad) (Option.some.inj hf) (by decide) (by decide) dX3_push_40
  · exact x_throw X E (pic := picC kA ad) (text := "no more levels") (is := 233) (ic := 60) (by decide +kernel) w_5090 w_56 (by decide +kernel) (at_ISE_60) (gd_ISE_60) dX3_push_12 dX3_push_15 dX3_push_16 dX3_push_18 dX3_push_21 htab hlk rfl (by decide) (by decide) (by decide) (by decide) (by decide) (by decide) (Option.some.inj hf).symm
end
section
variable {p : Program} {l : Launch} {e : Env} {s : State} {m : MethodId} {args : Array Value} {below : List Frame} {meth : Method} {c : Code} {D : va_G} {kA : Nat → ClassId} {A : Nat → Prop} {Q : State → Prop} {ad : Nat → Nat}
abbrev rm_X3_pop : Room := { frames := 6, cells := 1, slots := 6, locals := 137 }
set_option maxRecDepth 100000 in
set_option maxHeartbeats 4000000 in
theorem met_X3_pop (l : Launch) (hst : l.stackTraces = false) (D : va_G) (kA : Nat → ClassId) (ad : Nat → Nat) (fu : Nat) (w : WS)  (o : ((Int32 × WS) ⊕ (String × WS))) (hf : f_X3_pop fu w = some o) (sz : Nat) : vx_Met l yX3_pop (wsY yX3_pop cX3_pop 1 (some .int)) rm_X3_pop (va_Pc [.ref (ad 0)] (PreG D kA (picC kA ad w) sz)) (va_Qi (fun (r : Int32) (w1 : WS) => o = .inl (r, w1)) (fun w1 t => PosG D (va_A (picC kA ad w) sz) (picC kA ad w1) t) (va_A (picC kA ad w) sz)) (vx_X (fun q : String × WS => o = .inr q) (fun E q t => E = q.1 ∧ PosG D (va_A (picC kA ad w) sz) (picC kA ad q.2) t) (va_A (picC kA ad w) sz)) 1 6 (va_A (picC kA ad w) sz) := by
  refine metX (own := RX3) hst (by decide +kernel) rfl (Nat.le_of_ble_eq_true rfl) rfl ?_
  intro p e s m below meth c X hr hlk E htab
  unfold f_X3_pop at hf
  refine x_aload_n X dX3_pop_0 0 rfl ?_
  refine x_get X E.1.1 (T := TX3) (C := RX3) inW3 0 rfl rfl 2 (by decide) w_214 rfl (v := .ref (ad 3)) rfl dX3_pop_1 ?_
  refine x_get X E.1.1 (T := TX1) (C := RX1) inW1 3 rfl rfl 0 (by decide) w_5054 rfl (v := .int (w.1 3 0)) rfl dX3_pop_4 ?_
  refine x_nmI hf (fun x1 hf => ?_)
  refine x_if_gt X (tgt := 20) dX3_pop_7 (by decide) hf (fun hf => ?_) (fun hf => ?_)
  · refine x_aload_n X dX3_pop_20 0 rfl ?_
    refine x_get X E.1.1 (T := TX3) (C := RX3) inW3 0 rfl rfl 2 (by decide) w_214 rfl (v := .ref (ad 3)) rfl dX3_pop_21 ?_
    refine x_aload_n X dX3_pop_24 0 rfl ?_
    refine x_get X E.1.1 (T := TX3) (C := RX3) inW3 0 rfl rfl 0 (by decide) w_212 rfl (v := .ref (ad 1)) rfl dX3_pop_25 ?_
    obtain ⟨w2, hw2, hf⟩ := bn_some hf
    refine x_callV_v X E (As := [.ref (ad 1)]) (rest := []) (n := 1) (ws2 := (picC kA ad w2)) (goodV w_5189 w_818 w_819 w_51 w_820) (met_X1_restore l E.2.2.2 D kA ad fu w w2 hw2) rfl rfl (by decide +kernel) ⟨by decide, by decide⟩ 3 rfl (qc := (RX1, TX1, _)) rfl rfl rfl rfl (Nat.le_of_ble_eq_true rfl) dX3_pop_28 ⟨by decide, by decide⟩ ?_
    refine x_aload_n X dX3_pop_31 0 rfl ?_
    refine x_get X E.1.1 (T := TX3) (C := RX3) inW3 0 rfl rfl 1 (by decide) w_213 rfl (v := .ref (ad 2)) rfl dX3_pop_32 ?_
    obtain ⟨x4, w3, hx4, hf⟩ := bn2_some hf
    refine x_callV_i X E (As := []) (rest := []) (n := 0) (ws2 := (picC kA ad w3)) (goodV w_5143 w_546 w_547 w_50 w_548) (met_X0_renewAll l E.2.2.2 D kA ad fu w2 x4 w3 hx4) rfl rfl (by decide +kernel) ⟨by decide, by decide⟩ 2 rfl (qc := (RX0, TX0, _)) rfl rfl rfl rfl (Nat.le_of_ble_eq_true rfl) dX3_pop_35 ⟨by decide, by decide⟩ ?_
    exact x_iretX X hr hlk rfl (pic := picC kA ad) (Option.some.inj hf) (by decide) (by decide) dX3_pop_38
  · exact x_throw X E (pic := picC kA ad) (text := "there is no level") (is := 238) (ic := 60) (by decide +kernel) w_5090 w_56 (by decide +kernel) (at_ISE_60) (gd_ISE_60) dX3_pop_10 dX3_pop_13 dX3_pop_14 dX3_pop_16 dX3_pop_19 htab hlk rfl (by decide) (by decide) (by decide) (by decide) (by decide) (by decide) (Option.some.inj hf).symm
end
section
variable {p : Program} {l : Launch} {e : Env} {s : State} {m : MethodId} {args : Array Value} {below : List Frame} {meth : Method} {c : Code} {D : va_G} {kA : Nat → ClassId} {A : Nat → Prop} {Q : State → Prop} {ad : Nat → Nat}
abbrev rm_X3_digest : Room := { frames := 2, cells := 0, slots := 0, locals := 48 }
set_option maxRecDepth 100000 in
set_option maxHeartbeats 4000000 in
theorem lp_X3_digest_80 (X : CX p m c cX3_digest 4 s args RX3) (E : EX l s D kA A) (fu : Nat) (w : WS) : ∀ (n : Nat) (y1 : Int64) (y3 : Int32) (r1 : Int64), iter (fun q => bd_X3_digest_80 fu w q.1 q.2) n (y1, y3) = some (r1) → CS p l e rm_X3_digest s m args below meth c D A 4 0 0 Q (picC kA ad w) 168 [(0, .ref (ad 0)), (1, .long r1)] [] → CS p l e rm_X3_digest s m args below meth c D A 4 0 0 Q (picC kA ad w) 80 [(0, .ref (ad 0)), (1, .long y1), (3, .int y3)] [] := by
  intro n
  induction n with
  | zero =>
    intro y1 y3 r1 hit kk
    exact (iter_0 hit).elim
  | succ n ih =>
    intro y1 y3 r1 hit kk
    obtain ⟨o, h1, hit⟩ := iter_one hit
    have hf : bd_X3_digest_80 fu w y1 y3 = some o := h1
    unfold bd_X3_digest_80 at hf
    refine x_iload_n X dX3_digest_80 2 rfl ?_
    refine x_aload_n X dX3_digest_81 0 rfl ?_
    refine x_get X E.1.1 (T := TX3) (C := RX3) inW3 0 rfl rfl 0 (by decide) w_212 rfl (v := .ref (ad 1)) rfl dX3_digest_82 ?_
    refine x_get X E.1.1 (T := TX2) (C := RX2) inW2 1 rfl rfl 1 (by decide) w_5003 rfl (v := .int (w.1 1 1)) rfl dX3_digest_85 ?_
    refine x_nmI hf (fun x1 hf => ?_)
    refine x_icmp_ge X (tgt := 168) dX3_digest_88 (by decide) hf (fun hf => ?_) (fun hf => ?_)
    · cases hf
      cases hit
      refine x_lpick (lv2 := [(0, .ref (ad 0)), (1, .long y1)]) [0, 1] rfl ?_
      exact kk
    · refine x_lload_n X dX3_digest_91 1 rfl ?_
      refine x_ldc2 X (v := 31) w_5084 dX3_digest_92 ?_
      refine x_lmul X dX3_digest_95 ?_
      refine x_aload_n X dX3_digest_96 0 rfl ?_
      refine x_get X E.1.1 (T := TX3) (C := RX3) inW3 0 rfl rfl 0 (by decide) w_212 rfl (v := .ref (ad 1)) rfl dX3_digest_97 ?_
      refine x_get X E.1.1 (T := TX2) (C := RX2) inW2 1 rfl rfl 4 (by decide) w_5006 rfl (v := .ref (ad 11)) rfl dX3_digest_100 ?_
      refine x_iload_n X dX3_digest_103 2 rfl ?_
      refine x_iald X E.1.1 11 rfl dX3_digest_104 hf (fun x2 hf => ?_)
      refine x_i2l X dX3_digest_105 ?_
      refine x_ladd X dX3_digest_106 ?_
      refine x_nmL hf (fun x3 hf => ?_)
      refine x_lstore_n X (lv2 := [(1, .long x3), (0, .ref (ad 0)), (3, .int y3)]) dX3_digest_107 (by decide) rfl ?_
      refine x_lload_n X dX3_digest_108 0 rfl ?_
      refine x_ldc2 X (v := 31) w_5084 dX3_digest_109 ?_
      refine x_lmul X dX3_digest_112 ?_
      refine x_aload_n X dX3_digest_113 1 rfl ?_
      refine x_get X E.1.1 (T := TX3) (C := RX3) inW3 0 rfl rfl 0 (by decide) w_212 rfl (v := .ref (ad 1)) rfl dX3_digest_114 ?_
      refine x_get X E.1.1 (T := TX2) (C := RX2) inW2 1 rfl rfl 8 (by decide) w_5010 rfl (v := .long (w.2 1 8)) rfl dX3_digest_117 ?_
      refine x_nmL hf (fun x4 hf => ?_)
      refine x_iload_n X dX3_digest_120 2 rfl ?_
      obtain ⟨x5, hx5, hf⟩ := bn_some hf
      refine x_callS_i X (As := [.long x4, .int y3]) (rest := [.long (x3 * 31)]) (n := 2) (goodS w_5085 w_274 w_47 w_275) (met_X3_has l fu x4 y3 x5 hx5) rfl rfl (by decide +kernel) ⟨by decide, by decide⟩ rfl rfl (Nat.le_of_ble_eq_true rfl) dX3_digest_121 ⟨by decide, by decide⟩ ?_
      refine x_if_eq X (tgt := 131) dX3_digest_124 (by decide) hf (fun hf => ?_) (fun hf => ?_)
      · refine x_iconst X (v := 0) dX3_digest_131 (by decide) ?_
        refine x_i2l X dX3_digest_132 ?_
        refine x_ladd X dX3_digest_133 ?_
        refine x_nmL hf (fun x6 hf => ?_)
        refine x_lstore_n X (lv2 := [(1, .long x6), (0, .ref (ad 0)), (3, .int y3)]) dX3_digest_134 (by decide) rfl ?_
        refine x_aload_n X dX3_digest_135 1 rfl ?_
        refine x_get X E.1.1 (T := TX3) (C := RX3) inW3 0 rfl rfl 1 (by decide) w_213 rfl (v := .ref (ad 2)) rfl dX3_digest_136 ?_
        refine x_get X E.1.1 (T := TX0) (C := RX0) inW0 2 rfl rfl 1 (by decide) w_5025 rfl (v := .int (w.1 2 1)) rfl dX3_digest_139 ?_
        refine x_nmI hf (fun x7 hf => ?_)
        refine x_if_eq X (tgt := 162) dX3_digest_142 (by decide) hf (fun hf => ?_) (fun hf => ?_)
        · refine x_iinc X dX3_digest_162 2 rfl (by decide) (y3 + 1) rfl hf (fun x8 => [(3, .int x8), (1, .long x6), (0, .ref (ad 0))]) (fun _ => rfl) (fun x8 hf => ?_)
          refine x_goto X (tgt := 80) dX3_digest_165 (by decide) ?_
          cases hf
          refine x_lpick (lv2 := [(0, .ref (ad 0)), (1, .long x6), (3, .int x8)]) [2, 1, 0] rfl ?_
          exact ih _ _ _ hit kk
        · refine x_lload_n X dX3_digest_145 0 rfl ?_
          refine x_ldc2 X (v := 31) w_5084 dX3_digest_146 ?_
          refine x_lmul X dX3_digest_149 ?_
          refine x_aload_n X dX3_digest_150 1 rfl ?_
          refine x_get X E.1.1 (T := TX3) (C := RX3) inW3 0 rfl rfl 1 (by decide) w_213 rfl (v := .ref (ad 2)) rfl dX3_digest_151 ?_
          refine x_get X E.1.1 (T := TX0) (C := RX0) inW0 2 rfl rfl 5 (by decide) w_5031 rfl (v := .ref (ad 15)) rfl dX3_digest_154 ?_
          refine x_iload_n X dX3_digest_157 2 rfl ?_
          refine x_iald X E.1.1 15 rfl dX3_digest_158 hf (fun x9 hf => ?_)
          refine x_i2l X dX3_digest_159 ?_
          refine x_ladd X dX3_digest_160 ?_
          refine x_nmL hf (fun x10 hf => ?_)
          refine x_lstore_n X (lv2 := [(1, .long x10), (0, .ref (ad 0)), (3, .int y3)]) dX3_digest_161 (by decide) rfl ?_
          refine x_iinc X dX3_digest_162 2 rfl (by decide) (y3 + 1) rfl hf (fun x11 => [(3, .int x11), (1, .long x10), (0, .ref (ad 0))]) (fun _ => rfl) (fun x11 hf => ?_)
          refine x_goto X (tgt := 80) dX3_digest_165 (by decide) ?_
          cases hf
          refine x_lpick (lv2 := [(0, .ref (ad 0)), (1, .long x10), (3, .int x11)]) [2, 1, 0] rfl ?_
          exact ih _ _ _ hit kk
      · refine x_iconst X (v := 1) dX3_digest_127 (by decide) ?_
        refine x_goto X (tgt := 132) dX3_digest_128 (by decide) ?_
        refine x_i2l X dX3_digest_132 ?_
        refine x_ladd X dX3_digest_133 ?_
        refine x_nmL hf (fun x12 hf => ?_)
        refine x_lstore_n X (lv2 := [(1, .long x12), (0, .ref (ad 0)), (3, .int y3)]) dX3_digest_134 (by decide) rfl ?_
        refine x_aload_n X dX3_digest_135 1 rfl ?_
        refine x_get X E.1.1 (T := TX3) (C := RX3) inW3 0 rfl rfl 1 (by decide) w_213 rfl (v := .ref (ad 2)) rfl dX3_digest_136 ?_
        refine x_get X E.1.1 (T := TX0) (C := RX0) inW0 2 rfl rfl 1 (by decide) w_5025 rfl (v := .int (w.1 2 1)) rfl dX3_digest_139 ?_
        refine x_nmI hf (fun x13 hf => ?_)
        refine x_if_eq X (tgt := 162) dX3_digest_142 (by decide) hf (fun hf => ?_) (fun hf => ?_)
        · refine x_iinc X dX3_digest_162 2 rfl (by decide) (y3 + 1) rfl hf (fun x14 => [(3, .int x14), (1, .long x12), (0, .ref (ad 0))]) (fun _ => rfl) (fun x14 hf => ?_)
          refine x_goto X (tgt := 80) dX3_digest_165 (by decide) ?_
          cases hf
          refine x_lpick (lv2 := [(0, .ref (ad 0)), (1, .long x12), (3, .int x14)]) [2, 1, 0] rfl ?_
          exact ih _ _ _ hit kk
        · refine x_lload_n X dX3_digest_145 0 rfl ?_
          refine x_ldc2 X (v := 31) w_5084 dX3_digest_146 ?_
          refine x_lmul X dX3_digest_149 ?_
          refine x_aload_n X dX3_digest_150 1 rfl ?_
          refine x_get X E.1.1 (T := TX3) (C := RX3) inW3 0 rfl rfl 1 (by decide) w_213 rfl (v := .ref (ad 2)) rfl dX3_digest_151 ?_
          refine x_get X E.1.1 (T := TX0) (C := RX0) inW0 2 rfl rfl 5 (by decide) w_5031 rfl (v := .ref (ad 15)) rfl dX3_digest_154 ?_
          refine x_iload_n X dX3_digest_157 2 rfl ?_
          refine x_iald X E.1.1 15 rfl dX3_digest_158 hf (fun x15 hf => ?_)
          refine x_i2l X dX3_digest_159 ?_
          refine x_ladd X dX3_digest_160 ?_
          refine x_nmL hf (fun x16 hf => ?_)
          refine x_lstore_n X (lv2 := [(1, .long x16), (0, .ref (ad 0)), (3, .int y3)]) dX3_digest_161 (by decide) rfl ?_
          refine x_iinc X dX3_digest_162 2 rfl (by decide) (y3 + 1) rfl hf (fun x17 => [(3, .int x17), (1, .long x16), (0, .ref (ad 0))]) (fun _ => rfl) (fun x17 hf => ?_)
          refine x_goto X (tgt := 80) dX3_digest_165 (by decide) ?_
          cases hf
          refine x_lpick (lv2 := [(0, .ref (ad 0)), (1, .long x16), (3, .int x17)]) [2, 1, 0] rfl ?_
          exact ih _ _ _ hit kk
set_option maxRecDepth 100000 in
set_option maxHeartbeats 4000000 in
theorem met_X3_digest (l : Launch) (hst : l.stackTraces = false) (D : va_G) (kA : Nat → ClassId) (ad : Nat → Nat) (fu : Nat) (w : WS)  (v : Int64) (hf : f_X3_digest fu w = some v) (sz : Nat) : Met l yX3_digest (wsY yX3_digest cX3_digest 4 (some .long)) rm_X3_digest (va_Pc [.ref (ad 0)] (PreG D kA (picC kA ad w) sz)) (va_Ql (fun (r : Int64) (_ : Unit) => r = v) (fun _ t => PosG D (va_A (picC kA ad w) sz) (picC kA ad w) t) (va_A (picC kA ad w) sz)) 0 0 (va_A (picC kA ad w) sz) := by
  refine metG (own := RX3) hst (by decide +kernel) rfl (Nat.le_of_ble_eq_true rfl) rfl ?_
  intro p e s m below meth c X hr hlk E _
  unfold f_X3_digest at hf
  refine x_ldc2 X (v := 23) w_5083 dX3_digest_0 ?_
  refine x_lstore_n X (lv2 := [(1, .long 23), (0, .ref (ad 0))]) dX3_digest_3 (by decide) rfl ?_
  refine x_lload_n X dX3_digest_4 0 rfl ?_
  refine x_ldc2 X (v := 31) w_5084 dX3_digest_5 ?_
  refine x_lmul X dX3_digest_8 ?_
  refine x_aload_n X dX3_digest_9 1 rfl ?_
  refine x_get X E.1.1 (T := TX3) (C := RX3) inW3 0 rfl rfl 0 (by decide) w_212 rfl (v := .ref (ad 1)) rfl dX3_digest_10 ?_
  refine x_get X E.1.1 (T := TX2) (C := RX2) inW2 1 rfl rfl 0 (by decide) w_5001 rfl (v := .int (w.1 1 0)) rfl dX3_digest_13 ?_
  refine x_nmI hf (fun x1 hf => ?_)
  refine x_i2l X dX3_digest_16 ?_
  refine x_ladd X dX3_digest_17 ?_
  refine x_nmL hf (fun x2 hf => ?_)
  refine x_lstore_n X (lv2 := [(1, .long x2), (0, .ref (ad 0))]) dX3_digest_18 (by decide) rfl ?_
  refine x_lload_n X dX3_digest_19 0 rfl ?_
  refine x_ldc2 X (v := 31) w_5084 dX3_digest_20 ?_
  refine x_lmul X dX3_digest_23 ?_
  refine x_aload_n X dX3_digest_24 1 rfl ?_
  refine x_get X E.1.1 (T := TX3) (C := RX3) inW3 0 rfl rfl 0 (by decide) w_212 rfl (v := .ref (ad 1)) rfl dX3_digest_25 ?_
  refine x_get X E.1.1 (T := TX2) (C := RX2) inW2 1 rfl rfl 1 (by decide) w_5003 rfl (v := .int (w.1 1 1)) rfl dX3_digest_28 ?_
  refine x_nmI hf (fun x3 hf => ?_)
  refine x_i2l X dX3_digest_31 ?_
  refine x_ladd X dX3_digest_32 ?_
  refine x_nmL hf (fun x4 hf => ?_)
  refine x_lstore_n X (lv2 := [(1, .long x4), (0, .ref (ad 0))]) dX3_digest_33 (by decide) rfl ?_
  refine x_lload_n X dX3_digest_34 0 rfl ?_
  refine x_ldc2 X (v := 31) w_5084 dX3_digest_35 ?_
  refine x_lmul X dX3_digest_38 ?_
  refine x_aload_n X dX3_digest_39 1 rfl ?_
  refine x_get X E.1.1 (T := TX3) (C := RX3) inW3 0 rfl rfl 2 (by decide) w_214 rfl (v := .ref (ad 3)) rfl dX3_digest_40 ?_
  refine x_get X E.1.1 (T := TX1) (C := RX1) inW1 3 rfl rfl 0 (by decide) w_5054 rfl (v := .int (w.1 3 0)) rfl dX3_digest_43 ?_
  refine x_nmI hf (fun x5 hf => ?_)
  refine x_i2l X dX3_digest_46 ?_
  refine x_ladd X dX3_digest_47 ?_
  refine x_nmL hf (fun x6 hf => ?_)
  refine x_lstore_n X (lv2 := [(1, .long x6), (0, .ref (ad 0))]) dX3_digest_48 (by decide) rfl ?_
  refine x_lload_n X dX3_digest_49 0 rfl ?_
  refine x_ldc2 X (v := 31) w_5084 dX3_digest_50 ?_
  refine x_lmul X dX3_digest_53 ?_
  refine x_aload_n X dX3_digest_54 1 rfl ?_
  refine x_get X E.1.1 (T := TX3) (C := RX3) inW3 0 rfl rfl 1 (by decide) w_213 rfl (v := .ref (ad 2)) rfl dX3_digest_55 ?_
  refine x_get X E.1.1 (T := TX0) (C := RX0) inW0 2 rfl rfl 1 (by decide) w_5025 rfl (v := .int (w.1 2 1)) rfl dX3_digest_58 ?_
  refine x_nmI hf (fun x7 hf => ?_)
  refine x_if_eq X (tgt := 74) dX3_digest_61 (by decide) hf (fun hf => ?_) (fun hf => ?_)
  · refine x_iconst X (v := 0) dX3_digest_74 (by decide) ?_
    refine x_i2l X dX3_digest_75 ?_
    refine x_ladd X dX3_digest_76 ?_
    refine x_nmL hf (fun x8 hf => ?_)
    refine x_lstore_n X (lv2 := [(1, .long x8), (0, .ref (ad 0))]) dX3_digest_77 (by decide) rfl ?_
    refine x_iconst X (v := 0) dX3_digest_78 (by decide) ?_
    refine x_istore_n X (lv2 := [(3, .int 0), (1, .long x8), (0, .ref (ad 0))]) dX3_digest_79 (by decide) rfl ?_
    refine x_lpick (lv2 := [(0, .ref (ad 0)), (1, .long x8), (3, .int 0)]) [2, 1, 0] rfl ?_
    obtain ⟨x9, h10, hf⟩ := bn_some hf
    refine lp_X3_digest_80 X E fu w fu x8 (0 : Int32) x9 h10 ?_
    refine x_aload_n X dX3_digest_168 0 rfl ?_
    refine x_get X E.1.1 (T := TX3) (C := RX3) inW3 0 rfl rfl 1 (by decide) w_213 rfl (v := .ref (ad 2)) rfl dX3_digest_169 ?_
    refine x_get X E.1.1 (T := TX0) (C := RX0) inW0 2 rfl rfl 1 (by decide) w_5025 rfl (v := .int (w.1 2 1)) rfl dX3_digest_172 ?_
    refine x_nmI hf (fun x11 hf => ?_)
    refine x_if_eq X (tgt := 189) dX3_digest_175 (by decide) hf (fun hf => ?_) (fun hf => ?_)
    · refine x_lload_n X dX3_digest_189 1 rfl ?_
      exact x_lret X hr hlk rfl (Option.some.inj hf) dX3_digest_190
    · refine x_aload_n X dX3_digest_178 0 rfl ?_
      refine x_get X E.1.1 (T := TX3) (C := RX3) inW3 0 rfl rfl 1 (by decide) w_213 rfl (v := .ref (ad 2)) rfl dX3_digest_179 ?_
      refine x_lload_n X dX3_digest_182 1 rfl ?_
      obtain ⟨x12, hx12, hf⟩ := bn_some hf
      refine x_callV_l X E (As := [.long x9]) (rest := []) (n := 1) (ws2 := (picC kA ad w)) (goodV w_5086 w_277 w_278 w_50 w_5087) (met_X0_addArcs l E.2.2.2 D kA ad fu w x9 x12 hx12) rfl rfl (by decide +kernel) ⟨by decide, by decide⟩ 2 rfl (qc := (RX0, TX0, _)) rfl rfl rfl rfl (Nat.le_of_ble_eq_true rfl) dX3_digest_183 ⟨by decide, by decide⟩ ?_
      refine x_goto X (tgt := 190) dX3_digest_186 (by decide) ?_
      exact x_lret X hr hlk rfl (Option.some.inj hf) dX3_digest_190
  · refine x_aload_n X dX3_digest_64 1 rfl ?_
    refine x_get X E.1.1 (T := TX3) (C := RX3) inW3 0 rfl rfl 1 (by decide) w_213 rfl (v := .ref (ad 2)) rfl dX3_digest_65 ?_
    refine x_get X E.1.1 (T := TX0) (C := RX0) inW0 2 rfl rfl 3 (by decide) w_5028 rfl (v := .int (w.1 2 3)) rfl dX3_digest_68 ?_
    refine x_nmI hf (fun x13 hf => ?_)
    refine x_goto X (tgt := 75) dX3_digest_71 (by decide) ?_
    refine x_i2l X dX3_digest_75 ?_
    refine x_ladd X dX3_digest_76 ?_
    refine x_nmL hf (fun x14 hf => ?_)
    refine x_lstore_n X (lv2 := [(1, .long x14), (0, .ref (ad 0))]) dX3_digest_77 (by decide) rfl ?_
    refine x_iconst X (v := 0) dX3_digest_78 (by decide) ?_
    refine x_istore_n X (lv2 := [(3, .int 0), (1, .long x14), (0, .ref (ad 0))]) dX3_digest_79 (by decide) rfl ?_
    refine x_lpick (lv2 := [(0, .ref (ad 0)), (1, .long x14), (3, .int 0)]) [2, 1, 0] rfl ?_
    obtain ⟨x15, h16, hf⟩ := bn_some hf
    refine lp_X3_digest_80 X E fu w fu x14 (0 : Int32) x15 h16 ?_
    refine x_aload_n X dX3_digest_168 0 rfl ?_
    refine x_get X E.1.1 (T := TX3) (C := RX3) inW3 0 rfl rfl 1 (by decide) w_213 rfl (v := .ref (ad 2)) rfl dX3_digest_169 ?_
    refine x_get X E.1.1 (T := TX0) (C := RX0) inW0 2 rfl rfl 1 (by decide) w_5025 rfl (v := .int (w.1 2 1)) rfl dX3_digest_172 ?_
    refine x_nmI hf (fun x17 hf => ?_)
    refine x_if_eq X (tgt := 189) dX3_digest_175 (by decide) hf (fun hf => ?_) (fun hf => ?_)
    · refine x_lload_n X dX3_digest_189 1 rfl ?_
      exact x_lret X hr hlk rfl (Option.some.inj hf) dX3_digest_190
    · refine x_aload_n X dX3_digest_178 0 rfl ?_
      refine x_get X E.1.1 (T := TX3) (C := RX3) inW3 0 rfl rfl 1 (by decide) w_213 rfl (v := .ref (ad 2)) rfl dX3_digest_179 ?_
      refine x_lload_n X dX3_digest_182 1 rfl ?_
      obtain ⟨x18, hx18, hf⟩ := bn_some hf
      refine x_callV_l X E (As := [.long x15]) (rest := []) (n := 1) (ws2 := (picC kA ad w)) (goodV w_5086 w_277 w_278 w_50 w_5087) (met_X0_addArcs l E.2.2.2 D kA ad fu w x15 x18 hx18) rfl rfl (by decide +kernel) ⟨by decide, by decide⟩ 2 rfl (qc := (RX0, TX0, _)) rfl rfl rfl rfl (Nat.le_of_ble_eq_true rfl) dX3_digest_183 ⟨by decide, by decide⟩ ?_
      refine x_goto X (tgt := 190) dX3_digest_186 (by decide) ?_
      exact x_lret X hr hlk rfl (Option.some.inj hf) dX3_digest_190
end
