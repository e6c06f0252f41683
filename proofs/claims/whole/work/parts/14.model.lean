section
variable {p : Program} {l : Launch} {e : Env} {s : State} {m : MethodId} {args : Array Value} {below : List Frame} {meth : Method} {c : Code} {D : va_G} {kA : Nat → ClassId} {A : Nat → Prop} {Q : State → Prop} {ad : Nat → Nat}
abbrev rm_X4_thrown : Room := { frames := 0, cells := 0, slots := 0, locals := 0 }
set_option maxRecDepth 100000 in
set_option maxHeartbeats 4000000 in
theorem met_X4_thrown (l : Launch) (hst : l.stackTraces = false) (D : va_G) (kA : Nat → ClassId) (ad : Nat → Nat) (fu : Nat) (w : WS)  (v : Int32) (hf : f_X4_thrown fu w = some v) (sz : Nat) : Met l yX4_thrown (wsY yX4_thrown cX4_thrown 1 (some .int)) rm_X4_thrown (va_Pc [.ref (ad 0)] (PreG D kA (picM kA ad w) sz)) (va_Qi (fun (r : Int32) (_ : Unit) => r = v) (fun _ t => PosG D (va_A (picM kA ad w) sz) (picM kA ad w) t) (va_A (picM kA ad w) sz)) 0 0 (va_A (picM kA ad w) sz) := by
  refine metG (own := RX4) hst (by decide +kernel) rfl (Nat.le_of_ble_eq_true rfl) rfl ?_
  intro p e s m below meth c X hr hlk E _
  unfold f_X4_thrown at hf
  refine x_aload_n X dX4_thrown_0 0 rfl ?_
  refine x_get X E.1.1 (T := TX4) (C := RX4) inW4 0 rfl rfl 0 (by decide) w_830 rfl (v := .int (w.1 0 0)) rfl dX4_thrown_1 ?_
  refine x_nmI hf (fun x1 hf => ?_)
  exact x_iret X hr hlk rfl (Option.some.inj hf) dX4_thrown_4
end
section
variable {p : Program} {l : Launch} {e : Env} {s : State} {m : MethodId} {args : Array Value} {below : List Frame} {meth : Method} {c : Code} {D : va_G} {kA : Nat → ClassId} {A : Nat → Prop} {Q : State → Prop} {ad : Nat → Nat}
abbrev rm_X4_fail : Room := { frames := 0, cells := 0, slots := 0, locals := 0 }
set_option maxRecDepth 100000 in
set_option maxHeartbeats 4000000 in
theorem met_X4_fail (l : Launch) (hst : l.stackTraces = false) (D : va_G) (kA : Nat → ClassId) (ad : Nat → Nat) (fu : Nat) (w : WS) (a1 : Int32) (v : Int32) (w1 : WS) (hf : f_X4_fail fu w a1 = some (v, w1)) (sz : Nat) : Met l yX4_fail (wsY yX4_fail cX4_fail 2 (some .int)) rm_X4_fail (va_Pc [.ref (ad 0), .int a1] (PreG D kA (picM kA ad w) sz)) (va_Qi (fun (r : Int32) (_ : Unit) => r = v) (fun _ t => PosG D (va_A (picM kA ad w) sz) (picM kA ad w1) t) (va_A (picM kA ad w) sz)) 0 0 (va_A (picM kA ad w) sz) := by
  refine metG (own := RX4) hst (by decide +kernel) rfl (Nat.le_of_ble_eq_true rfl) rfl ?_
  intro p e s m below meth c X hr hlk E _
  unfold f_X4_fail at hf
  refine x_aload_n X dX4_fail_0 0 rfl ?_
  refine x_iload_n X dX4_fail_1 1 rfl ?_
  refine x_put X E.1.1 (T := TX4) (C := RX4) (ty := .int) inW4 tyX4 tyX4_ok nmX4 0 rfl rfl 0 (by decide) w_830 rfl rfl (by decide +kernel) rfl rfl (Nat.le_of_ble_eq_true rfl) dX4_fail_2 (picM kA ad (wI w 0 0 a1)) rfl ?_
  refine x_nmW (pic := picM kA ad) (u := (wI w 0 0 a1)) hf (fun w1 hf => ?_)
  refine x_iconst X (v := 0) dX4_fail_5 (by decide) ?_
  cases hf
  exact x_iret X hr hlk rfl rfl dX4_fail_6
end
section
variable {p : Program} {l : Launch} {e : Env} {s : State} {m : MethodId} {args : Array Value} {below : List Frame} {meth : Method} {c : Code} {D : va_G} {kA : Nat → ClassId} {A : Nat → Prop} {Q : State → Prop} {ad : Nat → Nat}
abbrev rm_X4_isJunction : Room := { frames := 0, cells := 0, slots := 0, locals := 0 }
set_option maxRecDepth 100000 in
set_option maxHeartbeats 4000000 in
theorem met_X4_isJunction (l : Launch) (hst : l.stackTraces = false) (D : va_G) (kA : Nat → ClassId) (ad : Nat → Nat) (fu : Nat) (w : WS) (a1 : Int32) (v : Int32) (hf : f_X4_isJunction fu w a1 = some v) (sz : Nat) : Met l yX4_isJunction (wsY yX4_isJunction cX4_isJunction 2 (some .boolean)) rm_X4_isJunction (va_Pc [.ref (ad 0), .int a1] (PreG D kA (picM kA ad w) sz)) (va_Qi (fun (r : Int32) (_ : Unit) => r = v) (fun _ t => PosG D (va_A (picM kA ad w) sz) (picM kA ad w) t) (va_A (picM kA ad w) sz)) 0 0 (va_A (picM kA ad w) sz) := by
  refine metG (own := RX4) hst (by decide +kernel) rfl (Nat.le_of_ble_eq_true rfl) rfl ?_
  intro p e s m below meth c X hr hlk E _
  unfold f_X4_isJunction at hf
  refine x_iload_n X dX4_isJunction_0 1 rfl ?_
  refine x_if_lt X (tgt := 16) dX4_isJunction_1 (by decide) hf (fun hf => ?_) (fun hf => ?_)
  · refine x_iconst X (v := 0) dX4_isJunction_16 (by decide) ?_
    exact x_zret X hr hlk rfl (by decide) (Option.some.inj hf) dX4_isJunction_17
  · refine x_iload_n X dX4_isJunction_4 1 rfl ?_
    refine x_aload_n X dX4_isJunction_5 0 rfl ?_
    refine x_get X E.1.1 (T := TX4) (C := RX4) inW4 0 rfl rfl 1 (by decide) w_831 rfl (v := .int (w.1 0 1)) rfl dX4_isJunction_6 ?_
    refine x_nmI hf (fun x1 hf => ?_)
    refine x_icmp_ge X (tgt := 16) dX4_isJunction_9 (by decide) hf (fun hf => ?_) (fun hf => ?_)
    · refine x_iconst X (v := 0) dX4_isJunction_16 (by decide) ?_
      exact x_zret X hr hlk rfl (by decide) (Option.some.inj hf) dX4_isJunction_17
    · refine x_iconst X (v := 1) dX4_isJunction_12 (by decide) ?_
      refine x_goto X (tgt := 17) dX4_isJunction_13 (by decide) ?_
      exact x_zret X hr hlk rfl (by decide) (Option.some.inj hf) dX4_isJunction_17
end
section
variable {p : Program} {l : Launch} {e : Env} {s : State} {m : MethodId} {args : Array Value} {below : List Frame} {meth : Method} {c : Code} {D : va_G} {kA : Nat → ClassId} {A : Nat → Prop} {Q : State → Prop} {ad : Nat → Nat}
abbrev rm_X4_isRoad : Room := { frames := 0, cells := 0, slots := 0, locals := 0 }
set_option maxRecDepth 100000 in
set_option maxHeartbeats 4000000 in
theorem met_X4_isRoad (l : Launch) (hst : l.stackTraces = false) (D : va_G) (kA : Nat → ClassId) (ad : Nat → Nat) (fu : Nat) (w : WS) (a1 : Int32) (v : Int32) (hf : f_X4_isRoad fu w a1 = some v) (sz : Nat) : Met l yX4_isRoad (wsY yX4_isRoad cX4_isRoad 2 (some .boolean)) rm_X4_isRoad (va_Pc [.ref (ad 0), .int a1] (PreG D kA (picM kA ad w) sz)) (va_Qi (fun (r : Int32) (_ : Unit) => r = v) (fun _ t => PosG D (va_A (picM kA ad w) sz) (picM kA ad w) t) (va_A (picM kA ad w) sz)) 0 0 (va_A (picM kA ad w) sz) := by
  refine metG (own := RX4) hst (by decide +kernel) rfl (Nat.le_of_ble_eq_true rfl) rfl ?_
  intro p e s m below meth c X hr hlk E _
  unfold f_X4_isRoad at hf
  refine x_iload_n X dX4_isRoad_0 1 rfl ?_
  refine x_if_lt X (tgt := 16) dX4_isRoad_1 (by decide) hf (fun hf => ?_) (fun hf => ?_)
  · refine x_iconst X (v := 0) dX4_isRoad_16 (by decide) ?_
    exact x_zret X hr hlk rfl (by decide) (Option.some.inj hf) dX4_isRoad_17
  · refine x_iload_n X dX4_isRoad_4 1 rfl ?_
    refine x_aload_n X dX4_isRoad_5 0 rfl ?_
    refine x_get X E.1.1 (T := TX4) (C := RX4) inW4 0 rfl rfl 2 (by decide) w_832 rfl (v := .int (w.1 0 2)) rfl dX4_isRoad_6 ?_
    refine x_nmI hf (fun x1 hf => ?_)
    refine x_icmp_ge X (tgt := 16) dX4_isRoad_9 (by decide) hf (fun hf => ?_) (fun hf => ?_)
    · refine x_iconst X (v := 0) dX4_isRoad_16 (by decide) ?_
      exact x_zret X hr hlk rfl (by decide) (Option.some.inj hf) dX4_isRoad_17
    · refine x_iconst X (v := 1) dX4_isRoad_12 (by decide) ?_
      refine x_goto X (tgt := 17) dX4_isRoad_13 (by decide) ?_
      exact x_zret X hr hlk rfl (by decide) (Option.some.inj hf) dX4_isRoad_17
end
section
variable {p : Program} {l : Launch} {e : Env} {s : State} {m : MethodId} {args : Array Value} {below : List Frame} {meth : Method} {c : Code} {D : va_G} {kA : Nat → ClassId} {A : Nat → Prop} {Q : State → Prop} {ad : Nat → Nat}
abbrev rm_X4_follows : Room := { frames := 0, cells := 0, slots := 0, locals := 0 }
set_option maxRecDepth 100000 in
set_option maxHeartbeats 4000000 in
theorem met_X4_follows (l : Launch) (hst : l.stackTraces = false) (D : va_G) (kA : Nat → ClassId) (ad : Nat → Nat) (fu : Nat) (w : WS) (a1 : Int32) (a2 : Int32) (v : Int32) (hf : f_X4_follows fu w a1 a2 = some v) (sz : Nat) : Met l yX4_follows (wsY yX4_follows cX4_follows 3 (some .boolean)) rm_X4_follows (va_Pc [.ref (ad 0), .int a1, .int a2] (PreG D kA (picM kA ad w) sz)) (va_Qi (fun (r : Int32) (_ : Unit) => r = v) (fun _ t => PosG D (va_A (picM kA ad w) sz) (picM kA ad w) t) (va_A (picM kA ad w) sz)) 0 0 (va_A (picM kA ad w) sz) := by
  refine metG (own := RX4) hst (by decide +kernel) rfl (Nat.le_of_ble_eq_true rfl) rfl ?_
  intro p e s m below meth c X hr hlk E _
  unfold f_X4_follows at hf
  refine x_aload_n X dX4_follows_0 0 rfl ?_
  refine x_get X E.1.1 (T := TX4) (C := RX4) inW4 0 rfl rfl 4 (by decide) w_834 rfl (v := .ref (ad 2)) rfl dX4_follows_1 ?_
  refine x_iload_n X dX4_follows_4 1 rfl ?_
  refine x_iald X E.1.1 2 rfl dX4_follows_5 hf (fun x1 hf => ?_)
  refine x_aload_n X dX4_follows_6 0 rfl ?_
  refine x_get X E.1.1 (T := TX4) (C := RX4) inW4 0 rfl rfl 3 (by decide) w_833 rfl (v := .ref (ad 1)) rfl dX4_follows_7 ?_
  refine x_iload_n X dX4_follows_10 2 rfl ?_
  refine x_iald X E.1.1 1 rfl dX4_follows_11 hf (fun x2 hf => ?_)
  refine x_icmp_ne X (tgt := 19) dX4_follows_12 (by decide) hf (fun hf => ?_) (fun hf => ?_)
  · refine x_iconst X (v := 0) dX4_follows_19 (by decide) ?_
    exact x_zret X hr hlk rfl (by decide) (Option.some.inj hf) dX4_follows_20
  · refine x_iconst X (v := 1) dX4_follows_15 (by decide) ?_
    refine x_goto X (tgt := 20) dX4_follows_16 (by decide) ?_
    exact x_zret X hr hlk rfl (by decide) (Option.some.inj hf) dX4_follows_20
end
section
variable {p : Program} {l : Launch} {e : Env} {s : State} {m : MethodId} {args : Array Value} {below : List Frame} {meth : Method} {c : Code} {D : va_G} {kA : Nat → ClassId} {A : Nat → Prop} {Q : State → Prop} {ad : Nat → Nat}
abbrev rm_X4_addJunction : Room := { frames := 1, cells := 0, slots := 0, locals := 21 }
set_option maxRecDepth 100000 in
set_option maxHeartbeats 4000000 in
theorem met_X4_addJunction (l : Launch) (hst : l.stackTraces = false) (D : va_G) (kA : Nat → ClassId) (ad : Nat → Nat) (fu : Nat) (w : WS)  (v : Int32) (w1 : WS) (hf : f_X4_addJunction fu w = some (v, w1)) (sz : Nat) : Met l yX4_addJunction (wsY yX4_addJunction cX4_addJunction 1 (some .int)) rm_X4_addJunction (va_Pc [.ref (ad 0)] (PreG D kA (picM kA ad w) sz)) (va_Qi (fun (r : Int32) (_ : Unit) => r = v) (fun _ t => PosG D (va_A (picM kA ad w) sz) (picM kA ad w1) t) (va_A (picM kA ad w) sz)) 0 0 (va_A (picM kA ad w) sz) := by
  refine metG (own := RX4) hst (by decide +kernel) rfl (Nat.le_of_ble_eq_true rfl) rfl ?_
  intro p e s m below meth c X hr hlk E _
  unfold f_X4_addJunction at hf
  refine x_aload_n X dX4_addJunction_0 0 rfl ?_
  refine x_iconst X (v := 0) dX4_addJunction_1 (by decide) ?_
  refine x_put X E.1.1 (T := TX4) (C := RX4) (ty := .int) inW4 tyX4 tyX4_ok nmX4 0 rfl rfl 0 (by decide) w_830 rfl rfl (by decide +kernel) rfl rfl (Nat.le_of_ble_eq_true rfl) dX4_addJunction_2 (picM kA ad (wI w 0 0 0)) rfl ?_
  refine x_nmW (pic := picM kA ad) (u := (wI w 0 0 0)) hf (fun w1 hf => ?_)
  refine x_aload_n X dX4_addJunction_5 0 rfl ?_
  refine x_get X E.1.1 (T := TX4) (C := RX4) inW4 0 rfl rfl 1 (by decide) w_831 rfl (v := .int (w1.1 0 1)) rfl dX4_addJunction_6 ?_
  refine x_nmI hf (fun x2 hf => ?_)
  refine x_bipush X (v := 32) dX4_addJunction_9 (by decide) ?_
  refine x_icmp_ne X (tgt := 20) dX4_addJunction_11 (by decide) hf (fun hf => ?_) (fun hf => ?_)
  · refine x_aload_n X dX4_addJunction_20 0 rfl ?_
    refine x_dup X dX4_addJunction_21 rfl ?_
    refine x_get X E.1.1 (T := TX4) (C := RX4) inW4 0 rfl rfl 1 (by decide) w_831 rfl (v := .int (w1.1 0 1)) rfl dX4_addJunction_22 ?_
    refine x_nmI hf (fun x3 hf => ?_)
    refine x_iconst X (v := 1) dX4_addJunction_25 (by decide) ?_
    refine x_iadd X dX4_addJunction_26 ?_
    refine x_put X E.1.1 (T := TX4) (C := RX4) (ty := .int) inW4 tyX4 tyX4_ok nmX4 0 rfl rfl 1 (by decide) w_831 rfl rfl (by decide +kernel) rfl rfl (Nat.le_of_ble_eq_true rfl) dX4_addJunction_27 (picM kA ad (wI w1 0 1 (x3 + 1))) rfl ?_
    refine x_nmW (pic := picM kA ad) (u := (wI w1 0 1 (x3 + 1))) hf (fun w4 hf => ?_)
    refine x_aload_n X dX4_addJunction_30 0 rfl ?_
    refine x_get X E.1.1 (T := TX4) (C := RX4) inW4 0 rfl rfl 1 (by decide) w_831 rfl (v := .int (w4.1 0 1)) rfl dX4_addJunction_31 ?_
    refine x_nmI hf (fun x5 hf => ?_)
    refine x_iconst X (v := 1) dX4_addJunction_34 (by decide) ?_
    refine x_isub X dX4_addJunction_35 ?_
    cases hf
    exact x_iret X hr hlk rfl rfl dX4_addJunction_36
  · refine x_aload_n X dX4_addJunction_14 0 rfl ?_
    refine x_iconst X (v := 1) dX4_addJunction_15 (by decide) ?_
    obtain ⟨x7, w6, hx7, hf⟩ := bn2_some hf
    refine x_callV_i X E (As := [.int 1]) (rest := []) (n := 1) (ws2 := (picM kA ad w6)) (goodV w_935 w_937 s_29 w_52 w_938) (met_X4_fail l E.2.2.2 D kA ad fu w1 (1 : Int32) x7 w6 hx7) rfl rfl (by decide +kernel) ⟨by decide, by decide⟩ 0 rfl (qc := (RX4, TX4, _)) rfl rfl rfl rfl (Nat.le_of_ble_eq_true rfl) dX4_addJunction_16 ⟨by decide, by decide⟩ ?_
    cases hf
    exact x_iret X hr hlk rfl rfl dX4_addJunction_19
end
section
variable {p : Program} {l : Launch} {e : Env} {s : State} {m : MethodId} {args : Array Value} {below : List Frame} {meth : Method} {c : Code} {D : va_G} {kA : Nat → ClassId} {A : Nat → Prop} {Q : State → Prop} {ad : Nat → Nat}
abbrev rm_X4_addRoad : Room := { frames := 1, cells := 0, slots := 0, locals := 21 }
set_option maxRecDepth 100000 in
set_option maxHeartbeats 4000000 in
theorem met_X4_addRoad (l : Launch) (hst : l.stackTraces = false) (D : va_G) (kA : Nat → ClassId) (ad : Nat → Nat) (fu : Nat) (w : WS) (a1 : Int32) (a2 : Int32) (a3 : Int32) (v : Int32) (w1 : WS) (hf : f_X4_addRoad fu w a1 a2 a3 = some (v, w1)) (sz : Nat) : Met l yX4_addRoad (wsY yX4_addRoad cX4_addRoad 4 (some .int)) rm_X4_addRoad (va_Pc [.ref (ad 0), .int a1, .int a2, .int a3] (PreG D kA (picM kA ad w) sz)) (va_Qi (fun (r : Int32) (_ : Unit) => r = v) (fun _ t => PosG D (va_A (picM kA ad w) sz) (picM kA ad w1) t) (va_A (picM kA ad w) sz)) 0 0 (va_A (picM kA ad w) sz) := by
  refine metG (own := RX4) hst (by decide +kernel) rfl (Nat.le_of_ble_eq_true rfl) rfl ?_
  intro p e s m below meth c X hr hlk E _
  unfold f_X4_addRoad at hf
  refine x_aload_n X dX4_addRoad_0 0 rfl ?_
  refine x_iconst X (v := 0) dX4_addRoad_1 (by decide) ?_
  refine x_put X E.1.1 (T := TX4) (C := RX4) (ty := .int) inW4 tyX4 tyX4_ok nmX4 0 rfl rfl 0 (by decide) w_830 rfl rfl (by decide +kernel) rfl rfl (Nat.le_of_ble_eq_true rfl) dX4_addRoad_2 (picM kA ad (wI w 0 0 0)) rfl ?_
  refine x_nmW (pic := picM kA ad) (u := (wI w 0 0 0)) hf (fun w1 hf => ?_)
  refine x_aload_n X dX4_addRoad_5 0 rfl ?_
  refine x_iload_n X dX4_addRoad_6 1 rfl ?_
  obtain ⟨x2, hx2, hf⟩ := bn_some hf
  refine x_callV_i X E (As := [.int a1]) (rest := []) (n := 1) (ws2 := (picM kA ad w1)) (goodV w_943 w_945 s_30 w_52 w_946) (met_X4_isJunction l E.2.2.2 D kA ad fu w1 a1 x2 hx2) rfl rfl (by decide +kernel) ⟨by decide, by decide⟩ 0 rfl (qc := (RX4, TX4, _)) rfl rfl rfl rfl (Nat.le_of_ble_eq_true rfl) dX4_addRoad_7 ⟨by decide, by decide⟩ ?_
  refine x_if_eq X (tgt := 21) dX4_addRoad_10 (by decide) hf (fun hf => ?_) (fun hf => ?_)
  · refine x_aload_n X dX4_addRoad_21 0 rfl ?_
    refine x_iconst X (v := 1) dX4_addRoad_22 (by decide) ?_
    obtain ⟨x4, w3, hx4, hf⟩ := bn2_some hf
    refine x_callV_i X E (As := [.int 1]) (rest := []) (n := 1) (ws2 := (picM kA ad w3)) (goodV w_935 w_937 s_29 w_52 w_938) (met_X4_fail l E.2.2.2 D kA ad fu w1 (1 : Int32) x4 w3 hx4) rfl rfl (by decide +kernel) ⟨by decide, by decide⟩ 0 rfl (qc := (RX4, TX4, _)) rfl rfl rfl rfl (Nat.le_of_ble_eq_true rfl) dX4_addRoad_23 ⟨by decide, by decide⟩ ?_
    cases hf
    exact x_iret X hr hlk rfl rfl dX4_addRoad_26
  · refine x_aload_n X dX4_addRoad_13 0 rfl ?_
    refine x_iload_n X dX4_addRoad_14 2 rfl ?_
    obtain ⟨x5, hx5, hf⟩ := bn_some hf
    refine x_callV_i X E (As := [.int a2]) (rest := []) (n := 1) (ws2 := (picM kA ad w1)) (goodV w_943 w_945 s_30 w_52 w_946) (met_X4_isJunction l E.2.2.2 D kA ad fu w1 a2 x5 hx5) rfl rfl (by decide +kernel) ⟨by decide, by decide⟩ 0 rfl (qc := (RX4, TX4, _)) rfl rfl rfl rfl (Nat.le_of_ble_eq_true rfl) dX4_addRoad_15 ⟨by decide, by decide⟩ ?_
    refine x_if_ne X (tgt := 27) dX4_addRoad_18 (by decide) hf (fun hf => ?_) (fun hf => ?_)
    · refine x_iload_n X dX4_addRoad_27 1 rfl ?_
      refine x_iload_n X dX4_addRoad_28 2 rfl ?_
      refine x_icmp_eq X (tgt := 44) dX4_addRoad_29 (by decide) hf (fun hf => ?_) (fun hf => ?_)
      · refine x_aload_n X dX4_addRoad_44 0 rfl ?_
        refine x_iconst X (v := 2) dX4_addRoad_45 (by decide) ?_
        obtain ⟨x7, w6, hx7, hf⟩ := bn2_some hf
        refine x_callV_i X E (As := [.int 2]) (rest := []) (n := 1) (ws2 := (picM kA ad w6)) (goodV w_935 w_937 s_29 w_52 w_938) (met_X4_fail l E.2.2.2 D kA ad fu w1 (2 : Int32) x7 w6 hx7) rfl rfl (by decide +kernel) ⟨by decide, by decide⟩ 0 rfl (qc := (RX4, TX4, _)) rfl rfl rfl rfl (Nat.le_of_ble_eq_true rfl) dX4_addRoad_46 ⟨by decide, by decide⟩ ?_
        cases hf
        exact x_iret X hr hlk rfl rfl dX4_addRoad_49
      · refine x_iload_n X dX4_addRoad_32 3 rfl ?_
        refine x_iconst X (v := 1) dX4_addRoad_33 (by decide) ?_
        refine x_icmp_lt X (tgt := 44) dX4_addRoad_34 (by decide) hf (fun hf => ?_) (fun hf => ?_)
        · refine x_aload_n X dX4_addRoad_44 0 rfl ?_
          refine x_iconst X (v := 2) dX4_addRoad_45 (by decide) ?_
          obtain ⟨x9, w8, hx9, hf⟩ := bn2_some hf
          refine x_callV_i X E (As := [.int 2]) (rest := []) (n := 1) (ws2 := (picM kA ad w8)) (goodV w_935 w_937 s_29 w_52 w_938) (met_X4_fail l E.2.2.2 D kA ad fu w1 (2 : Int32) x9 w8 hx9) rfl rfl (by decide +kernel) ⟨by decide, by decide⟩ 0 rfl (qc := (RX4, TX4, _)) rfl rfl rfl rfl (Nat.le_of_ble_eq_true rfl) dX4_addRoad_46 ⟨by decide, by decide⟩ ?_
          cases hf
          exact x_iret X hr hlk rfl rfl dX4_addRoad_49
        · refine x_iload_n X dX4_addRoad_37 3 rfl ?_
          refine x_sipush X (v := 10000) dX4_addRoad_38 (by decide) ?_
          refine x_icmp_le X (tgt := 50) dX4_addRoad_41 (by decide) hf (fun hf => ?_) (fun hf => ?_)
          · refine x_aload_n X dX4_addRoad_50 0 rfl ?_
            refine x_get X E.1.1 (T := TX4) (C := RX4) inW4 0 rfl rfl 2 (by decide) w_832 rfl (v := .int (w1.1 0 2)) rfl dX4_addRoad_51 ?_
            refine x_nmI hf (fun x10 hf => ?_)
            refine x_bipush X (v := 64) dX4_addRoad_54 (by decide) ?_
            refine x_icmp_ne X (tgt := 65) dX4_addRoad_56 (by decide) hf (fun hf => ?_) (fun hf => ?_)
            · refine x_aload_n X dX4_addRoad_65 0 rfl ?_
              refine x_get X E.1.1 (T := TX4) (C := RX4) inW4 0 rfl rfl 3 (by decide) w_833 rfl (v := .ref (ad 1)) rfl dX4_addRoad_66 ?_
              refine x_aload_n X dX4_addRoad_69 0 rfl ?_
              refine x_get X E.1.1 (T := TX4) (C := RX4) inW4 0 rfl rfl 2 (by decide) w_832 rfl (v := .int (w1.1 0 2)) rfl dX4_addRoad_70 ?_
              refine x_nmI hf (fun x11 hf => ?_)
              refine x_iload_n X dX4_addRoad_73 1 rfl ?_
              refine x_iast X E.1.1 1 rfl dX4_addRoad_74 hf (picM kA ad) (setM_1 kA ad _ _ _) (fun w12 hf => ?_)
              refine x_aload_n X dX4_addRoad_75 0 rfl ?_
              refine x_get X E.1.1 (T := TX4) (C := RX4) inW4 0 rfl rfl 4 (by decide) w_834 rfl (v := .ref (ad 2)) rfl dX4_addRoad_76 ?_
              refine x_aload_n X dX4_addRoad_79 0 rfl ?_
              refine x_get X E.1.1 (T := TX4) (C := RX4) inW4 0 rfl rfl 2 (by decide) w_832 rfl (v := .int (w12.1 0 2)) rfl dX4_addRoad_80 ?_
              refine x_nmI hf (fun x13 hf => ?_)
              refine x_iload_n X dX4_addRoad_83 2 rfl ?_
              refine x_iast X E.1.1 2 rfl dX4_addRoad_84 hf (picM kA ad) (setM_2 kA ad _ _ _) (fun w14 hf => ?_)
              refine x_aload_n X dX4_addRoad_85 0 rfl ?_
              refine x_get X E.1.1 (T := TX4) (C := RX4) inW4 0 rfl rfl 5 (by decide) w_835 rfl (v := .ref (ad 3)) rfl dX4_addRoad_86 ?_
              refine x_aload_n X dX4_addRoad_89 0 rfl ?_
              refine x_get X E.1.1 (T := TX4) (C := RX4) inW4 0 rfl rfl 2 (by decide) w_832 rfl (v := .int (w14.1 0 2)) rfl dX4_addRoad_90 ?_
              refine x_nmI hf (fun x15 hf => ?_)
              refine x_iload_n X dX4_addRoad_93 3 rfl ?_
              refine x_iast X E.1.1 3 rfl dX4_addRoad_94 hf (picM kA ad) (setM_3 kA ad _ _ _) (fun w16 hf => ?_)
              refine x_aload_n X dX4_addRoad_95 0 rfl ?_
              refine x_get X E.1.1 (T := TX4) (C := RX4) inW4 0 rfl rfl 6 (by decide) w_836 rfl (v := .ref (ad 4)) rfl dX4_addRoad_96 ?_
              refine x_aload_n X dX4_addRoad_99 0 rfl ?_
              refine x_get X E.1.1 (T := TX4) (C := RX4) inW4 0 rfl rfl 2 (by decide) w_832 rfl (v := .int (w16.1 0 2)) rfl dX4_addRoad_100 ?_
              refine x_nmI hf (fun x17 hf => ?_)
              refine x_iconst X (v := 1) dX4_addRoad_103 (by decide) ?_
              refine x_zast X E.1.1 4 rfl dX4_addRoad_104 hf (picM kA ad) (setM_4 kA ad _ _ _) (fun w18 hf => ?_)
              refine x_aload_n X dX4_addRoad_105 0 rfl ?_
              refine x_dup X dX4_addRoad_106 rfl ?_
              refine x_get X E.1.1 (T := TX4) (C := RX4) inW4 0 rfl rfl 2 (by decide) w_832 rfl (v := .int (w18.1 0 2)) rfl dX4_addRoad_107 ?_
              refine x_nmI hf (fun x19 hf => ?_)
              refine x_iconst X (v := 1) dX4_addRoad_110 (by decide) ?_
              refine x_iadd X dX4_addRoad_111 ?_
              refine x_put X E.1.1 (T := TX4) (C := RX4) (ty := .int) inW4 tyX4 tyX4_ok nmX4 0 rfl rfl 2 (by decide) w_832 rfl rfl (by decide +kernel) rfl rfl (Nat.le_of_ble_eq_true rfl) dX4_addRoad_112 (picM kA ad (wI w18 0 2 (x19 + 1))) rfl ?_
              refine x_nmW (pic := picM kA ad) (u := (wI w18 0 2 (x19 + 1))) hf (fun w20 hf => ?_)
              refine x_aload_n X dX4_addRoad_115 0 rfl ?_
              refine x_iconst X (v := 0) dX4_addRoad_116 (by decide) ?_
              refine x_put X E.1.1 (T := TX4) (C := RX4) (ty := .boolean) inW4 tyX4 tyX4_ok nmX4 0 rfl rfl 9 (by decide) w_839 rfl rfl (by decide +kernel) (by decide +kernel) rfl (Nat.le_of_ble_eq_true rfl) dX4_addRoad_117 (picM kA ad (wI w20 0 9 0)) rfl ?_
              refine x_nmW (pic := picM kA ad) (u := (wI w20 0 9 0)) hf (fun w21 hf => ?_)
              refine x_aload_n X dX4_addRoad_120 0 rfl ?_
              refine x_iconst X (v := 0) dX4_addRoad_121 (by decide) ?_
              refine x_put X E.1.1 (T := TX4) (C := RX4) (ty := .int) inW4 tyX4 tyX4_ok nmX4 0 rfl rfl 14 (by decide) w_844 rfl rfl (by decide +kernel) rfl rfl (Nat.le_of_ble_eq_true rfl) dX4_addRoad_122 (picM kA ad (wI w21 0 14 0)) rfl ?_
              refine x_nmW (pic := picM kA ad) (u := (wI w21 0 14 0)) hf (fun w22 hf => ?_)
              refine x_aload_n X dX4_addRoad_125 0 rfl ?_
              refine x_iconst X (v := 0) dX4_addRoad_126 (by decide) ?_
              refine x_put X E.1.1 (T := TX4) (C := RX4) (ty := .int) inW4 tyX4 tyX4_ok nmX4 0 rfl rfl 13 (by decide) w_843 rfl rfl (by decide +kernel) rfl rfl (Nat.le_of_ble_eq_true rfl) dX4_addRoad_127 (picM kA ad (wI w22 0 13 0)) rfl ?_
              refine x_nmW (pic := picM kA ad) (u := (wI w22 0 13 0)) hf (fun w23 hf => ?_)
              refine x_aload_n X dX4_addRoad_130 0 rfl ?_
              refine x_get X E.1.1 (T := TX4) (C := RX4) inW4 0 rfl rfl 2 (by decide) w_832 rfl (v := .int (w23.1 0 2)) rfl dX4_addRoad_131 ?_
              refine x_nmI hf (fun x24 hf => ?_)
              refine x_iconst X (v := 1) dX4_addRoad_134 (by decide) ?_
              refine x_isub X dX4_addRoad_135 ?_
              cases hf
              exact x_iret X hr hlk rfl rfl dX4_addRoad_136
            · refine x_aload_n X dX4_addRoad_59 0 rfl ?_
              refine x_iconst X (v := 3) dX4_addRoad_60 (by decide) ?_
              obtain ⟨x26, w25, hx26, hf⟩ := bn2_some hf
              refine x_callV_i X E (As := [.int 3]) (rest := []) (n := 1) (ws2 := (picM kA ad w25)) (goodV w_935 w_937 s_29 w_52 w_938) (met_X4_fail l E.2.2.2 D kA ad fu w1 (3 : Int32) x26 w25 hx26) rfl rfl (by decide +kernel) ⟨by decide, by decide⟩ 0 rfl (qc := (RX4, TX4, _)) rfl rfl rfl rfl (Nat.le_of_ble_eq_true rfl) dX4_addRoad_61 ⟨by decide, by decide⟩ ?_
              cases hf
              exact x_iret X hr hlk rfl rfl dX4_addRoad_64
          · refine x_aload_n X dX4_addRoad_44 0 rfl ?_
            refine x_iconst X (v := 2) dX4_addRoad_45 (by decide) ?_
            obtain ⟨x28, w27, hx28, hf⟩ := bn2_some hf
            refine x_callV_i X E (As := [.int 2]) (rest := []) (n := 1) (ws2 := (picM kA ad w27)) (goodV w_935 w_937 s_29 w_52 w_938) (met_X4_fail l E.2.2.2 D kA ad fu w1 (2 : Int32) x28 w27 hx28) rfl rfl (by decide +kernel) ⟨by decide, by decide⟩ 0 rfl (qc := (RX4, TX4, _)) rfl rfl rfl rfl (Nat.le_of_ble_eq_true rfl) dX4_addRoad_46 ⟨by decide, by decide⟩ ?_
            cases hf
            exact x_iret X hr hlk rfl rfl dX4_addRoad_49
    · refine x_aload_n X dX4_addRoad_21 0 rfl ?_
      refine x_iconst X (v := 1) dX4_addRoad_22 (by decide) ?_
      obtain ⟨x30, w29, hx30, hf⟩ := bn2_some hf
      refine x_callV_i X E (As := [.int 1]) (rest := []) (n := 1) (ws2 := (picM kA ad w29)) (goodV w_935 w_937 s_29 w_52 w_938) (met_X4_fail l E.2.2.2 D kA ad fu w1 (1 : Int32) x30 w29 hx30) rfl rfl (by decide +kernel) ⟨by decide, by decide⟩ 0 rfl (qc := (RX4, TX4, _)) rfl rfl rfl rfl (Nat.le_of_ble_eq_true rfl) dX4_addRoad_23 ⟨by decide, by decide⟩ ?_
      cases hf
      exact x_iret X hr hlk rfl rfl dX4_addRoad_26
end
section
variable {p : Program} {l : Launch} {e : Env} {s : State} {m : MethodId} {args : Array Value} {below : List Frame} {meth : Method} {c : Code} {D : va_G} {kA : Nat → ClassId} {A : Nat → Prop} {Q : State → Prop} {ad : Nat → Nat}
abbrev rm_X4_penalty : Room := { frames := 0, cells := 0, slots := 0, locals := 0 }
set_option maxRecDepth 100000 in
set_option maxHeartbeats 4000000 in
theorem met_X4_penalty (l : Launch) (hst : l.stackTraces = false) (D : va_G) (kA : Nat → ClassId) (ad : Nat → Nat) (fu : Nat) (w : WS) (a1 : Int32) (a2 : Int32) (v : Int32) (hf : f_X4_penalty fu w a1 a2 = some v) (sz : Nat) : Met l yX4_penalty (wsY yX4_penalty cX4_penalty 4 (some .int)) rm_X4_penalty (va_Pc [.ref (ad 0), .int a1, .int a2] (PreG D kA (picM kA ad w) sz)) (va_Qi (fun (r : Int32) (_ : Unit) => r = v) (fun _ t => PosG D (va_A (picM kA ad w) sz) (picM kA ad w) t) (va_A (picM kA ad w) sz)) 0 0 (va_A (picM kA ad w) sz) := by
  refine metG (own := RX4) hst (by decide +kernel) rfl (Nat.le_of_ble_eq_true rfl) rfl ?_
  intro p e s m below meth c X hr hlk E _
  unfold f_X4_penalty at hf
  refine x_aload_n X dX4_penalty_0 0 rfl ?_
  refine x_get X E.1.1 (T := TX4) (C := RX4) inW4 0 rfl rfl 7 (by decide) w_837 rfl (v := .ref (ad 5)) rfl dX4_penalty_1 ?_
  refine x_bipush X (v := 64) dX4_penalty_4 (by decide) ?_
  refine x_iload_n X dX4_penalty_6 1 rfl ?_
  refine x_imul X dX4_penalty_7 ?_
  refine x_iload_n X dX4_penalty_8 2 rfl ?_
  refine x_iadd X dX4_penalty_9 ?_
  refine x_iald X E.1.1 5 rfl dX4_penalty_10 hf (fun x1 hf => ?_)
  refine x_istore_n X (lv2 := [(3, .int x1), (0, .ref (ad 0)), (1, .int a1), (2, .int a2)]) dX4_penalty_11 (by decide) rfl ?_
  refine x_iload_n X dX4_penalty_12 0 rfl ?_
  refine x_bipush X (v := (-2)) dX4_penalty_13 (by decide) ?_
  refine x_icmp_eq X (tgt := 22) dX4_penalty_15 (by decide) hf (fun hf => ?_) (fun hf => ?_)
  · refine x_aload_n X dX4_penalty_22 1 rfl ?_
    refine x_get X E.1.1 (T := TX4) (C := RX4) inW4 0 rfl rfl 4 (by decide) w_834 rfl (v := .ref (ad 2)) rfl dX4_penalty_23 ?_
    refine x_iload_n X dX4_penalty_26 3 rfl ?_
    refine x_iald X E.1.1 2 rfl dX4_penalty_27 hf (fun x2 hf => ?_)
    refine x_aload_n X dX4_penalty_28 1 rfl ?_
    refine x_get X E.1.1 (T := TX4) (C := RX4) inW4 0 rfl rfl 3 (by decide) w_833 rfl (v := .ref (ad 1)) rfl dX4_penalty_29 ?_
    refine x_iload_n X dX4_penalty_32 2 rfl ?_
    refine x_iald X E.1.1 1 rfl dX4_penalty_33 hf (fun x3 hf => ?_)
    refine x_icmp_ne X (tgt := 44) dX4_penalty_34 (by decide) hf (fun hf => ?_) (fun hf => ?_)
    · refine x_iconst X (v := 0) dX4_penalty_44 (by decide) ?_
      exact x_iret X hr hlk rfl (Option.some.inj hf) dX4_penalty_45
    · refine x_aload_n X dX4_penalty_37 1 rfl ?_
      refine x_get X E.1.1 (T := TX4) (C := RX4) inW4 0 rfl rfl 8 (by decide) w_838 rfl (v := .int (w.1 0 8)) rfl dX4_penalty_38 ?_
      refine x_nmI hf (fun x4 hf => ?_)
      refine x_goto X (tgt := 45) dX4_penalty_41 (by decide) ?_
      exact x_iret X hr hlk rfl (Option.some.inj hf) dX4_penalty_45
  · refine x_iload_n X dX4_penalty_18 0 rfl ?_
    refine x_goto X (tgt := 45) dX4_penalty_19 (by decide) ?_
    exact x_iret X hr hlk rfl (Option.some.inj hf) dX4_penalty_45
end
section
variable {p : Program} {l : Launch} {e : Env} {s : State} {m : MethodId} {args : Array Value} {below : List Frame} {meth : Method} {c : Code} {D : va_G} {kA : Nat → ClassId} {A : Nat → Prop} {Q : State → Prop} {ad : Nat → Nat}
abbrev rm_X4_step : Room := { frames := 1, cells := 0, slots := 0, locals := 23 }
set_option maxRecDepth 100000 in
set_option maxHeartbeats 4000000 in
theorem met_X4_step (l : Launch) (hst : l.stackTraces = false) (D : va_G) (kA : Nat → ClassId) (ad : Nat → Nat) (fu : Nat) (w : WS) (a1 : Int32) (a2 : Int32) (v : Int64) (hf : f_X4_step fu w a1 a2 = some v) (sz : Nat) : Met l yX4_step (wsY yX4_step cX4_step 3 (some .long)) rm_X4_step (va_Pc [.ref (ad 0), .int a1, .int a2] (PreG D kA (picM kA ad w) sz)) (va_Ql (fun (r : Int64) (_ : Unit) => r = v) (fun _ t => PosG D (va_A (picM kA ad w) sz) (picM kA ad w) t) (va_A (picM kA ad w) sz)) 0 0 (va_A (picM kA ad w) sz) := by
  refine metG (own := RX4) hst (by decide +kernel) rfl (Nat.le_of_ble_eq_true rfl) rfl ?_
  intro p e s m below meth c X hr hlk E _
  unfold f_X4_step at hf
  refine x_aload_n X dX4_step_0 0 rfl ?_
  refine x_get X E.1.1 (T := TX4) (C := RX4) inW4 0 rfl rfl 6 (by decide) w_836 rfl (v := .ref (ad 4)) rfl dX4_step_1 ?_
  refine x_iload_n X dX4_step_4 1 rfl ?_
  refine x_zald X E.1.1 4 rfl dX4_step_5 hf (fun x1 hf => ?_)
  refine x_if_eq X (tgt := 53) dX4_step_6 (by decide) hf (fun hf => ?_) (fun hf => ?_)
  · refine x_ldc2 X (v := 1000000000000) w_975 dX4_step_53 ?_
    exact x_lret X hr hlk rfl (Option.some.inj hf) dX4_step_56
  · refine x_aload_n X dX4_step_9 0 rfl ?_
    refine x_get X E.1.1 (T := TX4) (C := RX4) inW4 0 rfl rfl 6 (by decide) w_836 rfl (v := .ref (ad 4)) rfl dX4_step_10 ?_
    refine x_iload_n X dX4_step_13 2 rfl ?_
    refine x_zald X E.1.1 4 rfl dX4_step_14 hf (fun x2 hf => ?_)
    refine x_if_eq X (tgt := 53) dX4_step_15 (by decide) hf (fun hf => ?_) (fun hf => ?_)
    · refine x_ldc2 X (v := 1000000000000) w_975 dX4_step_53 ?_
      exact x_lret X hr hlk rfl (Option.some.inj hf) dX4_step_56
    · refine x_aload_n X dX4_step_18 0 rfl ?_
      refine x_iload_n X dX4_step_19 1 rfl ?_
      refine x_iload_n X dX4_step_20 2 rfl ?_
      obtain ⟨x3, hx3, hf⟩ := bn_some hf
      refine x_callV_i X E (As := [.int a1, .int a2]) (rest := []) (n := 2) (ws2 := (picM kA ad w)) (goodV w_967 w_969 s_35 w_52 w_970) (met_X4_follows l E.2.2.2 D kA ad fu w a1 a2 x3 hx3) rfl rfl (by decide +kernel) ⟨by decide, by decide⟩ 0 rfl (qc := (RX4, TX4, _)) rfl rfl rfl rfl (Nat.le_of_ble_eq_true rfl) dX4_step_21 ⟨by decide, by decide⟩ ?_
      refine x_if_eq X (tgt := 53) dX4_step_24 (by decide) hf (fun hf => ?_) (fun hf => ?_)
      · refine x_ldc2 X (v := 1000000000000) w_975 dX4_step_53 ?_
        exact x_lret X hr hlk rfl (Option.some.inj hf) dX4_step_56
      · refine x_aload_n X dX4_step_27 0 rfl ?_
        refine x_iload_n X dX4_step_28 1 rfl ?_
        refine x_iload_n X dX4_step_29 2 rfl ?_
        obtain ⟨x4, hx4, hf⟩ := bn_some hf
        refine x_callV_i X E (As := [.int a1, .int a2]) (rest := []) (n := 2) (ws2 := (picM kA ad w)) (goodV w_971 w_973 s_36 w_52 w_974) (met_X4_penalty l E.2.2.2 D kA ad fu w a1 a2 x4 hx4) rfl rfl (by decide +kernel) ⟨by decide, by decide⟩ 0 rfl (qc := (RX4, TX4, _)) rfl rfl rfl rfl (Nat.le_of_ble_eq_true rfl) dX4_step_30 ⟨by decide, by decide⟩ ?_
        refine x_if_lt X (tgt := 53) dX4_step_33 (by decide) hf (fun hf => ?_) (fun hf => ?_)
        · refine x_ldc2 X (v := 1000000000000) w_975 dX4_step_53 ?_
          exact x_lret X hr hlk rfl (Option.some.inj hf) dX4_step_56
        · refine x_aload_n X dX4_step_36 0 rfl ?_
          refine x_iload_n X dX4_step_37 1 rfl ?_
          refine x_iload_n X dX4_step_38 2 rfl ?_
          obtain ⟨x5, hx5, hf⟩ := bn_some hf
          refine x_callV_i X E (As := [.int a1, .int a2]) (rest := []) (n := 2) (ws2 := (picM kA ad w)) (goodV w_971 w_973 s_36 w_52 w_974) (met_X4_penalty l E.2.2.2 D kA ad fu w a1 a2 x5 hx5) rfl rfl (by decide +kernel) ⟨by decide, by decide⟩ 0 rfl (qc := (RX4, TX4, _)) rfl rfl rfl rfl (Nat.le_of_ble_eq_true rfl) dX4_step_39 ⟨by decide, by decide⟩ ?_
          refine x_aload_n X dX4_step_42 0 rfl ?_
          refine x_get X E.1.1 (T := TX4) (C := RX4) inW4 0 rfl rfl 5 (by decide) w_835 rfl (v := .ref (ad 3)) rfl dX4_step_43 ?_
          refine x_iload_n X dX4_step_46 2 rfl ?_
          refine x_iald X E.1.1 3 rfl dX4_step_47 hf (fun x6 hf => ?_)
          refine x_iadd X dX4_step_48 ?_
          refine x_i2l X dX4_step_49 ?_
          refine x_goto X (tgt := 56) dX4_step_50 (by decide) ?_
          exact x_lret X hr hlk rfl (Option.some.inj hf) dX4_step_56
end
section
variable {p : Program} {l : Launch} {e : Env} {s : State} {m : MethodId} {args : Array Value} {below : List Frame} {meth : Method} {c : Code} {D : va_G} {kA : Nat → ClassId} {A : Nat → Prop} {Q : State → Prop} {ad : Nat → Nat}
abbrev rm_X4_findCosts : Room := { frames := 2, cells := 0, slots := 0, locals := 45 }
set_option maxRecDepth 100000 in
set_option maxHeartbeats 4000000 in
theorem lp_X4_findCosts_12 (X : CX p m c cX4_findCosts 5 s args RX4) (E : EX l s D kA A) (fu : Nat) (y1 : Int32) : ∀ (n : Nat) (y2 : Int32) (w : WS) (rw : WS), iter (fun q => bd_X4_findCosts_12 fu y1 q.1 q.2) n (y2, w) = some (rw) → CS p l e rm_X4_findCosts s m args below meth c D A 5 0 0 Q (picM kA ad rw) 43 [(0, .ref (ad 0)), (1, .int y1)] [] → CS p l e rm_X4_findCosts s m args below meth c D A 5 0 0 Q (picM kA ad w) 12 [(0, .ref (ad 0)), (1, .int y1), (2, .int y2)] [] := by
  intro n
  induction n with
  | zero =>
    intro y2 w rw hit kk
    exact (iter_0 hit).elim
  | succ n ih =>
    intro y2 w rw hit kk
    obtain ⟨o, h1, hit⟩ := iter_one hit
    have hf : bd_X4_findCosts_12 fu y1 y2 w = some o := h1
    unfold bd_X4_findCosts_12 at hf
    refine x_iload_n X dX4_findCosts_12 2 rfl ?_
    refine x_aload_n X dX4_findCosts_13 0 rfl ?_
    refine x_get X E.1.1 (T := TX4) (C := RX4) inW4 0 rfl rfl 2 (by decide) w_832 rfl (v := .int (w.1 0 2)) rfl dX4_findCosts_14 ?_
    refine x_nmI hf (fun x1 hf => ?_)
    refine x_icmp_ge X (tgt := 43) dX4_findCosts_17 (by decide) hf (fun hf => ?_) (fun hf => ?_)
    · cases hf
      cases hit
      refine x_lpick (lv2 := [(0, .ref (ad 0)), (1, .int y1)]) [0, 1] rfl ?_
      exact kk
    · refine x_aload_n X dX4_findCosts_20 0 rfl ?_
      refine x_get X E.1.1 (T := TX4) (C := RX4) inW4 0 rfl rfl 17 (by decide) w_847 rfl (v := .ref (ad 11)) rfl dX4_findCosts_21 ?_
      refine x_bipush X (v := 64) dX4_findCosts_24 (by decide) ?_
      refine x_iload_n X dX4_findCosts_26 1 rfl ?_
      refine x_imul X dX4_findCosts_27 ?_
      refine x_iload_n X dX4_findCosts_28 2 rfl ?_
      refine x_iadd X dX4_findCosts_29 ?_
      refine x_aload_n X dX4_findCosts_30 0 rfl ?_
      refine x_iload_n X dX4_findCosts_31 1 rfl ?_
      refine x_iload_n X dX4_findCosts_32 2 rfl ?_
      obtain ⟨x2, hx2, hf⟩ := bn_some hf
      refine x_callV_l X E (As := [.int y1, .int y2]) (rest := [.int (((64 : Int32) * y1) + y2), .ref (ad 11)]) (n := 2) (ws2 := (picM kA ad w)) (goodV w_963 w_965 s_34 w_52 w_966) (met_X4_step l E.2.2.2 D kA ad fu w y1 y2 x2 hx2) rfl rfl (by decide +kernel) ⟨by decide, by decide⟩ 0 rfl (qc := (RX4, TX4, _)) rfl rfl rfl rfl (Nat.le_of_ble_eq_true rfl) dX4_findCosts_33 ⟨by decide, by decide⟩ ?_
      refine x_last X E.1.1 11 rfl dX4_findCosts_36 hf (picM kA ad) (setM_11 kA ad _ _ _) (fun w3 hf => ?_)
      refine x_iinc X dX4_findCosts_37 2 rfl (by decide) (y2 + 1) rfl hf (fun x4 => [(2, .int x4), (0, .ref (ad 0)), (1, .int y1)]) (fun _ => rfl) (fun x4 hf => ?_)
      refine x_goto X (tgt := 12) dX4_findCosts_40 (by decide) ?_
      cases hf
      refine x_lpick (lv2 := [(0, .ref (ad 0)), (1, .int y1), (2, .int x4)]) [1, 2, 0] rfl ?_
      exact ih _ _ _ hit kk
set_option maxRecDepth 100000 in
set_option maxHeartbeats 4000000 in
theorem lp_X4_findCosts_2 (X : CX p m c cX4_findCosts 5 s args RX4) (E : EX l s D kA A) (fu : Nat)  : ∀ (n : Nat) (y1 : Int32) (w : WS) (rw : WS), iter (fun q => bd_X4_findCosts_2 fu q.1 q.2) n (y1, w) = some (rw) → CS p l e rm_X4_findCosts s m args below meth c D A 5 0 0 Q (picM kA ad rw) 49 [(0, .ref (ad 0))] [] → CS p l e rm_X4_findCosts s m args below meth c D A 5 0 0 Q (picM kA ad w) 2 [(0, .ref (ad 0)), (1, .int y1)] [] := by
  intro n
  induction n with
  | zero =>
    intro y1 w rw hit kk
    exact (iter_0 hit).elim
  | succ n ih =>
    intro y1 w rw hit kk
    obtain ⟨o, h1, hit⟩ := iter_one hit
    have hf : bd_X4_findCosts_2 fu y1 w = some o := h1
    unfold bd_X4_findCosts_2 at hf
    refine x_iload_n X dX4_findCosts_2 1 rfl ?_
    refine x_aload_n X dX4_findCosts_3 0 rfl ?_
    refine x_get X E.1.1 (T := TX4) (C := RX4) inW4 0 rfl rfl 2 (by decide) w_832 rfl (v := .int (w.1 0 2)) rfl dX4_findCosts_4 ?_
    refine x_nmI hf (fun x1 hf => ?_)
    refine x_icmp_ge X (tgt := 49) dX4_findCosts_7 (by decide) hf (fun hf => ?_) (fun hf => ?_)
    · cases hf
      cases hit
      refine x_lpick (lv2 := [(0, .ref (ad 0))]) [0] rfl ?_
      exact kk
    · refine x_iconst X (v := 0) dX4_findCosts_10 (by decide) ?_
      refine x_istore_n X (lv2 := [(2, .int 0), (0, .ref (ad 0)), (1, .int y1)]) dX4_findCosts_11 (by decide) rfl ?_
      refine x_lpick (lv2 := [(0, .ref (ad 0)), (1, .int y1), (2, .int 0)]) [1, 2, 0] rfl ?_
      obtain ⟨w2, h3, hf⟩ := bn_some hf
      refine lp_X4_findCosts_12 X E fu y1 fu (0 : Int32) w w2 h3 ?_
      refine x_iinc X dX4_findCosts_43 1 rfl (by decide) (y1 + 1) rfl hf (fun x4 => [(1, .int x4), (0, .ref (ad 0))]) (fun _ => rfl) (fun x4 hf => ?_)
      refine x_goto X (tgt := 2) dX4_findCosts_46 (by decide) ?_
      cases hf
      refine x_lpick (lv2 := [(0, .ref (ad 0)), (1, .int x4)]) [1, 0] rfl ?_
      exact ih _ _ _ hit kk
set_option maxRecDepth 100000 in
set_option maxHeartbeats 4000000 in
theorem lp_X4_findCosts_68 (X : CX p m c cX4_findCosts 5 s args RX4) (E : EX l s D kA A) (fu : Nat) (y1 : Int32) (y2 : Int32) : ∀ (n : Nat) (y3 : Int32) (w : WS) (rw : WS), iter (fun q => bd_X4_findCosts_68 fu y1 y2 q.1 q.2) n (y3, w) = some (rw) → CS p l e rm_X4_findCosts s m args below meth c D A 5 0 0 Q (picM kA ad rw) 139 [(0, .ref (ad 0)), (1, .int y1), (2, .int y2)] [] → CS p l e rm_X4_findCosts s m args below meth c D A 5 0 0 Q (picM kA ad w) 68 [(0, .ref (ad 0)), (1, .int y1), (2, .int y2), (3, .int y3)] [] := by
  intro n
  induction n with
  | zero =>
    intro y3 w rw hit kk
    exact (iter_0 hit).elim
  | succ n ih =>
    intro y3 w rw hit kk
    obtain ⟨o, h1, hit⟩ := iter_one hit
    have hf : bd_X4_findCosts_68 fu y1 y2 y3 w = some o := h1
    unfold bd_X4_findCosts_68 at hf
    refine x_iload_n X dX4_findCosts_68 3 rfl ?_
    refine x_aload_n X dX4_findCosts_69 0 rfl ?_
    refine x_get X E.1.1 (T := TX4) (C := RX4) inW4 0 rfl rfl 2 (by decide) w_832 rfl (v := .int (w.1 0 2)) rfl dX4_findCosts_70 ?_
    refine x_nmI hf (fun x1 hf => ?_)
    refine x_icmp_ge X (tgt := 139) dX4_findCosts_73 (by decide) hf (fun hf => ?_) (fun hf => ?_)
    · cases hf
      cases hit
      refine x_lpick (lv2 := [(0, .ref (ad 0)), (1, .int y1), (2, .int y2)]) [0, 1, 2] rfl ?_
      exact kk
    · refine x_aload_n X dX4_findCosts_76 0 rfl ?_
      refine x_get X E.1.1 (T := TX4) (C := RX4) inW4 0 rfl rfl 10 (by decide) w_840 rfl (v := .ref (ad 6)) rfl dX4_findCosts_77 ?_
      refine x_iload_n X dX4_findCosts_80 3 rfl ?_
      refine x_iald X E.1.1 6 rfl dX4_findCosts_81 hf (fun x2 hf => ?_)
      refine x_iload_n X dX4_findCosts_82 1 rfl ?_
      refine x_icmp_gt X (tgt := 89) dX4_findCosts_83 (by decide) hf (fun hf => ?_) (fun hf => ?_)
      · refine x_aload_n X dX4_findCosts_89 0 rfl ?_
        refine x_get X E.1.1 (T := TX4) (C := RX4) inW4 0 rfl rfl 15 (by decide) w_845 rfl (v := .ref (ad 9)) rfl dX4_findCosts_90 ?_
        refine x_bipush X (v := 64) dX4_findCosts_93 (by decide) ?_
        refine x_iload_n X dX4_findCosts_95 2 rfl ?_
        refine x_imul X dX4_findCosts_96 ?_
        refine x_iload_n X dX4_findCosts_97 3 rfl ?_
        refine x_iadd X dX4_findCosts_98 ?_
        refine x_aload_n X dX4_findCosts_99 0 rfl ?_
        refine x_get X E.1.1 (T := TX4) (C := RX4) inW4 0 rfl rfl 17 (by decide) w_847 rfl (v := .ref (ad 11)) rfl dX4_findCosts_100 ?_
        refine x_bipush X (v := 64) dX4_findCosts_103 (by decide) ?_
        refine x_iload_n X dX4_findCosts_105 2 rfl ?_
        refine x_imul X dX4_findCosts_106 ?_
        refine x_iload_n X dX4_findCosts_107 3 rfl ?_
        refine x_iadd X dX4_findCosts_108 ?_
        refine x_lald X E.1.1 11 rfl dX4_findCosts_109 hf (fun x3 hf => ?_)
        refine x_last X E.1.1 9 rfl dX4_findCosts_110 hf (picM kA ad) (setM_9 kA ad _ _ _) (fun w4 hf => ?_)
        refine x_aload_n X dX4_findCosts_111 0 rfl ?_
        refine x_get X E.1.1 (T := TX4) (C := RX4) inW4 0 rfl rfl 15 (by decide) w_845 rfl (v := .ref (ad 9)) rfl dX4_findCosts_112 ?_
        refine x_bipush X (v := 64) dX4_findCosts_115 (by decide) ?_
        refine x_iload_n X dX4_findCosts_117 3 rfl ?_
        refine x_imul X dX4_findCosts_118 ?_
        refine x_iload_n X dX4_findCosts_119 2 rfl ?_
        refine x_iadd X dX4_findCosts_120 ?_
        refine x_aload_n X dX4_findCosts_121 0 rfl ?_
        refine x_get X E.1.1 (T := TX4) (C := RX4) inW4 0 rfl rfl 17 (by decide) w_847 rfl (v := .ref (ad 11)) rfl dX4_findCosts_122 ?_
        refine x_bipush X (v := 64) dX4_findCosts_125 (by decide) ?_
        refine x_iload_n X dX4_findCosts_127 3 rfl ?_
        refine x_imul X dX4_findCosts_128 ?_
        refine x_iload_n X dX4_findCosts_129 2 rfl ?_
        refine x_iadd X dX4_findCosts_130 ?_
        refine x_lald X E.1.1 11 rfl dX4_findCosts_131 hf (fun x5 hf => ?_)
        refine x_last X E.1.1 9 rfl dX4_findCosts_132 hf (picM kA ad) (setM_9 kA ad _ _ _) (fun w6 hf => ?_)
        refine x_iinc X dX4_findCosts_133 3 rfl (by decide) (y3 + 1) rfl hf (fun x7 => [(3, .int x7), (0, .ref (ad 0)), (1, .int y1), (2, .int y2)]) (fun _ => rfl) (fun x7 hf => ?_)
        refine x_goto X (tgt := 68) dX4_findCosts_136 (by decide) ?_
        cases hf
        refine x_lpick (lv2 := [(0, .ref (ad 0)), (1, .int y1), (2, .int y2), (3, .int x7)]) [1, 2, 3, 0] rfl ?_
        exact ih _ _ _ hit kk
      · refine x_goto X (tgt := 133) dX4_findCosts_86 (by decide) ?_
        refine x_iinc X dX4_findCosts_133 3 rfl (by decide) (y3 + 1) rfl hf (fun x8 => [(3, .int x8), (0, .ref (ad 0)), (1, .int y1), (2, .int y2)]) (fun _ => rfl) (fun x8 hf => ?_)
        refine x_goto X (tgt := 68) dX4_findCosts_136 (by decide) ?_
        cases hf
        refine x_lpick (lv2 := [(0, .ref (ad 0)), (1, .int y1), (2, .int y2), (3, .int x8)]) [1, 2, 3, 0] rfl ?_
        exact ih _ _ _ hit kk
set_option maxRecDepth 100000 in
set_option maxHeartbeats 4000000 in
theorem lp_X4_findCosts_152 (X : CX p m c cX4_findCosts 5 s args RX4) (E : EX l s D kA A) (fu : Nat) (y1 : Int32) (y2 : Int32) (y3 : Int32) : ∀ (n : Nat) (y4 : Int32) (w : WS) (rw : WS), iter (fun q => bd_X4_findCosts_152 fu y1 y2 y3 q.1 q.2) n (y4, w) = some (rw) → CS p l e rm_X4_findCosts s m args below meth c D A 5 0 0 Q (picM kA ad rw) 224 [(0, .ref (ad 0)), (1, .int y1), (2, .int y2), (3, .int y3)] [] → CS p l e rm_X4_findCosts s m args below meth c D A 5 0 0 Q (picM kA ad w) 152 [(0, .ref (ad 0)), (1, .int y1), (2, .int y2), (3, .int y3), (4, .int y4)] [] := by
  intro n
  induction n with
  | zero =>
    intro y4 w rw hit kk
    exact (iter_0 hit).elim
  | succ n ih =>
    intro y4 w rw hit kk
    obtain ⟨o, h1, hit⟩ := iter_one hit
    have hf : bd_X4_findCosts_152 fu y1 y2 y3 y4 w = some o := h1
    unfold bd_X4_findCosts_152 at hf
    refine x_iload X dX4_findCosts_152 4 rfl ?_
    refine x_aload_n X dX4_findCosts_154 0 rfl ?_
    refine x_get X E.1.1 (T := TX4) (C := RX4) inW4 0 rfl rfl 2 (by decide) w_832 rfl (v := .int (w.1 0 2)) rfl dX4_findCosts_155 ?_
    refine x_nmI hf (fun x1 hf => ?_)
    refine x_icmp_ge X (tgt := 224) dX4_findCosts_158 (by decide) hf (fun hf => ?_) (fun hf => ?_)
    · cases hf
      cases hit
      refine x_lpick (lv2 := [(0, .ref (ad 0)), (1, .int y1), (2, .int y2), (3, .int y3)]) [0, 1, 2, 3] rfl ?_
      exact kk
    · refine x_aload_n X dX4_findCosts_161 0 rfl ?_
      refine x_get X E.1.1 (T := TX4) (C := RX4) inW4 0 rfl rfl 17 (by decide) w_847 rfl (v := .ref (ad 11)) rfl dX4_findCosts_162 ?_
      refine x_bipush X (v := 64) dX4_findCosts_165 (by decide) ?_
      refine x_iload_n X dX4_findCosts_167 3 rfl ?_
      refine x_imul X dX4_findCosts_168 ?_
      refine x_iload X dX4_findCosts_169 4 rfl ?_
      refine x_iadd X dX4_findCosts_171 ?_
      refine x_aload_n X dX4_findCosts_172 0 rfl ?_
      refine x_get X E.1.1 (T := TX4) (C := RX4) inW4 0 rfl rfl 17 (by decide) w_847 rfl (v := .ref (ad 11)) rfl dX4_findCosts_173 ?_
      refine x_bipush X (v := 64) dX4_findCosts_176 (by decide) ?_
      refine x_iload_n X dX4_findCosts_178 3 rfl ?_
      refine x_imul X dX4_findCosts_179 ?_
      refine x_iload X dX4_findCosts_180 4 rfl ?_
      refine x_iadd X dX4_findCosts_182 ?_
      refine x_lald X E.1.1 11 rfl dX4_findCosts_183 hf (fun x2 hf => ?_)
      refine x_ldc2 X (v := 1000000000000) w_975 dX4_findCosts_184 ?_
      refine x_aload_n X dX4_findCosts_187 0 rfl ?_
      refine x_get X E.1.1 (T := TX4) (C := RX4) inW4 0 rfl rfl 17 (by decide) w_847 rfl (v := .ref (ad 11)) rfl dX4_findCosts_188 ?_
      refine x_bipush X (v := 64) dX4_findCosts_191 (by decide) ?_
      refine x_iload_n X dX4_findCosts_193 3 rfl ?_
      refine x_imul X dX4_findCosts_194 ?_
      refine x_iload_n X dX4_findCosts_195 2 rfl ?_
      refine x_iadd X dX4_findCosts_196 ?_
      refine x_lald X E.1.1 11 rfl dX4_findCosts_197 hf (fun x3 hf => ?_)
      refine x_aload_n X dX4_findCosts_198 0 rfl ?_
      refine x_get X E.1.1 (T := TX4) (C := RX4) inW4 0 rfl rfl 17 (by decide) w_847 rfl (v := .ref (ad 11)) rfl dX4_findCosts_199 ?_
      refine x_bipush X (v := 64) dX4_findCosts_202 (by decide) ?_
      refine x_iload_n X dX4_findCosts_204 2 rfl ?_
      refine x_imul X dX4_findCosts_205 ?_
      refine x_iload X dX4_findCosts_206 4 rfl ?_
      refine x_iadd X dX4_findCosts_208 ?_
      refine x_lald X E.1.1 11 rfl dX4_findCosts_209 hf (fun x4 hf => ?_)
      refine x_ladd X dX4_findCosts_210 ?_
      refine x_mminL X w_976 w_977 w_62 w_978 (by decide) (Nat.le_of_ble_eq_true rfl) (by decide) (by decide) dX4_findCosts_211 ?_
      refine x_mminL X w_976 w_977 w_62 w_978 (by decide) (Nat.le_of_ble_eq_true rfl) (by decide) (by decide) dX4_findCosts_214 ?_
      refine x_last X E.1.1 11 rfl dX4_findCosts_217 hf (picM kA ad) (setM_11 kA ad _ _ _) (fun w5 hf => ?_)
      refine x_iinc X dX4_findCosts_218 4 rfl (by decide) (y4 + 1) rfl hf (fun x6 => [(4, .int x6), (0, .ref (ad 0)), (1, .int y1), (2, .int y2), (3, .int y3)]) (fun _ => rfl) (fun x6 hf => ?_)
      refine x_goto X (tgt := 152) dX4_findCosts_221 (by decide) ?_
      cases hf
      refine x_lpick (lv2 := [(0, .ref (ad 0)), (1, .int y1), (2, .int y2), (3, .int y3), (4, .int x6)]) [1, 2, 3, 4, 0] rfl ?_
      exact ih _ _ _ hit kk
set_option maxRecDepth 100000 in
set_option maxHeartbeats 4000000 in
theorem lp_X4_findCosts_141 (X : CX p m c cX4_findCosts 5 s args RX4) (E : EX l s D kA A) (fu : Nat) (y1 : Int32) (y2 : Int32) : ∀ (n : Nat) (y3 : Int32) (w : WS) (rw : WS), iter (fun q => bd_X4_findCosts_141 fu y1 y2 q.1 q.2) n (y3, w) = some (rw) → CS p l e rm_X4_findCosts s m args below meth c D A 5 0 0 Q (picM kA ad rw) 230 [(0, .ref (ad 0)), (1, .int y1)] [] → CS p l e rm_X4_findCosts s m args below meth c D A 5 0 0 Q (picM kA ad w) 141 [(0, .ref (ad 0)), (1, .int y1), (2, .int y2), (3, .int y3)] [] := by
  intro n
  induction n with
  | zero =>
    intro y3 w rw hit kk
    exact (iter_0 hit).elim
  | succ n ih =>
    intro y3 w rw hit kk
    obtain ⟨o, h1, hit⟩ := iter_one hit
    have hf : bd_X4_findCosts_141 fu y1 y2 y3 w = some o := h1
    unfold bd_X4_findCosts_141 at hf
    refine x_iload_n X dX4_findCosts_141 3 rfl ?_
    refine x_aload_n X dX4_findCosts_142 0 rfl ?_
    refine x_get X E.1.1 (T := TX4) (C := RX4) inW4 0 rfl rfl 2 (by decide) w_832 rfl (v := .int (w.1 0 2)) rfl dX4_findCosts_143 ?_
    refine x_nmI hf (fun x1 hf => ?_)
    refine x_icmp_ge X (tgt := 230) dX4_findCosts_146 (by decide) hf (fun hf => ?_) (fun hf => ?_)
    · cases hf
      cases hit
      refine x_lpick (lv2 := [(0, .ref (ad 0)), (1, .int y1)]) [0, 1] rfl ?_
      exact kk
    · refine x_iconst X (v := 0) dX4_findCosts_149 (by decide) ?_
      refine x_istore X (lv2 := [(4, .int 0), (0, .ref (ad 0)), (1, .int y1), (2, .int y2), (3, .int y3)]) dX4_findCosts_150 (by decide) rfl ?_
      refine x_lpick (lv2 := [(0, .ref (ad 0)), (1, .int y1), (2, .int y2), (3, .int y3), (4, .int 0)]) [1, 2, 3, 4, 0] rfl ?_
      obtain ⟨w2, h3, hf⟩ := bn_some hf
      refine lp_X4_findCosts_152 X E fu y1 y2 y3 fu (0 : Int32) w w2 h3 ?_
      refine x_iinc X dX4_findCosts_224 3 rfl (by decide) (y3 + 1) rfl hf (fun x4 => [(3, .int x4), (0, .ref (ad 0)), (1, .int y1), (2, .int y2)]) (fun _ => rfl) (fun x4 hf => ?_)
      refine x_goto X (tgt := 141) dX4_findCosts_227 (by decide) ?_
      cases hf
      refine x_lpick (lv2 := [(0, .ref (ad 0)), (1, .int y1), (2, .int y2), (3, .int x4)]) [1, 2, 3, 0] rfl ?_
      exact ih _ _ _ hit kk
set_option maxRecDepth 100000 in
set_option maxHeartbeats 4000000 in
theorem lp_X4_findCosts_51 (X : CX p m c cX4_findCosts 5 s args RX4) (E : EX l s D kA A) (fu : Nat)  : ∀ (n : Nat) (y1 : Int32) (w : WS) (rw : WS), iter (fun q => bd_X4_findCosts_51 fu q.1 q.2) n (y1, w) = some (rw) → CS p l e rm_X4_findCosts s m args below meth c D A 5 0 0 Q (picM kA ad rw) 236 [] [] → CS p l e rm_X4_findCosts s m args below meth c D A 5 0 0 Q (picM kA ad w) 51 [(0, .ref (ad 0)), (1, .int y1)] [] := by
  intro n
  induction n with
  | zero =>
    intro y1 w rw hit kk
    exact (iter_0 hit).elim
  | succ n ih =>
    intro y1 w rw hit kk
    obtain ⟨o, h1, hit⟩ := iter_one hit
    have hf : bd_X4_findCosts_51 fu y1 w = some o := h1
    unfold bd_X4_findCosts_51 at hf
    refine x_iload_n X dX4_findCosts_51 1 rfl ?_
    refine x_aload_n X dX4_findCosts_52 0 rfl ?_
    refine x_get X E.1.1 (T := TX4) (C := RX4) inW4 0 rfl rfl 2 (by decide) w_832 rfl (v := .int (w.1 0 2)) rfl dX4_findCosts_53 ?_
    refine x_nmI hf (fun x1 hf => ?_)
    refine x_icmp_ge X (tgt := 236) dX4_findCosts_56 (by decide) hf (fun hf => ?_) (fun hf => ?_)
    · cases hf
      cases hit
      refine x_lpick (lv2 := []) [] rfl ?_
      exact kk
    · refine x_aload_n X dX4_findCosts_59 0 rfl ?_
      refine x_get X E.1.1 (T := TX4) (C := RX4) inW4 0 rfl rfl 11 (by decide) w_841 rfl (v := .ref (ad 7)) rfl dX4_findCosts_60 ?_
      refine x_iload_n X dX4_findCosts_63 1 rfl ?_
      refine x_iald X E.1.1 7 rfl dX4_findCosts_64 hf (fun x2 hf => ?_)
      refine x_istore_n X (lv2 := [(2, .int x2), (0, .ref (ad 0)), (1, .int y1)]) dX4_findCosts_65 (by decide) rfl ?_
      refine x_iconst X (v := 0) dX4_findCosts_66 (by decide) ?_
      refine x_istore_n X (lv2 := [(3, .int 0), (2, .int x2), (0, .ref (ad 0)), (1, .int y1)]) dX4_findCosts_67 (by decide) rfl ?_
      refine x_lpick (lv2 := [(0, .ref (ad 0)), (1, .int y1), (2, .int x2), (3, .int 0)]) [2, 3, 1, 0] rfl ?_
      obtain ⟨w3, h4, hf⟩ := bn_some hf
      refine lp_X4_findCosts_68 X E fu y1 x2 fu (0 : Int32) w w3 h4 ?_
      refine x_iconst X (v := 0) dX4_findCosts_139 (by decide) ?_
      refine x_istore_n X (lv2 := [(3, .int 0), (0, .ref (ad 0)), (1, .int y1), (2, .int x2)]) dX4_findCosts_140 (by decide) rfl ?_
      refine x_lpick (lv2 := [(0, .ref (ad 0)), (1, .int y1), (2, .int x2), (3, .int 0)]) [1, 2, 3, 0] rfl ?_
      obtain ⟨w5, h6, hf⟩ := bn_some hf
      refine lp_X4_findCosts_141 X E fu y1 x2 fu (0 : Int32) w3 w5 h6 ?_
      refine x_iinc X dX4_findCosts_230 1 rfl (by decide) (y1 + 1) rfl hf (fun x7 => [(1, .int x7), (0, .ref (ad 0))]) (fun _ => rfl) (fun x7 hf => ?_)
      refine x_goto X (tgt := 51) dX4_findCosts_233 (by decide) ?_
      cases hf
      refine x_lpick (lv2 := [(0, .ref (ad 0)), (1, .int x7)]) [1, 0] rfl ?_
      exact ih _ _ _ hit kk
set_option maxRecDepth 100000 in
set_option maxHeartbeats 4000000 in
theorem met_X4_findCosts (l : Launch) (hst : l.stackTraces = false) (D : va_G) (kA : Nat → ClassId) (ad : Nat → Nat) (fu : Nat) (w : WS)  (w1 : WS) (hf : f_X4_findCosts fu w = some w1) (sz : Nat) : Met l yX4_findCosts (wsY yX4_findCosts cX4_findCosts 5 none) rm_X4_findCosts (va_Pc [.ref (ad 0)] (PreG D kA (picM kA ad w) sz)) (va_Qv (fun (_ : Unit) => True) (fun _ t => PosG D (va_A (picM kA ad w) sz) (picM kA ad w1) t) (va_A (picM kA ad w) sz)) 0 0 (va_A (picM kA ad w) sz) := by
  refine metG (own := RX4) hst (by decide +kernel) rfl (Nat.le_of_ble_eq_true rfl) rfl ?_
  intro p e s m below meth c X hr hlk E _
  unfold f_X4_findCosts at hf
  refine x_iconst X (v := 0) dX4_findCosts_0 (by decide) ?_
  refine x_istore_n X (lv2 := [(1, .int 0), (0, .ref (ad 0))]) dX4_findCosts_1 (by decide) rfl ?_
  refine x_lpick (lv2 := [(0, .ref (ad 0)), (1, .int 0)]) [1, 0] rfl ?_
  obtain ⟨w1, h2, hf⟩ := bn_some hf
  refine lp_X4_findCosts_2 X E fu  fu (0 : Int32) w w1 h2 ?_
  refine x_iconst X (v := 0) dX4_findCosts_49 (by decide) ?_
  refine x_istore_n X (lv2 := [(1, .int 0), (0, .ref (ad 0))]) dX4_findCosts_50 (by decide) rfl ?_
  refine x_lpick (lv2 := [(0, .ref (ad 0)), (1, .int 0)]) [1, 0] rfl ?_
  obtain ⟨w3, h4, hf⟩ := bn_some hf
  refine lp_X4_findCosts_51 X E fu  fu (0 : Int32) w1 w3 h4 ?_
  cases hf
  exact x_vret X hr hlk rfl dX4_findCosts_236
end
section
variable {p : Program} {l : Launch} {e : Env} {s : State} {m : MethodId} {args : Array Value} {below : List Frame} {meth : Method} {c : Code} {D : va_G} {kA : Nat → ClassId} {A : Nat → Prop} {Q : State → Prop} {ad : Nat → Nat}
abbrev rm_X4_renewed : Room := { frames := 3, cells := 0, slots := 0, locals := 69 }
set_option maxRecDepth 100000 in
set_option maxHeartbeats 4000000 in
theorem lp_X4_renewed_11 (X : CX p m c cX4_renewed 4 s args RX4) (E : EX l s D kA A) (fu : Nat)  : ∀ (n : Nat) (y1 : Int32) (w : WS) (rw : WS), iter (fun q => bd_X4_renewed_11 fu q.1 q.2) n (y1, w) = some (rw) → CS p l e rm_X4_renewed s m args below meth c D A 4 0 0 Q (picM kA ad rw) 38 [(0, .ref (ad 0))] [] → CS p l e rm_X4_renewed s m args below meth c D A 4 0 0 Q (picM kA ad w) 11 [(0, .ref (ad 0)), (1, .int y1)] [] := by
  intro n
  induction n with
  | zero =>
    intro y1 w rw hit kk
    exact (iter_0 hit).elim
  | succ n ih =>
    intro y1 w rw hit kk
    obtain ⟨o, h1, hit⟩ := iter_one hit
    have hf : bd_X4_renewed_11 fu y1 w = some o := h1
    unfold bd_X4_renewed_11 at hf
    refine x_iload_n X dX4_renewed_11 1 rfl ?_
    refine x_aload_n X dX4_renewed_12 0 rfl ?_
    refine x_get X E.1.1 (T := TX4) (C := RX4) inW4 0 rfl rfl 15 (by decide) w_845 rfl (v := .ref (ad 9)) rfl dX4_renewed_13 ?_
    refine x_alen X E.1.1 9 1 rfl rfl (v := 4096) rfl dX4_renewed_16 ?_
    refine x_icmp_ge X (tgt := 38) dX4_renewed_17 (by decide) hf (fun hf => ?_) (fun hf => ?_)
    · cases hf
      cases hit
      refine x_lpick (lv2 := [(0, .ref (ad 0))]) [0] rfl ?_
      exact kk
    · refine x_aload_n X dX4_renewed_20 0 rfl ?_
      refine x_get X E.1.1 (T := TX4) (C := RX4) inW4 0 rfl rfl 16 (by decide) w_846 rfl (v := .ref (ad 10)) rfl dX4_renewed_21 ?_
      refine x_iload_n X dX4_renewed_24 1 rfl ?_
      refine x_aload_n X dX4_renewed_25 0 rfl ?_
      refine x_get X E.1.1 (T := TX4) (C := RX4) inW4 0 rfl rfl 15 (by decide) w_845 rfl (v := .ref (ad 9)) rfl dX4_renewed_26 ?_
      refine x_iload_n X dX4_renewed_29 1 rfl ?_
      refine x_lald X E.1.1 9 rfl dX4_renewed_30 hf (fun x1 hf => ?_)
      refine x_last X E.1.1 10 rfl dX4_renewed_31 hf (picM kA ad) (setM_10 kA ad _ _ _) (fun w2 hf => ?_)
      refine x_iinc X dX4_renewed_32 1 rfl (by decide) (y1 + 1) rfl hf (fun x3 => [(1, .int x3), (0, .ref (ad 0))]) (fun _ => rfl) (fun x3 hf => ?_)
      refine x_goto X (tgt := 11) dX4_renewed_35 (by decide) ?_
      cases hf
      refine x_lpick (lv2 := [(0, .ref (ad 0)), (1, .int x3)]) [1, 0] rfl ?_
      exact ih _ _ _ hit kk
set_option maxRecDepth 100000 in
set_option maxHeartbeats 4000000 in
theorem lp_X4_renewed_56 (X : CX p m c cX4_renewed 4 s args RX4) (E : EX l s D kA A) (fu : Nat) (w : WS) (y2 : Int32) : ∀ (n : Nat) (y1 : Int32) (y3 : Int32) (r1 : Int32), iter (fun q => bd_X4_renewed_56 fu w y2 q.1 q.2) n (y1, y3) = some (r1) → CS p l e rm_X4_renewed s m args below meth c D A 4 0 0 Q (picM kA ad w) 118 [(0, .ref (ad 0)), (1, .int r1), (2, .int y2)] [] → CS p l e rm_X4_renewed s m args below meth c D A 4 0 0 Q (picM kA ad w) 56 [(0, .ref (ad 0)), (1, .int y1), (2, .int y2), (3, .int y3)] [] := by
  intro n
  induction n with
  | zero =>
    intro y1 y3 r1 hit kk
    exact (iter_0 hit).elim
  | succ n ih =>
    intro y1 y3 r1 hit kk
    obtain ⟨o, h1, hit⟩ := iter_one hit
    have hf : bd_X4_renewed_56 fu w y2 y1 y3 = some o := h1
    unfold bd_X4_renewed_56 at hf
    refine x_iload_n X dX4_renewed_56 3 rfl ?_
    refine x_aload_n X dX4_renewed_57 0 rfl ?_
    refine x_get X E.1.1 (T := TX4) (C := RX4) inW4 0 rfl rfl 2 (by decide) w_832 rfl (v := .int (w.1 0 2)) rfl dX4_renewed_58 ?_
    refine x_nmI hf (fun x1 hf => ?_)
    refine x_icmp_ge X (tgt := 118) dX4_renewed_61 (by decide) hf (fun hf => ?_) (fun hf => ?_)
    · cases hf
      cases hit
      refine x_lpick (lv2 := [(0, .ref (ad 0)), (1, .int y1), (2, .int y2)]) [0, 1, 2] rfl ?_
      exact kk
    · refine x_iload_n X dX4_renewed_64 1 rfl ?_
      refine x_aload_n X dX4_renewed_65 0 rfl ?_
      refine x_get X E.1.1 (T := TX4) (C := RX4) inW4 0 rfl rfl 12 (by decide) w_842 rfl (v := .ref (ad 8)) rfl dX4_renewed_66 ?_
      refine x_bipush X (v := 64) dX4_renewed_69 (by decide) ?_
      refine x_iload_n X dX4_renewed_71 2 rfl ?_
      refine x_imul X dX4_renewed_72 ?_
      refine x_iload_n X dX4_renewed_73 3 rfl ?_
      refine x_iadd X dX4_renewed_74 ?_
      refine x_zald X E.1.1 8 rfl dX4_renewed_75 hf (fun x2 hf => ?_)
      refine x_if_eq X (tgt := 109) dX4_renewed_76 (by decide) hf (fun hf => ?_) (fun hf => ?_)
      · refine x_iconst X (v := 0) dX4_renewed_109 (by decide) ?_
        refine x_iadd X dX4_renewed_110 ?_
        refine x_nmI hf (fun x3 hf => ?_)
        refine x_istore_n X (lv2 := [(1, .int x3), (0, .ref (ad 0)), (2, .int y2), (3, .int y3)]) dX4_renewed_111 (by decide) rfl ?_
        refine x_iinc X dX4_renewed_112 3 rfl (by decide) (y3 + 1) rfl hf (fun x4 => [(3, .int x4), (1, .int x3), (0, .ref (ad 0)), (2, .int y2)]) (fun _ => rfl) (fun x4 hf => ?_)
        refine x_goto X (tgt := 56) dX4_renewed_115 (by decide) ?_
        cases hf
        refine x_lpick (lv2 := [(0, .ref (ad 0)), (1, .int x3), (2, .int y2), (3, .int x4)]) [2, 1, 3, 0] rfl ?_
        exact ih _ _ _ hit kk
      · refine x_aload_n X dX4_renewed_79 0 rfl ?_
        refine x_get X E.1.1 (T := TX4) (C := RX4) inW4 0 rfl rfl 15 (by decide) w_845 rfl (v := .ref (ad 9)) rfl dX4_renewed_80 ?_
        refine x_bipush X (v := 64) dX4_renewed_83 (by decide) ?_
        refine x_iload_n X dX4_renewed_85 2 rfl ?_
        refine x_imul X dX4_renewed_86 ?_
        refine x_iload_n X dX4_renewed_87 3 rfl ?_
        refine x_iadd X dX4_renewed_88 ?_
        refine x_lald X E.1.1 9 rfl dX4_renewed_89 hf (fun x5 hf => ?_)
        refine x_aload_n X dX4_renewed_90 0 rfl ?_
        refine x_get X E.1.1 (T := TX4) (C := RX4) inW4 0 rfl rfl 16 (by decide) w_846 rfl (v := .ref (ad 10)) rfl dX4_renewed_91 ?_
        refine x_bipush X (v := 64) dX4_renewed_94 (by decide) ?_
        refine x_iload_n X dX4_renewed_96 2 rfl ?_
        refine x_imul X dX4_renewed_97 ?_
        refine x_iload_n X dX4_renewed_98 3 rfl ?_
        refine x_iadd X dX4_renewed_99 ?_
        refine x_lald X E.1.1 10 rfl dX4_renewed_100 hf (fun x6 hf => ?_)
        refine x_lcmp X dX4_renewed_101 ?_
        refine x_if_eq X (tgt := 109) dX4_renewed_102 (by decide) hf (fun hf => ?_) (fun hf => ?_)
        · refine x_iconst X (v := 0) dX4_renewed_109 (by decide) ?_
          refine x_iadd X dX4_renewed_110 ?_
          refine x_nmI hf (fun x7 hf => ?_)
          refine x_istore_n X (lv2 := [(1, .int x7), (0, .ref (ad 0)), (2, .int y2), (3, .int y3)]) dX4_renewed_111 (by decide) rfl ?_
          refine x_iinc X dX4_renewed_112 3 rfl (by decide) (y3 + 1) rfl hf (fun x8 => [(3, .int x8), (1, .int x7), (0, .ref (ad 0)), (2, .int y2)]) (fun _ => rfl) (fun x8 hf => ?_)
          refine x_goto X (tgt := 56) dX4_renewed_115 (by decide) ?_
          cases hf
          refine x_lpick (lv2 := [(0, .ref (ad 0)), (1, .int x7), (2, .int y2), (3, .int x8)]) [2, 1, 3, 0] rfl ?_
          exact ih _ _ _ hit kk
        · refine x_iconst X (v := 1) dX4_renewed_105 (by decide) ?_
          refine x_goto X (tgt := 110) dX4_renewed_106 (by decide) ?_
          refine x_iadd X dX4_renewed_110 ?_
          refine x_nmI hf (fun x9 hf => ?_)
          refine x_istore_n X (lv2 := [(1, .int x9), (0, .ref (ad 0)), (2, .int y2), (3, .int y3)]) dX4_renewed_111 (by decide) rfl ?_
          refine x_iinc X dX4_renewed_112 3 rfl (by decide) (y3 + 1) rfl hf (fun x10 => [(3, .int x10), (1, .int x9), (0, .ref (ad 0)), (2, .int y2)]) (fun _ => rfl) (fun x10 hf => ?_)
          refine x_goto X (tgt := 56) dX4_renewed_115 (by decide) ?_
          cases hf
          refine x_lpick (lv2 := [(0, .ref (ad 0)), (1, .int x9), (2, .int y2), (3, .int x10)]) [2, 1, 3, 0] rfl ?_
          exact ih _ _ _ hit kk
set_option maxRecDepth 100000 in
set_option maxHeartbeats 4000000 in
theorem lp_X4_renewed_46 (X : CX p m c cX4_renewed 4 s args RX4) (E : EX l s D kA A) (fu : Nat) (w : WS) : ∀ (n : Nat) (y1 : Int32) (y2 : Int32) (r1 : Int32), iter (fun q => bd_X4_renewed_46 fu w q.1 q.2) n (y1, y2) = some (r1) → CS p l e rm_X4_renewed s m args below meth c D A 4 0 0 Q (picM kA ad w) 124 [(1, .int r1)] [] → CS p l e rm_X4_renewed s m args below meth c D A 4 0 0 Q (picM kA ad w) 46 [(0, .ref (ad 0)), (1, .int y1), (2, .int y2)] [] := by
  intro n
  induction n with
  | zero =>
    intro y1 y2 r1 hit kk
    exact (iter_0 hit).elim
  | succ n ih =>
    intro y1 y2 r1 hit kk
    obtain ⟨o, h1, hit⟩ := iter_one hit
    have hf : bd_X4_renewed_46 fu w y1 y2 = some o := h1
    unfold bd_X4_renewed_46 at hf
    refine x_iload_n X dX4_renewed_46 2 rfl ?_
    refine x_aload_n X dX4_renewed_47 0 rfl ?_
    refine x_get X E.1.1 (T := TX4) (C := RX4) inW4 0 rfl rfl 2 (by decide) w_832 rfl (v := .int (w.1 0 2)) rfl dX4_renewed_48 ?_
    refine x_nmI hf (fun x1 hf => ?_)
    refine x_icmp_ge X (tgt := 124) dX4_renewed_51 (by decide) hf (fun hf => ?_) (fun hf => ?_)
    · cases hf
      cases hit
      refine x_lpick (lv2 := [(1, .int y1)]) [1] rfl ?_
      exact kk
    · refine x_iconst X (v := 0) dX4_renewed_54 (by decide) ?_
      refine x_istore_n X (lv2 := [(3, .int 0), (0, .ref (ad 0)), (1, .int y1), (2, .int y2)]) dX4_renewed_55 (by decide) rfl ?_
      refine x_lpick (lv2 := [(0, .ref (ad 0)), (1, .int y1), (2, .int y2), (3, .int 0)]) [1, 2, 3, 0] rfl ?_
      obtain ⟨x2, h3, hf⟩ := bn_some hf
      refine lp_X4_renewed_56 X E fu w y2 fu y1 (0 : Int32) x2 h3 ?_
      refine x_iinc X dX4_renewed_118 2 rfl (by decide) (y2 + 1) rfl hf (fun x4 => [(2, .int x4), (0, .ref (ad 0)), (1, .int x2)]) (fun _ => rfl) (fun x4 hf => ?_)
      refine x_goto X (tgt := 46) dX4_renewed_121 (by decide) ?_
      cases hf
      refine x_lpick (lv2 := [(0, .ref (ad 0)), (1, .int x2), (2, .int x4)]) [1, 2, 0] rfl ?_
      exact ih _ _ _ hit kk
set_option maxRecDepth 100000 in
set_option maxHeartbeats 4000000 in
theorem met_X4_renewed (l : Launch) (hst : l.stackTraces = false) (D : va_G) (kA : Nat → ClassId) (ad : Nat → Nat) (fu : Nat) (w : WS)  (v : Int32) (w1 : WS) (hf : f_X4_renewed fu w = some (v, w1)) (sz : Nat) : Met l yX4_renewed (wsY yX4_renewed cX4_renewed 4 (some .int)) rm_X4_renewed (va_Pc [.ref (ad 0)] (PreG D kA (picM kA ad w) sz)) (va_Qi (fun (r : Int32) (_ : Unit) => r = v) (fun _ t => PosG D (va_A (picM kA ad w) sz) (picM kA ad w1) t) (va_A (picM kA ad w) sz)) 0 0 (va_A (picM kA ad w) sz) := by
  refine metG (own := RX4) hst (by decide +kernel) rfl (Nat.le_of_ble_eq_true rfl) rfl ?_
  intro p e s m below meth c X hr hlk E _
  unfold f_X4_renewed at hf
  refine x_aload_n X dX4_renewed_0 0 rfl ?_
  refine x_get X E.1.1 (T := TX4) (C := RX4) inW4 0 rfl rfl 9 (by decide) w_839 rfl (v := .int (w.1 0 9)) rfl dX4_renewed_1 ?_
  refine x_nmI hf (fun x1 hf => ?_)
  refine x_if_ne X (tgt := 9) dX4_renewed_4 (by decide) hf (fun hf => ?_) (fun hf => ?_)
  · refine x_iconst X (v := 0) dX4_renewed_9 (by decide) ?_
    refine x_istore_n X (lv2 := [(1, .int 0), (0, .ref (ad 0))]) dX4_renewed_10 (by decide) rfl ?_
    refine x_lpick (lv2 := [(0, .ref (ad 0)), (1, .int 0)]) [1, 0] rfl ?_
    obtain ⟨w2, h3, hf⟩ := bn_some hf
    refine lp_X4_renewed_11 X E fu  fu (0 : Int32) w w2 h3 ?_
    refine x_aload_n X dX4_renewed_38 0 rfl ?_
    obtain ⟨w4, hw4, hf⟩ := bn_some hf
    refine x_callV_v X E (As := []) (rest := []) (n := 0) (ws2 := (picM kA ad w4)) (goodV w_959 w_961 s_33 w_52 w_962) (met_X4_findCosts l E.2.2.2 D kA ad fu w2 w4 hw4) rfl rfl (by decide +kernel) ⟨by decide, by decide⟩ 0 rfl (qc := (RX4, TX4, _)) rfl rfl rfl rfl (Nat.le_of_ble_eq_true rfl) dX4_renewed_39 ⟨by decide, by decide⟩ ?_
    refine x_iconst X (v := 0) dX4_renewed_42 (by decide) ?_
    refine x_istore_n X (lv2 := [(1, .int 0), (0, .ref (ad 0))]) dX4_renewed_43 (by decide) rfl ?_
    refine x_iconst X (v := 0) dX4_renewed_44 (by decide) ?_
    refine x_istore_n X (lv2 := [(2, .int 0), (1, .int 0), (0, .ref (ad 0))]) dX4_renewed_45 (by decide) rfl ?_
    refine x_lpick (lv2 := [(0, .ref (ad 0)), (1, .int 0), (2, .int 0)]) [2, 1, 0] rfl ?_
    obtain ⟨x5, h6, hf⟩ := bn_some hf
    refine lp_X4_renewed_46 X E fu w4 fu (0 : Int32) (0 : Int32) x5 h6 ?_
    refine x_iload_n X dX4_renewed_124 0 rfl ?_
    cases hf
    exact x_iret X hr hlk rfl rfl dX4_renewed_125
  · refine x_iconst X (v := 0) dX4_renewed_7 (by decide) ?_
    cases hf
    exact x_iret X hr hlk rfl rfl dX4_renewed_8
end
section
variable {p : Program} {l : Launch} {e : Env} {s : State} {m : MethodId} {args : Array Value} {below : List Frame} {meth : Method} {c : Code} {D : va_G} {kA : Nat → ClassId} {A : Nat → Prop} {Q : State → Prop} {ad : Nat → Nat}
abbrev rm_X4_setWeight : Room := { frames := 4, cells := 0, slots := 0, locals := 92 }
set_option maxRecDepth 100000 in
set_option maxHeartbeats 4000000 in
theorem met_X4_setWeight (l : Launch) (hst : l.stackTraces = false) (D : va_G) (kA : Nat → ClassId) (ad : Nat → Nat) (fu : Nat) (w : WS) (a1 : Int32) (a2 : Int32) (v : Int32) (w1 : WS) (hf : f_X4_setWeight fu w a1 a2 = some (v, w1)) (sz : Nat) : Met l yX4_setWeight (wsY yX4_setWeight cX4_setWeight 3 (some .int)) rm_X4_setWeight (va_Pc [.ref (ad 0), .int a1, .int a2] (PreG D kA (picM kA ad w) sz)) (va_Qi (fun (r : Int32) (_ : Unit) => r = v) (fun _ t => PosG D (va_A (picM kA ad w) sz) (picM kA ad w1) t) (va_A (picM kA ad w) sz)) 0 0 (va_A (picM kA ad w) sz) := by
  refine metG (own := RX4) hst (by decide +kernel) rfl (Nat.le_of_ble_eq_true rfl) rfl ?_
  intro p e s m below meth c X hr hlk E _
  unfold f_X4_setWeight at hf
  refine x_aload_n X dX4_setWeight_0 0 rfl ?_
  refine x_iconst X (v := 0) dX4_setWeight_1 (by decide) ?_
  refine x_put X E.1.1 (T := TX4) (C := RX4) (ty := .int) inW4 tyX4 tyX4_ok nmX4 0 rfl rfl 0 (by decide) w_830 rfl rfl (by decide +kernel) rfl rfl (Nat.le_of_ble_eq_true rfl) dX4_setWeight_2 (picM kA ad (wI w 0 0 0)) rfl ?_
  refine x_nmW (pic := picM kA ad) (u := (wI w 0 0 0)) hf (fun w1 hf => ?_)
  refine x_aload_n X dX4_setWeight_5 0 rfl ?_
  refine x_iload_n X dX4_setWeight_6 1 rfl ?_
  obtain ⟨x2, hx2, hf⟩ := bn_some hf
  refine x_callV_i X E (As := [.int a1]) (rest := []) (n := 1) (ws2 := (picM kA ad w1)) (goodV w_951 w_953 s_31 w_52 w_954) (met_X4_isRoad l E.2.2.2 D kA ad fu w1 a1 x2 hx2) rfl rfl (by decide +kernel) ⟨by decide, by decide⟩ 0 rfl (qc := (RX4, TX4, _)) rfl rfl rfl rfl (Nat.le_of_ble_eq_true rfl) dX4_setWeight_7 ⟨by decide, by decide⟩ ?_
  refine x_if_ne X (tgt := 19) dX4_setWeight_10 (by decide) hf (fun hf => ?_) (fun hf => ?_)
  · refine x_iload_n X dX4_setWeight_19 2 rfl ?_
    refine x_iconst X (v := 1) dX4_setWeight_20 (by decide) ?_
    refine x_icmp_lt X (tgt := 31) dX4_setWeight_21 (by decide) hf (fun hf => ?_) (fun hf => ?_)
    · refine x_aload_n X dX4_setWeight_31 0 rfl ?_
      refine x_iconst X (v := 2) dX4_setWeight_32 (by decide) ?_
      obtain ⟨x4, w3, hx4, hf⟩ := bn2_some hf
      refine x_callV_i X E (As := [.int 2]) (rest := []) (n := 1) (ws2 := (picM kA ad w3)) (goodV w_935 w_937 s_29 w_52 w_938) (met_X4_fail l E.2.2.2 D kA ad fu w1 (2 : Int32) x4 w3 hx4) rfl rfl (by decide +kernel) ⟨by decide, by decide⟩ 0 rfl (qc := (RX4, TX4, _)) rfl rfl rfl rfl (Nat.le_of_ble_eq_true rfl) dX4_setWeight_33 ⟨by decide, by decide⟩ ?_
      cases hf
      exact x_iret X hr hlk rfl rfl dX4_setWeight_36
    · refine x_iload_n X dX4_setWeight_24 2 rfl ?_
      refine x_sipush X (v := 10000) dX4_setWeight_25 (by decide) ?_
      refine x_icmp_le X (tgt := 37) dX4_setWeight_28 (by decide) hf (fun hf => ?_) (fun hf => ?_)
      · refine x_aload_n X dX4_setWeight_37 0 rfl ?_
        refine x_get X E.1.1 (T := TX4) (C := RX4) inW4 0 rfl rfl 5 (by decide) w_835 rfl (v := .ref (ad 3)) rfl dX4_setWeight_38 ?_
        refine x_iload_n X dX4_setWeight_41 1 rfl ?_
        refine x_iload_n X dX4_setWeight_42 2 rfl ?_
        refine x_iast X E.1.1 3 rfl dX4_setWeight_43 hf (picM kA ad) (setM_3 kA ad _ _ _) (fun w5 hf => ?_)
        refine x_aload_n X dX4_setWeight_44 0 rfl ?_
        obtain ⟨x7, w6, hx7, hf⟩ := bn2_some hf
        refine x_callV_i X E (As := []) (rest := []) (n := 0) (ws2 := (picM kA ad w6)) (goodV w_955 w_957 s_32 w_52 w_958) (met_X4_renewed l E.2.2.2 D kA ad fu w5 x7 w6 hx7) rfl rfl (by decide +kernel) ⟨by decide, by decide⟩ 0 rfl (qc := (RX4, TX4, _)) rfl rfl rfl rfl (Nat.le_of_ble_eq_true rfl) dX4_setWeight_45 ⟨by decide, by decide⟩ ?_
        cases hf
        exact x_iret X hr hlk rfl rfl dX4_setWeight_48
      · refine x_aload_n X dX4_setWeight_31 0 rfl ?_
        refine x_iconst X (v := 2) dX4_setWeight_32 (by decide) ?_
        obtain ⟨x9, w8, hx9, hf⟩ := bn2_some hf
        refine x_callV_i X E (As := [.int 2]) (rest := []) (n := 1) (ws2 := (picM kA ad w8)) (goodV w_935 w_937 s_29 w_52 w_938) (met_X4_fail l E.2.2.2 D kA ad fu w1 (2 : Int32) x9 w8 hx9) rfl rfl (by decide +kernel) ⟨by decide, by decide⟩ 0 rfl (qc := (RX4, TX4, _)) rfl rfl rfl rfl (Nat.le_of_ble_eq_true rfl) dX4_setWeight_33 ⟨by decide, by decide⟩ ?_
        cases hf
        exact x_iret X hr hlk rfl rfl dX4_setWeight_36
  · refine x_aload_n X dX4_setWeight_13 0 rfl ?_
    refine x_iconst X (v := 1) dX4_setWeight_14 (by decide) ?_
    obtain ⟨x11, w10, hx11, hf⟩ := bn2_some hf
    refine x_callV_i X E (As := [.int 1]) (rest := []) (n := 1) (ws2 := (picM kA ad w10)) (goodV w_935 w_937 s_29 w_52 w_938) (met_X4_fail l E.2.2.2 D kA ad fu w1 (1 : Int32) x11 w10 hx11) rfl rfl (by decide +kernel) ⟨by decide, by decide⟩ 0 rfl (qc := (RX4, TX4, _)) rfl rfl rfl rfl (Nat.le_of_ble_eq_true rfl) dX4_setWeight_15 ⟨by decide, by decide⟩ ?_
    cases hf
    exact x_iret X hr hlk rfl rfl dX4_setWeight_18
end
section
variable {p : Program} {l : Launch} {e : Env} {s : State} {m : MethodId} {args : Array Value} {below : List Frame} {meth : Method} {c : Code} {D : va_G} {kA : Nat → ClassId} {A : Nat → Prop} {Q : State → Prop} {ad : Nat → Nat}
abbrev rm_X4_setOpen : Room := { frames := 4, cells := 0, slots := 0, locals := 92 }
set_option maxRecDepth 100000 in
set_option maxHeartbeats 4000000 in
theorem met_X4_setOpen (l : Launch) (hst : l.stackTraces = false) (D : va_G) (kA : Nat → ClassId) (ad : Nat → Nat) (fu : Nat) (w : WS) (a1 : Int32) (a2 : Int32) (v : Int32) (w1 : WS) (hf : f_X4_setOpen fu w a1 a2 = some (v, w1)) (sz : Nat) : Met l yX4_setOpen (wsY yX4_setOpen cX4_setOpen 3 (some .int)) rm_X4_setOpen (va_Pc [.ref (ad 0), .int a1, .int a2] (PreG D kA (picM kA ad w) sz)) (va_Qi (fun (r : Int32) (_ : Unit) => r = v) (fun _ t => PosG D (va_A (picM kA ad w) sz) (picM kA ad w1) t) (va_A (picM kA ad w) sz)) 0 0 (va_A (picM kA ad w) sz) := by
  refine metG (own := RX4) hst (by decide +kernel) rfl (Nat.le_of_ble_eq_true rfl) rfl ?_
  intro p e s m below meth c X hr hlk E _
  unfold f_X4_setOpen at hf
  refine x_aload_n X dX4_setOpen_0 0 rfl ?_
  refine x_iconst X (v := 0) dX4_setOpen_1 (by decide) ?_
  refine x_put X E.1.1 (T := TX4) (C := RX4) (ty := .int) inW4 tyX4 tyX4_ok nmX4 0 rfl rfl 0 (by decide) w_830 rfl rfl (by decide +kernel) rfl rfl (Nat.le_of_ble_eq_true rfl) dX4_setOpen_2 (picM kA ad (wI w 0 0 0)) rfl ?_
  refine x_nmW (pic := picM kA ad) (u := (wI w 0 0 0)) hf (fun w1 hf => ?_)
  refine x_aload_n X dX4_setOpen_5 0 rfl ?_
  refine x_iload_n X dX4_setOpen_6 1 rfl ?_
  obtain ⟨x2, hx2, hf⟩ := bn_some hf
  refine x_callV_i X E (As := [.int a1]) (rest := []) (n := 1) (ws2 := (picM kA ad w1)) (goodV w_951 w_953 s_31 w_52 w_954) (met_X4_isRoad l E.2.2.2 D kA ad fu w1 a1 x2 hx2) rfl rfl (by decide +kernel) ⟨by decide, by decide⟩ 0 rfl (qc := (RX4, TX4, _)) rfl rfl rfl rfl (Nat.le_of_ble_eq_true rfl) dX4_setOpen_7 ⟨by decide, by decide⟩ ?_
  refine x_if_ne X (tgt := 19) dX4_setOpen_10 (by decide) hf (fun hf => ?_) (fun hf => ?_)
  · refine x_aload_n X dX4_setOpen_19 0 rfl ?_
    refine x_get X E.1.1 (T := TX4) (C := RX4) inW4 0 rfl rfl 6 (by decide) w_836 rfl (v := .ref (ad 4)) rfl dX4_setOpen_20 ?_
    refine x_iload_n X dX4_setOpen_23 1 rfl ?_
    refine x_iload_n X dX4_setOpen_24 2 rfl ?_
    refine x_zast X E.1.1 4 rfl dX4_setOpen_25 hf (picM kA ad) (setM_4 kA ad _ _ _) (fun w3 hf => ?_)
    refine x_aload_n X dX4_setOpen_26 0 rfl ?_
    obtain ⟨x5, w4, hx5, hf⟩ := bn2_some hf
    refine x_callV_i X E (As := []) (rest := []) (n := 0) (ws2 := (picM kA ad w4)) (goodV w_955 w_957 s_32 w_52 w_958) (met_X4_renewed l E.2.2.2 D kA ad fu w3 x5 w4 hx5) rfl rfl (by decide +kernel) ⟨by decide, by decide⟩ 0 rfl (qc := (RX4, TX4, _)) rfl rfl rfl rfl (Nat.le_of_ble_eq_true rfl) dX4_setOpen_27 ⟨by decide, by decide⟩ ?_
    cases hf
    exact x_iret X hr hlk rfl rfl dX4_setOpen_30
  · refine x_aload_n X dX4_setOpen_13 0 rfl ?_
    refine x_iconst X (v := 1) dX4_setOpen_14 (by decide) ?_
    obtain ⟨x7, w6, hx7, hf⟩ := bn2_some hf
    refine x_callV_i X E (As := [.int 1]) (rest := []) (n := 1) (ws2 := (picM kA ad w6)) (goodV w_935 w_937 s_29 w_52 w_938) (met_X4_fail l E.2.2.2 D kA ad fu w1 (1 : Int32) x7 w6 hx7) rfl rfl (by decide +kernel) ⟨by decide, by decide⟩ 0 rfl (qc := (RX4, TX4, _)) rfl rfl rfl rfl (Nat.le_of_ble_eq_true rfl) dX4_setOpen_15 ⟨by decide, by decide⟩ ?_
    cases hf
    exact x_iret X hr hlk rfl rfl dX4_setOpen_18
end
section
variable {p : Program} {l : Launch} {e : Env} {s : State} {m : MethodId} {args : Array Value} {below : List Frame} {meth : Method} {c : Code} {D : va_G} {kA : Nat → ClassId} {A : Nat → Prop} {Q : State → Prop} {ad : Nat → Nat}
abbrev rm_X4_setTurn : Room := { frames := 4, cells := 0, slots := 0, locals := 92 }
set_option maxRecDepth 100000 in
set_option maxHeartbeats 4000000 in
theorem met_X4_setTurn (l : Launch) (hst : l.stackTraces = false) (D : va_G) (kA : Nat → ClassId) (ad : Nat → Nat) (fu : Nat) (w : WS) (a1 : Int32) (a2 : Int32) (a3 : Int32) (v : Int32) (w1 : WS) (hf : f_X4_setTurn fu w a1 a2 a3 = some (v, w1)) (sz : Nat) : Met l yX4_setTurn (wsY yX4_setTurn cX4_setTurn 4 (some .int)) rm_X4_setTurn (va_Pc [.ref (ad 0), .int a1, .int a2, .int a3] (PreG D kA (picM kA ad w) sz)) (va_Qi (fun (r : Int32) (_ : Unit) => r = v) (fun _ t => PosG D (va_A (picM kA ad w) sz) (picM kA ad w1) t) (va_A (picM kA ad w) sz)) 0 0 (va_A (picM kA ad w) sz) := by
  refine metG (own := RX4) hst (by decide +kernel) rfl (Nat.le_of_ble_eq_true rfl) rfl ?_
  intro p e s m below meth c X hr hlk E _
  unfold f_X4_setTurn at hf
  refine x_aload_n X dX4_setTurn_0 0 rfl ?_
  refine x_iconst X (v := 0) dX4_setTurn_1 (by decide) ?_
  refine x_put X E.1.1 (T := TX4) (C := RX4) (ty := .int) inW4 tyX4 tyX4_ok nmX4 0 rfl rfl 0 (by decide) w_830 rfl rfl (by decide +kernel) rfl rfl (Nat.le_of_ble_eq_true rfl) dX4_setTurn_2 (picM kA ad (wI w 0 0 0)) rfl ?_
  refine x_nmW (pic := picM kA ad) (u := (wI w 0 0 0)) hf (fun w1 hf => ?_)
  refine x_aload_n X dX4_setTurn_5 0 rfl ?_
  refine x_iload_n X dX4_setTurn_6 1 rfl ?_
  obtain ⟨x2, hx2, hf⟩ := bn_some hf
  refine x_callV_i X E (As := [.int a1]) (rest := []) (n := 1) (ws2 := (picM kA ad w1)) (goodV w_951 w_953 s_31 w_52 w_954) (met_X4_isRoad l E.2.2.2 D kA ad fu w1 a1 x2 hx2) rfl rfl (by decide +kernel) ⟨by decide, by decide⟩ 0 rfl (qc := (RX4, TX4, _)) rfl rfl rfl rfl (Nat.le_of_ble_eq_true rfl) dX4_setTurn_7 ⟨by decide, by decide⟩ ?_
  refine x_if_eq X (tgt := 21) dX4_setTurn_10 (by decide) hf (fun hf => ?_) (fun hf => ?_)
  · refine x_aload_n X dX4_setTurn_21 0 rfl ?_
    refine x_iconst X (v := 1) dX4_setTurn_22 (by decide) ?_
    obtain ⟨x4, w3, hx4, hf⟩ := bn2_some hf
    refine x_callV_i X E (As := [.int 1]) (rest := []) (n := 1) (ws2 := (picM kA ad w3)) (goodV w_935 w_937 s_29 w_52 w_938) (met_X4_fail l E.2.2.2 D kA ad fu w1 (1 : Int32) x4 w3 hx4) rfl rfl (by decide +kernel) ⟨by decide, by decide⟩ 0 rfl (qc := (RX4, TX4, _)) rfl rfl rfl rfl (Nat.le_of_ble_eq_true rfl) dX4_setTurn_23 ⟨by decide, by decide⟩ ?_
    cases hf
    exact x_iret X hr hlk rfl rfl dX4_setTurn_26
  · refine x_aload_n X dX4_setTurn_13 0 rfl ?_
    refine x_iload_n X dX4_setTurn_14 2 rfl ?_
    obtain ⟨x5, hx5, hf⟩ := bn_some hf
    refine x_callV_i X E (As := [.int a2]) (rest := []) (n := 1) (ws2 := (picM kA ad w1)) (goodV w_951 w_953 s_31 w_52 w_954) (met_X4_isRoad l E.2.2.2 D kA ad fu w1 a2 x5 hx5) rfl rfl (by decide +kernel) ⟨by decide, by decide⟩ 0 rfl (qc := (RX4, TX4, _)) rfl rfl rfl rfl (Nat.le_of_ble_eq_true rfl) dX4_setTurn_15 ⟨by decide, by decide⟩ ?_
    refine x_if_ne X (tgt := 27) dX4_setTurn_18 (by decide) hf (fun hf => ?_) (fun hf => ?_)
    · refine x_aload_n X dX4_setTurn_27 0 rfl ?_
      refine x_iload_n X dX4_setTurn_28 1 rfl ?_
      refine x_iload_n X dX4_setTurn_29 2 rfl ?_
      obtain ⟨x6, hx6, hf⟩ := bn_some hf
      refine x_callV_i X E (As := [.int a1, .int a2]) (rest := []) (n := 2) (ws2 := (picM kA ad w1)) (goodV w_967 w_969 s_35 w_52 w_970) (met_X4_follows l E.2.2.2 D kA ad fu w1 a1 a2 x6 hx6) rfl rfl (by decide +kernel) ⟨by decide, by decide⟩ 0 rfl (qc := (RX4, TX4, _)) rfl rfl rfl rfl (Nat.le_of_ble_eq_true rfl) dX4_setTurn_30 ⟨by decide, by decide⟩ ?_
      refine x_if_eq X (tgt := 49) dX4_setTurn_33 (by decide) hf (fun hf => ?_) (fun hf => ?_)
      · refine x_aload_n X dX4_setTurn_49 0 rfl ?_
        refine x_iconst X (v := 2) dX4_setTurn_50 (by decide) ?_
        obtain ⟨x8, w7, hx8, hf⟩ := bn2_some hf
        refine x_callV_i X E (As := [.int 2]) (rest := []) (n := 1) (ws2 := (picM kA ad w7)) (goodV w_935 w_937 s_29 w_52 w_938) (met_X4_fail l E.2.2.2 D kA ad fu w1 (2 : Int32) x8 w7 hx8) rfl rfl (by decide +kernel) ⟨by decide, by decide⟩ 0 rfl (qc := (RX4, TX4, _)) rfl rfl rfl rfl (Nat.le_of_ble_eq_true rfl) dX4_setTurn_51 ⟨by decide, by decide⟩ ?_
        cases hf
        exact x_iret X hr hlk rfl rfl dX4_setTurn_54
      · refine x_iload_n X dX4_setTurn_36 3 rfl ?_
        refine x_bipush X (v := (-2)) dX4_setTurn_37 (by decide) ?_
        refine x_icmp_lt X (tgt := 49) dX4_setTurn_39 (by decide) hf (fun hf => ?_) (fun hf => ?_)
        · refine x_aload_n X dX4_setTurn_49 0 rfl ?_
          refine x_iconst X (v := 2) dX4_setTurn_50 (by decide) ?_
          obtain ⟨x10, w9, hx10, hf⟩ := bn2_some hf
          refine x_callV_i X E (As := [.int 2]) (rest := []) (n := 1) (ws2 := (picM kA ad w9)) (goodV w_935 w_937 s_29 w_52 w_938) (met_X4_fail l E.2.2.2 D kA ad fu w1 (2 : Int32) x10 w9 hx10) rfl rfl (by decide +kernel) ⟨by decide, by decide⟩ 0 rfl (qc := (RX4, TX4, _)) rfl rfl rfl rfl (Nat.le_of_ble_eq_true rfl) dX4_setTurn_51 ⟨by decide, by decide⟩ ?_
          cases hf
          exact x_iret X hr hlk rfl rfl dX4_setTurn_54
        · refine x_iload_n X dX4_setTurn_42 3 rfl ?_
          refine x_sipush X (v := 1000) dX4_setTurn_43 (by decide) ?_
          refine x_icmp_le X (tgt := 55) dX4_setTurn_46 (by decide) hf (fun hf => ?_) (fun hf => ?_)
          · refine x_aload_n X dX4_setTurn_55 0 rfl ?_
            refine x_get X E.1.1 (T := TX4) (C := RX4) inW4 0 rfl rfl 7 (by decide) w_837 rfl (v := .ref (ad 5)) rfl dX4_setTurn_56 ?_
            refine x_bipush X (v := 64) dX4_setTurn_59 (by decide) ?_
            refine x_iload_n X dX4_setTurn_61 1 rfl ?_
            refine x_imul X dX4_setTurn_62 ?_
            refine x_iload_n X dX4_setTurn_63 2 rfl ?_
            refine x_iadd X dX4_setTurn_64 ?_
            refine x_iload_n X dX4_setTurn_65 3 rfl ?_
            refine x_iast X E.1.1 5 rfl dX4_setTurn_66 hf (picM kA ad) (setM_5 kA ad _ _ _) (fun w11 hf => ?_)
            refine x_aload_n X dX4_setTurn_67 0 rfl ?_
            obtain ⟨x13, w12, hx13, hf⟩ := bn2_some hf
            refine x_callV_i X E (As := []) (rest := []) (n := 0) (ws2 := (picM kA ad w12)) (goodV w_955 w_957 s_32 w_52 w_958) (met_X4_renewed l E.2.2.2 D kA ad fu w11 x13 w12 hx13) rfl rfl (by decide +kernel) ⟨by decide, by decide⟩ 0 rfl (qc := (RX4, TX4, _)) rfl rfl rfl rfl (Nat.le_of_ble_eq_true rfl) dX4_setTurn_68 ⟨by decide, by decide⟩ ?_
            cases hf
            exact x_iret X hr hlk rfl rfl dX4_setTurn_71
          · refine x_aload_n X dX4_setTurn_49 0 rfl ?_
            refine x_iconst X (v := 2) dX4_setTurn_50 (by decide) ?_
            obtain ⟨x15, w14, hx15, hf⟩ := bn2_some hf
            refine x_callV_i X E (As := [.int 2]) (rest := []) (n := 1) (ws2 := (picM kA ad w14)) (goodV w_935 w_937 s_29 w_52 w_938) (met_X4_fail l E.2.2.2 D kA ad fu w1 (2 : Int32) x15 w14 hx15) rfl rfl (by decide +kernel) ⟨by decide, by decide⟩ 0 rfl (qc := (RX4, TX4, _)) rfl rfl rfl rfl (Nat.le_of_ble_eq_true rfl) dX4_setTurn_51 ⟨by decide, by decide⟩ ?_
            cases hf
            exact x_iret X hr hlk rfl rfl dX4_setTurn_54
    · refine x_aload_n X dX4_setTurn_21 0 rfl ?_
      refine x_iconst X (v := 1) dX4_setTurn_22 (by decide) ?_
      obtain ⟨x17, w16, hx17, hf⟩ := bn2_some hf
      refine x_callV_i X E (As := [.int 1]) (rest := []) (n := 1) (ws2 := (picM kA ad w16)) (goodV w_935 w_937 s_29 w_52 w_938) (met_X4_fail l E.2.2.2 D kA ad fu w1 (1 : Int32) x17 w16 hx17) rfl rfl (by decide +kernel) ⟨by decide, by decide⟩ 0 rfl (qc := (RX4, TX4, _)) rfl rfl rfl rfl (Nat.le_of_ble_eq_true rfl) dX4_setTurn_23 ⟨by decide, by decide⟩ ?_
      cases hf
      exact x_iret X hr hlk rfl rfl dX4_setTurn_26
end
section
variable {p : Program} {l : Launch} {e : Env} {s : State} {m : MethodId} {args : Array Value} {below : List Frame} {meth : Method} {c : Code} {D : va_G} {kA : Nat → ClassId} {A : Nat → Prop} {Q : State → Prop} {ad : Nat → Nat}
abbrev rm_X4_setUTurn : Room := { frames := 4, cells := 0, slots := 0, locals := 92 }
set_option maxRecDepth 100000 in
set_option maxHeartbeats 4000000 in
theorem met_X4_setUTurn (l : Launch) (hst : l.stackTraces = false) (D : va_G) (kA : Nat → ClassId) (ad : Nat → Nat) (fu : Nat) (w : WS) (a1 : Int32) (v : Int32) (w1 : WS) (hf : f_X4_setUTurn fu w a1 = some (v, w1)) (sz : Nat) : Met l yX4_setUTurn (wsY yX4_setUTurn cX4_setUTurn 2 (some .int)) rm_X4_setUTurn (va_Pc [.ref (ad 0), .int a1] (PreG D kA (picM kA ad w) sz)) (va_Qi (fun (r : Int32) (_ : Unit) => r = v) (fun _ t => PosG D (va_A (picM kA ad w) sz) (picM kA ad w1) t) (va_A (picM kA ad w) sz)) 0 0 (va_A (picM kA ad w) sz) := by
  refine metG (own := RX4) hst (by decide +kernel) rfl (Nat.le_of_ble_eq_true rfl) rfl ?_
  intro p e s m below meth c X hr hlk E _
  unfold f_X4_setUTurn at hf
  refine x_aload_n X dX4_setUTurn_0 0 rfl ?_
  refine x_iconst X (v := 0) dX4_setUTurn_1 (by decide) ?_
  refine x_put X E.1.1 (T := TX4) (C := RX4) (ty := .int) inW4 tyX4 tyX4_ok nmX4 0 rfl rfl 0 (by decide) w_830 rfl rfl (by decide +kernel) rfl rfl (Nat.le_of_ble_eq_true rfl) dX4_setUTurn_2 (picM kA ad (wI w 0 0 0)) rfl ?_
  refine x_nmW (pic := picM kA ad) (u := (wI w 0 0 0)) hf (fun w1 hf => ?_)
  refine x_iload_n X dX4_setUTurn_5 1 rfl ?_
  refine x_iconst X (v := (-1)) dX4_setUTurn_6 (by decide) ?_
  refine x_icmp_lt X (tgt := 17) dX4_setUTurn_7 (by decide) hf (fun hf => ?_) (fun hf => ?_)
  · refine x_aload_n X dX4_setUTurn_17 0 rfl ?_
    refine x_iconst X (v := 1) dX4_setUTurn_18 (by decide) ?_
    obtain ⟨x3, w2, hx3, hf⟩ := bn2_some hf
    refine x_callV_i X E (As := [.int 1]) (rest := []) (n := 1) (ws2 := (picM kA ad w2)) (goodV w_935 w_937 s_29 w_52 w_938) (met_X4_fail l E.2.2.2 D kA ad fu w1 (1 : Int32) x3 w2 hx3) rfl rfl (by decide +kernel) ⟨by decide, by decide⟩ 0 rfl (qc := (RX4, TX4, _)) rfl rfl rfl rfl (Nat.le_of_ble_eq_true rfl) dX4_setUTurn_19 ⟨by decide, by decide⟩ ?_
    cases hf
    exact x_iret X hr hlk rfl rfl dX4_setUTurn_22
  · refine x_iload_n X dX4_setUTurn_10 1 rfl ?_
    refine x_sipush X (v := 1000) dX4_setUTurn_11 (by decide) ?_
    refine x_icmp_le X (tgt := 23) dX4_setUTurn_14 (by decide) hf (fun hf => ?_) (fun hf => ?_)
    · refine x_aload_n X dX4_setUTurn_23 0 rfl ?_
      refine x_iload_n X dX4_setUTurn_24 1 rfl ?_
      refine x_put X E.1.1 (T := TX4) (C := RX4) (ty := .int) inW4 tyX4 tyX4_ok nmX4 0 rfl rfl 8 (by decide) w_838 rfl rfl (by decide +kernel) rfl rfl (Nat.le_of_ble_eq_true rfl) dX4_setUTurn_25 (picM kA ad (wI w1 0 8 a1)) rfl ?_
      refine x_nmW (pic := picM kA ad) (u := (wI w1 0 8 a1)) hf (fun w4 hf => ?_)
      refine x_aload_n X dX4_setUTurn_28 0 rfl ?_
      obtain ⟨x6, w5, hx6, hf⟩ := bn2_some hf
      refine x_callV_i X E (As := []) (rest := []) (n := 0) (ws2 := (picM kA ad w5)) (goodV w_955 w_957 s_32 w_52 w_958) (met_X4_renewed l E.2.2.2 D kA ad fu w4 x6 w5 hx6) rfl rfl (by decide +kernel) ⟨by decide, by decide⟩ 0 rfl (qc := (RX4, TX4, _)) rfl rfl rfl rfl (Nat.le_of_ble_eq_true rfl) dX4_setUTurn_29 ⟨by decide, by decide⟩ ?_
      cases hf
      exact x_iret X hr hlk rfl rfl dX4_setUTurn_32
    · refine x_aload_n X dX4_setUTurn_17 0 rfl ?_
      refine x_iconst X (v := 1) dX4_setUTurn_18 (by decide) ?_
      obtain ⟨x8, w7, hx8, hf⟩ := bn2_some hf
      refine x_callV_i X E (As := [.int 1]) (rest := []) (n := 1) (ws2 := (picM kA ad w7)) (goodV w_935 w_937 s_29 w_52 w_938) (met_X4_fail l E.2.2.2 D kA ad fu w1 (1 : Int32) x8 w7 hx8) rfl rfl (by decide +kernel) ⟨by decide, by decide⟩ 0 rfl (qc := (RX4, TX4, _)) rfl rfl rfl rfl (Nat.le_of_ble_eq_true rfl) dX4_setUTurn_19 ⟨by decide, by decide⟩ ?_
      cases hf
      exact x_iret X hr hlk rfl rfl dX4_setUTurn_22
end
section
variable {p : Program} {l : Launch} {e : Env} {s : State} {m : MethodId} {args : Array Value} {below : List Frame} {meth : Method} {c : Code} {D : va_G} {kA : Nat → ClassId} {A : Nat → Prop} {Q : State → Prop} {ad : Nat → Nat}
abbrev rm_X4_junctionCount : Room := { frames := 0, cells := 0, slots := 0, locals := 0 }
set_option maxRecDepth 100000 in
set_option maxHeartbeats 4000000 in
theorem met_X4_junctionCount (l : Launch) (hst : l.stackTraces = false) (D : va_G) (kA : Nat → ClassId) (ad : Nat → Nat) (fu : Nat) (w : WS)  (v : Int32) (w1 : WS) (hf : f_X4_junctionCount fu w = some (v, w1)) (sz : Nat) : Met l yX4_junctionCount (wsY yX4_junctionCount cX4_junctionCount 1 (some .int)) rm_X4_junctionCount (va_Pc [.ref (ad 0)] (PreG D kA (picM kA ad w) sz)) (va_Qi (fun (r : Int32) (_ : Unit) => r = v) (fun _ t => PosG D (va_A (picM kA ad w) sz) (picM kA ad w1) t) (va_A (picM kA ad w) sz)) 0 0 (va_A (picM kA ad w) sz) := by
  refine metG (own := RX4) hst (by decide +kernel) rfl (Nat.le_of_ble_eq_true rfl) rfl ?_
  intro p e s m below meth c X hr hlk E _
  unfold f_X4_junctionCount at hf
  refine x_aload_n X dX4_junctionCount_0 0 rfl ?_
  refine x_iconst X (v := 0) dX4_junctionCount_1 (by decide) ?_
  refine x_put X E.1.1 (T := TX4) (C := RX4) (ty := .int) inW4 tyX4 tyX4_ok nmX4 0 rfl rfl 0 (by decide) w_830 rfl rfl (by decide +kernel) rfl rfl (Nat.le_of_ble_eq_true rfl) dX4_junctionCount_2 (picM kA ad (wI w 0 0 0)) rfl ?_
  refine x_nmW (pic := picM kA ad) (u := (wI w 0 0 0)) hf (fun w1 hf => ?_)
  refine x_aload_n X dX4_junctionCount_5 0 rfl ?_
  refine x_get X E.1.1 (T := TX4) (C := RX4) inW4 0 rfl rfl 1 (by decide) w_831 rfl (v := .int (w1.1 0 1)) rfl dX4_junctionCount_6 ?_
  refine x_nmI hf (fun x2 hf => ?_)
  cases hf
  exact x_iret X hr hlk rfl rfl dX4_junctionCount_9
end
section
variable {p : Program} {l : Launch} {e : Env} {s : State} {m : MethodId} {args : Array Value} {below : List Frame} {meth : Method} {c : Code} {D : va_G} {kA : Nat → ClassId} {A : Nat → Prop} {Q : State → Prop} {ad : Nat → Nat}
abbrev rm_X4_roadCount : Room := { frames := 0, cells := 0, slots := 0, locals := 0 }
set_option maxRecDepth 100000 in
set_option maxHeartbeats 4000000 in
theorem met_X4_roadCount (l : Launch) (hst : l.stackTraces = false) (D : va_G) (kA : Nat → ClassId) (ad : Nat → Nat) (fu : Nat) (w : WS)  (v : Int32) (w1 : WS) (hf : f_X4_roadCount fu w = some (v, w1)) (sz : Nat) : Met l yX4_roadCount (wsY yX4_roadCount cX4_roadCount 1 (some .int)) rm_X4_roadCount (va_Pc [.ref (ad 0)] (PreG D kA (picM kA ad w) sz)) (va_Qi (fun (r : Int32) (_ : Unit) => r = v) (fun _ t => PosG D (va_A (picM kA ad w) sz) (picM kA ad w1) t) (va_A (picM kA ad w) sz)) 0 0 (va_A (picM kA ad w) sz) := by
  refine metG (own := RX4) hst (by decide +kernel) rfl (Nat.le_of_ble_eq_true rfl) rfl ?_
  intro p e s m below meth c X hr hlk E _
  unfold f_X4_roadCount at hf
  refine x_aload_n X dX4_roadCount_0 0 rfl ?_
  refine x_iconst X (v := 0) dX4_roadCount_1 (by decide) ?_
  refine x_put X E.1.1 (T := TX4) (C := RX4) (ty := .int) inW4 tyX4 tyX4_ok nmX4 0 rfl rfl 0 (by decide) w_830 rfl rfl (by decide +kernel) rfl rfl (Nat.le_of_ble_eq_true rfl) dX4_roadCount_2 (picM kA ad (wI w 0 0 0)) rfl ?_
  refine x_nmW (pic := picM kA ad) (u := (wI w 0 0 0)) hf (fun w1 hf => ?_)
  refine x_aload_n X dX4_roadCount_5 0 rfl ?_
  refine x_get X E.1.1 (T := TX4) (C := RX4) inW4 0 rfl rfl 2 (by decide) w_832 rfl (v := .int (w1.1 0 2)) rfl dX4_roadCount_6 ?_
  refine x_nmI hf (fun x2 hf => ?_)
  cases hf
  exact x_iret X hr hlk rfl rfl dX4_roadCount_9
end
section
variable {p : Program} {l : Launch} {e : Env} {s : State} {m : MethodId} {args : Array Value} {below : List Frame} {meth : Method} {c : Code} {D : va_G} {kA : Nat → ClassId} {A : Nat → Prop} {Q : State → Prop} {ad : Nat → Nat}
abbrev rm_X4_weight : Room := { frames := 1, cells := 0, slots := 0, locals := 21 }
set_option maxRecDepth 100000 in
set_option maxHeartbeats 4000000 in
theorem met_X4_weight (l : Launch) (hst : l.stackTraces = false) (D : va_G) (kA : Nat → ClassId) (ad : Nat → Nat) (fu : Nat) (w : WS) (a1 : Int32) (v : Int32) (w1 : WS) (hf : f_X4_weight fu w a1 = some (v, w1)) (sz : Nat) : Met l yX4_weight (wsY yX4_weight cX4_weight 2 (some .int)) rm_X4_weight (va_Pc [.ref (ad 0), .int a1] (PreG D kA (picM kA ad w) sz)) (va_Qi (fun (r : Int32) (_ : Unit) => r = v) (fun _ t => PosG D (va_A (picM kA ad w) sz) (picM kA ad w1) t) (va_A (picM kA ad w) sz)) 0 0 (va_A (picM kA ad w) sz) := by
  refine metG (own := RX4) hst (by decide +kernel) rfl (Nat.le_of_ble_eq_true rfl) rfl ?_
  intro p e s m below meth c X hr hlk E _
  unfold f_X4_weight at hf
  refine x_aload_n X dX4_weight_0 0 rfl ?_
  refine x_iconst X (v := 0) dX4_weight_1 (by decide) ?_
  refine x_put X E.1.1 (T := TX4) (C := RX4) (ty := .int) inW4 tyX4 tyX4_ok nmX4 0 rfl rfl 0 (by decide) w_830 rfl rfl (by decide +kernel) rfl rfl (Nat.le_of_ble_eq_true rfl) dX4_weight_2 (picM kA ad (wI w 0 0 0)) rfl ?_
  refine x_nmW (pic := picM kA ad) (u := (wI w 0 0 0)) hf (fun w1 hf => ?_)
  refine x_aload_n X dX4_weight_5 0 rfl ?_
  refine x_iload_n X dX4_weight_6 1 rfl ?_
  obtain ⟨x2, hx2, hf⟩ := bn_some hf
  refine x_callV_i X E (As := [.int a1]) (rest := []) (n := 1) (ws2 := (picM kA ad w1)) (goodV w_951 w_953 s_31 w_52 w_954) (met_X4_isRoad l E.2.2.2 D kA ad fu w1 a1 x2 hx2) rfl rfl (by decide +kernel) ⟨by decide, by decide⟩ 0 rfl (qc := (RX4, TX4, _)) rfl rfl rfl rfl (Nat.le_of_ble_eq_true rfl) dX4_weight_7 ⟨by decide, by decide⟩ ?_
  refine x_if_eq X (tgt := 22) dX4_weight_10 (by decide) hf (fun hf => ?_) (fun hf => ?_)
  · refine x_aload_n X dX4_weight_22 0 rfl ?_
    refine x_iconst X (v := 1) dX4_weight_23 (by decide) ?_
    obtain ⟨x4, w3, hx4, hf⟩ := bn2_some hf
    refine x_callV_i X E (As := [.int 1]) (rest := []) (n := 1) (ws2 := (picM kA ad w3)) (goodV w_935 w_937 s_29 w_52 w_938) (met_X4_fail l E.2.2.2 D kA ad fu w1 (1 : Int32) x4 w3 hx4) rfl rfl (by decide +kernel) ⟨by decide, by decide⟩ 0 rfl (qc := (RX4, TX4, _)) rfl rfl rfl rfl (Nat.le_of_ble_eq_true rfl) dX4_weight_24 ⟨by decide, by decide⟩ ?_
    cases hf
    exact x_iret X hr hlk rfl rfl dX4_weight_27
  · refine x_aload_n X dX4_weight_13 0 rfl ?_
    refine x_get X E.1.1 (T := TX4) (C := RX4) inW4 0 rfl rfl 5 (by decide) w_835 rfl (v := .ref (ad 3)) rfl dX4_weight_14 ?_
    refine x_iload_n X dX4_weight_17 1 rfl ?_
    refine x_iald X E.1.1 3 rfl dX4_weight_18 hf (fun x5 hf => ?_)
    refine x_goto X (tgt := 27) dX4_weight_19 (by decide) ?_
    cases hf
    exact x_iret X hr hlk rfl rfl dX4_weight_27
end
section
variable {p : Program} {l : Launch} {e : Env} {s : State} {m : MethodId} {args : Array Value} {below : List Frame} {meth : Method} {c : Code} {D : va_G} {kA : Nat → ClassId} {A : Nat → Prop} {Q : State → Prop} {ad : Nat → Nat}
abbrev rm_X4_isOpen : Room := { frames := 1, cells := 0, slots := 0, locals := 21 }
set_option maxRecDepth 100000 in
set_option maxHeartbeats 4000000 in
theorem met_X4_isOpen (l : Launch) (hst : l.stackTraces = false) (D : va_G) (kA : Nat → ClassId) (ad : Nat → Nat) (fu : Nat) (w : WS) (a1 : Int32) (v : Int32) (w1 : WS) (hf : f_X4_isOpen fu w a1 = some (v, w1)) (sz : Nat) : Met l yX4_isOpen (wsY yX4_isOpen cX4_isOpen 2 (some .boolean)) rm_X4_isOpen (va_Pc [.ref (ad 0), .int a1] (PreG D kA (picM kA ad w) sz)) (va_Qi (fun (r : Int32) (_ : Unit) => r = v) (fun _ t => PosG D (va_A (picM kA ad w) sz) (picM kA ad w1) t) (va_A (picM kA ad w) sz)) 0 0 (va_A (picM kA ad w) sz) := by
  refine metG (own := RX4) hst (by decide +kernel) rfl (Nat.le_of_ble_eq_true rfl) rfl ?_
  intro p e s m below meth c X hr hlk E _
  unfold f_X4_isOpen at hf
  refine x_aload_n X dX4_isOpen_0 0 rfl ?_
  refine x_iconst X (v := 0) dX4_isOpen_1 (by decide) ?_
  refine x_put X E.1.1 (T := TX4) (C := RX4) (ty := .int) inW4 tyX4 tyX4_ok nmX4 0 rfl rfl 0 (by decide) w_830 rfl rfl (by decide +kernel) rfl rfl (Nat.le_of_ble_eq_true rfl) dX4_isOpen_2 (picM kA ad (wI w 0 0 0)) rfl ?_
  refine x_nmW (pic := picM kA ad) (u := (wI w 0 0 0)) hf (fun w1 hf => ?_)
  refine x_aload_n X dX4_isOpen_5 0 rfl ?_
  refine x_iload_n X dX4_isOpen_6 1 rfl ?_
  obtain ⟨x2, hx2, hf⟩ := bn_some hf
  refine x_callV_i X E (As := [.int a1]) (rest := []) (n := 1) (ws2 := (picM kA ad w1)) (goodV w_951 w_953 s_31 w_52 w_954) (met_X4_isRoad l E.2.2.2 D kA ad fu w1 a1 x2 hx2) rfl rfl (by decide +kernel) ⟨by decide, by decide⟩ 0 rfl (qc := (RX4, TX4, _)) rfl rfl rfl rfl (Nat.le_of_ble_eq_true rfl) dX4_isOpen_7 ⟨by decide, by decide⟩ ?_
  refine x_if_eq X (tgt := 22) dX4_isOpen_10 (by decide) hf (fun hf => ?_) (fun hf => ?_)
  · refine x_aload_n X dX4_isOpen_22 0 rfl ?_
    refine x_iconst X (v := 1) dX4_isOpen_23 (by decide) ?_
    obtain ⟨x4, w3, hx4, hf⟩ := bn2_some hf
    refine x_callV_i X E (As := [.int 1]) (rest := []) (n := 1) (ws2 := (picM kA ad w3)) (goodV w_935 w_937 s_29 w_52 w_938) (met_X4_fail l E.2.2.2 D kA ad fu w1 (1 : Int32) x4 w3 hx4) rfl rfl (by decide +kernel) ⟨by decide, by decide⟩ 0 rfl (qc := (RX4, TX4, _)) rfl rfl rfl rfl (Nat.le_of_ble_eq_true rfl) dX4_isOpen_24 ⟨by decide, by decide⟩ ?_
    refine x_if_eq X (tgt := 34) dX4_isOpen_27 (by decide) hf (fun hf => ?_) (fun hf => ?_)
    · refine x_iconst X (v := 0) dX4_isOpen_34 (by decide) ?_
      cases hf
      exact x_zret X hr hlk rfl (by decide) rfl dX4_isOpen_35
    · refine x_iconst X (v := 1) dX4_isOpen_30 (by decide) ?_
      refine x_goto X (tgt := 35) dX4_isOpen_31 (by decide) ?_
      cases hf
      exact x_zret X hr hlk rfl (by decide) rfl dX4_isOpen_35
  · refine x_aload_n X dX4_isOpen_13 0 rfl ?_
    refine x_get X E.1.1 (T := TX4) (C := RX4) inW4 0 rfl rfl 6 (by decide) w_836 rfl (v := .ref (ad 4)) rfl dX4_isOpen_14 ?_
    refine x_iload_n X dX4_isOpen_17 1 rfl ?_
    refine x_zald X E.1.1 4 rfl dX4_isOpen_18 hf (fun x5 hf => ?_)
    refine x_goto X (tgt := 35) dX4_isOpen_19 (by decide) ?_
    obtain ⟨hz, hf⟩ := ck_some hf
    cases hf
    exact x_zret X hr hlk rfl hz rfl dX4_isOpen_35
end
section
variable {p : Program} {l : Launch} {e : Env} {s : State} {m : MethodId} {args : Array Value} {below : List Frame} {meth : Method} {c : Code} {D : va_G} {kA : Nat → ClassId} {A : Nat → Prop} {Q : State → Prop} {ad : Nat → Nat}
abbrev rm_X4_turnPenalty : Room := { frames := 1, cells := 0, slots := 0, locals := 23 }
set_option maxRecDepth 100000 in
set_option maxHeartbeats 4000000 in
theorem met_X4_turnPenalty (l : Launch) (hst : l.stackTraces = false) (D : va_G) (kA : Nat → ClassId) (ad : Nat → Nat) (fu : Nat) (w : WS) (a1 : Int32) (a2 : Int32) (v : Int32) (w1 : WS) (hf : f_X4_turnPenalty fu w a1 a2 = some (v, w1)) (sz : Nat) : Met l yX4_turnPenalty (wsY yX4_turnPenalty cX4_turnPenalty 3 (some .int)) rm_X4_turnPenalty (va_Pc [.ref (ad 0), .int a1, .int a2] (PreG D kA (picM kA ad w) sz)) (va_Qi (fun (r : Int32) (_ : Unit) => r = v) (fun _ t => PosG D (va_A (picM kA ad w) sz) (picM kA ad w1) t) (va_A (picM kA ad w) sz)) 0 0 (va_A (picM kA ad w) sz) := by
  refine metG (own := RX4) hst (by decide +kernel) rfl (Nat.le_of_ble_eq_true rfl) rfl ?_
  intro p e s m below meth c X hr hlk E _
  unfold f_X4_turnPenalty at hf
  refine x_aload_n X dX4_turnPenalty_0 0 rfl ?_
  refine x_iconst X (v := 0) dX4_turnPenalty_1 (by decide) ?_
  refine x_put X E.1.1 (T := TX4) (C := RX4) (ty := .int) inW4 tyX4 tyX4_ok nmX4 0 rfl rfl 0 (by decide) w_830 rfl rfl (by decide +kernel) rfl rfl (Nat.le_of_ble_eq_true rfl) dX4_turnPenalty_2 (picM kA ad (wI w 0 0 0)) rfl ?_
  refine x_nmW (pic := picM kA ad) (u := (wI w 0 0 0)) hf (fun w1 hf => ?_)
  refine x_aload_n X dX4_turnPenalty_5 0 rfl ?_
  refine x_iload_n X dX4_turnPenalty_6 1 rfl ?_
  obtain ⟨x2, hx2, hf⟩ := bn_some hf
  refine x_callV_i X E (As := [.int a1]) (rest := []) (n := 1) (ws2 := (picM kA ad w1)) (goodV w_951 w_953 s_31 w_52 w_954) (met_X4_isRoad l E.2.2.2 D kA ad fu w1 a1 x2 hx2) rfl rfl (by decide +kernel) ⟨by decide, by decide⟩ 0 rfl (qc := (RX4, TX4, _)) rfl rfl rfl rfl (Nat.le_of_ble_eq_true rfl) dX4_turnPenalty_7 ⟨by decide, by decide⟩ ?_
  refine x_if_eq X (tgt := 21) dX4_turnPenalty_10 (by decide) hf (fun hf => ?_) (fun hf => ?_)
  · refine x_aload_n X dX4_turnPenalty_21 0 rfl ?_
    refine x_iconst X (v := 1) dX4_turnPenalty_22 (by decide) ?_
    obtain ⟨x4, w3, hx4, hf⟩ := bn2_some hf
    refine x_callV_i X E (As := [.int 1]) (rest := []) (n := 1) (ws2 := (picM kA ad w3)) (goodV w_935 w_937 s_29 w_52 w_938) (met_X4_fail l E.2.2.2 D kA ad fu w1 (1 : Int32) x4 w3 hx4) rfl rfl (by decide +kernel) ⟨by decide, by decide⟩ 0 rfl (qc := (RX4, TX4, _)) rfl rfl rfl rfl (Nat.le_of_ble_eq_true rfl) dX4_turnPenalty_23 ⟨by decide, by decide⟩ ?_
    cases hf
    exact x_iret X hr hlk rfl rfl dX4_turnPenalty_26
  · refine x_aload_n X dX4_turnPenalty_13 0 rfl ?_
    refine x_iload_n X dX4_turnPenalty_14 2 rfl ?_
    obtain ⟨x5, hx5, hf⟩ := bn_some hf
    refine x_callV_i X E (As := [.int a2]) (rest := []) (n := 1) (ws2 := (picM kA ad w1)) (goodV w_951 w_953 s_31 w_52 w_954) (met_X4_isRoad l E.2.2.2 D kA ad fu w1 a2 x5 hx5) rfl rfl (by decide +kernel) ⟨by decide, by decide⟩ 0 rfl (qc := (RX4, TX4, _)) rfl rfl rfl rfl (Nat.le_of_ble_eq_true rfl) dX4_turnPenalty_15 ⟨by decide, by decide⟩ ?_
    refine x_if_ne X (tgt := 27) dX4_turnPenalty_18 (by decide) hf (fun hf => ?_) (fun hf => ?_)
    · refine x_aload_n X dX4_turnPenalty_27 0 rfl ?_
      refine x_iload_n X dX4_turnPenalty_28 1 rfl ?_
      refine x_iload_n X dX4_turnPenalty_29 2 rfl ?_
      obtain ⟨x6, hx6, hf⟩ := bn_some hf
      refine x_callV_i X E (As := [.int a1, .int a2]) (rest := []) (n := 2) (ws2 := (picM kA ad w1)) (goodV w_967 w_969 s_35 w_52 w_970) (met_X4_follows l E.2.2.2 D kA ad fu w1 a1 a2 x6 hx6) rfl rfl (by decide +kernel) ⟨by decide, by decide⟩ 0 rfl (qc := (RX4, TX4, _)) rfl rfl rfl rfl (Nat.le_of_ble_eq_true rfl) dX4_turnPenalty_30 ⟨by decide, by decide⟩ ?_
      refine x_if_eq X (tgt := 45) dX4_turnPenalty_33 (by decide) hf (fun hf => ?_) (fun hf => ?_)
      · refine x_aload_n X dX4_turnPenalty_45 0 rfl ?_
        refine x_iconst X (v := 2) dX4_turnPenalty_46 (by decide) ?_
        obtain ⟨x8, w7, hx8, hf⟩ := bn2_some hf
        refine x_callV_i X E (As := [.int 2]) (rest := []) (n := 1) (ws2 := (picM kA ad w7)) (goodV w_935 w_937 s_29 w_52 w_938) (met_X4_fail l E.2.2.2 D kA ad fu w1 (2 : Int32) x8 w7 hx8) rfl rfl (by decide +kernel) ⟨by decide, by decide⟩ 0 rfl (qc := (RX4, TX4, _)) rfl rfl rfl rfl (Nat.le_of_ble_eq_true rfl) dX4_turnPenalty_47 ⟨by decide, by decide⟩ ?_
        cases hf
        exact x_iret X hr hlk rfl rfl dX4_turnPenalty_50
      · refine x_aload_n X dX4_turnPenalty_36 0 rfl ?_
        refine x_iload_n X dX4_turnPenalty_37 1 rfl ?_
        refine x_iload_n X dX4_turnPenalty_38 2 rfl ?_
        obtain ⟨x9, hx9, hf⟩ := bn_some hf
        refine x_callV_i X E (As := [.int a1, .int a2]) (rest := []) (n := 2) (ws2 := (picM kA ad w1)) (goodV w_971 w_973 s_36 w_52 w_974) (met_X4_penalty l E.2.2.2 D kA ad fu w1 a1 a2 x9 hx9) rfl rfl (by decide +kernel) ⟨by decide, by decide⟩ 0 rfl (qc := (RX4, TX4, _)) rfl rfl rfl rfl (Nat.le_of_ble_eq_true rfl) dX4_turnPenalty_39 ⟨by decide, by decide⟩ ?_
        refine x_goto X (tgt := 50) dX4_turnPenalty_42 (by decide) ?_
        cases hf
        exact x_iret X hr hlk rfl rfl dX4_turnPenalty_50
    · refine x_aload_n X dX4_turnPenalty_21 0 rfl ?_
      refine x_iconst X (v := 1) dX4_turnPenalty_22 (by decide) ?_
      obtain ⟨x11, w10, hx11, hf⟩ := bn2_some hf
      refine x_callV_i X E (As := [.int 1]) (rest := []) (n := 1) (ws2 := (picM kA ad w10)) (goodV w_935 w_937 s_29 w_52 w_938) (met_X4_fail l E.2.2.2 D kA ad fu w1 (1 : Int32) x11 w10 hx11) rfl rfl (by decide +kernel) ⟨by decide, by decide⟩ 0 rfl (qc := (RX4, TX4, _)) rfl rfl rfl rfl (Nat.le_of_ble_eq_true rfl) dX4_turnPenalty_23 ⟨by decide, by decide⟩ ?_
      cases hf
      exact x_iret X hr hlk rfl rfl dX4_turnPenalty_26
end
section
variable {p : Program} {l : Launch} {e : Env} {s : State} {m : MethodId} {args : Array Value} {below : List Frame} {meth : Method} {c : Code} {D : va_G} {kA : Nat → ClassId} {A : Nat → Prop} {Q : State → Prop} {ad : Nat → Nat}
abbrev rm_X4_next : Room := { frames := 0, cells := 0, slots := 0, locals := 0 }
set_option maxRecDepth 100000 in
set_option maxHeartbeats 4000000 in
theorem lp_X4_next_36 (X : CX p m c cX4_next 7 s args RX4) (E : EX l s D kA A) (fu : Nat) (w : WS) (y1 : Int32) (y2 : Int32) (y3 : Int32) : ∀ (n : Nat) (y4 : Int32) (y5 : Int32) (y6 : Int32) (r4 : Int32) (r5 : Int32), iter (fun q => bd_X4_next_36 fu w y1 y2 y3 q.1 q.2.1 q.2.2) n (y4, y5, y6) = some (r4, r5) → CS p l e rm_X4_next s m args below meth c D A 7 0 0 Q (picM kA ad w) 115 [(0, .ref (ad 0)), (1, .int y1), (2, .int y2), (3, .int y3), (4, .int r4), (5, .int r5)] [] → CS p l e rm_X4_next s m args below meth c D A 7 0 0 Q (picM kA ad w) 36 [(0, .ref (ad 0)), (1, .int y1), (2, .int y2), (3, .int y3), (4, .int y4), (5, .int y5), (6, .int y6)] [] := by
  intro n
  induction n with
  | zero =>
    intro y4 y5 y6 r4 r5 hit kk
    exact (iter_0 hit).elim
  | succ n ih =>
    intro y4 y5 y6 r4 r5 hit kk
    obtain ⟨o, h1, hit⟩ := iter_one hit
    have hf : bd_X4_next_36 fu w y1 y2 y3 y4 y5 y6 = some o := h1
    unfold bd_X4_next_36 at hf
    refine x_iload X dX4_next_36 6 rfl ?_
    refine x_aload_n X dX4_next_38 0 rfl ?_
    refine x_get X E.1.1 (T := TX4) (C := RX4) inW4 0 rfl rfl 2 (by decide) w_832 rfl (v := .int (w.1 0 2)) rfl dX4_next_39 ?_
    refine x_nmI hf (fun x1 hf => ?_)
    refine x_icmp_ge X (tgt := 115) dX4_next_42 (by decide) hf (fun hf => ?_) (fun hf => ?_)
    · cases hf
      cases hit
      refine x_lpick (lv2 := [(0, .ref (ad 0)), (1, .int y1), (2, .int y2), (3, .int y3), (4, .int y4), (5, .int y5)]) [0, 1, 2, 3, 4, 5] rfl ?_
      exact kk
    · refine x_aload_n X dX4_next_45 0 rfl ?_
      refine x_get X E.1.1 (T := TX4) (C := RX4) inW4 0 rfl rfl 10 (by decide) w_840 rfl (v := .ref (ad 6)) rfl dX4_next_46 ?_
      refine x_iload X dX4_next_49 6 rfl ?_
      refine x_iald X E.1.1 6 rfl dX4_next_51 hf (fun x2 hf => ?_)
      refine x_iconst X (v := (-1)) dX4_next_52 (by decide) ?_
      refine x_icmp_eq X (tgt := 59) dX4_next_53 (by decide) hf (fun hf => ?_) (fun hf => ?_)
      · refine x_iload X dX4_next_59 4 rfl ?_
        refine x_aload_n X dX4_next_61 0 rfl ?_
        refine x_get X E.1.1 (T := TX4) (C := RX4) inW4 0 rfl rfl 12 (by decide) w_842 rfl (v := .ref (ad 8)) rfl dX4_next_62 ?_
        refine x_bipush X (v := 64) dX4_next_65 (by decide) ?_
        refine x_iload X dX4_next_67 6 rfl ?_
        refine x_imul X dX4_next_69 ?_
        refine x_iload_n X dX4_next_70 3 rfl ?_
        refine x_iadd X dX4_next_71 ?_
        refine x_zald X E.1.1 8 rfl dX4_next_72 hf (fun x3 hf => ?_)
        refine x_if_eq X (tgt := 80) dX4_next_73 (by decide) hf (fun hf => ?_) (fun hf => ?_)
        · refine x_iconst X (v := 0) dX4_next_80 (by decide) ?_
          refine x_iadd X dX4_next_81 ?_
          refine x_nmI hf (fun x4 hf => ?_)
          refine x_istore X (lv2 := [(4, .int x4), (0, .ref (ad 0)), (1, .int y1), (2, .int y2), (3, .int y3), (5, .int y5), (6, .int y6)]) dX4_next_82 (by decide) rfl ?_
          refine x_iload X dX4_next_84 5 rfl ?_
          refine x_aload_n X dX4_next_86 1 rfl ?_
          refine x_get X E.1.1 (T := TX4) (C := RX4) inW4 0 rfl rfl 12 (by decide) w_842 rfl (v := .ref (ad 8)) rfl dX4_next_87 ?_
          refine x_bipush X (v := 64) dX4_next_90 (by decide) ?_
          refine x_iload_n X dX4_next_92 4 rfl ?_
          refine x_imul X dX4_next_93 ?_
          refine x_iload X dX4_next_94 6 rfl ?_
          refine x_iadd X dX4_next_96 ?_
          refine x_zald X E.1.1 8 rfl dX4_next_97 hf (fun x5 hf => ?_)
          refine x_if_eq X (tgt := 105) dX4_next_98 (by decide) hf (fun hf => ?_) (fun hf => ?_)
          · refine x_iconst X (v := 0) dX4_next_105 (by decide) ?_
            refine x_iadd X dX4_next_106 ?_
            refine x_nmI hf (fun x6 hf => ?_)
            refine x_istore X (lv2 := [(5, .int x6), (4, .int x4), (0, .ref (ad 0)), (1, .int y1), (2, .int y2), (3, .int y3), (6, .int y6)]) dX4_next_107 (by decide) rfl ?_
            refine x_iinc X dX4_next_109 6 rfl (by decide) (y6 + 1) rfl hf (fun x7 => [(6, .int x7), (5, .int x6), (4, .int x4), (0, .ref (ad 0)), (1, .int y1), (2, .int y2), (3, .int y3)]) (fun _ => rfl) (fun x7 hf => ?_)
            refine x_goto X (tgt := 36) dX4_next_112 (by decide) ?_
            cases hf
            refine x_lpick (lv2 := [(0, .ref (ad 0)), (1, .int y1), (2, .int y2), (3, .int y3), (4, .int x4), (5, .int x6), (6, .int x7)]) [3, 4, 5, 6, 2, 1, 0] rfl ?_
            exact ih _ _ _ _ _ hit kk
          · refine x_iconst X (v := 1) dX4_next_101 (by decide) ?_
            refine x_goto X (tgt := 106) dX4_next_102 (by decide) ?_
            refine x_iadd X dX4_next_106 ?_
            refine x_nmI hf (fun x8 hf => ?_)
            refine x_istore X (lv2 := [(5, .int x8), (4, .int x4), (0, .ref (ad 0)), (1, .int y1), (2, .int y2), (3, .int y3), (6, .int y6)]) dX4_next_107 (by decide) rfl ?_
            refine x_iinc X dX4_next_109 6 rfl (by decide) (y6 + 1) rfl hf (fun x9 => [(6, .int x9), (5, .int x8), (4, .int x4), (0, .ref (ad 0)), (1, .int y1), (2, .int y2), (3, .int y3)]) (fun _ => rfl) (fun x9 hf => ?_)
            refine x_goto X (tgt := 36) dX4_next_112 (by decide) ?_
            cases hf
            refine x_lpick (lv2 := [(0, .ref (ad 0)), (1, .int y1), (2, .int y2), (3, .int y3), (4, .int x4), (5, .int x8), (6, .int x9)]) [3, 4, 5, 6, 2, 1, 0] rfl ?_
            exact ih _ _ _ _ _ hit kk
        · refine x_iconst X (v := 1) dX4_next_76 (by decide) ?_
          refine x_goto X (tgt := 81) dX4_next_77 (by decide) ?_
          refine x_iadd X dX4_next_81 ?_
          refine x_nmI hf (fun x10 hf => ?_)
          refine x_istore X (lv2 := [(4, .int x10), (0, .ref (ad 0)), (1, .int y1), (2, .int y2), (3, .int y3), (5, .int y5), (6, .int y6)]) dX4_next_82 (by decide) rfl ?_
          refine x_iload X dX4_next_84 5 rfl ?_
          refine x_aload_n X dX4_next_86 1 rfl ?_
          refine x_get X E.1.1 (T := TX4) (C := RX4) inW4 0 rfl rfl 12 (by decide) w_842 rfl (v := .ref (ad 8)) rfl dX4_next_87 ?_
          refine x_bipush X (v := 64) dX4_next_90 (by decide) ?_
          refine x_iload_n X dX4_next_92 4 rfl ?_
          refine x_imul X dX4_next_93 ?_
          refine x_iload X dX4_next_94 6 rfl ?_
          refine x_iadd X dX4_next_96 ?_
          refine x_zald X E.1.1 8 rfl dX4_next_97 hf (fun x11 hf => ?_)
          refine x_if_eq X (tgt := 105) dX4_next_98 (by decide) hf (fun hf => ?_) (fun hf => ?_)
          · refine x_iconst X (v := 0) dX4_next_105 (by decide) ?_
            refine x_iadd X dX4_next_106 ?_
            refine x_nmI hf (fun x12 hf => ?_)
            refine x_istore X (lv2 := [(5, .int x12), (4, .int x10), (0, .ref (ad 0)), (1, .int y1), (2, .int y2), (3, .int y3), (6, .int y6)]) dX4_next_107 (by decide) rfl ?_
            refine x_iinc X dX4_next_109 6 rfl (by decide) (y6 + 1) rfl hf (fun x13 => [(6, .int x13), (5, .int x12), (4, .int x10), (0, .ref (ad 0)), (1, .int y1), (2, .int y2), (3, .int y3)]) (fun _ => rfl) (fun x13 hf => ?_)
            refine x_goto X (tgt := 36) dX4_next_112 (by decide) ?_
            cases hf
            refine x_lpick (lv2 := [(0, .ref (ad 0)), (1, .int y1), (2, .int y2), (3, .int y3), (4, .int x10), (5, .int x12), (6, .int x13)]) [3, 4, 5, 6, 2, 1, 0] rfl ?_
            exact ih _ _ _ _ _ hit kk
          · refine x_iconst X (v := 1) dX4_next_101 (by decide) ?_
            refine x_goto X (tgt := 106) dX4_next_102 (by decide) ?_
            refine x_iadd X dX4_next_106 ?_
            refine x_nmI hf (fun x14 hf => ?_)
            refine x_istore X (lv2 := [(5, .int x14), (4, .int x10), (0, .ref (ad 0)), (1, .int y1), (2, .int y2), (3, .int y3), (6, .int y6)]) dX4_next_107 (by decide) rfl ?_
            refine x_iinc X dX4_next_109 6 rfl (by decide) (y6 + 1) rfl hf (fun x15 => [(6, .int x15), (5, .int x14), (4, .int x10), (0, .ref (ad 0)), (1, .int y1), (2, .int y2), (3, .int y3)]) (fun _ => rfl) (fun x15 hf => ?_)
            refine x_goto X (tgt := 36) dX4_next_112 (by decide) ?_
            cases hf
            refine x_lpick (lv2 := [(0, .ref (ad 0)), (1, .int y1), (2, .int y2), (3, .int y3), (4, .int x10), (5, .int x14), (6, .int x15)]) [3, 4, 5, 6, 2, 1, 0] rfl ?_
            exact ih _ _ _ _ _ hit kk
      · refine x_goto X (tgt := 109) dX4_next_56 (by decide) ?_
        refine x_iinc X dX4_next_109 6 rfl (by decide) (y6 + 1) rfl hf (fun x16 => [(6, .int x16), (0, .ref (ad 0)), (1, .int y1), (2, .int y2), (3, .int y3), (4, .int y4), (5, .int y5)]) (fun _ => rfl) (fun x16 hf => ?_)
        refine x_goto X (tgt := 36) dX4_next_112 (by decide) ?_
        cases hf
        refine x_lpick (lv2 := [(0, .ref (ad 0)), (1, .int y1), (2, .int y2), (3, .int y3), (4, .int y4), (5, .int y5), (6, .int x16)]) [1, 2, 3, 4, 5, 6, 0] rfl ?_
        exact ih _ _ _ _ _ hit kk
set_option maxRecDepth 100000 in
set_option maxHeartbeats 4000000 in
theorem lp_X4_next_6 (X : CX p m c cX4_next 7 s args RX4) (E : EX l s D kA A) (fu : Nat) (w : WS) : ∀ (n : Nat) (y1 : Int32) (y2 : Int32) (y3 : Int32) (r1 : Int32), iter (fun q => bd_X4_next_6 fu w q.1 q.2.1 q.2.2) n (y1, y2, y3) = some (r1) → CS p l e rm_X4_next s m args below meth c D A 7 0 0 Q (picM kA ad w) 146 [(1, .int r1)] [] → CS p l e rm_X4_next s m args below meth c D A 7 0 0 Q (picM kA ad w) 6 [(0, .ref (ad 0)), (1, .int y1), (2, .int y2), (3, .int y3)] [] := by
  intro n
  induction n with
  | zero =>
    intro y1 y2 y3 r1 hit kk
    exact (iter_0 hit).elim
  | succ n ih =>
    intro y1 y2 y3 r1 hit kk
    obtain ⟨o, h1, hit⟩ := iter_one hit
    have hf : bd_X4_next_6 fu w y1 y2 y3 = some o := h1
    unfold bd_X4_next_6 at hf
    refine x_iload_n X dX4_next_6 3 rfl ?_
    refine x_aload_n X dX4_next_7 0 rfl ?_
    refine x_get X E.1.1 (T := TX4) (C := RX4) inW4 0 rfl rfl 2 (by decide) w_832 rfl (v := .int (w.1 0 2)) rfl dX4_next_8 ?_
    refine x_nmI hf (fun x1 hf => ?_)
    refine x_icmp_ge X (tgt := 146) dX4_next_11 (by decide) hf (fun hf => ?_) (fun hf => ?_)
    · cases hf
      cases hit
      refine x_lpick (lv2 := [(1, .int y1)]) [1] rfl ?_
      exact kk
    · refine x_aload_n X dX4_next_14 0 rfl ?_
      refine x_get X E.1.1 (T := TX4) (C := RX4) inW4 0 rfl rfl 10 (by decide) w_840 rfl (v := .ref (ad 6)) rfl dX4_next_15 ?_
      refine x_iload_n X dX4_next_18 3 rfl ?_
      refine x_iald X E.1.1 6 rfl dX4_next_19 hf (fun x2 hf => ?_)
      refine x_iconst X (v := (-1)) dX4_next_20 (by decide) ?_
      refine x_icmp_eq X (tgt := 27) dX4_next_21 (by decide) hf (fun hf => ?_) (fun hf => ?_)
      · refine x_iconst X (v := 0) dX4_next_27 (by decide) ?_
        refine x_istore X (lv2 := [(4, .int 0), (0, .ref (ad 0)), (1, .int y1), (2, .int y2), (3, .int y3)]) dX4_next_28 (by decide) rfl ?_
        refine x_iconst X (v := 0) dX4_next_30 (by decide) ?_
        refine x_istore X (lv2 := [(5, .int 0), (4, .int 0), (0, .ref (ad 0)), (1, .int y1), (2, .int y2), (3, .int y3)]) dX4_next_31 (by decide) rfl ?_
        refine x_iconst X (v := 0) dX4_next_33 (by decide) ?_
        refine x_istore X (lv2 := [(6, .int 0), (5, .int 0), (4, .int 0), (0, .ref (ad 0)), (1, .int y1), (2, .int y2), (3, .int y3)]) dX4_next_34 (by decide) rfl ?_
        refine x_lpick (lv2 := [(0, .ref (ad 0)), (1, .int y1), (2, .int y2), (3, .int y3), (4, .int 0), (5, .int 0), (6, .int 0)]) [3, 4, 5, 6, 2, 1, 0] rfl ?_
        obtain ⟨x3, x4, h5, hf⟩ := bn2_some hf
        refine lp_X4_next_36 X E fu w y1 y2 y3 fu (0 : Int32) (0 : Int32) (0 : Int32) x3 x4 h5 ?_
        refine x_iload_n X dX4_next_115 1 rfl ?_
        refine x_iconst X (v := (-1)) dX4_next_116 (by decide) ?_
        refine x_icmp_eq X (tgt := 132) dX4_next_117 (by decide) hf (fun hf => ?_) (fun hf => ?_)
        · refine x_iload_n X dX4_next_132 3 rfl ?_
          refine x_istore_n X (lv2 := [(1, .int y3), (0, .ref (ad 0)), (2, .int y2), (3, .int y3), (4, .int x3), (5, .int x4)]) dX4_next_133 (by decide) rfl ?_
          refine x_iload X dX4_next_134 4 rfl ?_
          refine x_iload X dX4_next_136 5 rfl ?_
          refine x_imul X dX4_next_138 ?_
          refine x_nmI hf (fun x6 hf => ?_)
          refine x_istore_n X (lv2 := [(2, .int x6), (1, .int y3), (0, .ref (ad 0)), (3, .int y3), (4, .int x3), (5, .int x4)]) dX4_next_139 (by decide) rfl ?_
          refine x_iinc X dX4_next_140 3 rfl (by decide) (y3 + 1) rfl hf (fun x7 => [(3, .int x7), (2, .int x6), (1, .int y3), (0, .ref (ad 0)), (4, .int x3), (5, .int x4)]) (fun _ => rfl) (fun x7 hf => ?_)
          refine x_goto X (tgt := 6) dX4_next_143 (by decide) ?_
          cases hf
          refine x_lpick (lv2 := [(0, .ref (ad 0)), (1, .int y3), (2, .int x6), (3, .int x7)]) [3, 2, 1, 0] rfl ?_
          exact ih _ _ _ _ hit kk
        · refine x_iload X dX4_next_120 4 rfl ?_
          refine x_iload X dX4_next_122 5 rfl ?_
          refine x_imul X dX4_next_124 ?_
          refine x_iload_n X dX4_next_125 2 rfl ?_
          refine x_icmp_lt X (tgt := 132) dX4_next_126 (by decide) hf (fun hf => ?_) (fun hf => ?_)
          · refine x_iload_n X dX4_next_132 3 rfl ?_
            refine x_istore_n X (lv2 := [(1, .int y3), (0, .ref (ad 0)), (2, .int y2), (3, .int y3), (4, .int x3), (5, .int x4)]) dX4_next_133 (by decide) rfl ?_
            refine x_iload X dX4_next_134 4 rfl ?_
            refine x_iload X dX4_next_136 5 rfl ?_
            refine x_imul X dX4_next_138 ?_
            refine x_nmI hf (fun x8 hf => ?_)
            refine x_istore_n X (lv2 := [(2, .int x8), (1, .int y3), (0, .ref (ad 0)), (3, .int y3), (4, .int x3), (5, .int x4)]) dX4_next_139 (by decide) rfl ?_
            refine x_iinc X dX4_next_140 3 rfl (by decide) (y3 + 1) rfl hf (fun x9 => [(3, .int x9), (2, .int x8), (1, .int y3), (0, .ref (ad 0)), (4, .int x3), (5, .int x4)]) (fun _ => rfl) (fun x9 hf => ?_)
            refine x_goto X (tgt := 6) dX4_next_143 (by decide) ?_
            cases hf
            refine x_lpick (lv2 := [(0, .ref (ad 0)), (1, .int y3), (2, .int x8), (3, .int x9)]) [3, 2, 1, 0] rfl ?_
            exact ih _ _ _ _ hit kk
          · refine x_goto X (tgt := 140) dX4_next_129 (by decide) ?_
            refine x_iinc X dX4_next_140 3 rfl (by decide) (y3 + 1) rfl hf (fun x10 => [(3, .int x10), (0, .ref (ad 0)), (1, .int y1), (2, .int y2), (4, .int x3), (5, .int x4)]) (fun _ => rfl) (fun x10 hf => ?_)
            refine x_goto X (tgt := 6) dX4_next_143 (by decide) ?_
            cases hf
            refine x_lpick (lv2 := [(0, .ref (ad 0)), (1, .int y1), (2, .int y2), (3, .int x10)]) [1, 2, 3, 0] rfl ?_
            exact ih _ _ _ _ hit kk
      · refine x_goto X (tgt := 140) dX4_next_24 (by decide) ?_
        refine x_iinc X dX4_next_140 3 rfl (by decide) (y3 + 1) rfl hf (fun x11 => [(3, .int x11), (0, .ref (ad 0)), (1, .int y1), (2, .int y2)]) (fun _ => rfl) (fun x11 hf => ?_)
        refine x_goto X (tgt := 6) dX4_next_143 (by decide) ?_
        cases hf
        refine x_lpick (lv2 := [(0, .ref (ad 0)), (1, .int y1), (2, .int y2), (3, .int x11)]) [1, 2, 3, 0] rfl ?_
        exact ih _ _ _ _ hit kk
set_option maxRecDepth 100000 in
set_option maxHeartbeats 4000000 in
theorem met_X4_next (l : Launch) (hst : l.stackTraces = false) (D : va_G) (kA : Nat → ClassId) (ad : Nat → Nat) (fu : Nat) (w : WS)  (v : Int32) (hf : f_X4_next fu w = some v) (sz : Nat) : Met l yX4_next (wsY yX4_next cX4_next 7 (some .int)) rm_X4_next (va_Pc [.ref (ad 0)] (PreG D kA (picM kA ad w) sz)) (va_Qi (fun (r : Int32) (_ : Unit) => r = v) (fun _ t => PosG D (va_A (picM kA ad w) sz) (picM kA ad w) t) (va_A (picM kA ad w) sz)) 0 0 (va_A (picM kA ad w) sz) := by
  refine metG (own := RX4) hst (by decide +kernel) rfl (Nat.le_of_ble_eq_true rfl) rfl ?_
  intro p e s m below meth c X hr hlk E _
  unfold f_X4_next at hf
  refine x_iconst X (v := (-1)) dX4_next_0 (by decide) ?_
  refine x_istore_n X (lv2 := [(1, .int (-1)), (0, .ref (ad 0))]) dX4_next_1 (by decide) rfl ?_
  refine x_iconst X (v := 0) dX4_next_2 (by decide) ?_
  refine x_istore_n X (lv2 := [(2, .int 0), (1, .int (-1)), (0, .ref (ad 0))]) dX4_next_3 (by decide) rfl ?_
  refine x_iconst X (v := 0) dX4_next_4 (by decide) ?_
  refine x_istore_n X (lv2 := [(3, .int 0), (2, .int 0), (1, .int (-1)), (0, .ref (ad 0))]) dX4_next_5 (by decide) rfl ?_
  refine x_lpick (lv2 := [(0, .ref (ad 0)), (1, .int (-1)), (2, .int 0), (3, .int 0)]) [3, 2, 1, 0] rfl ?_
  obtain ⟨x1, h2, hf⟩ := bn_some hf
  refine lp_X4_next_6 X E fu w fu ((-1) : Int32) (0 : Int32) (0 : Int32) x1 h2 ?_
  refine x_iload_n X dX4_next_146 0 rfl ?_
  exact x_iret X hr hlk rfl (Option.some.inj hf) dX4_next_147
end
section
variable {p : Program} {l : Launch} {e : Env} {s : State} {m : MethodId} {args : Array Value} {below : List Frame} {meth : Method} {c : Code} {D : va_G} {kA : Nat → ClassId} {A : Nat → Prop} {Q : State → Prop} {ad : Nat → Nat}
abbrev rm_X4_take : Room := { frames := 0, cells := 0, slots := 0, locals := 0 }
set_option maxRecDepth 100000 in
set_option maxHeartbeats 4000000 in
theorem lp_X4_take_27 (X : CX p m c cX4_take 5 s args RX4) (E : EX l s D kA A) (fu : Nat) (y1 : Int32) (y3 : Int32) : ∀ (n : Nat) (y4 : Int32) (w : WS) (rw : WS), iter (fun q => bd_X4_take_27 fu y1 y3 q.1 q.2) n (y4, w) = some (rw) → CS p l e rm_X4_take s m args below meth c D A 5 0 0 Q (picM kA ad rw) 152 [(0, .ref (ad 0)), (1, .int y1), (3, .int y3)] [] → CS p l e rm_X4_take s m args below meth c D A 5 0 0 Q (picM kA ad w) 27 [(0, .ref (ad 0)), (1, .int y1), (3, .int y3), (4, .int y4)] [] := by
  intro n
  induction n with
  | zero =>
    intro y4 w rw hit kk
    exact (iter_0 hit).elim
  | succ n ih =>
    intro y4 w rw hit kk
    obtain ⟨o, h1, hit⟩ := iter_one hit
    have hf : bd_X4_take_27 fu y1 y3 y4 w = some o := h1
    unfold bd_X4_take_27 at hf
    refine x_iload X dX4_take_27 3 rfl ?_
    refine x_aload_n X dX4_take_29 0 rfl ?_
    refine x_get X E.1.1 (T := TX4) (C := RX4) inW4 0 rfl rfl 2 (by decide) w_832 rfl (v := .int (w.1 0 2)) rfl dX4_take_30 ?_
    refine x_nmI hf (fun x1 hf => ?_)
    refine x_icmp_ge X (tgt := 152) dX4_take_33 (by decide) hf (fun hf => ?_) (fun hf => ?_)
    · cases hf
      cases hit
      refine x_lpick (lv2 := [(0, .ref (ad 0)), (1, .int y1), (3, .int y3)]) [0, 1, 2] rfl ?_
      exact kk
    · refine x_iload_n X dX4_take_36 2 rfl ?_
      refine x_iload X dX4_take_37 3 rfl ?_
      refine x_icmp_eq X (tgt := 146) dX4_take_39 (by decide) hf (fun hf => ?_) (fun hf => ?_)
      · refine x_iinc X dX4_take_146 3 rfl (by decide) (y4 + 1) rfl hf (fun x2 => [(4, .int x2), (0, .ref (ad 0)), (1, .int y1), (3, .int y3)]) (fun _ => rfl) (fun x2 hf => ?_)
        refine x_goto X (tgt := 27) dX4_take_149 (by decide) ?_
        cases hf
        refine x_lpick (lv2 := [(0, .ref (ad 0)), (1, .int y1), (3, .int y3), (4, .int x2)]) [1, 2, 3, 0] rfl ?_
        exact ih _ _ _ hit kk
      · refine x_aload_n X dX4_take_42 0 rfl ?_
        refine x_get X E.1.1 (T := TX4) (C := RX4) inW4 0 rfl rfl 10 (by decide) w_840 rfl (v := .ref (ad 6)) rfl dX4_take_43 ?_
        refine x_iload_n X dX4_take_46 2 rfl ?_
        refine x_iald X E.1.1 6 rfl dX4_take_47 hf (fun x3 hf => ?_)
        refine x_iconst X (v := (-1)) dX4_take_48 (by decide) ?_
        refine x_icmp_ne X (tgt := 146) dX4_take_49 (by decide) hf (fun hf => ?_) (fun hf => ?_)
        · refine x_iinc X dX4_take_146 3 rfl (by decide) (y4 + 1) rfl hf (fun x4 => [(4, .int x4), (0, .ref (ad 0)), (1, .int y1), (3, .int y3)]) (fun _ => rfl) (fun x4 hf => ?_)
          refine x_goto X (tgt := 27) dX4_take_149 (by decide) ?_
          cases hf
          refine x_lpick (lv2 := [(0, .ref (ad 0)), (1, .int y1), (3, .int y3), (4, .int x4)]) [1, 2, 3, 0] rfl ?_
          exact ih _ _ _ hit kk
        · refine x_aload_n X dX4_take_52 0 rfl ?_
          refine x_get X E.1.1 (T := TX4) (C := RX4) inW4 0 rfl rfl 10 (by decide) w_840 rfl (v := .ref (ad 6)) rfl dX4_take_53 ?_
          refine x_iload X dX4_take_56 3 rfl ?_
          refine x_iald X E.1.1 6 rfl dX4_take_58 hf (fun x5 hf => ?_)
          refine x_iconst X (v := (-1)) dX4_take_59 (by decide) ?_
          refine x_icmp_ne X (tgt := 146) dX4_take_60 (by decide) hf (fun hf => ?_) (fun hf => ?_)
          · refine x_iinc X dX4_take_146 3 rfl (by decide) (y4 + 1) rfl hf (fun x6 => [(4, .int x6), (0, .ref (ad 0)), (1, .int y1), (3, .int y3)]) (fun _ => rfl) (fun x6 hf => ?_)
            refine x_goto X (tgt := 27) dX4_take_149 (by decide) ?_
            cases hf
            refine x_lpick (lv2 := [(0, .ref (ad 0)), (1, .int y1), (3, .int y3), (4, .int x6)]) [1, 2, 3, 0] rfl ?_
            exact ih _ _ _ hit kk
          · refine x_aload_n X dX4_take_63 0 rfl ?_
            refine x_get X E.1.1 (T := TX4) (C := RX4) inW4 0 rfl rfl 12 (by decide) w_842 rfl (v := .ref (ad 8)) rfl dX4_take_64 ?_
            refine x_bipush X (v := 64) dX4_take_67 (by decide) ?_
            refine x_iload_n X dX4_take_69 2 rfl ?_
            refine x_imul X dX4_take_70 ?_
            refine x_iload X dX4_take_71 3 rfl ?_
            refine x_iadd X dX4_take_73 ?_
            refine x_zald X E.1.1 8 rfl dX4_take_74 hf (fun x7 hf => ?_)
            refine x_if_eq X (tgt := 81) dX4_take_75 (by decide) hf (fun hf => ?_) (fun hf => ?_)
            · refine x_aload_n X dX4_take_81 0 rfl ?_
              refine x_get X E.1.1 (T := TX4) (C := RX4) inW4 0 rfl rfl 12 (by decide) w_842 rfl (v := .ref (ad 8)) rfl dX4_take_82 ?_
              refine x_bipush X (v := 64) dX4_take_85 (by decide) ?_
              refine x_iload_n X dX4_take_87 2 rfl ?_
              refine x_imul X dX4_take_88 ?_
              refine x_iload_n X dX4_take_89 1 rfl ?_
              refine x_iadd X dX4_take_90 ?_
              refine x_zald X E.1.1 8 rfl dX4_take_91 hf (fun x8 hf => ?_)
              refine x_if_eq X (tgt := 146) dX4_take_92 (by decide) hf (fun hf => ?_) (fun hf => ?_)
              · refine x_iinc X dX4_take_146 3 rfl (by decide) (y4 + 1) rfl hf (fun x9 => [(4, .int x9), (0, .ref (ad 0)), (1, .int y1), (3, .int y3)]) (fun _ => rfl) (fun x9 hf => ?_)
                refine x_goto X (tgt := 27) dX4_take_149 (by decide) ?_
                cases hf
                refine x_lpick (lv2 := [(0, .ref (ad 0)), (1, .int y1), (3, .int y3), (4, .int x9)]) [1, 2, 3, 0] rfl ?_
                exact ih _ _ _ hit kk
              · refine x_aload_n X dX4_take_95 0 rfl ?_
                refine x_get X E.1.1 (T := TX4) (C := RX4) inW4 0 rfl rfl 12 (by decide) w_842 rfl (v := .ref (ad 8)) rfl dX4_take_96 ?_
                refine x_bipush X (v := 64) dX4_take_99 (by decide) ?_
                refine x_iload_n X dX4_take_101 1 rfl ?_
                refine x_imul X dX4_take_102 ?_
                refine x_iload X dX4_take_103 3 rfl ?_
                refine x_iadd X dX4_take_105 ?_
                refine x_zald X E.1.1 8 rfl dX4_take_106 hf (fun x10 hf => ?_)
                refine x_if_ne X (tgt := 113) dX4_take_107 (by decide) hf (fun hf => ?_) (fun hf => ?_)
                · refine x_aload_n X dX4_take_113 0 rfl ?_
                  refine x_get X E.1.1 (T := TX4) (C := RX4) inW4 0 rfl rfl 12 (by decide) w_842 rfl (v := .ref (ad 8)) rfl dX4_take_114 ?_
                  refine x_bipush X (v := 64) dX4_take_117 (by decide) ?_
                  refine x_iload_n X dX4_take_119 2 rfl ?_
                  refine x_imul X dX4_take_120 ?_
                  refine x_iload X dX4_take_121 3 rfl ?_
                  refine x_iadd X dX4_take_123 ?_
                  refine x_iconst X (v := 1) dX4_take_124 (by decide) ?_
                  refine x_zast X E.1.1 8 rfl dX4_take_125 hf (picM kA ad) (setM_8 kA ad _ _ _) (fun w11 hf => ?_)
                  refine x_aload_n X dX4_take_126 0 rfl ?_
                  refine x_dup X dX4_take_127 rfl ?_
                  refine x_get X E.1.1 (T := TX4) (C := RX4) inW4 0 rfl rfl 14 (by decide) w_844 rfl (v := .int (w11.1 0 14)) rfl dX4_take_128 ?_
                  refine x_nmI hf (fun x12 hf => ?_)
                  refine x_iconst X (v := 1) dX4_take_131 (by decide) ?_
                  refine x_iadd X dX4_take_132 ?_
                  refine x_put X E.1.1 (T := TX4) (C := RX4) (ty := .int) inW4 tyX4 tyX4_ok nmX4 0 rfl rfl 14 (by decide) w_844 rfl rfl (by decide +kernel) rfl rfl (Nat.le_of_ble_eq_true rfl) dX4_take_133 (picM kA ad (wI w11 0 14 (x12 + 1))) rfl ?_
                  refine x_nmW (pic := picM kA ad) (u := (wI w11 0 14 (x12 + 1))) hf (fun w13 hf => ?_)
                  refine x_aload_n X dX4_take_136 0 rfl ?_
                  refine x_dup X dX4_take_137 rfl ?_
                  refine x_get X E.1.1 (T := TX4) (C := RX4) inW4 0 rfl rfl 13 (by decide) w_843 rfl (v := .int (w13.1 0 13)) rfl dX4_take_138 ?_
                  refine x_nmI hf (fun x14 hf => ?_)
                  refine x_iconst X (v := 1) dX4_take_141 (by decide) ?_
                  refine x_iadd X dX4_take_142 ?_
                  refine x_put X E.1.1 (T := TX4) (C := RX4) (ty := .int) inW4 tyX4 tyX4_ok nmX4 0 rfl rfl 13 (by decide) w_843 rfl rfl (by decide +kernel) rfl rfl (Nat.le_of_ble_eq_true rfl) dX4_take_143 (picM kA ad (wI w13 0 13 (x14 + 1))) rfl ?_
                  refine x_nmW (pic := picM kA ad) (u := (wI w13 0 13 (x14 + 1))) hf (fun w15 hf => ?_)
                  refine x_iinc X dX4_take_146 3 rfl (by decide) (y4 + 1) rfl hf (fun x16 => [(4, .int x16), (0, .ref (ad 0)), (1, .int y1), (3, .int y3)]) (fun _ => rfl) (fun x16 hf => ?_)
                  refine x_goto X (tgt := 27) dX4_take_149 (by decide) ?_
                  cases hf
                  refine x_lpick (lv2 := [(0, .ref (ad 0)), (1, .int y1), (3, .int y3), (4, .int x16)]) [1, 2, 3, 0] rfl ?_
                  exact ih _ _ _ hit kk
                · refine x_goto X (tgt := 146) dX4_take_110 (by decide) ?_
                  refine x_iinc X dX4_take_146 3 rfl (by decide) (y4 + 1) rfl hf (fun x17 => [(4, .int x17), (0, .ref (ad 0)), (1, .int y1), (3, .int y3)]) (fun _ => rfl) (fun x17 hf => ?_)
                  refine x_goto X (tgt := 27) dX4_take_149 (by decide) ?_
                  cases hf
                  refine x_lpick (lv2 := [(0, .ref (ad 0)), (1, .int y1), (3, .int y3), (4, .int x17)]) [1, 2, 3, 0] rfl ?_
                  exact ih _ _ _ hit kk
            · refine x_goto X (tgt := 146) dX4_take_78 (by decide) ?_
              refine x_iinc X dX4_take_146 3 rfl (by decide) (y4 + 1) rfl hf (fun x18 => [(4, .int x18), (0, .ref (ad 0)), (1, .int y1), (3, .int y3)]) (fun _ => rfl) (fun x18 hf => ?_)
              refine x_goto X (tgt := 27) dX4_take_149 (by decide) ?_
              cases hf
              refine x_lpick (lv2 := [(0, .ref (ad 0)), (1, .int y1), (3, .int y3), (4, .int x18)]) [1, 2, 3, 0] rfl ?_
              exact ih _ _ _ hit kk
set_option maxRecDepth 100000 in
set_option maxHeartbeats 4000000 in
theorem lp_X4_take_16 (X : CX p m c cX4_take 5 s args RX4) (E : EX l s D kA A) (fu : Nat) (y1 : Int32) : ∀ (n : Nat) (y3 : Int32) (w : WS) (rw : WS), iter (fun q => bd_X4_take_16 fu y1 q.1 q.2) n (y3, w) = some (rw) → CS p l e rm_X4_take s m args below meth c D A 5 0 0 Q (picM kA ad rw) 158 [] [] → CS p l e rm_X4_take s m args below meth c D A 5 0 0 Q (picM kA ad w) 16 [(0, .ref (ad 0)), (1, .int y1), (3, .int y3)] [] := by
  intro n
  induction n with
  | zero =>
    intro y3 w rw hit kk
    exact (iter_0 hit).elim
  | succ n ih =>
    intro y3 w rw hit kk
    obtain ⟨o, h1, hit⟩ := iter_one hit
    have hf : bd_X4_take_16 fu y1 y3 w = some o := h1
    unfold bd_X4_take_16 at hf
    refine x_iload_n X dX4_take_16 2 rfl ?_
    refine x_aload_n X dX4_take_17 0 rfl ?_
    refine x_get X E.1.1 (T := TX4) (C := RX4) inW4 0 rfl rfl 2 (by decide) w_832 rfl (v := .int (w.1 0 2)) rfl dX4_take_18 ?_
    refine x_nmI hf (fun x1 hf => ?_)
    refine x_icmp_ge X (tgt := 158) dX4_take_21 (by decide) hf (fun hf => ?_) (fun hf => ?_)
    · cases hf
      cases hit
      refine x_lpick (lv2 := []) [] rfl ?_
      exact kk
    · refine x_iconst X (v := 0) dX4_take_24 (by decide) ?_
      refine x_istore X (lv2 := [(4, .int 0), (0, .ref (ad 0)), (1, .int y1), (3, .int y3)]) dX4_take_25 (by decide) rfl ?_
      refine x_lpick (lv2 := [(0, .ref (ad 0)), (1, .int y1), (3, .int y3), (4, .int 0)]) [1, 2, 3, 0] rfl ?_
      obtain ⟨w2, h3, hf⟩ := bn_some hf
      refine lp_X4_take_27 X E fu y1 y3 fu (0 : Int32) w w2 h3 ?_
      refine x_iinc X dX4_take_152 2 rfl (by decide) (y3 + 1) rfl hf (fun x4 => [(3, .int x4), (0, .ref (ad 0)), (1, .int y1)]) (fun _ => rfl) (fun x4 hf => ?_)
      refine x_goto X (tgt := 16) dX4_take_155 (by decide) ?_
      cases hf
      refine x_lpick (lv2 := [(0, .ref (ad 0)), (1, .int y1), (3, .int x4)]) [1, 2, 0] rfl ?_
      exact ih _ _ _ hit kk
set_option maxRecDepth 100000 in
set_option maxHeartbeats 4000000 in
theorem met_X4_take (l : Launch) (hst : l.stackTraces = false) (D : va_G) (kA : Nat → ClassId) (ad : Nat → Nat) (fu : Nat) (w : WS) (a1 : Int32) (a2 : Int32) (w1 : WS) (hf : f_X4_take fu w a1 a2 = some w1) (sz : Nat) : Met l yX4_take (wsY yX4_take cX4_take 5 none) rm_X4_take (va_Pc [.ref (ad 0), .int a1, .int a2] (PreG D kA (picM kA ad w) sz)) (va_Qv (fun (_ : Unit) => True) (fun _ t => PosG D (va_A (picM kA ad w) sz) (picM kA ad w1) t) (va_A (picM kA ad w) sz)) 0 0 (va_A (picM kA ad w) sz) := by
  refine metG (own := RX4) hst (by decide +kernel) rfl (Nat.le_of_ble_eq_true rfl) rfl ?_
  intro p e s m below meth c X hr hlk E _
  unfold f_X4_take at hf
  refine x_aload_n X dX4_take_0 0 rfl ?_
  refine x_get X E.1.1 (T := TX4) (C := RX4) inW4 0 rfl rfl 10 (by decide) w_840 rfl (v := .ref (ad 6)) rfl dX4_take_1 ?_
  refine x_iload_n X dX4_take_4 1 rfl ?_
  refine x_iload_n X dX4_take_5 2 rfl ?_
  refine x_iast X E.1.1 6 rfl dX4_take_6 hf (picM kA ad) (setM_6 kA ad _ _ _) (fun w1 hf => ?_)
  refine x_aload_n X dX4_take_7 0 rfl ?_
  refine x_get X E.1.1 (T := TX4) (C := RX4) inW4 0 rfl rfl 11 (by decide) w_841 rfl (v := .ref (ad 7)) rfl dX4_take_8 ?_
  refine x_iload_n X dX4_take_11 2 rfl ?_
  refine x_iload_n X dX4_take_12 1 rfl ?_
  refine x_iast X E.1.1 7 rfl dX4_take_13 hf (picM kA ad) (setM_7 kA ad _ _ _) (fun w2 hf => ?_)
  refine x_iconst X (v := 0) dX4_take_14 (by decide) ?_
  refine x_istore_n X (lv2 := [(3, .int 0), (0, .ref (ad 0)), (1, .int a1), (2, .int a2)]) dX4_take_15 (by decide) rfl ?_
  refine x_lpick (lv2 := [(0, .ref (ad 0)), (1, .int a1), (3, .int 0)]) [1, 2, 0] rfl ?_
  obtain ⟨w3, h4, hf⟩ := bn_some hf
  refine lp_X4_take_16 X E fu a1 fu (0 : Int32) w2 w3 h4 ?_
  cases hf
  exact x_vret X hr hlk rfl dX4_take_158
end
section
variable {p : Program} {l : Launch} {e : Env} {s : State} {m : MethodId} {args : Array Value} {below : List Frame} {meth : Method} {c : Code} {D : va_G} {kA : Nat → ClassId} {A : Nat → Prop} {Q : State → Prop} {ad : Nat → Nat}
abbrev rm_X4_prepare : Room := { frames := 3, cells := 0, slots := 0, locals := 69 }
set_option maxRecDepth 100000 in
set_option maxHeartbeats 4000000 in
theorem lp_X4_prepare_59 (X : CX p m c cX4_prepare 3 s args RX4) (E : EX l s D kA A) (fu : Nat) (y1 : Int32) : ∀ (n : Nat) (y2 : Int32) (w : WS) (rw : WS), iter (fun q => bd_X4_prepare_59 fu y1 q.1 q.2) n (y2, w) = some (rw) → CS p l e rm_X4_prepare s m args below meth c D A 3 0 0 Q (picM kA ad rw) 113 [(0, .ref (ad 0)), (1, .int y1)] [] → CS p l e rm_X4_prepare s m args below meth c D A 3 0 0 Q (picM kA ad w) 59 [(0, .ref (ad 0)), (1, .int y1), (2, .int y2)] [] := by
  intro n
  induction n with
  | zero =>
    intro y2 w rw hit kk
    exact (iter_0 hit).elim
  | succ n ih =>
    intro y2 w rw hit kk
    obtain ⟨o, h1, hit⟩ := iter_one hit
    have hf : bd_X4_prepare_59 fu y1 y2 w = some o := h1
    unfold bd_X4_prepare_59 at hf
    refine x_iload_n X dX4_prepare_59 2 rfl ?_
    refine x_aload_n X dX4_prepare_60 0 rfl ?_
    refine x_get X E.1.1 (T := TX4) (C := RX4) inW4 0 rfl rfl 2 (by decide) w_832 rfl (v := .int (w.1 0 2)) rfl dX4_prepare_61 ?_
    refine x_nmI hf (fun x1 hf => ?_)
    refine x_icmp_ge X (tgt := 113) dX4_prepare_64 (by decide) hf (fun hf => ?_) (fun hf => ?_)
    · cases hf
      cases hit
      refine x_lpick (lv2 := [(0, .ref (ad 0)), (1, .int y1)]) [0, 1] rfl ?_
      exact kk
    · refine x_aload_n X dX4_prepare_67 0 rfl ?_
      refine x_get X E.1.1 (T := TX4) (C := RX4) inW4 0 rfl rfl 12 (by decide) w_842 rfl (v := .ref (ad 8)) rfl dX4_prepare_68 ?_
      refine x_bipush X (v := 64) dX4_prepare_71 (by decide) ?_
      refine x_iload_n X dX4_prepare_73 1 rfl ?_
      refine x_imul X dX4_prepare_74 ?_
      refine x_iload_n X dX4_prepare_75 2 rfl ?_
      refine x_iadd X dX4_prepare_76 ?_
      refine x_aload_n X dX4_prepare_77 0 rfl ?_
      refine x_iload_n X dX4_prepare_78 1 rfl ?_
      refine x_iload_n X dX4_prepare_79 2 rfl ?_
      obtain ⟨x2, hx2, hf⟩ := bn_some hf
      refine x_callV_i X E (As := [.int y1, .int y2]) (rest := [.int (((64 : Int32) * y1) + y2), .ref (ad 8)]) (n := 2) (ws2 := (picM kA ad w)) (goodV w_967 w_969 s_35 w_52 w_970) (met_X4_follows l E.2.2.2 D kA ad fu w y1 y2 x2 hx2) rfl rfl (by decide +kernel) ⟨by decide, by decide⟩ 0 rfl (qc := (RX4, TX4, _)) rfl rfl rfl rfl (Nat.le_of_ble_eq_true rfl) dX4_prepare_80 ⟨by decide, by decide⟩ ?_
      refine x_zast X E.1.1 8 rfl dX4_prepare_83 hf (picM kA ad) (setM_8 kA ad _ _ _) (fun w3 hf => ?_)
      refine x_aload_n X dX4_prepare_84 0 rfl ?_
      refine x_dup X dX4_prepare_85 rfl ?_
      refine x_get X E.1.1 (T := TX4) (C := RX4) inW4 0 rfl rfl 14 (by decide) w_844 rfl (v := .int (w3.1 0 14)) rfl dX4_prepare_86 ?_
      refine x_nmI hf (fun x4 hf => ?_)
      refine x_aload_n X dX4_prepare_89 0 rfl ?_
      refine x_iload_n X dX4_prepare_90 1 rfl ?_
      refine x_iload_n X dX4_prepare_91 2 rfl ?_
      obtain ⟨x5, hx5, hf⟩ := bn_some hf
      refine x_callV_i X E (As := [.int y1, .int y2]) (rest := [.int x4, .ref (ad 0)]) (n := 2) (ws2 := (picM kA ad w3)) (goodV w_967 w_969 s_35 w_52 w_970) (met_X4_follows l E.2.2.2 D kA ad fu w3 y1 y2 x5 hx5) rfl rfl (by decide +kernel) ⟨by decide, by decide⟩ 0 rfl (qc := (RX4, TX4, _)) rfl rfl rfl rfl (Nat.le_of_ble_eq_true rfl) dX4_prepare_92 ⟨by decide, by decide⟩ ?_
      refine x_if_eq X (tgt := 102) dX4_prepare_95 (by decide) hf (fun hf => ?_) (fun hf => ?_)
      · refine x_iconst X (v := 0) dX4_prepare_102 (by decide) ?_
        refine x_iadd X dX4_prepare_103 ?_
        refine x_put X E.1.1 (T := TX4) (C := RX4) (ty := .int) inW4 tyX4 tyX4_ok nmX4 0 rfl rfl 14 (by decide) w_844 rfl rfl (by decide +kernel) rfl rfl (Nat.le_of_ble_eq_true rfl) dX4_prepare_104 (picM kA ad (wI w3 0 14 (x4 + 0))) rfl ?_
        refine x_nmW (pic := picM kA ad) (u := (wI w3 0 14 (x4 + 0))) hf (fun w6 hf => ?_)
        refine x_iinc X dX4_prepare_107 2 rfl (by decide) (y2 + 1) rfl hf (fun x7 => [(2, .int x7), (0, .ref (ad 0)), (1, .int y1)]) (fun _ => rfl) (fun x7 hf => ?_)
        refine x_goto X (tgt := 59) dX4_prepare_110 (by decide) ?_
        cases hf
        refine x_lpick (lv2 := [(0, .ref (ad 0)), (1, .int y1), (2, .int x7)]) [1, 2, 0] rfl ?_
        exact ih _ _ _ hit kk
      · refine x_iconst X (v := 1) dX4_prepare_98 (by decide) ?_
        refine x_goto X (tgt := 103) dX4_prepare_99 (by decide) ?_
        refine x_iadd X dX4_prepare_103 ?_
        refine x_put X E.1.1 (T := TX4) (C := RX4) (ty := .int) inW4 tyX4 tyX4_ok nmX4 0 rfl rfl 14 (by decide) w_844 rfl rfl (by decide +kernel) rfl rfl (Nat.le_of_ble_eq_true rfl) dX4_prepare_104 (picM kA ad (wI w3 0 14 (x4 + 1))) rfl ?_
        refine x_nmW (pic := picM kA ad) (u := (wI w3 0 14 (x4 + 1))) hf (fun w8 hf => ?_)
        refine x_iinc X dX4_prepare_107 2 rfl (by decide) (y2 + 1) rfl hf (fun x9 => [(2, .int x9), (0, .ref (ad 0)), (1, .int y1)]) (fun _ => rfl) (fun x9 hf => ?_)
        refine x_goto X (tgt := 59) dX4_prepare_110 (by decide) ?_
        cases hf
        refine x_lpick (lv2 := [(0, .ref (ad 0)), (1, .int y1), (2, .int x9)]) [1, 2, 0] rfl ?_
        exact ih _ _ _ hit kk
set_option maxRecDepth 100000 in
set_option maxHeartbeats 4000000 in
theorem lp_X4_prepare_42 (X : CX p m c cX4_prepare 3 s args RX4) (E : EX l s D kA A) (fu : Nat)  : ∀ (n : Nat) (y1 : Int32) (w : WS) (rw : WS), iter (fun q => bd_X4_prepare_42 fu q.1 q.2) n (y1, w) = some (rw) → CS p l e rm_X4_prepare s m args below meth c D A 3 0 0 Q (picM kA ad rw) 119 [(0, .ref (ad 0))] [] → CS p l e rm_X4_prepare s m args below meth c D A 3 0 0 Q (picM kA ad w) 42 [(0, .ref (ad 0)), (1, .int y1)] [] := by
  intro n
  induction n with
  | zero =>
    intro y1 w rw hit kk
    exact (iter_0 hit).elim
  | succ n ih =>
    intro y1 w rw hit kk
    obtain ⟨o, h1, hit⟩ := iter_one hit
    have hf : bd_X4_prepare_42 fu y1 w = some o := h1
    unfold bd_X4_prepare_42 at hf
    refine x_iload_n X dX4_prepare_42 1 rfl ?_
    refine x_aload_n X dX4_prepare_43 0 rfl ?_
    refine x_get X E.1.1 (T := TX4) (C := RX4) inW4 0 rfl rfl 2 (by decide) w_832 rfl (v := .int (w.1 0 2)) rfl dX4_prepare_44 ?_
    refine x_nmI hf (fun x1 hf => ?_)
    refine x_icmp_ge X (tgt := 119) dX4_prepare_47 (by decide) hf (fun hf => ?_) (fun hf => ?_)
    · cases hf
      cases hit
      refine x_lpick (lv2 := [(0, .ref (ad 0))]) [0] rfl ?_
      exact kk
    · refine x_aload_n X dX4_prepare_50 0 rfl ?_
      refine x_get X E.1.1 (T := TX4) (C := RX4) inW4 0 rfl rfl 10 (by decide) w_840 rfl (v := .ref (ad 6)) rfl dX4_prepare_51 ?_
      refine x_iload_n X dX4_prepare_54 1 rfl ?_
      refine x_iconst X (v := (-1)) dX4_prepare_55 (by decide) ?_
      refine x_iast X E.1.1 6 rfl dX4_prepare_56 hf (picM kA ad) (setM_6 kA ad _ _ _) (fun w2 hf => ?_)
      refine x_iconst X (v := 0) dX4_prepare_57 (by decide) ?_
      refine x_istore_n X (lv2 := [(2, .int 0), (0, .ref (ad 0)), (1, .int y1)]) dX4_prepare_58 (by decide) rfl ?_
      refine x_lpick (lv2 := [(0, .ref (ad 0)), (1, .int y1), (2, .int 0)]) [1, 2, 0] rfl ?_
      obtain ⟨w3, h4, hf⟩ := bn_some hf
      refine lp_X4_prepare_59 X E fu y1 fu (0 : Int32) w2 w3 h4 ?_
      refine x_iinc X dX4_prepare_113 1 rfl (by decide) (y1 + 1) rfl hf (fun x5 => [(1, .int x5), (0, .ref (ad 0))]) (fun _ => rfl) (fun x5 hf => ?_)
      refine x_goto X (tgt := 42) dX4_prepare_116 (by decide) ?_
      cases hf
      refine x_lpick (lv2 := [(0, .ref (ad 0)), (1, .int x5)]) [1, 0] rfl ?_
      exact ih _ _ _ hit kk
set_option maxRecDepth 100000 in
set_option maxHeartbeats 4000000 in
theorem lp_X4_prepare_121 (X : CX p m c cX4_prepare 3 s args RX4) (E : EX l s D kA A) (fu : Nat)  : ∀ (n : Nat) (y1 : Int32) (w : WS) (rw : WS), iter (fun q => bd_X4_prepare_121 fu q.1 q.2) n (y1, w) = some (rw) → CS p l e rm_X4_prepare s m args below meth c D A 3 0 0 Q (picM kA ad rw) 144 [(0, .ref (ad 0))] [] → CS p l e rm_X4_prepare s m args below meth c D A 3 0 0 Q (picM kA ad w) 121 [(0, .ref (ad 0)), (1, .int y1)] [] := by
  intro n
  induction n with
  | zero =>
    intro y1 w rw hit kk
    exact (iter_0 hit).elim
  | succ n ih =>
    intro y1 w rw hit kk
    obtain ⟨o, h1, hit⟩ := iter_one hit
    have hf : bd_X4_prepare_121 fu y1 w = some o := h1
    unfold bd_X4_prepare_121 at hf
    refine x_iload_n X dX4_prepare_121 1 rfl ?_
    refine x_aload_n X dX4_prepare_122 0 rfl ?_
    refine x_get X E.1.1 (T := TX4) (C := RX4) inW4 0 rfl rfl 2 (by decide) w_832 rfl (v := .int (w.1 0 2)) rfl dX4_prepare_123 ?_
    refine x_nmI hf (fun x1 hf => ?_)
    refine x_icmp_ge X (tgt := 144) dX4_prepare_126 (by decide) hf (fun hf => ?_) (fun hf => ?_)
    · cases hf
      cases hit
      refine x_lpick (lv2 := [(0, .ref (ad 0))]) [0] rfl ?_
      exact kk
    · refine x_aload_n X dX4_prepare_129 0 rfl ?_
      refine x_aload_n X dX4_prepare_130 0 rfl ?_
      obtain ⟨x2, hx2, hf⟩ := bn_some hf
      refine x_callV_i X E (As := []) (rest := [.ref (ad 0)]) (n := 0) (ws2 := (picM kA ad w)) (goodV w_1015 w_1017 s_37 w_52 w_1018) (met_X4_next l E.2.2.2 D kA ad fu w x2 hx2) rfl rfl (by decide +kernel) ⟨by decide, by decide⟩ 0 rfl (qc := (RX4, TX4, _)) rfl rfl rfl rfl (Nat.le_of_ble_eq_true rfl) dX4_prepare_131 ⟨by decide, by decide⟩ ?_
      refine x_iload_n X dX4_prepare_134 1 rfl ?_
      obtain ⟨w3, hw3, hf⟩ := bn_some hf
      refine x_callV_v X E (As := [.int x2, .int y1]) (rest := []) (n := 2) (ws2 := (picM kA ad w3)) (goodV w_1019 w_1021 s_38 w_52 w_1022) (met_X4_take l E.2.2.2 D kA ad fu w x2 y1 w3 hw3) rfl rfl (by decide +kernel) ⟨by decide, by decide⟩ 0 rfl (qc := (RX4, TX4, _)) rfl rfl rfl rfl (Nat.le_of_ble_eq_true rfl) dX4_prepare_135 ⟨by decide, by decide⟩ ?_
      refine x_iinc X dX4_prepare_138 1 rfl (by decide) (y1 + 1) rfl hf (fun x4 => [(1, .int x4), (0, .ref (ad 0))]) (fun _ => rfl) (fun x4 hf => ?_)
      refine x_goto X (tgt := 121) dX4_prepare_141 (by decide) ?_
      cases hf
      refine x_lpick (lv2 := [(0, .ref (ad 0)), (1, .int x4)]) [1, 0] rfl ?_
      exact ih _ _ _ hit kk
set_option maxRecDepth 100000 in
set_option maxHeartbeats 4000000 in
theorem met_X4_prepare (l : Launch) (hst : l.stackTraces = false) (D : va_G) (kA : Nat → ClassId) (ad : Nat → Nat) (fu : Nat) (w : WS)  (v : Int32) (w1 : WS) (hf : f_X4_prepare fu w = some (v, w1)) (sz : Nat) : Met l yX4_prepare (wsY yX4_prepare cX4_prepare 3 (some .int)) rm_X4_prepare (va_Pc [.ref (ad 0)] (PreG D kA (picM kA ad w) sz)) (va_Qi (fun (r : Int32) (_ : Unit) => r = v) (fun _ t => PosG D (va_A (picM kA ad w) sz) (picM kA ad w1) t) (va_A (picM kA ad w) sz)) 0 0 (va_A (picM kA ad w) sz) := by
  refine metG (own := RX4) hst (by decide +kernel) rfl (Nat.le_of_ble_eq_true rfl) rfl ?_
  intro p e s m below meth c X hr hlk E _
  unfold f_X4_prepare at hf
  refine x_aload_n X dX4_prepare_0 0 rfl ?_
  refine x_iconst X (v := 0) dX4_prepare_1 (by decide) ?_
  refine x_put X E.1.1 (T := TX4) (C := RX4) (ty := .int) inW4 tyX4 tyX4_ok nmX4 0 rfl rfl 0 (by decide) w_830 rfl rfl (by decide +kernel) rfl rfl (Nat.le_of_ble_eq_true rfl) dX4_prepare_2 (picM kA ad (wI w 0 0 0)) rfl ?_
  refine x_nmW (pic := picM kA ad) (u := (wI w 0 0 0)) hf (fun w1 hf => ?_)
  refine x_aload_n X dX4_prepare_5 0 rfl ?_
  refine x_get X E.1.1 (T := TX4) (C := RX4) inW4 0 rfl rfl 2 (by decide) w_832 rfl (v := .int (w1.1 0 2)) rfl dX4_prepare_6 ?_
  refine x_nmI hf (fun x2 hf => ?_)
  refine x_if_ne X (tgt := 18) dX4_prepare_9 (by decide) hf (fun hf => ?_) (fun hf => ?_)
  · refine x_aload_n X dX4_prepare_18 0 rfl ?_
    refine x_get X E.1.1 (T := TX4) (C := RX4) inW4 0 rfl rfl 9 (by decide) w_839 rfl (v := .int (w1.1 0 9)) rfl dX4_prepare_19 ?_
    refine x_nmI hf (fun x3 hf => ?_)
    refine x_if_eq X (tgt := 30) dX4_prepare_22 (by decide) hf (fun hf => ?_) (fun hf => ?_)
    · refine x_aload_n X dX4_prepare_30 0 rfl ?_
      refine x_iconst X (v := 0) dX4_prepare_31 (by decide) ?_
      refine x_put X E.1.1 (T := TX4) (C := RX4) (ty := .int) inW4 tyX4 tyX4_ok nmX4 0 rfl rfl 14 (by decide) w_844 rfl rfl (by decide +kernel) rfl rfl (Nat.le_of_ble_eq_true rfl) dX4_prepare_32 (picM kA ad (wI w1 0 14 0)) rfl ?_
      refine x_nmW (pic := picM kA ad) (u := (wI w1 0 14 0)) hf (fun w4 hf => ?_)
      refine x_aload_n X dX4_prepare_35 0 rfl ?_
      refine x_iconst X (v := 0) dX4_prepare_36 (by decide) ?_
      refine x_put X E.1.1 (T := TX4) (C := RX4) (ty := .int) inW4 tyX4 tyX4_ok nmX4 0 rfl rfl 13 (by decide) w_843 rfl rfl (by decide +kernel) rfl rfl (Nat.le_of_ble_eq_true rfl) dX4_prepare_37 (picM kA ad (wI w4 0 13 0)) rfl ?_
      refine x_nmW (pic := picM kA ad) (u := (wI w4 0 13 0)) hf (fun w5 hf => ?_)
      refine x_iconst X (v := 0) dX4_prepare_40 (by decide) ?_
      refine x_istore_n X (lv2 := [(1, .int 0), (0, .ref (ad 0))]) dX4_prepare_41 (by decide) rfl ?_
      refine x_lpick (lv2 := [(0, .ref (ad 0)), (1, .int 0)]) [1, 0] rfl ?_
      obtain ⟨w6, h7, hf⟩ := bn_some hf
      refine lp_X4_prepare_42 X E fu  fu (0 : Int32) w5 w6 h7 ?_
      refine x_iconst X (v := 0) dX4_prepare_119 (by decide) ?_
      refine x_istore_n X (lv2 := [(1, .int 0), (0, .ref (ad 0))]) dX4_prepare_120 (by decide) rfl ?_
      refine x_lpick (lv2 := [(0, .ref (ad 0)), (1, .int 0)]) [1, 0] rfl ?_
      obtain ⟨w8, h9, hf⟩ := bn_some hf
      refine lp_X4_prepare_121 X E fu  fu (0 : Int32) w6 w8 h9 ?_
      refine x_aload_n X dX4_prepare_144 0 rfl ?_
      refine x_iconst X (v := 1) dX4_prepare_145 (by decide) ?_
      refine x_put X E.1.1 (T := TX4) (C := RX4) (ty := .boolean) inW4 tyX4 tyX4_ok nmX4 0 rfl rfl 9 (by decide) w_839 rfl rfl (by decide +kernel) (by decide +kernel) rfl (Nat.le_of_ble_eq_true rfl) dX4_prepare_146 (picM kA ad (wI w8 0 9 1)) rfl ?_
      refine x_nmW (pic := picM kA ad) (u := (wI w8 0 9 1)) hf (fun w10 hf => ?_)
      refine x_aload_n X dX4_prepare_149 0 rfl ?_
      obtain ⟨w11, hw11, hf⟩ := bn_some hf
      refine x_callV_v X E (As := []) (rest := []) (n := 0) (ws2 := (picM kA ad w11)) (goodV w_959 w_961 s_33 w_52 w_962) (met_X4_findCosts l E.2.2.2 D kA ad fu w10 w11 hw11) rfl rfl (by decide +kernel) ⟨by decide, by decide⟩ 0 rfl (qc := (RX4, TX4, _)) rfl rfl rfl rfl (Nat.le_of_ble_eq_true rfl) dX4_prepare_150 ⟨by decide, by decide⟩ ?_
      refine x_aload_n X dX4_prepare_153 0 rfl ?_
      refine x_get X E.1.1 (T := TX4) (C := RX4) inW4 0 rfl rfl 13 (by decide) w_843 rfl (v := .int (w11.1 0 13)) rfl dX4_prepare_154 ?_
      refine x_nmI hf (fun x12 hf => ?_)
      cases hf
      exact x_iret X hr hlk rfl rfl dX4_prepare_157
    · refine x_aload_n X dX4_prepare_25 0 rfl ?_
      refine x_get X E.1.1 (T := TX4) (C := RX4) inW4 0 rfl rfl 13 (by decide) w_843 rfl (v := .int (w1.1 0 13)) rfl dX4_prepare_26 ?_
      refine x_nmI hf (fun x13 hf => ?_)
      cases hf
      exact x_iret X hr hlk rfl rfl dX4_prepare_29
  · refine x_aload_n X dX4_prepare_12 0 rfl ?_
    refine x_iconst X (v := 1) dX4_prepare_13 (by decide) ?_
    obtain ⟨x15, w14, hx15, hf⟩ := bn2_some hf
    refine x_callV_i X E (As := [.int 1]) (rest := []) (n := 1) (ws2 := (picM kA ad w14)) (goodV w_935 w_937 s_29 w_52 w_938) (met_X4_fail l E.2.2.2 D kA ad fu w1 (1 : Int32) x15 w14 hx15) rfl rfl (by decide +kernel) ⟨by decide, by decide⟩ 0 rfl (qc := (RX4, TX4, _)) rfl rfl rfl rfl (Nat.le_of_ble_eq_true rfl) dX4_prepare_14 ⟨by decide, by decide⟩ ?_
    cases hf
    exact x_iret X hr hlk rfl rfl dX4_prepare_17
end
section
variable {p : Program} {l : Launch} {e : Env} {s : State} {m : MethodId} {args : Array Value} {below : List Frame} {meth : Method} {c : Code} {D : va_G} {kA : Nat → ClassId} {A : Nat → Prop} {Q : State → Prop} {ad : Nat → Nat}
abbrev rm_X4_isPrepared : Room := { frames := 0, cells := 0, slots := 0, locals := 0 }
set_option maxRecDepth 100000 in
set_option maxHeartbeats 4000000 in
theorem met_X4_isPrepared (l : Launch) (hst : l.stackTraces = false) (D : va_G) (kA : Nat → ClassId) (ad : Nat → Nat) (fu : Nat) (w : WS)  (v : Int32) (w1 : WS) (hf : f_X4_isPrepared fu w = some (v, w1)) (sz : Nat) : Met l yX4_isPrepared (wsY yX4_isPrepared cX4_isPrepared 1 (some .boolean)) rm_X4_isPrepared (va_Pc [.ref (ad 0)] (PreG D kA (picM kA ad w) sz)) (va_Qi (fun (r : Int32) (_ : Unit) => r = v) (fun _ t => PosG D (va_A (picM kA ad w) sz) (picM kA ad w1) t) (va_A (picM kA ad w) sz)) 0 0 (va_A (picM kA ad w) sz) := by
  refine metG (own := RX4) hst (by decide +kernel) rfl (Nat.le_of_ble_eq_true rfl) rfl ?_
  intro p e s m below meth c X hr hlk E _
  unfold f_X4_isPrepared at hf
  refine x_aload_n X dX4_isPrepared_0 0 rfl ?_
  refine x_iconst X (v := 0) dX4_isPrepared_1 (by decide) ?_
  refine x_put X E.1.1 (T := TX4) (C := RX4) (ty := .int) inW4 tyX4 tyX4_ok nmX4 0 rfl rfl 0 (by decide) w_830 rfl rfl (by decide +kernel) rfl rfl (Nat.le_of_ble_eq_true rfl) dX4_isPrepared_2 (picM kA ad (wI w 0 0 0)) rfl ?_
  refine x_nmW (pic := picM kA ad) (u := (wI w 0 0 0)) hf (fun w1 hf => ?_)
  refine x_aload_n X dX4_isPrepared_5 0 rfl ?_
  refine x_get X E.1.1 (T := TX4) (C := RX4) inW4 0 rfl rfl 9 (by decide) w_839 rfl (v := .int (w1.1 0 9)) rfl dX4_isPrepared_6 ?_
  refine x_nmI hf (fun x2 hf => ?_)
  obtain ⟨hz, hf⟩ := ck_some hf
  cases hf
  exact x_zret X hr hlk rfl hz rfl dX4_isPrepared_9
end
section
variable {p : Program} {l : Launch} {e : Env} {s : State} {m : MethodId} {args : Array Value} {below : List Frame} {meth : Method} {c : Code} {D : va_G} {kA : Nat → ClassId} {A : Nat → Prop} {Q : State → Prop} {ad : Nat → Nat}
abbrev rm_X4_position : Room := { frames := 1, cells := 0, slots := 0, locals := 21 }
set_option maxRecDepth 100000 in
set_option maxHeartbeats 4000000 in
theorem met_X4_position (l : Launch) (hst : l.stackTraces = false) (D : va_G) (kA : Nat → ClassId) (ad : Nat → Nat) (fu : Nat) (w : WS) (a1 : Int32) (v : Int32) (w1 : WS) (hf : f_X4_position fu w a1 = some (v, w1)) (sz : Nat) : Met l yX4_position (wsY yX4_position cX4_position 2 (some .int)) rm_X4_position (va_Pc [.ref (ad 0), .int a1] (PreG D kA (picM kA ad w) sz)) (va_Qi (fun (r : Int32) (_ : Unit) => r = v) (fun _ t => PosG D (va_A (picM kA ad w) sz) (picM kA ad w1) t) (va_A (picM kA ad w) sz)) 0 0 (va_A (picM kA ad w) sz) := by
  refine metG (own := RX4) hst (by decide +kernel) rfl (Nat.le_of_ble_eq_true rfl) rfl ?_
  intro p e s m below meth c X hr hlk E _
  unfold f_X4_position at hf
  refine x_aload_n X dX4_position_0 0 rfl ?_
  refine x_iconst X (v := 0) dX4_position_1 (by decide) ?_
  refine x_put X E.1.1 (T := TX4) (C := RX4) (ty := .int) inW4 tyX4 tyX4_ok nmX4 0 rfl rfl 0 (by decide) w_830 rfl rfl (by decide +kernel) rfl rfl (Nat.le_of_ble_eq_true rfl) dX4_position_2 (picM kA ad (wI w 0 0 0)) rfl ?_
  refine x_nmW (pic := picM kA ad) (u := (wI w 0 0 0)) hf (fun w1 hf => ?_)
  refine x_aload_n X dX4_position_5 0 rfl ?_
  refine x_get X E.1.1 (T := TX4) (C := RX4) inW4 0 rfl rfl 9 (by decide) w_839 rfl (v := .int (w1.1 0 9)) rfl dX4_position_6 ?_
  refine x_nmI hf (fun x2 hf => ?_)
  refine x_if_ne X (tgt := 18) dX4_position_9 (by decide) hf (fun hf => ?_) (fun hf => ?_)
  · refine x_aload_n X dX4_position_18 0 rfl ?_
    refine x_iload_n X dX4_position_19 1 rfl ?_
    obtain ⟨x3, hx3, hf⟩ := bn_some hf
    refine x_callV_i X E (As := [.int a1]) (rest := []) (n := 1) (ws2 := (picM kA ad w1)) (goodV w_951 w_953 s_31 w_52 w_954) (met_X4_isRoad l E.2.2.2 D kA ad fu w1 a1 x3 hx3) rfl rfl (by decide +kernel) ⟨by decide, by decide⟩ 0 rfl (qc := (RX4, TX4, _)) rfl rfl rfl rfl (Nat.le_of_ble_eq_true rfl) dX4_position_20 ⟨by decide, by decide⟩ ?_
    refine x_if_eq X (tgt := 35) dX4_position_23 (by decide) hf (fun hf => ?_) (fun hf => ?_)
    · refine x_aload_n X dX4_position_35 0 rfl ?_
      refine x_iconst X (v := 2) dX4_position_36 (by decide) ?_
      obtain ⟨x5, w4, hx5, hf⟩ := bn2_some hf
      refine x_callV_i X E (As := [.int 2]) (rest := []) (n := 1) (ws2 := (picM kA ad w4)) (goodV w_935 w_937 s_29 w_52 w_938) (met_X4_fail l E.2.2.2 D kA ad fu w1 (2 : Int32) x5 w4 hx5) rfl rfl (by decide +kernel) ⟨by decide, by decide⟩ 0 rfl (qc := (RX4, TX4, _)) rfl rfl rfl rfl (Nat.le_of_ble_eq_true rfl) dX4_position_37 ⟨by decide, by decide⟩ ?_
      cases hf
      exact x_iret X hr hlk rfl rfl dX4_position_40
    · refine x_aload_n X dX4_position_26 0 rfl ?_
      refine x_get X E.1.1 (T := TX4) (C := RX4) inW4 0 rfl rfl 10 (by decide) w_840 rfl (v := .ref (ad 6)) rfl dX4_position_27 ?_
      refine x_iload_n X dX4_position_30 1 rfl ?_
      refine x_iald X E.1.1 6 rfl dX4_position_31 hf (fun x6 hf => ?_)
      refine x_goto X (tgt := 40) dX4_position_32 (by decide) ?_
      cases hf
      exact x_iret X hr hlk rfl rfl dX4_position_40
  · refine x_aload_n X dX4_position_12 0 rfl ?_
    refine x_iconst X (v := 1) dX4_position_13 (by decide) ?_
    obtain ⟨x8, w7, hx8, hf⟩ := bn2_some hf
    refine x_callV_i X E (As := [.int 1]) (rest := []) (n := 1) (ws2 := (picM kA ad w7)) (goodV w_935 w_937 s_29 w_52 w_938) (met_X4_fail l E.2.2.2 D kA ad fu w1 (1 : Int32) x8 w7 hx8) rfl rfl (by decide +kernel) ⟨by decide, by decide⟩ 0 rfl (qc := (RX4, TX4, _)) rfl rfl rfl rfl (Nat.le_of_ble_eq_true rfl) dX4_position_14 ⟨by decide, by decide⟩ ?_
    cases hf
    exact x_iret X hr hlk rfl rfl dX4_position_17
end
section
variable {p : Program} {l : Launch} {e : Env} {s : State} {m : MethodId} {args : Array Value} {below : List Frame} {meth : Method} {c : Code} {D : va_G} {kA : Nat → ClassId} {A : Nat → Prop} {Q : State → Prop} {ad : Nat → Nat}
abbrev rm_X4_arcCount : Room := { frames := 0, cells := 0, slots := 0, locals := 0 }
set_option maxRecDepth 100000 in
set_option maxHeartbeats 4000000 in
theorem met_X4_arcCount (l : Launch) (hst : l.stackTraces = false) (D : va_G) (kA : Nat → ClassId) (ad : Nat → Nat) (fu : Nat) (w : WS)  (v : Int32) (w1 : WS) (hf : f_X4_arcCount fu w = some (v, w1)) (sz : Nat) : Met l yX4_arcCount (wsY yX4_arcCount cX4_arcCount 1 (some .int)) rm_X4_arcCount (va_Pc [.ref (ad 0)] (PreG D kA (picM kA ad w) sz)) (va_Qi (fun (r : Int32) (_ : Unit) => r = v) (fun _ t => PosG D (va_A (picM kA ad w) sz) (picM kA ad w1) t) (va_A (picM kA ad w) sz)) 0 0 (va_A (picM kA ad w) sz) := by
  refine metG (own := RX4) hst (by decide +kernel) rfl (Nat.le_of_ble_eq_true rfl) rfl ?_
  intro p e s m below meth c X hr hlk E _
  unfold f_X4_arcCount at hf
  refine x_aload_n X dX4_arcCount_0 0 rfl ?_
  refine x_iconst X (v := 0) dX4_arcCount_1 (by decide) ?_
  refine x_put X E.1.1 (T := TX4) (C := RX4) (ty := .int) inW4 tyX4 tyX4_ok nmX4 0 rfl rfl 0 (by decide) w_830 rfl rfl (by decide +kernel) rfl rfl (Nat.le_of_ble_eq_true rfl) dX4_arcCount_2 (picM kA ad (wI w 0 0 0)) rfl ?_
  refine x_nmW (pic := picM kA ad) (u := (wI w 0 0 0)) hf (fun w1 hf => ?_)
  refine x_aload_n X dX4_arcCount_5 0 rfl ?_
  refine x_get X E.1.1 (T := TX4) (C := RX4) inW4 0 rfl rfl 14 (by decide) w_844 rfl (v := .int (w1.1 0 14)) rfl dX4_arcCount_6 ?_
  refine x_nmI hf (fun x2 hf => ?_)
  cases hf
  exact x_iret X hr hlk rfl rfl dX4_arcCount_9
end
section
variable {p : Program} {l : Launch} {e : Env} {s : State} {m : MethodId} {args : Array Value} {below : List Frame} {meth : Method} {c : Code} {D : va_G} {kA : Nat → ClassId} {A : Nat → Prop} {Q : State → Prop} {ad : Nat → Nat}
abbrev rm_X4_hasArc : Room := { frames := 1, cells := 0, slots := 0, locals := 21 }
set_option maxRecDepth 100000 in
set_option maxHeartbeats 4000000 in
theorem met_X4_hasArc (l : Launch) (hst : l.stackTraces = false) (D : va_G) (kA : Nat → ClassId) (ad : Nat → Nat) (fu : Nat) (w : WS) (a1 : Int32) (a2 : Int32) (v : Int32) (w1 : WS) (hf : f_X4_hasArc fu w a1 a2 = some (v, w1)) (sz : Nat) : Met l yX4_hasArc (wsY yX4_hasArc cX4_hasArc 3 (some .boolean)) rm_X4_hasArc (va_Pc [.ref (ad 0), .int a1, .int a2] (PreG D kA (picM kA ad w) sz)) (va_Qi (fun (r : Int32) (_ : Unit) => r = v) (fun _ t => PosG D (va_A (picM kA ad w) sz) (picM kA ad w1) t) (va_A (picM kA ad w) sz)) 0 0 (va_A (picM kA ad w) sz) := by
  refine metG (own := RX4) hst (by decide +kernel) rfl (Nat.le_of_ble_eq_true rfl) rfl ?_
  intro p e s m below meth c X hr hlk E _
  unfold f_X4_hasArc at hf
  refine x_aload_n X dX4_hasArc_0 0 rfl ?_
  refine x_iconst X (v := 0) dX4_hasArc_1 (by decide) ?_
  refine x_put X E.1.1 (T := TX4) (C := RX4) (ty := .int) inW4 tyX4 tyX4_ok nmX4 0 rfl rfl 0 (by decide) w_830 rfl rfl (by decide +kernel) rfl rfl (Nat.le_of_ble_eq_true rfl) dX4_hasArc_2 (picM kA ad (wI w 0 0 0)) rfl ?_
  refine x_nmW (pic := picM kA ad) (u := (wI w 0 0 0)) hf (fun w1 hf => ?_)
  refine x_aload_n X dX4_hasArc_5 0 rfl ?_
  refine x_get X E.1.1 (T := TX4) (C := RX4) inW4 0 rfl rfl 9 (by decide) w_839 rfl (v := .int (w1.1 0 9)) rfl dX4_hasArc_6 ?_
  refine x_nmI hf (fun x2 hf => ?_)
  refine x_if_ne X (tgt := 26) dX4_hasArc_9 (by decide) hf (fun hf => ?_) (fun hf => ?_)
  · refine x_aload_n X dX4_hasArc_26 0 rfl ?_
    refine x_iload_n X dX4_hasArc_27 1 rfl ?_
    obtain ⟨x3, hx3, hf⟩ := bn_some hf
    refine x_callV_i X E (As := [.int a1]) (rest := []) (n := 1) (ws2 := (picM kA ad w1)) (goodV w_951 w_953 s_31 w_52 w_954) (met_X4_isRoad l E.2.2.2 D kA ad fu w1 a1 x3 hx3) rfl rfl (by decide +kernel) ⟨by decide, by decide⟩ 0 rfl (qc := (RX4, TX4, _)) rfl rfl rfl rfl (Nat.le_of_ble_eq_true rfl) dX4_hasArc_28 ⟨by decide, by decide⟩ ?_
    refine x_if_eq X (tgt := 42) dX4_hasArc_31 (by decide) hf (fun hf => ?_) (fun hf => ?_)
    · refine x_aload_n X dX4_hasArc_42 0 rfl ?_
      refine x_iconst X (v := 2) dX4_hasArc_43 (by decide) ?_
      obtain ⟨x5, w4, hx5, hf⟩ := bn2_some hf
      refine x_callV_i X E (As := [.int 2]) (rest := []) (n := 1) (ws2 := (picM kA ad w4)) (goodV w_935 w_937 s_29 w_52 w_938) (met_X4_fail l E.2.2.2 D kA ad fu w1 (2 : Int32) x5 w4 hx5) rfl rfl (by decide +kernel) ⟨by decide, by decide⟩ 0 rfl (qc := (RX4, TX4, _)) rfl rfl rfl rfl (Nat.le_of_ble_eq_true rfl) dX4_hasArc_44 ⟨by decide, by decide⟩ ?_
      refine x_if_eq X (tgt := 54) dX4_hasArc_47 (by decide) hf (fun hf => ?_) (fun hf => ?_)
      · refine x_iconst X (v := 0) dX4_hasArc_54 (by decide) ?_
        cases hf
        exact x_zret X hr hlk rfl (by decide) rfl dX4_hasArc_55
      · refine x_iconst X (v := 1) dX4_hasArc_50 (by decide) ?_
        refine x_goto X (tgt := 55) dX4_hasArc_51 (by decide) ?_
        cases hf
        exact x_zret X hr hlk rfl (by decide) rfl dX4_hasArc_55
    · refine x_aload_n X dX4_hasArc_34 0 rfl ?_
      refine x_iload_n X dX4_hasArc_35 2 rfl ?_
      obtain ⟨x6, hx6, hf⟩ := bn_some hf
      refine x_callV_i X E (As := [.int a2]) (rest := []) (n := 1) (ws2 := (picM kA ad w1)) (goodV w_951 w_953 s_31 w_52 w_954) (met_X4_isRoad l E.2.2.2 D kA ad fu w1 a2 x6 hx6) rfl rfl (by decide +kernel) ⟨by decide, by decide⟩ 0 rfl (qc := (RX4, TX4, _)) rfl rfl rfl rfl (Nat.le_of_ble_eq_true rfl) dX4_hasArc_36 ⟨by decide, by decide⟩ ?_
      refine x_if_ne X (tgt := 56) dX4_hasArc_39 (by decide) hf (fun hf => ?_) (fun hf => ?_)
      · refine x_aload_n X dX4_hasArc_56 0 rfl ?_
        refine x_get X E.1.1 (T := TX4) (C := RX4) inW4 0 rfl rfl 12 (by decide) w_842 rfl (v := .ref (ad 8)) rfl dX4_hasArc_57 ?_
        refine x_bipush X (v := 64) dX4_hasArc_60 (by decide) ?_
        refine x_iload_n X dX4_hasArc_62 1 rfl ?_
        refine x_imul X dX4_hasArc_63 ?_
        refine x_iload_n X dX4_hasArc_64 2 rfl ?_
        refine x_iadd X dX4_hasArc_65 ?_
        refine x_zald X E.1.1 8 rfl dX4_hasArc_66 hf (fun x7 hf => ?_)
        obtain ⟨hz, hf⟩ := ck_some hf
        cases hf
        exact x_zret X hr hlk rfl hz rfl dX4_hasArc_67
      · refine x_aload_n X dX4_hasArc_42 0 rfl ?_
        refine x_iconst X (v := 2) dX4_hasArc_43 (by decide) ?_
        obtain ⟨x9, w8, hx9, hf⟩ := bn2_some hf
        refine x_callV_i X E (As := [.int 2]) (rest := []) (n := 1) (ws2 := (picM kA ad w8)) (goodV w_935 w_937 s_29 w_52 w_938) (met_X4_fail l E.2.2.2 D kA ad fu w1 (2 : Int32) x9 w8 hx9) rfl rfl (by decide +kernel) ⟨by decide, by decide⟩ 0 rfl (qc := (RX4, TX4, _)) rfl rfl rfl rfl (Nat.le_of_ble_eq_true rfl) dX4_hasArc_44 ⟨by decide, by decide⟩ ?_
        refine x_if_eq X (tgt := 54) dX4_hasArc_47 (by decide) hf (fun hf => ?_) (fun hf => ?_)
        · refine x_iconst X (v := 0) dX4_hasArc_54 (by decide) ?_
          cases hf
          exact x_zret X hr hlk rfl (by decide) rfl dX4_hasArc_55
        · refine x_iconst X (v := 1) dX4_hasArc_50 (by decide) ?_
          refine x_goto X (tgt := 55) dX4_hasArc_51 (by decide) ?_
          cases hf
          exact x_zret X hr hlk rfl (by decide) rfl dX4_hasArc_55
  · refine x_aload_n X dX4_hasArc_12 0 rfl ?_
    refine x_iconst X (v := 1) dX4_hasArc_13 (by decide) ?_
    obtain ⟨x11, w10, hx11, hf⟩ := bn2_some hf
    refine x_callV_i X E (As := [.int 1]) (rest := []) (n := 1) (ws2 := (picM kA ad w10)) (goodV w_935 w_937 s_29 w_52 w_938) (met_X4_fail l E.2.2.2 D kA ad fu w1 (1 : Int32) x11 w10 hx11) rfl rfl (by decide +kernel) ⟨by decide, by decide⟩ 0 rfl (qc := (RX4, TX4, _)) rfl rfl rfl rfl (Nat.le_of_ble_eq_true rfl) dX4_hasArc_14 ⟨by decide, by decide⟩ ?_
    refine x_if_eq X (tgt := 24) dX4_hasArc_17 (by decide) hf (fun hf => ?_) (fun hf => ?_)
    · refine x_iconst X (v := 0) dX4_hasArc_24 (by decide) ?_
      cases hf
      exact x_zret X hr hlk rfl (by decide) rfl dX4_hasArc_25
    · refine x_iconst X (v := 1) dX4_hasArc_20 (by decide) ?_
      refine x_goto X (tgt := 25) dX4_hasArc_21 (by decide) ?_
      cases hf
      exact x_zret X hr hlk rfl (by decide) rfl dX4_hasArc_25
end
section
variable {p : Program} {l : Launch} {e : Env} {s : State} {m : MethodId} {args : Array Value} {below : List Frame} {meth : Method} {c : Code} {D : va_G} {kA : Nat → ClassId} {A : Nat → Prop} {Q : State → Prop} {ad : Nat → Nat}
abbrev rm_X4_costOf : Room := { frames := 0, cells := 0, slots := 0, locals := 0 }
set_option maxRecDepth 100000 in
set_option maxHeartbeats 4000000 in
theorem met_X4_costOf (l : Launch) (hst : l.stackTraces = false) (D : va_G) (kA : Nat → ClassId) (ad : Nat → Nat) (fu : Nat) (w : WS) (a1 : Int32) (a2 : Int32) (v : Int32) (hf : f_X4_costOf fu w a1 a2 = some v) (sz : Nat) : Met l yX4_costOf (wsY yX4_costOf cX4_costOf 3 (some .int)) rm_X4_costOf (va_Pc [.ref (ad 0), .int a1, .int a2] (PreG D kA (picM kA ad w) sz)) (va_Qi (fun (r : Int32) (_ : Unit) => r = v) (fun _ t => PosG D (va_A (picM kA ad w) sz) (picM kA ad w) t) (va_A (picM kA ad w) sz)) 0 0 (va_A (picM kA ad w) sz) := by
  refine metG (own := RX4) hst (by decide +kernel) rfl (Nat.le_of_ble_eq_true rfl) rfl ?_
  intro p e s m below meth c X hr hlk E _
  unfold f_X4_costOf at hf
  refine x_aload_n X dX4_costOf_0 0 rfl ?_
  refine x_get X E.1.1 (T := TX4) (C := RX4) inW4 0 rfl rfl 15 (by decide) w_845 rfl (v := .ref (ad 9)) rfl dX4_costOf_1 ?_
  refine x_bipush X (v := 64) dX4_costOf_4 (by decide) ?_
  refine x_iload_n X dX4_costOf_6 1 rfl ?_
  refine x_imul X dX4_costOf_7 ?_
  refine x_iload_n X dX4_costOf_8 2 rfl ?_
  refine x_iadd X dX4_costOf_9 ?_
  refine x_lald X E.1.1 9 rfl dX4_costOf_10 hf (fun x1 hf => ?_)
  refine x_ldc2 X (v := 1000000000000) w_975 dX4_costOf_11 ?_
  refine x_lcmp X dX4_costOf_14 ?_
  refine x_if_ge X (tgt := 33) dX4_costOf_15 (by decide) hf (fun hf => ?_) (fun hf => ?_)
  · refine x_iconst X (v := (-1)) dX4_costOf_33 (by decide) ?_
    exact x_iret X hr hlk rfl (Option.some.inj hf) dX4_costOf_34
  · refine x_aload_n X dX4_costOf_18 0 rfl ?_
    refine x_get X E.1.1 (T := TX4) (C := RX4) inW4 0 rfl rfl 15 (by decide) w_845 rfl (v := .ref (ad 9)) rfl dX4_costOf_19 ?_
    refine x_bipush X (v := 64) dX4_costOf_22 (by decide) ?_
    refine x_iload_n X dX4_costOf_24 1 rfl ?_
    refine x_imul X dX4_costOf_25 ?_
    refine x_iload_n X dX4_costOf_26 2 rfl ?_
    refine x_iadd X dX4_costOf_27 ?_
    refine x_lald X E.1.1 9 rfl dX4_costOf_28 hf (fun x2 hf => ?_)
    refine x_l2i X dX4_costOf_29 ?_
    refine x_goto X (tgt := 34) dX4_costOf_30 (by decide) ?_
    exact x_iret X hr hlk rfl (Option.some.inj hf) dX4_costOf_34
end
section
variable {p : Program} {l : Launch} {e : Env} {s : State} {m : MethodId} {args : Array Value} {below : List Frame} {meth : Method} {c : Code} {D : va_G} {kA : Nat → ClassId} {A : Nat → Prop} {Q : State → Prop} {ad : Nat → Nat}
abbrev rm_X4_arcCost : Room := { frames := 1, cells := 0, slots := 0, locals := 22 }
set_option maxRecDepth 100000 in
set_option maxHeartbeats 4000000 in
theorem met_X4_arcCost (l : Launch) (hst : l.stackTraces = false) (D : va_G) (kA : Nat → ClassId) (ad : Nat → Nat) (fu : Nat) (w : WS) (a1 : Int32) (a2 : Int32) (v : Int32) (w1 : WS) (hf : f_X4_arcCost fu w a1 a2 = some (v, w1)) (sz : Nat) : Met l yX4_arcCost (wsY yX4_arcCost cX4_arcCost 3 (some .int)) rm_X4_arcCost (va_Pc [.ref (ad 0), .int a1, .int a2] (PreG D kA (picM kA ad w) sz)) (va_Qi (fun (r : Int32) (_ : Unit) => r = v) (fun _ t => PosG D (va_A (picM kA ad w) sz) (picM kA ad w1) t) (va_A (picM kA ad w) sz)) 0 0 (va_A (picM kA ad w) sz) := by
  refine metG (own := RX4) hst (by decide +kernel) rfl (Nat.le_of_ble_eq_true rfl) rfl ?_
  intro p e s m below meth c X hr hlk E _
  unfold f_X4_arcCost at hf
  refine x_aload_n X dX4_arcCost_0 0 rfl ?_
  refine x_iconst X (v := 0) dX4_arcCost_1 (by decide) ?_
  refine x_put X E.1.1 (T := TX4) (C := RX4) (ty := .int) inW4 tyX4 tyX4_ok nmX4 0 rfl rfl 0 (by decide) w_830 rfl rfl (by decide +kernel) rfl rfl (Nat.le_of_ble_eq_true rfl) dX4_arcCost_2 (picM kA ad (wI w 0 0 0)) rfl ?_
  refine x_nmW (pic := picM kA ad) (u := (wI w 0 0 0)) hf (fun w1 hf => ?_)
  refine x_aload_n X dX4_arcCost_5 0 rfl ?_
  refine x_get X E.1.1 (T := TX4) (C := RX4) inW4 0 rfl rfl 9 (by decide) w_839 rfl (v := .int (w1.1 0 9)) rfl dX4_arcCost_6 ?_
  refine x_nmI hf (fun x2 hf => ?_)
  refine x_if_ne X (tgt := 18) dX4_arcCost_9 (by decide) hf (fun hf => ?_) (fun hf => ?_)
  · refine x_aload_n X dX4_arcCost_18 0 rfl ?_
    refine x_iload_n X dX4_arcCost_19 1 rfl ?_
    obtain ⟨x3, hx3, hf⟩ := bn_some hf
    refine x_callV_i X E (As := [.int a1]) (rest := []) (n := 1) (ws2 := (picM kA ad w1)) (goodV w_951 w_953 s_31 w_52 w_954) (met_X4_isRoad l E.2.2.2 D kA ad fu w1 a1 x3 hx3) rfl rfl (by decide +kernel) ⟨by decide, by decide⟩ 0 rfl (qc := (RX4, TX4, _)) rfl rfl rfl rfl (Nat.le_of_ble_eq_true rfl) dX4_arcCost_20 ⟨by decide, by decide⟩ ?_
    refine x_if_eq X (tgt := 34) dX4_arcCost_23 (by decide) hf (fun hf => ?_) (fun hf => ?_)
    · refine x_aload_n X dX4_arcCost_34 0 rfl ?_
      refine x_iconst X (v := 2) dX4_arcCost_35 (by decide) ?_
      obtain ⟨x5, w4, hx5, hf⟩ := bn2_some hf
      refine x_callV_i X E (As := [.int 2]) (rest := []) (n := 1) (ws2 := (picM kA ad w4)) (goodV w_935 w_937 s_29 w_52 w_938) (met_X4_fail l E.2.2.2 D kA ad fu w1 (2 : Int32) x5 w4 hx5) rfl rfl (by decide +kernel) ⟨by decide, by decide⟩ 0 rfl (qc := (RX4, TX4, _)) rfl rfl rfl rfl (Nat.le_of_ble_eq_true rfl) dX4_arcCost_36 ⟨by decide, by decide⟩ ?_
      cases hf
      exact x_iret X hr hlk rfl rfl dX4_arcCost_39
    · refine x_aload_n X dX4_arcCost_26 0 rfl ?_
      refine x_iload_n X dX4_arcCost_27 2 rfl ?_
      obtain ⟨x6, hx6, hf⟩ := bn_some hf
      refine x_callV_i X E (As := [.int a2]) (rest := []) (n := 1) (ws2 := (picM kA ad w1)) (goodV w_951 w_953 s_31 w_52 w_954) (met_X4_isRoad l E.2.2.2 D kA ad fu w1 a2 x6 hx6) rfl rfl (by decide +kernel) ⟨by decide, by decide⟩ 0 rfl (qc := (RX4, TX4, _)) rfl rfl rfl rfl (Nat.le_of_ble_eq_true rfl) dX4_arcCost_28 ⟨by decide, by decide⟩ ?_
      refine x_if_ne X (tgt := 40) dX4_arcCost_31 (by decide) hf (fun hf => ?_) (fun hf => ?_)
      · refine x_aload_n X dX4_arcCost_40 0 rfl ?_
        refine x_get X E.1.1 (T := TX4) (C := RX4) inW4 0 rfl rfl 12 (by decide) w_842 rfl (v := .ref (ad 8)) rfl dX4_arcCost_41 ?_
        refine x_bipush X (v := 64) dX4_arcCost_44 (by decide) ?_
        refine x_iload_n X dX4_arcCost_46 1 rfl ?_
        refine x_imul X dX4_arcCost_47 ?_
        refine x_iload_n X dX4_arcCost_48 2 rfl ?_
        refine x_iadd X dX4_arcCost_49 ?_
        refine x_zald X E.1.1 8 rfl dX4_arcCost_50 hf (fun x7 hf => ?_)
        refine x_if_eq X (tgt := 63) dX4_arcCost_51 (by decide) hf (fun hf => ?_) (fun hf => ?_)
        · refine x_aload_n X dX4_arcCost_63 0 rfl ?_
          refine x_iconst X (v := 3) dX4_arcCost_64 (by decide) ?_
          obtain ⟨x9, w8, hx9, hf⟩ := bn2_some hf
          refine x_callV_i X E (As := [.int 3]) (rest := []) (n := 1) (ws2 := (picM kA ad w8)) (goodV w_935 w_937 s_29 w_52 w_938) (met_X4_fail l E.2.2.2 D kA ad fu w1 (3 : Int32) x9 w8 hx9) rfl rfl (by decide +kernel) ⟨by decide, by decide⟩ 0 rfl (qc := (RX4, TX4, _)) rfl rfl rfl rfl (Nat.le_of_ble_eq_true rfl) dX4_arcCost_65 ⟨by decide, by decide⟩ ?_
          cases hf
          exact x_iret X hr hlk rfl rfl dX4_arcCost_68
        · refine x_aload_n X dX4_arcCost_54 0 rfl ?_
          refine x_iload_n X dX4_arcCost_55 1 rfl ?_
          refine x_iload_n X dX4_arcCost_56 2 rfl ?_
          obtain ⟨x10, hx10, hf⟩ := bn_some hf
          refine x_callV_i X E (As := [.int a1, .int a2]) (rest := []) (n := 2) (ws2 := (picM kA ad w1)) (goodV w_1043 w_1045 s_39 w_52 w_1046) (met_X4_costOf l E.2.2.2 D kA ad fu w1 a1 a2 x10 hx10) rfl rfl (by decide +kernel) ⟨by decide, by decide⟩ 0 rfl (qc := (RX4, TX4, _)) rfl rfl rfl rfl (Nat.le_of_ble_eq_true rfl) dX4_arcCost_57 ⟨by decide, by decide⟩ ?_
          refine x_goto X (tgt := 68) dX4_arcCost_60 (by decide) ?_
          cases hf
          exact x_iret X hr hlk rfl rfl dX4_arcCost_68
      · refine x_aload_n X dX4_arcCost_34 0 rfl ?_
        refine x_iconst X (v := 2) dX4_arcCost_35 (by decide) ?_
        obtain ⟨x12, w11, hx12, hf⟩ := bn2_some hf
        refine x_callV_i X E (As := [.int 2]) (rest := []) (n := 1) (ws2 := (picM kA ad w11)) (goodV w_935 w_937 s_29 w_52 w_938) (met_X4_fail l E.2.2.2 D kA ad fu w1 (2 : Int32) x12 w11 hx12) rfl rfl (by decide +kernel) ⟨by decide, by decide⟩ 0 rfl (qc := (RX4, TX4, _)) rfl rfl rfl rfl (Nat.le_of_ble_eq_true rfl) dX4_arcCost_36 ⟨by decide, by decide⟩ ?_
        cases hf
        exact x_iret X hr hlk rfl rfl dX4_arcCost_39
  · refine x_aload_n X dX4_arcCost_12 0 rfl ?_
    refine x_iconst X (v := 1) dX4_arcCost_13 (by decide) ?_
    obtain ⟨x14, w13, hx14, hf⟩ := bn2_some hf
    refine x_callV_i X E (As := [.int 1]) (rest := []) (n := 1) (ws2 := (picM kA ad w13)) (goodV w_935 w_937 s_29 w_52 w_938) (met_X4_fail l E.2.2.2 D kA ad fu w1 (1 : Int32) x14 w13 hx14) rfl rfl (by decide +kernel) ⟨by decide, by decide⟩ 0 rfl (qc := (RX4, TX4, _)) rfl rfl rfl rfl (Nat.le_of_ble_eq_true rfl) dX4_arcCost_14 ⟨by decide, by decide⟩ ?_
    cases hf
    exact x_iret X hr hlk rfl rfl dX4_arcCost_17
end
section
variable {p : Program} {l : Launch} {e : Env} {s : State} {m : MethodId} {args : Array Value} {below : List Frame} {meth : Method} {c : Code} {D : va_G} {kA : Nat → ClassId} {A : Nat → Prop} {Q : State → Prop} {ad : Nat → Nat}
abbrev rm_X4_improves : Room := { frames := 2, cells := 0, slots := 0, locals := 45 }
set_option maxRecDepth 100000 in
set_option maxHeartbeats 4000000 in
theorem met_X4_improves (l : Launch) (hst : l.stackTraces = false) (D : va_G) (kA : Nat → ClassId) (ad : Nat → Nat) (fu : Nat) (w : WS) (a1 : Int32) (a2 : Int32) (v : Int32) (w1 : WS) (hf : f_X4_improves fu w a1 a2 = some (v, w1)) (sz : Nat) : Met l yX4_improves (wsY yX4_improves cX4_improves 5 (some .boolean)) rm_X4_improves (va_Pc [.ref (ad 0), .int a1, .int a2] (PreG D kA (picM kA ad w) sz)) (va_Qi (fun (r : Int32) (_ : Unit) => r = v) (fun _ t => PosG D (va_A (picM kA ad w) sz) (picM kA ad w1) t) (va_A (picM kA ad w) sz)) 0 0 (va_A (picM kA ad w) sz) := by
  refine metG (own := RX4) hst (by decide +kernel) rfl (Nat.le_of_ble_eq_true rfl) rfl ?_
  intro p e s m below meth c X hr hlk E _
  unfold f_X4_improves at hf
  refine x_aload_n X dX4_improves_0 0 rfl ?_
  refine x_iload_n X dX4_improves_1 1 rfl ?_
  refine x_iload_n X dX4_improves_2 2 rfl ?_
  obtain ⟨x1, hx1, hf⟩ := bn_some hf
  refine x_callV_l X E (As := [.int a1, .int a2]) (rest := []) (n := 2) (ws2 := (picM kA ad w)) (goodV w_963 w_965 s_34 w_52 w_966) (met_X4_step l E.2.2.2 D kA ad fu w a1 a2 x1 hx1) rfl rfl (by decide +kernel) ⟨by decide, by decide⟩ 0 rfl (qc := (RX4, TX4, _)) rfl rfl rfl rfl (Nat.le_of_ble_eq_true rfl) dX4_improves_3 ⟨by decide, by decide⟩ ?_
  refine x_ldc2 X (v := 1000000000000) w_975 dX4_improves_6 ?_
  refine x_lcmp X dX4_improves_9 ?_
  refine x_if_eq X (tgt := 26) dX4_improves_10 (by decide) hf (fun hf => ?_) (fun hf => ?_)
  · refine x_iconst X (v := 0) dX4_improves_26 (by decide) ?_
    cases hf
    exact x_zret X hr hlk rfl (by decide) rfl dX4_improves_27
  · refine x_aload_n X dX4_improves_13 0 rfl ?_
    refine x_get X E.1.1 (T := TX4) (C := RX4) inW4 0 rfl rfl 30 (by decide) w_860 rfl (v := .ref (ad 20)) rfl dX4_improves_14 ?_
    refine x_iload_n X dX4_improves_17 2 rfl ?_
    refine x_lald X E.1.1 20 rfl dX4_improves_18 hf (fun x2 hf => ?_)
    refine x_ldc2 X (v := 1000000000000) w_975 dX4_improves_19 ?_
    refine x_lcmp X dX4_improves_22 ?_
    refine x_if_ne X (tgt := 28) dX4_improves_23 (by decide) hf (fun hf => ?_) (fun hf => ?_)
    · refine x_aload_n X dX4_improves_28 0 rfl ?_
      refine x_get X E.1.1 (T := TX4) (C := RX4) inW4 0 rfl rfl 5 (by decide) w_835 rfl (v := .ref (ad 3)) rfl dX4_improves_29 ?_
      refine x_iload_n X dX4_improves_32 1 rfl ?_
      refine x_iald X E.1.1 3 rfl dX4_improves_33 hf (fun x3 hf => ?_)
      refine x_aload_n X dX4_improves_34 0 rfl ?_
      refine x_iload_n X dX4_improves_35 1 rfl ?_
      refine x_iload_n X dX4_improves_36 2 rfl ?_
      obtain ⟨x4, hx4, hf⟩ := bn_some hf
      refine x_callV_i X E (As := [.int a1, .int a2]) (rest := [.int x3]) (n := 2) (ws2 := (picM kA ad w)) (goodV w_971 w_973 s_36 w_52 w_974) (met_X4_penalty l E.2.2.2 D kA ad fu w a1 a2 x4 hx4) rfl rfl (by decide +kernel) ⟨by decide, by decide⟩ 0 rfl (qc := (RX4, TX4, _)) rfl rfl rfl rfl (Nat.le_of_ble_eq_true rfl) dX4_improves_37 ⟨by decide, by decide⟩ ?_
      refine x_iadd X dX4_improves_40 ?_
      refine x_i2l X dX4_improves_41 ?_
      refine x_aload_n X dX4_improves_42 0 rfl ?_
      refine x_get X E.1.1 (T := TX4) (C := RX4) inW4 0 rfl rfl 30 (by decide) w_860 rfl (v := .ref (ad 20)) rfl dX4_improves_43 ?_
      refine x_iload_n X dX4_improves_46 2 rfl ?_
      refine x_lald X E.1.1 20 rfl dX4_improves_47 hf (fun x5 hf => ?_)
      refine x_ladd X dX4_improves_48 ?_
      refine x_nmL hf (fun x6 hf => ?_)
      refine x_lstore_n X (lv2 := [(3, .long x6), (0, .ref (ad 0)), (1, .int a1), (2, .int a2)]) dX4_improves_49 (by decide) rfl ?_
      refine x_lload_n X dX4_improves_50 0 rfl ?_
      refine x_aload_n X dX4_improves_51 1 rfl ?_
      refine x_get X E.1.1 (T := TX4) (C := RX4) inW4 0 rfl rfl 30 (by decide) w_860 rfl (v := .ref (ad 20)) rfl dX4_improves_52 ?_
      refine x_iload_n X dX4_improves_55 2 rfl ?_
      refine x_lald X E.1.1 20 rfl dX4_improves_56 hf (fun x7 hf => ?_)
      refine x_lcmp X dX4_improves_57 ?_
      refine x_if_gt X (tgt := 89) dX4_improves_58 (by decide) hf (fun hf => ?_) (fun hf => ?_)
      · refine x_iconst X (v := 0) dX4_improves_89 (by decide) ?_
        cases hf
        exact x_zret X hr hlk rfl (by decide) rfl dX4_improves_90
      · refine x_lload_n X dX4_improves_61 0 rfl ?_
        refine x_aload_n X dX4_improves_62 1 rfl ?_
        refine x_get X E.1.1 (T := TX4) (C := RX4) inW4 0 rfl rfl 30 (by decide) w_860 rfl (v := .ref (ad 20)) rfl dX4_improves_63 ?_
        refine x_iload_n X dX4_improves_66 2 rfl ?_
        refine x_lald X E.1.1 20 rfl dX4_improves_67 hf (fun x8 hf => ?_)
        refine x_lcmp X dX4_improves_68 ?_
        refine x_if_ne X (tgt := 91) dX4_improves_69 (by decide) hf (fun hf => ?_) (fun hf => ?_)
        · refine x_aload_n X dX4_improves_91 1 rfl ?_
          refine x_get X E.1.1 (T := TX4) (C := RX4) inW4 0 rfl rfl 30 (by decide) w_860 rfl (v := .ref (ad 20)) rfl dX4_improves_92 ?_
          refine x_iload_n X dX4_improves_95 2 rfl ?_
          refine x_lload_n X dX4_improves_96 0 rfl ?_
          refine x_last X E.1.1 20 rfl dX4_improves_97 hf (picM kA ad) (setM_20 kA ad _ _ _) (fun w9 hf => ?_)
          refine x_aload_n X dX4_improves_98 1 rfl ?_
          refine x_get X E.1.1 (T := TX4) (C := RX4) inW4 0 rfl rfl 31 (by decide) w_861 rfl (v := .ref (ad 21)) rfl dX4_improves_99 ?_
          refine x_iload_n X dX4_improves_102 2 rfl ?_
          refine x_aload_n X dX4_improves_103 1 rfl ?_
          refine x_get X E.1.1 (T := TX4) (C := RX4) inW4 0 rfl rfl 31 (by decide) w_861 rfl (v := .ref (ad 21)) rfl dX4_improves_104 ?_
          refine x_iload_n X dX4_improves_107 3 rfl ?_
          refine x_iald X E.1.1 21 rfl dX4_improves_108 hf (fun x10 hf => ?_)
          refine x_iconst X (v := 1) dX4_improves_109 (by decide) ?_
          refine x_iadd X dX4_improves_110 ?_
          refine x_iast X E.1.1 21 rfl dX4_improves_111 hf (picM kA ad) (setM_21 kA ad _ _ _) (fun w11 hf => ?_)
          refine x_iconst X (v := 1) dX4_improves_112 (by decide) ?_
          cases hf
          exact x_zret X hr hlk rfl (by decide) rfl dX4_improves_113
        · refine x_aload_n X dX4_improves_72 1 rfl ?_
          refine x_get X E.1.1 (T := TX4) (C := RX4) inW4 0 rfl rfl 31 (by decide) w_861 rfl (v := .ref (ad 21)) rfl dX4_improves_73 ?_
          refine x_iload_n X dX4_improves_76 3 rfl ?_
          refine x_iald X E.1.1 21 rfl dX4_improves_77 hf (fun x12 hf => ?_)
          refine x_iconst X (v := 1) dX4_improves_78 (by decide) ?_
          refine x_iadd X dX4_improves_79 ?_
          refine x_aload_n X dX4_improves_80 1 rfl ?_
          refine x_get X E.1.1 (T := TX4) (C := RX4) inW4 0 rfl rfl 31 (by decide) w_861 rfl (v := .ref (ad 21)) rfl dX4_improves_81 ?_
          refine x_iload_n X dX4_improves_84 2 rfl ?_
          refine x_iald X E.1.1 21 rfl dX4_improves_85 hf (fun x13 hf => ?_)
          refine x_icmp_lt X (tgt := 91) dX4_improves_86 (by decide) hf (fun hf => ?_) (fun hf => ?_)
          · refine x_aload_n X dX4_improves_91 1 rfl ?_
            refine x_get X E.1.1 (T := TX4) (C := RX4) inW4 0 rfl rfl 30 (by decide) w_860 rfl (v := .ref (ad 20)) rfl dX4_improves_92 ?_
            refine x_iload_n X dX4_improves_95 2 rfl ?_
            refine x_lload_n X dX4_improves_96 0 rfl ?_
            refine x_last X E.1.1 20 rfl dX4_improves_97 hf (picM kA ad) (setM_20 kA ad _ _ _) (fun w14 hf => ?_)
            refine x_aload_n X dX4_improves_98 1 rfl ?_
            refine x_get X E.1.1 (T := TX4) (C := RX4) inW4 0 rfl rfl 31 (by decide) w_861 rfl (v := .ref (ad 21)) rfl dX4_improves_99 ?_
            refine x_iload_n X dX4_improves_102 2 rfl ?_
            refine x_aload_n X dX4_improves_103 1 rfl ?_
            refine x_get X E.1.1 (T := TX4) (C := RX4) inW4 0 rfl rfl 31 (by decide) w_861 rfl (v := .ref (ad 21)) rfl dX4_improves_104 ?_
            refine x_iload_n X dX4_improves_107 3 rfl ?_
            refine x_iald X E.1.1 21 rfl dX4_improves_108 hf (fun x15 hf => ?_)
            refine x_iconst X (v := 1) dX4_improves_109 (by decide) ?_
            refine x_iadd X dX4_improves_110 ?_
            refine x_iast X E.1.1 21 rfl dX4_improves_111 hf (picM kA ad) (setM_21 kA ad _ _ _) (fun w16 hf => ?_)
            refine x_iconst X (v := 1) dX4_improves_112 (by decide) ?_
            cases hf
            exact x_zret X hr hlk rfl (by decide) rfl dX4_improves_113
          · refine x_iconst X (v := 0) dX4_improves_89 (by decide) ?_
            cases hf
            exact x_zret X hr hlk rfl (by decide) rfl dX4_improves_90
    · refine x_iconst X (v := 0) dX4_improves_26 (by decide) ?_
      cases hf
      exact x_zret X hr hlk rfl (by decide) rfl dX4_improves_27
end
section
variable {p : Program} {l : Launch} {e : Env} {s : State} {m : MethodId} {args : Array Value} {below : List Frame} {meth : Method} {c : Code} {D : va_G} {kA : Nat → ClassId} {A : Nat → Prop} {Q : State → Prop} {ad : Nat → Nat}
abbrev rm_X4_findBehind : Room := { frames := 3, cells := 0, slots := 0, locals := 69 }
set_option maxRecDepth 100000 in
set_option maxHeartbeats 4000000 in
theorem lp_X4_findBehind_2 (X : CX p m c cX4_findBehind 5 s args RX4) (E : EX l s D kA A) (fu : Nat) (y1 : Int32) : ∀ (n : Nat) (y2 : Int32) (w : WS) (rw : WS), iter (fun q => bd_X4_findBehind_2 fu y1 q.1 q.2) n (y2, w) = some (rw) → CS p l e rm_X4_findBehind s m args below meth c D A 5 0 0 Q (picM kA ad rw) 61 [(0, .ref (ad 0))] [] → CS p l e rm_X4_findBehind s m args below meth c D A 5 0 0 Q (picM kA ad w) 2 [(0, .ref (ad 0)), (1, .int y1), (2, .int y2)] [] := by
  intro n
  induction n with
  | zero =>
    intro y2 w rw hit kk
    exact (iter_0 hit).elim
  | succ n ih =>
    intro y2 w rw hit kk
    obtain ⟨o, h1, hit⟩ := iter_one hit
    have hf : bd_X4_findBehind_2 fu y1 y2 w = some o := h1
    unfold bd_X4_findBehind_2 at hf
    refine x_iload_n X dX4_findBehind_2 2 rfl ?_
    refine x_aload_n X dX4_findBehind_3 0 rfl ?_
    refine x_get X E.1.1 (T := TX4) (C := RX4) inW4 0 rfl rfl 2 (by decide) w_832 rfl (v := .int (w.1 0 2)) rfl dX4_findBehind_4 ?_
    refine x_nmI hf (fun x1 hf => ?_)
    refine x_icmp_ge X (tgt := 61) dX4_findBehind_7 (by decide) hf (fun hf => ?_) (fun hf => ?_)
    · cases hf
      cases hit
      refine x_lpick (lv2 := [(0, .ref (ad 0))]) [0] rfl ?_
      exact kk
    · refine x_aload_n X dX4_findBehind_10 0 rfl ?_
      refine x_get X E.1.1 (T := TX4) (C := RX4) inW4 0 rfl rfl 30 (by decide) w_860 rfl (v := .ref (ad 20)) rfl dX4_findBehind_11 ?_
      refine x_iload_n X dX4_findBehind_14 2 rfl ?_
      refine x_aload_n X dX4_findBehind_15 0 rfl ?_
      refine x_get X E.1.1 (T := TX4) (C := RX4) inW4 0 rfl rfl 6 (by decide) w_836 rfl (v := .ref (ad 4)) rfl dX4_findBehind_16 ?_
      refine x_iload_n X dX4_findBehind_19 2 rfl ?_
      refine x_zald X E.1.1 4 rfl dX4_findBehind_20 hf (fun x2 hf => ?_)
      refine x_if_eq X (tgt := 44) dX4_findBehind_21 (by decide) hf (fun hf => ?_) (fun hf => ?_)
      · refine x_ldc2 X (v := 1000000000000) w_975 dX4_findBehind_44 ?_
        refine x_last X E.1.1 20 rfl dX4_findBehind_47 hf (picM kA ad) (setM_20 kA ad _ _ _) (fun w3 hf => ?_)
        refine x_aload_n X dX4_findBehind_48 0 rfl ?_
        refine x_get X E.1.1 (T := TX4) (C := RX4) inW4 0 rfl rfl 31 (by decide) w_861 rfl (v := .ref (ad 21)) rfl dX4_findBehind_49 ?_
        refine x_iload_n X dX4_findBehind_52 2 rfl ?_
        refine x_iconst X (v := 1) dX4_findBehind_53 (by decide) ?_
        refine x_iast X E.1.1 21 rfl dX4_findBehind_54 hf (picM kA ad) (setM_21 kA ad _ _ _) (fun w4 hf => ?_)
        refine x_iinc X dX4_findBehind_55 2 rfl (by decide) (y2 + 1) rfl hf (fun x5 => [(2, .int x5), (0, .ref (ad 0)), (1, .int y1)]) (fun _ => rfl) (fun x5 hf => ?_)
        refine x_goto X (tgt := 2) dX4_findBehind_58 (by decide) ?_
        cases hf
        refine x_lpick (lv2 := [(0, .ref (ad 0)), (1, .int y1), (2, .int x5)]) [1, 2, 0] rfl ?_
        exact ih _ _ _ hit kk
      · refine x_aload_n X dX4_findBehind_24 0 rfl ?_
        refine x_get X E.1.1 (T := TX4) (C := RX4) inW4 0 rfl rfl 4 (by decide) w_834 rfl (v := .ref (ad 2)) rfl dX4_findBehind_25 ?_
        refine x_iload_n X dX4_findBehind_28 2 rfl ?_
        refine x_iald X E.1.1 2 rfl dX4_findBehind_29 hf (fun x6 hf => ?_)
        refine x_iload_n X dX4_findBehind_30 1 rfl ?_
        refine x_icmp_ne X (tgt := 44) dX4_findBehind_31 (by decide) hf (fun hf => ?_) (fun hf => ?_)
        · refine x_ldc2 X (v := 1000000000000) w_975 dX4_findBehind_44 ?_
          refine x_last X E.1.1 20 rfl dX4_findBehind_47 hf (picM kA ad) (setM_20 kA ad _ _ _) (fun w7 hf => ?_)
          refine x_aload_n X dX4_findBehind_48 0 rfl ?_
          refine x_get X E.1.1 (T := TX4) (C := RX4) inW4 0 rfl rfl 31 (by decide) w_861 rfl (v := .ref (ad 21)) rfl dX4_findBehind_49 ?_
          refine x_iload_n X dX4_findBehind_52 2 rfl ?_
          refine x_iconst X (v := 1) dX4_findBehind_53 (by decide) ?_
          refine x_iast X E.1.1 21 rfl dX4_findBehind_54 hf (picM kA ad) (setM_21 kA ad _ _ _) (fun w8 hf => ?_)
          refine x_iinc X dX4_findBehind_55 2 rfl (by decide) (y2 + 1) rfl hf (fun x9 => [(2, .int x9), (0, .ref (ad 0)), (1, .int y1)]) (fun _ => rfl) (fun x9 hf => ?_)
          refine x_goto X (tgt := 2) dX4_findBehind_58 (by decide) ?_
          cases hf
          refine x_lpick (lv2 := [(0, .ref (ad 0)), (1, .int y1), (2, .int x9)]) [1, 2, 0] rfl ?_
          exact ih _ _ _ hit kk
        · refine x_aload_n X dX4_findBehind_34 0 rfl ?_
          refine x_get X E.1.1 (T := TX4) (C := RX4) inW4 0 rfl rfl 5 (by decide) w_835 rfl (v := .ref (ad 3)) rfl dX4_findBehind_35 ?_
          refine x_iload_n X dX4_findBehind_38 2 rfl ?_
          refine x_iald X E.1.1 3 rfl dX4_findBehind_39 hf (fun x10 hf => ?_)
          refine x_i2l X dX4_findBehind_40 ?_
          refine x_goto X (tgt := 47) dX4_findBehind_41 (by decide) ?_
          refine x_last X E.1.1 20 rfl dX4_findBehind_47 hf (picM kA ad) (setM_20 kA ad _ _ _) (fun w11 hf => ?_)
          refine x_aload_n X dX4_findBehind_48 0 rfl ?_
          refine x_get X E.1.1 (T := TX4) (C := RX4) inW4 0 rfl rfl 31 (by decide) w_861 rfl (v := .ref (ad 21)) rfl dX4_findBehind_49 ?_
          refine x_iload_n X dX4_findBehind_52 2 rfl ?_
          refine x_iconst X (v := 1) dX4_findBehind_53 (by decide) ?_
          refine x_iast X E.1.1 21 rfl dX4_findBehind_54 hf (picM kA ad) (setM_21 kA ad _ _ _) (fun w12 hf => ?_)
          refine x_iinc X dX4_findBehind_55 2 rfl (by decide) (y2 + 1) rfl hf (fun x13 => [(2, .int x13), (0, .ref (ad 0)), (1, .int y1)]) (fun _ => rfl) (fun x13 hf => ?_)
          refine x_goto X (tgt := 2) dX4_findBehind_58 (by decide) ?_
          cases hf
          refine x_lpick (lv2 := [(0, .ref (ad 0)), (1, .int y1), (2, .int x13)]) [1, 2, 0] rfl ?_
          exact ih _ _ _ hit kk
set_option maxRecDepth 100000 in
set_option maxHeartbeats 4000000 in
theorem lp_X4_findBehind_82 (X : CX p m c cX4_findBehind 5 s args RX4) (E : EX l s D kA A) (fu : Nat) (y3 : Int32) : ∀ (n : Nat) (y2 : Int32) (y4 : Int32) (w : WS) (r2 : Int32) (rw : WS), iter (fun q => bd_X4_findBehind_82 fu y3 q.1 q.2.1 q.2.2) n (y2, y4, w) = some (r2, rw) → CS p l e rm_X4_findBehind s m args below meth c D A 5 0 0 Q (picM kA ad rw) 117 [(0, .ref (ad 0)), (2, .int r2), (3, .int y3)] [] → CS p l e rm_X4_findBehind s m args below meth c D A 5 0 0 Q (picM kA ad w) 82 [(0, .ref (ad 0)), (2, .int y2), (3, .int y3), (4, .int y4)] [] := by
  intro n
  induction n with
  | zero =>
    intro y2 y4 w r2 rw hit kk
    exact (iter_0 hit).elim
  | succ n ih =>
    intro y2 y4 w r2 rw hit kk
    obtain ⟨o, h1, hit⟩ := iter_one hit
    have hf : bd_X4_findBehind_82 fu y3 y2 y4 w = some o := h1
    unfold bd_X4_findBehind_82 at hf
    refine x_iload X dX4_findBehind_82 3 rfl ?_
    refine x_aload_n X dX4_findBehind_84 0 rfl ?_
    refine x_get X E.1.1 (T := TX4) (C := RX4) inW4 0 rfl rfl 2 (by decide) w_832 rfl (v := .int (w.1 0 2)) rfl dX4_findBehind_85 ?_
    refine x_nmI hf (fun x1 hf => ?_)
    refine x_icmp_ge X (tgt := 117) dX4_findBehind_88 (by decide) hf (fun hf => ?_) (fun hf => ?_)
    · cases hf
      cases hit
      refine x_lpick (lv2 := [(0, .ref (ad 0)), (2, .int y2), (3, .int y3)]) [0, 1, 2] rfl ?_
      exact kk
    · refine x_aload_n X dX4_findBehind_91 0 rfl ?_
      refine x_iload_n X dX4_findBehind_92 2 rfl ?_
      refine x_iload X dX4_findBehind_93 3 rfl ?_
      obtain ⟨x3, w2, hx3, hf⟩ := bn2_some hf
      refine x_callV_i X E (As := [.int y3, .int y4]) (rest := []) (n := 2) (ws2 := (picM kA ad w2)) (goodV w_1063 w_1065 s_43 w_52 w_1066) (met_X4_improves l E.2.2.2 D kA ad fu w y3 y4 x3 w2 hx3) rfl rfl (by decide +kernel) ⟨by decide, by decide⟩ 0 rfl (qc := (RX4, TX4, _)) rfl rfl rfl rfl (Nat.le_of_ble_eq_true rfl) dX4_findBehind_95 ⟨by decide, by decide⟩ ?_
      refine x_if_ne X (tgt := 105) dX4_findBehind_98 (by decide) hf (fun hf => ?_) (fun hf => ?_)
      · refine x_iconst X (v := 1) dX4_findBehind_105 (by decide) ?_
        refine x_goto X (tgt := 110) dX4_findBehind_106 (by decide) ?_
        refine x_istore_n X (lv2 := [(2, .int 1), (0, .ref (ad 0)), (3, .int y3), (4, .int y4)]) dX4_findBehind_110 (by decide) rfl ?_
        refine x_iinc X dX4_findBehind_111 3 rfl (by decide) (y4 + 1) rfl hf (fun x4 => [(4, .int x4), (2, .int 1), (0, .ref (ad 0)), (3, .int y3)]) (fun _ => rfl) (fun x4 hf => ?_)
        refine x_goto X (tgt := 82) dX4_findBehind_114 (by decide) ?_
        cases hf
        refine x_lpick (lv2 := [(0, .ref (ad 0)), (2, .int 1), (3, .int y3), (4, .int x4)]) [2, 1, 3, 0] rfl ?_
        exact ih _ _ _ _ _ hit kk
      · refine x_iload_n X dX4_findBehind_101 1 rfl ?_
        refine x_if_eq X (tgt := 109) dX4_findBehind_102 (by decide) hf (fun hf => ?_) (fun hf => ?_)
        · refine x_iconst X (v := 0) dX4_findBehind_109 (by decide) ?_
          refine x_istore_n X (lv2 := [(2, .int 0), (0, .ref (ad 0)), (3, .int y3), (4, .int y4)]) dX4_findBehind_110 (by decide) rfl ?_
          refine x_iinc X dX4_findBehind_111 3 rfl (by decide) (y4 + 1) rfl hf (fun x5 => [(4, .int x5), (2, .int 0), (0, .ref (ad 0)), (3, .int y3)]) (fun _ => rfl) (fun x5 hf => ?_)
          refine x_goto X (tgt := 82) dX4_findBehind_114 (by decide) ?_
          cases hf
          refine x_lpick (lv2 := [(0, .ref (ad 0)), (2, .int 0), (3, .int y3), (4, .int x5)]) [2, 1, 3, 0] rfl ?_
          exact ih _ _ _ _ _ hit kk
        · refine x_iconst X (v := 1) dX4_findBehind_105 (by decide) ?_
          refine x_goto X (tgt := 110) dX4_findBehind_106 (by decide) ?_
          refine x_istore_n X (lv2 := [(2, .int 1), (0, .ref (ad 0)), (3, .int y3), (4, .int y4)]) dX4_findBehind_110 (by decide) rfl ?_
          refine x_iinc X dX4_findBehind_111 3 rfl (by decide) (y4 + 1) rfl hf (fun x6 => [(4, .int x6), (2, .int 1), (0, .ref (ad 0)), (3, .int y3)]) (fun _ => rfl) (fun x6 hf => ?_)
          refine x_goto X (tgt := 82) dX4_findBehind_114 (by decide) ?_
          cases hf
          refine x_lpick (lv2 := [(0, .ref (ad 0)), (2, .int 1), (3, .int y3), (4, .int x6)]) [2, 1, 3, 0] rfl ?_
          exact ih _ _ _ _ _ hit kk
set_option maxRecDepth 100000 in
set_option maxHeartbeats 4000000 in
theorem lp_X4_findBehind_71 (X : CX p m c cX4_findBehind 5 s args RX4) (E : EX l s D kA A) (fu : Nat)  : ∀ (n : Nat) (y2 : Int32) (y3 : Int32) (w : WS) (r2 : Int32) (rw : WS), iter (fun q => bd_X4_findBehind_71 fu q.1 q.2.1 q.2.2) n (y2, y3, w) = some (r2, rw) → CS p l e rm_X4_findBehind s m args below meth c D A 5 0 0 Q (picM kA ad rw) 123 [(0, .ref (ad 0)), (2, .int r2)] [] → CS p l e rm_X4_findBehind s m args below meth c D A 5 0 0 Q (picM kA ad w) 71 [(0, .ref (ad 0)), (2, .int y2), (3, .int y3)] [] := by
  intro n
  induction n with
  | zero =>
    intro y2 y3 w r2 rw hit kk
    exact (iter_0 hit).elim
  | succ n ih =>
    intro y2 y3 w r2 rw hit kk
    obtain ⟨o, h1, hit⟩ := iter_one hit
    have hf : bd_X4_findBehind_71 fu y2 y3 w = some o := h1
    unfold bd_X4_findBehind_71 at hf
    refine x_iload_n X dX4_findBehind_71 2 rfl ?_
    refine x_aload_n X dX4_findBehind_72 0 rfl ?_
    refine x_get X E.1.1 (T := TX4) (C := RX4) inW4 0 rfl rfl 2 (by decide) w_832 rfl (v := .int (w.1 0 2)) rfl dX4_findBehind_73 ?_
    refine x_nmI hf (fun x1 hf => ?_)
    refine x_icmp_ge X (tgt := 123) dX4_findBehind_76 (by decide) hf (fun hf => ?_) (fun hf => ?_)
    · cases hf
      cases hit
      refine x_lpick (lv2 := [(0, .ref (ad 0)), (2, .int y2)]) [0, 1] rfl ?_
      exact kk
    · refine x_iconst X (v := 0) dX4_findBehind_79 (by decide) ?_
      refine x_istore X (lv2 := [(4, .int 0), (0, .ref (ad 0)), (2, .int y2), (3, .int y3)]) dX4_findBehind_80 (by decide) rfl ?_
      refine x_lpick (lv2 := [(0, .ref (ad 0)), (2, .int y2), (3, .int y3), (4, .int 0)]) [1, 2, 3, 0] rfl ?_
      obtain ⟨x2, w3, h4, hf⟩ := bn2_some hf
      refine lp_X4_findBehind_82 X E fu y3 fu y2 (0 : Int32) w x2 w3 h4 ?_
      refine x_iinc X dX4_findBehind_117 2 rfl (by decide) (y3 + 1) rfl hf (fun x5 => [(3, .int x5), (0, .ref (ad 0)), (2, .int x2)]) (fun _ => rfl) (fun x5 hf => ?_)
      refine x_goto X (tgt := 71) dX4_findBehind_120 (by decide) ?_
      cases hf
      refine x_lpick (lv2 := [(0, .ref (ad 0)), (2, .int x2), (3, .int x5)]) [1, 2, 0] rfl ?_
      exact ih _ _ _ _ _ hit kk
set_option maxRecDepth 100000 in
set_option maxHeartbeats 4000000 in
theorem lp_X4_findBehind_63 (X : CX p m c cX4_findBehind 5 s args RX4) (E : EX l s D kA A) (fu : Nat)  : ∀ (n : Nat) (y2 : Int32) (w : WS) (rw : WS), iter (fun q => bd_X4_findBehind_63 fu q.1 q.2) n (y2, w) = some (rw) → CS p l e rm_X4_findBehind s m args below meth c D A 5 0 0 Q (picM kA ad rw) 126 [] [] → CS p l e rm_X4_findBehind s m args below meth c D A 5 0 0 Q (picM kA ad w) 63 [(0, .ref (ad 0)), (2, .int y2)] [] := by
  intro n
  induction n with
  | zero =>
    intro y2 w rw hit kk
    exact (iter_0 hit).elim
  | succ n ih =>
    intro y2 w rw hit kk
    obtain ⟨o, h1, hit⟩ := iter_one hit
    have hf : bd_X4_findBehind_63 fu y2 w = some o := h1
    unfold bd_X4_findBehind_63 at hf
    refine x_iload_n X dX4_findBehind_63 1 rfl ?_
    refine x_if_eq X (tgt := 126) dX4_findBehind_64 (by decide) hf (fun hf => ?_) (fun hf => ?_)
    · cases hf
      cases hit
      refine x_lpick (lv2 := []) [] rfl ?_
      exact kk
    · refine x_iconst X (v := 0) dX4_findBehind_67 (by decide) ?_
      refine x_istore_n X (lv2 := [(2, .int 0), (0, .ref (ad 0))]) dX4_findBehind_68 (by decide) rfl ?_
      refine x_iconst X (v := 0) dX4_findBehind_69 (by decide) ?_
      refine x_istore_n X (lv2 := [(3, .int 0), (2, .int 0), (0, .ref (ad 0))]) dX4_findBehind_70 (by decide) rfl ?_
      refine x_lpick (lv2 := [(0, .ref (ad 0)), (2, .int 0), (3, .int 0)]) [2, 1, 0] rfl ?_
      obtain ⟨x1, w2, h3, hf⟩ := bn2_some hf
      refine lp_X4_findBehind_71 X E fu  fu (0 : Int32) (0 : Int32) w x1 w2 h3 ?_
      refine x_goto X (tgt := 63) dX4_findBehind_123 (by decide) ?_
      cases hf
      exact ih _ _ _ hit kk
set_option maxRecDepth 100000 in
set_option maxHeartbeats 4000000 in
theorem met_X4_findBehind (l : Launch) (hst : l.stackTraces = false) (D : va_G) (kA : Nat → ClassId) (ad : Nat → Nat) (fu : Nat) (w : WS) (a1 : Int32) (w1 : WS) (hf : f_X4_findBehind fu w a1 = some w1) (sz : Nat) : Met l yX4_findBehind (wsY yX4_findBehind cX4_findBehind 5 none) rm_X4_findBehind (va_Pc [.ref (ad 0), .int a1] (PreG D kA (picM kA ad w) sz)) (va_Qv (fun (_ : Unit) => True) (fun _ t => PosG D (va_A (picM kA ad w) sz) (picM kA ad w1) t) (va_A (picM kA ad w) sz)) 0 0 (va_A (picM kA ad w) sz) := by
  refine metG (own := RX4) hst (by decide +kernel) rfl (Nat.le_of_ble_eq_true rfl) rfl ?_
  intro p e s m below meth c X hr hlk E _
  unfold f_X4_findBehind at hf
  refine x_iconst X (v := 0) dX4_findBehind_0 (by decide) ?_
  refine x_istore_n X (lv2 := [(2, .int 0), (0, .ref (ad 0)), (1, .int a1)]) dX4_findBehind_1 (by decide) rfl ?_
  refine x_lpick (lv2 := [(0, .ref (ad 0)), (1, .int a1), (2, .int 0)]) [1, 2, 0] rfl ?_
  obtain ⟨w1, h2, hf⟩ := bn_some hf
  refine lp_X4_findBehind_2 X E fu a1 fu (0 : Int32) w w1 h2 ?_
  refine x_iconst X (v := 1) dX4_findBehind_61 (by decide) ?_
  refine x_istore_n X (lv2 := [(2, .int 1), (0, .ref (ad 0))]) dX4_findBehind_62 (by decide) rfl ?_
  refine x_lpick (lv2 := [(0, .ref (ad 0)), (2, .int 1)]) [1, 0] rfl ?_
  obtain ⟨w3, h4, hf⟩ := bn_some hf
  refine lp_X4_findBehind_63 X E fu  fu (1 : Int32) w1 w3 h4 ?_
  cases hf
  exact x_vret X hr hlk rfl dX4_findBehind_126
end
section
variable {p : Program} {l : Launch} {e : Env} {s : State} {m : MethodId} {args : Array Value} {below : List Frame} {meth : Method} {c : Code} {D : va_G} {kA : Nat → ClassId} {A : Nat → Prop} {Q : State → Prop} {ad : Nat → Nat}
abbrev rm_X4_firstRoad : Room := { frames := 0, cells := 0, slots := 0, locals := 0 }
set_option maxRecDepth 100000 in
set_option maxHeartbeats 4000000 in
theorem lp_X4_firstRoad_4 (X : CX p m c cX4_firstRoad 4 s args RX4) (E : EX l s D kA A) (fu : Nat) (w : WS) (y1 : Int32) : ∀ (n : Nat) (y2 : Int32) (y3 : Int32) (r2 : Int32), iter (fun q => bd_X4_firstRoad_4 fu w y1 q.1 q.2) n (y2, y3) = some (r2) → CS p l e rm_X4_firstRoad s m args below meth c D A 4 0 0 Q (picM kA ad w) 98 [(2, .int r2)] [] → CS p l e rm_X4_firstRoad s m args below meth c D A 4 0 0 Q (picM kA ad w) 4 [(0, .ref (ad 0)), (1, .int y1), (2, .int y2), (3, .int y3)] [] := by
  intro n
  induction n with
  | zero =>
    intro y2 y3 r2 hit kk
    exact (iter_0 hit).elim
  | succ n ih =>
    intro y2 y3 r2 hit kk
    obtain ⟨o, h1, hit⟩ := iter_one hit
    have hf : bd_X4_firstRoad_4 fu w y1 y2 y3 = some o := h1
    unfold bd_X4_firstRoad_4 at hf
    refine x_iload_n X dX4_firstRoad_4 3 rfl ?_
    refine x_aload_n X dX4_firstRoad_5 0 rfl ?_
    refine x_get X E.1.1 (T := TX4) (C := RX4) inW4 0 rfl rfl 2 (by decide) w_832 rfl (v := .int (w.1 0 2)) rfl dX4_firstRoad_6 ?_
    refine x_nmI hf (fun x1 hf => ?_)
    refine x_icmp_ge X (tgt := 98) dX4_firstRoad_9 (by decide) hf (fun hf => ?_) (fun hf => ?_)
    · cases hf
      cases hit
      refine x_lpick (lv2 := [(2, .int y2)]) [2] rfl ?_
      exact kk
    · refine x_aload_n X dX4_firstRoad_12 0 rfl ?_
      refine x_get X E.1.1 (T := TX4) (C := RX4) inW4 0 rfl rfl 3 (by decide) w_833 rfl (v := .ref (ad 1)) rfl dX4_firstRoad_13 ?_
      refine x_iload_n X dX4_firstRoad_16 3 rfl ?_
      refine x_iald X E.1.1 1 rfl dX4_firstRoad_17 hf (fun x2 hf => ?_)
      refine x_iload_n X dX4_firstRoad_18 1 rfl ?_
      refine x_icmp_ne X (tgt := 92) dX4_firstRoad_19 (by decide) hf (fun hf => ?_) (fun hf => ?_)
      · refine x_iinc X dX4_firstRoad_92 3 rfl (by decide) (y3 + 1) rfl hf (fun x3 => [(3, .int x3), (0, .ref (ad 0)), (1, .int y1), (2, .int y2)]) (fun _ => rfl) (fun x3 hf => ?_)
        refine x_goto X (tgt := 4) dX4_firstRoad_95 (by decide) ?_
        cases hf
        refine x_lpick (lv2 := [(0, .ref (ad 0)), (1, .int y1), (2, .int y2), (3, .int x3)]) [1, 2, 3, 0] rfl ?_
        exact ih _ _ _ hit kk
      · refine x_aload_n X dX4_firstRoad_22 0 rfl ?_
        refine x_get X E.1.1 (T := TX4) (C := RX4) inW4 0 rfl rfl 30 (by decide) w_860 rfl (v := .ref (ad 20)) rfl dX4_firstRoad_23 ?_
        refine x_iload_n X dX4_firstRoad_26 3 rfl ?_
        refine x_lald X E.1.1 20 rfl dX4_firstRoad_27 hf (fun x4 hf => ?_)
        refine x_ldc2 X (v := 1000000000000) w_975 dX4_firstRoad_28 ?_
        refine x_lcmp X dX4_firstRoad_31 ?_
        refine x_if_ne X (tgt := 38) dX4_firstRoad_32 (by decide) hf (fun hf => ?_) (fun hf => ?_)
        · refine x_iload_n X dX4_firstRoad_38 2 rfl ?_
          refine x_iconst X (v := (-1)) dX4_firstRoad_39 (by decide) ?_
          refine x_icmp_eq X (tgt := 90) dX4_firstRoad_40 (by decide) hf (fun hf => ?_) (fun hf => ?_)
          · refine x_iload_n X dX4_firstRoad_90 3 rfl ?_
            refine x_istore_n X (lv2 := [(2, .int y3), (0, .ref (ad 0)), (1, .int y1), (3, .int y3)]) dX4_firstRoad_91 (by decide) rfl ?_
            refine x_iinc X dX4_firstRoad_92 3 rfl (by decide) (y3 + 1) rfl hf (fun x5 => [(3, .int x5), (2, .int y3), (0, .ref (ad 0)), (1, .int y1)]) (fun _ => rfl) (fun x5 hf => ?_)
            refine x_goto X (tgt := 4) dX4_firstRoad_95 (by decide) ?_
            cases hf
            refine x_lpick (lv2 := [(0, .ref (ad 0)), (1, .int y1), (2, .int y3), (3, .int x5)]) [2, 3, 1, 0] rfl ?_
            exact ih _ _ _ hit kk
          · refine x_aload_n X dX4_firstRoad_43 0 rfl ?_
            refine x_get X E.1.1 (T := TX4) (C := RX4) inW4 0 rfl rfl 30 (by decide) w_860 rfl (v := .ref (ad 20)) rfl dX4_firstRoad_44 ?_
            refine x_iload_n X dX4_firstRoad_47 3 rfl ?_
            refine x_lald X E.1.1 20 rfl dX4_firstRoad_48 hf (fun x6 hf => ?_)
            refine x_aload_n X dX4_firstRoad_49 0 rfl ?_
            refine x_get X E.1.1 (T := TX4) (C := RX4) inW4 0 rfl rfl 30 (by decide) w_860 rfl (v := .ref (ad 20)) rfl dX4_firstRoad_50 ?_
            refine x_iload_n X dX4_firstRoad_53 2 rfl ?_
            refine x_lald X E.1.1 20 rfl dX4_firstRoad_54 hf (fun x7 hf => ?_)
            refine x_lcmp X dX4_firstRoad_55 ?_
            refine x_if_lt X (tgt := 90) dX4_firstRoad_56 (by decide) hf (fun hf => ?_) (fun hf => ?_)
            · refine x_iload_n X dX4_firstRoad_90 3 rfl ?_
              refine x_istore_n X (lv2 := [(2, .int y3), (0, .ref (ad 0)), (1, .int y1), (3, .int y3)]) dX4_firstRoad_91 (by decide) rfl ?_
              refine x_iinc X dX4_firstRoad_92 3 rfl (by decide) (y3 + 1) rfl hf (fun x8 => [(3, .int x8), (2, .int y3), (0, .ref (ad 0)), (1, .int y1)]) (fun _ => rfl) (fun x8 hf => ?_)
              refine x_goto X (tgt := 4) dX4_firstRoad_95 (by decide) ?_
              cases hf
              refine x_lpick (lv2 := [(0, .ref (ad 0)), (1, .int y1), (2, .int y3), (3, .int x8)]) [2, 3, 1, 0] rfl ?_
              exact ih _ _ _ hit kk
            · refine x_aload_n X dX4_firstRoad_59 0 rfl ?_
              refine x_get X E.1.1 (T := TX4) (C := RX4) inW4 0 rfl rfl 30 (by decide) w_860 rfl (v := .ref (ad 20)) rfl dX4_firstRoad_60 ?_
              refine x_iload_n X dX4_firstRoad_63 3 rfl ?_
              refine x_lald X E.1.1 20 rfl dX4_firstRoad_64 hf (fun x9 hf => ?_)
              refine x_aload_n X dX4_firstRoad_65 0 rfl ?_
              refine x_get X E.1.1 (T := TX4) (C := RX4) inW4 0 rfl rfl 30 (by decide) w_860 rfl (v := .ref (ad 20)) rfl dX4_firstRoad_66 ?_
              refine x_iload_n X dX4_firstRoad_69 2 rfl ?_
              refine x_lald X E.1.1 20 rfl dX4_firstRoad_70 hf (fun x10 hf => ?_)
              refine x_lcmp X dX4_firstRoad_71 ?_
              refine x_if_ne X (tgt := 92) dX4_firstRoad_72 (by decide) hf (fun hf => ?_) (fun hf => ?_)
              · refine x_iinc X dX4_firstRoad_92 3 rfl (by decide) (y3 + 1) rfl hf (fun x11 => [(3, .int x11), (0, .ref (ad 0)), (1, .int y1), (2, .int y2)]) (fun _ => rfl) (fun x11 hf => ?_)
                refine x_goto X (tgt := 4) dX4_firstRoad_95 (by decide) ?_
                cases hf
                refine x_lpick (lv2 := [(0, .ref (ad 0)), (1, .int y1), (2, .int y2), (3, .int x11)]) [1, 2, 3, 0] rfl ?_
                exact ih _ _ _ hit kk
              · refine x_aload_n X dX4_firstRoad_75 0 rfl ?_
                refine x_get X E.1.1 (T := TX4) (C := RX4) inW4 0 rfl rfl 31 (by decide) w_861 rfl (v := .ref (ad 21)) rfl dX4_firstRoad_76 ?_
                refine x_iload_n X dX4_firstRoad_79 3 rfl ?_
                refine x_iald X E.1.1 21 rfl dX4_firstRoad_80 hf (fun x12 hf => ?_)
                refine x_aload_n X dX4_firstRoad_81 0 rfl ?_
                refine x_get X E.1.1 (T := TX4) (C := RX4) inW4 0 rfl rfl 31 (by decide) w_861 rfl (v := .ref (ad 21)) rfl dX4_firstRoad_82 ?_
                refine x_iload_n X dX4_firstRoad_85 2 rfl ?_
                refine x_iald X E.1.1 21 rfl dX4_firstRoad_86 hf (fun x13 hf => ?_)
                refine x_icmp_ge X (tgt := 92) dX4_firstRoad_87 (by decide) hf (fun hf => ?_) (fun hf => ?_)
                · refine x_iinc X dX4_firstRoad_92 3 rfl (by decide) (y3 + 1) rfl hf (fun x14 => [(3, .int x14), (0, .ref (ad 0)), (1, .int y1), (2, .int y2)]) (fun _ => rfl) (fun x14 hf => ?_)
                  refine x_goto X (tgt := 4) dX4_firstRoad_95 (by decide) ?_
                  cases hf
                  refine x_lpick (lv2 := [(0, .ref (ad 0)), (1, .int y1), (2, .int y2), (3, .int x14)]) [1, 2, 3, 0] rfl ?_
                  exact ih _ _ _ hit kk
                · refine x_iload_n X dX4_firstRoad_90 3 rfl ?_
                  refine x_istore_n X (lv2 := [(2, .int y3), (0, .ref (ad 0)), (1, .int y1), (3, .int y3)]) dX4_firstRoad_91 (by decide) rfl ?_
                  refine x_iinc X dX4_firstRoad_92 3 rfl (by decide) (y3 + 1) rfl hf (fun x15 => [(3, .int x15), (2, .int y3), (0, .ref (ad 0)), (1, .int y1)]) (fun _ => rfl) (fun x15 hf => ?_)
                  refine x_goto X (tgt := 4) dX4_firstRoad_95 (by decide) ?_
                  cases hf
                  refine x_lpick (lv2 := [(0, .ref (ad 0)), (1, .int y1), (2, .int y3), (3, .int x15)]) [2, 3, 1, 0] rfl ?_
                  exact ih _ _ _ hit kk
        · refine x_goto X (tgt := 92) dX4_firstRoad_35 (by decide) ?_
          refine x_iinc X dX4_firstRoad_92 3 rfl (by decide) (y3 + 1) rfl hf (fun x16 => [(3, .int x16), (0, .ref (ad 0)), (1, .int y1), (2, .int y2)]) (fun _ => rfl) (fun x16 hf => ?_)
          refine x_goto X (tgt := 4) dX4_firstRoad_95 (by decide) ?_
          cases hf
          refine x_lpick (lv2 := [(0, .ref (ad 0)), (1, .int y1), (2, .int y2), (3, .int x16)]) [1, 2, 3, 0] rfl ?_
          exact ih _ _ _ hit kk
set_option maxRecDepth 100000 in
set_option maxHeartbeats 4000000 in
theorem met_X4_firstRoad (l : Launch) (hst : l.stackTraces = false) (D : va_G) (kA : Nat → ClassId) (ad : Nat → Nat) (fu : Nat) (w : WS) (a1 : Int32) (v : Int32) (hf : f_X4_firstRoad fu w a1 = some v) (sz : Nat) : Met l yX4_firstRoad (wsY yX4_firstRoad cX4_firstRoad 4 (some .int)) rm_X4_firstRoad (va_Pc [.ref (ad 0), .int a1] (PreG D kA (picM kA ad w) sz)) (va_Qi (fun (r : Int32) (_ : Unit) => r = v) (fun _ t => PosG D (va_A (picM kA ad w) sz) (picM kA ad w) t) (va_A (picM kA ad w) sz)) 0 0 (va_A (picM kA ad w) sz) := by
  refine metG (own := RX4) hst (by decide +kernel) rfl (Nat.le_of_ble_eq_true rfl) rfl ?_
  intro p e s m below meth c X hr hlk E _
  unfold f_X4_firstRoad at hf
  refine x_iconst X (v := (-1)) dX4_firstRoad_0 (by decide) ?_
  refine x_istore_n X (lv2 := [(2, .int (-1)), (0, .ref (ad 0)), (1, .int a1)]) dX4_firstRoad_1 (by decide) rfl ?_
  refine x_iconst X (v := 0) dX4_firstRoad_2 (by decide) ?_
  refine x_istore_n X (lv2 := [(3, .int 0), (2, .int (-1)), (0, .ref (ad 0)), (1, .int a1)]) dX4_firstRoad_3 (by decide) rfl ?_
  refine x_lpick (lv2 := [(0, .ref (ad 0)), (1, .int a1), (2, .int (-1)), (3, .int 0)]) [2, 3, 1, 0] rfl ?_
  obtain ⟨x1, h2, hf⟩ := bn_some hf
  refine lp_X4_firstRoad_4 X E fu w a1 fu ((-1) : Int32) (0 : Int32) x1 h2 ?_
  refine x_iload_n X dX4_firstRoad_98 0 rfl ?_
  exact x_iret X hr hlk rfl (Option.some.inj hf) dX4_firstRoad_99
end
section
variable {p : Program} {l : Launch} {e : Env} {s : State} {m : MethodId} {args : Array Value} {below : List Frame} {meth : Method} {c : Code} {D : va_G} {kA : Nat → ClassId} {A : Nat → Prop} {Q : State → Prop} {ad : Nat → Nat}
abbrev rm_X4_distanceBetween : Room := { frames := 4, cells := 0, slots := 0, locals := 93 }
set_option maxRecDepth 100000 in
set_option maxHeartbeats 4000000 in
theorem met_X4_distanceBetween (l : Launch) (hst : l.stackTraces = false) (D : va_G) (kA : Nat → ClassId) (ad : Nat → Nat) (fu : Nat) (w : WS) (a1 : Int32) (a2 : Int32) (v : Int32) (w1 : WS) (hf : f_X4_distanceBetween fu w a1 a2 = some (v, w1)) (sz : Nat) : Met l yX4_distanceBetween (wsY yX4_distanceBetween cX4_distanceBetween 4 (some .int)) rm_X4_distanceBetween (va_Pc [.ref (ad 0), .int a1, .int a2] (PreG D kA (picM kA ad w) sz)) (va_Qi (fun (r : Int32) (_ : Unit) => r = v) (fun _ t => PosG D (va_A (picM kA ad w) sz) (picM kA ad w1) t) (va_A (picM kA ad w) sz)) 0 0 (va_A (picM kA ad w) sz) := by
  refine metG (own := RX4) hst (by decide +kernel) rfl (Nat.le_of_ble_eq_true rfl) rfl ?_
  intro p e s m below meth c X hr hlk E _
  unfold f_X4_distanceBetween at hf
  refine x_iload_n X dX4_distanceBetween_0 1 rfl ?_
  refine x_iload_n X dX4_distanceBetween_1 2 rfl ?_
  refine x_icmp_ne X (tgt := 7) dX4_distanceBetween_2 (by decide) hf (fun hf => ?_) (fun hf => ?_)
  · refine x_aload_n X dX4_distanceBetween_7 0 rfl ?_
    refine x_iload_n X dX4_distanceBetween_8 2 rfl ?_
    obtain ⟨w1, hw1, hf⟩ := bn_some hf
    refine x_callV_v X E (As := [.int a2]) (rest := []) (n := 1) (ws2 := (picM kA ad w1)) (goodV w_1059 w_1061 s_42 w_52 w_1062) (met_X4_findBehind l E.2.2.2 D kA ad fu w a2 w1 hw1) rfl rfl (by decide +kernel) ⟨by decide, by decide⟩ 0 rfl (qc := (RX4, TX4, _)) rfl rfl rfl rfl (Nat.le_of_ble_eq_true rfl) dX4_distanceBetween_9 ⟨by decide, by decide⟩ ?_
    refine x_aload_n X dX4_distanceBetween_12 0 rfl ?_
    refine x_iload_n X dX4_distanceBetween_13 1 rfl ?_
    obtain ⟨x2, hx2, hf⟩ := bn_some hf
    refine x_callV_i X E (As := [.int a1]) (rest := []) (n := 1) (ws2 := (picM kA ad w1)) (goodV w_1067 w_1069 s_44 w_52 w_1070) (met_X4_firstRoad l E.2.2.2 D kA ad fu w1 a1 x2 hx2) rfl rfl (by decide +kernel) ⟨by decide, by decide⟩ 0 rfl (qc := (RX4, TX4, _)) rfl rfl rfl rfl (Nat.le_of_ble_eq_true rfl) dX4_distanceBetween_14 ⟨by decide, by decide⟩ ?_
    refine x_istore_n X (lv2 := [(3, .int x2), (0, .ref (ad 0)), (1, .int a1), (2, .int a2)]) dX4_distanceBetween_17 (by decide) rfl ?_
    refine x_iload_n X dX4_distanceBetween_18 0 rfl ?_
    refine x_iconst X (v := (-1)) dX4_distanceBetween_19 (by decide) ?_
    refine x_icmp_ne X (tgt := 27) dX4_distanceBetween_20 (by decide) hf (fun hf => ?_) (fun hf => ?_)
    · refine x_aload_n X dX4_distanceBetween_27 1 rfl ?_
      refine x_get X E.1.1 (T := TX4) (C := RX4) inW4 0 rfl rfl 30 (by decide) w_860 rfl (v := .ref (ad 20)) rfl dX4_distanceBetween_28 ?_
      refine x_iload_n X dX4_distanceBetween_31 0 rfl ?_
      refine x_lald X E.1.1 20 rfl dX4_distanceBetween_32 hf (fun x3 hf => ?_)
      refine x_l2i X dX4_distanceBetween_33 ?_
      cases hf
      exact x_iret X hr hlk rfl rfl dX4_distanceBetween_34
    · refine x_iconst X (v := (-1)) dX4_distanceBetween_23 (by decide) ?_
      refine x_goto X (tgt := 34) dX4_distanceBetween_24 (by decide) ?_
      cases hf
      exact x_iret X hr hlk rfl rfl dX4_distanceBetween_34
  · refine x_iconst X (v := 0) dX4_distanceBetween_5 (by decide) ?_
    cases hf
    exact x_iret X hr hlk rfl rfl dX4_distanceBetween_6
end
section
variable {p : Program} {l : Launch} {e : Env} {s : State} {m : MethodId} {args : Array Value} {below : List Frame} {meth : Method} {c : Code} {D : va_G} {kA : Nat → ClassId} {A : Nat → Prop} {Q : State → Prop} {ad : Nat → Nat}
abbrev rm_X4_lookedAt : Room := { frames := 1, cells := 0, slots := 0, locals := 21 }
set_option maxRecDepth 100000 in
set_option maxHeartbeats 4000000 in
theorem met_X4_lookedAt (l : Launch) (hst : l.stackTraces = false) (D : va_G) (kA : Nat → ClassId) (ad : Nat → Nat) (fu : Nat) (w : WS) (a1 : Int32) (a2 : Int32) (v : Int32) (hf : f_X4_lookedAt fu w a1 a2 = some v) (sz : Nat) : Met l yX4_lookedAt (wsY yX4_lookedAt cX4_lookedAt 3 (some .int)) rm_X4_lookedAt (va_Pc [.ref (ad 0), .int a1, .int a2] (PreG D kA (picM kA ad w) sz)) (va_Qi (fun (r : Int32) (_ : Unit) => r = v) (fun _ t => PosG D (va_A (picM kA ad w) sz) (picM kA ad w) t) (va_A (picM kA ad w) sz)) 0 0 (va_A (picM kA ad w) sz) := by
  refine metG (own := RX4) hst (by decide +kernel) rfl (Nat.le_of_ble_eq_true rfl) rfl ?_
  intro p e s m below meth c X hr hlk E _
  unfold f_X4_lookedAt at hf
  refine x_aload_n X dX4_lookedAt_0 0 rfl ?_
  refine x_get X E.1.1 (T := TX4) (C := RX4) inW4 0 rfl rfl 9 (by decide) w_839 rfl (v := .int (w.1 0 9)) rfl dX4_lookedAt_1 ?_
  refine x_nmI hf (fun x1 hf => ?_)
  refine x_if_ne X (tgt := 11) dX4_lookedAt_4 (by decide) hf (fun hf => ?_) (fun hf => ?_)
  · refine x_aload_n X dX4_lookedAt_11 0 rfl ?_
    refine x_iload_n X dX4_lookedAt_12 1 rfl ?_
    obtain ⟨x2, hx2, hf⟩ := bn_some hf
    refine x_callV_i X E (As := [.int a1]) (rest := []) (n := 1) (ws2 := (picM kA ad w)) (goodV w_943 w_945 s_30 w_52 w_946) (met_X4_isJunction l E.2.2.2 D kA ad fu w a1 x2 hx2) rfl rfl (by decide +kernel) ⟨by decide, by decide⟩ 0 rfl (qc := (RX4, TX4, _)) rfl rfl rfl rfl (Nat.le_of_ble_eq_true rfl) dX4_lookedAt_13 ⟨by decide, by decide⟩ ?_
    refine x_if_eq X (tgt := 27) dX4_lookedAt_16 (by decide) hf (fun hf => ?_) (fun hf => ?_)
    · refine x_iconst X (v := 2) dX4_lookedAt_27 (by decide) ?_
      refine x_goto X (tgt := 32) dX4_lookedAt_28 (by decide) ?_
      exact x_iret X hr hlk rfl (Option.some.inj hf) dX4_lookedAt_32
    · refine x_aload_n X dX4_lookedAt_19 0 rfl ?_
      refine x_iload_n X dX4_lookedAt_20 2 rfl ?_
      obtain ⟨x3, hx3, hf⟩ := bn_some hf
      refine x_callV_i X E (As := [.int a2]) (rest := []) (n := 1) (ws2 := (picM kA ad w)) (goodV w_943 w_945 s_30 w_52 w_946) (met_X4_isJunction l E.2.2.2 D kA ad fu w a2 x3 hx3) rfl rfl (by decide +kernel) ⟨by decide, by decide⟩ 0 rfl (qc := (RX4, TX4, _)) rfl rfl rfl rfl (Nat.le_of_ble_eq_true rfl) dX4_lookedAt_21 ⟨by decide, by decide⟩ ?_
      refine x_if_ne X (tgt := 31) dX4_lookedAt_24 (by decide) hf (fun hf => ?_) (fun hf => ?_)
      · refine x_iconst X (v := 0) dX4_lookedAt_31 (by decide) ?_
        exact x_iret X hr hlk rfl (Option.some.inj hf) dX4_lookedAt_32
      · refine x_iconst X (v := 2) dX4_lookedAt_27 (by decide) ?_
        refine x_goto X (tgt := 32) dX4_lookedAt_28 (by decide) ?_
        exact x_iret X hr hlk rfl (Option.some.inj hf) dX4_lookedAt_32
  · refine x_iconst X (v := 1) dX4_lookedAt_7 (by decide) ?_
    refine x_goto X (tgt := 32) dX4_lookedAt_8 (by decide) ?_
    exact x_iret X hr hlk rfl (Option.some.inj hf) dX4_lookedAt_32
end
section
variable {p : Program} {l : Launch} {e : Env} {s : State} {m : MethodId} {args : Array Value} {below : List Frame} {meth : Method} {c : Code} {D : va_G} {kA : Nat → ClassId} {A : Nat → Prop} {Q : State → Prop} {ad : Nat → Nat}
abbrev rm_X4_distance : Room := { frames := 5, cells := 0, slots := 0, locals := 116 }
set_option maxRecDepth 100000 in
set_option maxHeartbeats 4000000 in
theorem met_X4_distance (l : Launch) (hst : l.stackTraces = false) (D : va_G) (kA : Nat → ClassId) (ad : Nat → Nat) (fu : Nat) (w : WS) (a1 : Int32) (a2 : Int32) (v : Int32) (w1 : WS) (hf : f_X4_distance fu w a1 a2 = some (v, w1)) (sz : Nat) : Met l yX4_distance (wsY yX4_distance cX4_distance 3 (some .int)) rm_X4_distance (va_Pc [.ref (ad 0), .int a1, .int a2] (PreG D kA (picM kA ad w) sz)) (va_Qi (fun (r : Int32) (_ : Unit) => r = v) (fun _ t => PosG D (va_A (picM kA ad w) sz) (picM kA ad w1) t) (va_A (picM kA ad w) sz)) 0 0 (va_A (picM kA ad w) sz) := by
  refine metG (own := RX4) hst (by decide +kernel) rfl (Nat.le_of_ble_eq_true rfl) rfl ?_
  intro p e s m below meth c X hr hlk E _
  unfold f_X4_distance at hf
  refine x_aload_n X dX4_distance_0 0 rfl ?_
  refine x_aload_n X dX4_distance_1 0 rfl ?_
  refine x_iload_n X dX4_distance_2 1 rfl ?_
  refine x_iload_n X dX4_distance_3 2 rfl ?_
  obtain ⟨x1, hx1, hf⟩ := bn_some hf
  refine x_callV_i X E (As := [.int a1, .int a2]) (rest := [.ref (ad 0)]) (n := 2) (ws2 := (picM kA ad w)) (goodV w_1051 w_1053 s_40 w_52 w_1054) (met_X4_lookedAt l E.2.2.2 D kA ad fu w a1 a2 x1 hx1) rfl rfl (by decide +kernel) ⟨by decide, by decide⟩ 0 rfl (qc := (RX4, TX4, _)) rfl rfl rfl rfl (Nat.le_of_ble_eq_true rfl) dX4_distance_4 ⟨by decide, by decide⟩ ?_
  refine x_put X E.1.1 (T := TX4) (C := RX4) (ty := .int) inW4 tyX4 tyX4_ok nmX4 0 rfl rfl 0 (by decide) w_830 rfl rfl (by decide +kernel) rfl rfl (Nat.le_of_ble_eq_true rfl) dX4_distance_7 (picM kA ad (wI w 0 0 x1)) rfl ?_
  refine x_nmW (pic := picM kA ad) (u := (wI w 0 0 x1)) hf (fun w2 hf => ?_)
  refine x_aload_n X dX4_distance_10 0 rfl ?_
  refine x_get X E.1.1 (T := TX4) (C := RX4) inW4 0 rfl rfl 0 (by decide) w_830 rfl (v := .int (w2.1 0 0)) rfl dX4_distance_11 ?_
  refine x_nmI hf (fun x3 hf => ?_)
  refine x_if_ne X (tgt := 26) dX4_distance_14 (by decide) hf (fun hf => ?_) (fun hf => ?_)
  · refine x_iconst X (v := 0) dX4_distance_26 (by decide) ?_
    cases hf
    exact x_iret X hr hlk rfl rfl dX4_distance_27
  · refine x_aload_n X dX4_distance_17 0 rfl ?_
    refine x_iload_n X dX4_distance_18 1 rfl ?_
    refine x_iload_n X dX4_distance_19 2 rfl ?_
    obtain ⟨x5, w4, hx5, hf⟩ := bn2_some hf
    refine x_callV_i X E (As := [.int a1, .int a2]) (rest := []) (n := 2) (ws2 := (picM kA ad w4)) (goodV w_1055 w_1057 s_41 w_52 w_1058) (met_X4_distanceBetween l E.2.2.2 D kA ad fu w2 a1 a2 x5 w4 hx5) rfl rfl (by decide +kernel) ⟨by decide, by decide⟩ 0 rfl (qc := (RX4, TX4, _)) rfl rfl rfl rfl (Nat.le_of_ble_eq_true rfl) dX4_distance_20 ⟨by decide, by decide⟩ ?_
    refine x_goto X (tgt := 27) dX4_distance_23 (by decide) ?_
    cases hf
    exact x_iret X hr hlk rfl rfl dX4_distance_27
end
section
variable {p : Program} {l : Launch} {e : Env} {s : State} {m : MethodId} {args : Array Value} {below : List Frame} {meth : Method} {c : Code} {D : va_G} {kA : Nat → ClassId} {A : Nat → Prop} {Q : State → Prop} {ad : Nat → Nat}
abbrev rm_X4_distanceBehind : Room := { frames := 4, cells := 0, slots := 0, locals := 93 }
set_option maxRecDepth 100000 in
set_option maxHeartbeats 4000000 in
theorem met_X4_distanceBehind (l : Launch) (hst : l.stackTraces = false) (D : va_G) (kA : Nat → ClassId) (ad : Nat → Nat) (fu : Nat) (w : WS) (a1 : Int32) (a2 : Int32) (v : Int32) (w1 : WS) (hf : f_X4_distanceBehind fu w a1 a2 = some (v, w1)) (sz : Nat) : Met l yX4_distanceBehind (wsY yX4_distanceBehind cX4_distanceBehind 3 (some .int)) rm_X4_distanceBehind (va_Pc [.ref (ad 0), .int a1, .int a2] (PreG D kA (picM kA ad w) sz)) (va_Qi (fun (r : Int32) (_ : Unit) => r = v) (fun _ t => PosG D (va_A (picM kA ad w) sz) (picM kA ad w1) t) (va_A (picM kA ad w) sz)) 0 0 (va_A (picM kA ad w) sz) := by
  refine metG (own := RX4) hst (by decide +kernel) rfl (Nat.le_of_ble_eq_true rfl) rfl ?_
  intro p e s m below meth c X hr hlk E _
  unfold f_X4_distanceBehind at hf
  refine x_aload_n X dX4_distanceBehind_0 0 rfl ?_
  refine x_aload_n X dX4_distanceBehind_1 0 rfl ?_
  refine x_get X E.1.1 (T := TX4) (C := RX4) inW4 0 rfl rfl 9 (by decide) w_839 rfl (v := .int (w.1 0 9)) rfl dX4_distanceBehind_2 ?_
  refine x_nmI hf (fun x1 hf => ?_)
  refine x_if_ne X (tgt := 12) dX4_distanceBehind_5 (by decide) hf (fun hf => ?_) (fun hf => ?_)
  · refine x_aload_n X dX4_distanceBehind_12 0 rfl ?_
    refine x_iload_n X dX4_distanceBehind_13 1 rfl ?_
    obtain ⟨x2, hx2, hf⟩ := bn_some hf
    refine x_callV_i X E (As := [.int a1]) (rest := [.ref (ad 0)]) (n := 1) (ws2 := (picM kA ad w)) (goodV w_951 w_953 s_31 w_52 w_954) (met_X4_isRoad l E.2.2.2 D kA ad fu w a1 x2 hx2) rfl rfl (by decide +kernel) ⟨by decide, by decide⟩ 0 rfl (qc := (RX4, TX4, _)) rfl rfl rfl rfl (Nat.le_of_ble_eq_true rfl) dX4_distanceBehind_14 ⟨by decide, by decide⟩ ?_
    refine x_if_eq X (tgt := 28) dX4_distanceBehind_17 (by decide) hf (fun hf => ?_) (fun hf => ?_)
    · refine x_iconst X (v := 2) dX4_distanceBehind_28 (by decide) ?_
      refine x_goto X (tgt := 33) dX4_distanceBehind_29 (by decide) ?_
      refine x_put X E.1.1 (T := TX4) (C := RX4) (ty := .int) inW4 tyX4 tyX4_ok nmX4 0 rfl rfl 0 (by decide) w_830 rfl rfl (by decide +kernel) rfl rfl (Nat.le_of_ble_eq_true rfl) dX4_distanceBehind_33 (picM kA ad (wI w 0 0 2)) rfl ?_
      refine x_nmW (pic := picM kA ad) (u := (wI w 0 0 2)) hf (fun w3 hf => ?_)
      refine x_aload_n X dX4_distanceBehind_36 0 rfl ?_
      refine x_get X E.1.1 (T := TX4) (C := RX4) inW4 0 rfl rfl 0 (by decide) w_830 rfl (v := .int (w3.1 0 0)) rfl dX4_distanceBehind_37 ?_
      refine x_nmI hf (fun x4 hf => ?_)
      refine x_if_eq X (tgt := 45) dX4_distanceBehind_40 (by decide) hf (fun hf => ?_) (fun hf => ?_)
      · refine x_aload_n X dX4_distanceBehind_45 0 rfl ?_
        refine x_iload_n X dX4_distanceBehind_46 2 rfl ?_
        obtain ⟨w5, hw5, hf⟩ := bn_some hf
        refine x_callV_v X E (As := [.int a2]) (rest := []) (n := 1) (ws2 := (picM kA ad w5)) (goodV w_1059 w_1061 s_42 w_52 w_1062) (met_X4_findBehind l E.2.2.2 D kA ad fu w3 a2 w5 hw5) rfl rfl (by decide +kernel) ⟨by decide, by decide⟩ 0 rfl (qc := (RX4, TX4, _)) rfl rfl rfl rfl (Nat.le_of_ble_eq_true rfl) dX4_distanceBehind_47 ⟨by decide, by decide⟩ ?_
        refine x_aload_n X dX4_distanceBehind_50 0 rfl ?_
        refine x_get X E.1.1 (T := TX4) (C := RX4) inW4 0 rfl rfl 30 (by decide) w_860 rfl (v := .ref (ad 20)) rfl dX4_distanceBehind_51 ?_
        refine x_iload_n X dX4_distanceBehind_54 1 rfl ?_
        refine x_lald X E.1.1 20 rfl dX4_distanceBehind_55 hf (fun x6 hf => ?_)
        refine x_ldc2 X (v := 1000000000000) w_975 dX4_distanceBehind_56 ?_
        refine x_lcmp X dX4_distanceBehind_59 ?_
        refine x_if_ne X (tgt := 67) dX4_distanceBehind_60 (by decide) hf (fun hf => ?_) (fun hf => ?_)
        · refine x_aload_n X dX4_distanceBehind_67 0 rfl ?_
          refine x_get X E.1.1 (T := TX4) (C := RX4) inW4 0 rfl rfl 30 (by decide) w_860 rfl (v := .ref (ad 20)) rfl dX4_distanceBehind_68 ?_
          refine x_iload_n X dX4_distanceBehind_71 1 rfl ?_
          refine x_lald X E.1.1 20 rfl dX4_distanceBehind_72 hf (fun x7 hf => ?_)
          refine x_l2i X dX4_distanceBehind_73 ?_
          refine x_aload_n X dX4_distanceBehind_74 0 rfl ?_
          refine x_get X E.1.1 (T := TX4) (C := RX4) inW4 0 rfl rfl 5 (by decide) w_835 rfl (v := .ref (ad 3)) rfl dX4_distanceBehind_75 ?_
          refine x_iload_n X dX4_distanceBehind_78 1 rfl ?_
          refine x_iald X E.1.1 3 rfl dX4_distanceBehind_79 hf (fun x8 hf => ?_)
          refine x_isub X dX4_distanceBehind_80 ?_
          cases hf
          exact x_iret X hr hlk rfl rfl dX4_distanceBehind_81
        · refine x_iconst X (v := (-1)) dX4_distanceBehind_63 (by decide) ?_
          refine x_goto X (tgt := 81) dX4_distanceBehind_64 (by decide) ?_
          cases hf
          exact x_iret X hr hlk rfl rfl dX4_distanceBehind_81
      · refine x_iconst X (v := 0) dX4_distanceBehind_43 (by decide) ?_
        cases hf
        exact x_iret X hr hlk rfl rfl dX4_distanceBehind_44
    · refine x_aload_n X dX4_distanceBehind_20 0 rfl ?_
      refine x_iload_n X dX4_distanceBehind_21 2 rfl ?_
      obtain ⟨x9, hx9, hf⟩ := bn_some hf
      refine x_callV_i X E (As := [.int a2]) (rest := [.ref (ad 0)]) (n := 1) (ws2 := (picM kA ad w)) (goodV w_943 w_945 s_30 w_52 w_946) (met_X4_isJunction l E.2.2.2 D kA ad fu w a2 x9 hx9) rfl rfl (by decide +kernel) ⟨by decide, by decide⟩ 0 rfl (qc := (RX4, TX4, _)) rfl rfl rfl rfl (Nat.le_of_ble_eq_true rfl) dX4_distanceBehind_22 ⟨by decide, by decide⟩ ?_
      refine x_if_ne X (tgt := 32) dX4_distanceBehind_25 (by decide) hf (fun hf => ?_) (fun hf => ?_)
      · refine x_iconst X (v := 0) dX4_distanceBehind_32 (by decide) ?_
        refine x_put X E.1.1 (T := TX4) (C := RX4) (ty := .int) inW4 tyX4 tyX4_ok nmX4 0 rfl rfl 0 (by decide) w_830 rfl rfl (by decide +kernel) rfl rfl (Nat.le_of_ble_eq_true rfl) dX4_distanceBehind_33 (picM kA ad (wI w 0 0 0)) rfl ?_
        refine x_nmW (pic := picM kA ad) (u := (wI w 0 0 0)) hf (fun w10 hf => ?_)
        refine x_aload_n X dX4_distanceBehind_36 0 rfl ?_
        refine x_get X E.1.1 (T := TX4) (C := RX4) inW4 0 rfl rfl 0 (by decide) w_830 rfl (v := .int (w10.1 0 0)) rfl dX4_distanceBehind_37 ?_
        refine x_nmI hf (fun x11 hf => ?_)
        refine x_if_eq X (tgt := 45) dX4_distanceBehind_40 (by decide) hf (fun hf => ?_) (fun hf => ?_)
        · refine x_aload_n X dX4_distanceBehind_45 0 rfl ?_
          refine x_iload_n X dX4_distanceBehind_46 2 rfl ?_
          obtain ⟨w12, hw12, hf⟩ := bn_some hf
          refine x_callV_v X E (As := [.int a2]) (rest := []) (n := 1) (ws2 := (picM kA ad w12)) (goodV w_1059 w_1061 s_42 w_52 w_1062) (met_X4_findBehind l E.2.2.2 D kA ad fu w10 a2 w12 hw12) rfl rfl (by decide +kernel) ⟨by decide, by decide⟩ 0 rfl (qc := (RX4, TX4, _)) rfl rfl rfl rfl (Nat.le_of_ble_eq_true rfl) dX4_distanceBehind_47 ⟨by decide, by decide⟩ ?_
          refine x_aload_n X dX4_distanceBehind_50 0 rfl ?_
          refine x_get X E.1.1 (T := TX4) (C := RX4) inW4 0 rfl rfl 30 (by decide) w_860 rfl (v := .ref (ad 20)) rfl dX4_distanceBehind_51 ?_
          refine x_iload_n X dX4_distanceBehind_54 1 rfl ?_
          refine x_lald X E.1.1 20 rfl dX4_distanceBehind_55 hf (fun x13 hf => ?_)
          refine x_ldc2 X (v := 1000000000000) w_975 dX4_distanceBehind_56 ?_
          refine x_lcmp X dX4_distanceBehind_59 ?_
          refine x_if_ne X (tgt := 67) dX4_distanceBehind_60 (by decide) hf (fun hf => ?_) (fun hf => ?_)
          · refine x_aload_n X dX4_distanceBehind_67 0 rfl ?_
            refine x_get X E.1.1 (T := TX4) (C := RX4) inW4 0 rfl rfl 30 (by decide) w_860 rfl (v := .ref (ad 20)) rfl dX4_distanceBehind_68 ?_
            refine x_iload_n X dX4_distanceBehind_71 1 rfl ?_
            refine x_lald X E.1.1 20 rfl dX4_distanceBehind_72 hf (fun x14 hf => ?_)
            refine x_l2i X dX4_distanceBehind_73 ?_
            refine x_aload_n X dX4_distanceBehind_74 0 rfl ?_
            refine x_get X E.1.1 (T := TX4) (C := RX4) inW4 0 rfl rfl 5 (by decide) w_835 rfl (v := .ref (ad 3)) rfl dX4_distanceBehind_75 ?_
            refine x_iload_n X dX4_distanceBehind_78 1 rfl ?_
            refine x_iald X E.1.1 3 rfl dX4_distanceBehind_79 hf (fun x15 hf => ?_)
            refine x_isub X dX4_distanceBehind_80 ?_
            cases hf
            exact x_iret X hr hlk rfl rfl dX4_distanceBehind_81
          · refine x_iconst X (v := (-1)) dX4_distanceBehind_63 (by decide) ?_
            refine x_goto X (tgt := 81) dX4_distanceBehind_64 (by decide) ?_
            cases hf
            exact x_iret X hr hlk rfl rfl dX4_distanceBehind_81
        · refine x_iconst X (v := 0) dX4_distanceBehind_43 (by decide) ?_
          cases hf
          exact x_iret X hr hlk rfl rfl dX4_distanceBehind_44
      · refine x_iconst X (v := 2) dX4_distanceBehind_28 (by decide) ?_
        refine x_goto X (tgt := 33) dX4_distanceBehind_29 (by decide) ?_
        refine x_put X E.1.1 (T := TX4) (C := RX4) (ty := .int) inW4 tyX4 tyX4_ok nmX4 0 rfl rfl 0 (by decide) w_830 rfl rfl (by decide +kernel) rfl rfl (Nat.le_of_ble_eq_true rfl) dX4_distanceBehind_33 (picM kA ad (wI w 0 0 2)) rfl ?_
        refine x_nmW (pic := picM kA ad) (u := (wI w 0 0 2)) hf (fun w16 hf => ?_)
        refine x_aload_n X dX4_distanceBehind_36 0 rfl ?_
        refine x_get X E.1.1 (T := TX4) (C := RX4) inW4 0 rfl rfl 0 (by decide) w_830 rfl (v := .int (w16.1 0 0)) rfl dX4_distanceBehind_37 ?_
        refine x_nmI hf (fun x17 hf => ?_)
        refine x_if_eq X (tgt := 45) dX4_distanceBehind_40 (by decide) hf (fun hf => ?_) (fun hf => ?_)
        · refine x_aload_n X dX4_distanceBehind_45 0 rfl ?_
          refine x_iload_n X dX4_distanceBehind_46 2 rfl ?_
          obtain ⟨w18, hw18, hf⟩ := bn_some hf
          refine x_callV_v X E (As := [.int a2]) (rest := []) (n := 1) (ws2 := (picM kA ad w18)) (goodV w_1059 w_1061 s_42 w_52 w_1062) (met_X4_findBehind l E.2.2.2 D kA ad fu w16 a2 w18 hw18) rfl rfl (by decide +kernel) ⟨by decide, by decide⟩ 0 rfl (qc := (RX4, TX4, _)) rfl rfl rfl rfl (Nat.le_of_ble_eq_true rfl) dX4_distanceBehind_47 ⟨by decide, by decide⟩ ?_
          refine x_aload_n X dX4_distanceBehind_50 0 rfl ?_
          refine x_get X E.1.1 (T := TX4) (C := RX4) inW4 0 rfl rfl 30 (by decide) w_860 rfl (v := .ref (ad 20)) rfl dX4_distanceBehind_51 ?_
          refine x_iload_n X dX4_distanceBehind_54 1 rfl ?_
          refine x_lald X E.1.1 20 rfl dX4_distanceBehind_55 hf (fun x19 hf => ?_)
          refine x_ldc2 X (v := 1000000000000) w_975 dX4_distanceBehind_56 ?_
          refine x_lcmp X dX4_distanceBehind_59 ?_
          refine x_if_ne X (tgt := 67) dX4_distanceBehind_60 (by decide) hf (fun hf => ?_) (fun hf => ?_)
          · refine x_aload_n X dX4_distanceBehind_67 0 rfl ?_
            refine x_get X E.1.1 (T := TX4) (C := RX4) inW4 0 rfl rfl 30 (by decide) w_860 rfl (v := .ref (ad 20)) rfl dX4_distanceBehind_68 ?_
            refine x_iload_n X dX4_distanceBehind_71 1 rfl ?_
            refine x_lald X E.1.1 20 rfl dX4_distanceBehind_72 hf (fun x20 hf => ?_)
            refine x_l2i X dX4_distanceBehind_73 ?_
            refine x_aload_n X dX4_distanceBehind_74 0 rfl ?_
            refine x_get X E.1.1 (T := TX4) (C := RX4) inW4 0 rfl rfl 5 (by decide) w_835 rfl (v := .ref (ad 3)) rfl dX4_distanceBehind_75 ?_
            refine x_iload_n X dX4_distanceBehind_78 1 rfl ?_
            refine x_iald X E.1.1 3 rfl dX4_distanceBehind_79 hf (fun x21 hf => ?_)
            refine x_isub X dX4_distanceBehind_80 ?_
            cases hf
            exact x_iret X hr hlk rfl rfl dX4_distanceBehind_81
          · refine x_iconst X (v := (-1)) dX4_distanceBehind_63 (by decide) ?_
            refine x_goto X (tgt := 81) dX4_distanceBehind_64 (by decide) ?_
            cases hf
            exact x_iret X hr hlk rfl rfl dX4_distanceBehind_81
        · refine x_iconst X (v := 0) dX4_distanceBehind_43 (by decide) ?_
          cases hf
          exact x_iret X hr hlk rfl rfl dX4_distanceBehind_44
  · refine x_iconst X (v := 1) dX4_distanceBehind_8 (by decide) ?_
    refine x_goto X (tgt := 33) dX4_distanceBehind_9 (by decide) ?_
    refine x_put X E.1.1 (T := TX4) (C := RX4) (ty := .int) inW4 tyX4 tyX4_ok nmX4 0 rfl rfl 0 (by decide) w_830 rfl rfl (by decide +kernel) rfl rfl (Nat.le_of_ble_eq_true rfl) dX4_distanceBehind_33 (picM kA ad (wI w 0 0 1)) rfl ?_
    refine x_nmW (pic := picM kA ad) (u := (wI w 0 0 1)) hf (fun w22 hf => ?_)
    refine x_aload_n X dX4_distanceBehind_36 0 rfl ?_
    refine x_get X E.1.1 (T := TX4) (C := RX4) inW4 0 rfl rfl 0 (by decide) w_830 rfl (v := .int (w22.1 0 0)) rfl dX4_distanceBehind_37 ?_
    refine x_nmI hf (fun x23 hf => ?_)
    refine x_if_eq X (tgt := 45) dX4_distanceBehind_40 (by decide) hf (fun hf => ?_) (fun hf => ?_)
    · refine x_aload_n X dX4_distanceBehind_45 0 rfl ?_
      refine x_iload_n X dX4_distanceBehind_46 2 rfl ?_
      obtain ⟨w24, hw24, hf⟩ := bn_some hf
      refine x_callV_v X E (As := [.int a2]) (rest := []) (n := 1) (ws2 := (picM kA ad w24)) (goodV w_1059 w_1061 s_42 w_52 w_1062) (met_X4_findBehind l E.2.2.2 D kA ad fu w22 a2 w24 hw24) rfl rfl (by decide +kernel) ⟨by decide, by decide⟩ 0 rfl (qc := (RX4, TX4, _)) rfl rfl rfl rfl (Nat.le_of_ble_eq_true rfl) dX4_distanceBehind_47 ⟨by decide, by decide⟩ ?_
      refine x_aload_n X dX4_distanceBehind_50 0 rfl ?_
      refine x_get X E.1.1 (T := TX4) (C := RX4) inW4 0 rfl rfl 30 (by decide) w_860 rfl (v := .ref (ad 20)) rfl dX4_distanceBehind_51 ?_
      refine x_iload_n X dX4_distanceBehind_54 1 rfl ?_
      refine x_lald X E.1.1 20 rfl dX4_distanceBehind_55 hf (fun x25 hf => ?_)
      refine x_ldc2 X (v := 1000000000000) w_975 dX4_distanceBehind_56 ?_
      refine x_lcmp X dX4_distanceBehind_59 ?_
      refine x_if_ne X (tgt := 67) dX4_distanceBehind_60 (by decide) hf (fun hf => ?_) (fun hf => ?_)
      · refine x_aload_n X dX4_distanceBehind_67 0 rfl ?_
        refine x_get X E.1.1 (T := TX4) (C := RX4) inW4 0 rfl rfl 30 (by decide) w_860 rfl (v := .ref (ad 20)) rfl dX4_distanceBehind_68 ?_
        refine x_iload_n X dX4_distanceBehind_71 1 rfl ?_
        refine x_lald X E.1.1 20 rfl dX4_distanceBehind_72 hf (fun x26 hf => ?_)
        refine x_l2i X dX4_distanceBehind_73 ?_
        refine x_aload_n X dX4_distanceBehind_74 0 rfl ?_
        refine x_get X E.1.1 (T := TX4) (C := RX4) inW4 0 rfl rfl 5 (by decide) w_835 rfl (v := .ref (ad 3)) rfl dX4_distanceBehind_75 ?_
        refine x_iload_n X dX4_distanceBehind_78 1 rfl ?_
        refine x_iald X E.1.1 3 rfl dX4_distanceBehind_79 hf (fun x27 hf => ?_)
        refine x_isub X dX4_distanceBehind_80 ?_
        cases hf
        exact x_iret X hr hlk rfl rfl dX4_distanceBehind_81
      · refine x_iconst X (v := (-1)) dX4_distanceBehind_63 (by decide) ?_
        refine x_goto X (tgt := 81) dX4_distanceBehind_64 (by decide) ?_
        cases hf
        exact x_iret X hr hlk rfl rfl dX4_distanceBehind_81
    · refine x_iconst X (v := 0) dX4_distanceBehind_43 (by decide) ?_
      cases hf
      exact x_iret X hr hlk rfl rfl dX4_distanceBehind_44
end
section
variable {p : Program} {l : Launch} {e : Env} {s : State} {m : MethodId} {args : Array Value} {below : List Frame} {meth : Method} {c : Code} {D : va_G} {kA : Nat → ClassId} {A : Nat → Prop} {Q : State → Prop} {ad : Nat → Nat}
abbrev rm_X4_nextRoad : Room := { frames := 2, cells := 0, slots := 0, locals := 45 }
set_option maxRecDepth 100000 in
set_option maxHeartbeats 4000000 in
theorem lp_X4_nextRoad_2 (X : CX p m c cX4_nextRoad 3 s args RX4) (E : EX l s D kA A) (fu : Nat) (w : WS) (y1 : Int32) : ∀ (n : Nat) (y2 : Int32) (r2 : Int32), iter (fun q => bd_X4_nextRoad_2 fu w y1 q) n (y2) = some (r2) → CS p l e rm_X4_nextRoad s m args below meth c D A 3 0 0 Q (picM kA ad w) 82 [(2, .int r2)] [] → CS p l e rm_X4_nextRoad s m args below meth c D A 3 0 0 Q (picM kA ad w) 2 [(0, .ref (ad 0)), (1, .int y1), (2, .int y2)] [] := by
  intro n
  induction n with
  | zero =>
    intro y2 r2 hit kk
    exact (iter_0 hit).elim
  | succ n ih =>
    intro y2 r2 hit kk
    obtain ⟨o, h1, hit⟩ := iter_one hit
    have hf : bd_X4_nextRoad_2 fu w y1 y2 = some o := h1
    unfold bd_X4_nextRoad_2 at hf
    refine x_aload_n X dX4_nextRoad_2 0 rfl ?_
    refine x_iload_n X dX4_nextRoad_3 1 rfl ?_
    refine x_iload_n X dX4_nextRoad_4 2 rfl ?_
    obtain ⟨x1, hx1, hf⟩ := bn_some hf
    refine x_callV_l X E (As := [.int y1, .int y2]) (rest := []) (n := 2) (ws2 := (picM kA ad w)) (goodV w_963 w_965 s_34 w_52 w_966) (met_X4_step l E.2.2.2 D kA ad fu w y1 y2 x1 hx1) rfl rfl (by decide +kernel) ⟨by decide, by decide⟩ 0 rfl (qc := (RX4, TX4, _)) rfl rfl rfl rfl (Nat.le_of_ble_eq_true rfl) dX4_nextRoad_5 ⟨by decide, by decide⟩ ?_
    refine x_ldc2 X (v := 1000000000000) w_975 dX4_nextRoad_8 ?_
    refine x_lcmp X dX4_nextRoad_11 ?_
    refine x_if_eq X (tgt := 76) dX4_nextRoad_12 (by decide) hf (fun hf => ?_) (fun hf => ?_)
    · refine x_iinc X dX4_nextRoad_76 2 rfl (by decide) (y2 + 1) rfl hf (fun x2 => [(2, .int x2), (0, .ref (ad 0)), (1, .int y1)]) (fun _ => rfl) (fun x2 hf => ?_)
      refine x_goto X (tgt := 2) dX4_nextRoad_79 (by decide) ?_
      cases hf
      refine x_lpick (lv2 := [(0, .ref (ad 0)), (1, .int y1), (2, .int x2)]) [1, 2, 0] rfl ?_
      exact ih _ _ hit kk
    · refine x_aload_n X dX4_nextRoad_15 0 rfl ?_
      refine x_get X E.1.1 (T := TX4) (C := RX4) inW4 0 rfl rfl 30 (by decide) w_860 rfl (v := .ref (ad 20)) rfl dX4_nextRoad_16 ?_
      refine x_iload_n X dX4_nextRoad_19 2 rfl ?_
      refine x_lald X E.1.1 20 rfl dX4_nextRoad_20 hf (fun x3 hf => ?_)
      refine x_ldc2 X (v := 1000000000000) w_975 dX4_nextRoad_21 ?_
      refine x_lcmp X dX4_nextRoad_24 ?_
      refine x_if_eq X (tgt := 76) dX4_nextRoad_25 (by decide) hf (fun hf => ?_) (fun hf => ?_)
      · refine x_iinc X dX4_nextRoad_76 2 rfl (by decide) (y2 + 1) rfl hf (fun x4 => [(2, .int x4), (0, .ref (ad 0)), (1, .int y1)]) (fun _ => rfl) (fun x4 hf => ?_)
        refine x_goto X (tgt := 2) dX4_nextRoad_79 (by decide) ?_
        cases hf
        refine x_lpick (lv2 := [(0, .ref (ad 0)), (1, .int y1), (2, .int x4)]) [1, 2, 0] rfl ?_
        exact ih _ _ hit kk
      · refine x_aload_n X dX4_nextRoad_28 0 rfl ?_
        refine x_get X E.1.1 (T := TX4) (C := RX4) inW4 0 rfl rfl 5 (by decide) w_835 rfl (v := .ref (ad 3)) rfl dX4_nextRoad_29 ?_
        refine x_iload_n X dX4_nextRoad_32 1 rfl ?_
        refine x_iald X E.1.1 3 rfl dX4_nextRoad_33 hf (fun x5 hf => ?_)
        refine x_aload_n X dX4_nextRoad_34 0 rfl ?_
        refine x_iload_n X dX4_nextRoad_35 1 rfl ?_
        refine x_iload_n X dX4_nextRoad_36 2 rfl ?_
        obtain ⟨x6, hx6, hf⟩ := bn_some hf
        refine x_callV_i X E (As := [.int y1, .int y2]) (rest := [.int x5]) (n := 2) (ws2 := (picM kA ad w)) (goodV w_971 w_973 s_36 w_52 w_974) (met_X4_penalty l E.2.2.2 D kA ad fu w y1 y2 x6 hx6) rfl rfl (by decide +kernel) ⟨by decide, by decide⟩ 0 rfl (qc := (RX4, TX4, _)) rfl rfl rfl rfl (Nat.le_of_ble_eq_true rfl) dX4_nextRoad_37 ⟨by decide, by decide⟩ ?_
        refine x_iadd X dX4_nextRoad_40 ?_
        refine x_i2l X dX4_nextRoad_41 ?_
        refine x_aload_n X dX4_nextRoad_42 0 rfl ?_
        refine x_get X E.1.1 (T := TX4) (C := RX4) inW4 0 rfl rfl 30 (by decide) w_860 rfl (v := .ref (ad 20)) rfl dX4_nextRoad_43 ?_
        refine x_iload_n X dX4_nextRoad_46 2 rfl ?_
        refine x_lald X E.1.1 20 rfl dX4_nextRoad_47 hf (fun x7 hf => ?_)
        refine x_ladd X dX4_nextRoad_48 ?_
        refine x_aload_n X dX4_nextRoad_49 0 rfl ?_
        refine x_get X E.1.1 (T := TX4) (C := RX4) inW4 0 rfl rfl 30 (by decide) w_860 rfl (v := .ref (ad 20)) rfl dX4_nextRoad_50 ?_
        refine x_iload_n X dX4_nextRoad_53 1 rfl ?_
        refine x_lald X E.1.1 20 rfl dX4_nextRoad_54 hf (fun x8 hf => ?_)
        refine x_lcmp X dX4_nextRoad_55 ?_
        refine x_if_ne X (tgt := 76) dX4_nextRoad_56 (by decide) hf (fun hf => ?_) (fun hf => ?_)
        · refine x_iinc X dX4_nextRoad_76 2 rfl (by decide) (y2 + 1) rfl hf (fun x9 => [(2, .int x9), (0, .ref (ad 0)), (1, .int y1)]) (fun _ => rfl) (fun x9 hf => ?_)
          refine x_goto X (tgt := 2) dX4_nextRoad_79 (by decide) ?_
          cases hf
          refine x_lpick (lv2 := [(0, .ref (ad 0)), (1, .int y1), (2, .int x9)]) [1, 2, 0] rfl ?_
          exact ih _ _ hit kk
        · refine x_aload_n X dX4_nextRoad_59 0 rfl ?_
          refine x_get X E.1.1 (T := TX4) (C := RX4) inW4 0 rfl rfl 31 (by decide) w_861 rfl (v := .ref (ad 21)) rfl dX4_nextRoad_60 ?_
          refine x_iload_n X dX4_nextRoad_63 2 rfl ?_
          refine x_iald X E.1.1 21 rfl dX4_nextRoad_64 hf (fun x10 hf => ?_)
          refine x_iconst X (v := 1) dX4_nextRoad_65 (by decide) ?_
          refine x_iadd X dX4_nextRoad_66 ?_
          refine x_aload_n X dX4_nextRoad_67 0 rfl ?_
          refine x_get X E.1.1 (T := TX4) (C := RX4) inW4 0 rfl rfl 31 (by decide) w_861 rfl (v := .ref (ad 21)) rfl dX4_nextRoad_68 ?_
          refine x_iload_n X dX4_nextRoad_71 1 rfl ?_
          refine x_iald X E.1.1 21 rfl dX4_nextRoad_72 hf (fun x11 hf => ?_)
          refine x_icmp_eq X (tgt := 82) dX4_nextRoad_73 (by decide) hf (fun hf => ?_) (fun hf => ?_)
          · cases hf
            cases hit
            refine x_lpick (lv2 := [(2, .int y2)]) [2] rfl ?_
            exact kk
          · refine x_iinc X dX4_nextRoad_76 2 rfl (by decide) (y2 + 1) rfl hf (fun x12 => [(2, .int x12), (0, .ref (ad 0)), (1, .int y1)]) (fun _ => rfl) (fun x12 hf => ?_)
            refine x_goto X (tgt := 2) dX4_nextRoad_79 (by decide) ?_
            cases hf
            refine x_lpick (lv2 := [(0, .ref (ad 0)), (1, .int y1), (2, .int x12)]) [1, 2, 0] rfl ?_
            exact ih _ _ hit kk
set_option maxRecDepth 100000 in
set_option maxHeartbeats 4000000 in
theorem met_X4_nextRoad (l : Launch) (hst : l.stackTraces = false) (D : va_G) (kA : Nat → ClassId) (ad : Nat → Nat) (fu : Nat) (w : WS) (a1 : Int32) (v : Int32) (hf : f_X4_nextRoad fu w a1 = some v) (sz : Nat) : Met l yX4_nextRoad (wsY yX4_nextRoad cX4_nextRoad 3 (some .int)) rm_X4_nextRoad (va_Pc [.ref (ad 0), .int a1] (PreG D kA (picM kA ad w) sz)) (va_Qi (fun (r : Int32) (_ : Unit) => r = v) (fun _ t => PosG D (va_A (picM kA ad w) sz) (picM kA ad w) t) (va_A (picM kA ad w) sz)) 0 0 (va_A (picM kA ad w) sz) := by
  refine metG (own := RX4) hst (by decide +kernel) rfl (Nat.le_of_ble_eq_true rfl) rfl ?_
  intro p e s m below meth c X hr hlk E _
  unfold f_X4_nextRoad at hf
  refine x_iconst X (v := 0) dX4_nextRoad_0 (by decide) ?_
  refine x_istore_n X (lv2 := [(2, .int 0), (0, .ref (ad 0)), (1, .int a1)]) dX4_nextRoad_1 (by decide) rfl ?_
  refine x_lpick (lv2 := [(0, .ref (ad 0)), (1, .int a1), (2, .int 0)]) [1, 2, 0] rfl ?_
  obtain ⟨x1, h2, hf⟩ := bn_some hf
  refine lp_X4_nextRoad_2 X E fu w a1 fu (0 : Int32) x1 h2 ?_
  refine x_iload_n X dX4_nextRoad_82 0 rfl ?_
  exact x_iret X hr hlk rfl (Option.some.inj hf) dX4_nextRoad_83
end
section
variable {p : Program} {l : Launch} {e : Env} {s : State} {m : MethodId} {args : Array Value} {below : List Frame} {meth : Method} {c : Code} {D : va_G} {kA : Nat → ClassId} {A : Nat → Prop} {Q : State → Prop} {ad : Nat → Nat}
abbrev rm_X4_route : Room := { frames := 5, cells := 0, slots := 0, locals := 116 }
set_option maxRecDepth 100000 in
set_option maxHeartbeats 4000000 in
theorem lp_X4_route_74 (X : CX p m c cX4_route 5 s args RX4) (E : EX l s D kA A) (fu : Nat) (y2 : Int32) : ∀ (n : Nat) (y4 : Int32) (w : WS) (rw : WS), iter (fun q => bd_X4_route_74 fu y2 q.1 q.2) n (y4, w) = some (rw) → CS p l e rm_X4_route s m args below meth c D A 5 0 0 Q (picM kA ad rw) 117 [(0, .ref (ad 0))] [] → CS p l e rm_X4_route s m args below meth c D A 5 0 0 Q (picM kA ad w) 74 [(0, .ref (ad 0)), (2, .int y2), (4, .int y4)] [] := by
  intro n
  induction n with
  | zero =>
    intro y4 w rw hit kk
    exact (iter_0 hit).elim
  | succ n ih =>
    intro y4 w rw hit kk
    obtain ⟨o, h1, hit⟩ := iter_one hit
    have hf : bd_X4_route_74 fu y2 y4 w = some o := h1
    unfold bd_X4_route_74 at hf
    refine x_aload_n X dX4_route_74 0 rfl ?_
    refine x_get X E.1.1 (T := TX4) (C := RX4) inW4 0 rfl rfl 4 (by decide) w_834 rfl (v := .ref (ad 2)) rfl dX4_route_75 ?_
    refine x_iload X dX4_route_78 2 rfl ?_
    refine x_iald X E.1.1 2 rfl dX4_route_80 hf (fun x1 hf => ?_)
    refine x_iload_n X dX4_route_81 1 rfl ?_
    refine x_icmp_eq X (tgt := 117) dX4_route_82 (by decide) hf (fun hf => ?_) (fun hf => ?_)
    · cases hf
      cases hit
      refine x_lpick (lv2 := [(0, .ref (ad 0))]) [0] rfl ?_
      exact kk
    · refine x_aload_n X dX4_route_85 0 rfl ?_
      refine x_iload X dX4_route_86 2 rfl ?_
      obtain ⟨x2, hx2, hf⟩ := bn_some hf
      refine x_callV_i X E (As := [.int y4]) (rest := []) (n := 1) (ws2 := (picM kA ad w)) (goodV w_1079 w_1081 s_45 w_52 w_1082) (met_X4_nextRoad l E.2.2.2 D kA ad fu w y4 x2 hx2) rfl rfl (by decide +kernel) ⟨by decide, by decide⟩ 0 rfl (qc := (RX4, TX4, _)) rfl rfl rfl rfl (Nat.le_of_ble_eq_true rfl) dX4_route_88 ⟨by decide, by decide⟩ ?_
      refine x_istore X (lv2 := [(4, .int x2), (0, .ref (ad 0)), (2, .int y2)]) dX4_route_91 (by decide) rfl ?_
      refine x_aload_n X dX4_route_93 1 rfl ?_
      refine x_get X E.1.1 (T := TX4) (C := RX4) inW4 0 rfl rfl 25 (by decide) w_855 rfl (v := .ref (ad 18)) rfl dX4_route_94 ?_
      refine x_aload_n X dX4_route_97 1 rfl ?_
      refine x_get X E.1.1 (T := TX4) (C := RX4) inW4 0 rfl rfl 26 (by decide) w_856 rfl (v := .int (w.1 0 26)) rfl dX4_route_98 ?_
      refine x_nmI hf (fun x3 hf => ?_)
      refine x_iload X dX4_route_101 0 rfl ?_
      refine x_iast X E.1.1 18 rfl dX4_route_103 hf (picM kA ad) (setM_18 kA ad _ _ _) (fun w4 hf => ?_)
      refine x_aload_n X dX4_route_104 1 rfl ?_
      refine x_dup X dX4_route_105 rfl ?_
      refine x_get X E.1.1 (T := TX4) (C := RX4) inW4 0 rfl rfl 26 (by decide) w_856 rfl (v := .int (w4.1 0 26)) rfl dX4_route_106 ?_
      refine x_nmI hf (fun x5 hf => ?_)
      refine x_iconst X (v := 1) dX4_route_109 (by decide) ?_
      refine x_iadd X dX4_route_110 ?_
      refine x_put X E.1.1 (T := TX4) (C := RX4) (ty := .int) inW4 tyX4 tyX4_ok nmX4 0 rfl rfl 26 (by decide) w_856 rfl rfl (by decide +kernel) rfl rfl (Nat.le_of_ble_eq_true rfl) dX4_route_111 (picM kA ad (wI w4 0 26 (x5 + 1))) rfl ?_
      refine x_nmW (pic := picM kA ad) (u := (wI w4 0 26 (x5 + 1))) hf (fun w6 hf => ?_)
      refine x_goto X (tgt := 74) dX4_route_114 (by decide) ?_
      cases hf
      refine x_lpick (lv2 := [(0, .ref (ad 0)), (2, .int y2), (4, .int x2)]) [1, 2, 0] rfl ?_
      exact ih _ _ _ hit kk
set_option maxRecDepth 100000 in
set_option maxHeartbeats 4000000 in
theorem met_X4_route (l : Launch) (hst : l.stackTraces = false) (D : va_G) (kA : Nat → ClassId) (ad : Nat → Nat) (fu : Nat) (w : WS) (a1 : Int32) (a2 : Int32) (v : Int32) (w1 : WS) (hf : f_X4_route fu w a1 a2 = some (v, w1)) (sz : Nat) : Met l yX4_route (wsY yX4_route cX4_route 5 (some .int)) rm_X4_route (va_Pc [.ref (ad 0), .int a1, .int a2] (PreG D kA (picM kA ad w) sz)) (va_Qi (fun (r : Int32) (_ : Unit) => r = v) (fun _ t => PosG D (va_A (picM kA ad w) sz) (picM kA ad w1) t) (va_A (picM kA ad w) sz)) 0 0 (va_A (picM kA ad w) sz) := by
  refine metG (own := RX4) hst (by decide +kernel) rfl (Nat.le_of_ble_eq_true rfl) rfl ?_
  intro p e s m below meth c X hr hlk E _
  unfold f_X4_route at hf
  refine x_aload_n X dX4_route_0 0 rfl ?_
  refine x_aload_n X dX4_route_1 0 rfl ?_
  refine x_iload_n X dX4_route_2 1 rfl ?_
  refine x_iload_n X dX4_route_3 2 rfl ?_
  obtain ⟨x1, hx1, hf⟩ := bn_some hf
  refine x_callV_i X E (As := [.int a1, .int a2]) (rest := [.ref (ad 0)]) (n := 2) (ws2 := (picM kA ad w)) (goodV w_1051 w_1053 s_40 w_52 w_1054) (met_X4_lookedAt l E.2.2.2 D kA ad fu w a1 a2 x1 hx1) rfl rfl (by decide +kernel) ⟨by decide, by decide⟩ 0 rfl (qc := (RX4, TX4, _)) rfl rfl rfl rfl (Nat.le_of_ble_eq_true rfl) dX4_route_4 ⟨by decide, by decide⟩ ?_
  refine x_put X E.1.1 (T := TX4) (C := RX4) (ty := .int) inW4 tyX4 tyX4_ok nmX4 0 rfl rfl 0 (by decide) w_830 rfl rfl (by decide +kernel) rfl rfl (Nat.le_of_ble_eq_true rfl) dX4_route_7 (picM kA ad (wI w 0 0 x1)) rfl ?_
  refine x_nmW (pic := picM kA ad) (u := (wI w 0 0 x1)) hf (fun w2 hf => ?_)
  refine x_aload_n X dX4_route_10 0 rfl ?_
  refine x_get X E.1.1 (T := TX4) (C := RX4) inW4 0 rfl rfl 0 (by decide) w_830 rfl (v := .int (w2.1 0 0)) rfl dX4_route_11 ?_
  refine x_nmI hf (fun x3 hf => ?_)
  refine x_if_eq X (tgt := 19) dX4_route_14 (by decide) hf (fun hf => ?_) (fun hf => ?_)
  · refine x_aload_n X dX4_route_19 0 rfl ?_
    refine x_iload_n X dX4_route_20 1 rfl ?_
    refine x_iload_n X dX4_route_21 2 rfl ?_
    obtain ⟨x5, w4, hx5, hf⟩ := bn2_some hf
    refine x_callV_i X E (As := [.int a1, .int a2]) (rest := []) (n := 2) (ws2 := (picM kA ad w4)) (goodV w_1055 w_1057 s_41 w_52 w_1058) (met_X4_distanceBetween l E.2.2.2 D kA ad fu w2 a1 a2 x5 w4 hx5) rfl rfl (by decide +kernel) ⟨by decide, by decide⟩ 0 rfl (qc := (RX4, TX4, _)) rfl rfl rfl rfl (Nat.le_of_ble_eq_true rfl) dX4_route_22 ⟨by decide, by decide⟩ ?_
    refine x_istore_n X (lv2 := [(3, .int x5), (0, .ref (ad 0)), (1, .int a1), (2, .int a2)]) dX4_route_25 (by decide) rfl ?_
    refine x_iload_n X dX4_route_26 0 rfl ?_
    refine x_iconst X (v := (-1)) dX4_route_27 (by decide) ?_
    refine x_icmp_ne X (tgt := 37) dX4_route_28 (by decide) hf (fun hf => ?_) (fun hf => ?_)
    · refine x_aload_n X dX4_route_37 1 rfl ?_
      refine x_iload_n X dX4_route_38 0 rfl ?_
      refine x_put X E.1.1 (T := TX4) (C := RX4) (ty := .int) inW4 tyX4 tyX4_ok nmX4 0 rfl rfl 27 (by decide) w_857 rfl rfl (by decide +kernel) rfl rfl (Nat.le_of_ble_eq_true rfl) dX4_route_39 (picM kA ad (wI w4 0 27 x5)) rfl ?_
      refine x_nmW (pic := picM kA ad) (u := (wI w4 0 27 x5)) hf (fun w6 hf => ?_)
      refine x_aload_n X dX4_route_42 1 rfl ?_
      refine x_iconst X (v := 0) dX4_route_43 (by decide) ?_
      refine x_put X E.1.1 (T := TX4) (C := RX4) (ty := .int) inW4 tyX4 tyX4_ok nmX4 0 rfl rfl 26 (by decide) w_856 rfl rfl (by decide +kernel) rfl rfl (Nat.le_of_ble_eq_true rfl) dX4_route_44 (picM kA ad (wI w6 0 26 0)) rfl ?_
      refine x_nmW (pic := picM kA ad) (u := (wI w6 0 26 0)) hf (fun w7 hf => ?_)
      refine x_iload_n X dX4_route_47 2 rfl ?_
      refine x_iload_n X dX4_route_48 3 rfl ?_
      refine x_icmp_ne X (tgt := 54) dX4_route_49 (by decide) hf (fun hf => ?_) (fun hf => ?_)
      · refine x_aload_n X dX4_route_54 1 rfl ?_
        refine x_iload_n X dX4_route_55 2 rfl ?_
        obtain ⟨x8, hx8, hf⟩ := bn_some hf
        refine x_callV_i X E (As := [.int a1]) (rest := []) (n := 1) (ws2 := (picM kA ad w7)) (goodV w_1067 w_1069 s_44 w_52 w_1070) (met_X4_firstRoad l E.2.2.2 D kA ad fu w7 a1 x8 hx8) rfl rfl (by decide +kernel) ⟨by decide, by decide⟩ 0 rfl (qc := (RX4, TX4, _)) rfl rfl rfl rfl (Nat.le_of_ble_eq_true rfl) dX4_route_56 ⟨by decide, by decide⟩ ?_
        refine x_istore X (lv2 := [(4, .int x8), (3, .int x5), (0, .ref (ad 0)), (1, .int a1), (2, .int a2)]) dX4_route_59 (by decide) rfl ?_
        refine x_aload_n X dX4_route_61 2 rfl ?_
        refine x_get X E.1.1 (T := TX4) (C := RX4) inW4 0 rfl rfl 25 (by decide) w_855 rfl (v := .ref (ad 18)) rfl dX4_route_62 ?_
        refine x_iconst X (v := 0) dX4_route_65 (by decide) ?_
        refine x_iload X dX4_route_66 0 rfl ?_
        refine x_iast X E.1.1 18 rfl dX4_route_68 hf (picM kA ad) (setM_18 kA ad _ _ _) (fun w9 hf => ?_)
        refine x_aload_n X dX4_route_69 2 rfl ?_
        refine x_iconst X (v := 1) dX4_route_70 (by decide) ?_
        refine x_put X E.1.1 (T := TX4) (C := RX4) (ty := .int) inW4 tyX4 tyX4_ok nmX4 0 rfl rfl 26 (by decide) w_856 rfl rfl (by decide +kernel) rfl rfl (Nat.le_of_ble_eq_true rfl) dX4_route_71 (picM kA ad (wI w9 0 26 1)) rfl ?_
        refine x_nmW (pic := picM kA ad) (u := (wI w9 0 26 1)) hf (fun w10 hf => ?_)
        refine x_lpick (lv2 := [(0, .ref (ad 0)), (2, .int a2), (4, .int x8)]) [2, 4, 0] rfl ?_
        obtain ⟨w11, h12, hf⟩ := bn_some hf
        refine lp_X4_route_74 X E fu a2 fu x8 w10 w11 h12 ?_
        refine x_aload_n X dX4_route_117 0 rfl ?_
        refine x_get X E.1.1 (T := TX4) (C := RX4) inW4 0 rfl rfl 26 (by decide) w_856 rfl (v := .int (w11.1 0 26)) rfl dX4_route_118 ?_
        refine x_nmI hf (fun x13 hf => ?_)
        cases hf
        exact x_iret X hr hlk rfl rfl dX4_route_121
      · refine x_iconst X (v := 0) dX4_route_52 (by decide) ?_
        cases hf
        exact x_iret X hr hlk rfl rfl dX4_route_53
    · refine x_aload_n X dX4_route_31 1 rfl ?_
      refine x_iconst X (v := 3) dX4_route_32 (by decide) ?_
      obtain ⟨x15, w14, hx15, hf⟩ := bn2_some hf
      refine x_callV_i X E (As := [.int 3]) (rest := []) (n := 1) (ws2 := (picM kA ad w14)) (goodV w_935 w_937 s_29 w_52 w_938) (met_X4_fail l E.2.2.2 D kA ad fu w4 (3 : Int32) x15 w14 hx15) rfl rfl (by decide +kernel) ⟨by decide, by decide⟩ 0 rfl (qc := (RX4, TX4, _)) rfl rfl rfl rfl (Nat.le_of_ble_eq_true rfl) dX4_route_33 ⟨by decide, by decide⟩ ?_
      cases hf
      exact x_iret X hr hlk rfl rfl dX4_route_36
  · refine x_iconst X (v := 0) dX4_route_17 (by decide) ?_
    cases hf
    exact x_iret X hr hlk rfl rfl dX4_route_18
end
section
variable {p : Program} {l : Launch} {e : Env} {s : State} {m : MethodId} {args : Array Value} {below : List Frame} {meth : Method} {c : Code} {D : va_G} {kA : Nat → ClassId} {A : Nat → Prop} {Q : State → Prop} {ad : Nat → Nat}
abbrev rm_X4_routeRoad : Room := { frames := 1, cells := 0, slots := 0, locals := 21 }
set_option maxRecDepth 100000 in
set_option maxHeartbeats 4000000 in
theorem met_X4_routeRoad (l : Launch) (hst : l.stackTraces = false) (D : va_G) (kA : Nat → ClassId) (ad : Nat → Nat) (fu : Nat) (w : WS) (a1 : Int32) (v : Int32) (w1 : WS) (hf : f_X4_routeRoad fu w a1 = some (v, w1)) (sz : Nat) : Met l yX4_routeRoad (wsY yX4_routeRoad cX4_routeRoad 2 (some .int)) rm_X4_routeRoad (va_Pc [.ref (ad 0), .int a1] (PreG D kA (picM kA ad w) sz)) (va_Qi (fun (r : Int32) (_ : Unit) => r = v) (fun _ t => PosG D (va_A (picM kA ad w) sz) (picM kA ad w1) t) (va_A (picM kA ad w) sz)) 0 0 (va_A (picM kA ad w) sz) := by
  refine metG (own := RX4) hst (by decide +kernel) rfl (Nat.le_of_ble_eq_true rfl) rfl ?_
  intro p e s m below meth c X hr hlk E _
  unfold f_X4_routeRoad at hf
  refine x_aload_n X dX4_routeRoad_0 0 rfl ?_
  refine x_iconst X (v := 0) dX4_routeRoad_1 (by decide) ?_
  refine x_put X E.1.1 (T := TX4) (C := RX4) (ty := .int) inW4 tyX4 tyX4_ok nmX4 0 rfl rfl 0 (by decide) w_830 rfl rfl (by decide +kernel) rfl rfl (Nat.le_of_ble_eq_true rfl) dX4_routeRoad_2 (picM kA ad (wI w 0 0 0)) rfl ?_
  refine x_nmW (pic := picM kA ad) (u := (wI w 0 0 0)) hf (fun w1 hf => ?_)
  refine x_iload_n X dX4_routeRoad_5 1 rfl ?_
  refine x_if_lt X (tgt := 26) dX4_routeRoad_6 (by decide) hf (fun hf => ?_) (fun hf => ?_)
  · refine x_aload_n X dX4_routeRoad_26 0 rfl ?_
    refine x_iconst X (v := 1) dX4_routeRoad_27 (by decide) ?_
    obtain ⟨x3, w2, hx3, hf⟩ := bn2_some hf
    refine x_callV_i X E (As := [.int 1]) (rest := []) (n := 1) (ws2 := (picM kA ad w2)) (goodV w_935 w_937 s_29 w_52 w_938) (met_X4_fail l E.2.2.2 D kA ad fu w1 (1 : Int32) x3 w2 hx3) rfl rfl (by decide +kernel) ⟨by decide, by decide⟩ 0 rfl (qc := (RX4, TX4, _)) rfl rfl rfl rfl (Nat.le_of_ble_eq_true rfl) dX4_routeRoad_28 ⟨by decide, by decide⟩ ?_
    cases hf
    exact x_iret X hr hlk rfl rfl dX4_routeRoad_31
  · refine x_iload_n X dX4_routeRoad_9 1 rfl ?_
    refine x_aload_n X dX4_routeRoad_10 0 rfl ?_
    refine x_get X E.1.1 (T := TX4) (C := RX4) inW4 0 rfl rfl 26 (by decide) w_856 rfl (v := .int (w1.1 0 26)) rfl dX4_routeRoad_11 ?_
    refine x_nmI hf (fun x4 hf => ?_)
    refine x_icmp_ge X (tgt := 26) dX4_routeRoad_14 (by decide) hf (fun hf => ?_) (fun hf => ?_)
    · refine x_aload_n X dX4_routeRoad_26 0 rfl ?_
      refine x_iconst X (v := 1) dX4_routeRoad_27 (by decide) ?_
      obtain ⟨x6, w5, hx6, hf⟩ := bn2_some hf
      refine x_callV_i X E (As := [.int 1]) (rest := []) (n := 1) (ws2 := (picM kA ad w5)) (goodV w_935 w_937 s_29 w_52 w_938) (met_X4_fail l E.2.2.2 D kA ad fu w1 (1 : Int32) x6 w5 hx6) rfl rfl (by decide +kernel) ⟨by decide, by decide⟩ 0 rfl (qc := (RX4, TX4, _)) rfl rfl rfl rfl (Nat.le_of_ble_eq_true rfl) dX4_routeRoad_28 ⟨by decide, by decide⟩ ?_
      cases hf
      exact x_iret X hr hlk rfl rfl dX4_routeRoad_31
    · refine x_aload_n X dX4_routeRoad_17 0 rfl ?_
      refine x_get X E.1.1 (T := TX4) (C := RX4) inW4 0 rfl rfl 25 (by decide) w_855 rfl (v := .ref (ad 18)) rfl dX4_routeRoad_18 ?_
      refine x_iload_n X dX4_routeRoad_21 1 rfl ?_
      refine x_iald X E.1.1 18 rfl dX4_routeRoad_22 hf (fun x7 hf => ?_)
      refine x_goto X (tgt := 31) dX4_routeRoad_23 (by decide) ?_
      cases hf
      exact x_iret X hr hlk rfl rfl dX4_routeRoad_31
end
section
variable {p : Program} {l : Launch} {e : Env} {s : State} {m : MethodId} {args : Array Value} {below : List Frame} {meth : Method} {c : Code} {D : va_G} {kA : Nat → ClassId} {A : Nat → Prop} {Q : State → Prop} {ad : Nat → Nat}
abbrev rm_X4_routeCost : Room := { frames := 0, cells := 0, slots := 0, locals := 0 }
set_option maxRecDepth 100000 in
set_option maxHeartbeats 4000000 in
theorem met_X4_routeCost (l : Launch) (hst : l.stackTraces = false) (D : va_G) (kA : Nat → ClassId) (ad : Nat → Nat) (fu : Nat) (w : WS)  (v : Int32) (w1 : WS) (hf : f_X4_routeCost fu w = some (v, w1)) (sz : Nat) : Met l yX4_routeCost (wsY yX4_routeCost cX4_routeCost 1 (some .int)) rm_X4_routeCost (va_Pc [.ref (ad 0)] (PreG D kA (picM kA ad w) sz)) (va_Qi (fun (r : Int32) (_ : Unit) => r = v) (fun _ t => PosG D (va_A (picM kA ad w) sz) (picM kA ad w1) t) (va_A (picM kA ad w) sz)) 0 0 (va_A (picM kA ad w) sz) := by
  refine metG (own := RX4) hst (by decide +kernel) rfl (Nat.le_of_ble_eq_true rfl) rfl ?_
  intro p e s m below meth c X hr hlk E _
  unfold f_X4_routeCost at hf
  refine x_aload_n X dX4_routeCost_0 0 rfl ?_
  refine x_iconst X (v := 0) dX4_routeCost_1 (by decide) ?_
  refine x_put X E.1.1 (T := TX4) (C := RX4) (ty := .int) inW4 tyX4 tyX4_ok nmX4 0 rfl rfl 0 (by decide) w_830 rfl rfl (by decide +kernel) rfl rfl (Nat.le_of_ble_eq_true rfl) dX4_routeCost_2 (picM kA ad (wI w 0 0 0)) rfl ?_
  refine x_nmW (pic := picM kA ad) (u := (wI w 0 0 0)) hf (fun w1 hf => ?_)
  refine x_aload_n X dX4_routeCost_5 0 rfl ?_
  refine x_get X E.1.1 (T := TX4) (C := RX4) inW4 0 rfl rfl 27 (by decide) w_857 rfl (v := .int (w1.1 0 27)) rfl dX4_routeCost_6 ?_
  refine x_nmI hf (fun x2 hf => ?_)
  cases hf
  exact x_iret X hr hlk rfl rfl dX4_routeCost_9
end
section
variable {p : Program} {l : Launch} {e : Env} {s : State} {m : MethodId} {args : Array Value} {below : List Frame} {meth : Method} {c : Code} {D : va_G} {kA : Nat → ClassId} {A : Nat → Prop} {Q : State → Prop} {ad : Nat → Nat}
abbrev rm_X4_reached : Room := { frames := 1, cells := 0, slots := 0, locals := 21 }
set_option maxRecDepth 100000 in
set_option maxHeartbeats 4000000 in
theorem met_X4_reached (l : Launch) (hst : l.stackTraces = false) (D : va_G) (kA : Nat → ClassId) (ad : Nat → Nat) (fu : Nat) (w : WS) (a1 : Int32) (v : Int32) (w1 : WS) (hf : f_X4_reached fu w a1 = some (v, w1)) (sz : Nat) : Met l yX4_reached (wsY yX4_reached cX4_reached 2 (some .int)) rm_X4_reached (va_Pc [.ref (ad 0), .int a1] (PreG D kA (picM kA ad w) sz)) (va_Qi (fun (r : Int32) (_ : Unit) => r = v) (fun _ t => PosG D (va_A (picM kA ad w) sz) (picM kA ad w1) t) (va_A (picM kA ad w) sz)) 0 0 (va_A (picM kA ad w) sz) := by
  refine metG (own := RX4) hst (by decide +kernel) rfl (Nat.le_of_ble_eq_true rfl) rfl ?_
  intro p e s m below meth c X hr hlk E _
  unfold f_X4_reached at hf
  refine x_aload_n X dX4_reached_0 0 rfl ?_
  refine x_iconst X (v := 0) dX4_reached_1 (by decide) ?_
  refine x_put X E.1.1 (T := TX4) (C := RX4) (ty := .int) inW4 tyX4 tyX4_ok nmX4 0 rfl rfl 0 (by decide) w_830 rfl rfl (by decide +kernel) rfl rfl (Nat.le_of_ble_eq_true rfl) dX4_reached_2 (picM kA ad (wI w 0 0 0)) rfl ?_
  refine x_nmW (pic := picM kA ad) (u := (wI w 0 0 0)) hf (fun w1 hf => ?_)
  refine x_iload_n X dX4_reached_5 1 rfl ?_
  refine x_if_lt X (tgt := 26) dX4_reached_6 (by decide) hf (fun hf => ?_) (fun hf => ?_)
  · refine x_aload_n X dX4_reached_26 0 rfl ?_
    refine x_iconst X (v := 1) dX4_reached_27 (by decide) ?_
    obtain ⟨x3, w2, hx3, hf⟩ := bn2_some hf
    refine x_callV_i X E (As := [.int 1]) (rest := []) (n := 1) (ws2 := (picM kA ad w2)) (goodV w_935 w_937 s_29 w_52 w_938) (met_X4_fail l E.2.2.2 D kA ad fu w1 (1 : Int32) x3 w2 hx3) rfl rfl (by decide +kernel) ⟨by decide, by decide⟩ 0 rfl (qc := (RX4, TX4, _)) rfl rfl rfl rfl (Nat.le_of_ble_eq_true rfl) dX4_reached_28 ⟨by decide, by decide⟩ ?_
    cases hf
    exact x_iret X hr hlk rfl rfl dX4_reached_31
  · refine x_iload_n X dX4_reached_9 1 rfl ?_
    refine x_aload_n X dX4_reached_10 0 rfl ?_
    refine x_get X E.1.1 (T := TX4) (C := RX4) inW4 0 rfl rfl 29 (by decide) w_859 rfl (v := .int (w1.1 0 29)) rfl dX4_reached_11 ?_
    refine x_nmI hf (fun x4 hf => ?_)
    refine x_icmp_ge X (tgt := 26) dX4_reached_14 (by decide) hf (fun hf => ?_) (fun hf => ?_)
    · refine x_aload_n X dX4_reached_26 0 rfl ?_
      refine x_iconst X (v := 1) dX4_reached_27 (by decide) ?_
      obtain ⟨x6, w5, hx6, hf⟩ := bn2_some hf
      refine x_callV_i X E (As := [.int 1]) (rest := []) (n := 1) (ws2 := (picM kA ad w5)) (goodV w_935 w_937 s_29 w_52 w_938) (met_X4_fail l E.2.2.2 D kA ad fu w1 (1 : Int32) x6 w5 hx6) rfl rfl (by decide +kernel) ⟨by decide, by decide⟩ 0 rfl (qc := (RX4, TX4, _)) rfl rfl rfl rfl (Nat.le_of_ble_eq_true rfl) dX4_reached_28 ⟨by decide, by decide⟩ ?_
      cases hf
      exact x_iret X hr hlk rfl rfl dX4_reached_31
    · refine x_aload_n X dX4_reached_17 0 rfl ?_
      refine x_get X E.1.1 (T := TX4) (C := RX4) inW4 0 rfl rfl 28 (by decide) w_858 rfl (v := .ref (ad 19)) rfl dX4_reached_18 ?_
      refine x_iload_n X dX4_reached_21 1 rfl ?_
      refine x_iald X E.1.1 19 rfl dX4_reached_22 hf (fun x7 hf => ?_)
      refine x_goto X (tgt := 31) dX4_reached_23 (by decide) ?_
      cases hf
      exact x_iret X hr hlk rfl rfl dX4_reached_31
end
section
variable {p : Program} {l : Launch} {e : Env} {s : State} {m : MethodId} {args : Array Value} {below : List Frame} {meth : Method} {c : Code} {D : va_G} {kA : Nat → ClassId} {A : Nat → Prop} {Q : State → Prop} {ad : Nat → Nat}
abbrev rm_X4_averageDistance : Room := { frames := 5, cells := 0, slots := 0, locals := 116 }
set_option maxRecDepth 100000 in
set_option maxHeartbeats 4000000 in
theorem lp_X4_averageDistance_27 (X : CX p m c cX4_averageDistance 7 s args RX4) (E : EX l s D kA A) (fu : Nat) (y1 : Int32) : ∀ (n : Nat) (y2 : Int64) (y4 : Int32) (y5 : Int32) (w : WS) (r2 : Int64) (r4 : Int32) (rw : WS), iter (fun q => bd_X4_averageDistance_27 fu y1 q.1 q.2.1 q.2.2.1 q.2.2.2) n (y2, y4, y5, w) = some (r2, r4, rw) → CS p l e rm_X4_averageDistance s m args below meth c D A 7 0 0 Q (picM kA ad rw) 75 [(2, .long r2), (4, .int r4)] [] → CS p l e rm_X4_averageDistance s m args below meth c D A 7 0 0 Q (picM kA ad w) 27 [(0, .ref (ad 0)), (1, .int y1), (2, .long y2), (4, .int y4), (5, .int y5)] [] := by
  intro n
  induction n with
  | zero =>
    intro y2 y4 y5 w r2 r4 rw hit kk
    exact (iter_0 hit).elim
  | succ n ih =>
    intro y2 y4 y5 w r2 r4 rw hit kk
    obtain ⟨o, h1, hit⟩ := iter_one hit
    have hf : bd_X4_averageDistance_27 fu y1 y2 y4 y5 w = some o := h1
    unfold bd_X4_averageDistance_27 at hf
    refine x_iload X dX4_averageDistance_27 4 rfl ?_
    refine x_aload_n X dX4_averageDistance_29 0 rfl ?_
    refine x_get X E.1.1 (T := TX4) (C := RX4) inW4 0 rfl rfl 1 (by decide) w_831 rfl (v := .int (w.1 0 1)) rfl dX4_averageDistance_30 ?_
    refine x_nmI hf (fun x1 hf => ?_)
    refine x_icmp_ge X (tgt := 75) dX4_averageDistance_33 (by decide) hf (fun hf => ?_) (fun hf => ?_)
    · cases hf
      cases hit
      refine x_lpick (lv2 := [(2, .long y2), (4, .int y4)]) [2, 3] rfl ?_
      exact kk
    · refine x_aload_n X dX4_averageDistance_36 0 rfl ?_
      refine x_iload_n X dX4_averageDistance_37 1 rfl ?_
      refine x_iload X dX4_averageDistance_38 4 rfl ?_
      obtain ⟨x3, w2, hx3, hf⟩ := bn2_some hf
      refine x_callV_i X E (As := [.int y1, .int y5]) (rest := []) (n := 2) (ws2 := (picM kA ad w2)) (goodV w_1055 w_1057 s_41 w_52 w_1058) (met_X4_distanceBetween l E.2.2.2 D kA ad fu w y1 y5 x3 w2 hx3) rfl rfl (by decide +kernel) ⟨by decide, by decide⟩ 0 rfl (qc := (RX4, TX4, _)) rfl rfl rfl rfl (Nat.le_of_ble_eq_true rfl) dX4_averageDistance_40 ⟨by decide, by decide⟩ ?_
      refine x_istore X (lv2 := [(6, .int x3), (0, .ref (ad 0)), (1, .int y1), (2, .long y2), (4, .int y4), (5, .int y5)]) dX4_averageDistance_43 (by decide) rfl ?_
      refine x_iload X dX4_averageDistance_45 5 rfl ?_
      refine x_iload_n X dX4_averageDistance_47 2 rfl ?_
      refine x_icmp_eq X (tgt := 69) dX4_averageDistance_48 (by decide) hf (fun hf => ?_) (fun hf => ?_)
      · refine x_iinc X dX4_averageDistance_69 5 rfl (by decide) (y5 + 1) rfl hf (fun x4 => [(5, .int x4), (6, .int x3), (0, .ref (ad 0)), (1, .int y1), (2, .long y2), (4, .int y4)]) (fun _ => rfl) (fun x4 hf => ?_)
        refine x_goto X (tgt := 27) dX4_averageDistance_72 (by decide) ?_
        cases hf
        refine x_lpick (lv2 := [(0, .ref (ad 0)), (1, .int y1), (2, .long y2), (4, .int y4), (5, .int x4)]) [2, 3, 4, 5, 0] rfl ?_
        exact ih _ _ _ _ _ _ _ hit kk
      · refine x_iload X dX4_averageDistance_51 0 rfl ?_
        refine x_iconst X (v := (-1)) dX4_averageDistance_53 (by decide) ?_
        refine x_icmp_ne X (tgt := 60) dX4_averageDistance_54 (by decide) hf (fun hf => ?_) (fun hf => ?_)
        · refine x_lload_n X dX4_averageDistance_60 3 rfl ?_
          refine x_iload X dX4_averageDistance_61 0 rfl ?_
          refine x_i2l X dX4_averageDistance_63 ?_
          refine x_ladd X dX4_averageDistance_64 ?_
          refine x_nmL hf (fun x5 hf => ?_)
          refine x_lstore_n X (lv2 := [(2, .long x5), (6, .int x3), (0, .ref (ad 0)), (1, .int y1), (4, .int y4), (5, .int y5)]) dX4_averageDistance_65 (by decide) rfl ?_
          refine x_iinc X dX4_averageDistance_66 4 rfl (by decide) (y4 + 1) rfl hf (fun x6 => [(4, .int x6), (2, .long x5), (6, .int x3), (0, .ref (ad 0)), (1, .int y1), (5, .int y5)]) (fun _ => rfl) (fun x6 hf => ?_)
          refine x_iinc X dX4_averageDistance_69 5 rfl (by decide) (y5 + 1) rfl hf (fun x7 => [(5, .int x7), (4, .int x6), (2, .long x5), (6, .int x3), (0, .ref (ad 0)), (1, .int y1)]) (fun _ => rfl) (fun x7 hf => ?_)
          refine x_goto X (tgt := 27) dX4_averageDistance_72 (by decide) ?_
          cases hf
          refine x_lpick (lv2 := [(0, .ref (ad 0)), (1, .int y1), (2, .long x5), (4, .int x6), (5, .int x7)]) [4, 5, 2, 1, 0] rfl ?_
          exact ih _ _ _ _ _ _ _ hit kk
        · refine x_goto X (tgt := 69) dX4_averageDistance_57 (by decide) ?_
          refine x_iinc X dX4_averageDistance_69 5 rfl (by decide) (y5 + 1) rfl hf (fun x8 => [(5, .int x8), (6, .int x3), (0, .ref (ad 0)), (1, .int y1), (2, .long y2), (4, .int y4)]) (fun _ => rfl) (fun x8 hf => ?_)
          refine x_goto X (tgt := 27) dX4_averageDistance_72 (by decide) ?_
          cases hf
          refine x_lpick (lv2 := [(0, .ref (ad 0)), (1, .int y1), (2, .long y2), (4, .int y4), (5, .int x8)]) [2, 3, 4, 5, 0] rfl ?_
          exact ih _ _ _ _ _ _ _ hit kk
set_option maxRecDepth 100000 in
set_option maxHeartbeats 4000000 in
theorem met_X4_averageDistance (l : Launch) (hst : l.stackTraces = false) (D : va_G) (kA : Nat → ClassId) (ad : Nat → Nat) (fu : Nat) (w : WS) (a1 : Int32) (v : UInt64) (w1 : WS) (hf : f_X4_averageDistance fu w a1 = some (v, w1)) (sz : Nat) : Met l yX4_averageDistance (wsY yX4_averageDistance cX4_averageDistance 7 (some .double)) rm_X4_averageDistance (va_Pc [.ref (ad 0), .int a1] (PreG D kA (picM kA ad w) sz)) (va_Qd (fun (r : UInt64) (_ : Unit) => r = v) (fun _ t => PosG D (va_A (picM kA ad w) sz) (picM kA ad w1) t) (va_A (picM kA ad w) sz)) 0 0 (va_A (picM kA ad w) sz) := by
  refine metG (own := RX4) hst (by decide +kernel) rfl (Nat.le_of_ble_eq_true rfl) rfl ?_
  intro p e s m below meth c X hr hlk E _
  unfold f_X4_averageDistance at hf
  refine x_aload_n X dX4_averageDistance_0 0 rfl ?_
  refine x_aload_n X dX4_averageDistance_1 0 rfl ?_
  refine x_iload_n X dX4_averageDistance_2 1 rfl ?_
  refine x_iload_n X dX4_averageDistance_3 1 rfl ?_
  obtain ⟨x1, hx1, hf⟩ := bn_some hf
  refine x_callV_i X E (As := [.int a1, .int a1]) (rest := [.ref (ad 0)]) (n := 2) (ws2 := (picM kA ad w)) (goodV w_1051 w_1053 s_40 w_52 w_1054) (met_X4_lookedAt l E.2.2.2 D kA ad fu w a1 a1 x1 hx1) rfl rfl (by decide +kernel) ⟨by decide, by decide⟩ 0 rfl (qc := (RX4, TX4, _)) rfl rfl rfl rfl (Nat.le_of_ble_eq_true rfl) dX4_averageDistance_4 ⟨by decide, by decide⟩ ?_
  refine x_put X E.1.1 (T := TX4) (C := RX4) (ty := .int) inW4 tyX4 tyX4_ok nmX4 0 rfl rfl 0 (by decide) w_830 rfl rfl (by decide +kernel) rfl rfl (Nat.le_of_ble_eq_true rfl) dX4_averageDistance_7 (picM kA ad (wI w 0 0 x1)) rfl ?_
  refine x_nmW (pic := picM kA ad) (u := (wI w 0 0 x1)) hf (fun w2 hf => ?_)
  refine x_aload_n X dX4_averageDistance_10 0 rfl ?_
  refine x_get X E.1.1 (T := TX4) (C := RX4) inW4 0 rfl rfl 0 (by decide) w_830 rfl (v := .int (w2.1 0 0)) rfl dX4_averageDistance_11 ?_
  refine x_nmI hf (fun x3 hf => ?_)
  refine x_if_eq X (tgt := 19) dX4_averageDistance_14 (by decide) hf (fun hf => ?_) (fun hf => ?_)
  · refine x_lconst X (v := 0) dX4_averageDistance_19 (by decide) ?_
    refine x_lstore_n X (lv2 := [(2, .long 0), (0, .ref (ad 0)), (1, .int a1)]) dX4_averageDistance_20 (by decide) rfl ?_
    refine x_iconst X (v := 0) dX4_averageDistance_21 (by decide) ?_
    refine x_istore X (lv2 := [(4, .int 0), (2, .long 0), (0, .ref (ad 0)), (1, .int a1)]) dX4_averageDistance_22 (by decide) rfl ?_
    refine x_iconst X (v := 0) dX4_averageDistance_24 (by decide) ?_
    refine x_istore X (lv2 := [(5, .int 0), (4, .int 0), (2, .long 0), (0, .ref (ad 0)), (1, .int a1)]) dX4_averageDistance_25 (by decide) rfl ?_
    refine x_lpick (lv2 := [(0, .ref (ad 0)), (1, .int a1), (2, .long 0), (4, .int 0), (5, .int 0)]) [3, 4, 2, 1, 0] rfl ?_
    obtain ⟨x4, x5, w6, h7, hf⟩ := bn3_some hf
    refine lp_X4_averageDistance_27 X E fu a1 fu (0 : Int64) (0 : Int32) (0 : Int32) w2 x4 x5 w6 h7 ?_
    refine x_iload X dX4_averageDistance_75 1 rfl ?_
    refine x_if_ne X (tgt := 84) dX4_averageDistance_77 (by decide) hf (fun hf => ?_) (fun hf => ?_)
    · refine x_lload_n X dX4_averageDistance_84 0 rfl ?_
      refine x_l2d X dX4_averageDistance_85 ?_
      refine x_iload X dX4_averageDistance_86 1 rfl ?_
      refine x_i2d X dX4_averageDistance_88 ?_
      refine x_ddiv X dX4_averageDistance_89 hf (fun x8 hf => ?_)
      cases hf
      exact x_dret X hr hlk rfl rfl dX4_averageDistance_90
    · refine x_dconst0 X dX4_averageDistance_80 ?_
      refine x_goto X (tgt := 90) dX4_averageDistance_81 (by decide) ?_
      cases hf
      exact x_dret X hr hlk rfl rfl dX4_averageDistance_90
  · refine x_dconst0 X dX4_averageDistance_17 ?_
    cases hf
    exact x_dret X hr hlk rfl rfl dX4_averageDistance_18
end
section
variable {p : Program} {l : Launch} {e : Env} {s : State} {m : MethodId} {args : Array Value} {below : List Frame} {meth : Method} {c : Code} {D : va_G} {kA : Nat → ClassId} {A : Nat → Prop} {Q : State → Prop} {ad : Nat → Nat}
abbrev rm_X4_detour : Room := { frames := 5, cells := 0, slots := 0, locals := 116 }
set_option maxRecDepth 100000 in
set_option maxHeartbeats 4000000 in
theorem met_X4_detour (l : Launch) (hst : l.stackTraces = false) (D : va_G) (kA : Nat → ClassId) (ad : Nat → Nat) (fu : Nat) (w : WS) (a1 : Int32) (a2 : Int32) (a3 : Int32) (v : Int32) (w1 : WS) (hf : f_X4_detour fu w a1 a2 a3 = some (v, w1)) (sz : Nat) : Met l yX4_detour (wsY yX4_detour cX4_detour 7 (some .int)) rm_X4_detour (va_Pc [.ref (ad 0), .int a1, .int a2, .int a3] (PreG D kA (picM kA ad w) sz)) (va_Qi (fun (r : Int32) (_ : Unit) => r = v) (fun _ t => PosG D (va_A (picM kA ad w) sz) (picM kA ad w1) t) (va_A (picM kA ad w) sz)) 0 0 (va_A (picM kA ad w) sz) := by
  refine metG (own := RX4) hst (by decide +kernel) rfl (Nat.le_of_ble_eq_true rfl) rfl ?_
  intro p e s m below meth c X hr hlk E _
  unfold f_X4_detour at hf
  refine x_aload_n X dX4_detour_0 0 rfl ?_
  refine x_aload_n X dX4_detour_1 0 rfl ?_
  refine x_get X E.1.1 (T := TX4) (C := RX4) inW4 0 rfl rfl 9 (by decide) w_839 rfl (v := .int (w.1 0 9)) rfl dX4_detour_2 ?_
  refine x_nmI hf (fun x1 hf => ?_)
  refine x_if_ne X (tgt := 12) dX4_detour_5 (by decide) hf (fun hf => ?_) (fun hf => ?_)
  · refine x_aload_n X dX4_detour_12 0 rfl ?_
    refine x_iload_n X dX4_detour_13 1 rfl ?_
    obtain ⟨x2, hx2, hf⟩ := bn_some hf
    refine x_callV_i X E (As := [.int a1]) (rest := [.ref (ad 0)]) (n := 1) (ws2 := (picM kA ad w)) (goodV w_943 w_945 s_30 w_52 w_946) (met_X4_isJunction l E.2.2.2 D kA ad fu w a1 x2 hx2) rfl rfl (by decide +kernel) ⟨by decide, by decide⟩ 0 rfl (qc := (RX4, TX4, _)) rfl rfl rfl rfl (Nat.le_of_ble_eq_true rfl) dX4_detour_14 ⟨by decide, by decide⟩ ?_
    refine x_if_eq X (tgt := 36) dX4_detour_17 (by decide) hf (fun hf => ?_) (fun hf => ?_)
    · refine x_iconst X (v := 2) dX4_detour_36 (by decide) ?_
      refine x_goto X (tgt := 41) dX4_detour_37 (by decide) ?_
      refine x_put X E.1.1 (T := TX4) (C := RX4) (ty := .int) inW4 tyX4 tyX4_ok nmX4 0 rfl rfl 0 (by decide) w_830 rfl rfl (by decide +kernel) rfl rfl (Nat.le_of_ble_eq_true rfl) dX4_detour_41 (picM kA ad (wI w 0 0 2)) rfl ?_
      refine x_nmW (pic := picM kA ad) (u := (wI w 0 0 2)) hf (fun w3 hf => ?_)
      refine x_aload_n X dX4_detour_44 0 rfl ?_
      refine x_get X E.1.1 (T := TX4) (C := RX4) inW4 0 rfl rfl 0 (by decide) w_830 rfl (v := .int (w3.1 0 0)) rfl dX4_detour_45 ?_
      refine x_nmI hf (fun x4 hf => ?_)
      refine x_if_eq X (tgt := 53) dX4_detour_48 (by decide) hf (fun hf => ?_) (fun hf => ?_)
      · refine x_aload_n X dX4_detour_53 0 rfl ?_
        refine x_iload_n X dX4_detour_54 1 rfl ?_
        refine x_iload_n X dX4_detour_55 2 rfl ?_
        obtain ⟨x6, w5, hx6, hf⟩ := bn2_some hf
        refine x_callV_i X E (As := [.int a1, .int a2]) (rest := []) (n := 2) (ws2 := (picM kA ad w5)) (goodV w_1055 w_1057 s_41 w_52 w_1058) (met_X4_distanceBetween l E.2.2.2 D kA ad fu w3 a1 a2 x6 w5 hx6) rfl rfl (by decide +kernel) ⟨by decide, by decide⟩ 0 rfl (qc := (RX4, TX4, _)) rfl rfl rfl rfl (Nat.le_of_ble_eq_true rfl) dX4_detour_56 ⟨by decide, by decide⟩ ?_
        refine x_istore X (lv2 := [(4, .int x6), (0, .ref (ad 0)), (1, .int a1), (2, .int a2), (3, .int a3)]) dX4_detour_59 (by decide) rfl ?_
        refine x_iload X dX4_detour_61 0 rfl ?_
        refine x_iconst X (v := (-1)) dX4_detour_63 (by decide) ?_
        refine x_icmp_ne X (tgt := 73) dX4_detour_64 (by decide) hf (fun hf => ?_) (fun hf => ?_)
        · refine x_aload_n X dX4_detour_73 1 rfl ?_
          refine x_get X E.1.1 (T := TX4) (C := RX4) inW4 0 rfl rfl 6 (by decide) w_836 rfl (v := .ref (ad 4)) rfl dX4_detour_74 ?_
          refine x_iload_n X dX4_detour_77 4 rfl ?_
          refine x_zald X E.1.1 4 rfl dX4_detour_78 hf (fun x7 hf => ?_)
          refine x_istore X (lv2 := [(5, .int x7), (4, .int x6), (0, .ref (ad 0)), (1, .int a1), (2, .int a2), (3, .int a3)]) dX4_detour_79 (by decide) rfl ?_
          refine x_aload_n X dX4_detour_81 2 rfl ?_
          refine x_get X E.1.1 (T := TX4) (C := RX4) inW4 0 rfl rfl 6 (by decide) w_836 rfl (v := .ref (ad 4)) rfl dX4_detour_82 ?_
          refine x_iload_n X dX4_detour_85 5 rfl ?_
          refine x_iconst X (v := 0) dX4_detour_86 (by decide) ?_
          refine x_zast X E.1.1 4 rfl dX4_detour_87 hf (picM kA ad) (setM_4 kA ad _ _ _) (fun w8 hf => ?_)
          refine x_aload_n X dX4_detour_88 2 rfl ?_
          refine x_iload_n X dX4_detour_89 3 rfl ?_
          refine x_iload_n X dX4_detour_90 4 rfl ?_
          obtain ⟨x10, w9, hx10, hf⟩ := bn2_some hf
          refine x_callV_i X E (As := [.int a1, .int a2]) (rest := []) (n := 2) (ws2 := (picM kA ad w9)) (goodV w_1055 w_1057 s_41 w_52 w_1058) (met_X4_distanceBetween l E.2.2.2 D kA ad fu w8 a1 a2 x10 w9 hx10) rfl rfl (by decide +kernel) ⟨by decide, by decide⟩ 0 rfl (qc := (RX4, TX4, _)) rfl rfl rfl rfl (Nat.le_of_ble_eq_true rfl) dX4_detour_91 ⟨by decide, by decide⟩ ?_
          refine x_istore X (lv2 := [(6, .int x10), (5, .int x7), (4, .int x6), (0, .ref (ad 0)), (1, .int a1), (2, .int a2), (3, .int a3)]) dX4_detour_94 (by decide) rfl ?_
          refine x_aload_n X dX4_detour_96 3 rfl ?_
          refine x_get X E.1.1 (T := TX4) (C := RX4) inW4 0 rfl rfl 6 (by decide) w_836 rfl (v := .ref (ad 4)) rfl dX4_detour_97 ?_
          refine x_iload_n X dX4_detour_100 6 rfl ?_
          refine x_iload X dX4_detour_101 1 rfl ?_
          refine x_zast X E.1.1 4 rfl dX4_detour_103 hf (picM kA ad) (setM_4 kA ad _ _ _) (fun w11 hf => ?_)
          refine x_iload X dX4_detour_104 0 rfl ?_
          refine x_iconst X (v := (-1)) dX4_detour_106 (by decide) ?_
          refine x_icmp_ne X (tgt := 114) dX4_detour_107 (by decide) hf (fun hf => ?_) (fun hf => ?_)
          · refine x_iload X dX4_detour_114 0 rfl ?_
            refine x_iload X dX4_detour_116 2 rfl ?_
            refine x_isub X dX4_detour_118 ?_
            cases hf
            exact x_iret X hr hlk rfl rfl dX4_detour_119
          · refine x_iconst X (v := (-1)) dX4_detour_110 (by decide) ?_
            refine x_goto X (tgt := 119) dX4_detour_111 (by decide) ?_
            cases hf
            exact x_iret X hr hlk rfl rfl dX4_detour_119
        · refine x_aload_n X dX4_detour_67 1 rfl ?_
          refine x_iconst X (v := 3) dX4_detour_68 (by decide) ?_
          obtain ⟨x13, w12, hx13, hf⟩ := bn2_some hf
          refine x_callV_i X E (As := [.int 3]) (rest := []) (n := 1) (ws2 := (picM kA ad w12)) (goodV w_935 w_937 s_29 w_52 w_938) (met_X4_fail l E.2.2.2 D kA ad fu w5 (3 : Int32) x13 w12 hx13) rfl rfl (by decide +kernel) ⟨by decide, by decide⟩ 0 rfl (qc := (RX4, TX4, _)) rfl rfl rfl rfl (Nat.le_of_ble_eq_true rfl) dX4_detour_69 ⟨by decide, by decide⟩ ?_
          cases hf
          exact x_iret X hr hlk rfl rfl dX4_detour_72
      · refine x_iconst X (v := 0) dX4_detour_51 (by decide) ?_
        cases hf
        exact x_iret X hr hlk rfl rfl dX4_detour_52
    · refine x_aload_n X dX4_detour_20 0 rfl ?_
      refine x_iload_n X dX4_detour_21 2 rfl ?_
      obtain ⟨x14, hx14, hf⟩ := bn_some hf
      refine x_callV_i X E (As := [.int a2]) (rest := [.ref (ad 0)]) (n := 1) (ws2 := (picM kA ad w)) (goodV w_943 w_945 s_30 w_52 w_946) (met_X4_isJunction l E.2.2.2 D kA ad fu w a2 x14 hx14) rfl rfl (by decide +kernel) ⟨by decide, by decide⟩ 0 rfl (qc := (RX4, TX4, _)) rfl rfl rfl rfl (Nat.le_of_ble_eq_true rfl) dX4_detour_22 ⟨by decide, by decide⟩ ?_
      refine x_if_eq X (tgt := 36) dX4_detour_25 (by decide) hf (fun hf => ?_) (fun hf => ?_)
      · refine x_iconst X (v := 2) dX4_detour_36 (by decide) ?_
        refine x_goto X (tgt := 41) dX4_detour_37 (by decide) ?_
        refine x_put X E.1.1 (T := TX4) (C := RX4) (ty := .int) inW4 tyX4 tyX4_ok nmX4 0 rfl rfl 0 (by decide) w_830 rfl rfl (by decide +kernel) rfl rfl (Nat.le_of_ble_eq_true rfl) dX4_detour_41 (picM kA ad (wI w 0 0 2)) rfl ?_
        refine x_nmW (pic := picM kA ad) (u := (wI w 0 0 2)) hf (fun w15 hf => ?_)
        refine x_aload_n X dX4_detour_44 0 rfl ?_
        refine x_get X E.1.1 (T := TX4) (C := RX4) inW4 0 rfl rfl 0 (by decide) w_830 rfl (v := .int (w15.1 0 0)) rfl dX4_detour_45 ?_
        refine x_nmI hf (fun x16 hf => ?_)
        refine x_if_eq X (tgt := 53) dX4_detour_48 (by decide) hf (fun hf => ?_) (fun hf => ?_)
        · refine x_aload_n X dX4_detour_53 0 rfl ?_
          refine x_iload_n X dX4_detour_54 1 rfl ?_
          refine x_iload_n X dX4_detour_55 2 rfl ?_
          obtain ⟨x18, w17, hx18, hf⟩ := bn2_some hf
          refine x_callV_i X E (As := [.int a1, .int a2]) (rest := []) (n := 2) (ws2 := (picM kA ad w17)) (goodV w_1055 w_1057 s_41 w_52 w_1058) (met_X4_distanceBetween l E.2.2.2 D kA ad fu w15 a1 a2 x18 w17 hx18) rfl rfl (by decide +kernel) ⟨by decide, by decide⟩ 0 rfl (qc := (RX4, TX4, _)) rfl rfl rfl rfl (Nat.le_of_ble_eq_true rfl) dX4_detour_56 ⟨by decide, by decide⟩ ?_
          refine x_istore X (lv2 := [(4, .int x18), (0, .ref (ad 0)), (1, .int a1), (2, .int a2), (3, .int a3)]) dX4_detour_59 (by decide) rfl ?_
          refine x_iload X dX4_detour_61 0 rfl ?_
          refine x_iconst X (v := (-1)) dX4_detour_63 (by decide) ?_
          refine x_icmp_ne X (tgt := 73) dX4_detour_64 (by decide) hf (fun hf => ?_) (fun hf => ?_)
          · refine x_aload_n X dX4_detour_73 1 rfl ?_
            refine x_get X E.1.1 (T := TX4) (C := RX4) inW4 0 rfl rfl 6 (by decide) w_836 rfl (v := .ref (ad 4)) rfl dX4_detour_74 ?_
            refine x_iload_n X dX4_detour_77 4 rfl ?_
            refine x_zald X E.1.1 4 rfl dX4_detour_78 hf (fun x19 hf => ?_)
            refine x_istore X (lv2 := [(5, .int x19), (4, .int x18), (0, .ref (ad 0)), (1, .int a1), (2, .int a2), (3, .int a3)]) dX4_detour_79 (by decide) rfl ?_
            refine x_aload_n X dX4_detour_81 2 rfl ?_
            refine x_get X E.1.1 (T := TX4) (C := RX4) inW4 0 rfl rfl 6 (by decide) w_836 rfl (v := .ref (ad 4)) rfl dX4_detour_82 ?_
            refine x_iload_n X dX4_detour_85 5 rfl ?_
            refine x_iconst X (v := 0) dX4_detour_86 (by decide) ?_
            refine x_zast X E.1.1 4 rfl dX4_detour_87 hf (picM kA ad) (setM_4 kA ad _ _ _) (fun w20 hf => ?_)
            refine x_aload_n X dX4_detour_88 2 rfl ?_
            refine x_iload_n X dX4_detour_89 3 rfl ?_
            refine x_iload_n X dX4_detour_90 4 rfl ?_
            obtain ⟨x22, w21, hx22, hf⟩ := bn2_some hf
            refine x_callV_i X E (As := [.int a1, .int a2]) (rest := []) (n := 2) (ws2 := (picM kA ad w21)) (goodV w_1055 w_1057 s_41 w_52 w_1058) (met_X4_distanceBetween l E.2.2.2 D kA ad fu w20 a1 a2 x22 w21 hx22) rfl rfl (by decide +kernel) ⟨by decide, by decide⟩ 0 rfl (qc := (RX4, TX4, _)) rfl rfl rfl rfl (Nat.le_of_ble_eq_true rfl) dX4_detour_91 ⟨by decide, by decide⟩ ?_
            refine x_istore X (lv2 := [(6, .int x22), (5, .int x19), (4, .int x18), (0, .ref (ad 0)), (1, .int a1), (2, .int a2), (3, .int a3)]) dX4_detour_94 (by decide) rfl ?_
            refine x_aload_n X dX4_detour_96 3 rfl ?_
            refine x_get X E.1.1 (T := TX4) (C := RX4) inW4 0 rfl rfl 6 (by decide) w_836 rfl (v := .ref (ad 4)) rfl dX4_detour_97 ?_
            refine x_iload_n X dX4_detour_100 6 rfl ?_
            refine x_iload X dX4_detour_101 1 rfl ?_
            refine x_zast X E.1.1 4 rfl dX4_detour_103 hf (picM kA ad) (setM_4 kA ad _ _ _) (fun w23 hf => ?_)
            refine x_iload X dX4_detour_104 0 rfl ?_
            refine x_iconst X (v := (-1)) dX4_detour_106 (by decide) ?_
            refine x_icmp_ne X (tgt := 114) dX4_detour_107 (by decide) hf (fun hf => ?_) (fun hf => ?_)
            · refine x_iload X dX4_detour_114 0 rfl ?_
              refine x_iload X dX4_detour_116 2 rfl ?_
              refine x_isub X dX4_detour_118 ?_
              cases hf
              exact x_iret X hr hlk rfl rfl dX4_detour_119
            · refine x_iconst X (v := (-1)) dX4_detour_110 (by decide) ?_
              refine x_goto X (tgt := 119) dX4_detour_111 (by decide) ?_
              cases hf
              exact x_iret X hr hlk rfl rfl dX4_detour_119
          · refine x_aload_n X dX4_detour_67 1 rfl ?_
            refine x_iconst X (v := 3) dX4_detour_68 (by decide) ?_
            obtain ⟨x25, w24, hx25, hf⟩ := bn2_some hf
            refine x_callV_i X E (As := [.int 3]) (rest := []) (n := 1) (ws2 := (picM kA ad w24)) (goodV w_935 w_937 s_29 w_52 w_938) (met_X4_fail l E.2.2.2 D kA ad fu w17 (3 : Int32) x25 w24 hx25) rfl rfl (by decide +kernel) ⟨by decide, by decide⟩ 0 rfl (qc := (RX4, TX4, _)) rfl rfl rfl rfl (Nat.le_of_ble_eq_true rfl) dX4_detour_69 ⟨by decide, by decide⟩ ?_
            cases hf
            exact x_iret X hr hlk rfl rfl dX4_detour_72
        · refine x_iconst X (v := 0) dX4_detour_51 (by decide) ?_
          cases hf
          exact x_iret X hr hlk rfl rfl dX4_detour_52
      · refine x_aload_n X dX4_detour_28 0 rfl ?_
        refine x_iload_n X dX4_detour_29 3 rfl ?_
        obtain ⟨x26, hx26, hf⟩ := bn_some hf
        refine x_callV_i X E (As := [.int a3]) (rest := [.ref (ad 0)]) (n := 1) (ws2 := (picM kA ad w)) (goodV w_951 w_953 s_31 w_52 w_954) (met_X4_isRoad l E.2.2.2 D kA ad fu w a3 x26 hx26) rfl rfl (by decide +kernel) ⟨by decide, by decide⟩ 0 rfl (qc := (RX4, TX4, _)) rfl rfl rfl rfl (Nat.le_of_ble_eq_true rfl) dX4_detour_30 ⟨by decide, by decide⟩ ?_
        refine x_if_ne X (tgt := 40) dX4_detour_33 (by decide) hf (fun hf => ?_) (fun hf => ?_)
        · refine x_iconst X (v := 0) dX4_detour_40 (by decide) ?_
          refine x_put X E.1.1 (T := TX4) (C := RX4) (ty := .int) inW4 tyX4 tyX4_ok nmX4 0 rfl rfl 0 (by decide) w_830 rfl rfl (by decide +kernel) rfl rfl (Nat.le_of_ble_eq_true rfl) dX4_detour_41 (picM kA ad (wI w 0 0 0)) rfl ?_
          refine x_nmW (pic := picM kA ad) (u := (wI w 0 0 0)) hf (fun w27 hf => ?_)
          refine x_aload_n X dX4_detour_44 0 rfl ?_
          refine x_get X E.1.1 (T := TX4) (C := RX4) inW4 0 rfl rfl 0 (by decide) w_830 rfl (v := .int (w27.1 0 0)) rfl dX4_detour_45 ?_
          refine x_nmI hf (fun x28 hf => ?_)
          refine x_if_eq X (tgt := 53) dX4_detour_48 (by decide) hf (fun hf => ?_) (fun hf => ?_)
          · refine x_aload_n X dX4_detour_53 0 rfl ?_
            refine x_iload_n X dX4_detour_54 1 rfl ?_
            refine x_iload_n X dX4_detour_55 2 rfl ?_
            obtain ⟨x30, w29, hx30, hf⟩ := bn2_some hf
            refine x_callV_i X E (As := [.int a1, .int a2]) (rest := []) (n := 2) (ws2 := (picM kA ad w29)) (goodV w_1055 w_1057 s_41 w_52 w_1058) (met_X4_distanceBetween l E.2.2.2 D kA ad fu w27 a1 a2 x30 w29 hx30) rfl rfl (by decide +kernel) ⟨by decide, by decide⟩ 0 rfl (qc := (RX4, TX4, _)) rfl rfl rfl rfl (Nat.le_of_ble_eq_true rfl) dX4_detour_56 ⟨by decide, by decide⟩ ?_
            refine x_istore X (lv2 := [(4, .int x30), (0, .ref (ad 0)), (1, .int a1), (2, .int a2), (3, .int a3)]) dX4_detour_59 (by decide) rfl ?_
            refine x_iload X dX4_detour_61 0 rfl ?_
            refine x_iconst X (v := (-1)) dX4_detour_63 (by decide) ?_
            refine x_icmp_ne X (tgt := 73) dX4_detour_64 (by decide) hf (fun hf => ?_) (fun hf => ?_)
            · refine x_aload_n X dX4_detour_73 1 rfl ?_
              refine x_get X E.1.1 (T := TX4) (C := RX4) inW4 0 rfl rfl 6 (by decide) w_836 rfl (v := .ref (ad 4)) rfl dX4_detour_74 ?_
              refine x_iload_n X dX4_detour_77 4 rfl ?_
              refine x_zald X E.1.1 4 rfl dX4_detour_78 hf (fun x31 hf => ?_)
              refine x_istore X (lv2 := [(5, .int x31), (4, .int x30), (0, .ref (ad 0)), (1, .int a1), (2, .int a2), (3, .int a3)]) dX4_detour_79 (by decide) rfl ?_
              refine x_aload_n X dX4_detour_81 2 rfl ?_
              refine x_get X E.1.1 (T := TX4) (C := RX4) inW4 0 rfl rfl 6 (by decide) w_836 rfl (v := .ref (ad 4)) rfl dX4_detour_82 ?_
              refine x_iload_n X dX4_detour_85 5 rfl ?_
              refine x_iconst X (v := 0) dX4_detour_86 (by decide) ?_
              refine x_zast X E.1.1 4 rfl dX4_detour_87 hf (picM kA ad) (setM_4 kA ad _ _ _) (fun w32 hf => ?_)
              refine x_aload_n X dX4_detour_88 2 rfl ?_
              refine x_iload_n X dX4_detour_89 3 rfl ?_
              refine x_iload_n X dX4_detour_90 4 rfl ?_
              obtain ⟨x34, w33, hx34, hf⟩ := bn2_some hf
              refine x_callV_i X E (As := [.int a1, .int a2]) (rest := []) (n := 2) (ws2 := (picM kA ad w33)) (goodV w_1055 w_1057 s_41 w_52 w_1058) (met_X4_distanceBetween l E.2.2.2 D kA ad fu w32 a1 a2 x34 w33 hx34) rfl rfl (by decide +kernel) ⟨by decide, by decide⟩ 0 rfl (qc := (RX4, TX4, _)) rfl rfl rfl rfl (Nat.le_of_ble_eq_true rfl) dX4_detour_91 ⟨by decide, by decide⟩ ?_
              refine x_istore X (lv2 := [(6, .int x34), (5, .int x31), (4, .int x30), (0, .ref (ad 0)), (1, .int a1), (2, .int a2), (3, .int a3)]) dX4_detour_94 (by decide) rfl ?_
              refine x_aload_n X dX4_detour_96 3 rfl ?_
              refine x_get X E.1.1 (T := TX4) (C := RX4) inW4 0 rfl rfl 6 (by decide) w_836 rfl (v := .ref (ad 4)) rfl dX4_detour_97 ?_
              refine x_iload_n X dX4_detour_100 6 rfl ?_
              refine x_iload X dX4_detour_101 1 rfl ?_
              refine x_zast X E.1.1 4 rfl dX4_detour_103 hf (picM kA ad) (setM_4 kA ad _ _ _) (fun w35 hf => ?_)
              refine x_iload X dX4_detour_104 0 rfl ?_
              refine x_iconst X (v := (-1)) dX4_detour_106 (by decide) ?_
              refine x_icmp_ne X (tgt := 114) dX4_detour_107 (by decide) hf (fun hf => ?_) (fun hf => ?_)
              · refine x_iload X dX4_detour_114 0 rfl ?_
                refine x_iload X dX4_detour_116 2 rfl ?_
                refine x_isub X dX4_detour_118 ?_
                cases hf
                exact x_iret X hr hlk rfl rfl dX4_detour_119
              · refine x_iconst X (v := (-1)) dX4_detour_110 (by decide) ?_
                refine x_goto X (tgt := 119) dX4_detour_111 (by decide) ?_
                cases hf
                exact x_iret X hr hlk rfl rfl dX4_detour_119
            · refine x_aload_n X dX4_detour_67 1 rfl ?_
              refine x_iconst X (v := 3) dX4_detour_68 (by decide) ?_
              obtain ⟨x37, w36, hx37, hf⟩ := bn2_some hf
              refine x_callV_i X E (As := [.int 3]) (rest := []) (n := 1) (ws2 := (picM kA ad w36)) (goodV w_935 w_937 s_29 w_52 w_938) (met_X4_fail l E.2.2.2 D kA ad fu w29 (3 : Int32) x37 w36 hx37) rfl rfl (by decide +kernel) ⟨by decide, by decide⟩ 0 rfl (qc := (RX4, TX4, _)) rfl rfl rfl rfl (Nat.le_of_ble_eq_true rfl) dX4_detour_69 ⟨by decide, by decide⟩ ?_
              cases hf
              exact x_iret X hr hlk rfl rfl dX4_detour_72
          · refine x_iconst X (v := 0) dX4_detour_51 (by decide) ?_
            cases hf
            exact x_iret X hr hlk rfl rfl dX4_detour_52
        · refine x_iconst X (v := 2) dX4_detour_36 (by decide) ?_
          refine x_goto X (tgt := 41) dX4_detour_37 (by decide) ?_
          refine x_put X E.1.1 (T := TX4) (C := RX4) (ty := .int) inW4 tyX4 tyX4_ok nmX4 0 rfl rfl 0 (by decide) w_830 rfl rfl (by decide +kernel) rfl rfl (Nat.le_of_ble_eq_true rfl) dX4_detour_41 (picM kA ad (wI w 0 0 2)) rfl ?_
          refine x_nmW (pic := picM kA ad) (u := (wI w 0 0 2)) hf (fun w38 hf => ?_)
          refine x_aload_n X dX4_detour_44 0 rfl ?_
          refine x_get X E.1.1 (T := TX4) (C := RX4) inW4 0 rfl rfl 0 (by decide) w_830 rfl (v := .int (w38.1 0 0)) rfl dX4_detour_45 ?_
          refine x_nmI hf (fun x39 hf => ?_)
          refine x_if_eq X (tgt := 53) dX4_detour_48 (by decide) hf (fun hf => ?_) (fun hf => ?_)
          · refine x_aload_n X dX4_detour_53 0 rfl ?_
            refine x_iload_n X dX4_detour_54 1 rfl ?_
            refine x_iload_n X dX4_detour_55 2 rfl ?_
            obtain ⟨x41, w40, hx41, hf⟩ := bn2_some hf
            refine x_callV_i X E (As := [.int a1, .int a2]) (rest := []) (n := 2) (ws2 := (picM kA ad w40)) (goodV w_1055 w_1057 s_41 w_52 w_1058) (met_X4_distanceBetween l E.2.2.2 D kA ad fu w38 a1 a2 x41 w40 hx41) rfl rfl (by decide +kernel) ⟨by decide, by decide⟩ 0 rfl (qc := (RX4, TX4, _)) rfl rfl rfl rfl (Nat.le_of_ble_eq_true rfl) dX4_detour_56 ⟨by decide, by decide⟩ ?_
            refine x_istore X (lv2 := [(4, .int x41), (0, .ref (ad 0)), (1, .int a1), (2, .int a2), (3, .int a3)]) dX4_detour_59 (by decide) rfl ?_
            refine x_iload X dX4_detour_61 0 rfl ?_
            refine x_iconst X (v := (-1)) dX4_detour_63 (by decide) ?_
            refine x_icmp_ne X (tgt := 73) dX4_detour_64 (by decide) hf (fun hf => ?_) (fun hf => ?_)
            · refine x_aload_n X dX4_detour_73 1 rfl ?_
              refine x_get X E.1.1 (T := TX4) (C := RX4) inW4 0 rfl rfl 6 (by decide) w_836 rfl (v := .ref (ad 4)) rfl dX4_detour_74 ?_
              refine x_iload_n X dX4_detour_77 4 rfl ?_
              refine x_zald X E.1.1 4 rfl dX4_detour_78 hf (fun x42 hf => ?_)
              refine x_istore X (lv2 := [(5, .int x42), (4, .int x41), (0, .ref (ad 0)), (1, .int a1), (2, .int a2), (3, .int a3)]) dX4_detour_79 (by decide) rfl ?_
              refine x_aload_n X dX4_detour_81 2 rfl ?_
              refine x_get X E.1.1 (T := TX4) (C := RX4) inW4 0 rfl rfl 6 (by decide) w_836 rfl (v := .ref (ad 4)) rfl dX4_detour_82 ?_
              refine x_iload_n X dX4_detour_85 5 rfl ?_
              refine x_iconst X (v := 0) dX4_detour_86 (by decide) ?_
              refine x_zast X E.1.1 4 rfl dX4_detour_87 hf (picM kA ad) (setM_4 kA ad _ _ _) (fun w43 hf => ?_)
              refine x_aload_n X dX4_detour_88 2 rfl ?_
              refine x_iload_n X dX4_detour_89 3 rfl ?_
              refine x_iload_n X dX4_detour_90 4 rfl ?_
              obtain ⟨x45, w44, hx45, hf⟩ := bn2_some hf
              refine x_callV_i X E (As := [.int a1, .int a2]) (rest := []) (n := 2) (ws2 := (picM kA ad w44)) (goodV w_1055 w_1057 s_41 w_52 w_1058) (met_X4_distanceBetween l E.2.2.2 D kA ad fu w43 a1 a2 x45 w44 hx45) rfl rfl (by decide +kernel) ⟨by decide, by decide⟩ 0 rfl (qc := (RX4, TX4, _)) rfl rfl rfl rfl (Nat.le_of_ble_eq_true rfl) dX4_detour_91 ⟨by decide, by decide⟩ ?_
              refine x_istore X (lv2 := [(6, .int x45), (5, .int x42), (4, .int x41), (0, .ref (ad 0)), (1, .int a1), (2, .int a2), (3, .int a3)]) dX4_detour_94 (by decide) rfl ?_
              refine x_aload_n X dX4_detour_96 3 rfl ?_
              refine x_get X E.1.1 (T := TX4) (C := RX4) inW4 0 rfl rfl 6 (by decide) w_836 rfl (v := .ref (ad 4)) rfl dX4_detour_97 ?_
              refine x_iload_n X dX4_detour_100 6 rfl ?_
              refine x_iload X dX4_detour_101 1 rfl ?_
              refine x_zast X E.1.1 4 rfl dX4_detour_103 hf (picM kA ad) (setM_4 kA ad _ _ _) (fun w46 hf => ?_)
              refine x_iload X dX4_detour_104 0 rfl ?_
              refine x_iconst X (v := (-1)) dX4_detour_106 (by decide) ?_
              refine x_icmp_ne X (tgt := 114) dX4_detour_107 (by decide) hf (fun hf => ?_) (fun hf => ?_)
              · refine x_iload X dX4_detour_114 0 rfl ?_
                refine x_iload X dX4_detour_116 2 rfl ?_
                refine x_isub X dX4_detour_118 ?_
                cases hf
                exact x_iret X hr hlk rfl rfl dX4_detour_119
              · refine x_iconst X (v := (-1)) dX4_detour_110 (by decide) ?_
                refine x_goto X (tgt := 119) dX4_detour_111 (by decide) ?_
                cases hf
                exact x_iret X hr hlk rfl rfl dX4_detour_119
            · refine x_aload_n X dX4_detour_67 1 rfl ?_
              refine x_iconst X (v := 3) dX4_detour_68 (by decide) ?_
              obtain ⟨x48, w47, hx48, hf⟩ := bn2_some hf
              refine x_callV_i X E (As := [.int 3]) (rest := []) (n := 1) (ws2 := (picM kA ad w47)) (goodV w_935 w_937 s_29 w_52 w_938) (met_X4_fail l E.2.2.2 D kA ad fu w40 (3 : Int32) x48 w47 hx48) rfl rfl (by decide +kernel) ⟨by decide, by decide⟩ 0 rfl (qc := (RX4, TX4, _)) rfl rfl rfl rfl (Nat.le_of_ble_eq_true rfl) dX4_detour_69 ⟨by decide, by decide⟩ ?_
              cases hf
              exact x_iret X hr hlk rfl rfl dX4_detour_72
          · refine x_iconst X (v := 0) dX4_detour_51 (by decide) ?_
            cases hf
            exact x_iret X hr hlk rfl rfl dX4_detour_52
  · refine x_iconst X (v := 1) dX4_detour_8 (by decide) ?_
    refine x_goto X (tgt := 41) dX4_detour_9 (by decide) ?_
    refine x_put X E.1.1 (T := TX4) (C := RX4) (ty := .int) inW4 tyX4 tyX4_ok nmX4 0 rfl rfl 0 (by decide) w_830 rfl rfl (by decide +kernel) rfl rfl (Nat.le_of_ble_eq_true rfl) dX4_detour_41 (picM kA ad (wI w 0 0 1)) rfl ?_
    refine x_nmW (pic := picM kA ad) (u := (wI w 0 0 1)) hf (fun w49 hf => ?_)
    refine x_aload_n X dX4_detour_44 0 rfl ?_
    refine x_get X E.1.1 (T := TX4) (C := RX4) inW4 0 rfl rfl 0 (by decide) w_830 rfl (v := .int (w49.1 0 0)) rfl dX4_detour_45 ?_
    refine x_nmI hf (fun x50 hf => ?_)
    refine x_if_eq X (tgt := 53) dX4_detour_48 (by decide) hf (fun hf => ?_) (fun hf => ?_)
    · refine x_aload_n X dX4_detour_53 0 rfl ?_
      refine x_iload_n X dX4_detour_54 1 rfl ?_
      refine x_iload_n X dX4_detour_55 2 rfl ?_
      obtain ⟨x52, w51, hx52, hf⟩ := bn2_some hf
      refine x_callV_i X E (As := [.int a1, .int a2]) (rest := []) (n := 2) (ws2 := (picM kA ad w51)) (goodV w_1055 w_1057 s_41 w_52 w_1058) (met_X4_distanceBetween l E.2.2.2 D kA ad fu w49 a1 a2 x52 w51 hx52) rfl rfl (by decide +kernel) ⟨by decide, by decide⟩ 0 rfl (qc := (RX4, TX4, _)) rfl rfl rfl rfl (Nat.le_of_ble_eq_true rfl) dX4_detour_56 ⟨by decide, by decide⟩ ?_
      refine x_istore X (lv2 := [(4, .int x52), (0, .ref (ad 0)), (1, .int a1), (2, .int a2), (3, .int a3)]) dX4_detour_59 (by decide) rfl ?_
      refine x_iload X dX4_detour_61 0 rfl ?_
      refine x_iconst X (v := (-1)) dX4_detour_63 (by decide) ?_
      refine x_icmp_ne X (tgt := 73) dX4_detour_64 (by decide) hf (fun hf => ?_) (fun hf => ?_)
      · refine x_aload_n X dX4_detour_73 1 rfl ?_
        refine x_get X E.1.1 (T := TX4) (C := RX4) inW4 0 rfl rfl 6 (by decide) w_836 rfl (v := .ref (ad 4)) rfl dX4_detour_74 ?_
        refine x_iload_n X dX4_detour_77 4 rfl ?_
        refine x_zald X E.1.1 4 rfl dX4_detour_78 hf (fun x53 hf => ?_)
        refine x_istore X (lv2 := [(5, .int x53), (4, .int x52), (0, .ref (ad 0)), (1, .int a1), (2, .int a2), (3, .int a3)]) dX4_detour_79 (by decide) rfl ?_
        refine x_aload_n X dX4_detour_81 2 rfl ?_
        refine x_get X E.1.1 (T := TX4) (C := RX4) inW4 0 rfl rfl 6 (by decide) w_836 rfl (v := .ref (ad 4)) rfl dX4_detour_82 ?_
        refine x_iload_n X dX4_detour_85 5 rfl ?_
        refine x_iconst X (v := 0) dX4_detour_86 (by decide) ?_
        refine x_zast X E.1.1 4 rfl dX4_detour_87 hf (picM kA ad) (setM_4 kA ad _ _ _) (fun w54 hf => ?_)
        refine x_aload_n X dX4_detour_88 2 rfl ?_
        refine x_iload_n X dX4_detour_89 3 rfl ?_
        refine x_iload_n X dX4_detour_90 4 rfl ?_
        obtain ⟨x56, w55, hx56, hf⟩ := bn2_some hf
        refine x_callV_i X E (As := [.int a1, .int a2]) (rest := []) (n := 2) (ws2 := (picM kA ad w55)) (goodV w_1055 w_1057 s_41 w_52 w_1058) (met_X4_distanceBetween l E.2.2.2 D kA ad fu w54 a1 a2 x56 w55 hx56) rfl rfl (by decide +kernel) ⟨by decide, by decide⟩ 0 rfl (qc := (RX4, TX4, _)) rfl rfl rfl rfl (Nat.le_of_ble_eq_true rfl) dX4_detour_91 ⟨by decide, by decide⟩ ?_
        refine x_istore X (lv2 := [(6, .int x56), (5, .int x53), (4, .int x52), (0, .ref (ad 0)), (1, .int a1), (2, .int a2), (3, .int a3)]) dX4_detour_94 (by decide) rfl ?_
        refine x_aload_n X dX4_detour_96 3 rfl ?_
        refine x_get X E.1.1 (T := TX4) (C := RX4) inW4 0 rfl rfl 6 (by decide) w_836 rfl (v := .ref (ad 4)) rfl dX4_detour_97 ?_
        refine x_iload_n X dX4_detour_100 6 rfl ?_
        refine x_iload X dX4_detour_101 1 rfl ?_
        refine x_zast X E.1.1 4 rfl dX4_detour_103 hf (picM kA ad) (setM_4 kA ad _ _ _) (fun w57 hf => ?_)
        refine x_iload X dX4_detour_104 0 rfl ?_
        refine x_iconst X (v := (-1)) dX4_detour_106 (by decide) ?_
        refine x_icmp_ne X (tgt := 114) dX4_detour_107 (by decide) hf (fun hf => ?_) (fun hf => ?_)
        · refine x_iload X dX4_detour_114 0 rfl ?_
          refine x_iload X dX4_detour_116 2 rfl ?_
          refine x_isub X dX4_detour_118 ?_
          cases hf
          exact x_iret X hr hlk rfl rfl dX4_detour_119
        · refine x_iconst X (v := (-1)) dX4_detour_110 (by decide) ?_
          refine x_goto X (tgt := 119) dX4_detour_111 (by decide) ?_
          cases hf
          exact x_iret X hr hlk rfl rfl dX4_detour_119
      · refine x_aload_n X dX4_detour_67 1 rfl ?_
        refine x_iconst X (v := 3) dX4_detour_68 (by decide) ?_
        obtain ⟨x59, w58, hx59, hf⟩ := bn2_some hf
        refine x_callV_i X E (As := [.int 3]) (rest := []) (n := 1) (ws2 := (picM kA ad w58)) (goodV w_935 w_937 s_29 w_52 w_938) (met_X4_fail l E.2.2.2 D kA ad fu w51 (3 : Int32) x59 w58 hx59) rfl rfl (by decide +kernel) ⟨by decide, by decide⟩ 0 rfl (qc := (RX4, TX4, _)) rfl rfl rfl rfl (Nat.le_of_ble_eq_true rfl) dX4_detour_69 ⟨by decide, by decide⟩ ?_
        cases hf
        exact x_iret X hr hlk rfl rfl dX4_detour_72
    · refine x_iconst X (v := 0) dX4_detour_51 (by decide) ?_
      cases hf
      exact x_iret X hr hlk rfl rfl dX4_detour_52
end
section
variable {p : Program} {l : Launch} {e : Env} {s : State} {m : MethodId} {args : Array Value} {below : List Frame} {meth : Method} {c : Code} {D : va_G} {kA : Nat → ClassId} {A : Nat → Prop} {Q : State → Prop} {ad : Nat → Nat}
abbrev rm_X4_setPlace : Room := { frames := 1, cells := 0, slots := 0, locals := 21 }
set_option maxRecDepth 100000 in
set_option maxHeartbeats 4000000 in
theorem met_X4_setPlace (l : Launch) (hst : l.stackTraces = false) (D : va_G) (kA : Nat → ClassId) (ad : Nat → Nat) (fu : Nat) (w : WS) (a1 : Int32) (a2 : Int32) (a3 : Int32) (v : Int32) (w1 : WS) (hf : f_X4_setPlace fu w a1 a2 a3 = some (v, w1)) (sz : Nat) : Met l yX4_setPlace (wsY yX4_setPlace cX4_setPlace 5 (some .boolean)) rm_X4_setPlace (va_Pc [.ref (ad 0), .int a1, .int a2, .int a3] (PreG D kA (picM kA ad w) sz)) (va_Qi (fun (r : Int32) (_ : Unit) => r = v) (fun _ t => PosG D (va_A (picM kA ad w) sz) (picM kA ad w1) t) (va_A (picM kA ad w) sz)) 0 0 (va_A (picM kA ad w) sz) := by
  refine metG (own := RX4) hst (by decide +kernel) rfl (Nat.le_of_ble_eq_true rfl) rfl ?_
  intro p e s m below meth c X hr hlk E _
  unfold f_X4_setPlace at hf
  refine x_aload_n X dX4_setPlace_0 0 rfl ?_
  refine x_iconst X (v := 0) dX4_setPlace_1 (by decide) ?_
  refine x_put X E.1.1 (T := TX4) (C := RX4) (ty := .int) inW4 tyX4 tyX4_ok nmX4 0 rfl rfl 0 (by decide) w_830 rfl rfl (by decide +kernel) rfl rfl (Nat.le_of_ble_eq_true rfl) dX4_setPlace_2 (picM kA ad (wI w 0 0 0)) rfl ?_
  refine x_nmW (pic := picM kA ad) (u := (wI w 0 0 0)) hf (fun w1 hf => ?_)
  refine x_aload_n X dX4_setPlace_5 0 rfl ?_
  refine x_iload_n X dX4_setPlace_6 1 rfl ?_
  obtain ⟨x2, hx2, hf⟩ := bn_some hf
  refine x_callV_i X E (As := [.int a1]) (rest := []) (n := 1) (ws2 := (picM kA ad w1)) (goodV w_943 w_945 s_30 w_52 w_946) (met_X4_isJunction l E.2.2.2 D kA ad fu w1 a1 x2 hx2) rfl rfl (by decide +kernel) ⟨by decide, by decide⟩ 0 rfl (qc := (RX4, TX4, _)) rfl rfl rfl rfl (Nat.le_of_ble_eq_true rfl) dX4_setPlace_7 ⟨by decide, by decide⟩ ?_
  refine x_if_eq X (tgt := 22) dX4_setPlace_10 (by decide) hf (fun hf => ?_) (fun hf => ?_)
  · refine x_aload_n X dX4_setPlace_22 0 rfl ?_
    refine x_iconst X (v := 1) dX4_setPlace_23 (by decide) ?_
    obtain ⟨x4, w3, hx4, hf⟩ := bn2_some hf
    refine x_callV_i X E (As := [.int 1]) (rest := []) (n := 1) (ws2 := (picM kA ad w3)) (goodV w_935 w_937 s_29 w_52 w_938) (met_X4_fail l E.2.2.2 D kA ad fu w1 (1 : Int32) x4 w3 hx4) rfl rfl (by decide +kernel) ⟨by decide, by decide⟩ 0 rfl (qc := (RX4, TX4, _)) rfl rfl rfl rfl (Nat.le_of_ble_eq_true rfl) dX4_setPlace_24 ⟨by decide, by decide⟩ ?_
    refine x_if_eq X (tgt := 34) dX4_setPlace_27 (by decide) hf (fun hf => ?_) (fun hf => ?_)
    · refine x_iconst X (v := 0) dX4_setPlace_34 (by decide) ?_
      cases hf
      exact x_zret X hr hlk rfl (by decide) rfl dX4_setPlace_35
    · refine x_iconst X (v := 1) dX4_setPlace_30 (by decide) ?_
      refine x_goto X (tgt := 35) dX4_setPlace_31 (by decide) ?_
      cases hf
      exact x_zret X hr hlk rfl (by decide) rfl dX4_setPlace_35
  · refine x_iload_n X dX4_setPlace_13 2 rfl ?_
    refine x_if_lt X (tgt := 22) dX4_setPlace_14 (by decide) hf (fun hf => ?_) (fun hf => ?_)
    · refine x_aload_n X dX4_setPlace_22 0 rfl ?_
      refine x_iconst X (v := 1) dX4_setPlace_23 (by decide) ?_
      obtain ⟨x6, w5, hx6, hf⟩ := bn2_some hf
      refine x_callV_i X E (As := [.int 1]) (rest := []) (n := 1) (ws2 := (picM kA ad w5)) (goodV w_935 w_937 s_29 w_52 w_938) (met_X4_fail l E.2.2.2 D kA ad fu w1 (1 : Int32) x6 w5 hx6) rfl rfl (by decide +kernel) ⟨by decide, by decide⟩ 0 rfl (qc := (RX4, TX4, _)) rfl rfl rfl rfl (Nat.le_of_ble_eq_true rfl) dX4_setPlace_24 ⟨by decide, by decide⟩ ?_
      refine x_if_eq X (tgt := 34) dX4_setPlace_27 (by decide) hf (fun hf => ?_) (fun hf => ?_)
      · refine x_iconst X (v := 0) dX4_setPlace_34 (by decide) ?_
        cases hf
        exact x_zret X hr hlk rfl (by decide) rfl dX4_setPlace_35
      · refine x_iconst X (v := 1) dX4_setPlace_30 (by decide) ?_
        refine x_goto X (tgt := 35) dX4_setPlace_31 (by decide) ?_
        cases hf
        exact x_zret X hr hlk rfl (by decide) rfl dX4_setPlace_35
    · refine x_iload_n X dX4_setPlace_17 2 rfl ?_
      refine x_iconst X (v := 4) dX4_setPlace_18 (by decide) ?_
      refine x_icmp_lt X (tgt := 36) dX4_setPlace_19 (by decide) hf (fun hf => ?_) (fun hf => ?_)
      · refine x_aload_n X dX4_setPlace_36 0 rfl ?_
        refine x_get X E.1.1 (T := TX4) (C := RX4) inW4 0 rfl rfl 18 (by decide) w_848 rfl (v := .ref (ad 12)) rfl dX4_setPlace_37 ?_
        refine x_iconst X (v := 4) dX4_setPlace_40 (by decide) ?_
        refine x_iload_n X dX4_setPlace_41 1 rfl ?_
        refine x_imul X dX4_setPlace_42 ?_
        refine x_iload_n X dX4_setPlace_43 2 rfl ?_
        refine x_iadd X dX4_setPlace_44 ?_
        refine x_zald X E.1.1 12 rfl dX4_setPlace_45 hf (fun x7 hf => ?_)
        refine x_istore X (lv2 := [(4, .int x7), (0, .ref (ad 0)), (1, .int a1), (2, .int a2), (3, .int a3)]) dX4_setPlace_46 (by decide) rfl ?_
        refine x_aload_n X dX4_setPlace_48 1 rfl ?_
        refine x_get X E.1.1 (T := TX4) (C := RX4) inW4 0 rfl rfl 18 (by decide) w_848 rfl (v := .ref (ad 12)) rfl dX4_setPlace_49 ?_
        refine x_iconst X (v := 4) dX4_setPlace_52 (by decide) ?_
        refine x_iload_n X dX4_setPlace_53 2 rfl ?_
        refine x_imul X dX4_setPlace_54 ?_
        refine x_iload_n X dX4_setPlace_55 3 rfl ?_
        refine x_iadd X dX4_setPlace_56 ?_
        refine x_iload_n X dX4_setPlace_57 4 rfl ?_
        refine x_zast X E.1.1 12 rfl dX4_setPlace_58 hf (picM kA ad) (setM_12 kA ad _ _ _) (fun w8 hf => ?_)
        refine x_iload X dX4_setPlace_59 0 rfl ?_
        obtain ⟨hz, hf⟩ := ck_some hf
        cases hf
        exact x_zret X hr hlk rfl hz rfl dX4_setPlace_61
      · refine x_aload_n X dX4_setPlace_22 0 rfl ?_
        refine x_iconst X (v := 1) dX4_setPlace_23 (by decide) ?_
        obtain ⟨x10, w9, hx10, hf⟩ := bn2_some hf
        refine x_callV_i X E (As := [.int 1]) (rest := []) (n := 1) (ws2 := (picM kA ad w9)) (goodV w_935 w_937 s_29 w_52 w_938) (met_X4_fail l E.2.2.2 D kA ad fu w1 (1 : Int32) x10 w9 hx10) rfl rfl (by decide +kernel) ⟨by decide, by decide⟩ 0 rfl (qc := (RX4, TX4, _)) rfl rfl rfl rfl (Nat.le_of_ble_eq_true rfl) dX4_setPlace_24 ⟨by decide, by decide⟩ ?_
        refine x_if_eq X (tgt := 34) dX4_setPlace_27 (by decide) hf (fun hf => ?_) (fun hf => ?_)
        · refine x_iconst X (v := 0) dX4_setPlace_34 (by decide) ?_
          cases hf
          exact x_zret X hr hlk rfl (by decide) rfl dX4_setPlace_35
        · refine x_iconst X (v := 1) dX4_setPlace_30 (by decide) ?_
          refine x_goto X (tgt := 35) dX4_setPlace_31 (by decide) ?_
          cases hf
          exact x_zret X hr hlk rfl (by decide) rfl dX4_setPlace_35
end
section
variable {p : Program} {l : Launch} {e : Env} {s : State} {m : MethodId} {args : Array Value} {below : List Frame} {meth : Method} {c : Code} {D : va_G} {kA : Nat → ClassId} {A : Nat → Prop} {Q : State → Prop} {ad : Nat → Nat}
abbrev rm_X4_nearest : Room := { frames := 5, cells := 0, slots := 0, locals := 116 }
set_option maxRecDepth 100000 in
set_option maxHeartbeats 4000000 in
theorem lp_X4_nearest_54 (X : CX p m c cX4_nearest 7 s args RX4) (E : EX l s D kA A) (fu : Nat) (y1 : Int32) (y2 : Int32) : ∀ (n : Nat) (y3 : Int32) (y4 : Int32) (y5 : Int32) (w : WS) (r3 : Int32) (rw : WS), iter (fun q => bd_X4_nearest_54 fu y1 y2 q.1 q.2.1 q.2.2.1 q.2.2.2) n (y3, y4, y5, w) = some (r3, rw) → CS p l e rm_X4_nearest s m args below meth c D A 7 0 0 Q (picM kA ad rw) 124 [(0, .ref (ad 0)), (3, .int r3)] [] → CS p l e rm_X4_nearest s m args below meth c D A 7 0 0 Q (picM kA ad w) 54 [(0, .ref (ad 0)), (1, .int y1), (2, .int y2), (3, .int y3), (4, .int y4), (5, .int y5)] [] := by
  intro n
  induction n with
  | zero =>
    intro y3 y4 y5 w r3 rw hit kk
    exact (iter_0 hit).elim
  | succ n ih =>
    intro y3 y4 y5 w r3 rw hit kk
    obtain ⟨o, h1, hit⟩ := iter_one hit
    have hf : bd_X4_nearest_54 fu y1 y2 y3 y4 y5 w = some o := h1
    unfold bd_X4_nearest_54 at hf
    refine x_iload X dX4_nearest_54 5 rfl ?_
    refine x_aload_n X dX4_nearest_56 0 rfl ?_
    refine x_get X E.1.1 (T := TX4) (C := RX4) inW4 0 rfl rfl 1 (by decide) w_831 rfl (v := .int (w.1 0 1)) rfl dX4_nearest_57 ?_
    refine x_nmI hf (fun x1 hf => ?_)
    refine x_icmp_ge X (tgt := 124) dX4_nearest_60 (by decide) hf (fun hf => ?_) (fun hf => ?_)
    · cases hf
      cases hit
      refine x_lpick (lv2 := [(0, .ref (ad 0)), (3, .int y3)]) [0, 3] rfl ?_
      exact kk
    · refine x_aload_n X dX4_nearest_63 0 rfl ?_
      refine x_get X E.1.1 (T := TX4) (C := RX4) inW4 0 rfl rfl 18 (by decide) w_848 rfl (v := .ref (ad 12)) rfl dX4_nearest_64 ?_
      refine x_iconst X (v := 4) dX4_nearest_67 (by decide) ?_
      refine x_iload X dX4_nearest_68 5 rfl ?_
      refine x_imul X dX4_nearest_70 ?_
      refine x_iload_n X dX4_nearest_71 2 rfl ?_
      refine x_iadd X dX4_nearest_72 ?_
      refine x_zald X E.1.1 12 rfl dX4_nearest_73 hf (fun x2 hf => ?_)
      refine x_if_eq X (tgt := 87) dX4_nearest_74 (by decide) hf (fun hf => ?_) (fun hf => ?_)
      · refine x_iconst X (v := (-1)) dX4_nearest_87 (by decide) ?_
        refine x_istore X (lv2 := [(6, .int (-1)), (0, .ref (ad 0)), (1, .int y1), (2, .int y2), (3, .int y3), (4, .int y4), (5, .int y5)]) dX4_nearest_88 (by decide) rfl ?_
        refine x_iload X dX4_nearest_90 0 rfl ?_
        refine x_iconst X (v := (-1)) dX4_nearest_92 (by decide) ?_
        refine x_icmp_eq_t X (tgt := 118) dX4_nearest_93 (by decide) (by decide) ?_
        refine x_iinc X dX4_nearest_118 6 rfl (by decide) (y5 + 1) rfl hf (fun x3 => [(5, .int x3), (6, .int (-1)), (0, .ref (ad 0)), (1, .int y1), (2, .int y2), (3, .int y3), (4, .int y4)]) (fun _ => rfl) (fun x3 hf => ?_)
        refine x_goto X (tgt := 54) dX4_nearest_121 (by decide) ?_
        cases hf
        refine x_lpick (lv2 := [(0, .ref (ad 0)), (1, .int y1), (2, .int y2), (3, .int y3), (4, .int y4), (5, .int x3)]) [2, 3, 4, 5, 6, 0] rfl ?_
        exact ih _ _ _ _ _ _ hit kk
      · refine x_aload_n X dX4_nearest_77 0 rfl ?_
        refine x_iload_n X dX4_nearest_78 1 rfl ?_
        refine x_iload X dX4_nearest_79 5 rfl ?_
        obtain ⟨x5, w4, hx5, hf⟩ := bn2_some hf
        refine x_callV_i X E (As := [.int y1, .int y5]) (rest := []) (n := 2) (ws2 := (picM kA ad w4)) (goodV w_1055 w_1057 s_41 w_52 w_1058) (met_X4_distanceBetween l E.2.2.2 D kA ad fu w y1 y5 x5 w4 hx5) rfl rfl (by decide +kernel) ⟨by decide, by decide⟩ 0 rfl (qc := (RX4, TX4, _)) rfl rfl rfl rfl (Nat.le_of_ble_eq_true rfl) dX4_nearest_81 ⟨by decide, by decide⟩ ?_
        refine x_goto X (tgt := 88) dX4_nearest_84 (by decide) ?_
        refine x_istore X (lv2 := [(6, .int x5), (0, .ref (ad 0)), (1, .int y1), (2, .int y2), (3, .int y3), (4, .int y4), (5, .int y5)]) dX4_nearest_88 (by decide) rfl ?_
        refine x_iload X dX4_nearest_90 0 rfl ?_
        refine x_iconst X (v := (-1)) dX4_nearest_92 (by decide) ?_
        refine x_icmp_eq X (tgt := 118) dX4_nearest_93 (by decide) hf (fun hf => ?_) (fun hf => ?_)
        · refine x_iinc X dX4_nearest_118 6 rfl (by decide) (y5 + 1) rfl hf (fun x6 => [(5, .int x6), (6, .int x5), (0, .ref (ad 0)), (1, .int y1), (2, .int y2), (3, .int y3), (4, .int y4)]) (fun _ => rfl) (fun x6 hf => ?_)
          refine x_goto X (tgt := 54) dX4_nearest_121 (by decide) ?_
          cases hf
          refine x_lpick (lv2 := [(0, .ref (ad 0)), (1, .int y1), (2, .int y2), (3, .int y3), (4, .int y4), (5, .int x6)]) [2, 3, 4, 5, 6, 0] rfl ?_
          exact ih _ _ _ _ _ _ hit kk
        · refine x_iload_n X dX4_nearest_96 4 rfl ?_
          refine x_iconst X (v := (-1)) dX4_nearest_97 (by decide) ?_
          refine x_icmp_eq X (tgt := 111) dX4_nearest_98 (by decide) hf (fun hf => ?_) (fun hf => ?_)
          · refine x_iload X dX4_nearest_111 6 rfl ?_
            refine x_istore_n X (lv2 := [(3, .int y5), (6, .int x5), (0, .ref (ad 0)), (1, .int y1), (2, .int y2), (4, .int y4), (5, .int y5)]) dX4_nearest_113 (by decide) rfl ?_
            refine x_iload X dX4_nearest_114 1 rfl ?_
            refine x_istore X (lv2 := [(4, .int x5), (3, .int y5), (6, .int x5), (0, .ref (ad 0)), (1, .int y1), (2, .int y2), (5, .int y5)]) dX4_nearest_116 (by decide) rfl ?_
            refine x_iinc X dX4_nearest_118 6 rfl (by decide) (y5 + 1) rfl hf (fun x7 => [(5, .int x7), (4, .int x5), (3, .int y5), (6, .int x5), (0, .ref (ad 0)), (1, .int y1), (2, .int y2)]) (fun _ => rfl) (fun x7 hf => ?_)
            refine x_goto X (tgt := 54) dX4_nearest_121 (by decide) ?_
            cases hf
            refine x_lpick (lv2 := [(0, .ref (ad 0)), (1, .int y1), (2, .int y2), (3, .int y5), (4, .int x5), (5, .int x7)]) [4, 5, 6, 2, 1, 0] rfl ?_
            exact ih _ _ _ _ _ _ hit kk
          · refine x_iload X dX4_nearest_101 0 rfl ?_
            refine x_iload X dX4_nearest_103 5 rfl ?_
            refine x_icmp_lt X (tgt := 111) dX4_nearest_105 (by decide) hf (fun hf => ?_) (fun hf => ?_)
            · refine x_iload X dX4_nearest_111 6 rfl ?_
              refine x_istore_n X (lv2 := [(3, .int y5), (6, .int x5), (0, .ref (ad 0)), (1, .int y1), (2, .int y2), (4, .int y4), (5, .int y5)]) dX4_nearest_113 (by decide) rfl ?_
              refine x_iload X dX4_nearest_114 1 rfl ?_
              refine x_istore X (lv2 := [(4, .int x5), (3, .int y5), (6, .int x5), (0, .ref (ad 0)), (1, .int y1), (2, .int y2), (5, .int y5)]) dX4_nearest_116 (by decide) rfl ?_
              refine x_iinc X dX4_nearest_118 6 rfl (by decide) (y5 + 1) rfl hf (fun x8 => [(5, .int x8), (4, .int x5), (3, .int y5), (6, .int x5), (0, .ref (ad 0)), (1, .int y1), (2, .int y2)]) (fun _ => rfl) (fun x8 hf => ?_)
              refine x_goto X (tgt := 54) dX4_nearest_121 (by decide) ?_
              cases hf
              refine x_lpick (lv2 := [(0, .ref (ad 0)), (1, .int y1), (2, .int y2), (3, .int y5), (4, .int x5), (5, .int x8)]) [4, 5, 6, 2, 1, 0] rfl ?_
              exact ih _ _ _ _ _ _ hit kk
            · refine x_goto X (tgt := 118) dX4_nearest_108 (by decide) ?_
              refine x_iinc X dX4_nearest_118 6 rfl (by decide) (y5 + 1) rfl hf (fun x9 => [(5, .int x9), (6, .int x5), (0, .ref (ad 0)), (1, .int y1), (2, .int y2), (3, .int y3), (4, .int y4)]) (fun _ => rfl) (fun x9 hf => ?_)
              refine x_goto X (tgt := 54) dX4_nearest_121 (by decide) ?_
              cases hf
              refine x_lpick (lv2 := [(0, .ref (ad 0)), (1, .int y1), (2, .int y2), (3, .int y3), (4, .int y4), (5, .int x9)]) [2, 3, 4, 5, 6, 0] rfl ?_
              exact ih _ _ _ _ _ _ hit kk
set_option maxRecDepth 100000 in
set_option maxHeartbeats 4000000 in
theorem met_X4_nearest (l : Launch) (hst : l.stackTraces = false) (D : va_G) (kA : Nat → ClassId) (ad : Nat → Nat) (fu : Nat) (w : WS) (a1 : Int32) (a2 : Int32) (v : Int32) (w1 : WS) (hf : f_X4_nearest fu w a1 a2 = some (v, w1)) (sz : Nat) : Met l yX4_nearest (wsY yX4_nearest cX4_nearest 7 (some .int)) rm_X4_nearest (va_Pc [.ref (ad 0), .int a1, .int a2] (PreG D kA (picM kA ad w) sz)) (va_Qi (fun (r : Int32) (_ : Unit) => r = v) (fun _ t => PosG D (va_A (picM kA ad w) sz) (picM kA ad w1) t) (va_A (picM kA ad w) sz)) 0 0 (va_A (picM kA ad w) sz) := by
  refine metG (own := RX4) hst (by decide +kernel) rfl (Nat.le_of_ble_eq_true rfl) rfl ?_
  intro p e s m below meth c X hr hlk E _
  unfold f_X4_nearest at hf
  refine x_aload_n X dX4_nearest_0 0 rfl ?_
  refine x_aload_n X dX4_nearest_1 0 rfl ?_
  refine x_get X E.1.1 (T := TX4) (C := RX4) inW4 0 rfl rfl 9 (by decide) w_839 rfl (v := .int (w.1 0 9)) rfl dX4_nearest_2 ?_
  refine x_nmI hf (fun x1 hf => ?_)
  refine x_if_ne X (tgt := 12) dX4_nearest_5 (by decide) hf (fun hf => ?_) (fun hf => ?_)
  · refine x_aload_n X dX4_nearest_12 0 rfl ?_
    refine x_iload_n X dX4_nearest_13 1 rfl ?_
    obtain ⟨x2, hx2, hf⟩ := bn_some hf
    refine x_callV_i X E (As := [.int a1]) (rest := [.ref (ad 0)]) (n := 1) (ws2 := (picM kA ad w)) (goodV w_943 w_945 s_30 w_52 w_946) (met_X4_isJunction l E.2.2.2 D kA ad fu w a1 x2 hx2) rfl rfl (by decide +kernel) ⟨by decide, by decide⟩ 0 rfl (qc := (RX4, TX4, _)) rfl rfl rfl rfl (Nat.le_of_ble_eq_true rfl) dX4_nearest_14 ⟨by decide, by decide⟩ ?_
    refine x_if_eq X (tgt := 29) dX4_nearest_17 (by decide) hf (fun hf => ?_) (fun hf => ?_)
    · refine x_iconst X (v := 2) dX4_nearest_29 (by decide) ?_
      refine x_goto X (tgt := 34) dX4_nearest_30 (by decide) ?_
      refine x_put X E.1.1 (T := TX4) (C := RX4) (ty := .int) inW4 tyX4 tyX4_ok nmX4 0 rfl rfl 0 (by decide) w_830 rfl rfl (by decide +kernel) rfl rfl (Nat.le_of_ble_eq_true rfl) dX4_nearest_34 (picM kA ad (wI w 0 0 2)) rfl ?_
      refine x_nmW (pic := picM kA ad) (u := (wI w 0 0 2)) hf (fun w3 hf => ?_)
      refine x_aload_n X dX4_nearest_37 0 rfl ?_
      refine x_get X E.1.1 (T := TX4) (C := RX4) inW4 0 rfl rfl 0 (by decide) w_830 rfl (v := .int (w3.1 0 0)) rfl dX4_nearest_38 ?_
      refine x_nmI hf (fun x4 hf => ?_)
      refine x_if_eq X (tgt := 46) dX4_nearest_41 (by decide) hf (fun hf => ?_) (fun hf => ?_)
      · refine x_iconst X (v := (-1)) dX4_nearest_46 (by decide) ?_
        refine x_istore_n X (lv2 := [(3, .int (-1)), (0, .ref (ad 0)), (1, .int a1), (2, .int a2)]) dX4_nearest_47 (by decide) rfl ?_
        refine x_iconst X (v := 0) dX4_nearest_48 (by decide) ?_
        refine x_istore X (lv2 := [(4, .int 0), (3, .int (-1)), (0, .ref (ad 0)), (1, .int a1), (2, .int a2)]) dX4_nearest_49 (by decide) rfl ?_
        refine x_iconst X (v := 0) dX4_nearest_51 (by decide) ?_
        refine x_istore X (lv2 := [(5, .int 0), (4, .int 0), (3, .int (-1)), (0, .ref (ad 0)), (1, .int a1), (2, .int a2)]) dX4_nearest_52 (by decide) rfl ?_
        refine x_lpick (lv2 := [(0, .ref (ad 0)), (1, .int a1), (2, .int a2), (3, .int (-1)), (4, .int 0), (5, .int 0)]) [3, 4, 5, 2, 1, 0] rfl ?_
        obtain ⟨x5, w6, h7, hf⟩ := bn2_some hf
        refine lp_X4_nearest_54 X E fu a1 a2 fu ((-1) : Int32) (0 : Int32) (0 : Int32) w3 x5 w6 h7 ?_
        refine x_iload_n X dX4_nearest_124 1 rfl ?_
        refine x_iconst X (v := (-1)) dX4_nearest_125 (by decide) ?_
        refine x_icmp_ne X (tgt := 137) dX4_nearest_126 (by decide) hf (fun hf => ?_) (fun hf => ?_)
        · refine x_iload_n X dX4_nearest_137 1 rfl ?_
          cases hf
          exact x_iret X hr hlk rfl rfl dX4_nearest_138
        · refine x_aload_n X dX4_nearest_129 0 rfl ?_
          refine x_iconst X (v := 3) dX4_nearest_130 (by decide) ?_
          obtain ⟨x9, w8, hx9, hf⟩ := bn2_some hf
          refine x_callV_i X E (As := [.int 3]) (rest := []) (n := 1) (ws2 := (picM kA ad w8)) (goodV w_935 w_937 s_29 w_52 w_938) (met_X4_fail l E.2.2.2 D kA ad fu w6 (3 : Int32) x9 w8 hx9) rfl rfl (by decide +kernel) ⟨by decide, by decide⟩ 0 rfl (qc := (RX4, TX4, _)) rfl rfl rfl rfl (Nat.le_of_ble_eq_true rfl) dX4_nearest_131 ⟨by decide, by decide⟩ ?_
          refine x_goto X (tgt := 138) dX4_nearest_134 (by decide) ?_
          cases hf
          exact x_iret X hr hlk rfl rfl dX4_nearest_138
      · refine x_iconst X (v := 0) dX4_nearest_44 (by decide) ?_
        cases hf
        exact x_iret X hr hlk rfl rfl dX4_nearest_45
    · refine x_iload_n X dX4_nearest_20 2 rfl ?_
      refine x_if_lt X (tgt := 29) dX4_nearest_21 (by decide) hf (fun hf => ?_) (fun hf => ?_)
      · refine x_iconst X (v := 2) dX4_nearest_29 (by decide) ?_
        refine x_goto X (tgt := 34) dX4_nearest_30 (by decide) ?_
        refine x_put X E.1.1 (T := TX4) (C := RX4) (ty := .int) inW4 tyX4 tyX4_ok nmX4 0 rfl rfl 0 (by decide) w_830 rfl rfl (by decide +kernel) rfl rfl (Nat.le_of_ble_eq_true rfl) dX4_nearest_34 (picM kA ad (wI w 0 0 2)) rfl ?_
        refine x_nmW (pic := picM kA ad) (u := (wI w 0 0 2)) hf (fun w10 hf => ?_)
        refine x_aload_n X dX4_nearest_37 0 rfl ?_
        refine x_get X E.1.1 (T := TX4) (C := RX4) inW4 0 rfl rfl 0 (by decide) w_830 rfl (v := .int (w10.1 0 0)) rfl dX4_nearest_38 ?_
        refine x_nmI hf (fun x11 hf => ?_)
        refine x_if_eq X (tgt := 46) dX4_nearest_41 (by decide) hf (fun hf => ?_) (fun hf => ?_)
        · refine x_iconst X (v := (-1)) dX4_nearest_46 (by decide) ?_
          refine x_istore_n X (lv2 := [(3, .int (-1)), (0, .ref (ad 0)), (1, .int a1), (2, .int a2)]) dX4_nearest_47 (by decide) rfl ?_
          refine x_iconst X (v := 0) dX4_nearest_48 (by decide) ?_
          refine x_istore X (lv2 := [(4, .int 0), (3, .int (-1)), (0, .ref (ad 0)), (1, .int a1), (2, .int a2)]) dX4_nearest_49 (by decide) rfl ?_
          refine x_iconst X (v := 0) dX4_nearest_51 (by decide) ?_
          refine x_istore X (lv2 := [(5, .int 0), (4, .int 0), (3, .int (-1)), (0, .ref (ad 0)), (1, .int a1), (2, .int a2)]) dX4_nearest_52 (by decide) rfl ?_
          refine x_lpick (lv2 := [(0, .ref (ad 0)), (1, .int a1), (2, .int a2), (3, .int (-1)), (4, .int 0), (5, .int 0)]) [3, 4, 5, 2, 1, 0] rfl ?_
          obtain ⟨x12, w13, h14, hf⟩ := bn2_some hf
          refine lp_X4_nearest_54 X E fu a1 a2 fu ((-1) : Int32) (0 : Int32) (0 : Int32) w10 x12 w13 h14 ?_
          refine x_iload_n X dX4_nearest_124 1 rfl ?_
          refine x_iconst X (v := (-1)) dX4_nearest_125 (by decide) ?_
          refine x_icmp_ne X (tgt := 137) dX4_nearest_126 (by decide) hf (fun hf => ?_) (fun hf => ?_)
          · refine x_iload_n X dX4_nearest_137 1 rfl ?_
            cases hf
            exact x_iret X hr hlk rfl rfl dX4_nearest_138
          · refine x_aload_n X dX4_nearest_129 0 rfl ?_
            refine x_iconst X (v := 3) dX4_nearest_130 (by decide) ?_
            obtain ⟨x16, w15, hx16, hf⟩ := bn2_some hf
            refine x_callV_i X E (As := [.int 3]) (rest := []) (n := 1) (ws2 := (picM kA ad w15)) (goodV w_935 w_937 s_29 w_52 w_938) (met_X4_fail l E.2.2.2 D kA ad fu w13 (3 : Int32) x16 w15 hx16) rfl rfl (by decide +kernel) ⟨by decide, by decide⟩ 0 rfl (qc := (RX4, TX4, _)) rfl rfl rfl rfl (Nat.le_of_ble_eq_true rfl) dX4_nearest_131 ⟨by decide, by decide⟩ ?_
            refine x_goto X (tgt := 138) dX4_nearest_134 (by decide) ?_
            cases hf
            exact x_iret X hr hlk rfl rfl dX4_nearest_138
        · refine x_iconst X (v := 0) dX4_nearest_44 (by decide) ?_
          cases hf
          exact x_iret X hr hlk rfl rfl dX4_nearest_45
      · refine x_iload_n X dX4_nearest_24 2 rfl ?_
        refine x_iconst X (v := 4) dX4_nearest_25 (by decide) ?_
        refine x_icmp_lt X (tgt := 33) dX4_nearest_26 (by decide) hf (fun hf => ?_) (fun hf => ?_)
        · refine x_iconst X (v := 0) dX4_nearest_33 (by decide) ?_
          refine x_put X E.1.1 (T := TX4) (C := RX4) (ty := .int) inW4 tyX4 tyX4_ok nmX4 0 rfl rfl 0 (by decide) w_830 rfl rfl (by decide +kernel) rfl rfl (Nat.le_of_ble_eq_true rfl) dX4_nearest_34 (picM kA ad (wI w 0 0 0)) rfl ?_
          refine x_nmW (pic := picM kA ad) (u := (wI w 0 0 0)) hf (fun w17 hf => ?_)
          refine x_aload_n X dX4_nearest_37 0 rfl ?_
          refine x_get X E.1.1 (T := TX4) (C := RX4) inW4 0 rfl rfl 0 (by decide) w_830 rfl (v := .int (w17.1 0 0)) rfl dX4_nearest_38 ?_
          refine x_nmI hf (fun x18 hf => ?_)
          refine x_if_eq X (tgt := 46) dX4_nearest_41 (by decide) hf (fun hf => ?_) (fun hf => ?_)
          · refine x_iconst X (v := (-1)) dX4_nearest_46 (by decide) ?_
            refine x_istore_n X (lv2 := [(3, .int (-1)), (0, .ref (ad 0)), (1, .int a1), (2, .int a2)]) dX4_nearest_47 (by decide) rfl ?_
            refine x_iconst X (v := 0) dX4_nearest_48 (by decide) ?_
            refine x_istore X (lv2 := [(4, .int 0), (3, .int (-1)), (0, .ref (ad 0)), (1, .int a1), (2, .int a2)]) dX4_nearest_49 (by decide) rfl ?_
            refine x_iconst X (v := 0) dX4_nearest_51 (by decide) ?_
            refine x_istore X (lv2 := [(5, .int 0), (4, .int 0), (3, .int (-1)), (0, .ref (ad 0)), (1, .int a1), (2, .int a2)]) dX4_nearest_52 (by decide) rfl ?_
            refine x_lpick (lv2 := [(0, .ref (ad 0)), (1, .int a1), (2, .int a2), (3, .int (-1)), (4, .int 0), (5, .int 0)]) [3, 4, 5, 2, 1, 0] rfl ?_
            obtain ⟨x19, w20, h21, hf⟩ := bn2_some hf
            refine lp_X4_nearest_54 X E fu a1 a2 fu ((-1) : Int32) (0 : Int32) (0 : Int32) w17 x19 w20 h21 ?_
            refine x_iload_n X dX4_nearest_124 1 rfl ?_
            refine x_iconst X (v := (-1)) dX4_nearest_125 (by decide) ?_
            refine x_icmp_ne X (tgt := 137) dX4_nearest_126 (by decide) hf (fun hf => ?_) (fun hf => ?_)
            · refine x_iload_n X dX4_nearest_137 1 rfl ?_
              cases hf
              exact x_iret X hr hlk rfl rfl dX4_nearest_138
            · refine x_aload_n X dX4_nearest_129 0 rfl ?_
              refine x_iconst X (v := 3) dX4_nearest_130 (by decide) ?_
              obtain ⟨x23, w22, hx23, hf⟩ := bn2_some hf
              refine x_callV_i X E (As := [.int 3]) (rest := []) (n := 1) (ws2 := (picM kA ad w22)) (goodV w_935 w_937 s_29 w_52 w_938) (met_X4_fail l E.2.2.2 D kA ad fu w20 (3 : Int32) x23 w22 hx23) rfl rfl (by decide +kernel) ⟨by decide, by decide⟩ 0 rfl (qc := (RX4, TX4, _)) rfl rfl rfl rfl (Nat.le_of_ble_eq_true rfl) dX4_nearest_131 ⟨by decide, by decide⟩ ?_
              refine x_goto X (tgt := 138) dX4_nearest_134 (by decide) ?_
              cases hf
              exact x_iret X hr hlk rfl rfl dX4_nearest_138
          · refine x_iconst X (v := 0) dX4_nearest_44 (by decide) ?_
            cases hf
            exact x_iret X hr hlk rfl rfl dX4_nearest_45
        · refine x_iconst X (v := 2) dX4_nearest_29 (by decide) ?_
          refine x_goto X (tgt := 34) dX4_nearest_30 (by decide) ?_
          refine x_put X E.1.1 (T := TX4) (C := RX4) (ty := .int) inW4 tyX4 tyX4_ok nmX4 0 rfl rfl 0 (by decide) w_830 rfl rfl (by decide +kernel) rfl rfl (Nat.le_of_ble_eq_true rfl) dX4_nearest_34 (picM kA ad (wI w 0 0 2)) rfl ?_
          refine x_nmW (pic := picM kA ad) (u := (wI w 0 0 2)) hf (fun w24 hf => ?_)
          refine x_aload_n X dX4_nearest_37 0 rfl ?_
          refine x_get X E.1.1 (T := TX4) (C := RX4) inW4 0 rfl rfl 0 (by decide) w_830 rfl (v := .int (w24.1 0 0)) rfl dX4_nearest_38 ?_
          refine x_nmI hf (fun x25 hf => ?_)
          refine x_if_eq X (tgt := 46) dX4_nearest_41 (by decide) hf (fun hf => ?_) (fun hf => ?_)
          · refine x_iconst X (v := (-1)) dX4_nearest_46 (by decide) ?_
            refine x_istore_n X (lv2 := [(3, .int (-1)), (0, .ref (ad 0)), (1, .int a1), (2, .int a2)]) dX4_nearest_47 (by decide) rfl ?_
            refine x_iconst X (v := 0) dX4_nearest_48 (by decide) ?_
            refine x_istore X (lv2 := [(4, .int 0), (3, .int (-1)), (0, .ref (ad 0)), (1, .int a1), (2, .int a2)]) dX4_nearest_49 (by decide) rfl ?_
            refine x_iconst X (v := 0) dX4_nearest_51 (by decide) ?_
            refine x_istore X (lv2 := [(5, .int 0), (4, .int 0), (3, .int (-1)), (0, .ref (ad 0)), (1, .int a1), (2, .int a2)]) dX4_nearest_52 (by decide) rfl ?_
            refine x_lpick (lv2 := [(0, .ref (ad 0)), (1, .int a1), (2, .int a2), (3, .int (-1)), (4, .int 0), (5, .int 0)]) [3, 4, 5, 2, 1, 0] rfl ?_
            obtain ⟨x26, w27, h28, hf⟩ := bn2_some hf
            refine lp_X4_nearest_54 X E fu a1 a2 fu ((-1) : Int32) (0 : Int32) (0 : Int32) w24 x26 w27 h28 ?_
            refine x_iload_n X dX4_nearest_124 1 rfl ?_
            refine x_iconst X (v := (-1)) dX4_nearest_125 (by decide) ?_
            refine x_icmp_ne X (tgt := 137) dX4_nearest_126 (by decide) hf (fun hf => ?_) (fun hf => ?_)
            · refine x_iload_n X dX4_nearest_137 1 rfl ?_
              cases hf
              exact x_iret X hr hlk rfl rfl dX4_nearest_138
            · refine x_aload_n X dX4_nearest_129 0 rfl ?_
              refine x_iconst X (v := 3) dX4_nearest_130 (by decide) ?_
              obtain ⟨x30, w29, hx30, hf⟩ := bn2_some hf
              refine x_callV_i X E (As := [.int 3]) (rest := []) (n := 1) (ws2 := (picM kA ad w29)) (goodV w_935 w_937 s_29 w_52 w_938) (met_X4_fail l E.2.2.2 D kA ad fu w27 (3 : Int32) x30 w29 hx30) rfl rfl (by decide +kernel) ⟨by decide, by decide⟩ 0 rfl (qc := (RX4, TX4, _)) rfl rfl rfl rfl (Nat.le_of_ble_eq_true rfl) dX4_nearest_131 ⟨by decide, by decide⟩ ?_
              refine x_goto X (tgt := 138) dX4_nearest_134 (by decide) ?_
              cases hf
              exact x_iret X hr hlk rfl rfl dX4_nearest_138
          · refine x_iconst X (v := 0) dX4_nearest_44 (by decide) ?_
            cases hf
            exact x_iret X hr hlk rfl rfl dX4_nearest_45
  · refine x_iconst X (v := 1) dX4_nearest_8 (by decide) ?_
    refine x_goto X (tgt := 34) dX4_nearest_9 (by decide) ?_
    refine x_put X E.1.1 (T := TX4) (C := RX4) (ty := .int) inW4 tyX4 tyX4_ok nmX4 0 rfl rfl 0 (by decide) w_830 rfl rfl (by decide +kernel) rfl rfl (Nat.le_of_ble_eq_true rfl) dX4_nearest_34 (picM kA ad (wI w 0 0 1)) rfl ?_
    refine x_nmW (pic := picM kA ad) (u := (wI w 0 0 1)) hf (fun w31 hf => ?_)
    refine x_aload_n X dX4_nearest_37 0 rfl ?_
    refine x_get X E.1.1 (T := TX4) (C := RX4) inW4 0 rfl rfl 0 (by decide) w_830 rfl (v := .int (w31.1 0 0)) rfl dX4_nearest_38 ?_
    refine x_nmI hf (fun x32 hf => ?_)
    refine x_if_eq X (tgt := 46) dX4_nearest_41 (by decide) hf (fun hf => ?_) (fun hf => ?_)
    · refine x_iconst X (v := (-1)) dX4_nearest_46 (by decide) ?_
      refine x_istore_n X (lv2 := [(3, .int (-1)), (0, .ref (ad 0)), (1, .int a1), (2, .int a2)]) dX4_nearest_47 (by decide) rfl ?_
      refine x_iconst X (v := 0) dX4_nearest_48 (by decide) ?_
      refine x_istore X (lv2 := [(4, .int 0), (3, .int (-1)), (0, .ref (ad 0)), (1, .int a1), (2, .int a2)]) dX4_nearest_49 (by decide) rfl ?_
      refine x_iconst X (v := 0) dX4_nearest_51 (by decide) ?_
      refine x_istore X (lv2 := [(5, .int 0), (4, .int 0), (3, .int (-1)), (0, .ref (ad 0)), (1, .int a1), (2, .int a2)]) dX4_nearest_52 (by decide) rfl ?_
      refine x_lpick (lv2 := [(0, .ref (ad 0)), (1, .int a1), (2, .int a2), (3, .int (-1)), (4, .int 0), (5, .int 0)]) [3, 4, 5, 2, 1, 0] rfl ?_
      obtain ⟨x33, w34, h35, hf⟩ := bn2_some hf
      refine lp_X4_nearest_54 X E fu a1 a2 fu ((-1) : Int32) (0 : Int32) (0 : Int32) w31 x33 w34 h35 ?_
      refine x_iload_n X dX4_nearest_124 1 rfl ?_
      refine x_iconst X (v := (-1)) dX4_nearest_125 (by decide) ?_
      refine x_icmp_ne X (tgt := 137) dX4_nearest_126 (by decide) hf (fun hf => ?_) (fun hf => ?_)
      · refine x_iload_n X dX4_nearest_137 1 rfl ?_
        cases hf
        exact x_iret X hr hlk rfl rfl dX4_nearest_138
      · refine x_aload_n X dX4_nearest_129 0 rfl ?_
        refine x_iconst X (v := 3) dX4_nearest_130 (by decide) ?_
        obtain ⟨x37, w36, hx37, hf⟩ := bn2_some hf
        refine x_callV_i X E (As := [.int 3]) (rest := []) (n := 1) (ws2 := (picM kA ad w36)) (goodV w_935 w_937 s_29 w_52 w_938) (met_X4_fail l E.2.2.2 D kA ad fu w34 (3 : Int32) x37 w36 hx37) rfl rfl (by decide +kernel) ⟨by decide, by decide⟩ 0 rfl (qc := (RX4, TX4, _)) rfl rfl rfl rfl (Nat.le_of_ble_eq_true rfl) dX4_nearest_131 ⟨by decide, by decide⟩ ?_
        refine x_goto X (tgt := 138) dX4_nearest_134 (by decide) ?_
        cases hf
        exact x_iret X hr hlk rfl rfl dX4_nearest_138
    · refine x_iconst X (v := 0) dX4_nearest_44 (by decide) ?_
      cases hf
      exact x_iret X hr hlk rfl rfl dX4_nearest_45
end
section
variable {p : Program} {l : Launch} {e : Env} {s : State} {m : MethodId} {args : Array Value} {below : List Frame} {meth : Method} {c : Code} {D : va_G} {kA : Nat → ClassId} {A : Nat → Prop} {Q : State → Prop} {ad : Nat → Nat}
abbrev rm_X4_push : Room := { frames := 1, cells := 0, slots := 0, locals := 21 }
set_option maxRecDepth 100000 in
set_option maxHeartbeats 4000000 in
theorem lp_X4_push_48 (X : CX p m c cX4_push 2 s args RX4) (E : EX l s D kA A) (fu : Nat)  : ∀ (n : Nat) (y1 : Int32) (w : WS) (rw : WS), iter (fun q => bd_X4_push_48 fu q.1 q.2) n (y1, w) = some (rw) → CS p l e rm_X4_push s m args below meth c D A 2 0 0 Q (picM kA ad rw) 100 [(0, .ref (ad 0))] [] → CS p l e rm_X4_push s m args below meth c D A 2 0 0 Q (picM kA ad w) 48 [(0, .ref (ad 0)), (1, .int y1)] [] := by
  intro n
  induction n with
  | zero =>
    intro y1 w rw hit kk
    exact (iter_0 hit).elim
  | succ n ih =>
    intro y1 w rw hit kk
    obtain ⟨o, h1, hit⟩ := iter_one hit
    have hf : bd_X4_push_48 fu y1 w = some o := h1
    unfold bd_X4_push_48 at hf
    refine x_iload_n X dX4_push_48 1 rfl ?_
    refine x_bipush X (v := 64) dX4_push_49 (by decide) ?_
    refine x_icmp_ge X (tgt := 100) dX4_push_51 (by decide) hf (fun hf => ?_) (fun hf => ?_)
    · cases hf
      cases hit
      refine x_lpick (lv2 := [(0, .ref (ad 0))]) [0] rfl ?_
      exact kk
    · refine x_aload_n X dX4_push_54 0 rfl ?_
      refine x_get X E.1.1 (T := TX4) (C := RX4) inW4 0 rfl rfl 21 (by decide) w_851 rfl (v := .ref (ad 14)) rfl dX4_push_55 ?_
      refine x_bipush X (v := 64) dX4_push_58 (by decide) ?_
      refine x_aload_n X dX4_push_60 0 rfl ?_
      refine x_get X E.1.1 (T := TX4) (C := RX4) inW4 0 rfl rfl 19 (by decide) w_849 rfl (v := .int (w.1 0 19)) rfl dX4_push_61 ?_
      refine x_nmI hf (fun x1 hf => ?_)
      refine x_imul X dX4_push_64 ?_
      refine x_iload_n X dX4_push_65 1 rfl ?_
      refine x_iadd X dX4_push_66 ?_
      refine x_aload_n X dX4_push_67 0 rfl ?_
      refine x_get X E.1.1 (T := TX4) (C := RX4) inW4 0 rfl rfl 5 (by decide) w_835 rfl (v := .ref (ad 3)) rfl dX4_push_68 ?_
      refine x_iload_n X dX4_push_71 1 rfl ?_
      refine x_iald X E.1.1 3 rfl dX4_push_72 hf (fun x2 hf => ?_)
      refine x_iast X E.1.1 14 rfl dX4_push_73 hf (picM kA ad) (setM_14 kA ad _ _ _) (fun w3 hf => ?_)
      refine x_aload_n X dX4_push_74 0 rfl ?_
      refine x_get X E.1.1 (T := TX4) (C := RX4) inW4 0 rfl rfl 22 (by decide) w_852 rfl (v := .ref (ad 15)) rfl dX4_push_75 ?_
      refine x_bipush X (v := 64) dX4_push_78 (by decide) ?_
      refine x_aload_n X dX4_push_80 0 rfl ?_
      refine x_get X E.1.1 (T := TX4) (C := RX4) inW4 0 rfl rfl 19 (by decide) w_849 rfl (v := .int (w3.1 0 19)) rfl dX4_push_81 ?_
      refine x_nmI hf (fun x4 hf => ?_)
      refine x_imul X dX4_push_84 ?_
      refine x_iload_n X dX4_push_85 1 rfl ?_
      refine x_iadd X dX4_push_86 ?_
      refine x_aload_n X dX4_push_87 0 rfl ?_
      refine x_get X E.1.1 (T := TX4) (C := RX4) inW4 0 rfl rfl 6 (by decide) w_836 rfl (v := .ref (ad 4)) rfl dX4_push_88 ?_
      refine x_iload_n X dX4_push_91 1 rfl ?_
      refine x_zald X E.1.1 4 rfl dX4_push_92 hf (fun x5 hf => ?_)
      refine x_zast X E.1.1 15 rfl dX4_push_93 hf (picM kA ad) (setM_15 kA ad _ _ _) (fun w6 hf => ?_)
      refine x_iinc X dX4_push_94 1 rfl (by decide) (y1 + 1) rfl hf (fun x7 => [(1, .int x7), (0, .ref (ad 0))]) (fun _ => rfl) (fun x7 hf => ?_)
      refine x_goto X (tgt := 48) dX4_push_97 (by decide) ?_
      cases hf
      refine x_lpick (lv2 := [(0, .ref (ad 0)), (1, .int x7)]) [1, 0] rfl ?_
      exact ih _ _ _ hit kk
set_option maxRecDepth 100000 in
set_option maxHeartbeats 4000000 in
theorem lp_X4_push_102 (X : CX p m c cX4_push 2 s args RX4) (E : EX l s D kA A) (fu : Nat)  : ∀ (n : Nat) (y1 : Int32) (w : WS) (rw : WS), iter (fun q => bd_X4_push_102 fu q.1 q.2) n (y1, w) = some (rw) → CS p l e rm_X4_push s m args below meth c D A 2 0 0 Q (picM kA ad rw) 138 [(0, .ref (ad 0))] [] → CS p l e rm_X4_push s m args below meth c D A 2 0 0 Q (picM kA ad w) 102 [(0, .ref (ad 0)), (1, .int y1)] [] := by
  intro n
  induction n with
  | zero =>
    intro y1 w rw hit kk
    exact (iter_0 hit).elim
  | succ n ih =>
    intro y1 w rw hit kk
    obtain ⟨o, h1, hit⟩ := iter_one hit
    have hf : bd_X4_push_102 fu y1 w = some o := h1
    unfold bd_X4_push_102 at hf
    refine x_iload_n X dX4_push_102 1 rfl ?_
    refine x_aload_n X dX4_push_103 0 rfl ?_
    refine x_get X E.1.1 (T := TX4) (C := RX4) inW4 0 rfl rfl 7 (by decide) w_837 rfl (v := .ref (ad 5)) rfl dX4_push_104 ?_
    refine x_alen X E.1.1 5 0 rfl rfl (v := 4096) rfl dX4_push_107 ?_
    refine x_icmp_ge X (tgt := 138) dX4_push_108 (by decide) hf (fun hf => ?_) (fun hf => ?_)
    · cases hf
      cases hit
      refine x_lpick (lv2 := [(0, .ref (ad 0))]) [0] rfl ?_
      exact kk
    · refine x_aload_n X dX4_push_111 0 rfl ?_
      refine x_get X E.1.1 (T := TX4) (C := RX4) inW4 0 rfl rfl 23 (by decide) w_853 rfl (v := .ref (ad 16)) rfl dX4_push_112 ?_
      refine x_sipush X (v := 4096) dX4_push_115 (by decide) ?_
      refine x_aload_n X dX4_push_118 0 rfl ?_
      refine x_get X E.1.1 (T := TX4) (C := RX4) inW4 0 rfl rfl 19 (by decide) w_849 rfl (v := .int (w.1 0 19)) rfl dX4_push_119 ?_
      refine x_nmI hf (fun x1 hf => ?_)
      refine x_imul X dX4_push_122 ?_
      refine x_iload_n X dX4_push_123 1 rfl ?_
      refine x_iadd X dX4_push_124 ?_
      refine x_aload_n X dX4_push_125 0 rfl ?_
      refine x_get X E.1.1 (T := TX4) (C := RX4) inW4 0 rfl rfl 7 (by decide) w_837 rfl (v := .ref (ad 5)) rfl dX4_push_126 ?_
      refine x_iload_n X dX4_push_129 1 rfl ?_
      refine x_iald X E.1.1 5 rfl dX4_push_130 hf (fun x2 hf => ?_)
      refine x_iast X E.1.1 16 rfl dX4_push_131 hf (picM kA ad) (setM_16 kA ad _ _ _) (fun w3 hf => ?_)
      refine x_iinc X dX4_push_132 1 rfl (by decide) (y1 + 1) rfl hf (fun x4 => [(1, .int x4), (0, .ref (ad 0))]) (fun _ => rfl) (fun x4 hf => ?_)
      refine x_goto X (tgt := 102) dX4_push_135 (by decide) ?_
      cases hf
      refine x_lpick (lv2 := [(0, .ref (ad 0)), (1, .int x4)]) [1, 0] rfl ?_
      exact ih _ _ _ hit kk
set_option maxRecDepth 100000 in
set_option maxHeartbeats 4000000 in
theorem met_X4_push (l : Launch) (hst : l.stackTraces = false) (D : va_G) (kA : Nat → ClassId) (ad : Nat → Nat) (fu : Nat) (w : WS)  (v : Int32) (w1 : WS) (hf : f_X4_push fu w = some (v, w1)) (sz : Nat) : Met l yX4_push (wsY yX4_push cX4_push 2 (some .int)) rm_X4_push (va_Pc [.ref (ad 0)] (PreG D kA (picM kA ad w) sz)) (va_Qi (fun (r : Int32) (_ : Unit) => r = v) (fun _ t => PosG D (va_A (picM kA ad w) sz) (picM kA ad w1) t) (va_A (picM kA ad w) sz)) 0 0 (va_A (picM kA ad w) sz) := by
  refine metG (own := RX4) hst (by decide +kernel) rfl (Nat.le_of_ble_eq_true rfl) rfl ?_
  intro p e s m below meth c X hr hlk E _
  unfold f_X4_push at hf
  refine x_aload_n X dX4_push_0 0 rfl ?_
  refine x_iconst X (v := 0) dX4_push_1 (by decide) ?_
  refine x_put X E.1.1 (T := TX4) (C := RX4) (ty := .int) inW4 tyX4 tyX4_ok nmX4 0 rfl rfl 0 (by decide) w_830 rfl rfl (by decide +kernel) rfl rfl (Nat.le_of_ble_eq_true rfl) dX4_push_2 (picM kA ad (wI w 0 0 0)) rfl ?_
  refine x_nmW (pic := picM kA ad) (u := (wI w 0 0 0)) hf (fun w1 hf => ?_)
  refine x_aload_n X dX4_push_5 0 rfl ?_
  refine x_get X E.1.1 (T := TX4) (C := RX4) inW4 0 rfl rfl 19 (by decide) w_849 rfl (v := .int (w1.1 0 19)) rfl dX4_push_6 ?_
  refine x_nmI hf (fun x2 hf => ?_)
  refine x_bipush X (v := 8) dX4_push_9 (by decide) ?_
  refine x_icmp_ne X (tgt := 20) dX4_push_11 (by decide) hf (fun hf => ?_) (fun hf => ?_)
  · refine x_aload_n X dX4_push_20 0 rfl ?_
    refine x_get X E.1.1 (T := TX4) (C := RX4) inW4 0 rfl rfl 20 (by decide) w_850 rfl (v := .ref (ad 13)) rfl dX4_push_21 ?_
    refine x_aload_n X dX4_push_24 0 rfl ?_
    refine x_get X E.1.1 (T := TX4) (C := RX4) inW4 0 rfl rfl 19 (by decide) w_849 rfl (v := .int (w1.1 0 19)) rfl dX4_push_25 ?_
    refine x_nmI hf (fun x3 hf => ?_)
    refine x_aload_n X dX4_push_28 0 rfl ?_
    refine x_get X E.1.1 (T := TX4) (C := RX4) inW4 0 rfl rfl 2 (by decide) w_832 rfl (v := .int (w1.1 0 2)) rfl dX4_push_29 ?_
    refine x_nmI hf (fun x4 hf => ?_)
    refine x_iast X E.1.1 13 rfl dX4_push_32 hf (picM kA ad) (setM_13 kA ad _ _ _) (fun w5 hf => ?_)
    refine x_aload_n X dX4_push_33 0 rfl ?_
    refine x_get X E.1.1 (T := TX4) (C := RX4) inW4 0 rfl rfl 24 (by decide) w_854 rfl (v := .ref (ad 17)) rfl dX4_push_34 ?_
    refine x_aload_n X dX4_push_37 0 rfl ?_
    refine x_get X E.1.1 (T := TX4) (C := RX4) inW4 0 rfl rfl 19 (by decide) w_849 rfl (v := .int (w5.1 0 19)) rfl dX4_push_38 ?_
    refine x_nmI hf (fun x6 hf => ?_)
    refine x_aload_n X dX4_push_41 0 rfl ?_
    refine x_get X E.1.1 (T := TX4) (C := RX4) inW4 0 rfl rfl 8 (by decide) w_838 rfl (v := .int (w5.1 0 8)) rfl dX4_push_42 ?_
    refine x_nmI hf (fun x7 hf => ?_)
    refine x_iast X E.1.1 17 rfl dX4_push_45 hf (picM kA ad) (setM_17 kA ad _ _ _) (fun w8 hf => ?_)
    refine x_iconst X (v := 0) dX4_push_46 (by decide) ?_
    refine x_istore_n X (lv2 := [(1, .int 0), (0, .ref (ad 0))]) dX4_push_47 (by decide) rfl ?_
    refine x_lpick (lv2 := [(0, .ref (ad 0)), (1, .int 0)]) [1, 0] rfl ?_
    obtain ⟨w9, h10, hf⟩ := bn_some hf
    refine lp_X4_push_48 X E fu  fu (0 : Int32) w8 w9 h10 ?_
    refine x_iconst X (v := 0) dX4_push_100 (by decide) ?_
    refine x_istore_n X (lv2 := [(1, .int 0), (0, .ref (ad 0))]) dX4_push_101 (by decide) rfl ?_
    refine x_lpick (lv2 := [(0, .ref (ad 0)), (1, .int 0)]) [1, 0] rfl ?_
    obtain ⟨w11, h12, hf⟩ := bn_some hf
    refine lp_X4_push_102 X E fu  fu (0 : Int32) w9 w11 h12 ?_
    refine x_aload_n X dX4_push_138 0 rfl ?_
    refine x_dup X dX4_push_139 rfl ?_
    refine x_get X E.1.1 (T := TX4) (C := RX4) inW4 0 rfl rfl 19 (by decide) w_849 rfl (v := .int (w11.1 0 19)) rfl dX4_push_140 ?_
    refine x_nmI hf (fun x13 hf => ?_)
    refine x_iconst X (v := 1) dX4_push_143 (by decide) ?_
    refine x_iadd X dX4_push_144 ?_
    refine x_put X E.1.1 (T := TX4) (C := RX4) (ty := .int) inW4 tyX4 tyX4_ok nmX4 0 rfl rfl 19 (by decide) w_849 rfl rfl (by decide +kernel) rfl rfl (Nat.le_of_ble_eq_true rfl) dX4_push_145 (picM kA ad (wI w11 0 19 (x13 + 1))) rfl ?_
    refine x_nmW (pic := picM kA ad) (u := (wI w11 0 19 (x13 + 1))) hf (fun w14 hf => ?_)
    refine x_aload_n X dX4_push_148 0 rfl ?_
    refine x_get X E.1.1 (T := TX4) (C := RX4) inW4 0 rfl rfl 19 (by decide) w_849 rfl (v := .int (w14.1 0 19)) rfl dX4_push_149 ?_
    refine x_nmI hf (fun x15 hf => ?_)
    cases hf
    exact x_iret X hr hlk rfl rfl dX4_push_152
  · refine x_aload_n X dX4_push_14 0 rfl ?_
    refine x_iconst X (v := 1) dX4_push_15 (by decide) ?_
    obtain ⟨x17, w16, hx17, hf⟩ := bn2_some hf
    refine x_callV_i X E (As := [.int 1]) (rest := []) (n := 1) (ws2 := (picM kA ad w16)) (goodV w_935 w_937 s_29 w_52 w_938) (met_X4_fail l E.2.2.2 D kA ad fu w1 (1 : Int32) x17 w16 hx17) rfl rfl (by decide +kernel) ⟨by decide, by decide⟩ 0 rfl (qc := (RX4, TX4, _)) rfl rfl rfl rfl (Nat.le_of_ble_eq_true rfl) dX4_push_16 ⟨by decide, by decide⟩ ?_
    cases hf
    exact x_iret X hr hlk rfl rfl dX4_push_19
end
section
variable {p : Program} {l : Launch} {e : Env} {s : State} {m : MethodId} {args : Array Value} {below : List Frame} {meth : Method} {c : Code} {D : va_G} {kA : Nat → ClassId} {A : Nat → Prop} {Q : State → Prop} {ad : Nat → Nat}
abbrev rm_X4_pop : Room := { frames := 4, cells := 0, slots := 0, locals := 92 }
set_option maxRecDepth 100000 in
set_option maxHeartbeats 4000000 in
theorem lp_X4_pop_100 (X : CX p m c cX4_pop 4 s args RX4) (E : EX l s D kA A) (fu : Nat) (y1 : Int32) (y2 : Int32) : ∀ (n : Nat) (y3 : Int32) (w : WS) (rw : WS), iter (fun q => bd_X4_pop_100 fu y1 y2 q.1 q.2) n (y3, w) = some (rw) → CS p l e rm_X4_pop s m args below meth c D A 4 0 0 Q (picM kA ad rw) 142 [(0, .ref (ad 0)), (1, .int y1), (2, .int y2)] [] → CS p l e rm_X4_pop s m args below meth c D A 4 0 0 Q (picM kA ad w) 100 [(0, .ref (ad 0)), (1, .int y1), (2, .int y2), (3, .int y3)] [] := by
  intro n
  induction n with
  | zero =>
    intro y3 w rw hit kk
    exact (iter_0 hit).elim
  | succ n ih =>
    intro y3 w rw hit kk
    obtain ⟨o, h1, hit⟩ := iter_one hit
    have hf : bd_X4_pop_100 fu y1 y2 y3 w = some o := h1
    unfold bd_X4_pop_100 at hf
    refine x_iload_n X dX4_pop_100 3 rfl ?_
    refine x_iload_n X dX4_pop_101 1 rfl ?_
    refine x_icmp_ge X (tgt := 142) dX4_pop_102 (by decide) hf (fun hf => ?_) (fun hf => ?_)
    · cases hf
      cases hit
      refine x_lpick (lv2 := [(0, .ref (ad 0)), (1, .int y1), (2, .int y2)]) [0, 1, 2] rfl ?_
      exact kk
    · refine x_aload_n X dX4_pop_105 0 rfl ?_
      refine x_get X E.1.1 (T := TX4) (C := RX4) inW4 0 rfl rfl 7 (by decide) w_837 rfl (v := .ref (ad 5)) rfl dX4_pop_106 ?_
      refine x_bipush X (v := 64) dX4_pop_109 (by decide) ?_
      refine x_iload_n X dX4_pop_111 2 rfl ?_
      refine x_imul X dX4_pop_112 ?_
      refine x_iload_n X dX4_pop_113 3 rfl ?_
      refine x_iadd X dX4_pop_114 ?_
      refine x_aload_n X dX4_pop_115 0 rfl ?_
      refine x_get X E.1.1 (T := TX4) (C := RX4) inW4 0 rfl rfl 23 (by decide) w_853 rfl (v := .ref (ad 16)) rfl dX4_pop_116 ?_
      refine x_sipush X (v := 4096) dX4_pop_119 (by decide) ?_
      refine x_aload_n X dX4_pop_122 0 rfl ?_
      refine x_get X E.1.1 (T := TX4) (C := RX4) inW4 0 rfl rfl 19 (by decide) w_849 rfl (v := .int (w.1 0 19)) rfl dX4_pop_123 ?_
      refine x_nmI hf (fun x1 hf => ?_)
      refine x_imul X dX4_pop_126 ?_
      refine x_bipush X (v := 64) dX4_pop_127 (by decide) ?_
      refine x_iload_n X dX4_pop_129 2 rfl ?_
      refine x_imul X dX4_pop_130 ?_
      refine x_iadd X dX4_pop_131 ?_
      refine x_iload_n X dX4_pop_132 3 rfl ?_
      refine x_iadd X dX4_pop_133 ?_
      refine x_iald X E.1.1 16 rfl dX4_pop_134 hf (fun x2 hf => ?_)
      refine x_iast X E.1.1 5 rfl dX4_pop_135 hf (picM kA ad) (setM_5 kA ad _ _ _) (fun w3 hf => ?_)
      refine x_iinc X dX4_pop_136 3 rfl (by decide) (y3 + 1) rfl hf (fun x4 => [(3, .int x4), (0, .ref (ad 0)), (1, .int y1), (2, .int y2)]) (fun _ => rfl) (fun x4 hf => ?_)
      refine x_goto X (tgt := 100) dX4_pop_139 (by decide) ?_
      cases hf
      refine x_lpick (lv2 := [(0, .ref (ad 0)), (1, .int y1), (2, .int y2), (3, .int x4)]) [1, 2, 3, 0] rfl ?_
      exact ih _ _ _ hit kk
set_option maxRecDepth 100000 in
set_option maxHeartbeats 4000000 in
theorem lp_X4_pop_53 (X : CX p m c cX4_pop 4 s args RX4) (E : EX l s D kA A) (fu : Nat) (y1 : Int32) : ∀ (n : Nat) (y2 : Int32) (w : WS) (rw : WS), iter (fun q => bd_X4_pop_53 fu y1 q.1 q.2) n (y2, w) = some (rw) → CS p l e rm_X4_pop s m args below meth c D A 4 0 0 Q (picM kA ad rw) 148 [(0, .ref (ad 0))] [] → CS p l e rm_X4_pop s m args below meth c D A 4 0 0 Q (picM kA ad w) 53 [(0, .ref (ad 0)), (1, .int y1), (2, .int y2)] [] := by
  intro n
  induction n with
  | zero =>
    intro y2 w rw hit kk
    exact (iter_0 hit).elim
  | succ n ih =>
    intro y2 w rw hit kk
    obtain ⟨o, h1, hit⟩ := iter_one hit
    have hf : bd_X4_pop_53 fu y1 y2 w = some o := h1
    unfold bd_X4_pop_53 at hf
    refine x_iload_n X dX4_pop_53 2 rfl ?_
    refine x_iload_n X dX4_pop_54 1 rfl ?_
    refine x_icmp_ge X (tgt := 148) dX4_pop_55 (by decide) hf (fun hf => ?_) (fun hf => ?_)
    · cases hf
      cases hit
      refine x_lpick (lv2 := [(0, .ref (ad 0))]) [0] rfl ?_
      exact kk
    · refine x_aload_n X dX4_pop_58 0 rfl ?_
      refine x_get X E.1.1 (T := TX4) (C := RX4) inW4 0 rfl rfl 5 (by decide) w_835 rfl (v := .ref (ad 3)) rfl dX4_pop_59 ?_
      refine x_iload_n X dX4_pop_62 2 rfl ?_
      refine x_aload_n X dX4_pop_63 0 rfl ?_
      refine x_get X E.1.1 (T := TX4) (C := RX4) inW4 0 rfl rfl 21 (by decide) w_851 rfl (v := .ref (ad 14)) rfl dX4_pop_64 ?_
      refine x_bipush X (v := 64) dX4_pop_67 (by decide) ?_
      refine x_aload_n X dX4_pop_69 0 rfl ?_
      refine x_get X E.1.1 (T := TX4) (C := RX4) inW4 0 rfl rfl 19 (by decide) w_849 rfl (v := .int (w.1 0 19)) rfl dX4_pop_70 ?_
      refine x_nmI hf (fun x1 hf => ?_)
      refine x_imul X dX4_pop_73 ?_
      refine x_iload_n X dX4_pop_74 2 rfl ?_
      refine x_iadd X dX4_pop_75 ?_
      refine x_iald X E.1.1 14 rfl dX4_pop_76 hf (fun x2 hf => ?_)
      refine x_iast X E.1.1 3 rfl dX4_pop_77 hf (picM kA ad) (setM_3 kA ad _ _ _) (fun w3 hf => ?_)
      refine x_aload_n X dX4_pop_78 0 rfl ?_
      refine x_get X E.1.1 (T := TX4) (C := RX4) inW4 0 rfl rfl 6 (by decide) w_836 rfl (v := .ref (ad 4)) rfl dX4_pop_79 ?_
      refine x_iload_n X dX4_pop_82 2 rfl ?_
      refine x_aload_n X dX4_pop_83 0 rfl ?_
      refine x_get X E.1.1 (T := TX4) (C := RX4) inW4 0 rfl rfl 22 (by decide) w_852 rfl (v := .ref (ad 15)) rfl dX4_pop_84 ?_
      refine x_bipush X (v := 64) dX4_pop_87 (by decide) ?_
      refine x_aload_n X dX4_pop_89 0 rfl ?_
      refine x_get X E.1.1 (T := TX4) (C := RX4) inW4 0 rfl rfl 19 (by decide) w_849 rfl (v := .int (w3.1 0 19)) rfl dX4_pop_90 ?_
      refine x_nmI hf (fun x4 hf => ?_)
      refine x_imul X dX4_pop_93 ?_
      refine x_iload_n X dX4_pop_94 2 rfl ?_
      refine x_iadd X dX4_pop_95 ?_
      refine x_zald X E.1.1 15 rfl dX4_pop_96 hf (fun x5 hf => ?_)
      refine x_zast X E.1.1 4 rfl dX4_pop_97 hf (picM kA ad) (setM_4 kA ad _ _ _) (fun w6 hf => ?_)
      refine x_iconst X (v := 0) dX4_pop_98 (by decide) ?_
      refine x_istore_n X (lv2 := [(3, .int 0), (0, .ref (ad 0)), (1, .int y1), (2, .int y2)]) dX4_pop_99 (by decide) rfl ?_
      refine x_lpick (lv2 := [(0, .ref (ad 0)), (1, .int y1), (2, .int y2), (3, .int 0)]) [1, 2, 3, 0] rfl ?_
      obtain ⟨w7, h8, hf⟩ := bn_some hf
      refine lp_X4_pop_100 X E fu y1 y2 fu (0 : Int32) w6 w7 h8 ?_
      refine x_iinc X dX4_pop_142 2 rfl (by decide) (y2 + 1) rfl hf (fun x9 => [(2, .int x9), (0, .ref (ad 0)), (1, .int y1)]) (fun _ => rfl) (fun x9 hf => ?_)
      refine x_goto X (tgt := 53) dX4_pop_145 (by decide) ?_
      cases hf
      refine x_lpick (lv2 := [(0, .ref (ad 0)), (1, .int y1), (2, .int x9)]) [1, 2, 0] rfl ?_
      exact ih _ _ _ hit kk
set_option maxRecDepth 100000 in
set_option maxHeartbeats 4000000 in
theorem met_X4_pop (l : Launch) (hst : l.stackTraces = false) (D : va_G) (kA : Nat → ClassId) (ad : Nat → Nat) (fu : Nat) (w : WS)  (v : Int32) (w1 : WS) (hf : f_X4_pop fu w = some (v, w1)) (sz : Nat) : Met l yX4_pop (wsY yX4_pop cX4_pop 4 (some .int)) rm_X4_pop (va_Pc [.ref (ad 0)] (PreG D kA (picM kA ad w) sz)) (va_Qi (fun (r : Int32) (_ : Unit) => r = v) (fun _ t => PosG D (va_A (picM kA ad w) sz) (picM kA ad w1) t) (va_A (picM kA ad w) sz)) 0 0 (va_A (picM kA ad w) sz) := by
  refine metG (own := RX4) hst (by decide +kernel) rfl (Nat.le_of_ble_eq_true rfl) rfl ?_
  intro p e s m below meth c X hr hlk E _
  unfold f_X4_pop at hf
  refine x_aload_n X dX4_pop_0 0 rfl ?_
  refine x_iconst X (v := 0) dX4_pop_1 (by decide) ?_
  refine x_put X E.1.1 (T := TX4) (C := RX4) (ty := .int) inW4 tyX4 tyX4_ok nmX4 0 rfl rfl 0 (by decide) w_830 rfl rfl (by decide +kernel) rfl rfl (Nat.le_of_ble_eq_true rfl) dX4_pop_2 (picM kA ad (wI w 0 0 0)) rfl ?_
  refine x_nmW (pic := picM kA ad) (u := (wI w 0 0 0)) hf (fun w1 hf => ?_)
  refine x_aload_n X dX4_pop_5 0 rfl ?_
  refine x_get X E.1.1 (T := TX4) (C := RX4) inW4 0 rfl rfl 19 (by decide) w_849 rfl (v := .int (w1.1 0 19)) rfl dX4_pop_6 ?_
  refine x_nmI hf (fun x2 hf => ?_)
  refine x_if_ne X (tgt := 18) dX4_pop_9 (by decide) hf (fun hf => ?_) (fun hf => ?_)
  · refine x_aload_n X dX4_pop_18 0 rfl ?_
    refine x_dup X dX4_pop_19 rfl ?_
    refine x_get X E.1.1 (T := TX4) (C := RX4) inW4 0 rfl rfl 19 (by decide) w_849 rfl (v := .int (w1.1 0 19)) rfl dX4_pop_20 ?_
    refine x_nmI hf (fun x3 hf => ?_)
    refine x_iconst X (v := 1) dX4_pop_23 (by decide) ?_
    refine x_isub X dX4_pop_24 ?_
    refine x_put X E.1.1 (T := TX4) (C := RX4) (ty := .int) inW4 tyX4 tyX4_ok nmX4 0 rfl rfl 19 (by decide) w_849 rfl rfl (by decide +kernel) rfl rfl (Nat.le_of_ble_eq_true rfl) dX4_pop_25 (picM kA ad (wI w1 0 19 (x3 - 1))) rfl ?_
    refine x_nmW (pic := picM kA ad) (u := (wI w1 0 19 (x3 - 1))) hf (fun w4 hf => ?_)
    refine x_aload_n X dX4_pop_28 0 rfl ?_
    refine x_get X E.1.1 (T := TX4) (C := RX4) inW4 0 rfl rfl 20 (by decide) w_850 rfl (v := .ref (ad 13)) rfl dX4_pop_29 ?_
    refine x_aload_n X dX4_pop_32 0 rfl ?_
    refine x_get X E.1.1 (T := TX4) (C := RX4) inW4 0 rfl rfl 19 (by decide) w_849 rfl (v := .int (w4.1 0 19)) rfl dX4_pop_33 ?_
    refine x_nmI hf (fun x5 hf => ?_)
    refine x_iald X E.1.1 13 rfl dX4_pop_36 hf (fun x6 hf => ?_)
    refine x_istore_n X (lv2 := [(1, .int x6), (0, .ref (ad 0))]) dX4_pop_37 (by decide) rfl ?_
    refine x_aload_n X dX4_pop_38 1 rfl ?_
    refine x_aload_n X dX4_pop_39 1 rfl ?_
    refine x_get X E.1.1 (T := TX4) (C := RX4) inW4 0 rfl rfl 24 (by decide) w_854 rfl (v := .ref (ad 17)) rfl dX4_pop_40 ?_
    refine x_aload_n X dX4_pop_43 1 rfl ?_
    refine x_get X E.1.1 (T := TX4) (C := RX4) inW4 0 rfl rfl 19 (by decide) w_849 rfl (v := .int (w4.1 0 19)) rfl dX4_pop_44 ?_
    refine x_nmI hf (fun x7 hf => ?_)
    refine x_iald X E.1.1 17 rfl dX4_pop_47 hf (fun x8 hf => ?_)
    refine x_put X E.1.1 (T := TX4) (C := RX4) (ty := .int) inW4 tyX4 tyX4_ok nmX4 0 rfl rfl 8 (by decide) w_838 rfl rfl (by decide +kernel) rfl rfl (Nat.le_of_ble_eq_true rfl) dX4_pop_48 (picM kA ad (wI w4 0 8 x8)) rfl ?_
    refine x_nmW (pic := picM kA ad) (u := (wI w4 0 8 x8)) hf (fun w9 hf => ?_)
    refine x_iconst X (v := 0) dX4_pop_51 (by decide) ?_
    refine x_istore_n X (lv2 := [(2, .int 0), (1, .int x6), (0, .ref (ad 0))]) dX4_pop_52 (by decide) rfl ?_
    refine x_lpick (lv2 := [(0, .ref (ad 0)), (1, .int x6), (2, .int 0)]) [2, 1, 0] rfl ?_
    obtain ⟨w10, h11, hf⟩ := bn_some hf
    refine lp_X4_pop_53 X E fu x6 fu (0 : Int32) w9 w10 h11 ?_
    refine x_aload_n X dX4_pop_148 0 rfl ?_
    obtain ⟨x13, w12, hx13, hf⟩ := bn2_some hf
    refine x_callV_i X E (As := []) (rest := []) (n := 0) (ws2 := (picM kA ad w12)) (goodV w_955 w_957 s_32 w_52 w_958) (met_X4_renewed l E.2.2.2 D kA ad fu w10 x13 w12 hx13) rfl rfl (by decide +kernel) ⟨by decide, by decide⟩ 0 rfl (qc := (RX4, TX4, _)) rfl rfl rfl rfl (Nat.le_of_ble_eq_true rfl) dX4_pop_149 ⟨by decide, by decide⟩ ?_
    cases hf
    exact x_iret X hr hlk rfl rfl dX4_pop_152
  · refine x_aload_n X dX4_pop_12 0 rfl ?_
    refine x_iconst X (v := 1) dX4_pop_13 (by decide) ?_
    obtain ⟨x15, w14, hx15, hf⟩ := bn2_some hf
    refine x_callV_i X E (As := [.int 1]) (rest := []) (n := 1) (ws2 := (picM kA ad w14)) (goodV w_935 w_937 s_29 w_52 w_938) (met_X4_fail l E.2.2.2 D kA ad fu w1 (1 : Int32) x15 w14 hx15) rfl rfl (by decide +kernel) ⟨by decide, by decide⟩ 0 rfl (qc := (RX4, TX4, _)) rfl rfl rfl rfl (Nat.le_of_ble_eq_true rfl) dX4_pop_14 ⟨by decide, by decide⟩ ?_
    cases hf
    exact x_iret X hr hlk rfl rfl dX4_pop_17
end
section
variable {p : Program} {l : Launch} {e : Env} {s : State} {m : MethodId} {args : Array Value} {below : List Frame} {meth : Method} {c : Code} {D : va_G} {kA : Nat → ClassId} {A : Nat → Prop} {Q : State → Prop} {ad : Nat → Nat}
abbrev rm_X4_digest : Room := { frames := 1, cells := 0, slots := 0, locals := 22 }
set_option maxRecDepth 100000 in
set_option maxHeartbeats 4000000 in
theorem lp_X4_digest_47 (X : CX p m c cX4_digest 5 s args RX4) (E : EX l s D kA A) (fu : Nat) (w : WS) : ∀ (n : Nat) (y1 : Int64) (y3 : Int32) (r1 : Int64), iter (fun q => bd_X4_digest_47 fu w q.1 q.2) n (y1, y3) = some (r1) → CS p l e rm_X4_digest s m args below meth c D A 5 0 0 Q (picM kA ad w) 115 [(0, .ref (ad 0)), (1, .long r1)] [] → CS p l e rm_X4_digest s m args below meth c D A 5 0 0 Q (picM kA ad w) 47 [(0, .ref (ad 0)), (1, .long y1), (3, .int y3)] [] := by
  intro n
  induction n with
  | zero =>
    intro y1 y3 r1 hit kk
    exact (iter_0 hit).elim
  | succ n ih =>
    intro y1 y3 r1 hit kk
    obtain ⟨o, h1, hit⟩ := iter_one hit
    have hf : bd_X4_digest_47 fu w y1 y3 = some o := h1
    unfold bd_X4_digest_47 at hf
    refine x_iload_n X dX4_digest_47 2 rfl ?_
    refine x_aload_n X dX4_digest_48 0 rfl ?_
    refine x_get X E.1.1 (T := TX4) (C := RX4) inW4 0 rfl rfl 2 (by decide) w_832 rfl (v := .int (w.1 0 2)) rfl dX4_digest_49 ?_
    refine x_nmI hf (fun x1 hf => ?_)
    refine x_icmp_ge X (tgt := 115) dX4_digest_52 (by decide) hf (fun hf => ?_) (fun hf => ?_)
    · cases hf
      cases hit
      refine x_lpick (lv2 := [(0, .ref (ad 0)), (1, .long y1)]) [0, 1] rfl ?_
      exact kk
    · refine x_lload_n X dX4_digest_55 1 rfl ?_
      refine x_ldc2 X (v := 31) w_1128 dX4_digest_56 ?_
      refine x_lmul X dX4_digest_59 ?_
      refine x_aload_n X dX4_digest_60 0 rfl ?_
      refine x_get X E.1.1 (T := TX4) (C := RX4) inW4 0 rfl rfl 5 (by decide) w_835 rfl (v := .ref (ad 3)) rfl dX4_digest_61 ?_
      refine x_iload_n X dX4_digest_64 2 rfl ?_
      refine x_iald X E.1.1 3 rfl dX4_digest_65 hf (fun x2 hf => ?_)
      refine x_i2l X dX4_digest_66 ?_
      refine x_ladd X dX4_digest_67 ?_
      refine x_ldc2 X (v := 31) w_1128 dX4_digest_68 ?_
      refine x_lmul X dX4_digest_71 ?_
      refine x_aload_n X dX4_digest_72 0 rfl ?_
      refine x_get X E.1.1 (T := TX4) (C := RX4) inW4 0 rfl rfl 6 (by decide) w_836 rfl (v := .ref (ad 4)) rfl dX4_digest_73 ?_
      refine x_iload_n X dX4_digest_76 2 rfl ?_
      refine x_zald X E.1.1 4 rfl dX4_digest_77 hf (fun x3 hf => ?_)
      refine x_if_eq X (tgt := 85) dX4_digest_78 (by decide) hf (fun hf => ?_) (fun hf => ?_)
      · refine x_lconst X (v := 0) dX4_digest_85 (by decide) ?_
        refine x_ladd X dX4_digest_86 ?_
        refine x_nmL hf (fun x4 hf => ?_)
        refine x_lstore_n X (lv2 := [(1, .long x4), (0, .ref (ad 0)), (3, .int y3)]) dX4_digest_87 (by decide) rfl ?_
        refine x_aload_n X dX4_digest_88 1 rfl ?_
        refine x_get X E.1.1 (T := TX4) (C := RX4) inW4 0 rfl rfl 9 (by decide) w_839 rfl (v := .int (w.1 0 9)) rfl dX4_digest_89 ?_
        refine x_nmI hf (fun x5 hf => ?_)
        refine x_if_eq X (tgt := 109) dX4_digest_92 (by decide) hf (fun hf => ?_) (fun hf => ?_)
        · refine x_iinc X dX4_digest_109 2 rfl (by decide) (y3 + 1) rfl hf (fun x6 => [(3, .int x6), (1, .long x4), (0, .ref (ad 0))]) (fun _ => rfl) (fun x6 hf => ?_)
          refine x_goto X (tgt := 47) dX4_digest_112 (by decide) ?_
          cases hf
          refine x_lpick (lv2 := [(0, .ref (ad 0)), (1, .long x4), (3, .int x6)]) [2, 1, 0] rfl ?_
          exact ih _ _ _ hit kk
        · refine x_lload_n X dX4_digest_95 0 rfl ?_
          refine x_ldc2 X (v := 31) w_1128 dX4_digest_96 ?_
          refine x_lmul X dX4_digest_99 ?_
          refine x_aload_n X dX4_digest_100 1 rfl ?_
          refine x_get X E.1.1 (T := TX4) (C := RX4) inW4 0 rfl rfl 10 (by decide) w_840 rfl (v := .ref (ad 6)) rfl dX4_digest_101 ?_
          refine x_iload_n X dX4_digest_104 2 rfl ?_
          refine x_iald X E.1.1 6 rfl dX4_digest_105 hf (fun x7 hf => ?_)
          refine x_i2l X dX4_digest_106 ?_
          refine x_ladd X dX4_digest_107 ?_
          refine x_nmL hf (fun x8 hf => ?_)
          refine x_lstore_n X (lv2 := [(1, .long x8), (0, .ref (ad 0)), (3, .int y3)]) dX4_digest_108 (by decide) rfl ?_
          refine x_iinc X dX4_digest_109 2 rfl (by decide) (y3 + 1) rfl hf (fun x9 => [(3, .int x9), (1, .long x8), (0, .ref (ad 0))]) (fun _ => rfl) (fun x9 hf => ?_)
          refine x_goto X (tgt := 47) dX4_digest_112 (by decide) ?_
          cases hf
          refine x_lpick (lv2 := [(0, .ref (ad 0)), (1, .long x8), (3, .int x9)]) [2, 1, 0] rfl ?_
          exact ih _ _ _ hit kk
      · refine x_lconst X (v := 1) dX4_digest_81 (by decide) ?_
        refine x_goto X (tgt := 86) dX4_digest_82 (by decide) ?_
        refine x_ladd X dX4_digest_86 ?_
        refine x_nmL hf (fun x10 hf => ?_)
        refine x_lstore_n X (lv2 := [(1, .long x10), (0, .ref (ad 0)), (3, .int y3)]) dX4_digest_87 (by decide) rfl ?_
        refine x_aload_n X dX4_digest_88 1 rfl ?_
        refine x_get X E.1.1 (T := TX4) (C := RX4) inW4 0 rfl rfl 9 (by decide) w_839 rfl (v := .int (w.1 0 9)) rfl dX4_digest_89 ?_
        refine x_nmI hf (fun x11 hf => ?_)
        refine x_if_eq X (tgt := 109) dX4_digest_92 (by decide) hf (fun hf => ?_) (fun hf => ?_)
        · refine x_iinc X dX4_digest_109 2 rfl (by decide) (y3 + 1) rfl hf (fun x12 => [(3, .int x12), (1, .long x10), (0, .ref (ad 0))]) (fun _ => rfl) (fun x12 hf => ?_)
          refine x_goto X (tgt := 47) dX4_digest_112 (by decide) ?_
          cases hf
          refine x_lpick (lv2 := [(0, .ref (ad 0)), (1, .long x10), (3, .int x12)]) [2, 1, 0] rfl ?_
          exact ih _ _ _ hit kk
        · refine x_lload_n X dX4_digest_95 0 rfl ?_
          refine x_ldc2 X (v := 31) w_1128 dX4_digest_96 ?_
          refine x_lmul X dX4_digest_99 ?_
          refine x_aload_n X dX4_digest_100 1 rfl ?_
          refine x_get X E.1.1 (T := TX4) (C := RX4) inW4 0 rfl rfl 10 (by decide) w_840 rfl (v := .ref (ad 6)) rfl dX4_digest_101 ?_
          refine x_iload_n X dX4_digest_104 2 rfl ?_
          refine x_iald X E.1.1 6 rfl dX4_digest_105 hf (fun x13 hf => ?_)
          refine x_i2l X dX4_digest_106 ?_
          refine x_ladd X dX4_digest_107 ?_
          refine x_nmL hf (fun x14 hf => ?_)
          refine x_lstore_n X (lv2 := [(1, .long x14), (0, .ref (ad 0)), (3, .int y3)]) dX4_digest_108 (by decide) rfl ?_
          refine x_iinc X dX4_digest_109 2 rfl (by decide) (y3 + 1) rfl hf (fun x15 => [(3, .int x15), (1, .long x14), (0, .ref (ad 0))]) (fun _ => rfl) (fun x15 hf => ?_)
          refine x_goto X (tgt := 47) dX4_digest_112 (by decide) ?_
          cases hf
          refine x_lpick (lv2 := [(0, .ref (ad 0)), (1, .long x14), (3, .int x15)]) [2, 1, 0] rfl ?_
          exact ih _ _ _ hit kk
set_option maxRecDepth 100000 in
set_option maxHeartbeats 4000000 in
theorem lp_X4_digest_135 (X : CX p m c cX4_digest 5 s args RX4) (E : EX l s D kA A) (fu : Nat) (w : WS) (y3 : Int32) : ∀ (n : Nat) (y1 : Int64) (y4 : Int32) (r1 : Int64), iter (fun q => bd_X4_digest_135 fu w y3 q.1 q.2) n (y1, y4) = some (r1) → CS p l e rm_X4_digest s m args below meth c D A 5 0 0 Q (picM kA ad w) 180 [(0, .ref (ad 0)), (1, .long r1), (3, .int y3)] [] → CS p l e rm_X4_digest s m args below meth c D A 5 0 0 Q (picM kA ad w) 135 [(0, .ref (ad 0)), (1, .long y1), (3, .int y3), (4, .int y4)] [] := by
  intro n
  induction n with
  | zero =>
    intro y1 y4 r1 hit kk
    exact (iter_0 hit).elim
  | succ n ih =>
    intro y1 y4 r1 hit kk
    obtain ⟨o, h1, hit⟩ := iter_one hit
    have hf : bd_X4_digest_135 fu w y3 y1 y4 = some o := h1
    unfold bd_X4_digest_135 at hf
    refine x_iload X dX4_digest_135 3 rfl ?_
    refine x_aload_n X dX4_digest_137 0 rfl ?_
    refine x_get X E.1.1 (T := TX4) (C := RX4) inW4 0 rfl rfl 2 (by decide) w_832 rfl (v := .int (w.1 0 2)) rfl dX4_digest_138 ?_
    refine x_nmI hf (fun x1 hf => ?_)
    refine x_icmp_ge X (tgt := 180) dX4_digest_141 (by decide) hf (fun hf => ?_) (fun hf => ?_)
    · cases hf
      cases hit
      refine x_lpick (lv2 := [(0, .ref (ad 0)), (1, .long y1), (3, .int y3)]) [0, 1, 2] rfl ?_
      exact kk
    · refine x_aload_n X dX4_digest_144 0 rfl ?_
      refine x_get X E.1.1 (T := TX4) (C := RX4) inW4 0 rfl rfl 12 (by decide) w_842 rfl (v := .ref (ad 8)) rfl dX4_digest_145 ?_
      refine x_bipush X (v := 64) dX4_digest_148 (by decide) ?_
      refine x_iload_n X dX4_digest_150 2 rfl ?_
      refine x_imul X dX4_digest_151 ?_
      refine x_iload X dX4_digest_152 3 rfl ?_
      refine x_iadd X dX4_digest_154 ?_
      refine x_zald X E.1.1 8 rfl dX4_digest_155 hf (fun x2 hf => ?_)
      refine x_if_eq X (tgt := 174) dX4_digest_156 (by decide) hf (fun hf => ?_) (fun hf => ?_)
      · refine x_iinc X dX4_digest_174 3 rfl (by decide) (y4 + 1) rfl hf (fun x3 => [(4, .int x3), (0, .ref (ad 0)), (1, .long y1), (3, .int y3)]) (fun _ => rfl) (fun x3 hf => ?_)
        refine x_goto X (tgt := 135) dX4_digest_177 (by decide) ?_
        cases hf
        refine x_lpick (lv2 := [(0, .ref (ad 0)), (1, .long y1), (3, .int y3), (4, .int x3)]) [1, 2, 3, 0] rfl ?_
        exact ih _ _ _ hit kk
      · refine x_lload_n X dX4_digest_159 1 rfl ?_
        refine x_ldc2 X (v := 31) w_1128 dX4_digest_160 ?_
        refine x_lmul X dX4_digest_163 ?_
        refine x_aload_n X dX4_digest_164 0 rfl ?_
        refine x_iload_n X dX4_digest_165 2 rfl ?_
        refine x_iload X dX4_digest_166 3 rfl ?_
        obtain ⟨x4, hx4, hf⟩ := bn_some hf
        refine x_callV_i X E (As := [.int y3, .int y4]) (rest := [.long (y1 * 31)]) (n := 2) (ws2 := (picM kA ad w)) (goodV w_1043 w_1045 s_39 w_52 w_1046) (met_X4_costOf l E.2.2.2 D kA ad fu w y3 y4 x4 hx4) rfl rfl (by decide +kernel) ⟨by decide, by decide⟩ 0 rfl (qc := (RX4, TX4, _)) rfl rfl rfl rfl (Nat.le_of_ble_eq_true rfl) dX4_digest_168 ⟨by decide, by decide⟩ ?_
        refine x_i2l X dX4_digest_171 ?_
        refine x_ladd X dX4_digest_172 ?_
        refine x_nmL hf (fun x5 hf => ?_)
        refine x_lstore_n X (lv2 := [(1, .long x5), (0, .ref (ad 0)), (3, .int y3), (4, .int y4)]) dX4_digest_173 (by decide) rfl ?_
        refine x_iinc X dX4_digest_174 3 rfl (by decide) (y4 + 1) rfl hf (fun x6 => [(4, .int x6), (1, .long x5), (0, .ref (ad 0)), (3, .int y3)]) (fun _ => rfl) (fun x6 hf => ?_)
        refine x_goto X (tgt := 135) dX4_digest_177 (by decide) ?_
        cases hf
        refine x_lpick (lv2 := [(0, .ref (ad 0)), (1, .long x5), (3, .int y3), (4, .int x6)]) [2, 1, 3, 0] rfl ?_
        exact ih _ _ _ hit kk
set_option maxRecDepth 100000 in
set_option maxHeartbeats 4000000 in
theorem lp_X4_digest_117 (X : CX p m c cX4_digest 5 s args RX4) (E : EX l s D kA A) (fu : Nat) (w : WS) : ∀ (n : Nat) (y1 : Int64) (y3 : Int32) (r1 : Int64), iter (fun q => bd_X4_digest_117 fu w q.1 q.2) n (y1, y3) = some (r1) → CS p l e rm_X4_digest s m args below meth c D A 5 0 0 Q (picM kA ad w) 186 [(1, .long r1)] [] → CS p l e rm_X4_digest s m args below meth c D A 5 0 0 Q (picM kA ad w) 117 [(0, .ref (ad 0)), (1, .long y1), (3, .int y3)] [] := by
  intro n
  induction n with
  | zero =>
    intro y1 y3 r1 hit kk
    exact (iter_0 hit).elim
  | succ n ih =>
    intro y1 y3 r1 hit kk
    obtain ⟨o, h1, hit⟩ := iter_one hit
    have hf : bd_X4_digest_117 fu w y1 y3 = some o := h1
    unfold bd_X4_digest_117 at hf
    refine x_iload_n X dX4_digest_117 2 rfl ?_
    refine x_aload_n X dX4_digest_118 0 rfl ?_
    refine x_get X E.1.1 (T := TX4) (C := RX4) inW4 0 rfl rfl 2 (by decide) w_832 rfl (v := .int (w.1 0 2)) rfl dX4_digest_119 ?_
    refine x_nmI hf (fun x1 hf => ?_)
    refine x_icmp_ge X (tgt := 186) dX4_digest_122 (by decide) hf (fun hf => ?_) (fun hf => ?_)
    · cases hf
      cases hit
      refine x_lpick (lv2 := [(1, .long y1)]) [1] rfl ?_
      exact kk
    · refine x_aload_n X dX4_digest_125 0 rfl ?_
      refine x_get X E.1.1 (T := TX4) (C := RX4) inW4 0 rfl rfl 9 (by decide) w_839 rfl (v := .int (w.1 0 9)) rfl dX4_digest_126 ?_
      refine x_nmI hf (fun x2 hf => ?_)
      refine x_if_eq X (tgt := 186) dX4_digest_129 (by decide) hf (fun hf => ?_) (fun hf => ?_)
      · cases hf
        cases hit
        refine x_lpick (lv2 := [(1, .long y1)]) [1] rfl ?_
        exact kk
      · refine x_iconst X (v := 0) dX4_digest_132 (by decide) ?_
        refine x_istore X (lv2 := [(4, .int 0), (0, .ref (ad 0)), (1, .long y1), (3, .int y3)]) dX4_digest_133 (by decide) rfl ?_
        refine x_lpick (lv2 := [(0, .ref (ad 0)), (1, .long y1), (3, .int y3), (4, .int 0)]) [1, 2, 3, 0] rfl ?_
        obtain ⟨x3, h4, hf⟩ := bn_some hf
        refine lp_X4_digest_135 X E fu w y3 fu y1 (0 : Int32) x3 h4 ?_
        refine x_iinc X dX4_digest_180 2 rfl (by decide) (y3 + 1) rfl hf (fun x5 => [(3, .int x5), (0, .ref (ad 0)), (1, .long x3)]) (fun _ => rfl) (fun x5 hf => ?_)
        refine x_goto X (tgt := 117) dX4_digest_183 (by decide) ?_
        cases hf
        refine x_lpick (lv2 := [(0, .ref (ad 0)), (1, .long x3), (3, .int x5)]) [1, 2, 0] rfl ?_
        exact ih _ _ _ hit kk
set_option maxRecDepth 100000 in
set_option maxHeartbeats 4000000 in
theorem met_X4_digest (l : Launch) (hst : l.stackTraces = false) (D : va_G) (kA : Nat → ClassId) (ad : Nat → Nat) (fu : Nat) (w : WS)  (v : Int64) (w1 : WS) (hf : f_X4_digest fu w = some (v, w1)) (sz : Nat) : Met l yX4_digest (wsY yX4_digest cX4_digest 5 (some .long)) rm_X4_digest (va_Pc [.ref (ad 0)] (PreG D kA (picM kA ad w) sz)) (va_Ql (fun (r : Int64) (_ : Unit) => r = v) (fun _ t => PosG D (va_A (picM kA ad w) sz) (picM kA ad w1) t) (va_A (picM kA ad w) sz)) 0 0 (va_A (picM kA ad w) sz) := by
  refine metG (own := RX4) hst (by decide +kernel) rfl (Nat.le_of_ble_eq_true rfl) rfl ?_
  intro p e s m below meth c X hr hlk E _
  unfold f_X4_digest at hf
  refine x_aload_n X dX4_digest_0 0 rfl ?_
  refine x_iconst X (v := 0) dX4_digest_1 (by decide) ?_
  refine x_put X E.1.1 (T := TX4) (C := RX4) (ty := .int) inW4 tyX4 tyX4_ok nmX4 0 rfl rfl 0 (by decide) w_830 rfl rfl (by decide +kernel) rfl rfl (Nat.le_of_ble_eq_true rfl) dX4_digest_2 (picM kA ad (wI w 0 0 0)) rfl ?_
  refine x_nmW (pic := picM kA ad) (u := (wI w 0 0 0)) hf (fun w1 hf => ?_)
  refine x_ldc2 X (v := 713) w_1127 dX4_digest_5 ?_
  refine x_aload_n X dX4_digest_8 0 rfl ?_
  refine x_get X E.1.1 (T := TX4) (C := RX4) inW4 0 rfl rfl 1 (by decide) w_831 rfl (v := .int (w1.1 0 1)) rfl dX4_digest_9 ?_
  refine x_nmI hf (fun x2 hf => ?_)
  refine x_i2l X dX4_digest_12 ?_
  refine x_ladd X dX4_digest_13 ?_
  refine x_ldc2 X (v := 31) w_1128 dX4_digest_14 ?_
  refine x_lmul X dX4_digest_17 ?_
  refine x_aload_n X dX4_digest_18 0 rfl ?_
  refine x_get X E.1.1 (T := TX4) (C := RX4) inW4 0 rfl rfl 2 (by decide) w_832 rfl (v := .int (w1.1 0 2)) rfl dX4_digest_19 ?_
  refine x_nmI hf (fun x3 hf => ?_)
  refine x_i2l X dX4_digest_22 ?_
  refine x_ladd X dX4_digest_23 ?_
  refine x_ldc2 X (v := 31) w_1128 dX4_digest_24 ?_
  refine x_lmul X dX4_digest_27 ?_
  refine x_aload_n X dX4_digest_28 0 rfl ?_
  refine x_get X E.1.1 (T := TX4) (C := RX4) inW4 0 rfl rfl 19 (by decide) w_849 rfl (v := .int (w1.1 0 19)) rfl dX4_digest_29 ?_
  refine x_nmI hf (fun x4 hf => ?_)
  refine x_i2l X dX4_digest_32 ?_
  refine x_ladd X dX4_digest_33 ?_
  refine x_ldc2 X (v := 31) w_1128 dX4_digest_34 ?_
  refine x_lmul X dX4_digest_37 ?_
  refine x_aload_n X dX4_digest_38 0 rfl ?_
  refine x_get X E.1.1 (T := TX4) (C := RX4) inW4 0 rfl rfl 14 (by decide) w_844 rfl (v := .int (w1.1 0 14)) rfl dX4_digest_39 ?_
  refine x_nmI hf (fun x5 hf => ?_)
  refine x_i2l X dX4_digest_42 ?_
  refine x_ladd X dX4_digest_43 ?_
  refine x_nmL hf (fun x6 hf => ?_)
  refine x_lstore_n X (lv2 := [(1, .long x6), (0, .ref (ad 0))]) dX4_digest_44 (by decide) rfl ?_
  refine x_iconst X (v := 0) dX4_digest_45 (by decide) ?_
  refine x_istore_n X (lv2 := [(3, .int 0), (1, .long x6), (0, .ref (ad 0))]) dX4_digest_46 (by decide) rfl ?_
  refine x_lpick (lv2 := [(0, .ref (ad 0)), (1, .long x6), (3, .int 0)]) [2, 1, 0] rfl ?_
  obtain ⟨x7, h8, hf⟩ := bn_some hf
  refine lp_X4_digest_47 X E fu w1 fu x6 (0 : Int32) x7 h8 ?_
  refine x_iconst X (v := 0) dX4_digest_115 (by decide) ?_
  refine x_istore_n X (lv2 := [(3, .int 0), (0, .ref (ad 0)), (1, .long x7)]) dX4_digest_116 (by decide) rfl ?_
  refine x_lpick (lv2 := [(0, .ref (ad 0)), (1, .long x7), (3, .int 0)]) [1, 2, 0] rfl ?_
  obtain ⟨x9, h10, hf⟩ := bn_some hf
  refine lp_X4_digest_117 X E fu w1 fu x7 (0 : Int32) x9 h10 ?_
  refine x_lload_n X dX4_digest_186 0 rfl ?_
  cases hf
  exact x_lret X hr hlk rfl rfl dX4_digest_187
end
