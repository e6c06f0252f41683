section
variable {p : Program} {l : Launch} {e : Env} {s : State} {m : MethodId} {args : Array Value} {below : List Frame} {meth : Method} {c : Code} {D : va_G} {kA : Nat → ClassId} {A : Nat → Prop} {Q : State → Prop} {ad al : Nat → Nat} {b L : Nat} {xs : Nat → Int32}
abbrev rm_J13_bitCount_95d88 : Room := { frames := 0, cells := 0, slots := 0, locals := 0 }
set_option maxRecDepth 100000 in
set_option maxHeartbeats 4000000 in
theorem met_J13_bitCount_95d88 (l : Launch) (fu : Nat) (a0 : Int64) (v : Int32) (hf : f_J13_bitCount_95d88 fu a0 = some v) : Met l yJ13_bitCount_95d88 (wsY yJ13_bitCount_95d88 cJ13_bitCount_95d88 2 (some .int)) rm_J13_bitCount_95d88 (va_Pc [.long a0] (fun _ => True)) (va_Qi (fun (r : Int32) (_ : Unit) => r = v) (fun _ _ => True) (fun _ => False)) 0 0 (fun _ => False) := by
  refine metS (own := RJ13) (by decide +kernel) rfl (Nat.le_of_ble_eq_true rfl) rfl ?_
  intro p e s m below meth c X hr hlk
  generalize ([] : va_W) = ws
  unfold f_J13_bitCount_95d88 at hf
  refine x_lload_n X dJ13_bitCount_95d88_0 0 rfl ?_
  refine x_lload_n X dJ13_bitCount_95d88_1 0 rfl ?_
  refine x_iconst X (v := 1) dJ13_bitCount_95d88_2 (by decide) ?_
  refine x_lushr X dJ13_bitCount_95d88_3 ?_
  refine x_ldc2 X (v := 6148914691236517205) w_595 dJ13_bitCount_95d88_4 ?_
  refine x_land X dJ13_bitCount_95d88_7 ?_
  refine x_lsub X dJ13_bitCount_95d88_8 ?_
  refine x_nmL hf (fun x1 hf => ?_)
  refine x_lstore_n X (lv2 := [(0, .long x1)]) dJ13_bitCount_95d88_9 (by decide) rfl ?_
  refine x_lload_n X dJ13_bitCount_95d88_10 0 rfl ?_
  refine x_ldc2 X (v := 3689348814741910323) w_596 dJ13_bitCount_95d88_11 ?_
  refine x_land X dJ13_bitCount_95d88_14 ?_
  refine x_lload_n X dJ13_bitCount_95d88_15 0 rfl ?_
  refine x_iconst X (v := 2) dJ13_bitCount_95d88_16 (by decide) ?_
  refine x_lushr X dJ13_bitCount_95d88_17 ?_
  refine x_ldc2 X (v := 3689348814741910323) w_596 dJ13_bitCount_95d88_18 ?_
  refine x_land X dJ13_bitCount_95d88_21 ?_
  refine x_ladd X dJ13_bitCount_95d88_22 ?_
  refine x_nmL hf (fun x2 hf => ?_)
  refine x_lstore_n X (lv2 := [(0, .long x2)]) dJ13_bitCount_95d88_23 (by decide) rfl ?_
  refine x_lload_n X dJ13_bitCount_95d88_24 0 rfl ?_
  refine x_lload_n X dJ13_bitCount_95d88_25 0 rfl ?_
  refine x_iconst X (v := 4) dJ13_bitCount_95d88_26 (by decide) ?_
  refine x_lushr X dJ13_bitCount_95d88_27 ?_
  refine x_ladd X dJ13_bitCount_95d88_28 ?_
  refine x_ldc2 X (v := 1085102592571150095) w_597 dJ13_bitCount_95d88_29 ?_
  refine x_land X dJ13_bitCount_95d88_32 ?_
  refine x_nmL hf (fun x3 hf => ?_)
  refine x_lstore_n X (lv2 := [(0, .long x3)]) dJ13_bitCount_95d88_33 (by decide) rfl ?_
  refine x_lload_n X dJ13_bitCount_95d88_34 0 rfl ?_
  refine x_lload_n X dJ13_bitCount_95d88_35 0 rfl ?_
  refine x_bipush X (v := 8) dJ13_bitCount_95d88_36 (by decide) ?_
  refine x_lushr X dJ13_bitCount_95d88_38 ?_
  refine x_ladd X dJ13_bitCount_95d88_39 ?_
  refine x_nmL hf (fun x4 hf => ?_)
  refine x_lstore_n X (lv2 := [(0, .long x4)]) dJ13_bitCount_95d88_40 (by decide) rfl ?_
  refine x_lload_n X dJ13_bitCount_95d88_41 0 rfl ?_
  refine x_lload_n X dJ13_bitCount_95d88_42 0 rfl ?_
  refine x_bipush X (v := 16) dJ13_bitCount_95d88_43 (by decide) ?_
  refine x_lushr X dJ13_bitCount_95d88_45 ?_
  refine x_ladd X dJ13_bitCount_95d88_46 ?_
  refine x_nmL hf (fun x5 hf => ?_)
  refine x_lstore_n X (lv2 := [(0, .long x5)]) dJ13_bitCount_95d88_47 (by decide) rfl ?_
  refine x_lload_n X dJ13_bitCount_95d88_48 0 rfl ?_
  refine x_lload_n X dJ13_bitCount_95d88_49 0 rfl ?_
  refine x_bipush X (v := 32) dJ13_bitCount_95d88_50 (by decide) ?_
  refine x_lushr X dJ13_bitCount_95d88_52 ?_
  refine x_ladd X dJ13_bitCount_95d88_53 ?_
  refine x_nmL hf (fun x6 hf => ?_)
  refine x_lstore_n X (lv2 := [(0, .long x6)]) dJ13_bitCount_95d88_54 (by decide) rfl ?_
  refine x_lload_n X dJ13_bitCount_95d88_55 0 rfl ?_
  refine x_l2i X dJ13_bitCount_95d88_56 ?_
  refine x_bipush X (v := 127) dJ13_bitCount_95d88_57 (by decide) ?_
  refine x_iand X dJ13_bitCount_95d88_59 ?_
  exact x_iretS X hr hlk (Option.some.inj hf) dJ13_bitCount_95d88_60
end
section
variable {p : Program} {l : Launch} {e : Env} {s : State} {m : MethodId} {args : Array Value} {below : List Frame} {meth : Method} {c : Code} {D : va_G} {kA : Nat → ClassId} {A : Nat → Prop} {Q : State → Prop} {ad al : Nat → Nat} {b L : Nat} {xs : Nat → Int32}
abbrev rm_X3_only : Room := { frames := 0, cells := 0, slots := 0, locals := 0 }
set_option maxRecDepth 100000 in
set_option maxHeartbeats 4000000 in
theorem met_X3_only (l : Launch) (fu : Nat) (a0 : Int32) (v : Int64) (hf : f_X3_only fu a0 = some v) : Met l yX3_only (wsY yX3_only cX3_only 1 (some .long)) rm_X3_only (va_Pc [.int a0] (fun _ => True)) (va_Ql (fun (r : Int64) (_ : Unit) => r = v) (fun _ _ => True) (fun _ => False)) 0 0 (fun _ => False) := by
  refine metS (own := RX3) (by decide +kernel) rfl (Nat.le_of_ble_eq_true rfl) rfl ?_
  intro p e s m below meth c X hr hlk
  generalize ([] : va_W) = ws
  unfold f_X3_only at hf
  refine x_lconst X (v := 1) dX3_only_0 (by decide) ?_
  refine x_iload_n X dX3_only_1 0 rfl ?_
  refine x_lshl X dX3_only_2 ?_
  exact x_lretS X hr hlk (Option.some.inj hf) dX3_only_3
end
section
variable {p : Program} {l : Launch} {e : Env} {s : State} {m : MethodId} {args : Array Value} {below : List Frame} {meth : Method} {c : Code} {D : va_G} {kA : Nat → ClassId} {A : Nat → Prop} {Q : State → Prop} {ad al : Nat → Nat} {b L : Nat} {xs : Nat → Int32}
abbrev rm_X3_has : Room := { frames := 0, cells := 0, slots := 0, locals := 0 }
set_option maxRecDepth 100000 in
set_option maxHeartbeats 4000000 in
theorem met_X3_has (l : Launch) (fu : Nat) (a0 : Int64) (a2 : Int32) (v : Int32) (hf : f_X3_has fu a0 a2 = some v) : Met l yX3_has (wsY yX3_has cX3_has 3 (some .boolean)) rm_X3_has (va_Pc [.long a0, .int a2] (fun _ => True)) (va_Qi (fun (r : Int32) (_ : Unit) => r = v) (fun _ _ => True) (fun _ => False)) 0 0 (fun _ => False) := by
  refine metS (own := RX3) (by decide +kernel) rfl (Nat.le_of_ble_eq_true rfl) rfl ?_
  intro p e s m below meth c X hr hlk
  generalize ([] : va_W) = ws
  unfold f_X3_has at hf
  refine x_lload_n X dX3_has_0 0 rfl ?_
  refine x_iload_n X dX3_has_1 1 rfl ?_
  refine x_lshr X dX3_has_2 ?_
  refine x_lconst X (v := 1) dX3_has_3 (by decide) ?_
  refine x_land X dX3_has_4 ?_
  refine x_lconst X (v := 0) dX3_has_5 (by decide) ?_
  refine x_lcmp X dX3_has_6 ?_
  refine x_if_eq X (tgt := 14) dX3_has_7 (by decide) hf (fun hf => ?_) (fun hf => ?_)
  · refine x_iconst X (v := 0) dX3_has_14 (by decide) ?_
    exact x_zretS X hr hlk (by decide) (Option.some.inj hf) dX3_has_15
  · refine x_iconst X (v := 1) dX3_has_10 (by decide) ?_
    refine x_goto X (tgt := 15) dX3_has_11 (by decide) ?_
    exact x_zretS X hr hlk (by decide) (Option.some.inj hf) dX3_has_15
end
section
variable {p : Program} {l : Launch} {e : Env} {s : State} {m : MethodId} {args : Array Value} {below : List Frame} {meth : Method} {c : Code} {D : va_G} {kA : Nat → ClassId} {A : Nat → Prop} {Q : State → Prop} {ad al : Nat → Nat} {b L : Nat} {xs : Nat → Int32}
abbrev rm_X3_pair : Room := { frames := 0, cells := 0, slots := 0, locals := 0 }
set_option maxRecDepth 100000 in
set_option maxHeartbeats 4000000 in
theorem met_X3_pair (l : Launch) (fu : Nat) (a0 : Int32) (a1 : Int32) (v : Int32) (hf : f_X3_pair fu a0 a1 = some v) : Met l yX3_pair (wsY yX3_pair cX3_pair 2 (some .int)) rm_X3_pair (va_Pc [.int a0, .int a1] (fun _ => True)) (va_Qi (fun (r : Int32) (_ : Unit) => r = v) (fun _ _ => True) (fun _ => False)) 0 0 (fun _ => False) := by
  refine metS (own := RX3) (by decide +kernel) rfl (Nat.le_of_ble_eq_true rfl) rfl ?_
  intro p e s m below meth c X hr hlk
  generalize ([] : va_W) = ws
  unfold f_X3_pair at hf
  refine x_iload_n X dX3_pair_0 0 rfl ?_
  refine x_bipush X (v := 64) dX3_pair_1 (by decide) ?_
  refine x_imul X dX3_pair_3 ?_
  refine x_iload_n X dX3_pair_4 1 rfl ?_
  refine x_iadd X dX3_pair_5 ?_
  exact x_iretS X hr hlk (Option.some.inj hf) dX3_pair_6
end
section
variable {p : Program} {l : Launch} {e : Env} {s : State} {m : MethodId} {args : Array Value} {below : List Frame} {meth : Method} {c : Code} {D : va_G} {kA : Nat → ClassId} {A : Nat → Prop} {Q : State → Prop} {ad al : Nat → Nat} {b L : Nat} {xs : Nat → Int32}
abbrev rm_X3_costOf : Room := { frames := 0, cells := 0, slots := 0, locals := 0 }
set_option maxRecDepth 100000 in
set_option maxHeartbeats 4000000 in
theorem met_X3_costOf (l : Launch) (fu : Nat) (a0 : Int32) (v : Int32) (hf : f_X3_costOf fu a0 = some v) : Met l yX3_costOf (wsY yX3_costOf cX3_costOf 1 (some .int)) rm_X3_costOf (va_Pc [.int a0] (fun _ => True)) (va_Qi (fun (r : Int32) (_ : Unit) => r = v) (fun _ _ => True) (fun _ => False)) 0 0 (fun _ => False) := by
  refine metS (own := RX3) (by decide +kernel) rfl (Nat.le_of_ble_eq_true rfl) rfl ?_
  intro p e s m below meth c X hr hlk
  generalize ([] : va_W) = ws
  unfold f_X3_costOf at hf
  refine x_iload_n X dX3_costOf_0 0 rfl ?_
  refine x_ldc X (v := 536870912) w_5089 dX3_costOf_1 ?_
  refine x_icmp_lt X (tgt := 10) dX3_costOf_3 (by decide) hf (fun hf => ?_) (fun hf => ?_)
  · refine x_iload_n X dX3_costOf_10 0 rfl ?_
    refine x_bipush X (v := 7) dX3_costOf_11 (by decide) ?_
    refine x_ishr X dX3_costOf_13 ?_
    exact x_iretS X hr hlk (Option.some.inj hf) dX3_costOf_14
  · refine x_iconst X (v := (-1)) dX3_costOf_6 (by decide) ?_
    refine x_goto X (tgt := 14) dX3_costOf_7 (by decide) ?_
    exact x_iretS X hr hlk (Option.some.inj hf) dX3_costOf_14
end
