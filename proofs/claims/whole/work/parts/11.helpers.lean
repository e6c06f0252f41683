section
variable {p : Program} {l : Launch} {e : Env} {s : State} {m : MethodId} {args : Array Value} {below : List Frame} {meth : Method} {c : Code} {D : va_G} {kA : Nat → ClassId} {A : Nat → Prop} {Q : State → Prop} {ad : Nat → Nat}
abbrev rm_J6_numberOfTrailingZeros_0f7a4 : Room := { frames := 0, cells := 0, slots := 0, locals := 0 }
set_option maxRecDepth 100000 in
set_option maxHeartbeats 4000000 in
theorem met_J6_numberOfTrailingZeros_0f7a4 (l : Launch) (fu : Nat) (a0 : Int32) (v : Int32) (hf : f_J6_numberOfTrailingZeros_0f7a4 fu a0 = some v) : Met l yJ6_numberOfTrailingZeros_0f7a4 (wsY yJ6_numberOfTrailingZeros_0f7a4 cJ6_numberOfTrailingZeros_0f7a4 2 (some .int)) rm_J6_numberOfTrailingZeros_0f7a4 (va_Pc [.int a0] (fun _ => True)) (va_Qi (fun (r : Int32) (_ : Unit) => r = v) (fun _ _ => True) (fun _ => False)) 0 0 (fun _ => False) := by
  refine metS (own := RJ6) (by decide +kernel) rfl (Nat.le_of_ble_eq_true rfl) rfl ?_
  intro p e s m below meth c X hr hlk
  generalize ([] : va_W) = ws
  unfold f_J6_numberOfTrailingZeros_0f7a4 at hf
  refine x_iload_n X dJ6_numberOfTrailingZeros_0f7a4_0 0 rfl ?_
  refine x_iconst X (v := (-1)) dJ6_numberOfTrailingZeros_0f7a4_1 (by decide) ?_
  refine x_ixor X dJ6_numberOfTrailingZeros_0f7a4_2 ?_
  refine x_iload_n X dJ6_numberOfTrailingZeros_0f7a4_3 0 rfl ?_
  refine x_iconst X (v := 1) dJ6_numberOfTrailingZeros_0f7a4_4 (by decide) ?_
  refine x_isub X dJ6_numberOfTrailingZeros_0f7a4_5 ?_
  refine x_iand X dJ6_numberOfTrailingZeros_0f7a4_6 ?_
  refine x_nmI hf (fun x1 hf => ?_)
  refine x_istore_n X (lv2 := [(0, .int x1)]) dJ6_numberOfTrailingZeros_0f7a4_7 (by decide) rfl ?_
  refine x_iload_n X dJ6_numberOfTrailingZeros_0f7a4_8 0 rfl ?_
  refine x_if_gt X (tgt := 17) dJ6_numberOfTrailingZeros_0f7a4_9 (by decide) hf (fun hf => ?_) (fun hf => ?_)
  · refine x_iconst X (v := 1) dJ6_numberOfTrailingZeros_0f7a4_17 (by decide) ?_
    refine x_istore_n X (lv2 := [(1, .int 1), (0, .int x1)]) dJ6_numberOfTrailingZeros_0f7a4_18 (by decide) rfl ?_
    refine x_iload_n X dJ6_numberOfTrailingZeros_0f7a4_19 1 rfl ?_
    refine x_ldcw X (v := 65536) w_290 dJ6_numberOfTrailingZeros_0f7a4_20 ?_
    refine x_icmp_le X (tgt := 34) dJ6_numberOfTrailingZeros_0f7a4_23 (by decide) hf (fun hf => ?_) (fun hf => ?_)
    · refine x_iload_n X dJ6_numberOfTrailingZeros_0f7a4_34 1 rfl ?_
      refine x_sipush X (v := 256) dJ6_numberOfTrailingZeros_0f7a4_35 (by decide) ?_
      refine x_icmp_le X (tgt := 49) dJ6_numberOfTrailingZeros_0f7a4_38 (by decide) hf (fun hf => ?_) (fun hf => ?_)
      · refine x_iload_n X dJ6_numberOfTrailingZeros_0f7a4_49 1 rfl ?_
        refine x_bipush X (v := 16) dJ6_numberOfTrailingZeros_0f7a4_50 (by decide) ?_
        refine x_icmp_le X (tgt := 62) dJ6_numberOfTrailingZeros_0f7a4_52 (by decide) hf (fun hf => ?_) (fun hf => ?_)
        · refine x_iload_n X dJ6_numberOfTrailingZeros_0f7a4_62 1 rfl ?_
          refine x_iconst X (v := 4) dJ6_numberOfTrailingZeros_0f7a4_63 (by decide) ?_
          refine x_icmp_le X (tgt := 74) dJ6_numberOfTrailingZeros_0f7a4_64 (by decide) hf (fun hf => ?_) (fun hf => ?_)
          · refine x_iload_n X dJ6_numberOfTrailingZeros_0f7a4_74 0 rfl ?_
            refine x_iload_n X dJ6_numberOfTrailingZeros_0f7a4_75 1 rfl ?_
            refine x_iconst X (v := 1) dJ6_numberOfTrailingZeros_0f7a4_76 (by decide) ?_
            refine x_iushr X dJ6_numberOfTrailingZeros_0f7a4_77 ?_
            refine x_iadd X dJ6_numberOfTrailingZeros_0f7a4_78 ?_
            exact x_iretS X hr hlk (Option.some.inj hf) dJ6_numberOfTrailingZeros_0f7a4_79
          · refine x_iinc X dJ6_numberOfTrailingZeros_0f7a4_67 0 rfl (by decide) ((1 : Int32) + 2) rfl hf (fun x2 => [(1, .int x2), (0, .int x1)]) (fun _ => rfl) (fun x2 hf => ?_)
            refine x_iload_n X dJ6_numberOfTrailingZeros_0f7a4_70 1 rfl ?_
            refine x_iconst X (v := 2) dJ6_numberOfTrailingZeros_0f7a4_71 (by decide) ?_
            refine x_iushr X dJ6_numberOfTrailingZeros_0f7a4_72 ?_
            refine x_nmI hf (fun x3 hf => ?_)
            refine x_istore_n X (lv2 := [(0, .int x3), (1, .int x2)]) dJ6_numberOfTrailingZeros_0f7a4_73 (by decide) rfl ?_
            refine x_iload_n X dJ6_numberOfTrailingZeros_0f7a4_74 1 rfl ?_
            refine x_iload_n X dJ6_numberOfTrailingZeros_0f7a4_75 0 rfl ?_
            refine x_iconst X (v := 1) dJ6_numberOfTrailingZeros_0f7a4_76 (by decide) ?_
            refine x_iushr X dJ6_numberOfTrailingZeros_0f7a4_77 ?_
            refine x_iadd X dJ6_numberOfTrailingZeros_0f7a4_78 ?_
            exact x_iretS X hr hlk (Option.some.inj hf) dJ6_numberOfTrailingZeros_0f7a4_79
        · refine x_iinc X dJ6_numberOfTrailingZeros_0f7a4_55 0 rfl (by decide) ((1 : Int32) + 4) rfl hf (fun x4 => [(1, .int x4), (0, .int x1)]) (fun _ => rfl) (fun x4 hf => ?_)
          refine x_iload_n X dJ6_numberOfTrailingZeros_0f7a4_58 1 rfl ?_
          refine x_iconst X (v := 4) dJ6_numberOfTrailingZeros_0f7a4_59 (by decide) ?_
          refine x_iushr X dJ6_numberOfTrailingZeros_0f7a4_60 ?_
          refine x_nmI hf (fun x5 hf => ?_)
          refine x_istore_n X (lv2 := [(0, .int x5), (1, .int x4)]) dJ6_numberOfTrailingZeros_0f7a4_61 (by decide) rfl ?_
          refine x_iload_n X dJ6_numberOfTrailingZeros_0f7a4_62 0 rfl ?_
          refine x_iconst X (v := 4) dJ6_numberOfTrailingZeros_0f7a4_63 (by decide) ?_
          refine x_icmp_le X (tgt := 74) dJ6_numberOfTrailingZeros_0f7a4_64 (by decide) hf (fun hf => ?_) (fun hf => ?_)
          · refine x_iload_n X dJ6_numberOfTrailingZeros_0f7a4_74 1 rfl ?_
            refine x_iload_n X dJ6_numberOfTrailingZeros_0f7a4_75 0 rfl ?_
            refine x_iconst X (v := 1) dJ6_numberOfTrailingZeros_0f7a4_76 (by decide) ?_
            refine x_iushr X dJ6_numberOfTrailingZeros_0f7a4_77 ?_
            refine x_iadd X dJ6_numberOfTrailingZeros_0f7a4_78 ?_
            exact x_iretS X hr hlk (Option.some.inj hf) dJ6_numberOfTrailingZeros_0f7a4_79
          · refine x_iinc X dJ6_numberOfTrailingZeros_0f7a4_67 1 rfl (by decide) (x4 + 2) rfl hf (fun x6 => [(1, .int x6), (0, .int x5)]) (fun _ => rfl) (fun x6 hf => ?_)
            refine x_iload_n X dJ6_numberOfTrailingZeros_0f7a4_70 1 rfl ?_
            refine x_iconst X (v := 2) dJ6_numberOfTrailingZeros_0f7a4_71 (by decide) ?_
            refine x_iushr X dJ6_numberOfTrailingZeros_0f7a4_72 ?_
            refine x_nmI hf (fun x7 hf => ?_)
            refine x_istore_n X (lv2 := [(0, .int x7), (1, .int x6)]) dJ6_numberOfTrailingZeros_0f7a4_73 (by decide) rfl ?_
            refine x_iload_n X dJ6_numberOfTrailingZeros_0f7a4_74 1 rfl ?_
            refine x_iload_n X dJ6_numberOfTrailingZeros_0f7a4_75 0 rfl ?_
            refine x_iconst X (v := 1) dJ6_numberOfTrailingZeros_0f7a4_76 (by decide) ?_
            refine x_iushr X dJ6_numberOfTrailingZeros_0f7a4_77 ?_
            refine x_iadd X dJ6_numberOfTrailingZeros_0f7a4_78 ?_
            exact x_iretS X hr hlk (Option.some.inj hf) dJ6_numberOfTrailingZeros_0f7a4_79
      · refine x_iinc X dJ6_numberOfTrailingZeros_0f7a4_41 0 rfl (by decide) ((1 : Int32) + 8) rfl hf (fun x8 => [(1, .int x8), (0, .int x1)]) (fun _ => rfl) (fun x8 hf => ?_)
        refine x_iload_n X dJ6_numberOfTrailingZeros_0f7a4_44 1 rfl ?_
        refine x_bipush X (v := 8) dJ6_numberOfTrailingZeros_0f7a4_45 (by decide) ?_
        refine x_iushr X dJ6_numberOfTrailingZeros_0f7a4_47 ?_
        refine x_nmI hf (fun x9 hf => ?_)
        refine x_istore_n X (lv2 := [(0, .int x9), (1, .int x8)]) dJ6_numberOfTrailingZeros_0f7a4_48 (by decide) rfl ?_
        refine x_iload_n X dJ6_numberOfTrailingZeros_0f7a4_49 0 rfl ?_
        refine x_bipush X (v := 16) dJ6_numberOfTrailingZeros_0f7a4_50 (by decide) ?_
        refine x_icmp_le X (tgt := 62) dJ6_numberOfTrailingZeros_0f7a4_52 (by decide) hf (fun hf => ?_) (fun hf => ?_)
        · refine x_iload_n X dJ6_numberOfTrailingZeros_0f7a4_62 0 rfl ?_
          refine x_iconst X (v := 4) dJ6_numberOfTrailingZeros_0f7a4_63 (by decide) ?_
          refine x_icmp_le X (tgt := 74) dJ6_numberOfTrailingZeros_0f7a4_64 (by decide) hf (fun hf => ?_) (fun hf => ?_)
          · refine x_iload_n X dJ6_numberOfTrailingZeros_0f7a4_74 1 rfl ?_
            refine x_iload_n X dJ6_numberOfTrailingZeros_0f7a4_75 0 rfl ?_
            refine x_iconst X (v := 1) dJ6_numberOfTrailingZeros_0f7a4_76 (by decide) ?_
            refine x_iushr X dJ6_numberOfTrailingZeros_0f7a4_77 ?_
            refine x_iadd X dJ6_numberOfTrailingZeros_0f7a4_78 ?_
            exact x_iretS X hr hlk (Option.some.inj hf) dJ6_numberOfTrailingZeros_0f7a4_79
          · refine x_iinc X dJ6_numberOfTrailingZeros_0f7a4_67 1 rfl (by decide) (x8 + 2) rfl hf (fun x10 => [(1, .int x10), (0, .int x9)]) (fun _ => rfl) (fun x10 hf => ?_)
            refine x_iload_n X dJ6_numberOfTrailingZeros_0f7a4_70 1 rfl ?_
            refine x_iconst X (v := 2) dJ6_numberOfTrailingZeros_0f7a4_71 (by decide) ?_
            refine x_iushr X dJ6_numberOfTrailingZeros_0f7a4_72 ?_
            refine x_nmI hf (fun x11 hf => ?_)
            refine x_istore_n X (lv2 := [(0, .int x11), (1, .int x10)]) dJ6_numberOfTrailingZeros_0f7a4_73 (by decide) rfl ?_
            refine x_iload_n X dJ6_numberOfTrailingZeros_0f7a4_74 1 rfl ?_
            refine x_iload_n X dJ6_numberOfTrailingZeros_0f7a4_75 0 rfl ?_
            refine x_iconst X (v := 1) dJ6_numberOfTrailingZeros_0f7a4_76 (by decide) ?_
            refine x_iushr X dJ6_numberOfTrailingZeros_0f7a4_77 ?_
            refine x_iadd X dJ6_numberOfTrailingZeros_0f7a4_78 ?_
            exact x_iretS X hr hlk (Option.some.inj hf) dJ6_numberOfTrailingZeros_0f7a4_79
        · refine x_iinc X dJ6_numberOfTrailingZeros_0f7a4_55 1 rfl (by decide) (x8 + 4) rfl hf (fun x12 => [(1, .int x12), (0, .int x9)]) (fun _ => rfl) (fun x12 hf => ?_)
          refine x_iload_n X dJ6_numberOfTrailingZeros_0f7a4_58 1 rfl ?_
          refine x_iconst X (v := 4) dJ6_numberOfTrailingZeros_0f7a4_59 (by decide) ?_
          refine x_iushr X dJ6_numberOfTrailingZeros_0f7a4_60 ?_
          refine x_nmI hf (fun x13 hf => ?_)
          refine x_istore_n X (lv2 := [(0, .int x13), (1, .int x12)]) dJ6_numberOfTrailingZeros_0f7a4_61 (by decide) rfl ?_
          refine x_iload_n X dJ6_numberOfTrailingZeros_0f7a4_62 0 rfl ?_
          refine x_iconst X (v := 4) dJ6_numberOfTrailingZeros_0f7a4_63 (by decide) ?_
          refine x_icmp_le X (tgt := 74) dJ6_numberOfTrailingZeros_0f7a4_64 (by decide) hf (fun hf => ?_) (fun hf => ?_)
          · refine x_iload_n X dJ6_numberOfTrailingZeros_0f7a4_74 1 rfl ?_
            refine x_iload_n X dJ6_numberOfTrailingZeros_0f7a4_75 0 rfl ?_
            refine x_iconst X (v := 1) dJ6_numberOfTrailingZeros_0f7a4_76 (by decide) ?_
            refine x_iushr X dJ6_numberOfTrailingZeros_0f7a4_77 ?_
            refine x_iadd X dJ6_numberOfTrailingZeros_0f7a4_78 ?_
            exact x_iretS X hr hlk (Option.some.inj hf) dJ6_numberOfTrailingZeros_0f7a4_79
          · refine x_iinc X dJ6_numberOfTrailingZeros_0f7a4_67 1 rfl (by decide) (x12 + 2) rfl hf (fun x14 => [(1, .int x14), (0, .int x13)]) (fun _ => rfl) (fun x14 hf => ?_)
            refine x_iload_n X dJ6_numberOfTrailingZeros_0f7a4_70 1 rfl ?_
            refine x_iconst X (v := 2) dJ6_numberOfTrailingZeros_0f7a4_71 (by decide) ?_
            refine x_iushr X dJ6_numberOfTrailingZeros_0f7a4_72 ?_
            refine x_nmI hf (fun x15 hf => ?_)
            refine x_istore_n X (lv2 := [(0, .int x15), (1, .int x14)]) dJ6_numberOfTrailingZeros_0f7a4_73 (by decide) rfl ?_
            refine x_iload_n X dJ6_numberOfTrailingZeros_0f7a4_74 1 rfl ?_
            refine x_iload_n X dJ6_numberOfTrailingZeros_0f7a4_75 0 rfl ?_
            refine x_iconst X (v := 1) dJ6_numberOfTrailingZeros_0f7a4_76 (by decide) ?_
            refine x_iushr X dJ6_numberOfTrailingZeros_0f7a4_77 ?_
            refine x_iadd X dJ6_numberOfTrailingZeros_0f7a4_78 ?_
            exact x_iretS X hr hlk (Option.some.inj hf) dJ6_numberOfTrailingZeros_0f7a4_79
    · refine x_iinc X dJ6_numberOfTrailingZeros_0f7a4_26 0 rfl (by decide) ((1 : Int32) + 16) rfl hf (fun x16 => [(1, .int x16), (0, .int x1)]) (fun _ => rfl) (fun x16 hf => ?_)
      refine x_iload_n X dJ6_numberOfTrailingZeros_0f7a4_29 1 rfl ?_
      refine x_bipush X (v := 16) dJ6_numberOfTrailingZeros_0f7a4_30 (by decide) ?_
      refine x_iushr X dJ6_numberOfTrailingZeros_0f7a4_32 ?_
      refine x_nmI hf (fun x17 hf => ?_)
      refine x_istore_n X (lv2 := [(0, .int x17), (1, .int x16)]) dJ6_numberOfTrailingZeros_0f7a4_33 (by decide) rfl ?_
      refine x_iload_n X dJ6_numberOfTrailingZeros_0f7a4_34 0 rfl ?_
      refine x_sipush X (v := 256) dJ6_numberOfTrailingZeros_0f7a4_35 (by decide) ?_
      refine x_icmp_le X (tgt := 49) dJ6_numberOfTrailingZeros_0f7a4_38 (by decide) hf (fun hf => ?_) (fun hf => ?_)
      · refine x_iload_n X dJ6_numberOfTrailingZeros_0f7a4_49 0 rfl ?_
        refine x_bipush X (v := 16) dJ6_numberOfTrailingZeros_0f7a4_50 (by decide) ?_
        refine x_icmp_le X (tgt := 62) dJ6_numberOfTrailingZeros_0f7a4_52 (by decide) hf (fun hf => ?_) (fun hf => ?_)
        · refine x_iload_n X dJ6_numberOfTrailingZeros_0f7a4_62 0 rfl ?_
          refine x_iconst X (v := 4) dJ6_numberOfTrailingZeros_0f7a4_63 (by decide) ?_
          refine x_icmp_le X (tgt := 74) dJ6_numberOfTrailingZeros_0f7a4_64 (by decide) hf (fun hf => ?_) (fun hf => ?_)
          · refine x_iload_n X dJ6_numberOfTrailingZeros_0f7a4_74 1 rfl ?_
            refine x_iload_n X dJ6_numberOfTrailingZeros_0f7a4_75 0 rfl ?_
            refine x_iconst X (v := 1) dJ6_numberOfTrailingZeros_0f7a4_76 (by decide) ?_
            refine x_iushr X dJ6_numberOfTrailingZeros_0f7a4_77 ?_
            refine x_iadd X dJ6_numberOfTrailingZeros_0f7a4_78 ?_
            exact x_iretS X hr hlk (Option.some.inj hf) dJ6_numberOfTrailingZeros_0f7a4_79
          · refine x_iinc X dJ6_numberOfTrailingZeros_0f7a4_67 1 rfl (by decide) (x16 + 2) rfl hf (fun x18 => [(1, .int x18), (0, .int x17)]) (fun _ => rfl) (fun x18 hf => ?_)
            refine x_iload_n X dJ6_numberOfTrailingZeros_0f7a4_70 1 rfl ?_
            refine x_iconst X (v := 2) dJ6_numberOfTrailingZeros_0f7a4_71 (by decide) ?_
            refine x_iushr X dJ6_numberOfTrailingZeros_0f7a4_72 ?_
            refine x_nmI hf (fun x19 hf => ?_)
            refine x_istore_n X (lv2 := [(0, .int x19), (1, .int x18)]) dJ6_numberOfTrailingZeros_0f7a4_73 (by decide) rfl ?_
            refine x_iload_n X dJ6_numberOfTrailingZeros_0f7a4_74 1 rfl ?_
            refine x_iload_n X dJ6_numberOfTrailingZeros_0f7a4_75 0 rfl ?_
            refine x_iconst X (v := 1) dJ6_numberOfTrailingZeros_0f7a4_76 (by decide) ?_
            refine x_iushr X dJ6_numberOfTrailingZeros_0f7a4_77 ?_
            refine x_iadd X dJ6_numberOfTrailingZeros_0f7a4_78 ?_
            exact x_iretS X hr hlk (Option.some.inj hf) dJ6_numberOfTrailingZeros_0f7a4_79
        · refine x_iinc X dJ6_numberOfTrailingZeros_0f7a4_55 1 rfl (by decide) (x16 + 4) rfl hf (fun x20 => [(1, .int x20), (0, .int x17)]) (fun _ => rfl) (fun x20 hf => ?_)
          refine x_iload_n X dJ6_numberOfTrailingZeros_0f7a4_58 1 rfl ?_
          refine x_iconst X (v := 4) dJ6_numberOfTrailingZeros_0f7a4_59 (by decide) ?_
          refine x_iushr X dJ6_numberOfTrailingZeros_0f7a4_60 ?_
          refine x_nmI hf (fun x21 hf => ?_)
          refine x_istore_n X (lv2 := [(0, .int x21), (1, .int x20)]) dJ6_numberOfTrailingZeros_0f7a4_61 (by decide) rfl ?_
          refine x_iload_n X dJ6_numberOfTrailingZeros_0f7a4_62 0 rfl ?_
          refine x_iconst X (v := 4) dJ6_numberOfTrailingZeros_0f7a4_63 (by decide) ?_
          refine x_icmp_le X (tgt := 74) dJ6_numberOfTrailingZeros_0f7a4_64 (by decide) hf (fun hf => ?_) (fun hf => ?_)
          · refine x_iload_n X dJ6_numberOfTrailingZeros_0f7a4_74 1 rfl ?_
            refine x_iload_n X dJ6_numberOfTrailingZeros_0f7a4_75 0 rfl ?_
            refine x_iconst X (v := 1) dJ6_numberOfTrailingZeros_0f7a4_76 (by decide) ?_
            refine x_iushr X dJ6_numberOfTrailingZeros_0f7a4_77 ?_
            refine x_iadd X dJ6_numberOfTrailingZeros_0f7a4_78 ?_
            exact x_iretS X hr hlk (Option.some.inj hf) dJ6_numberOfTrailingZeros_0f7a4_79
          · refine x_iinc X dJ6_numberOfTrailingZeros_0f7a4_67 1 rfl (by decide) (x20 + 2) rfl hf (fun x22 => [(1, .int x22), (0, .int x21)]) (fun _ => rfl) (fun x22 hf => ?_)
            refine x_iload_n X dJ6_numberOfTrailingZeros_0f7a4_70 1 rfl ?_
            refine x_iconst X (v := 2) dJ6_numberOfTrailingZeros_0f7a4_71 (by decide) ?_
            refine x_iushr X dJ6_numberOfTrailingZeros_0f7a4_72 ?_
            refine x_nmI hf (fun x23 hf => ?_)
            refine x_istore_n X (lv2 := [(0, .int x23), (1, .int x22)]) dJ6_numberOfTrailingZeros_0f7a4_73 (by decide) rfl ?_
            refine x_iload_n X dJ6_numberOfTrailingZeros_0f7a4_74 1 rfl ?_
            refine x_iload_n X dJ6_numberOfTrailingZeros_0f7a4_75 0 rfl ?_
            refine x_iconst X (v := 1) dJ6_numberOfTrailingZeros_0f7a4_76 (by decide) ?_
            refine x_iushr X dJ6_numberOfTrailingZeros_0f7a4_77 ?_
            refine x_iadd X dJ6_numberOfTrailingZeros_0f7a4_78 ?_
            exact x_iretS X hr hlk (Option.some.inj hf) dJ6_numberOfTrailingZeros_0f7a4_79
      · refine x_iinc X dJ6_numberOfTrailingZeros_0f7a4_41 1 rfl (by decide) (x16 + 8) rfl hf (fun x24 => [(1, .int x24), (0, .int x17)]) (fun _ => rfl) (fun x24 hf => ?_)
        refine x_iload_n X dJ6_numberOfTrailingZeros_0f7a4_44 1 rfl ?_
        refine x_bipush X (v := 8) dJ6_numberOfTrailingZeros_0f7a4_45 (by decide) ?_
        refine x_iushr X dJ6_numberOfTrailingZeros_0f7a4_47 ?_
        refine x_nmI hf (fun x25 hf => ?_)
        refine x_istore_n X (lv2 := [(0, .int x25), (1, .int x24)]) dJ6_numberOfTrailingZeros_0f7a4_48 (by decide) rfl ?_
        refine x_iload_n X dJ6_numberOfTrailingZeros_0f7a4_49 0 rfl ?_
        refine x_bipush X (v := 16) dJ6_numberOfTrailingZeros_0f7a4_50 (by decide) ?_
        refine x_icmp_le X (tgt := 62) dJ6_numberOfTrailingZeros_0f7a4_52 (by decide) hf (fun hf => ?_) (fun hf => ?_)
        · refine x_iload_n X dJ6_numberOfTrailingZeros_0f7a4_62 0 rfl ?_
          refine x_iconst X (v := 4) dJ6_numberOfTrailingZeros_0f7a4_63 (by decide) ?_
          refine x_icmp_le X (tgt := 74) dJ6_numberOfTrailingZeros_0f7a4_64 (by decide) hf (fun hf => ?_) (fun hf => ?_)
          · refine x_iload_n X dJ6_numberOfTrailingZeros_0f7a4_74 1 rfl ?_
            refine x_iload_n X dJ6_numberOfTrailingZeros_0f7a4_75 0 rfl ?_
            refine x_iconst X (v := 1) dJ6_numberOfTrailingZeros_0f7a4_76 (by decide) ?_
            refine x_iushr X dJ6_numberOfTrailingZeros_0f7a4_77 ?_
            refine x_iadd X dJ6_numberOfTrailingZeros_0f7a4_78 ?_
            exact x_iretS X hr hlk (Option.some.inj hf) dJ6_numberOfTrailingZeros_0f7a4_79
          · refine x_iinc X dJ6_numberOfTrailingZeros_0f7a4_67 1 rfl (by decide) (x24 + 2) rfl hf (fun x26 => [(1, .int x26), (0, .int x25)]) (fun _ => rfl) (fun x26 hf => ?_)
            refine x_iload_n X dJ6_numberOfTrailingZeros_0f7a4_70 1 rfl ?_
            refine x_iconst X (v := 2) dJ6_numberOfTrailingZeros_0f7a4_71 (by decide) ?_
            refine x_iushr X dJ6_numberOfTrailingZeros_0f7a4_72 ?_
            refine x_nmI hf (fun x27 hf => ?_)
            refine x_istore_n X (lv2 := [(0, .int x27), (1, .int x26)]) dJ6_numberOfTrailingZeros_0f7a4_73 (by decide) rfl ?_
            refine x_iload_n X dJ6_numberOfTrailingZeros_0f7a4_74 1 rfl ?_
            refine x_iload_n X dJ6_numberOfTrailingZeros_0f7a4_75 0 rfl ?_
            refine x_iconst X (v := 1) dJ6_numberOfTrailingZeros_0f7a4_76 (by decide) ?_
            refine x_iushr X dJ6_numberOfTrailingZeros_0f7a4_77 ?_
            refine x_iadd X dJ6_numberOfTrailingZeros_0f7a4_78 ?_
            exact x_iretS X hr hlk (Option.some.inj hf) dJ6_numberOfTrailingZeros_0f7a4_79
        · refine x_iinc X dJ6_numberOfTrailingZeros_0f7a4_55 1 rfl (by decide) (x24 + 4) rfl hf (fun x28 => [(1, .int x28), (0, .int x25)]) (fun _ => rfl) (fun x28 hf => ?_)
          refine x_iload_n X dJ6_numberOfTrailingZeros_0f7a4_58 1 rfl ?_
          refine x_iconst X (v := 4) dJ6_numberOfTrailingZeros_0f7a4_59 (by decide) ?_
          refine x_iushr X dJ6_numberOfTrailingZeros_0f7a4_60 ?_
          refine x_nmI hf (fun x29 hf => ?_)
          refine x_istore_n X (lv2 := [(0, .int x29), (1, .int x28)]) dJ6_numberOfTrailingZeros_0f7a4_61 (by decide) rfl ?_
          refine x_iload_n X dJ6_numberOfTrailingZeros_0f7a4_62 0 rfl ?_
          refine x_iconst X (v := 4) dJ6_numberOfTrailingZeros_0f7a4_63 (by decide) ?_
          refine x_icmp_le X (tgt := 74) dJ6_numberOfTrailingZeros_0f7a4_64 (by decide) hf (fun hf => ?_) (fun hf => ?_)
          · refine x_iload_n X dJ6_numberOfTrailingZeros_0f7a4_74 1 rfl ?_
            refine x_iload_n X dJ6_numberOfTrailingZeros_0f7a4_75 0 rfl ?_
            refine x_iconst X (v := 1) dJ6_numberOfTrailingZeros_0f7a4_76 (by decide) ?_
            refine x_iushr X dJ6_numberOfTrailingZeros_0f7a4_77 ?_
            refine x_iadd X dJ6_numberOfTrailingZeros_0f7a4_78 ?_
            exact x_iretS X hr hlk (Option.some.inj hf) dJ6_numberOfTrailingZeros_0f7a4_79
          · refine x_iinc X dJ6_numberOfTrailingZeros_0f7a4_67 1 rfl (by decide) (x28 + 2) rfl hf (fun x30 => [(1, .int x30), (0, .int x29)]) (fun _ => rfl) (fun x30 hf => ?_)
            refine x_iload_n X dJ6_numberOfTrailingZeros_0f7a4_70 1 rfl ?_
            refine x_iconst X (v := 2) dJ6_numberOfTrailingZeros_0f7a4_71 (by decide) ?_
            refine x_iushr X dJ6_numberOfTrailingZeros_0f7a4_72 ?_
            refine x_nmI hf (fun x31 hf => ?_)
            refine x_istore_n X (lv2 := [(0, .int x31), (1, .int x30)]) dJ6_numberOfTrailingZeros_0f7a4_73 (by decide) rfl ?_
            refine x_iload_n X dJ6_numberOfTrailingZeros_0f7a4_74 1 rfl ?_
            refine x_iload_n X dJ6_numberOfTrailingZeros_0f7a4_75 0 rfl ?_
            refine x_iconst X (v := 1) dJ6_numberOfTrailingZeros_0f7a4_76 (by decide) ?_
            refine x_iushr X dJ6_numberOfTrailingZeros_0f7a4_77 ?_
            refine x_iadd X dJ6_numberOfTrailingZeros_0f7a4_78 ?_
            exact x_iretS X hr hlk (Option.some.inj hf) dJ6_numberOfTrailingZeros_0f7a4_79
  · refine x_iload_n X dJ6_numberOfTrailingZeros_0f7a4_12 0 rfl ?_
    refine x_bipush X (v := 32) dJ6_numberOfTrailingZeros_0f7a4_13 (by decide) ?_
    refine x_iand X dJ6_numberOfTrailingZeros_0f7a4_15 ?_
    exact x_iretS X hr hlk (Option.some.inj hf) dJ6_numberOfTrailingZeros_0f7a4_16
end
section
variable {p : Program} {l : Launch} {e : Env} {s : State} {m : MethodId} {args : Array Value} {below : List Frame} {meth : Method} {c : Code} {D : va_G} {kA : Nat → ClassId} {A : Nat → Prop} {Q : State → Prop} {ad : Nat → Nat}
abbrev rm_J13_numberOfTrailingZeros_95d88 : Room := { frames := 1, cells := 0, slots := 0, locals := 21 }
set_option maxRecDepth 100000 in
set_option maxHeartbeats 4000000 in
theorem met_J13_numberOfTrailingZeros_95d88 (l : Launch) (fu : Nat) (a0 : Int64) (v : Int32) (hf : f_J13_numberOfTrailingZeros_95d88 fu a0 = some v) : Met l yJ13_numberOfTrailingZeros_95d88 (wsY yJ13_numberOfTrailingZeros_95d88 cJ13_numberOfTrailingZeros_95d88 3 (some .int)) rm_J13_numberOfTrailingZeros_95d88 (va_Pc [.long a0] (fun _ => True)) (va_Qi (fun (r : Int32) (_ : Unit) => r = v) (fun _ _ => True) (fun _ => False)) 0 0 (fun _ => False) := by
  refine metS (own := RJ13) (by decide +kernel) rfl (Nat.le_of_ble_eq_true rfl) rfl ?_
  intro p e s m below meth c X hr hlk
  generalize ([] : va_W) = ws
  unfold f_J13_numberOfTrailingZeros_95d88 at hf
  refine x_lload_n X dJ13_numberOfTrailingZeros_95d88_0 0 rfl ?_
  refine x_l2i X dJ13_numberOfTrailingZeros_95d88_1 ?_
  refine x_nmI hf (fun x1 hf => ?_)
  refine x_istore_n X (lv2 := [(2, .int x1), (0, .long a0)]) dJ13_numberOfTrailingZeros_95d88_2 (by decide) rfl ?_
  refine x_iload_n X dJ13_numberOfTrailingZeros_95d88_3 0 rfl ?_
  refine x_if_ne X (tgt := 21) dJ13_numberOfTrailingZeros_95d88_4 (by decide) hf (fun hf => ?_) (fun hf => ?_)
  · refine x_iload_n X dJ13_numberOfTrailingZeros_95d88_21 0 rfl ?_
    obtain ⟨x2, hx2, hf⟩ := bn_some hf
    refine x_callS_i X (As := [.int x1]) (rest := []) (n := 1) (goodS w_287 w_288 w_61 w_289) (met_J6_numberOfTrailingZeros_0f7a4 l fu x1 x2 hx2) rfl rfl (by decide +kernel) ⟨by decide, by decide⟩ rfl rfl (Nat.le_of_ble_eq_true rfl) dJ13_numberOfTrailingZeros_95d88_22 ⟨by decide, by decide⟩ ?_
    exact x_iretS X hr hlk (Option.some.inj hf) dJ13_numberOfTrailingZeros_95d88_25
  · refine x_bipush X (v := 32) dJ13_numberOfTrailingZeros_95d88_7 (by decide) ?_
    refine x_lload_n X dJ13_numberOfTrailingZeros_95d88_9 1 rfl ?_
    refine x_bipush X (v := 32) dJ13_numberOfTrailingZeros_95d88_10 (by decide) ?_
    refine x_lushr X dJ13_numberOfTrailingZeros_95d88_12 ?_
    refine x_l2i X dJ13_numberOfTrailingZeros_95d88_13 ?_
    obtain ⟨x3, hx3, hf⟩ := bn_some hf
    refine x_callS_i X (As := [.int (Int64.toInt32 (Int64.toUInt64 a0 >>> (Int64.toUInt64 (Int32.toInt64 32) &&& Int64.toUInt64 63)).toInt64)]) (rest := [.int 32]) (n := 1) (goodS w_287 w_288 w_61 w_289) (met_J6_numberOfTrailingZeros_0f7a4 l fu (Int64.toInt32 (Int64.toUInt64 a0 >>> (Int64.toUInt64 (Int32.toInt64 32) &&& Int64.toUInt64 63)).toInt64) x3 hx3) rfl rfl (by decide +kernel) ⟨by decide, by decide⟩ rfl rfl (Nat.le_of_ble_eq_true rfl) dJ13_numberOfTrailingZeros_95d88_14 ⟨by decide, by decide⟩ ?_
    refine x_iadd X dJ13_numberOfTrailingZeros_95d88_17 ?_
    refine x_goto X (tgt := 25) dJ13_numberOfTrailingZeros_95d88_18 (by decide) ?_
    exact x_iretS X hr hlk (Option.some.inj hf) dJ13_numberOfTrailingZeros_95d88_25
end
section
variable {p : Program} {l : Launch} {e : Env} {s : State} {m : MethodId} {args : Array Value} {below : List Frame} {meth : Method} {c : Code} {D : va_G} {kA : Nat → ClassId} {A : Nat → Prop} {Q : State → Prop} {ad : Nat → Nat}
abbrev rm_J13_bitCount_95d88 : Room := { frames := 0, cells := 0, slots := 0, locals := 0 }
set_option maxRecDepth 100000 in
set_option maxHeartbeats 4000000 in
theorem met_J13_bitCount_95d88 (l : Launch) (fu : Nat) (a0 : Int64) (v : Int32) (hf : f_J13_bitCount_95d88 fu a0 = some v) : Met l yJ13_bitCount_95d88 (wsY yJ13_bitCount_95d88 cJ13_bitCount_95d88 2 (some .int)) rm_J13_bitCount_95d88 (va_Pc [.long a0] (fun _ => True)) (va_Qi (fun (r : Int32) (_ : Unit) => r = v) (fun _ _ => True) (fun _ => False)) 0 0 (fun _ => False) := by
  refine metS (own := RJ13) (by decide +kernel) rfl (Nat.le_of_ble_eq_true rfl) rfl ?_
  intro p e s m below meth c X hr hlk
  generalize ([] : va_W) = ws
  unfold f_J13_bitCount_95d88 at hf
  refine x_lload_n X dJ13_bitCount_95d88_0 0 rfl ?_
  refine x_lload_n X dJ13_bitCount_95d88_1 0 rfl ?_
  refine x_iconst X (v := 1) dJ13_bitCount_95d88_2 (by decide) ?_
  refine x_lushr X dJ13_bitCount_95d88_3 ?_
  refine x_ldc2 X (v := 6148914691236517205) w_595 dJ13_bitCount_95d88_4 ?_
  refine x_land X dJ13_bitCount_95d88_7 ?_
  refine x_lsub X dJ13_bitCount_95d88_8 ?_
  refine x_nmL hf (fun x1 hf => ?_)
  refine x_lstore_n X (lv2 := [(0, .long x1)]) dJ13_bitCount_95d88_9 (by decide) rfl ?_
  refine x_lload_n X dJ13_bitCount_95d88_10 0 rfl ?_
  refine x_ldc2 X (v := 3689348814741910323) w_596 dJ13_bitCount_95d88_11 ?_
  refine x_land X dJ13_bitCount_95d88_14 ?_
  refine x_lload_n X dJ13_bitCount_95d88_15 0 rfl ?_
  refine x_iconst X (v := 2) dJ13_bitCount_95d88_16 (by decide) ?_
  refine x_lushr X dJ13_bitCount_95d88_17 ?_
  refine x_ldc2 X (v := 3689348814741910323) w_596 dJ13_bitCount_95d88_18 ?_
  refine x_land X dJ13_bitCount_95d88_21 ?_
  refine x_ladd X dJ13_bitCount_95d88_22 ?_
  refine x_nmL hf (fun x2 hf => ?_)
  refine x_lstore_n X (lv2 := [(0, .long x2)]) dJ13_bitCount_95d88_23 (by decide) rfl ?_
  refine x_lload_n X dJ13_bitCount_95d88_24 0 rfl ?_
  refine x_lload_n X dJ13_bitCount_95d88_25 0 rfl ?_
  refine x_iconst X (v := 4) dJ13_bitCount_95d88_26 (by decide) ?_
  refine x_lushr X dJ13_bitCount_95d88_27 ?_
  refine x_ladd X dJ13_bitCount_95d88_28 ?_
  refine x_ldc2 X (v := 1085102592571150095) w_597 dJ13_bitCount_95d88_29 ?_
  refine x_land X dJ13_bitCount_95d88_32 ?_
  refine x_nmL hf (fun x3 hf => ?_)
  refine x_lstore_n X (lv2 := [(0, .long x3)]) dJ13_bitCount_95d88_33 (by decide) rfl ?_
  refine x_lload_n X dJ13_bitCount_95d88_34 0 rfl ?_
  refine x_lload_n X dJ13_bitCount_95d88_35 0 rfl ?_
  refine x_bipush X (v := 8) dJ13_bitCount_95d88_36 (by decide) ?_
  refine x_lushr X dJ13_bitCount_95d88_38 ?_
  refine x_ladd X dJ13_bitCount_95d88_39 ?_
  refine x_nmL hf (fun x4 hf => ?_)
  refine x_lstore_n X (lv2 := [(0, .long x4)]) dJ13_bitCount_95d88_40 (by decide) rfl ?_
  refine x_lload_n X dJ13_bitCount_95d88_41 0 rfl ?_
  refine x_lload_n X dJ13_bitCount_95d88_42 0 rfl ?_
  refine x_bipush X (v := 16) dJ13_bitCount_95d88_43 (by decide) ?_
  refine x_lushr X dJ13_bitCount_95d88_45 ?_
  refine x_ladd X dJ13_bitCount_95d88_46 ?_
  refine x_nmL hf (fun x5 hf => ?_)
  refine x_lstore_n X (lv2 := [(0, .long x5)]) dJ13_bitCount_95d88_47 (by decide) rfl ?_
  refine x_lload_n X dJ13_bitCount_95d88_48 0 rfl ?_
  refine x_lload_n X dJ13_bitCount_95d88_49 0 rfl ?_
  refine x_bipush X (v := 32) dJ13_bitCount_95d88_50 (by decide) ?_
  refine x_lushr X dJ13_bitCount_95d88_52 ?_
  refine x_ladd X dJ13_bitCount_95d88_53 ?_
  refine x_nmL hf (fun x6 hf => ?_)
  refine x_lstore_n X (lv2 := [(0, .long x6)]) dJ13_bitCount_95d88_54 (by decide) rfl ?_
  refine x_lload_n X dJ13_bitCount_95d88_55 0 rfl ?_
  refine x_l2i X dJ13_bitCount_95d88_56 ?_
  refine x_bipush X (v := 127) dJ13_bitCount_95d88_57 (by decide) ?_
  refine x_iand X dJ13_bitCount_95d88_59 ?_
  exact x_iretS X hr hlk (Option.some.inj hf) dJ13_bitCount_95d88_60
end
section
variable {p : Program} {l : Launch} {e : Env} {s : State} {m : MethodId} {args : Array Value} {below : List Frame} {meth : Method} {c : Code} {D : va_G} {kA : Nat → ClassId} {A : Nat → Prop} {Q : State → Prop} {ad : Nat → Nat}
abbrev rm_X3_only : Room := { frames := 0, cells := 0, slots := 0, locals := 0 }
set_option maxRecDepth 100000 in
set_option maxHeartbeats 4000000 in
theorem met_X3_only (l : Launch) (fu : Nat) (a0 : Int32) (v : Int64) (hf : f_X3_only fu a0 = some v) : Met l yX3_only (wsY yX3_only cX3_only 1 (some .long)) rm_X3_only (va_Pc [.int a0] (fun _ => True)) (va_Ql (fun (r : Int64) (_ : Unit) => r = v) (fun _ _ => True) (fun _ => False)) 0 0 (fun _ => False) := by
  refine metS (own := RX3) (by decide +kernel) rfl (Nat.le_of_ble_eq_true rfl) rfl ?_
  intro p e s m below meth c X hr hlk
  generalize ([] : va_W) = ws
  unfold f_X3_only at hf
  refine x_lconst X (v := 1) dX3_only_0 (by decide) ?_
  refine x_iload_n X dX3_only_1 0 rfl ?_
  refine x_lshl X dX3_only_2 ?_
  exact x_lretS X hr hlk (Option.some.inj hf) dX3_only_3
end
section
variable {p : Program} {l : Launch} {e : Env} {s : State} {m : MethodId} {args : Array Value} {below : List Frame} {meth : Method} {c : Code} {D : va_G} {kA : Nat → ClassId} {A : Nat → Prop} {Q : State → Prop} {ad : Nat → Nat}
abbrev rm_X3_has : Room := { frames := 0, cells := 0, slots := 0, locals := 0 }
set_option maxRecDepth 100000 in
set_option maxHeartbeats 4000000 in
theorem met_X3_has (l : Launch) (fu : Nat) (a0 : Int64) (a2 : Int32) (v : Int32) (hf : f_X3_has fu a0 a2 = some v) : Met l yX3_has (wsY yX3_has cX3_has 3 (some .boolean)) rm_X3_has (va_Pc [.long a0, .int a2] (fun _ => True)) (va_Qi (fun (r : Int32) (_ : Unit) => r = v) (fun _ _ => True) (fun _ => False)) 0 0 (fun _ => False) := by
  refine metS (own := RX3) (by decide +kernel) rfl (Nat.le_of_ble_eq_true rfl) rfl ?_
  intro p e s m below meth c X hr hlk
  generalize ([] : va_W) = ws
  unfold f_X3_has at hf
  refine x_lload_n X dX3_has_0 0 rfl ?_
  refine x_iload_n X dX3_has_1 1 rfl ?_
  refine x_lshr X dX3_has_2 ?_
  refine x_lconst X (v := 1) dX3_has_3 (by decide) ?_
  refine x_land X dX3_has_4 ?_
  refine x_lconst X (v := 0) dX3_has_5 (by decide) ?_
  refine x_lcmp X dX3_has_6 ?_
  refine x_if_eq X (tgt := 14) dX3_has_7 (by decide) hf (fun hf => ?_) (fun hf => ?_)
  · refine x_iconst X (v := 0) dX3_has_14 (by decide) ?_
    exact x_zretS X hr hlk (by decide) (Option.some.inj hf) dX3_has_15
  · refine x_iconst X (v := 1) dX3_has_10 (by decide) ?_
    refine x_goto X (tgt := 15) dX3_has_11 (by decide) ?_
    exact x_zretS X hr hlk (by decide) (Option.some.inj hf) dX3_has_15
end
section
variable {p : Program} {l : Launch} {e : Env} {s : State} {m : MethodId} {args : Array Value} {below : List Frame} {meth : Method} {c : Code} {D : va_G} {kA : Nat → ClassId} {A : Nat → Prop} {Q : State → Prop} {ad : Nat → Nat}
abbrev rm_X3_next : Room := { frames := 2, cells := 0, slots := 0, locals := 43 }
set_option maxRecDepth 100000 in
set_option maxHeartbeats 4000000 in
theorem met_X3_next (l : Launch) (fu : Nat) (a0 : Int64) (a2 : Int32) (v : Int32) (hf : f_X3_next fu a0 a2 = some v) : Met l yX3_next (wsY yX3_next cX3_next 3 (some .int)) rm_X3_next (va_Pc [.long a0, .int a2] (fun _ => True)) (va_Qi (fun (r : Int32) (_ : Unit) => r = v) (fun _ _ => True) (fun _ => False)) 0 0 (fun _ => False) := by
  refine metS (own := RX3) (by decide +kernel) rfl (Nat.le_of_ble_eq_true rfl) rfl ?_
  intro p e s m below meth c X hr hlk
  generalize ([] : va_W) = ws
  unfold f_X3_next at hf
  refine x_iload_n X dX3_next_0 1 rfl ?_
  refine x_bipush X (v := 64) dX3_next_1 (by decide) ?_
  refine x_icmp_lt X (tgt := 9) dX3_next_3 (by decide) hf (fun hf => ?_) (fun hf => ?_)
  · refine x_lload_n X dX3_next_9 0 rfl ?_
    refine x_ldc2 X (v := (-1)) w_283 dX3_next_10 ?_
    refine x_iload_n X dX3_next_13 1 rfl ?_
    refine x_lshl X dX3_next_14 ?_
    refine x_land X dX3_next_15 ?_
    obtain ⟨x1, hx1, hf⟩ := bn_some hf
    refine x_callS_i X (As := [.long (a0 &&& (((-1) : Int64) <<< (Int32.toInt64 a2 &&& 63)))]) (rest := []) (n := 1) (goodS w_284 w_285 w_60 w_286) (met_J13_numberOfTrailingZeros_95d88 l fu (a0 &&& (((-1) : Int64) <<< (Int32.toInt64 a2 &&& 63))) x1 hx1) rfl rfl (by decide +kernel) ⟨by decide, by decide⟩ rfl rfl (Nat.le_of_ble_eq_true rfl) dX3_next_16 ⟨by decide, by decide⟩ ?_
    exact x_iretS X hr hlk (Option.some.inj hf) dX3_next_19
  · refine x_bipush X (v := 64) dX3_next_6 (by decide) ?_
    exact x_iretS X hr hlk (Option.some.inj hf) dX3_next_8
end
section
variable {p : Program} {l : Launch} {e : Env} {s : State} {m : MethodId} {args : Array Value} {below : List Frame} {meth : Method} {c : Code} {D : va_G} {kA : Nat → ClassId} {A : Nat → Prop} {Q : State → Prop} {ad : Nat → Nat}
abbrev rm_X3_pair : Room := { frames := 0, cells := 0, slots := 0, locals := 0 }
set_option maxRecDepth 100000 in
set_option maxHeartbeats 4000000 in
theorem met_X3_pair (l : Launch) (fu : Nat) (a0 : Int32) (a1 : Int32) (v : Int32) (hf : f_X3_pair fu a0 a1 = some v) : Met l yX3_pair (wsY yX3_pair cX3_pair 2 (some .int)) rm_X3_pair (va_Pc [.int a0, .int a1] (fun _ => True)) (va_Qi (fun (r : Int32) (_ : Unit) => r = v) (fun _ _ => True) (fun _ => False)) 0 0 (fun _ => False) := by
  refine metS (own := RX3) (by decide +kernel) rfl (Nat.le_of_ble_eq_true rfl) rfl ?_
  intro p e s m below meth c X hr hlk
  generalize ([] : va_W) = ws
  unfold f_X3_pair at hf
  refine x_iload_n X dX3_pair_0 0 rfl ?_
  refine x_bipush X (v := 64) dX3_pair_1 (by decide) ?_
  refine x_imul X dX3_pair_3 ?_
  refine x_iload_n X dX3_pair_4 1 rfl ?_
  refine x_iadd X dX3_pair_5 ?_
  exact x_iretS X hr hlk (Option.some.inj hf) dX3_pair_6
end
section
variable {p : Program} {l : Launch} {e : Env} {s : State} {m : MethodId} {args : Array Value} {below : List Frame} {meth : Method} {c : Code} {D : va_G} {kA : Nat → ClassId} {A : Nat → Prop} {Q : State → Prop} {ad : Nat → Nat}
abbrev rm_X3_costOf : Room := { frames := 0, cells := 0, slots := 0, locals := 0 }
set_option maxRecDepth 100000 in
set_option maxHeartbeats 4000000 in
theorem met_X3_costOf (l : Launch) (fu : Nat) (a0 : Int32) (v : Int32) (hf : f_X3_costOf fu a0 = some v) : Met l yX3_costOf (wsY yX3_costOf cX3_costOf 1 (some .int)) rm_X3_costOf (va_Pc [.int a0] (fun _ => True)) (va_Qi (fun (r : Int32) (_ : Unit) => r = v) (fun _ _ => True) (fun _ => False)) 0 0 (fun _ => False) := by
  refine metS (own := RX3) (by decide +kernel) rfl (Nat.le_of_ble_eq_true rfl) rfl ?_
  intro p e s m below meth c X hr hlk
  generalize ([] : va_W) = ws
  unfold f_X3_costOf at hf
  refine x_iload_n X dX3_costOf_0 0 rfl ?_
  refine x_ldc X (v := 536870912) w_298 dX3_costOf_1 ?_
  refine x_icmp_lt X (tgt := 10) dX3_costOf_3 (by decide) hf (fun hf => ?_) (fun hf => ?_)
  · refine x_iload_n X dX3_costOf_10 0 rfl ?_
    refine x_bipush X (v := 7) dX3_costOf_11 (by decide) ?_
    refine x_ishr X dX3_costOf_13 ?_
    exact x_iretS X hr hlk (Option.some.inj hf) dX3_costOf_14
  · refine x_iconst X (v := (-1)) dX3_costOf_6 (by decide) ?_
    refine x_goto X (tgt := 14) dX3_costOf_7 (by decide) ?_
    exact x_iretS X hr hlk (Option.some.inj hf) dX3_costOf_14
end
section
variable {p : Program} {l : Launch} {e : Env} {s : State} {m : MethodId} {args : Array Value} {below : List Frame} {meth : Method} {c : Code} {D : va_G} {kA : Nat → ClassId} {A : Nat → Prop} {Q : State → Prop} {ad : Nat → Nat}
abbrev rm_X3_place : Room := { frames := 0, cells := 0, slots := 0, locals := 0 }
set_option maxRecDepth 100000 in
set_option maxHeartbeats 4000000 in
theorem met_X3_place (l : Launch) (fu : Nat) (a0 : Int32) (a1 : Int32) (v : Int32) (hf : f_X3_place fu a0 a1 = some v) : Met l yX3_place (wsY yX3_place cX3_place 2 (some .int)) rm_X3_place (va_Pc [.int a0, .int a1] (fun _ => True)) (va_Qi (fun (r : Int32) (_ : Unit) => r = v) (fun _ _ => True) (fun _ => False)) 0 0 (fun _ => False) := by
  refine metS (own := RX3) (by decide +kernel) rfl (Nat.le_of_ble_eq_true rfl) rfl ?_
  intro p e s m below meth c X hr hlk
  generalize ([] : va_W) = ws
  unfold f_X3_place at hf
  refine x_iload_n X dX3_place_0 0 rfl ?_
  refine x_iconst X (v := 4) dX3_place_1 (by decide) ?_
  refine x_imul X dX3_place_2 ?_
  refine x_iload_n X dX3_place_3 1 rfl ?_
  refine x_iadd X dX3_place_4 ?_
  exact x_iretS X hr hlk (Option.some.inj hf) dX3_place_5
end
