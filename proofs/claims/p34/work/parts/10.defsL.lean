def cellV (L : Nat) (xs : Nat → Int32) (k : Int32) : Int32 := if Int32.ofNat L ≤ k then 790386105 * (k + 3) else xs k.toNatClampNeg
noncomputable def f_L_below (fu : Nat) (a0 : Int32) (a1 : Int32) : Option Int32 :=
  ck (¬ a1 = 0) <| nm ((a0 &&& 2147483647) % a1) fun x1 =>
  some x1

noncomputable def bd_L_build_3 (fu : Nat) (L : Nat) (xs : Nat → Int32) (f : WS) (y5 : Int32) (w : WS) : Option ((Int32 × WS) ⊕ ((WS) ⊕ (WS))) :=
  if 5 ≤ y5 then
    some (.inr (.inr (w)))
  else
    bxn2 (f_X3_addJunction fu w) fun x1 w2 =>
    if x1 = y5 then
      nm (y5 + 1) fun x3 =>
      some (.inl (x3, w2))
    else
      some (.inr (.inl (w2)))

noncomputable def bd_L_build_29 (fu : Nat) (L : Nat) (xs : Nat → Int32)  (y5 : Int32) (w : WS) (f : WS) : Option ((Int32 × WS × WS) ⊕ ((WS × WS) ⊕ (WS × WS))) :=
  if 9 ≤ y5 then
    some (.inr (.inr (w, f)))
  else
    ck (¬ y5 < 0) <| nm (cellV L xs y5) fun x1 =>
    if 5 ≤ y5 then
      bn (f_L_below fu x1 (5 : Int32)) fun x2 =>
      ck (vp_in y5 9) <| nm (wI f 0 (Int32.toNatClampNeg y5) x2) fun f3 =>
      if 5 ≤ y5 then
        ck (vp_in y5 9) <| nm (f3.1 0 (Int32.toNatClampNeg y5)) fun x4 =>
        bn (f_L_below fu (x1 >>> ((4 : Int32) &&& 31)) (4 : Int32)) fun x5 =>
        ck (¬ (5 : Int32) = 0) <| nm (((x4 + 1) + x5) % 5) fun x6 =>
        ck (vp_in y5 9) <| nm (wI f3 1 (Int32.toNatClampNeg y5) x6) fun f7 =>
        bn (f_L_below fu (x1 >>> ((8 : Int32) &&& 31)) (6 : Int32)) fun x8 =>
        ck (vp_in y5 9) <| nm (wI f7 2 (Int32.toNatClampNeg y5) ((1 : Int32) + x8)) fun f9 =>
        ck (vp_in y5 9) <| nm (f9.1 0 (Int32.toNatClampNeg y5)) fun x10 =>
        ck (vp_in y5 9) <| nm (f9.1 1 (Int32.toNatClampNeg y5)) fun x11 =>
        ck (vp_in y5 9) <| nm (f9.1 2 (Int32.toNatClampNeg y5)) fun x12 =>
        bxn2 (f_X3_addRoad fu w x10 x11 x12) fun x13 w14 =>
        if x13 = y5 then
          nm (y5 + 1) fun x15 =>
          some (.inl (x15, w14, f9))
        else
          some (.inr (.inl (w14, f9)))
      else
        ck (¬ (5 : Int32) = 0) <| nm ((y5 + 1) % 5) fun x16 =>
        ck (vp_in y5 9) <| nm (wI f3 1 (Int32.toNatClampNeg y5) x16) fun f17 =>
        bn (f_L_below fu (x1 >>> ((8 : Int32) &&& 31)) (6 : Int32)) fun x18 =>
        ck (vp_in y5 9) <| nm (wI f17 2 (Int32.toNatClampNeg y5) ((1 : Int32) + x18)) fun f19 =>
        ck (vp_in y5 9) <| nm (f19.1 0 (Int32.toNatClampNeg y5)) fun x20 =>
        ck (vp_in y5 9) <| nm (f19.1 1 (Int32.toNatClampNeg y5)) fun x21 =>
        ck (vp_in y5 9) <| nm (f19.1 2 (Int32.toNatClampNeg y5)) fun x22 =>
        bxn2 (f_X3_addRoad fu w x20 x21 x22) fun x23 w24 =>
        if x23 = y5 then
          nm (y5 + 1) fun x25 =>
          some (.inl (x25, w24, f19))
        else
          some (.inr (.inl (w24, f19)))
    else
      ck (vp_in y5 9) <| nm (wI f 0 (Int32.toNatClampNeg y5) y5) fun f26 =>
      if 5 ≤ y5 then
        ck (vp_in y5 9) <| nm (f26.1 0 (Int32.toNatClampNeg y5)) fun x27 =>
        bn (f_L_below fu (x1 >>> ((4 : Int32) &&& 31)) (4 : Int32)) fun x28 =>
        ck (¬ (5 : Int32) = 0) <| nm (((x27 + 1) + x28) % 5) fun x29 =>
        ck (vp_in y5 9) <| nm (wI f26 1 (Int32.toNatClampNeg y5) x29) fun f30 =>
        bn (f_L_below fu (x1 >>> ((8 : Int32) &&& 31)) (6 : Int32)) fun x31 =>
        ck (vp_in y5 9) <| nm (wI f30 2 (Int32.toNatClampNeg y5) ((1 : Int32) + x31)) fun f32 =>
        ck (vp_in y5 9) <| nm (f32.1 0 (Int32.toNatClampNeg y5)) fun x33 =>
        ck (vp_in y5 9) <| nm (f32.1 1 (Int32.toNatClampNeg y5)) fun x34 =>
        ck (vp_in y5 9) <| nm (f32.1 2 (Int32.toNatClampNeg y5)) fun x35 =>
        bxn2 (f_X3_addRoad fu w x33 x34 x35) fun x36 w37 =>
        if x36 = y5 then
          nm (y5 + 1) fun x38 =>
          some (.inl (x38, w37, f32))
        else
          some (.inr (.inl (w37, f32)))
      else
        ck (¬ (5 : Int32) = 0) <| nm ((y5 + 1) % 5) fun x39 =>
        ck (vp_in y5 9) <| nm (wI f26 1 (Int32.toNatClampNeg y5) x39) fun f40 =>
        bn (f_L_below fu (x1 >>> ((8 : Int32) &&& 31)) (6 : Int32)) fun x41 =>
        ck (vp_in y5 9) <| nm (wI f40 2 (Int32.toNatClampNeg y5) ((1 : Int32) + x41)) fun f42 =>
        ck (vp_in y5 9) <| nm (f42.1 0 (Int32.toNatClampNeg y5)) fun x43 =>
        ck (vp_in y5 9) <| nm (f42.1 1 (Int32.toNatClampNeg y5)) fun x44 =>
        ck (vp_in y5 9) <| nm (f42.1 2 (Int32.toNatClampNeg y5)) fun x45 =>
        bxn2 (f_X3_addRoad fu w x43 x44 x45) fun x46 w47 =>
        if x46 = y5 then
          nm (y5 + 1) fun x48 =>
          some (.inl (x48, w47, f42))
        else
          some (.inr (.inl (w47, f42)))

noncomputable def f_L_build (fu : Nat) (L : Nat) (xs : Nat → Int32) (w : WS) (f : WS)  : Option (Int32 × WS × WS) :=
  bx (iter (fun q => bd_L_build_3 fu L xs f q.1 q.2) fu ((0 : Int32), w)) (fun r4 =>
    bx (iter (fun q => bd_L_build_29 fu L xs q.1 q.2.1 q.2.2) fu ((0 : Int32), r4, f)) (fun r8 =>
      some ((1 : Int32), r8.1, r8.2))
    fun r7 =>
      none)
  fun r3 =>
    none

noncomputable def f_L_penalty (fu : Nat) (w : WS) (f : WS) (a3 : Int32) (a4 : Int32) (a5 : Int32) : Option (Int32) :=
  ck (vp_in (((9 : Int32) * a4) + a5) 81) <| nm (f.1 3 (Int32.toNatClampNeg (((9 : Int32) * a4) + a5))) fun x1 =>
  if x1 = (-2) then
    ck (vp_in a5 9) <| nm (f.1 1 (Int32.toNatClampNeg a5)) fun x2 =>
    ck (vp_in a4 9) <| nm (f.1 0 (Int32.toNatClampNeg a4)) fun x3 =>
    if x2 = x3 then
      some (a3)
    else
      some ((0 : Int32))
  else
    some (x1)

noncomputable def bd_L_find_3 (fu : Nat) (w : WS) (y5 : Int32) (y6 : Int32) (y8 : Int32) (f : WS) : Option ((Int32 × WS) ⊕ (WS)) :=
  if 9 ≤ y8 then
    some (.inr (f))
  else
    ck (vp_in y8 9) <| nm (f.1 4 (Int32.toNatClampNeg y8)) fun x1 =>
    if x1 = 0 then
      ck (vp_in y8 9) <| nm (wI f 8 (Int32.toNatClampNeg y8) (1000000 : Int32)) fun f2 =>
      nm (y8 + 1) fun x3 =>
      some (.inl (x3, f2))
    else
      ck (vp_in y8 9) <| nm (f.1 1 (Int32.toNatClampNeg y8)) fun x4 =>
      if x4 = y6 then
        ck (vp_in y8 9) <| nm (f.1 2 (Int32.toNatClampNeg y8)) fun x7 =>
        ck (vp_in y8 9) <| nm (wI f 8 (Int32.toNatClampNeg y8) x7) fun f8 =>
        nm (y8 + 1) fun x9 =>
        some (.inl (x9, f8))
      else
        ck (vp_in y8 9) <| nm (wI f 8 (Int32.toNatClampNeg y8) (1000000 : Int32)) fun f5 =>
        nm (y8 + 1) fun x6 =>
        some (.inl (x6, f5))

noncomputable def bd_L_find_69 (fu : Nat) (w : WS) (y5 : Int32) (y8 : Int32) (y9 : Int32) (y10 : Int32) (f : WS) : Option ((Int32 × WS) ⊕ (WS)) :=
  if 9 ≤ y10 then
    some (.inr (f))
  else
    ck (vp_in y9 9) <| nm (f.1 4 (Int32.toNatClampNeg y9)) fun x1 =>
    if x1 = 0 then
      nm (y10 + 1) fun x2 =>
      some (.inl (x2, f))
    else
      ck (vp_in y9 9) <| nm (f.1 1 (Int32.toNatClampNeg y9)) fun x3 =>
      ck (vp_in y10 9) <| nm (f.1 0 (Int32.toNatClampNeg y10)) fun x4 =>
      if x3 = x4 then
        bn (f_L_penalty fu w f y5 y9 y10) fun x6 =>
        if 0 ≤ x6 then
          ck (vp_in y9 9) <| nm (f.1 8 (Int32.toNatClampNeg y9)) fun x8 =>
          ck (vp_in y9 9) <| nm (f.1 2 (Int32.toNatClampNeg y9)) fun x9 =>
          bn (f_L_penalty fu w f y5 y9 y10) fun x10 =>
          ck (vp_in y10 9) <| nm (f.1 8 (Int32.toNatClampNeg y10)) fun x12 =>
          ck (vp_in y9 9) <| nm (wI f 8 (Int32.toNatClampNeg y9) (if ((x9 + x10) + x12) < x8 then ((x9 + x10) + x12) else x8)) fun f13 =>
          nm (y10 + 1) fun x14 =>
          some (.inl (x14, f13))
        else
          nm (y10 + 1) fun x15 =>
          some (.inl (x15, f))
      else
        nm (y10 + 1) fun x5 =>
        some (.inl (x5, f))

noncomputable def bd_L_find_59 (fu : Nat) (w : WS) (y5 : Int32) (y8 : Int32) (y9 : Int32) (f : WS) : Option ((Int32 × WS) ⊕ (WS)) :=
  if 9 ≤ y9 then
    some (.inr (f))
  else
    bn (iter (fun q => bd_L_find_69 fu w y5 y8 y9 q.1 q.2) fu ((0 : Int32), f)) fun f1 =>
    nm (y9 + 1) fun x3 =>
    some (.inl (x3, f1))

noncomputable def bd_L_find_49 (fu : Nat) (w : WS) (y5 : Int32) (y8 : Int32) (f : WS) : Option ((Int32 × WS) ⊕ (WS)) :=
  if 9 ≤ y8 then
    some (.inr (f))
  else
    bn (iter (fun q => bd_L_find_59 fu w y5 y8 q.1 q.2) fu ((0 : Int32), f)) fun f1 =>
    nm (y8 + 1) fun x3 =>
    some (.inl (x3, f1))

noncomputable def f_L_find (fu : Nat) (w : WS) (f : WS) (a5 : Int32) (a6 : Int32) : Option (WS) :=
  bn (iter (fun q => bd_L_find_3 fu w a5 a6 q.1 q.2) fu ((0 : Int32), f)) fun f1 =>
  bn (iter (fun q => bd_L_find_49 fu w a5 q.1 q.2) fu ((0 : Int32), f1)) fun f3 =>
  some (f3)

noncomputable def bd_L_distance_16 (fu : Nat) (w : WS) (f : WS) (y2 : Int32) (y4 : Int32) (y5 : Int32) : Option ((Int32 × Int32) ⊕ (Int32)) :=
  if 9 ≤ y5 then
    some (.inr (y4))
  else
    ck (vp_in y5 9) <| nm (f.1 0 (Int32.toNatClampNeg y5)) fun x1 =>
    if x1 = y2 then
      ck (vp_in y5 9) <| nm (f.1 8 (Int32.toNatClampNeg y5)) fun x3 =>
      nm ((if x3 < y4 then x3 else y4)) fun x4 =>
      nm (y5 + 1) fun x5 =>
      some (.inl (x4, x5))
    else
      nm (y5 + 1) fun x2 =>
      some (.inl (y4, x2))

noncomputable def f_L_distance (fu : Nat) (w : WS) (f : WS) (a2 : Int32) (a3 : Int32) : Option (Int32) :=
  if a2 = a3 then
    bn (iter (fun q => bd_L_distance_16 fu w f a2 q.1 q.2) fu ((0 : Int32), (0 : Int32))) fun x3 =>
    if x3 < 1000000 then
      some (x3)
    else
      some (((-1) : Int32))
  else
    bn (iter (fun q => bd_L_distance_16 fu w f a2 q.1 q.2) fu ((1000000 : Int32), (0 : Int32))) fun x1 =>
    if x1 < 1000000 then
      some (x1)
    else
      some (((-1) : Int32))

noncomputable def f_L_change (fu : Nat) (w : WS) (f : WS) (a1 : Int32) : Option (Int32 × WS × WS) :=
  bn (f_L_below fu (a1 >>> ((3 : Int32) &&& 31)) (9 : Int32)) fun x1 =>
  bn (f_L_below fu (a1 >>> ((10 : Int32) &&& 31)) (9 : Int32)) fun x2 =>
  bn (f_L_below fu (a1 >>> ((16 : Int32) &&& 31)) (8 : Int32)) fun x3 =>
  if 3 ≤ (a1 &&& 7) then
    if 5 ≤ (a1 &&& 7) then
      if 7 ≤ (a1 &&& 7) then
        ck (vp_in 0 1) <| nm (wI f 5 (Int32.toNatClampNeg 0) (x3 - 1)) fun f4 =>
        bxn2 (f_X3_setUTurn fu w (x3 - 1)) fun x5 w6 =>
        some (x5, w6, f4)
      else
        ck (vp_in x1 9) <| nm (f.1 1 (Int32.toNatClampNeg x1)) fun x7 =>
        ck (vp_in x2 9) <| nm (f.1 0 (Int32.toNatClampNeg x2)) fun x8 =>
        if x7 = x8 then
          ck (vp_in (((9 : Int32) * x1) + x2) 81) <| nm (wI f 3 (Int32.toNatClampNeg (((9 : Int32) * x1) + x2)) (x3 - 2)) fun f12 =>
          bxn2 (f_X3_setTurn fu w x1 x2 (x3 - 2)) fun x13 w14 =>
          some (x13, w14, f12)
        else
          ck (vp_in 0 1) <| nm (wI f 5 (Int32.toNatClampNeg 0) (x3 - 1)) fun f9 =>
          bxn2 (f_X3_setUTurn fu w (x3 - 1)) fun x10 w11 =>
          some (x10, w11, f9)
    else
      if x3 ≤ 2 then
        ck (vp_in x1 9) <| nm (wI f 4 (Int32.toNatClampNeg x1) (vp_nar .boolean 0)) fun f15 =>
        if x3 ≤ 2 then
          bxn2 (f_X3_setOpen fu w x1 (0 : Int32)) fun x16 w17 =>
          some (x16, w17, f15)
        else
          bxn2 (f_X3_setOpen fu w x1 (1 : Int32)) fun x18 w19 =>
          some (x18, w19, f15)
      else
        ck (vp_in x1 9) <| nm (wI f 4 (Int32.toNatClampNeg x1) (vp_nar .boolean 1)) fun f20 =>
        if x3 ≤ 2 then
          bxn2 (f_X3_setOpen fu w x1 (0 : Int32)) fun x21 w22 =>
          some (x21, w22, f20)
        else
          bxn2 (f_X3_setOpen fu w x1 (1 : Int32)) fun x23 w24 =>
          some (x23, w24, f20)
  else
    ck (vp_in x1 9) <| nm (wI f 2 (Int32.toNatClampNeg x1) ((1 : Int32) + x3)) fun f25 =>
    bxn2 (f_X3_setWeight fu w x1 ((1 : Int32) + x3)) fun x26 w27 =>
    some (x26, w27, f25)

noncomputable def bd_L_read6_10 (fu : Nat) (y2 : Int32) (y3 : Int32) (w : WS) (f : WS) : Option ((Int32 × WS × WS) ⊕ (WS × WS)) :=
  if 9 ≤ y3 then
    some (.inr (w, f))
  else
    bxn2 (f_X3_hasArc fu w y2 y3) fun x1 w2 =>
    if x1 = 0 then
      ck (vp_in (((9 : Int32) * y2) + y3) 81) <| nm (wI f 6 (Int32.toNatClampNeg (((9 : Int32) * y2) + y3)) ((-2) : Int32)) fun f3 =>
      nm (y3 + 1) fun x4 =>
      some (.inl (x4, w2, f3))
    else
      bxn2 (f_X3_arcCost fu w2 y2 y3) fun x5 w6 =>
      ck (vp_in (((9 : Int32) * y2) + y3) 81) <| nm (wI f 6 (Int32.toNatClampNeg (((9 : Int32) * y2) + y3)) x5) fun f7 =>
      nm (y3 + 1) fun x8 =>
      some (.inl (x8, w6, f7))

noncomputable def bd_L_read6_2 (fu : Nat)  (y2 : Int32) (w : WS) (f : WS) : Option ((Int32 × WS × WS) ⊕ (WS × WS)) :=
  if 9 ≤ y2 then
    some (.inr (w, f))
  else
    bn2 (iter (fun q => bd_L_read6_10 fu y2 q.1 q.2.1 q.2.2) fu ((0 : Int32), w, f)) fun w1 f2 =>
    nm (y2 + 1) fun x4 =>
    some (.inl (x4, w1, f2))

noncomputable def f_L_read6 (fu : Nat) (w : WS) (f : WS)  : Option (WS × WS) :=
  bn2 (iter (fun q => bd_L_read6_2 fu q.1 q.2.1 q.2.2) fu ((0 : Int32), w, f)) fun w1 f2 =>
  some (w1, f2)

noncomputable def bd_L_read7_10 (fu : Nat) (y2 : Int32) (y3 : Int32) (w : WS) (f : WS) : Option ((Int32 × WS × WS) ⊕ (WS × WS)) :=
  if 9 ≤ y3 then
    some (.inr (w, f))
  else
    bxn2 (f_X3_hasArc fu w y2 y3) fun x1 w2 =>
    if x1 = 0 then
      ck (vp_in (((9 : Int32) * y2) + y3) 81) <| nm (wI f 7 (Int32.toNatClampNeg (((9 : Int32) * y2) + y3)) ((-2) : Int32)) fun f3 =>
      nm (y3 + 1) fun x4 =>
      some (.inl (x4, w2, f3))
    else
      bxn2 (f_X3_arcCost fu w2 y2 y3) fun x5 w6 =>
      ck (vp_in (((9 : Int32) * y2) + y3) 81) <| nm (wI f 7 (Int32.toNatClampNeg (((9 : Int32) * y2) + y3)) x5) fun f7 =>
      nm (y3 + 1) fun x8 =>
      some (.inl (x8, w6, f7))

noncomputable def bd_L_read7_2 (fu : Nat)  (y2 : Int32) (w : WS) (f : WS) : Option ((Int32 × WS × WS) ⊕ (WS × WS)) :=
  if 9 ≤ y2 then
    some (.inr (w, f))
  else
    bn2 (iter (fun q => bd_L_read7_10 fu y2 q.1 q.2.1 q.2.2) fu ((0 : Int32), w, f)) fun w1 f2 =>
    nm (y2 + 1) fun x4 =>
    some (.inl (x4, w1, f2))

noncomputable def f_L_read7 (fu : Nat) (w : WS) (f : WS)  : Option (WS × WS) :=
  bn2 (iter (fun q => bd_L_read7_2 fu q.1 q.2.1 q.2.2) fu ((0 : Int32), w, f)) fun w1 f2 =>
  some (w1, f2)

noncomputable def bd_L_unlike_4 (fu : Nat) (w : WS) (f : WS) (y2 : Int32) (y3 : Int32) : Option ((Int32 × Int32) ⊕ (Int32)) :=
  if 81 ≤ y3 then
    some (.inr (y2))
  else
    ck (vp_in y3 81) <| nm (f.1 6 (Int32.toNatClampNeg y3)) fun x1 =>
    ck (vp_in y3 81) <| nm (f.1 7 (Int32.toNatClampNeg y3)) fun x2 =>
    if x1 = x2 then
      nm ((y2 + 0)) fun x5 =>
      nm (y3 + 1) fun x6 =>
      some (.inl (x5, x6))
    else
      nm ((y2 + 1)) fun x3 =>
      nm (y3 + 1) fun x4 =>
      some (.inl (x3, x4))

noncomputable def f_L_unlike (fu : Nat) (w : WS) (f : WS)  : Option (Int32) :=
  bn (iter (fun q => bd_L_unlike_4 fu w f q.1 q.2) fu ((0 : Int32), (0 : Int32))) fun x1 =>
  some (x1)

