noncomputable def f_X4_thrown (fu : Nat) (w : WS)  : Option Int32 :=
  nm (w.1 0 0) fun x1 =>
  some x1

noncomputable def f_X4_fail (fu : Nat) (w : WS) (a1 : Int32) : Option (Int32 × WS) :=
  nm (wI w 0 0 a1) fun w1 =>
  some ((0 : Int32), w1)

noncomputable def f_X4_isJunction (fu : Nat) (w : WS) (a1 : Int32) : Option Int32 :=
  if a1 < 0 then
    some (0 : Int32)
  else
    nm (w.1 0 1) fun x1 =>
    if x1 ≤ a1 then
      some (0 : Int32)
    else
      some (1 : Int32)

noncomputable def f_X4_isRoad (fu : Nat) (w : WS) (a1 : Int32) : Option Int32 :=
  if a1 < 0 then
    some (0 : Int32)
  else
    nm (w.1 0 2) fun x1 =>
    if x1 ≤ a1 then
      some (0 : Int32)
    else
      some (1 : Int32)

noncomputable def f_X4_follows (fu : Nat) (w : WS) (a1 : Int32) (a2 : Int32) : Option Int32 :=
  ck (vp_in a1 64) <| nm (w.1 2 (Int32.toNatClampNeg a1)) fun x1 =>
  ck (vp_in a2 64) <| nm (w.1 1 (Int32.toNatClampNeg a2)) fun x2 =>
  if x1 = x2 then
    some (1 : Int32)
  else
    some (0 : Int32)

noncomputable def f_X4_addJunction (fu : Nat) (w : WS)  : Option (Int32 × WS) :=
  nm (wI w 0 0 0) fun w1 =>
  nm (w1.1 0 1) fun x2 =>
  if x2 = 32 then
    bn2 (f_X4_fail fu w1 (1 : Int32)) fun x7 w6 =>
    some (x7, w6)
  else
    nm (w1.1 0 1) fun x3 =>
    nm (wI w1 0 1 (x3 + 1)) fun w4 =>
    nm (w4.1 0 1) fun x5 =>
    some ((x5 - 1), w4)

noncomputable def f_X4_addRoad (fu : Nat) (w : WS) (a1 : Int32) (a2 : Int32) (a3 : Int32) : Option (Int32 × WS) :=
  nm (wI w 0 0 0) fun w1 =>
  bn (f_X4_isJunction fu w1 a1) fun x2 =>
  if x2 = 0 then
    bn2 (f_X4_fail fu w1 (1 : Int32)) fun x4 w3 =>
    some (x4, w3)
  else
    bn (f_X4_isJunction fu w1 a2) fun x5 =>
    if x5 = 0 then
      bn2 (f_X4_fail fu w1 (1 : Int32)) fun x30 w29 =>
      some (x30, w29)
    else
      if a1 = a2 then
        bn2 (f_X4_fail fu w1 (2 : Int32)) fun x7 w6 =>
        some (x7, w6)
      else
        if a3 < 1 then
          bn2 (f_X4_fail fu w1 (2 : Int32)) fun x9 w8 =>
          some (x9, w8)
        else
          if a3 ≤ 10000 then
            nm (w1.1 0 2) fun x10 =>
            if x10 = 64 then
              bn2 (f_X4_fail fu w1 (3 : Int32)) fun x26 w25 =>
              some (x26, w25)
            else
              nm (w1.1 0 2) fun x11 =>
              ck (vp_in x11 64) <| nm (wI w1 1 (Int32.toNatClampNeg x11) a1) fun w12 =>
              nm (w12.1 0 2) fun x13 =>
              ck (vp_in x13 64) <| nm (wI w12 2 (Int32.toNatClampNeg x13) a2) fun w14 =>
              nm (w14.1 0 2) fun x15 =>
              ck (vp_in x15 64) <| nm (wI w14 3 (Int32.toNatClampNeg x15) a3) fun w16 =>
              nm (w16.1 0 2) fun x17 =>
              ck (vp_in x17 64) <| nm (wI w16 4 (Int32.toNatClampNeg x17) (vp_nar .boolean 1)) fun w18 =>
              nm (w18.1 0 2) fun x19 =>
              nm (wI w18 0 2 (x19 + 1)) fun w20 =>
              nm (wI w20 0 9 0) fun w21 =>
              nm (wI w21 0 14 0) fun w22 =>
              nm (wI w22 0 13 0) fun w23 =>
              nm (w23.1 0 2) fun x24 =>
              some ((x24 - 1), w23)
          else
            bn2 (f_X4_fail fu w1 (2 : Int32)) fun x28 w27 =>
            some (x28, w27)

noncomputable def f_X4_penalty (fu : Nat) (w : WS) (a1 : Int32) (a2 : Int32) : Option Int32 :=
  ck (vp_in (((64 : Int32) * a1) + a2) 4096) <| nm (w.1 5 (Int32.toNatClampNeg (((64 : Int32) * a1) + a2))) fun x1 =>
  if x1 = (-2) then
    ck (vp_in a2 64) <| nm (w.1 2 (Int32.toNatClampNeg a2)) fun x2 =>
    ck (vp_in a1 64) <| nm (w.1 1 (Int32.toNatClampNeg a1)) fun x3 =>
    if x2 = x3 then
      nm (w.1 0 8) fun x4 =>
      some x4
    else
      some (0 : Int32)
  else
    some x1

noncomputable def f_X4_step (fu : Nat) (w : WS) (a1 : Int32) (a2 : Int32) : Option Int64 :=
  ck (vp_in a1 64) <| nm (w.1 4 (Int32.toNatClampNeg a1)) fun x1 =>
  if x1 = 0 then
    some (1000000000000 : Int64)
  else
    ck (vp_in a2 64) <| nm (w.1 4 (Int32.toNatClampNeg a2)) fun x2 =>
    if x2 = 0 then
      some (1000000000000 : Int64)
    else
      bn (f_X4_follows fu w a1 a2) fun x3 =>
      if x3 = 0 then
        some (1000000000000 : Int64)
      else
        bn (f_X4_penalty fu w a1 a2) fun x4 =>
        if x4 < 0 then
          some (1000000000000 : Int64)
        else
          bn (f_X4_penalty fu w a1 a2) fun x5 =>
          ck (vp_in a2 64) <| nm (w.1 3 (Int32.toNatClampNeg a2)) fun x6 =>
          some (Int32.toInt64 (x5 + x6))

noncomputable def bd_X4_findCosts_12 (fu : Nat) (y1 : Int32) (y2 : Int32) (w : WS) : Option ((Int32 × WS) ⊕ (WS)) :=
  nm (w.1 0 2) fun x1 =>
  if x1 ≤ y2 then
    some (.inr (w))
  else
    bn (f_X4_step fu w y1 y2) fun x2 =>
    ck (vp_in (((64 : Int32) * y1) + y2) 4096) <| nm (wL w 11 (Int32.toNatClampNeg (((64 : Int32) * y1) + y2)) x2) fun w3 =>
    nm (y2 + 1) fun x4 =>
    some (.inl (x4, w3))

noncomputable def bd_X4_findCosts_2 (fu : Nat)  (y1 : Int32) (w : WS) : Option ((Int32 × WS) ⊕ (WS)) :=
  nm (w.1 0 2) fun x1 =>
  if x1 ≤ y1 then
    some (.inr (w))
  else
    bn (iter (fun q => bd_X4_findCosts_12 fu y1 q.1 q.2) fu ((0 : Int32), w)) fun w2 =>
    nm (y1 + 1) fun x4 =>
    some (.inl (x4, w2))

noncomputable def bd_X4_findCosts_68 (fu : Nat) (y1 : Int32) (y2 : Int32) (y3 : Int32) (w : WS) : Option ((Int32 × WS) ⊕ (WS)) :=
  nm (w.1 0 2) fun x1 =>
  if x1 ≤ y3 then
    some (.inr (w))
  else
    ck (vp_in y3 64) <| nm (w.1 6 (Int32.toNatClampNeg y3)) fun x2 =>
    if y1 < x2 then
      ck (vp_in (((64 : Int32) * y2) + y3) 4096) <| nm (w.2 11 (Int32.toNatClampNeg (((64 : Int32) * y2) + y3))) fun x3 =>
      ck (vp_in (((64 : Int32) * y2) + y3) 4096) <| nm (wL w 9 (Int32.toNatClampNeg (((64 : Int32) * y2) + y3)) x3) fun w4 =>
      ck (vp_in (((64 : Int32) * y3) + y2) 4096) <| nm (w4.2 11 (Int32.toNatClampNeg (((64 : Int32) * y3) + y2))) fun x5 =>
      ck (vp_in (((64 : Int32) * y3) + y2) 4096) <| nm (wL w4 9 (Int32.toNatClampNeg (((64 : Int32) * y3) + y2)) x5) fun w6 =>
      nm (y3 + 1) fun x7 =>
      some (.inl (x7, w6))
    else
      nm (y3 + 1) fun x8 =>
      some (.inl (x8, w))

noncomputable def bd_X4_findCosts_152 (fu : Nat) (y1 : Int32) (y2 : Int32) (y3 : Int32) (y4 : Int32) (w : WS) : Option ((Int32 × WS) ⊕ (WS)) :=
  nm (w.1 0 2) fun x1 =>
  if x1 ≤ y4 then
    some (.inr (w))
  else
    ck (vp_in (((64 : Int32) * y3) + y4) 4096) <| nm (w.2 11 (Int32.toNatClampNeg (((64 : Int32) * y3) + y4))) fun x2 =>
    ck (vp_in (((64 : Int32) * y3) + y2) 4096) <| nm (w.2 11 (Int32.toNatClampNeg (((64 : Int32) * y3) + y2))) fun x3 =>
    ck (vp_in (((64 : Int32) * y2) + y4) 4096) <| nm (w.2 11 (Int32.toNatClampNeg (((64 : Int32) * y2) + y4))) fun x4 =>
    ck (vp_in (((64 : Int32) * y3) + y4) 4096) <| nm (wL w 11 (Int32.toNatClampNeg (((64 : Int32) * y3) + y4)) (if (if (x3 + x4) < 1000000000000 then (x3 + x4) else 1000000000000) < x2 then (if (x3 + x4) < 1000000000000 then (x3 + x4) else 1000000000000) else x2)) fun w5 =>
    nm (y4 + 1) fun x6 =>
    some (.inl (x6, w5))

noncomputable def bd_X4_findCosts_141 (fu : Nat) (y1 : Int32) (y2 : Int32) (y3 : Int32) (w : WS) : Option ((Int32 × WS) ⊕ (WS)) :=
  nm (w.1 0 2) fun x1 =>
  if x1 ≤ y3 then
    some (.inr (w))
  else
    bn (iter (fun q => bd_X4_findCosts_152 fu y1 y2 y3 q.1 q.2) fu ((0 : Int32), w)) fun w2 =>
    nm (y3 + 1) fun x4 =>
    some (.inl (x4, w2))

noncomputable def bd_X4_findCosts_51 (fu : Nat)  (y1 : Int32) (w : WS) : Option ((Int32 × WS) ⊕ (WS)) :=
  nm (w.1 0 2) fun x1 =>
  if x1 ≤ y1 then
    some (.inr (w))
  else
    ck (vp_in y1 64) <| nm (w.1 7 (Int32.toNatClampNeg y1)) fun x2 =>
    bn (iter (fun q => bd_X4_findCosts_68 fu y1 x2 q.1 q.2) fu ((0 : Int32), w)) fun w3 =>
    bn (iter (fun q => bd_X4_findCosts_141 fu y1 x2 q.1 q.2) fu ((0 : Int32), w3)) fun w5 =>
    nm (y1 + 1) fun x7 =>
    some (.inl (x7, w5))

noncomputable def f_X4_findCosts (fu : Nat) (w : WS)  : Option WS :=
  bn (iter (fun q => bd_X4_findCosts_2 fu q.1 q.2) fu ((0 : Int32), w)) fun w1 =>
  bn (iter (fun q => bd_X4_findCosts_51 fu q.1 q.2) fu ((0 : Int32), w1)) fun w3 =>
  some w3

noncomputable def bd_X4_renewed_11 (fu : Nat)  (y1 : Int32) (w : WS) : Option ((Int32 × WS) ⊕ (WS)) :=
  if 4096 ≤ y1 then
    some (.inr (w))
  else
    ck (vp_in y1 4096) <| nm (w.2 9 (Int32.toNatClampNeg y1)) fun x1 =>
    ck (vp_in y1 4096) <| nm (wL w 10 (Int32.toNatClampNeg y1) x1) fun w2 =>
    nm (y1 + 1) fun x3 =>
    some (.inl (x3, w2))

noncomputable def bd_X4_renewed_56 (fu : Nat) (w : WS) (y2 : Int32) (y1 : Int32) (y3 : Int32) : Option ((Int32 × Int32) ⊕ (Int32)) :=
  nm (w.1 0 2) fun x1 =>
  if x1 ≤ y3 then
    some (.inr (y1))
  else
    ck (vp_in (((64 : Int32) * y2) + y3) 4096) <| nm (w.1 8 (Int32.toNatClampNeg (((64 : Int32) * y2) + y3))) fun x2 =>
    if x2 = 0 then
      nm ((y1 + 0)) fun x3 =>
      nm (y3 + 1) fun x4 =>
      some (.inl (x3, x4))
    else
      ck (vp_in (((64 : Int32) * y2) + y3) 4096) <| nm (w.2 9 (Int32.toNatClampNeg (((64 : Int32) * y2) + y3))) fun x5 =>
      ck (vp_in (((64 : Int32) * y2) + y3) 4096) <| nm (w.2 10 (Int32.toNatClampNeg (((64 : Int32) * y2) + y3))) fun x6 =>
      if (lg_cmp x5 x6) = 0 then
        nm ((y1 + 0)) fun x7 =>
        nm (y3 + 1) fun x8 =>
        some (.inl (x7, x8))
      else
        nm ((y1 + 1)) fun x9 =>
        nm (y3 + 1) fun x10 =>
        some (.inl (x9, x10))

noncomputable def bd_X4_renewed_46 (fu : Nat) (w : WS) (y1 : Int32) (y2 : Int32) : Option ((Int32 × Int32) ⊕ (Int32)) :=
  nm (w.1 0 2) fun x1 =>
  if x1 ≤ y2 then
    some (.inr (y1))
  else
    bn (iter (fun q => bd_X4_renewed_56 fu w y2 q.1 q.2) fu (y1, (0 : Int32))) fun x2 =>
    nm (y2 + 1) fun x4 =>
    some (.inl (x2, x4))

noncomputable def f_X4_renewed (fu : Nat) (w : WS)  : Option (Int32 × WS) :=
  nm (w.1 0 9) fun x1 =>
  if x1 = 0 then
    some ((0 : Int32), w)
  else
    bn (iter (fun q => bd_X4_renewed_11 fu q.1 q.2) fu ((0 : Int32), w)) fun w2 =>
    bn (f_X4_findCosts fu w2) fun w4 =>
    bn (iter (fun q => bd_X4_renewed_46 fu w4 q.1 q.2) fu ((0 : Int32), (0 : Int32))) fun x5 =>
    some (x5, w4)

noncomputable def f_X4_setWeight (fu : Nat) (w : WS) (a1 : Int32) (a2 : Int32) : Option (Int32 × WS) :=
  nm (wI w 0 0 0) fun w1 =>
  bn (f_X4_isRoad fu w1 a1) fun x2 =>
  if x2 = 0 then
    bn2 (f_X4_fail fu w1 (1 : Int32)) fun x11 w10 =>
    some (x11, w10)
  else
    if a2 < 1 then
      bn2 (f_X4_fail fu w1 (2 : Int32)) fun x4 w3 =>
      some (x4, w3)
    else
      if a2 ≤ 10000 then
        ck (vp_in a1 64) <| nm (wI w1 3 (Int32.toNatClampNeg a1) a2) fun w5 =>
        bn2 (f_X4_renewed fu w5) fun x7 w6 =>
        some (x7, w6)
      else
        bn2 (f_X4_fail fu w1 (2 : Int32)) fun x9 w8 =>
        some (x9, w8)

noncomputable def f_X4_setOpen (fu : Nat) (w : WS) (a1 : Int32) (a2 : Int32) : Option (Int32 × WS) :=
  nm (wI w 0 0 0) fun w1 =>
  bn (f_X4_isRoad fu w1 a1) fun x2 =>
  if x2 = 0 then
    bn2 (f_X4_fail fu w1 (1 : Int32)) fun x7 w6 =>
    some (x7, w6)
  else
    ck (vp_in a1 64) <| nm (wI w1 4 (Int32.toNatClampNeg a1) (vp_nar .boolean a2)) fun w3 =>
    bn2 (f_X4_renewed fu w3) fun x5 w4 =>
    some (x5, w4)

noncomputable def f_X4_setTurn (fu : Nat) (w : WS) (a1 : Int32) (a2 : Int32) (a3 : Int32) : Option (Int32 × WS) :=
  nm (wI w 0 0 0) fun w1 =>
  bn (f_X4_isRoad fu w1 a1) fun x2 =>
  if x2 = 0 then
    bn2 (f_X4_fail fu w1 (1 : Int32)) fun x4 w3 =>
    some (x4, w3)
  else
    bn (f_X4_isRoad fu w1 a2) fun x5 =>
    if x5 = 0 then
      bn2 (f_X4_fail fu w1 (1 : Int32)) fun x17 w16 =>
      some (x17, w16)
    else
      bn (f_X4_follows fu w1 a1 a2) fun x6 =>
      if x6 = 0 then
        bn2 (f_X4_fail fu w1 (2 : Int32)) fun x8 w7 =>
        some (x8, w7)
      else
        if a3 < (-2) then
          bn2 (f_X4_fail fu w1 (2 : Int32)) fun x10 w9 =>
          some (x10, w9)
        else
          if a3 ≤ 1000 then
            ck (vp_in (((64 : Int32) * a1) + a2) 4096) <| nm (wI w1 5 (Int32.toNatClampNeg (((64 : Int32) * a1) + a2)) a3) fun w11 =>
            bn2 (f_X4_renewed fu w11) fun x13 w12 =>
            some (x13, w12)
          else
            bn2 (f_X4_fail fu w1 (2 : Int32)) fun x15 w14 =>
            some (x15, w14)

noncomputable def f_X4_setUTurn (fu : Nat) (w : WS) (a1 : Int32) : Option (Int32 × WS) :=
  nm (wI w 0 0 0) fun w1 =>
  if a1 < (-1) then
    bn2 (f_X4_fail fu w1 (1 : Int32)) fun x3 w2 =>
    some (x3, w2)
  else
    if a1 ≤ 1000 then
      nm (wI w1 0 8 a1) fun w4 =>
      bn2 (f_X4_renewed fu w4) fun x6 w5 =>
      some (x6, w5)
    else
      bn2 (f_X4_fail fu w1 (1 : Int32)) fun x8 w7 =>
      some (x8, w7)

noncomputable def f_X4_junctionCount (fu : Nat) (w : WS)  : Option (Int32 × WS) :=
  nm (wI w 0 0 0) fun w1 =>
  nm (w1.1 0 1) fun x2 =>
  some (x2, w1)

noncomputable def f_X4_roadCount (fu : Nat) (w : WS)  : Option (Int32 × WS) :=
  nm (wI w 0 0 0) fun w1 =>
  nm (w1.1 0 2) fun x2 =>
  some (x2, w1)

noncomputable def f_X4_weight (fu : Nat) (w : WS) (a1 : Int32) : Option (Int32 × WS) :=
  nm (wI w 0 0 0) fun w1 =>
  bn (f_X4_isRoad fu w1 a1) fun x2 =>
  if x2 = 0 then
    bn2 (f_X4_fail fu w1 (1 : Int32)) fun x4 w3 =>
    some (x4, w3)
  else
    ck (vp_in a1 64) <| nm (w1.1 3 (Int32.toNatClampNeg a1)) fun x5 =>
    some (x5, w1)

noncomputable def f_X4_isOpen (fu : Nat) (w : WS) (a1 : Int32) : Option (Int32 × WS) :=
  nm (wI w 0 0 0) fun w1 =>
  bn (f_X4_isRoad fu w1 a1) fun x2 =>
  if x2 = 0 then
    bn2 (f_X4_fail fu w1 (1 : Int32)) fun x4 w3 =>
    if x4 = 0 then
      some ((0 : Int32), w3)
    else
      some ((1 : Int32), w3)
  else
    ck (vp_in a1 64) <| nm (w1.1 4 (Int32.toNatClampNeg a1)) fun x5 =>
    ck (x5 = 0 ∨ x5 = 1) <|
    some (x5, w1)

noncomputable def f_X4_turnPenalty (fu : Nat) (w : WS) (a1 : Int32) (a2 : Int32) : Option (Int32 × WS) :=
  nm (wI w 0 0 0) fun w1 =>
  bn (f_X4_isRoad fu w1 a1) fun x2 =>
  if x2 = 0 then
    bn2 (f_X4_fail fu w1 (1 : Int32)) fun x4 w3 =>
    some (x4, w3)
  else
    bn (f_X4_isRoad fu w1 a2) fun x5 =>
    if x5 = 0 then
      bn2 (f_X4_fail fu w1 (1 : Int32)) fun x11 w10 =>
      some (x11, w10)
    else
      bn (f_X4_follows fu w1 a1 a2) fun x6 =>
      if x6 = 0 then
        bn2 (f_X4_fail fu w1 (2 : Int32)) fun x8 w7 =>
        some (x8, w7)
      else
        bn (f_X4_penalty fu w1 a1 a2) fun x9 =>
        some (x9, w1)

noncomputable def bd_X4_next_36 (fu : Nat) (w : WS) (y1 : Int32) (y2 : Int32) (y3 : Int32) (y4 : Int32) (y5 : Int32) (y6 : Int32) : Option ((Int32 × Int32 × Int32) ⊕ (Int32 × Int32)) :=
  nm (w.1 0 2) fun x1 =>
  if x1 ≤ y6 then
    some (.inr (y4, y5))
  else
    ck (vp_in y6 64) <| nm (w.1 6 (Int32.toNatClampNeg y6)) fun x2 =>
    if x2 = (-1) then
      ck (vp_in (((64 : Int32) * y6) + y3) 4096) <| nm (w.1 8 (Int32.toNatClampNeg (((64 : Int32) * y6) + y3))) fun x3 =>
      if x3 = 0 then
        nm ((y4 + 0)) fun x4 =>
        ck (vp_in (((64 : Int32) * y3) + y6) 4096) <| nm (w.1 8 (Int32.toNatClampNeg (((64 : Int32) * y3) + y6))) fun x5 =>
        if x5 = 0 then
          nm ((y5 + 0)) fun x6 =>
          nm (y6 + 1) fun x7 =>
          some (.inl (x4, x6, x7))
        else
          nm ((y5 + 1)) fun x8 =>
          nm (y6 + 1) fun x9 =>
          some (.inl (x4, x8, x9))
      else
        nm ((y4 + 1)) fun x10 =>
        ck (vp_in (((64 : Int32) * y3) + y6) 4096) <| nm (w.1 8 (Int32.toNatClampNeg (((64 : Int32) * y3) + y6))) fun x11 =>
        if x11 = 0 then
          nm ((y5 + 0)) fun x12 =>
          nm (y6 + 1) fun x13 =>
          some (.inl (x10, x12, x13))
        else
          nm ((y5 + 1)) fun x14 =>
          nm (y6 + 1) fun x15 =>
          some (.inl (x10, x14, x15))
    else
      nm (y6 + 1) fun x16 =>
      some (.inl (y4, y5, x16))

noncomputable def bd_X4_next_6 (fu : Nat) (w : WS) (y1 : Int32) (y2 : Int32) (y3 : Int32) : Option ((Int32 × Int32 × Int32) ⊕ (Int32)) :=
  nm (w.1 0 2) fun x1 =>
  if x1 ≤ y3 then
    some (.inr (y1))
  else
    ck (vp_in y3 64) <| nm (w.1 6 (Int32.toNatClampNeg y3)) fun x2 =>
    if x2 = (-1) then
      bn2 (iter (fun q => bd_X4_next_36 fu w y1 y2 y3 q.1 q.2.1 q.2.2) fu ((0 : Int32), (0 : Int32), (0 : Int32))) fun x3 x4 =>
      if y1 = (-1) then
        nm ((x3 * x4)) fun x6 =>
        nm (y3 + 1) fun x7 =>
        some (.inl (y3, x6, x7))
      else
        if (x3 * x4) < y2 then
          nm ((x3 * x4)) fun x8 =>
          nm (y3 + 1) fun x9 =>
          some (.inl (y3, x8, x9))
        else
          nm (y3 + 1) fun x10 =>
          some (.inl (y1, y2, x10))
    else
      nm (y3 + 1) fun x11 =>
      some (.inl (y1, y2, x11))

noncomputable def f_X4_next (fu : Nat) (w : WS)  : Option Int32 :=
  bn (iter (fun q => bd_X4_next_6 fu w q.1 q.2.1 q.2.2) fu (((-1) : Int32), (0 : Int32), (0 : Int32))) fun x1 =>
  some x1

noncomputable def bd_X4_take_27 (fu : Nat) (y1 : Int32) (y3 : Int32) (y4 : Int32) (w : WS) : Option ((Int32 × WS) ⊕ (WS)) :=
  nm (w.1 0 2) fun x1 =>
  if x1 ≤ y4 then
    some (.inr (w))
  else
    if y3 = y4 then
      nm (y4 + 1) fun x2 =>
      some (.inl (x2, w))
    else
      ck (vp_in y3 64) <| nm (w.1 6 (Int32.toNatClampNeg y3)) fun x3 =>
      if x3 = (-1) then
        ck (vp_in y4 64) <| nm (w.1 6 (Int32.toNatClampNeg y4)) fun x5 =>
        if x5 = (-1) then
          ck (vp_in (((64 : Int32) * y3) + y4) 4096) <| nm (w.1 8 (Int32.toNatClampNeg (((64 : Int32) * y3) + y4))) fun x7 =>
          if x7 = 0 then
            ck (vp_in (((64 : Int32) * y3) + y1) 4096) <| nm (w.1 8 (Int32.toNatClampNeg (((64 : Int32) * y3) + y1))) fun x8 =>
            if x8 = 0 then
              nm (y4 + 1) fun x9 =>
              some (.inl (x9, w))
            else
              ck (vp_in (((64 : Int32) * y1) + y4) 4096) <| nm (w.1 8 (Int32.toNatClampNeg (((64 : Int32) * y1) + y4))) fun x10 =>
              if x10 = 0 then
                nm (y4 + 1) fun x17 =>
                some (.inl (x17, w))
              else
                ck (vp_in (((64 : Int32) * y3) + y4) 4096) <| nm (wI w 8 (Int32.toNatClampNeg (((64 : Int32) * y3) + y4)) (vp_nar .boolean 1)) fun w11 =>
                nm (w11.1 0 14) fun x12 =>
                nm (wI w11 0 14 (x12 + 1)) fun w13 =>
                nm (w13.1 0 13) fun x14 =>
                nm (wI w13 0 13 (x14 + 1)) fun w15 =>
                nm (y4 + 1) fun x16 =>
                some (.inl (x16, w15))
          else
            nm (y4 + 1) fun x18 =>
            some (.inl (x18, w))
        else
          nm (y4 + 1) fun x6 =>
          some (.inl (x6, w))
      else
        nm (y4 + 1) fun x4 =>
        some (.inl (x4, w))

noncomputable def bd_X4_take_16 (fu : Nat) (y1 : Int32) (y3 : Int32) (w : WS) : Option ((Int32 × WS) ⊕ (WS)) :=
  nm (w.1 0 2) fun x1 =>
  if x1 ≤ y3 then
    some (.inr (w))
  else
    bn (iter (fun q => bd_X4_take_27 fu y1 y3 q.1 q.2) fu ((0 : Int32), w)) fun w2 =>
    nm (y3 + 1) fun x4 =>
    some (.inl (x4, w2))

noncomputable def f_X4_take (fu : Nat) (w : WS) (a1 : Int32) (a2 : Int32) : Option WS :=
  ck (vp_in a1 64) <| nm (wI w 6 (Int32.toNatClampNeg a1) a2) fun w1 =>
  ck (vp_in a2 64) <| nm (wI w1 7 (Int32.toNatClampNeg a2) a1) fun w2 =>
  bn (iter (fun q => bd_X4_take_16 fu a1 q.1 q.2) fu ((0 : Int32), w2)) fun w3 =>
  some w3

noncomputable def bd_X4_prepare_59 (fu : Nat) (y1 : Int32) (y2 : Int32) (w : WS) : Option ((Int32 × WS) ⊕ (WS)) :=
  nm (w.1 0 2) fun x1 =>
  if x1 ≤ y2 then
    some (.inr (w))
  else
    bn (f_X4_follows fu w y1 y2) fun x2 =>
    ck (vp_in (((64 : Int32) * y1) + y2) 4096) <| nm (wI w 8 (Int32.toNatClampNeg (((64 : Int32) * y1) + y2)) (vp_nar .boolean x2)) fun w3 =>
    nm (w3.1 0 14) fun x4 =>
    bn (f_X4_follows fu w3 y1 y2) fun x5 =>
    if x5 = 0 then
      nm (wI w3 0 14 (x4 + 0)) fun w6 =>
      nm (y2 + 1) fun x7 =>
      some (.inl (x7, w6))
    else
      nm (wI w3 0 14 (x4 + 1)) fun w8 =>
      nm (y2 + 1) fun x9 =>
      some (.inl (x9, w8))

noncomputable def bd_X4_prepare_42 (fu : Nat)  (y1 : Int32) (w : WS) : Option ((Int32 × WS) ⊕ (WS)) :=
  nm (w.1 0 2) fun x1 =>
  if x1 ≤ y1 then
    some (.inr (w))
  else
    ck (vp_in y1 64) <| nm (wI w 6 (Int32.toNatClampNeg y1) (-1)) fun w2 =>
    bn (iter (fun q => bd_X4_prepare_59 fu y1 q.1 q.2) fu ((0 : Int32), w2)) fun w3 =>
    nm (y1 + 1) fun x5 =>
    some (.inl (x5, w3))

noncomputable def bd_X4_prepare_121 (fu : Nat)  (y1 : Int32) (w : WS) : Option ((Int32 × WS) ⊕ (WS)) :=
  nm (w.1 0 2) fun x1 =>
  if x1 ≤ y1 then
    some (.inr (w))
  else
    bn (f_X4_next fu w) fun x2 =>
    bn (f_X4_take fu w x2 y1) fun w3 =>
    nm (y1 + 1) fun x4 =>
    some (.inl (x4, w3))

noncomputable def f_X4_prepare (fu : Nat) (w : WS)  : Option (Int32 × WS) :=
  nm (wI w 0 0 0) fun w1 =>
  nm (w1.1 0 2) fun x2 =>
  if x2 = 0 then
    bn2 (f_X4_fail fu w1 (1 : Int32)) fun x15 w14 =>
    some (x15, w14)
  else
    nm (w1.1 0 9) fun x3 =>
    if x3 = 0 then
      nm (wI w1 0 14 0) fun w4 =>
      nm (wI w4 0 13 0) fun w5 =>
      bn (iter (fun q => bd_X4_prepare_42 fu q.1 q.2) fu ((0 : Int32), w5)) fun w6 =>
      bn (iter (fun q => bd_X4_prepare_121 fu q.1 q.2) fu ((0 : Int32), w6)) fun w8 =>
      nm (wI w8 0 9 1) fun w10 =>
      bn (f_X4_findCosts fu w10) fun w11 =>
      nm (w11.1 0 13) fun x12 =>
      some (x12, w11)
    else
      nm (w1.1 0 13) fun x13 =>
      some (x13, w1)

noncomputable def f_X4_isPrepared (fu : Nat) (w : WS)  : Option (Int32 × WS) :=
  nm (wI w 0 0 0) fun w1 =>
  nm (w1.1 0 9) fun x2 =>
  ck (x2 = 0 ∨ x2 = 1) <|
  some (x2, w1)

noncomputable def f_X4_position (fu : Nat) (w : WS) (a1 : Int32) : Option (Int32 × WS) :=
  nm (wI w 0 0 0) fun w1 =>
  nm (w1.1 0 9) fun x2 =>
  if x2 = 0 then
    bn2 (f_X4_fail fu w1 (1 : Int32)) fun x8 w7 =>
    some (x8, w7)
  else
    bn (f_X4_isRoad fu w1 a1) fun x3 =>
    if x3 = 0 then
      bn2 (f_X4_fail fu w1 (2 : Int32)) fun x5 w4 =>
      some (x5, w4)
    else
      ck (vp_in a1 64) <| nm (w1.1 6 (Int32.toNatClampNeg a1)) fun x6 =>
      some (x6, w1)

noncomputable def f_X4_arcCount (fu : Nat) (w : WS)  : Option (Int32 × WS) :=
  nm (wI w 0 0 0) fun w1 =>
  nm (w1.1 0 14) fun x2 =>
  some (x2, w1)

noncomputable def f_X4_hasArc (fu : Nat) (w : WS) (a1 : Int32) (a2 : Int32) : Option (Int32 × WS) :=
  nm (wI w 0 0 0) fun w1 =>
  nm (w1.1 0 9) fun x2 =>
  if x2 = 0 then
    bn2 (f_X4_fail fu w1 (1 : Int32)) fun x11 w10 =>
    if x11 = 0 then
      some ((0 : Int32), w10)
    else
      some ((1 : Int32), w10)
  else
    bn (f_X4_isRoad fu w1 a1) fun x3 =>
    if x3 = 0 then
      bn2 (f_X4_fail fu w1 (2 : Int32)) fun x5 w4 =>
      if x5 = 0 then
        some ((0 : Int32), w4)
      else
        some ((1 : Int32), w4)
    else
      bn (f_X4_isRoad fu w1 a2) fun x6 =>
      if x6 = 0 then
        bn2 (f_X4_fail fu w1 (2 : Int32)) fun x9 w8 =>
        if x9 = 0 then
          some ((0 : Int32), w8)
        else
          some ((1 : Int32), w8)
      else
        ck (vp_in (((64 : Int32) * a1) + a2) 4096) <| nm (w1.1 8 (Int32.toNatClampNeg (((64 : Int32) * a1) + a2))) fun x7 =>
        ck (x7 = 0 ∨ x7 = 1) <|
        some (x7, w1)

noncomputable def f_X4_costOf (fu : Nat) (w : WS) (a1 : Int32) (a2 : Int32) : Option Int32 :=
  ck (vp_in (((64 : Int32) * a1) + a2) 4096) <| nm (w.2 9 (Int32.toNatClampNeg (((64 : Int32) * a1) + a2))) fun x1 =>
  if 0 ≤ (lg_cmp x1 1000000000000) then
    some ((-1) : Int32)
  else
    ck (vp_in (((64 : Int32) * a1) + a2) 4096) <| nm (w.2 9 (Int32.toNatClampNeg (((64 : Int32) * a1) + a2))) fun x2 =>
    some (Int64.toInt32 x2)

noncomputable def f_X4_arcCost (fu : Nat) (w : WS) (a1 : Int32) (a2 : Int32) : Option (Int32 × WS) :=
  nm (wI w 0 0 0) fun w1 =>
  nm (w1.1 0 9) fun x2 =>
  if x2 = 0 then
    bn2 (f_X4_fail fu w1 (1 : Int32)) fun x14 w13 =>
    some (x14, w13)
  else
    bn (f_X4_isRoad fu w1 a1) fun x3 =>
    if x3 = 0 then
      bn2 (f_X4_fail fu w1 (2 : Int32)) fun x5 w4 =>
      some (x5, w4)
    else
      bn (f_X4_isRoad fu w1 a2) fun x6 =>
      if x6 = 0 then
        bn2 (f_X4_fail fu w1 (2 : Int32)) fun x12 w11 =>
        some (x12, w11)
      else
        ck (vp_in (((64 : Int32) * a1) + a2) 4096) <| nm (w1.1 8 (Int32.toNatClampNeg (((64 : Int32) * a1) + a2))) fun x7 =>
        if x7 = 0 then
          bn2 (f_X4_fail fu w1 (3 : Int32)) fun x9 w8 =>
          some (x9, w8)
        else
          bn (f_X4_costOf fu w1 a1 a2) fun x10 =>
          some (x10, w1)

noncomputable def f_X4_improves (fu : Nat) (w : WS) (a1 : Int32) (a2 : Int32) : Option (Int32 × WS) :=
  bn (f_X4_step fu w a1 a2) fun x1 =>
  if (lg_cmp x1 1000000000000) = 0 then
    some ((0 : Int32), w)
  else
    ck (vp_in a2 64) <| nm (w.2 20 (Int32.toNatClampNeg a2)) fun x2 =>
    if (lg_cmp x2 1000000000000) = 0 then
      some ((0 : Int32), w)
    else
      ck (vp_in a1 64) <| nm (w.1 3 (Int32.toNatClampNeg a1)) fun x3 =>
      bn (f_X4_penalty fu w a1 a2) fun x4 =>
      ck (vp_in a2 64) <| nm (w.2 20 (Int32.toNatClampNeg a2)) fun x5 =>
      nm (((Int32.toInt64 (x3 + x4)) + x5)) fun x6 =>
      ck (vp_in a1 64) <| nm (w.2 20 (Int32.toNatClampNeg a1)) fun x7 =>
      if 0 < (lg_cmp x6 x7) then
        some ((0 : Int32), w)
      else
        ck (vp_in a1 64) <| nm (w.2 20 (Int32.toNatClampNeg a1)) fun x8 =>
        if (lg_cmp x6 x8) = 0 then
          ck (vp_in a2 64) <| nm (w.1 21 (Int32.toNatClampNeg a2)) fun x12 =>
          ck (vp_in a1 64) <| nm (w.1 21 (Int32.toNatClampNeg a1)) fun x13 =>
          if (x12 + 1) < x13 then
            ck (vp_in a1 64) <| nm (wL w 20 (Int32.toNatClampNeg a1) x6) fun w14 =>
            ck (vp_in a2 64) <| nm (w14.1 21 (Int32.toNatClampNeg a2)) fun x15 =>
            ck (vp_in a1 64) <| nm (wI w14 21 (Int32.toNatClampNeg a1) (x15 + 1)) fun w16 =>
            some ((1 : Int32), w16)
          else
            some ((0 : Int32), w)
        else
          ck (vp_in a1 64) <| nm (wL w 20 (Int32.toNatClampNeg a1) x6) fun w9 =>
          ck (vp_in a2 64) <| nm (w9.1 21 (Int32.toNatClampNeg a2)) fun x10 =>
          ck (vp_in a1 64) <| nm (wI w9 21 (Int32.toNatClampNeg a1) (x10 + 1)) fun w11 =>
          some ((1 : Int32), w11)

noncomputable def bd_X4_findBehind_2 (fu : Nat) (y1 : Int32) (y2 : Int32) (w : WS) : Option ((Int32 × WS) ⊕ (WS)) :=
  nm (w.1 0 2) fun x1 =>
  if x1 ≤ y2 then
    some (.inr (w))
  else
    ck (vp_in y2 64) <| nm (w.1 4 (Int32.toNatClampNeg y2)) fun x2 =>
    if x2 = 0 then
      ck (vp_in y2 64) <| nm (wL w 20 (Int32.toNatClampNeg y2) 1000000000000) fun w3 =>
      ck (vp_in y2 64) <| nm (wI w3 21 (Int32.toNatClampNeg y2) 1) fun w4 =>
      nm (y2 + 1) fun x5 =>
      some (.inl (x5, w4))
    else
      ck (vp_in y2 64) <| nm (w.1 2 (Int32.toNatClampNeg y2)) fun x6 =>
      if x6 = y1 then
        ck (vp_in y2 64) <| nm (w.1 3 (Int32.toNatClampNeg y2)) fun x10 =>
        ck (vp_in y2 64) <| nm (wL w 20 (Int32.toNatClampNeg y2) (Int32.toInt64 x10)) fun w11 =>
        ck (vp_in y2 64) <| nm (wI w11 21 (Int32.toNatClampNeg y2) 1) fun w12 =>
        nm (y2 + 1) fun x13 =>
        some (.inl (x13, w12))
      else
        ck (vp_in y2 64) <| nm (wL w 20 (Int32.toNatClampNeg y2) 1000000000000) fun w7 =>
        ck (vp_in y2 64) <| nm (wI w7 21 (Int32.toNatClampNeg y2) 1) fun w8 =>
        nm (y2 + 1) fun x9 =>
        some (.inl (x9, w8))

noncomputable def bd_X4_findBehind_82 (fu : Nat) (y3 : Int32) (y2 : Int32) (y4 : Int32) (w : WS) : Option ((Int32 × Int32 × WS) ⊕ (Int32 × WS)) :=
  nm (w.1 0 2) fun x1 =>
  if x1 ≤ y4 then
    some (.inr (y2, w))
  else
    bn2 (f_X4_improves fu w y3 y4) fun x3 w2 =>
    if x3 = 0 then
      if y2 = 0 then
        nm (y4 + 1) fun x5 =>
        some (.inl ((0 : Int32), x5, w2))
      else
        nm (y4 + 1) fun x6 =>
        some (.inl ((1 : Int32), x6, w2))
    else
      nm (y4 + 1) fun x4 =>
      some (.inl ((1 : Int32), x4, w2))

noncomputable def bd_X4_findBehind_71 (fu : Nat)  (y2 : Int32) (y3 : Int32) (w : WS) : Option ((Int32 × Int32 × WS) ⊕ (Int32 × WS)) :=
  nm (w.1 0 2) fun x1 =>
  if x1 ≤ y3 then
    some (.inr (y2, w))
  else
    bn2 (iter (fun q => bd_X4_findBehind_82 fu y3 q.1 q.2.1 q.2.2) fu (y2, (0 : Int32), w)) fun x2 w3 =>
    nm (y3 + 1) fun x5 =>
    some (.inl (x2, x5, w3))

noncomputable def bd_X4_findBehind_63 (fu : Nat)  (y2 : Int32) (w : WS) : Option ((Int32 × WS) ⊕ (WS)) :=
  if y2 = 0 then
    some (.inr (w))
  else
    bn2 (iter (fun q => bd_X4_findBehind_71 fu q.1 q.2.1 q.2.2) fu ((0 : Int32), (0 : Int32), w)) fun x1 w2 =>
    some (.inl (x1, w2))

noncomputable def f_X4_findBehind (fu : Nat) (w : WS) (a1 : Int32) : Option WS :=
  bn (iter (fun q => bd_X4_findBehind_2 fu a1 q.1 q.2) fu ((0 : Int32), w)) fun w1 =>
  bn (iter (fun q => bd_X4_findBehind_63 fu q.1 q.2) fu ((1 : Int32), w1)) fun w3 =>
  some w3

noncomputable def bd_X4_firstRoad_4 (fu : Nat) (w : WS) (y1 : Int32) (y2 : Int32) (y3 : Int32) : Option ((Int32 × Int32) ⊕ (Int32)) :=
  nm (w.1 0 2) fun x1 =>
  if x1 ≤ y3 then
    some (.inr (y2))
  else
    ck (vp_in y3 64) <| nm (w.1 1 (Int32.toNatClampNeg y3)) fun x2 =>
    if x2 = y1 then
      ck (vp_in y3 64) <| nm (w.2 20 (Int32.toNatClampNeg y3)) fun x4 =>
      if (lg_cmp x4 1000000000000) = 0 then
        nm (y3 + 1) fun x16 =>
        some (.inl (y2, x16))
      else
        if y2 = (-1) then
          nm (y3 + 1) fun x5 =>
          some (.inl (y3, x5))
        else
          ck (vp_in y3 64) <| nm (w.2 20 (Int32.toNatClampNeg y3)) fun x6 =>
          ck (vp_in y2 64) <| nm (w.2 20 (Int32.toNatClampNeg y2)) fun x7 =>
          if (lg_cmp x6 x7) < 0 then
            nm (y3 + 1) fun x8 =>
            some (.inl (y3, x8))
          else
            ck (vp_in y3 64) <| nm (w.2 20 (Int32.toNatClampNeg y3)) fun x9 =>
            ck (vp_in y2 64) <| nm (w.2 20 (Int32.toNatClampNeg y2)) fun x10 =>
            if (lg_cmp x9 x10) = 0 then
              ck (vp_in y3 64) <| nm (w.1 21 (Int32.toNatClampNeg y3)) fun x12 =>
              ck (vp_in y2 64) <| nm (w.1 21 (Int32.toNatClampNeg y2)) fun x13 =>
              if x13 ≤ x12 then
                nm (y3 + 1) fun x14 =>
                some (.inl (y2, x14))
              else
                nm (y3 + 1) fun x15 =>
                some (.inl (y3, x15))
            else
              nm (y3 + 1) fun x11 =>
              some (.inl (y2, x11))
    else
      nm (y3 + 1) fun x3 =>
      some (.inl (y2, x3))

noncomputable def f_X4_firstRoad (fu : Nat) (w : WS) (a1 : Int32) : Option Int32 :=
  bn (iter (fun q => bd_X4_firstRoad_4 fu w a1 q.1 q.2) fu (((-1) : Int32), (0 : Int32))) fun x1 =>
  some x1

noncomputable def f_X4_distanceBetween (fu : Nat) (w : WS) (a1 : Int32) (a2 : Int32) : Option (Int32 × WS) :=
  if a1 = a2 then
    some ((0 : Int32), w)
  else
    bn (f_X4_findBehind fu w a2) fun w1 =>
    bn (f_X4_firstRoad fu w1 a1) fun x2 =>
    if x2 = (-1) then
      some (((-1) : Int32), w1)
    else
      ck (vp_in x2 64) <| nm (w1.2 20 (Int32.toNatClampNeg x2)) fun x3 =>
      some ((Int64.toInt32 x3), w1)

noncomputable def f_X4_lookedAt (fu : Nat) (w : WS) (a1 : Int32) (a2 : Int32) : Option Int32 :=
  nm (w.1 0 9) fun x1 =>
  if x1 = 0 then
    some (1 : Int32)
  else
    bn (f_X4_isJunction fu w a1) fun x2 =>
    if x2 = 0 then
      some (2 : Int32)
    else
      bn (f_X4_isJunction fu w a2) fun x3 =>
      if x3 = 0 then
        some (2 : Int32)
      else
        some (0 : Int32)

noncomputable def f_X4_distance (fu : Nat) (w : WS) (a1 : Int32) (a2 : Int32) : Option (Int32 × WS) :=
  bn (f_X4_lookedAt fu w a1 a2) fun x1 =>
  nm (wI w 0 0 x1) fun w2 =>
  nm (w2.1 0 0) fun x3 =>
  if x3 = 0 then
    bn2 (f_X4_distanceBetween fu w2 a1 a2) fun x5 w4 =>
    some (x5, w4)
  else
    some ((0 : Int32), w2)

noncomputable def f_X4_distanceBehind (fu : Nat) (w : WS) (a1 : Int32) (a2 : Int32) : Option (Int32 × WS) :=
  nm (w.1 0 9) fun x1 =>
  if x1 = 0 then
    nm (wI w 0 0 1) fun w22 =>
    nm (w22.1 0 0) fun x23 =>
    if x23 = 0 then
      bn (f_X4_findBehind fu w22 a2) fun w24 =>
      ck (vp_in a1 64) <| nm (w24.2 20 (Int32.toNatClampNeg a1)) fun x25 =>
      if (lg_cmp x25 1000000000000) = 0 then
        some (((-1) : Int32), w24)
      else
        ck (vp_in a1 64) <| nm (w24.2 20 (Int32.toNatClampNeg a1)) fun x26 =>
        ck (vp_in a1 64) <| nm (w24.1 3 (Int32.toNatClampNeg a1)) fun x27 =>
        some (((Int64.toInt32 x26) - x27), w24)
    else
      some ((0 : Int32), w22)
  else
    bn (f_X4_isRoad fu w a1) fun x2 =>
    if x2 = 0 then
      nm (wI w 0 0 2) fun w3 =>
      nm (w3.1 0 0) fun x4 =>
      if x4 = 0 then
        bn (f_X4_findBehind fu w3 a2) fun w5 =>
        ck (vp_in a1 64) <| nm (w5.2 20 (Int32.toNatClampNeg a1)) fun x6 =>
        if (lg_cmp x6 1000000000000) = 0 then
          some (((-1) : Int32), w5)
        else
          ck (vp_in a1 64) <| nm (w5.2 20 (Int32.toNatClampNeg a1)) fun x7 =>
          ck (vp_in a1 64) <| nm (w5.1 3 (Int32.toNatClampNeg a1)) fun x8 =>
          some (((Int64.toInt32 x7) - x8), w5)
      else
        some ((0 : Int32), w3)
    else
      bn (f_X4_isJunction fu w a2) fun x9 =>
      if x9 = 0 then
        nm (wI w 0 0 2) fun w16 =>
        nm (w16.1 0 0) fun x17 =>
        if x17 = 0 then
          bn (f_X4_findBehind fu w16 a2) fun w18 =>
          ck (vp_in a1 64) <| nm (w18.2 20 (Int32.toNatClampNeg a1)) fun x19 =>
          if (lg_cmp x19 1000000000000) = 0 then
            some (((-1) : Int32), w18)
          else
            ck (vp_in a1 64) <| nm (w18.2 20 (Int32.toNatClampNeg a1)) fun x20 =>
            ck (vp_in a1 64) <| nm (w18.1 3 (Int32.toNatClampNeg a1)) fun x21 =>
            some (((Int64.toInt32 x20) - x21), w18)
        else
          some ((0 : Int32), w16)
      else
        nm (wI w 0 0 0) fun w10 =>
        nm (w10.1 0 0) fun x11 =>
        if x11 = 0 then
          bn (f_X4_findBehind fu w10 a2) fun w12 =>
          ck (vp_in a1 64) <| nm (w12.2 20 (Int32.toNatClampNeg a1)) fun x13 =>
          if (lg_cmp x13 1000000000000) = 0 then
            some (((-1) : Int32), w12)
          else
            ck (vp_in a1 64) <| nm (w12.2 20 (Int32.toNatClampNeg a1)) fun x14 =>
            ck (vp_in a1 64) <| nm (w12.1 3 (Int32.toNatClampNeg a1)) fun x15 =>
            some (((Int64.toInt32 x14) - x15), w12)
        else
          some ((0 : Int32), w10)

noncomputable def bd_X4_nextRoad_2 (fu : Nat) (w : WS) (y1 : Int32) (y2 : Int32) : Option ((Int32) ⊕ (Int32)) :=
  bn (f_X4_step fu w y1 y2) fun x1 =>
  if (lg_cmp x1 1000000000000) = 0 then
    nm (y2 + 1) fun x2 =>
    some (.inl (x2))
  else
    ck (vp_in y2 64) <| nm (w.2 20 (Int32.toNatClampNeg y2)) fun x3 =>
    if (lg_cmp x3 1000000000000) = 0 then
      nm (y2 + 1) fun x4 =>
      some (.inl (x4))
    else
      ck (vp_in y1 64) <| nm (w.1 3 (Int32.toNatClampNeg y1)) fun x5 =>
      bn (f_X4_penalty fu w y1 y2) fun x6 =>
      ck (vp_in y2 64) <| nm (w.2 20 (Int32.toNatClampNeg y2)) fun x7 =>
      ck (vp_in y1 64) <| nm (w.2 20 (Int32.toNatClampNeg y1)) fun x8 =>
      if (lg_cmp ((Int32.toInt64 (x5 + x6)) + x7) x8) = 0 then
        ck (vp_in y2 64) <| nm (w.1 21 (Int32.toNatClampNeg y2)) fun x10 =>
        ck (vp_in y1 64) <| nm (w.1 21 (Int32.toNatClampNeg y1)) fun x11 =>
        if (x10 + 1) = x11 then
          some (.inr (y2))
        else
          nm (y2 + 1) fun x12 =>
          some (.inl (x12))
      else
        nm (y2 + 1) fun x9 =>
        some (.inl (x9))

noncomputable def f_X4_nextRoad (fu : Nat) (w : WS) (a1 : Int32) : Option Int32 :=
  bn (iter (fun q => bd_X4_nextRoad_2 fu w a1 q) fu ((0 : Int32))) fun x1 =>
  some x1

noncomputable def bd_X4_route_74 (fu : Nat) (y2 : Int32) (y4 : Int32) (w : WS) : Option ((Int32 × WS) ⊕ (WS)) :=
  ck (vp_in y4 64) <| nm (w.1 2 (Int32.toNatClampNeg y4)) fun x1 =>
  if x1 = y2 then
    some (.inr (w))
  else
    bn (f_X4_nextRoad fu w y4) fun x2 =>
    nm (w.1 0 26) fun x3 =>
    ck (vp_in x3 128) <| nm (wI w 18 (Int32.toNatClampNeg x3) x2) fun w4 =>
    nm (w4.1 0 26) fun x5 =>
    nm (wI w4 0 26 (x5 + 1)) fun w6 =>
    some (.inl (x2, w6))

noncomputable def f_X4_route (fu : Nat) (w : WS) (a1 : Int32) (a2 : Int32) : Option (Int32 × WS) :=
  bn (f_X4_lookedAt fu w a1 a2) fun x1 =>
  nm (wI w 0 0 x1) fun w2 =>
  nm (w2.1 0 0) fun x3 =>
  if x3 = 0 then
    bn2 (f_X4_distanceBetween fu w2 a1 a2) fun x5 w4 =>
    if x5 = (-1) then
      bn2 (f_X4_fail fu w4 (3 : Int32)) fun x15 w14 =>
      some (x15, w14)
    else
      nm (wI w4 0 27 x5) fun w6 =>
      nm (wI w6 0 26 0) fun w7 =>
      if a1 = a2 then
        some ((0 : Int32), w7)
      else
        bn (f_X4_firstRoad fu w7 a1) fun x8 =>
        ck (vp_in 0 128) <| nm (wI w7 18 (Int32.toNatClampNeg 0) x8) fun w9 =>
        nm (wI w9 0 26 1) fun w10 =>
        bn (iter (fun q => bd_X4_route_74 fu a2 q.1 q.2) fu (x8, w10)) fun w11 =>
        nm (w11.1 0 26) fun x13 =>
        some (x13, w11)
  else
    some ((0 : Int32), w2)

noncomputable def f_X4_routeRoad (fu : Nat) (w : WS) (a1 : Int32) : Option (Int32 × WS) :=
  nm (wI w 0 0 0) fun w1 =>
  if a1 < 0 then
    bn2 (f_X4_fail fu w1 (1 : Int32)) fun x3 w2 =>
    some (x3, w2)
  else
    nm (w1.1 0 26) fun x4 =>
    if x4 ≤ a1 then
      bn2 (f_X4_fail fu w1 (1 : Int32)) fun x6 w5 =>
      some (x6, w5)
    else
      ck (vp_in a1 128) <| nm (w1.1 18 (Int32.toNatClampNeg a1)) fun x7 =>
      some (x7, w1)

noncomputable def f_X4_routeCost (fu : Nat) (w : WS)  : Option (Int32 × WS) :=
  nm (wI w 0 0 0) fun w1 =>
  nm (w1.1 0 27) fun x2 =>
  some (x2, w1)

noncomputable def f_X4_reached (fu : Nat) (w : WS) (a1 : Int32) : Option (Int32 × WS) :=
  nm (wI w 0 0 0) fun w1 =>
  if a1 < 0 then
    bn2 (f_X4_fail fu w1 (1 : Int32)) fun x3 w2 =>
    some (x3, w2)
  else
    nm (w1.1 0 29) fun x4 =>
    if x4 ≤ a1 then
      bn2 (f_X4_fail fu w1 (1 : Int32)) fun x6 w5 =>
      some (x6, w5)
    else
      ck (vp_in a1 32) <| nm (w1.1 19 (Int32.toNatClampNeg a1)) fun x7 =>
      some (x7, w1)

noncomputable def bd_X4_averageDistance_27 (fu : Nat) (y1 : Int32) (y2 : Int64) (y4 : Int32) (y5 : Int32) (w : WS) : Option ((Int64 × Int32 × Int32 × WS) ⊕ (Int64 × Int32 × WS)) :=
  nm (w.1 0 1) fun x1 =>
  if x1 ≤ y5 then
    some (.inr (y2, y4, w))
  else
    bn2 (f_X4_distanceBetween fu w y1 y5) fun x3 w2 =>
    if y5 = y1 then
      nm (y5 + 1) fun x4 =>
      some (.inl (y2, y4, x4, w2))
    else
      if x3 = (-1) then
        nm (y5 + 1) fun x8 =>
        some (.inl (y2, y4, x8, w2))
      else
        nm ((y2 + (Int32.toInt64 x3))) fun x5 =>
        nm (y4 + 1) fun x6 =>
        nm (y5 + 1) fun x7 =>
        some (.inl (x5, x6, x7, w2))

noncomputable def f_X4_averageDistance (fu : Nat) (w : WS) (a1 : Int32) : Option (UInt64 × WS) :=
  bn (f_X4_lookedAt fu w a1 a1) fun x1 =>
  nm (wI w 0 0 x1) fun w2 =>
  nm (w2.1 0 0) fun x3 =>
  if x3 = 0 then
    bn3 (iter (fun q => bd_X4_averageDistance_27 fu a1 q.1 q.2.1 q.2.2.1 q.2.2.2) fu ((0 : Int64), (0 : Int32), (0 : Int32), w2)) fun x4 x5 w6 =>
    if x5 = 0 then
      some (FP.dconst0, w6)
    else
      ck (vf_n64 (FP.ddiv (FP.l2d x4) (FP.i2d x5))) <| nm (FP.ddiv (FP.l2d x4) (FP.i2d x5)) fun x8 =>
      some (x8, w6)
  else
    some (FP.dconst0, w2)

noncomputable def f_X4_detour (fu : Nat) (w : WS) (a1 : Int32) (a2 : Int32) (a3 : Int32) : Option (Int32 × WS) :=
  nm (w.1 0 9) fun x1 =>
  if x1 = 0 then
    nm (wI w 0 0 1) fun w49 =>
    nm (w49.1 0 0) fun x50 =>
    if x50 = 0 then
      bn2 (f_X4_distanceBetween fu w49 a1 a2) fun x52 w51 =>
      if x52 = (-1) then
        bn2 (f_X4_fail fu w51 (3 : Int32)) fun x59 w58 =>
        some (x59, w58)
      else
        ck (vp_in a3 64) <| nm (w51.1 4 (Int32.toNatClampNeg a3)) fun x53 =>
        ck (vp_in a3 64) <| nm (wI w51 4 (Int32.toNatClampNeg a3) (vp_nar .boolean 0)) fun w54 =>
        bn2 (f_X4_distanceBetween fu w54 a1 a2) fun x56 w55 =>
        ck (vp_in a3 64) <| nm (wI w55 4 (Int32.toNatClampNeg a3) (vp_nar .boolean x53)) fun w57 =>
        if x56 = (-1) then
          some (((-1) : Int32), w57)
        else
          some ((x56 - x52), w57)
    else
      some ((0 : Int32), w49)
  else
    bn (f_X4_isJunction fu w a1) fun x2 =>
    if x2 = 0 then
      nm (wI w 0 0 2) fun w3 =>
      nm (w3.1 0 0) fun x4 =>
      if x4 = 0 then
        bn2 (f_X4_distanceBetween fu w3 a1 a2) fun x6 w5 =>
        if x6 = (-1) then
          bn2 (f_X4_fail fu w5 (3 : Int32)) fun x13 w12 =>
          some (x13, w12)
        else
          ck (vp_in a3 64) <| nm (w5.1 4 (Int32.toNatClampNeg a3)) fun x7 =>
          ck (vp_in a3 64) <| nm (wI w5 4 (Int32.toNatClampNeg a3) (vp_nar .boolean 0)) fun w8 =>
          bn2 (f_X4_distanceBetween fu w8 a1 a2) fun x10 w9 =>
          ck (vp_in a3 64) <| nm (wI w9 4 (Int32.toNatClampNeg a3) (vp_nar .boolean x7)) fun w11 =>
          if x10 = (-1) then
            some (((-1) : Int32), w11)
          else
            some ((x10 - x6), w11)
      else
        some ((0 : Int32), w3)
    else
      bn (f_X4_isJunction fu w a2) fun x14 =>
      if x14 = 0 then
        nm (wI w 0 0 2) fun w15 =>
        nm (w15.1 0 0) fun x16 =>
        if x16 = 0 then
          bn2 (f_X4_distanceBetween fu w15 a1 a2) fun x18 w17 =>
          if x18 = (-1) then
            bn2 (f_X4_fail fu w17 (3 : Int32)) fun x25 w24 =>
            some (x25, w24)
          else
            ck (vp_in a3 64) <| nm (w17.1 4 (Int32.toNatClampNeg a3)) fun x19 =>
            ck (vp_in a3 64) <| nm (wI w17 4 (Int32.toNatClampNeg a3) (vp_nar .boolean 0)) fun w20 =>
            bn2 (f_X4_distanceBetween fu w20 a1 a2) fun x22 w21 =>
            ck (vp_in a3 64) <| nm (wI w21 4 (Int32.toNatClampNeg a3) (vp_nar .boolean x19)) fun w23 =>
            if x22 = (-1) then
              some (((-1) : Int32), w23)
            else
              some ((x22 - x18), w23)
        else
          some ((0 : Int32), w15)
      else
        bn (f_X4_isRoad fu w a3) fun x26 =>
        if x26 = 0 then
          nm (wI w 0 0 2) fun w38 =>
          nm (w38.1 0 0) fun x39 =>
          if x39 = 0 then
            bn2 (f_X4_distanceBetween fu w38 a1 a2) fun x41 w40 =>
            if x41 = (-1) then
              bn2 (f_X4_fail fu w40 (3 : Int32)) fun x48 w47 =>
              some (x48, w47)
            else
              ck (vp_in a3 64) <| nm (w40.1 4 (Int32.toNatClampNeg a3)) fun x42 =>
              ck (vp_in a3 64) <| nm (wI w40 4 (Int32.toNatClampNeg a3) (vp_nar .boolean 0)) fun w43 =>
              bn2 (f_X4_distanceBetween fu w43 a1 a2) fun x45 w44 =>
              ck (vp_in a3 64) <| nm (wI w44 4 (Int32.toNatClampNeg a3) (vp_nar .boolean x42)) fun w46 =>
              if x45 = (-1) then
                some (((-1) : Int32), w46)
              else
                some ((x45 - x41), w46)
          else
            some ((0 : Int32), w38)
        else
          nm (wI w 0 0 0) fun w27 =>
          nm (w27.1 0 0) fun x28 =>
          if x28 = 0 then
            bn2 (f_X4_distanceBetween fu w27 a1 a2) fun x30 w29 =>
            if x30 = (-1) then
              bn2 (f_X4_fail fu w29 (3 : Int32)) fun x37 w36 =>
              some (x37, w36)
            else
              ck (vp_in a3 64) <| nm (w29.1 4 (Int32.toNatClampNeg a3)) fun x31 =>
              ck (vp_in a3 64) <| nm (wI w29 4 (Int32.toNatClampNeg a3) (vp_nar .boolean 0)) fun w32 =>
              bn2 (f_X4_distanceBetween fu w32 a1 a2) fun x34 w33 =>
              ck (vp_in a3 64) <| nm (wI w33 4 (Int32.toNatClampNeg a3) (vp_nar .boolean x31)) fun w35 =>
              if x34 = (-1) then
                some (((-1) : Int32), w35)
              else
                some ((x34 - x30), w35)
          else
            some ((0 : Int32), w27)

noncomputable def f_X4_setPlace (fu : Nat) (w : WS) (a1 : Int32) (a2 : Int32) (a3 : Int32) : Option (Int32 × WS) :=
  nm (wI w 0 0 0) fun w1 =>
  bn (f_X4_isJunction fu w1 a1) fun x2 =>
  if x2 = 0 then
    bn2 (f_X4_fail fu w1 (1 : Int32)) fun x4 w3 =>
    if x4 = 0 then
      some ((0 : Int32), w3)
    else
      some ((1 : Int32), w3)
  else
    if a2 < 0 then
      bn2 (f_X4_fail fu w1 (1 : Int32)) fun x6 w5 =>
      if x6 = 0 then
        some ((0 : Int32), w5)
      else
        some ((1 : Int32), w5)
    else
      if a2 < 4 then
        ck (vp_in (((4 : Int32) * a1) + a2) 128) <| nm (w1.1 12 (Int32.toNatClampNeg (((4 : Int32) * a1) + a2))) fun x7 =>
        ck (vp_in (((4 : Int32) * a1) + a2) 128) <| nm (wI w1 12 (Int32.toNatClampNeg (((4 : Int32) * a1) + a2)) (vp_nar .boolean a3)) fun w8 =>
        ck (x7 = 0 ∨ x7 = 1) <|
        some (x7, w8)
      else
        bn2 (f_X4_fail fu w1 (1 : Int32)) fun x10 w9 =>
        if x10 = 0 then
          some ((0 : Int32), w9)
        else
          some ((1 : Int32), w9)

noncomputable def bd_X4_nearest_54 (fu : Nat) (y1 : Int32) (y2 : Int32) (y3 : Int32) (y4 : Int32) (y5 : Int32) (w : WS) : Option ((Int32 × Int32 × Int32 × WS) ⊕ (Int32 × WS)) :=
  nm (w.1 0 1) fun x1 =>
  if x1 ≤ y5 then
    some (.inr (y3, w))
  else
    ck (vp_in (((4 : Int32) * y5) + y2) 128) <| nm (w.1 12 (Int32.toNatClampNeg (((4 : Int32) * y5) + y2))) fun x2 =>
    if x2 = 0 then
      nm (y5 + 1) fun x3 =>
      some (.inl (y3, y4, x3, w))
    else
      bn2 (f_X4_distanceBetween fu w y1 y5) fun x5 w4 =>
      if x5 = (-1) then
        nm (y5 + 1) fun x6 =>
        some (.inl (y3, y4, x6, w4))
      else
        if y3 = (-1) then
          nm (y5 + 1) fun x7 =>
          some (.inl (y5, x5, x7, w4))
        else
          if x5 < y4 then
            nm (y5 + 1) fun x8 =>
            some (.inl (y5, x5, x8, w4))
          else
            nm (y5 + 1) fun x9 =>
            some (.inl (y3, y4, x9, w4))

noncomputable def f_X4_nearest (fu : Nat) (w : WS) (a1 : Int32) (a2 : Int32) : Option (Int32 × WS) :=
  nm (w.1 0 9) fun x1 =>
  if x1 = 0 then
    nm (wI w 0 0 1) fun w31 =>
    nm (w31.1 0 0) fun x32 =>
    if x32 = 0 then
      bn2 (iter (fun q => bd_X4_nearest_54 fu a1 a2 q.1 q.2.1 q.2.2.1 q.2.2.2) fu (((-1) : Int32), (0 : Int32), (0 : Int32), w31)) fun x33 w34 =>
      if x33 = (-1) then
        bn2 (f_X4_fail fu w34 (3 : Int32)) fun x37 w36 =>
        some (x37, w36)
      else
        some (x33, w34)
    else
      some ((0 : Int32), w31)
  else
    bn (f_X4_isJunction fu w a1) fun x2 =>
    if x2 = 0 then
      nm (wI w 0 0 2) fun w3 =>
      nm (w3.1 0 0) fun x4 =>
      if x4 = 0 then
        bn2 (iter (fun q => bd_X4_nearest_54 fu a1 a2 q.1 q.2.1 q.2.2.1 q.2.2.2) fu (((-1) : Int32), (0 : Int32), (0 : Int32), w3)) fun x5 w6 =>
        if x5 = (-1) then
          bn2 (f_X4_fail fu w6 (3 : Int32)) fun x9 w8 =>
          some (x9, w8)
        else
          some (x5, w6)
      else
        some ((0 : Int32), w3)
    else
      if a2 < 0 then
        nm (wI w 0 0 2) fun w10 =>
        nm (w10.1 0 0) fun x11 =>
        if x11 = 0 then
          bn2 (iter (fun q => bd_X4_nearest_54 fu a1 a2 q.1 q.2.1 q.2.2.1 q.2.2.2) fu (((-1) : Int32), (0 : Int32), (0 : Int32), w10)) fun x12 w13 =>
          if x12 = (-1) then
            bn2 (f_X4_fail fu w13 (3 : Int32)) fun x16 w15 =>
            some (x16, w15)
          else
            some (x12, w13)
        else
          some ((0 : Int32), w10)
      else
        if a2 < 4 then
          nm (wI w 0 0 0) fun w17 =>
          nm (w17.1 0 0) fun x18 =>
          if x18 = 0 then
            bn2 (iter (fun q => bd_X4_nearest_54 fu a1 a2 q.1 q.2.1 q.2.2.1 q.2.2.2) fu (((-1) : Int32), (0 : Int32), (0 : Int32), w17)) fun x19 w20 =>
            if x19 = (-1) then
              bn2 (f_X4_fail fu w20 (3 : Int32)) fun x23 w22 =>
              some (x23, w22)
            else
              some (x19, w20)
          else
            some ((0 : Int32), w17)
        else
          nm (wI w 0 0 2) fun w24 =>
          nm (w24.1 0 0) fun x25 =>
          if x25 = 0 then
            bn2 (iter (fun q => bd_X4_nearest_54 fu a1 a2 q.1 q.2.1 q.2.2.1 q.2.2.2) fu (((-1) : Int32), (0 : Int32), (0 : Int32), w24)) fun x26 w27 =>
            if x26 = (-1) then
              bn2 (f_X4_fail fu w27 (3 : Int32)) fun x30 w29 =>
              some (x30, w29)
            else
              some (x26, w27)
          else
            some ((0 : Int32), w24)

noncomputable def bd_X4_push_48 (fu : Nat)  (y1 : Int32) (w : WS) : Option ((Int32 × WS) ⊕ (WS)) :=
  if 64 ≤ y1 then
    some (.inr (w))
  else
    nm (w.1 0 19) fun x1 =>
    ck (vp_in y1 64) <| nm (w.1 3 (Int32.toNatClampNeg y1)) fun x2 =>
    ck (vp_in (((64 : Int32) * x1) + y1) 512) <| nm (wI w 14 (Int32.toNatClampNeg (((64 : Int32) * x1) + y1)) x2) fun w3 =>
    nm (w3.1 0 19) fun x4 =>
    ck (vp_in y1 64) <| nm (w3.1 4 (Int32.toNatClampNeg y1)) fun x5 =>
    ck (vp_in (((64 : Int32) * x4) + y1) 512) <| nm (wI w3 15 (Int32.toNatClampNeg (((64 : Int32) * x4) + y1)) (vp_nar .boolean x5)) fun w6 =>
    nm (y1 + 1) fun x7 =>
    some (.inl (x7, w6))

noncomputable def bd_X4_push_102 (fu : Nat)  (y1 : Int32) (w : WS) : Option ((Int32 × WS) ⊕ (WS)) :=
  if 4096 ≤ y1 then
    some (.inr (w))
  else
    nm (w.1 0 19) fun x1 =>
    ck (vp_in y1 4096) <| nm (w.1 5 (Int32.toNatClampNeg y1)) fun x2 =>
    ck (vp_in (((4096 : Int32) * x1) + y1) 32768) <| nm (wI w 16 (Int32.toNatClampNeg (((4096 : Int32) * x1) + y1)) x2) fun w3 =>
    nm (y1 + 1) fun x4 =>
    some (.inl (x4, w3))

noncomputable def f_X4_push (fu : Nat) (w : WS)  : Option (Int32 × WS) :=
  nm (wI w 0 0 0) fun w1 =>
  nm (w1.1 0 19) fun x2 =>
  if x2 = 8 then
    bn2 (f_X4_fail fu w1 (1 : Int32)) fun x17 w16 =>
    some (x17, w16)
  else
    nm (w1.1 0 19) fun x3 =>
    nm (w1.1 0 2) fun x4 =>
    ck (vp_in x3 8) <| nm (wI w1 13 (Int32.toNatClampNeg x3) x4) fun w5 =>
    nm (w5.1 0 19) fun x6 =>
    nm (w5.1 0 8) fun x7 =>
    ck (vp_in x6 8) <| nm (wI w5 17 (Int32.toNatClampNeg x6) x7) fun w8 =>
    bn (iter (fun q => bd_X4_push_48 fu q.1 q.2) fu ((0 : Int32), w8)) fun w9 =>
    bn (iter (fun q => bd_X4_push_102 fu q.1 q.2) fu ((0 : Int32), w9)) fun w11 =>
    nm (w11.1 0 19) fun x13 =>
    nm (wI w11 0 19 (x13 + 1)) fun w14 =>
    nm (w14.1 0 19) fun x15 =>
    some (x15, w14)

noncomputable def bd_X4_pop_100 (fu : Nat) (y1 : Int32) (y2 : Int32) (y3 : Int32) (w : WS) : Option ((Int32 × WS) ⊕ (WS)) :=
  if y1 ≤ y3 then
    some (.inr (w))
  else
    nm (w.1 0 19) fun x1 =>
    ck (vp_in ((((4096 : Int32) * x1) + ((64 : Int32) * y2)) + y3) 32768) <| nm (w.1 16 (Int32.toNatClampNeg ((((4096 : Int32) * x1) + ((64 : Int32) * y2)) + y3))) fun x2 =>
    ck (vp_in (((64 : Int32) * y2) + y3) 4096) <| nm (wI w 5 (Int32.toNatClampNeg (((64 : Int32) * y2) + y3)) x2) fun w3 =>
    nm (y3 + 1) fun x4 =>
    some (.inl (x4, w3))

noncomputable def bd_X4_pop_53 (fu : Nat) (y1 : Int32) (y2 : Int32) (w : WS) : Option ((Int32 × WS) ⊕ (WS)) :=
  if y1 ≤ y2 then
    some (.inr (w))
  else
    nm (w.1 0 19) fun x1 =>
    ck (vp_in (((64 : Int32) * x1) + y2) 512) <| nm (w.1 14 (Int32.toNatClampNeg (((64 : Int32) * x1) + y2))) fun x2 =>
    ck (vp_in y2 64) <| nm (wI w 3 (Int32.toNatClampNeg y2) x2) fun w3 =>
    nm (w3.1 0 19) fun x4 =>
    ck (vp_in (((64 : Int32) * x4) + y2) 512) <| nm (w3.1 15 (Int32.toNatClampNeg (((64 : Int32) * x4) + y2))) fun x5 =>
    ck (vp_in y2 64) <| nm (wI w3 4 (Int32.toNatClampNeg y2) (vp_nar .boolean x5)) fun w6 =>
    bn (iter (fun q => bd_X4_pop_100 fu y1 y2 q.1 q.2) fu ((0 : Int32), w6)) fun w7 =>
    nm (y2 + 1) fun x9 =>
    some (.inl (x9, w7))

noncomputable def f_X4_pop (fu : Nat) (w : WS)  : Option (Int32 × WS) :=
  nm (wI w 0 0 0) fun w1 =>
  nm (w1.1 0 19) fun x2 =>
  if x2 = 0 then
    bn2 (f_X4_fail fu w1 (1 : Int32)) fun x15 w14 =>
    some (x15, w14)
  else
    nm (w1.1 0 19) fun x3 =>
    nm (wI w1 0 19 (x3 - 1)) fun w4 =>
    nm (w4.1 0 19) fun x5 =>
    ck (vp_in x5 8) <| nm (w4.1 13 (Int32.toNatClampNeg x5)) fun x6 =>
    nm (w4.1 0 19) fun x7 =>
    ck (vp_in x7 8) <| nm (w4.1 17 (Int32.toNatClampNeg x7)) fun x8 =>
    nm (wI w4 0 8 x8) fun w9 =>
    bn (iter (fun q => bd_X4_pop_53 fu x6 q.1 q.2) fu ((0 : Int32), w9)) fun w10 =>
    bn2 (f_X4_renewed fu w10) fun x13 w12 =>
    some (x13, w12)

noncomputable def bd_X4_digest_47 (fu : Nat) (w : WS) (y1 : Int64) (y3 : Int32) : Option ((Int64 × Int32) ⊕ (Int64)) :=
  nm (w.1 0 2) fun x1 =>
  if x1 ≤ y3 then
    some (.inr (y1))
  else
    ck (vp_in y3 64) <| nm (w.1 3 (Int32.toNatClampNeg y3)) fun x2 =>
    ck (vp_in y3 64) <| nm (w.1 4 (Int32.toNatClampNeg y3)) fun x3 =>
    if x3 = 0 then
      nm (((((y1 * 31) + (Int32.toInt64 x2)) * 31) + 0)) fun x4 =>
      nm (w.1 0 9) fun x5 =>
      if x5 = 0 then
        nm (y3 + 1) fun x6 =>
        some (.inl (x4, x6))
      else
        ck (vp_in y3 64) <| nm (w.1 6 (Int32.toNatClampNeg y3)) fun x7 =>
        nm (((x4 * 31) + (Int32.toInt64 x7))) fun x8 =>
        nm (y3 + 1) fun x9 =>
        some (.inl (x8, x9))
    else
      nm (((((y1 * 31) + (Int32.toInt64 x2)) * 31) + 1)) fun x10 =>
      nm (w.1 0 9) fun x11 =>
      if x11 = 0 then
        nm (y3 + 1) fun x12 =>
        some (.inl (x10, x12))
      else
        ck (vp_in y3 64) <| nm (w.1 6 (Int32.toNatClampNeg y3)) fun x13 =>
        nm (((x10 * 31) + (Int32.toInt64 x13))) fun x14 =>
        nm (y3 + 1) fun x15 =>
        some (.inl (x14, x15))

noncomputable def bd_X4_digest_135 (fu : Nat) (w : WS) (y3 : Int32) (y1 : Int64) (y4 : Int32) : Option ((Int64 × Int32) ⊕ (Int64)) :=
  nm (w.1 0 2) fun x1 =>
  if x1 ≤ y4 then
    some (.inr (y1))
  else
    ck (vp_in (((64 : Int32) * y3) + y4) 4096) <| nm (w.1 8 (Int32.toNatClampNeg (((64 : Int32) * y3) + y4))) fun x2 =>
    if x2 = 0 then
      nm (y4 + 1) fun x3 =>
      some (.inl (y1, x3))
    else
      bn (f_X4_costOf fu w y3 y4) fun x4 =>
      nm (((y1 * 31) + (Int32.toInt64 x4))) fun x5 =>
      nm (y4 + 1) fun x6 =>
      some (.inl (x5, x6))

noncomputable def bd_X4_digest_117 (fu : Nat) (w : WS) (y1 : Int64) (y3 : Int32) : Option ((Int64 × Int32) ⊕ (Int64)) :=
  nm (w.1 0 2) fun x1 =>
  if x1 ≤ y3 then
    some (.inr (y1))
  else
    nm (w.1 0 9) fun x2 =>
    if x2 = 0 then
      some (.inr (y1))
    else
      bn (iter (fun q => bd_X4_digest_135 fu w y3 q.1 q.2) fu (y1, (0 : Int32))) fun x3 =>
      nm (y3 + 1) fun x5 =>
      some (.inl (x3, x5))

noncomputable def f_X4_digest (fu : Nat) (w : WS)  : Option (Int64 × WS) :=
  nm (wI w 0 0 0) fun w1 =>
  nm (w1.1 0 1) fun x2 =>
  nm (w1.1 0 2) fun x3 =>
  nm (w1.1 0 19) fun x4 =>
  nm (w1.1 0 14) fun x5 =>
  nm (((((((((713 : Int64) + (Int32.toInt64 x2)) * 31) + (Int32.toInt64 x3)) * 31) + (Int32.toInt64 x4)) * 31) + (Int32.toInt64 x5))) fun x6 =>
  bn (iter (fun q => bd_X4_digest_47 fu w1 q.1 q.2) fu (x6, (0 : Int32))) fun x7 =>
  bn (iter (fun q => bd_X4_digest_117 fu w1 q.1 q.2) fu (x7, (0 : Int32))) fun x9 =>
  some (x9, w1)

