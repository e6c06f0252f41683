noncomputable def f_J13_bitCount_95d88 (fu : Nat) (a0 : Int64) : Option Int32 :=
  nm ((a0 - ((Int64.toUInt64 a0 >>> (Int64.toUInt64 (Int32.toInt64 1) &&& Int64.toUInt64 63)).toInt64 &&& 6148914691236517205))) fun x1 =>
  nm (((x1 &&& 3689348814741910323) + ((Int64.toUInt64 x1 >>> (Int64.toUInt64 (Int32.toInt64 2) &&& Int64.toUInt64 63)).toInt64 &&& 3689348814741910323))) fun x2 =>
  nm (((x2 + (Int64.toUInt64 x2 >>> (Int64.toUInt64 (Int32.toInt64 4) &&& Int64.toUInt64 63)).toInt64) &&& 1085102592571150095)) fun x3 =>
  nm ((x3 + (Int64.toUInt64 x3 >>> (Int64.toUInt64 (Int32.toInt64 8) &&& Int64.toUInt64 63)).toInt64)) fun x4 =>
  nm ((x4 + (Int64.toUInt64 x4 >>> (Int64.toUInt64 (Int32.toInt64 16) &&& Int64.toUInt64 63)).toInt64)) fun x5 =>
  nm ((x5 + (Int64.toUInt64 x5 >>> (Int64.toUInt64 (Int32.toInt64 32) &&& Int64.toUInt64 63)).toInt64)) fun x6 =>
  some ((Int64.toInt32 x6) &&& 127)

noncomputable def f_X2_followersOf (fu : Nat) (w : WS) (a1 : Int32) : Option Int64 :=
  ck (vp_in a1 64) <| nm (w.1 10 (Int32.toNatClampNeg a1)) fun x1 =>
  ck (vp_in x1 32) <| nm (w.2 13 (Int32.toNatClampNeg x1)) fun x2 =>
  some x2

noncomputable def f_X2_forerunnersOf (fu : Nat) (w : WS) (a1 : Int32) : Option Int64 :=
  ck (vp_in a1 64) <| nm (w.1 9 (Int32.toNatClampNeg a1)) fun x1 =>
  ck (vp_in x1 32) <| nm (w.2 14 (Int32.toNatClampNeg x1)) fun x2 =>
  some x2

noncomputable def bd_X0_linkTurns_4 (fu : Nat)  (y1 : Int32) (y2 : Int32) (w : WS) : Option ((Int32 × Int32 × WS) ⊕ (Int32 × WS)) :=
  nm (w.1 2 2) fun x1 =>
  if x1 ≤ y2 then
    some (.inr (y1, w))
  else
    bn (f_X2_followersOf fu w y2) fun x2 =>
    ck (vp_in y2 64) <| nm (wL w 18 (Int32.toNatClampNeg y2) x2) fun w3 =>
    bn (f_X2_forerunnersOf fu w3 y2) fun x4 =>
    ck (vp_in y2 64) <| nm (wL w3 19 (Int32.toNatClampNeg y2) x4) fun w5 =>
    ck (vp_in y2 64) <| nm (w5.2 18 (Int32.toNatClampNeg y2)) fun x6 =>
    bn (f_J13_bitCount_95d88 fu x6) fun x7 =>
    nm ((y1 + x7)) fun x8 =>
    nm (y2 + 1) fun x9 =>
    some (.inl (x8, x9, w5))

noncomputable def f_X0_linkTurns (fu : Nat) (w : WS)  : Option (Int32 × WS) :=
  bn2 (iter (fun q => bd_X0_linkTurns_4 fu q.1 q.2.1 q.2.2) fu ((0 : Int32), (0 : Int32), w)) fun x1 w2 =>
  some (x1, w2)

noncomputable def f_X3_only (fu : Nat) (a0 : Int32) : Option Int64 :=
  some ((1 : Int64) <<< (Int32.toInt64 a0 &&& 63))

noncomputable def f_X2_allRoads (fu : Nat) (w : WS)  : Option Int64 :=
  nm (w.1 1 1) fun x1 =>
  if x1 < 64 then
    nm (w.1 1 1) fun x2 =>
    bn (f_X3_only fu x2) fun x3 =>
    some (x3 - 1)
  else
    some ((-1) : Int64)

noncomputable def f_X3_has (fu : Nat) (a0 : Int64) (a2 : Int32) : Option Int32 :=
  if (lg_cmp ((a0 >>> (Int32.toInt64 a2 &&& 63)) &&& 1) 0) = 0 then
    some (0 : Int32)
  else
    some (1 : Int32)

noncomputable def bd_X0_cheapest_9 (fu : Nat) (w : WS) (y1 : Int64) (y3 : Int32) (y4 : Int32) (y5 : Int32) : Option ((Int32 × Int32 × Int32) ⊕ (Int32)) :=
  nm (w.1 2 2) fun x1 =>
  if x1 ≤ y5 then
    some (.inr (y3))
  else
    bn (f_X3_has fu y1 y5) fun x2 =>
    if x2 = 0 then
      nm (y5 + 1) fun x3 =>
      some (.inl (y3, y4, x3))
    else
      ck (vp_in y5 64) <| nm (w.2 19 (Int32.toNatClampNeg y5)) fun x4 =>
      bn (f_J13_bitCount_95d88 fu (x4 &&& y1)) fun x5 =>
      ck (vp_in y5 64) <| nm (w.2 18 (Int32.toNatClampNeg y5)) fun x6 =>
      bn (f_J13_bitCount_95d88 fu (x6 &&& y1)) fun x7 =>
      if y4 ≤ (x5 * x7) then
        nm (y5 + 1) fun x8 =>
        some (.inl (y3, y4, x8))
      else
        nm ((x5 * x7)) fun x9 =>
        nm (y5 + 1) fun x10 =>
        some (.inl (y5, x9, x10))

noncomputable def f_X0_cheapest (fu : Nat) (w : WS) (a1 : Int64) : Option Int32 :=
  bn (iter (fun q => bd_X0_cheapest_9 fu w a1 q.1 q.2.1 q.2.2) fu ((0 : Int32), (536870912 : Int32), (0 : Int32))) fun x1 =>
  some x1

noncomputable def bd_X0_bridge_3 (fu : Nat) (y1 : Int64) (y3 : Int64) (y5 : Int32) (w : WS) : Option ((Int32 × WS) ⊕ (WS)) :=
  nm (w.1 2 2) fun x1 =>
  if x1 ≤ y5 then
    some (.inr (w))
  else
    bn (f_X3_has fu y1 y5) fun x2 =>
    if x2 = 0 then
      bn (f_X3_has fu y3 y5) fun x3 =>
      if x3 = 0 then
        nm (y5 + 1) fun x4 =>
        some (.inl (x4, w))
      else
        ck (vp_in y5 64) <| nm (w.2 19 (Int32.toNatClampNeg y5)) fun x5 =>
        bn (f_X3_only fu y5) fun x6 =>
        ck (vp_in y5 64) <| nm (wL w 19 (Int32.toNatClampNeg y5) (x5 ||| (y1 &&& (x6 ^^^ (-1))))) fun w7 =>
        nm (y5 + 1) fun x8 =>
        some (.inl (x8, w7))
    else
      ck (vp_in y5 64) <| nm (w.2 18 (Int32.toNatClampNeg y5)) fun x9 =>
      bn (f_X3_only fu y5) fun x10 =>
      ck (vp_in y5 64) <| nm (wL w 18 (Int32.toNatClampNeg y5) (x9 ||| (y3 &&& (x10 ^^^ (-1))))) fun w11 =>
      bn (f_X3_has fu y3 y5) fun x12 =>
      if x12 = 0 then
        nm (y5 + 1) fun x13 =>
        some (.inl (x13, w11))
      else
        ck (vp_in y5 64) <| nm (w11.2 19 (Int32.toNatClampNeg y5)) fun x14 =>
        bn (f_X3_only fu y5) fun x15 =>
        ck (vp_in y5 64) <| nm (wL w11 19 (Int32.toNatClampNeg y5) (x14 ||| (y1 &&& (x15 ^^^ (-1))))) fun w16 =>
        nm (y5 + 1) fun x17 =>
        some (.inl (x17, w16))

noncomputable def f_X0_bridge (fu : Nat) (w : WS) (a1 : Int64) (a3 : Int64) : Option WS :=
  bn (iter (fun q => bd_X0_bridge_3 fu a1 a3 q.1 q.2) fu ((0 : Int32), w)) fun w1 =>
  some w1

noncomputable def f_X3_pair (fu : Nat) (a0 : Int32) (a1 : Int32) : Option Int32 :=
  some ((a0 * 64) + a1)

noncomputable def f_X2_penaltyOf (fu : Nat) (w : WS) (a1 : Int32) (a2 : Int32) : Option Int32 :=
  bn (f_X3_pair fu a1 a2) fun x1 =>
  ck (vp_in x1 4096) <| nm (w.1 12 (Int32.toNatClampNeg x1)) fun x2 =>
  if x2 = (-2) then
    ck (vp_in a2 64) <| nm (w.1 10 (Int32.toNatClampNeg a2)) fun x3 =>
    ck (vp_in a1 64) <| nm (w.1 9 (Int32.toNatClampNeg a1)) fun x4 =>
    if x3 = x4 then
      nm (w.1 1 9) fun x5 =>
      some x5
    else
      some (0 : Int32)
  else
    some x2

noncomputable def f_X2_roadLength (fu : Nat) (w : WS) (a1 : Int32) : Option Int32 :=
  ck (vp_in a1 64) <| nm (w.1 11 (Int32.toNatClampNeg a1)) fun x1 =>
  some ((x1 <<< ((7 : Int32) &&& 31)) + 1)

noncomputable def f_X2_stepLength (fu : Nat) (w : WS) (a1 : Int32) (a2 : Int32) : Option Int32 :=
  bn (f_X2_penaltyOf fu w a1 a2) fun x1 =>
  if x1 = (-1) then
    some (536870912 : Int32)
  else
    nm (w.2 1 8) fun x2 =>
    bn (f_X3_has fu x2 a1) fun x3 =>
    if x3 = 0 then
      some (536870912 : Int32)
    else
      nm (w.2 1 8) fun x4 =>
      bn (f_X3_has fu x4 a2) fun x5 =>
      if x5 = 0 then
        some (536870912 : Int32)
      else
        bn (f_X2_roadLength fu w a2) fun x6 =>
        some ((x1 <<< ((7 : Int32) &&& 31)) + x6)

noncomputable def f_X0_markArc (fu : Nat) (w : WS) (a1 : Int32) (a2 : Int32) : Option WS :=
  ck (vp_in a1 64) <| nm (w.1 15 (Int32.toNatClampNeg a1)) fun x1 =>
  ck (vp_in a2 64) <| nm (w.1 15 (Int32.toNatClampNeg a2)) fun x2 =>
  if x2 ≤ x1 then
    ck (vp_in a2 64) <| nm (w.2 23 (Int32.toNatClampNeg a2)) fun x3 =>
    bn (f_X3_only fu a1) fun x4 =>
    ck (vp_in a2 64) <| nm (wL w 23 (Int32.toNatClampNeg a2) (x3 ||| x4)) fun w5 =>
    some w5
  else
    ck (vp_in a1 64) <| nm (w.2 22 (Int32.toNatClampNeg a1)) fun x6 =>
    bn (f_X3_only fu a2) fun x7 =>
    ck (vp_in a1 64) <| nm (wL w 22 (Int32.toNatClampNeg a1) (x6 ||| x7)) fun w8 =>
    some w8

noncomputable def bd_X0_renewStepsFrom_3 (fu : Nat) (y1 : Int32) (y2 : Int64) (y4 : Int32) (w : WS) : Option ((Int32 × WS) ⊕ (WS)) :=
  nm (w.1 2 2) fun x1 =>
  if x1 ≤ y4 then
    some (.inr (w))
  else
    bn (f_X3_has fu y2 y4) fun x2 =>
    if x2 = 0 then
      nm (y4 + 1) fun x3 =>
      some (.inl (x3, w))
    else
      bn (f_X2_stepLength fu w y1 y4) fun x4 =>
      bn (f_X3_pair fu y1 y4) fun x5 =>
      ck (vp_in x5 4096) <| nm (w.1 21 (Int32.toNatClampNeg x5)) fun x6 =>
      if x4 = x6 then
        nm (y4 + 1) fun x7 =>
        some (.inl (x7, w))
      else
        bn (f_X3_pair fu y1 y4) fun x8 =>
        ck (vp_in x8 4096) <| nm (wI w 21 (Int32.toNatClampNeg x8) x4) fun w9 =>
        bn (f_X0_markArc fu w9 y1 y4) fun w10 =>
        nm (y4 + 1) fun x11 =>
        some (.inl (x11, w10))

noncomputable def f_X0_renewStepsFrom (fu : Nat) (w : WS) (a1 : Int32) (a2 : Int64) : Option WS :=
  bn (iter (fun q => bd_X0_renewStepsFrom_3 fu a1 a2 q.1 q.2) fu ((0 : Int32), w)) fun w1 =>
  some w1

noncomputable def bd_X0_renewSteps_3 (fu : Nat) (y1 : Int64) (y3 : Int64) (y5 : Int32) (w : WS) : Option ((Int32 × WS) ⊕ (WS)) :=
  nm (w.1 2 2) fun x1 =>
  if x1 ≤ y5 then
    some (.inr (w))
  else
    bn (f_X3_has fu y1 y5) fun x2 =>
    if x2 = 0 then
      nm (y5 + 1) fun x3 =>
      some (.inl (x3, w))
    else
      bn (f_X2_followersOf fu w y5) fun x4 =>
      bn (f_X0_renewStepsFrom fu w y5 (x4 &&& y3)) fun w5 =>
      nm (y5 + 1) fun x6 =>
      some (.inl (x6, w5))

noncomputable def f_X0_renewSteps (fu : Nat) (w : WS) (a1 : Int64) (a3 : Int64) : Option WS :=
  bn (iter (fun q => bd_X0_renewSteps_3 fu a1 a3 q.1 q.2) fu ((0 : Int32), w)) fun w1 =>
  some w1

noncomputable def bd_X0_computeArc_46 (fu : Nat) (w : WS) (y1 : Int32) (y2 : Int32) (y4 : Int64) (y6 : Int32) (y3 : Int32) (y7 : Int32) : Option ((Int32 × Int32) ⊕ (Int32)) :=
  if y6 ≤ y7 then
    some (.inr (y3))
  else
    ck (vp_in y7 64) <| nm (w.1 16 (Int32.toNatClampNeg y7)) fun x1 =>
    bn (f_X3_has fu y4 x1) fun x2 =>
    if x2 = 0 then
      nm (y7 + 1) fun x3 =>
      some (.inl (y3, x3))
    else
      bn (f_X3_pair fu y1 x1) fun x4 =>
      ck (vp_in x4 4096) <| nm (w.1 20 (Int32.toNatClampNeg x4)) fun x5 =>
      bn (f_X3_pair fu x1 y2) fun x6 =>
      ck (vp_in x6 4096) <| nm (w.1 20 (Int32.toNatClampNeg x6)) fun x7 =>
      nm ((x5 + x7)) fun x8 =>
      nm ((if x8 < y3 then x8 else y3)) fun x9 =>
      nm (y7 + 1) fun x10 =>
      some (.inl (x9, x10))

noncomputable def f_X0_computeArc (fu : Nat) (w : WS) (a1 : Int32) (a2 : Int32) : Option Int32 :=
  bn (f_X3_pair fu a1 a2) fun x1 =>
  ck (vp_in x1 4096) <| nm (w.1 21 (Int32.toNatClampNeg x1)) fun x2 =>
  ck (vp_in a1 64) <| nm (w.2 18 (Int32.toNatClampNeg a1)) fun x3 =>
  ck (vp_in a2 64) <| nm (w.2 19 (Int32.toNatClampNeg a2)) fun x4 =>
  nm ((x3 &&& x4)) fun x5 =>
  ck (vp_in a1 64) <| nm (w.1 15 (Int32.toNatClampNeg a1)) fun x6 =>
  ck (vp_in a2 64) <| nm (w.1 15 (Int32.toNatClampNeg a2)) fun x7 =>
  nm ((if x7 < x6 then x7 else x6)) fun x8 =>
  bn (iter (fun q => bd_X0_computeArc_46 fu w a1 a2 x5 x8 q.1 q.2) fu (x2, (0 : Int32))) fun x9 =>
  some x9

noncomputable def bd_X0_markAbove_85 (fu : Nat) (y1 : Int32) (y2 : Int32) (y3 : Int32) (w : WS) : Option ((Int32 × WS) ⊕ (WS)) :=
  nm (w.1 2 2) fun x1 =>
  if x1 ≤ y3 then
    some (.inr (w))
  else
    ck (vp_in y3 64) <| nm (w.1 16 (Int32.toNatClampNeg y3)) fun x2 =>
    if x2 = y1 then
      nm (y3 + 1) fun x3 =>
      some (.inl (x3, w))
    else
      ck (vp_in y2 64) <| nm (w.2 18 (Int32.toNatClampNeg y2)) fun x4 =>
      bn (f_X3_has fu x4 x2) fun x5 =>
      if x5 = 0 then
        nm (y3 + 1) fun x6 =>
        some (.inl (x6, w))
      else
        bn (f_X0_markArc fu w y1 x2) fun w7 =>
        nm (y3 + 1) fun x8 =>
        some (.inl (x8, w7))

noncomputable def bd_X0_markAbove_24 (fu : Nat) (y1 : Int32) (y2 : Int32) (y3 : Int32) (w : WS) : Option ((Int32 × WS) ⊕ (WS)) :=
  nm (w.1 2 2) fun x1 =>
  if x1 ≤ y3 then
    some (.inr (w))
  else
    ck (vp_in y3 64) <| nm (w.1 16 (Int32.toNatClampNeg y3)) fun x2 =>
    if x2 = y2 then
      nm (y3 + 1) fun x3 =>
      some (.inl (x3, w))
    else
      ck (vp_in y1 64) <| nm (w.2 19 (Int32.toNatClampNeg y1)) fun x4 =>
      bn (f_X3_has fu x4 x2) fun x5 =>
      if x5 = 0 then
        nm (y3 + 1) fun x6 =>
        some (.inl (x6, w))
      else
        bn (f_X0_markArc fu w x2 y2) fun w7 =>
        nm (y3 + 1) fun x8 =>
        some (.inl (x8, w7))

noncomputable def f_X0_markAbove (fu : Nat) (w : WS) (a1 : Int32) (a2 : Int32) : Option WS :=
  ck (vp_in a1 64) <| nm (w.1 15 (Int32.toNatClampNeg a1)) fun x1 =>
  ck (vp_in a2 64) <| nm (w.1 15 (Int32.toNatClampNeg a2)) fun x2 =>
  if x2 ≤ x1 then
    ck (vp_in a2 64) <| nm (w.1 15 (Int32.toNatClampNeg a2)) fun x3 =>
    nm ((x3 + 1)) fun x4 =>
    bn (iter (fun q => bd_X0_markAbove_85 fu a1 a2 q.1 q.2) fu (x4, w)) fun w5 =>
    some w5
  else
    ck (vp_in a1 64) <| nm (w.1 15 (Int32.toNatClampNeg a1)) fun x7 =>
    nm ((x7 + 1)) fun x8 =>
    bn (iter (fun q => bd_X0_markAbove_24 fu a1 a2 q.1 q.2) fu (x8, w)) fun w9 =>
    some w9

noncomputable def f_X3_costOf (fu : Nat) (a0 : Int32) : Option Int32 :=
  if a0 < 536870912 then
    some (a0 >>> ((7 : Int32) &&& 31))
  else
    some ((-1) : Int32)

noncomputable def f_X0_settleArc (fu : Nat) (w : WS) (a1 : Int32) (a2 : Int32) : Option (Int32 × WS) :=
  bn (f_X3_pair fu a1 a2) fun x1 =>
  ck (vp_in x1 4096) <| nm (w.1 20 (Int32.toNatClampNeg x1)) fun x2 =>
  bn (f_X0_computeArc fu w a1 a2) fun x3 =>
  if x3 = x2 then
    bn (f_X3_costOf fu x3) fun x4 =>
    bn (f_X3_costOf fu x2) fun x5 =>
    if x4 = x5 then
      some ((0 : Int32), w)
    else
      some ((1 : Int32), w)
  else
    bn (f_X3_pair fu a1 a2) fun x6 =>
    ck (vp_in x6 4096) <| nm (wI w 20 (Int32.toNatClampNeg x6) x3) fun w7 =>
    bn (f_X0_markAbove fu w7 a1 a2) fun w8 =>
    bn (f_X3_costOf fu x3) fun x9 =>
    bn (f_X3_costOf fu x2) fun x10 =>
    if x9 = x10 then
      some ((0 : Int32), w8)
    else
      some ((1 : Int32), w8)

noncomputable def bd_X0_settle_49 (fu : Nat) (y2 : Int32) (y3 : Int32) (y1 : Int32) (y4 : Int32) (w : WS) : Option ((Int32 × Int32 × WS) ⊕ (Int32 × WS)) :=
  nm (w.1 2 2) fun x1 =>
  if x1 ≤ y4 then
    some (.inr (y1, w))
  else
    ck (vp_in y4 64) <| nm (w.1 16 (Int32.toNatClampNeg y4)) fun x2 =>
    ck (vp_in y3 64) <| nm (w.2 22 (Int32.toNatClampNeg y3)) fun x3 =>
    bn (f_X3_has fu x3 x2) fun x4 =>
    if x4 = 0 then
      ck (vp_in y3 64) <| nm (w.2 23 (Int32.toNatClampNeg y3)) fun x5 =>
      bn (f_X3_has fu x5 x2) fun x6 =>
      if x6 = 0 then
        nm (y4 + 1) fun x7 =>
        some (.inl (y1, x7, w))
      else
        bn2 (f_X0_settleArc fu w x2 y3) fun x9 w8 =>
        nm ((y1 + x9)) fun x10 =>
        nm (y4 + 1) fun x11 =>
        some (.inl (x10, x11, w8))
    else
      bn2 (f_X0_settleArc fu w y3 x2) fun x13 w12 =>
      nm ((y1 + x13)) fun x14 =>
      ck (vp_in y3 64) <| nm (w12.2 23 (Int32.toNatClampNeg y3)) fun x15 =>
      bn (f_X3_has fu x15 x2) fun x16 =>
      if x16 = 0 then
        nm (y4 + 1) fun x17 =>
        some (.inl (x14, x17, w12))
      else
        bn2 (f_X0_settleArc fu w12 x2 y3) fun x19 w18 =>
        nm ((x14 + x19)) fun x20 =>
        nm (y4 + 1) fun x21 =>
        some (.inl (x20, x21, w18))

noncomputable def bd_X0_settle_4 (fu : Nat)  (y1 : Int32) (y2 : Int32) (w : WS) : Option ((Int32 × Int32 × WS) ⊕ (Int32 × WS)) :=
  nm (w.1 2 2) fun x1 =>
  if x1 ≤ y2 then
    some (.inr (y1, w))
  else
    ck (vp_in y2 64) <| nm (w.1 16 (Int32.toNatClampNeg y2)) fun x2 =>
    ck (vp_in x2 64) <| nm (w.2 22 (Int32.toNatClampNeg x2)) fun x3 =>
    if (lg_cmp x3 0) = 0 then
      ck (vp_in x2 64) <| nm (w.2 23 (Int32.toNatClampNeg x2)) fun x11 =>
      if (lg_cmp x11 0) = 0 then
        nm (y2 + 1) fun x19 =>
        some (.inl (y1, x19, w))
      else
        nm ((y2 + 1)) fun x12 =>
        bn2 (iter (fun q => bd_X0_settle_49 fu y2 x2 q.1 q.2.1 q.2.2) fu (y1, x12, w)) fun x13 w14 =>
        ck (vp_in x2 64) <| nm (wL w14 22 (Int32.toNatClampNeg x2) 0) fun w16 =>
        ck (vp_in x2 64) <| nm (wL w16 23 (Int32.toNatClampNeg x2) 0) fun w17 =>
        nm (y2 + 1) fun x18 =>
        some (.inl (x13, x18, w17))
    else
      nm ((y2 + 1)) fun x4 =>
      bn2 (iter (fun q => bd_X0_settle_49 fu y2 x2 q.1 q.2.1 q.2.2) fu (y1, x4, w)) fun x5 w6 =>
      ck (vp_in x2 64) <| nm (wL w6 22 (Int32.toNatClampNeg x2) 0) fun w8 =>
      ck (vp_in x2 64) <| nm (wL w8 23 (Int32.toNatClampNeg x2) 0) fun w9 =>
      nm (y2 + 1) fun x10 =>
      some (.inl (x5, x10, w9))

noncomputable def f_X0_settle (fu : Nat) (w : WS)  : Option (Int32 × WS) :=
  bn2 (iter (fun q => bd_X0_settle_4 fu q.1 q.2.1 q.2.2) fu ((0 : Int32), (0 : Int32), w)) fun x1 w2 =>
  some (x1, w2)

noncomputable def bd_X0_build_27 (fu : Nat) (y1 : Int32) (y2 : Int64) (y4 : Int32) (w : WS) : Option ((Int64 × Int32 × WS) ⊕ (WS)) :=
  nm (w.1 2 2) fun x1 =>
  if x1 ≤ y4 then
    some (.inr (w))
  else
    bn (f_X0_cheapest fu w y2) fun x2 =>
    ck (vp_in x2 64) <| nm (wI w 15 (Int32.toNatClampNeg x2) y4) fun w3 =>
    ck (vp_in y4 64) <| nm (wI w3 16 (Int32.toNatClampNeg y4) x2) fun w4 =>
    bn (f_X3_only fu x2) fun x5 =>
    nm ((y2 &&& (x5 ^^^ (-1)))) fun x6 =>
    ck (vp_in x2 64) <| nm (w4.2 19 (Int32.toNatClampNeg x2)) fun x7 =>
    ck (vp_in x2 64) <| nm (w4.2 18 (Int32.toNatClampNeg x2)) fun x8 =>
    bn (f_X0_bridge fu w4 (x7 &&& x6) (x8 &&& x6)) fun w9 =>
    nm (y4 + 1) fun x10 =>
    some (.inl (x6, x10, w9))

noncomputable def bd_X0_build_109 (fu : Nat) (y1 : Int32) (y4 : Int32) (w : WS) : Option ((Int32 × WS) ⊕ (WS)) :=
  nm (w.1 2 2) fun x1 =>
  if x1 ≤ y4 then
    some (.inr (w))
  else
    nm (w.1 2 3) fun x2 =>
    ck (vp_in y4 64) <| nm (w.2 18 (Int32.toNatClampNeg y4)) fun x3 =>
    bn (f_J13_bitCount_95d88 fu x3) fun x4 =>
    nm (wI w 2 3 (x2 + x4)) fun w5 =>
    nm (y4 + 1) fun x6 =>
    some (.inl (x6, w5))

noncomputable def f_X0_build (fu : Nat) (w : WS)  : Option WS :=
  nm (w.1 1 1) fun x1 =>
  nm (wI w 2 2 x1) fun w2 =>
  bn2 (f_X0_linkTurns fu w2) fun x4 w3 =>
  bn (f_X2_allRoads fu w3) fun x5 =>
  bn (iter (fun q => bd_X0_build_27 fu x4 q.1 q.2.1 q.2.2) fu (x5, (0 : Int32), w3)) fun w6 =>
  nm (wI w6 2 3 0) fun w8 =>
  bn (iter (fun q => bd_X0_build_109 fu x4 q.1 q.2) fu ((0 : Int32), w8)) fun w9 =>
  nm (w9.1 2 3) fun x11 =>
  nm (wI w9 2 4 (x11 - x4)) fun w12 =>
  nm (wF w12 20 (fillF 4096 536870912 (w12.1 20))) fun w13 =>
  nm (wF w13 21 (fillF 4096 536870912 (w13.1 21))) fun w14 =>
  bn (f_X2_allRoads fu w14) fun x15 =>
  bn (f_X2_allRoads fu w14) fun x16 =>
  bn (f_X0_renewSteps fu w14 x15 x16) fun w17 =>
  bn2 (f_X0_settle fu w17) fun x19 w18 =>
  nm (wI w18 2 1 1) fun w20 =>
  some w20

noncomputable def f_X0_renewRoad (fu : Nat) (w : WS) (a1 : Int32) : Option (Int32 × WS) :=
  nm (w.1 2 1) fun x1 =>
  if x1 = 0 then
    some ((0 : Int32), w)
  else
    bn (f_X2_forerunnersOf fu w a1) fun x2 =>
    bn (f_X3_only fu a1) fun x3 =>
    bn (f_X0_renewSteps fu w x2 x3) fun w4 =>
    bn (f_X3_only fu a1) fun x5 =>
    bn (f_X2_followersOf fu w4 a1) fun x6 =>
    bn (f_X0_renewSteps fu w4 x5 x6) fun w7 =>
    bn2 (f_X0_settle fu w7) fun x9 w8 =>
    some (x9, w8)

noncomputable def f_X0_renewTurn (fu : Nat) (w : WS) (a1 : Int32) (a2 : Int32) : Option (Int32 × WS) :=
  nm (w.1 2 1) fun x1 =>
  if x1 = 0 then
    some ((0 : Int32), w)
  else
    bn (f_X3_only fu a1) fun x2 =>
    bn (f_X3_only fu a2) fun x3 =>
    bn (f_X0_renewSteps fu w x2 x3) fun w4 =>
    bn2 (f_X0_settle fu w4) fun x6 w5 =>
    some (x6, w5)

noncomputable def f_X0_renewAll (fu : Nat) (w : WS)  : Option (Int32 × WS) :=
  nm (w.1 2 1) fun x1 =>
  if x1 = 0 then
    some ((0 : Int32), w)
  else
    bn (f_X2_allRoads fu w) fun x2 =>
    bn (f_X2_allRoads fu w) fun x3 =>
    bn (f_X0_renewSteps fu w x2 x3) fun w4 =>
    bn2 (f_X0_settle fu w4) fun x6 w5 =>
    some (x6, w5)

noncomputable def bd_X0_passOn_12 (fu : Nat) (y2 : Int32) (y4 : Int32) (y5 : Int32) (w : WS) : Option ((Int32 × WS) ⊕ (WS)) :=
  if y4 ≤ y5 then
    some (.inr (w))
  else
    ck (vp_in y5 64) <| nm (w.1 16 (Int32.toNatClampNeg y5)) fun x1 =>
    ck (vp_in y2 64) <| nm (w.2 18 (Int32.toNatClampNeg y2)) fun x2 =>
    bn (f_X3_has fu x2 x1) fun x3 =>
    if x3 = 0 then
      nm (y5 + 1) fun x4 =>
      some (.inl (x4, w))
    else
      ck (vp_in x1 64) <| nm (w.1 5 (Int32.toNatClampNeg x1)) fun x5 =>
      ck (vp_in y2 64) <| nm (w.1 5 (Int32.toNatClampNeg y2)) fun x6 =>
      bn (f_X3_pair fu y2 x1) fun x7 =>
      ck (vp_in x7 4096) <| nm (w.1 20 (Int32.toNatClampNeg x7)) fun x8 =>
      ck (vp_in x1 64) <| nm (wI w 5 (Int32.toNatClampNeg x1) (if (x6 + x8) < x5 then (x6 + x8) else x5)) fun w9 =>
      nm (y5 + 1) fun x10 =>
      some (.inl (x10, w9))

noncomputable def f_X0_passOn (fu : Nat) (w : WS) (a2 : Int32) (a3 : Int32) (a4 : Int32) : Option WS :=
  ck (vp_in a2 64) <| nm (w.1 5 (Int32.toNatClampNeg a2)) fun x1 =>
  if x1 < 536870912 then
    bn (iter (fun q => bd_X0_passOn_12 fu a2 a4 q.1 q.2) fu (a3, w)) fun w2 =>
    some w2
  else
    some w

noncomputable def bd_X0_spreadForward_2 (fu : Nat)  (y2 : Int32) (w : WS) : Option ((Int32 × WS) ⊕ (WS)) :=
  nm (w.1 2 2) fun x1 =>
  if x1 ≤ y2 then
    some (.inr (w))
  else
    ck (vp_in y2 64) <| nm (w.1 16 (Int32.toNatClampNeg y2)) fun x2 =>
    nm (w.1 2 2) fun x3 =>
    bn (f_X0_passOn fu w x2 (y2 + 1) x3) fun w4 =>
    nm (y2 + 1) fun x5 =>
    some (.inl (x5, w4))

noncomputable def bd_X0_spreadForward_41 (fu : Nat)  (y2 : Int32) (w : WS) : Option ((Int32 × WS) ⊕ (WS)) :=
  if y2 < 0 then
    some (.inr (w))
  else
    ck (vp_in y2 64) <| nm (w.1 16 (Int32.toNatClampNeg y2)) fun x1 =>
    bn (f_X0_passOn fu w x1 (0 : Int32) y2) fun w2 =>
    nm (y2 + (-1)) fun x3 =>
    some (.inl (x3, w2))

noncomputable def f_X0_spreadForward (fu : Nat) (w : WS)  : Option WS :=
  bn (iter (fun q => bd_X0_spreadForward_2 fu q.1 q.2) fu ((0 : Int32), w)) fun w1 =>
  nm (w1.1 2 2) fun x3 =>
  nm ((x3 - 1)) fun x4 =>
  bn (iter (fun q => bd_X0_spreadForward_41 fu q.1 q.2) fu (x4, w1)) fun w5 =>
  some w5

noncomputable def f_X2_append (fu : Nat) (w : WS) (a1 : Int32) (a2 : Int32) (a3 : Int32) : Option (Int32 × WS) :=
  nm (w.1 1 1) fun x1 =>
  ck (vp_in x1 64) <| nm (wI w 9 (Int32.toNatClampNeg x1) a1) fun w2 =>
  ck (vp_in x1 64) <| nm (wI w2 10 (Int32.toNatClampNeg x1) a2) fun w3 =>
  ck (vp_in x1 64) <| nm (wI w3 11 (Int32.toNatClampNeg x1) a3) fun w4 =>
  ck (vp_in a1 32) <| nm (w4.2 13 (Int32.toNatClampNeg a1)) fun x5 =>
  bn (f_X3_only fu x1) fun x6 =>
  ck (vp_in a1 32) <| nm (wL w4 13 (Int32.toNatClampNeg a1) (x5 ||| x6)) fun w7 =>
  ck (vp_in a2 32) <| nm (w7.2 14 (Int32.toNatClampNeg a2)) fun x8 =>
  bn (f_X3_only fu x1) fun x9 =>
  ck (vp_in a2 32) <| nm (wL w7 14 (Int32.toNatClampNeg a2) (x8 ||| x9)) fun w10 =>
  nm (w10.2 1 8) fun x11 =>
  bn (f_X3_only fu x1) fun x12 =>
  nm (wL w10 1 8 (x11 ||| x12)) fun w13 =>
  nm (w13.1 1 1) fun x14 =>
  nm (wI w13 1 1 (x14 + 1)) fun w15 =>
  some (x1, w15)

noncomputable def f_X2_openOrClose (fu : Nat) (w : WS) (a1 : Int32) (a2 : Int32) : Option WS :=
  nm (w.2 1 8) fun x1 =>
  bn (f_X3_only fu a1) fun x2 =>
  nm ((x1 &&& (x2 ^^^ (-1)))) fun x3 =>
  if a2 = 0 then
    nm (wL w 1 8 x3) fun w4 =>
    some w4
  else
    bn (f_X3_only fu a1) fun x5 =>
    nm (wL w 1 8 (x3 ||| x5)) fun w6 =>
    some w6

noncomputable def f_X3_addJunction (fu : Nat) (w : WS)  : Option ((Int32 × WS) ⊕ (String × WS)) :=
  nm (w.1 1 0) fun x1 =>
  if x1 < 32 then
    nm (w.1 1 0) fun x2 =>
    nm (wI w 1 0 (x2 + 1)) fun w3 =>
    nm (w3.1 1 0) fun x4 =>
    some (.inl ((x4 - 1), w3))
  else
    some (.inr ("java/lang/IllegalStateException", w))

noncomputable def f_X3_requireJunction (fu : Nat) (w : WS) (a1 : Int32) : Option (WS ⊕ (String × WS)) :=
  if a1 < 0 then
    some (.inr ("java/lang/IndexOutOfBoundsException", w))
  else
    nm (w.1 1 0) fun x1 =>
    if a1 < x1 then
      some (.inl w)
    else
      some (.inr ("java/lang/IndexOutOfBoundsException", w))

noncomputable def f_X3_requireWeight (fu : Nat) (w : WS) (a1 : Int32) : Option (WS ⊕ (String × WS)) :=
  if a1 < 1 then
    some (.inr ("java/lang/IllegalArgumentException", w))
  else
    if a1 ≤ 10000 then
      some (.inl w)
    else
      some (.inr ("java/lang/IllegalArgumentException", w))

noncomputable def f_X3_addRoad (fu : Nat) (w : WS) (a1 : Int32) (a2 : Int32) (a3 : Int32) : Option ((Int32 × WS) ⊕ (String × WS)) :=
  bx (f_X3_requireJunction fu w a1) (fun q => some (.inr q)) fun w1 =>
  bx (f_X3_requireJunction fu w1 a2) (fun q => some (.inr q)) fun w2 =>
  if a1 = a2 then
    some (.inr ("java/lang/IllegalArgumentException", w2))
  else
    bx (f_X3_requireWeight fu w2 a3) (fun q => some (.inr q)) fun w3 =>
    nm (w3.1 1 1) fun x4 =>
    if x4 < 64 then
      nm (wI w3 2 1 0) fun w5 =>
      bn2 (f_X2_append fu w5 a1 a2 a3) fun x7 w6 =>
      some (.inl (x7, w6))
    else
      some (.inr ("java/lang/IllegalStateException", w3))

noncomputable def f_X3_requireRoad (fu : Nat) (w : WS) (a1 : Int32) : Option (WS ⊕ (String × WS)) :=
  if a1 < 0 then
    some (.inr ("java/lang/IndexOutOfBoundsException", w))
  else
    nm (w.1 1 1) fun x1 =>
    if a1 < x1 then
      some (.inl w)
    else
      some (.inr ("java/lang/IndexOutOfBoundsException", w))

noncomputable def f_X3_setWeight (fu : Nat) (w : WS) (a1 : Int32) (a2 : Int32) : Option ((Int32 × WS) ⊕ (String × WS)) :=
  bx (f_X3_requireRoad fu w a1) (fun q => some (.inr q)) fun w1 =>
  bx (f_X3_requireWeight fu w1 a2) (fun q => some (.inr q)) fun w2 =>
  ck (vp_in a1 64) <| nm (wI w2 11 (Int32.toNatClampNeg a1) a2) fun w3 =>
  bn2 (f_X0_renewRoad fu w3 a1) fun x5 w4 =>
  some (.inl (x5, w4))

noncomputable def f_X3_setOpen (fu : Nat) (w : WS) (a1 : Int32) (a2 : Int32) : Option ((Int32 × WS) ⊕ (String × WS)) :=
  bx (f_X3_requireRoad fu w a1) (fun q => some (.inr q)) fun w1 =>
  bn (f_X2_openOrClose fu w1 a1 a2) fun w2 =>
  bn2 (f_X0_renewRoad fu w2 a1) fun x4 w3 =>
  some (.inl (x4, w3))

noncomputable def f_X3_requireTurn (fu : Nat) (w : WS) (a1 : Int32) (a2 : Int32) : Option (WS ⊕ (String × WS)) :=
  bx (f_X3_requireRoad fu w a1) (fun q => some (.inr q)) fun w1 =>
  bx (f_X3_requireRoad fu w1 a2) (fun q => some (.inr q)) fun w2 =>
  ck (vp_in a1 64) <| nm (w2.1 10 (Int32.toNatClampNeg a1)) fun x3 =>
  ck (vp_in a2 64) <| nm (w2.1 9 (Int32.toNatClampNeg a2)) fun x4 =>
  if x3 = x4 then
    some (.inl w2)
  else
    some (.inr ("java/lang/IllegalArgumentException", w2))

noncomputable def f_X3_setTurn (fu : Nat) (w : WS) (a1 : Int32) (a2 : Int32) (a3 : Int32) : Option ((Int32 × WS) ⊕ (String × WS)) :=
  bx (f_X3_requireTurn fu w a1 a2) (fun q => some (.inr q)) fun w1 =>
  if a3 < (-2) then
    some (.inr ("java/lang/IllegalArgumentException", w1))
  else
    if a3 ≤ 1000 then
      bn (f_X3_pair fu a1 a2) fun x2 =>
      ck (vp_in x2 4096) <| nm (wI w1 12 (Int32.toNatClampNeg x2) a3) fun w3 =>
      bn2 (f_X0_renewTurn fu w3 a1 a2) fun x5 w4 =>
      some (.inl (x5, w4))
    else
      some (.inr ("java/lang/IllegalArgumentException", w1))

noncomputable def f_X3_setUTurn (fu : Nat) (w : WS) (a1 : Int32) : Option ((Int32 × WS) ⊕ (String × WS)) :=
  if a1 < (-1) then
    some (.inr ("java/lang/IllegalArgumentException", w))
  else
    if a1 ≤ 1000 then
      nm (wI w 1 9 a1) fun w1 =>
      bn2 (f_X0_renewAll fu w1) fun x3 w2 =>
      some (.inl (x3, w2))
    else
      some (.inr ("java/lang/IllegalArgumentException", w))

noncomputable def f_X3_prepare (fu : Nat) (w : WS)  : Option ((Int32 × WS) ⊕ (String × WS)) :=
  nm (w.1 1 1) fun x1 =>
  if x1 = 0 then
    some (.inr ("java/lang/IllegalStateException", w))
  else
    nm (w.1 2 1) fun x2 =>
    if x2 = 0 then
      bn (f_X0_build fu w) fun w4 =>
      nm (w4.1 2 4) fun x5 =>
      some (.inl (x5, w4))
    else
      nm (w.1 2 4) fun x3 =>
      some (.inl (x3, w))

noncomputable def f_X3_requireHierarchy (fu : Nat) (w : WS)  : Option (WS ⊕ (String × WS)) :=
  nm (w.1 2 1) fun x1 =>
  if x1 = 0 then
    some (.inr ("java/lang/IllegalStateException", w))
  else
    some (.inl w)

noncomputable def f_X3_hasArc (fu : Nat) (w : WS) (a1 : Int32) (a2 : Int32) : Option ((Int32 × WS) ⊕ (String × WS)) :=
  bx (f_X3_requireHierarchy fu w) (fun q => some (.inr q)) fun w1 =>
  bx (f_X3_requireRoad fu w1 a1) (fun q => some (.inr q)) fun w2 =>
  bx (f_X3_requireRoad fu w2 a2) (fun q => some (.inr q)) fun w3 =>
  ck (vp_in a1 64) <| nm (w3.2 18 (Int32.toNatClampNeg a1)) fun x4 =>
  bn (f_X3_has fu x4 a2) fun x5 =>
  ck (x5 = 0 ∨ x5 = 1) <|
  some (.inl (x5, w3))

noncomputable def f_X3_arcCost (fu : Nat) (w : WS) (a1 : Int32) (a2 : Int32) : Option ((Int32 × WS) ⊕ (String × WS)) :=
  bx (f_X3_requireHierarchy fu w) (fun q => some (.inr q)) fun w1 =>
  bx (f_X3_requireRoad fu w1 a1) (fun q => some (.inr q)) fun w2 =>
  bx (f_X3_requireRoad fu w2 a2) (fun q => some (.inr q)) fun w3 =>
  ck (vp_in a1 64) <| nm (w3.2 18 (Int32.toNatClampNeg a1)) fun x4 =>
  bn (f_X3_has fu x4 a2) fun x5 =>
  if x5 = 0 then
    some (.inr ("java/util/NoSuchElementException", w3))
  else
    bn (f_X3_pair fu a1 a2) fun x6 =>
    ck (vp_in x6 4096) <| nm (w3.1 20 (Int32.toNatClampNeg x6)) fun x7 =>
    bn (f_X3_costOf fu x7) fun x8 =>
    some (.inl (x8, w3))

noncomputable def bd_X3_spreadToJunctions_22 (fu : Nat)  (y1 : Int32) (w : WS) : Option ((Int32 × WS) ⊕ (WS)) :=
  nm (w.1 1 1) fun x1 =>
  if x1 ≤ y1 then
    some (.inr (w))
  else
    ck (vp_in y1 64) <| nm (w.1 10 (Int32.toNatClampNeg y1)) fun x2 =>
    ck (vp_in x2 32) <| nm (w.1 17 (Int32.toNatClampNeg x2)) fun x3 =>
    ck (vp_in y1 64) <| nm (w.1 5 (Int32.toNatClampNeg y1)) fun x4 =>
    ck (vp_in x2 32) <| nm (wI w 17 (Int32.toNatClampNeg x2) (if x4 < x3 then x4 else x3)) fun w5 =>
    nm (y1 + 1) fun x6 =>
    some (.inl (x6, w5))

noncomputable def f_X3_spreadToJunctions (fu : Nat) (w : WS)  : Option WS :=
  bn (f_X0_spreadForward fu w) fun w1 =>
  nm (wF w1 17 (fillF 32 536870912 (w1.1 17))) fun w2 =>
  bn (iter (fun q => bd_X3_spreadToJunctions_22 fu q.1 q.2) fu ((0 : Int32), w2)) fun w3 =>
  some w3

noncomputable def bd_X3_searchFrom_30 (fu : Nat) (y1 : Int32) (y2 : Int64) (y4 : Int32) (w : WS) : Option ((Int32 × WS) ⊕ (WS)) :=
  nm (w.1 1 1) fun x1 =>
  if x1 ≤ y4 then
    some (.inr (w))
  else
    bn (f_X3_has fu y2 y4) fun x2 =>
    if x2 = 0 then
      nm (y4 + 1) fun x3 =>
      some (.inl (x3, w))
    else
      bn (f_X2_roadLength fu w y4) fun x4 =>
      ck (vp_in y4 64) <| nm (wI w 5 (Int32.toNatClampNeg y4) x4) fun w5 =>
      nm (y4 + 1) fun x6 =>
      some (.inl (x6, w5))

noncomputable def f_X3_searchFrom (fu : Nat) (w : WS) (a1 : Int32) : Option WS :=
  nm (wF w 5 (fillF 64 536870912 (w.1 5))) fun w1 =>
  ck (vp_in a1 32) <| nm (w1.2 13 (Int32.toNatClampNeg a1)) fun x2 =>
  nm (w1.2 1 8) fun x3 =>
  nm ((x2 &&& x3)) fun x4 =>
  bn (iter (fun q => bd_X3_searchFrom_30 fu a1 x4 q.1 q.2) fu ((0 : Int32), w1)) fun w5 =>
  bn (f_X3_spreadToJunctions fu w5) fun w7 =>
  ck (vp_in a1 32) <| nm (wI w7 17 (Int32.toNatClampNeg a1) 0) fun w8 =>
  some w8

noncomputable def f_X3_foundCost (fu : Nat) (w : WS) (a1 : Int32) : Option Int32 :=
  ck (vp_in a1 32) <| nm (w.1 17 (Int32.toNatClampNeg a1)) fun x1 =>
  bn (f_X3_costOf fu x1) fun x2 =>
  some x2

noncomputable def f_X3_costBetween (fu : Nat) (w : WS) (a1 : Int32) (a2 : Int32) : Option (Int32 × WS) :=
  bn (f_X3_searchFrom fu w a1) fun w1 =>
  bn (f_X3_foundCost fu w1 a2) fun x2 =>
  some (x2, w1)

noncomputable def f_X3_distance (fu : Nat) (w : WS) (a1 : Int32) (a2 : Int32) : Option ((Int32 × WS) ⊕ (String × WS)) :=
  bx (f_X3_requireHierarchy fu w) (fun q => some (.inr q)) fun w1 =>
  bx (f_X3_requireJunction fu w1 a1) (fun q => some (.inr q)) fun w2 =>
  bx (f_X3_requireJunction fu w2 a2) (fun q => some (.inr q)) fun w3 =>
  bn2 (f_X3_costBetween fu w3 a1 a2) fun x5 w4 =>
  some (.inl (x5, w4))

