noncomputable def bd_L_law_88 (fu : Nat) (L : Nat) (xs : Nat → Int32) (w : WS) (y11 : Int32) (f : WS) : Option ((Int32 × WS) ⊕ (WS)) :=
  if 81 ≤ y11 then
    some (.inr (f))
  else
    ck (vp_in y11 81) <| nm (wI f 3 (Int32.toNatClampNeg y11) ((-2) : Int32)) fun f1 =>
    nm (y11 + 1) fun x2 =>
    some (.inl (x2, f1))

noncomputable def bd_L_law_111 (fu : Nat) (L : Nat) (xs : Nat → Int32) (w : WS) (y11 : Int32) (f : WS) : Option ((Int32 × WS) ⊕ (WS)) :=
  if 9 ≤ y11 then
    some (.inr (f))
  else
    ck (vp_in y11 9) <| nm (wI f 4 (Int32.toNatClampNeg y11) (vp_nar .boolean 1)) fun f1 =>
    nm (y11 + 1) fun x2 =>
    some (.inl (x2, f1))

noncomputable def bd_L_law_222 (fu : Nat) (L : Nat) (xs : Nat → Int32) (f : WS) (y11 : Int32) (y13 : Int32) (y14 : Int32) (w : WS) : Option ((Int32 × WS) ⊕ (WS)) :=
  if 5 ≤ y14 then
    some (.inr (w))
  else
    bxn2 (f_X3_distance fu w y14 y13) fun x1 w2 =>
    bn (f_L_distance fu w2 f y14 y13) fun x3 =>
    if x1 = x3 then
      nm (y14 + 1) fun x5 =>
      some (.inl (x5, w2))
    else
      none

noncomputable def bd_L_law_194 (fu : Nat) (L : Nat) (xs : Nat → Int32) (y11 : Int32) (y13 : Int32) (w : WS) (f : WS) : Option ((Int32 × WS × WS) ⊕ (WS × WS)) :=
  if 5 ≤ y13 then
    some (.inr (w, f))
  else
    ck (vp_in 0 1) <| nm (f.1 5 (Int32.toNatClampNeg 0)) fun x1 =>
    bn (f_L_find fu w f x1 y13) fun f2 =>
    bn (iter (fun q => bd_L_law_222 fu L xs f2 y11 y13 q.1 q.2) fu ((0 : Int32), w)) fun w4 =>
    nm (y13 + 1) fun x6 =>
    some (.inl (x6, w4, f2))

noncomputable def bd_L_law_133 (fu : Nat) (L : Nat) (xs : Nat → Int32)  (y11 : Int32) (w : WS) (f : WS) : Option ((Int32 × WS × WS) ⊕ (WS × WS)) :=
  if 8 ≤ y11 then
    some (.inr (w, f))
  else
    bn2 (f_L_read6 fu w f) fun w1 f2 =>
    ck (¬ ((9 : Int32) + y11) < 0) <| nm (cellV L xs ((9 : Int32) + y11)) fun x4 =>
    bn3 (f_L_change fu w1 f2 x4) fun x5 w6 f7 =>
    bn2 (f_L_read7 fu w6 f7) fun w9 f10 =>
    bn (f_L_unlike fu w9 f10) fun x12 =>
    if x5 = x12 then
      bn2 (iter (fun q => bd_L_law_194 fu L xs y11 q.1 q.2.1 q.2.2) fu ((0 : Int32), w9, f10)) fun w14 f15 =>
      nm (y11 + 1) fun x17 =>
      some (.inl (x17, w14, f15))
    else
      none

noncomputable def f_L_main (fu : Nat) (L : Nat) (xs : Nat → Int32) (w f : WS) : Option Unit :=
  bn (iter (fun q => bd_L_law_88 fu L xs w q.1 q.2) fu ((0 : Int32), f)) fun f1 =>
  bn (iter (fun q => bd_L_law_111 fu L xs w q.1 q.2) fu ((0 : Int32), f1)) fun f3 =>
  bn2 (iter (fun q => bd_L_law_133 fu L xs q.1 q.2.1 q.2.2) fu ((0 : Int32), w, f3)) fun w5 f6 =>
  some ()
