theorem va_nm_of {s : State} {a b : ClassId} {ty : FieldType} (h : ∀ C, ty ≠ .object C) (h1 : va_RA s a ty) (h2 : va_RA s b ty) : a = b := by
  cases ty <;> first | exact absurd rfl (h _) | exact Option.some.inj (Eq.trans (Eq.symm h1) h2)
section NR
variable {p : Program} {l : Launch} {e : Env} {R : Room} {s : State} {m : MethodId} {args : Array Value} {below : List Frame} {meth : Method} {c : Code} {D : va_G} {kA : Nat → ClassId} {A : Nat → Prop} {nL cells slots : Nat} {Q : State → Prop} {cc : ByteArray} {own : String} {ws : va_W} {pc : Nat} {lv : List (Nat × Value)} {st : List Value}
theorem x_newI (X : CX p m c cc nL s args own) (E : EX l s D kA A) (hw : Cond.arrayClass .int ∈ WG) {n : Int32} {N : Nat} (hn : ¬ n < 0) (hN : n.toNatClampNeg = N) (hbytes : N * 4 ≤ 536870912) (hc : cells + 1 ≤ R.cells) (hs : slots + N ≤ R.slots) (hd : decode cc pc = .ok (.newarray .int, 2)) (kk : ∀ q : Nat, CS p l e R s m args below meth c D A nL (cells + 1) (slots + N) Q (ws ++ [(q, .inl (kA 0, N, .inl (fun _ => 0)))]) (pc + 2) lv (.ref q :: st)) : CS p l e R s m args below meth c D A nL cells slots Q ws pc lv (.int n :: st) := by
  intro H locs ls hP hD hS hl
  refine va_newa (atype := .int) X.1 X.2.1 (X.2.2.2.2 _ hw) (ty := .int) rfl E.1.1 hP hD hS E.2.2.1 (N' := N) (a0 := (N, .inl (fun _ => 0))) (fun cA => by rw [vp_cell_i]; rfl) hn hN hbytes hc hs hd (fun q cA H1 hK1 hP1 hD1 hS1 => ?_)
  have e1 : cA = kA 0 := va_nm_of (fun C h => by cases h) (hK1.2 4 _ rfl).2 (hK1.2 0 _ rfl).2
  rw [e1] at hP1 hD1
  exact kk q H1 locs ls hP1 hD1 hS1 hl
theorem x_newJ (X : CX p m c cc nL s args own) (E : EX l s D kA A) (hw : Cond.arrayClass .long ∈ WG) {n : Int32} {N : Nat} (hn : ¬ n < 0) (hN : n.toNatClampNeg = N) (hbytes : N * 8 ≤ 536870912) (hc : cells + 1 ≤ R.cells) (hs : slots + N ≤ R.slots) (hd : decode cc pc = .ok (.newarray .long, 2)) (kk : ∀ q : Nat, CS p l e R s m args below meth c D A nL (cells + 1) (slots + N) Q (ws ++ [(q, .inl (kA 1, N, .inr (.inl (fun _ => 0))))]) (pc + 2) lv (.ref q :: st)) : CS p l e R s m args below meth c D A nL cells slots Q ws pc lv (.int n :: st) := by
  intro H locs ls hP hD hS hl
  refine va_newa (atype := .long) X.1 X.2.1 (X.2.2.2.2 _ hw) (ty := .long) rfl E.1.1 hP hD hS E.2.2.1 (N' := N) (a0 := (N, .inr (.inl (fun _ => 0)))) (fun cA => by rw [vp_cell_l]; rfl) hn hN hbytes hc hs hd (fun q cA H1 hK1 hP1 hD1 hS1 => ?_)
  have e1 : cA = kA 1 := va_nm_of (fun C h => by cases h) (hK1.2 4 _ rfl).2 (hK1.2 1 _ rfl).2
  rw [e1] at hP1 hD1
  exact kk q H1 locs ls hP1 hD1 hS1 hl
theorem x_newZ (X : CX p m c cc nL s args own) (E : EX l s D kA A) (hw : Cond.arrayClass .boolean ∈ WG) {n : Int32} {N : Nat} (hn : ¬ n < 0) (hN : n.toNatClampNeg = N) (hbytes : N * 1 ≤ 536870912) (hc : cells + 1 ≤ R.cells) (hs : slots + N ≤ R.slots) (hd : decode cc pc = .ok (.newarray .boolean, 2)) (kk : ∀ q : Nat, CS p l e R s m args below meth c D A nL (cells + 1) (slots + N) Q (ws ++ [(q, .inl (kA 2, N, .inl (fun _ => 0)))]) (pc + 2) lv (.ref q :: st)) : CS p l e R s m args below meth c D A nL cells slots Q ws pc lv (.int n :: st) := by
  intro H locs ls hP hD hS hl
  refine va_newa (atype := .boolean) X.1 X.2.1 (X.2.2.2.2 _ hw) (ty := .boolean) rfl E.1.1 hP hD hS E.2.2.1 (N' := N) (a0 := (N, .inl (fun _ => 0))) (fun cA => by rw [vp_cell_i]; rfl) hn hN hbytes hc hs hd (fun q cA H1 hK1 hP1 hD1 hS1 => ?_)
  have e1 : cA = kA 2 := va_nm_of (fun C h => by cases h) (hK1.2 4 _ rfl).2 (hK1.2 2 _ rfl).2
  rw [e1] at hP1 hD1
  exact kk q H1 locs ls hP1 hD1 hS1 hl
theorem x_newD (X : CX p m c cc nL s args own) (E : EX l s D kA A) (hw : Cond.arrayClass .double ∈ WG) {n : Int32} {N : Nat} (hn : ¬ n < 0) (hN : n.toNatClampNeg = N) (hbytes : N * 8 ≤ 536870912) (hc : cells + 1 ≤ R.cells) (hs : slots + N ≤ R.slots) (hd : decode cc pc = .ok (.newarray .double, 2)) (kk : ∀ q : Nat, CS p l e R s m args below meth c D A nL (cells + 1) (slots + N) Q (ws ++ [(q, .inl (kA 3, N, .inr (.inr (.inr (.inl (fun _ => 0))))))]) (pc + 2) lv (.ref q :: st)) : CS p l e R s m args below meth c D A nL cells slots Q ws pc lv (.int n :: st) := by
  intro H locs ls hP hD hS hl
  refine va_newa (atype := .double) X.1 X.2.1 (X.2.2.2.2 _ hw) (ty := .double) rfl E.1.1 hP hD hS E.2.2.1 (N' := N) (a0 := (N, .inr (.inr (.inr (.inl (fun _ => 0)))))) (fun cA => by rw [vp_cell_d]; rfl) hn hN hbytes hc hs hd (fun q cA H1 hK1 hP1 hD1 hS1 => ?_)
  have e1 : cA = kA 3 := va_nm_of (fun C h => by cases h) (hK1.2 4 _ rfl).2 (hK1.2 3 _ rfl).2
  rw [e1] at hP1 hD1
  exact kk q H1 locs ls hP1 hD1 hS1 hl
end NR
noncomputable def bd_X4_reach_37 (fu : Nat) (y1 : Int32) (y2 : Int32) (y4 : Int32) (w : WS) (f : (Nat → Int32)) : Option ((Int32 × WS × (Nat → Int32)) ⊕ (WS × (Nat → Int32))) :=
  nm (w.1 0 1) fun x1 =>
  if x1 ≤ y4 then
    some (.inr (w, f))
  else
    bn2 (f_X4_distanceBetween fu w y1 y4) fun x3 w2 =>
    ck (vp_in y4 32) <| nm (upd f (Int32.toNatClampNeg y4) x3) fun f4 =>
    nm (y4 + 1) fun x5 =>
    some (.inl (x5, w2, f4))

noncomputable def bd_X4_reach_105 (fu : Nat) (f : (Nat → Int32)) (y2 : Int32) (y4 : Int32) (y5 : Int32) (w : WS) : Option ((Int32 × WS) ⊕ (Int32 × WS)) :=
  if y5 ≤ 0 then
    some (.inr (y5, w))
  else
    ck (vp_in (y5 - 1) 32) <| nm (w.1 19 (Int32.toNatClampNeg (y5 - 1))) fun x1 =>
    ck (vp_in x1 32) <| nm (f (Int32.toNatClampNeg x1)) fun x2 =>
    ck (vp_in y4 32) <| nm (f (Int32.toNatClampNeg y4)) fun x3 =>
    if x2 ≤ x3 then
      some (.inr (y5, w))
    else
      ck (vp_in (y5 - 1) 32) <| nm (w.1 19 (Int32.toNatClampNeg (y5 - 1))) fun x4 =>
      ck (vp_in y5 32) <| nm (wI w 19 (Int32.toNatClampNeg y5) x4) fun w5 =>
      nm (y5 + (-1)) fun x6 =>
      some (.inl (x6, w5))

noncomputable def bd_X4_reach_71 (fu : Nat) (f : (Nat → Int32)) (y2 : Int32) (y4 : Int32) (w : WS) : Option ((Int32 × WS) ⊕ (WS)) :=
  nm (w.1 0 1) fun x1 =>
  if x1 ≤ y4 then
    some (.inr (w))
  else
    ck (vp_in y4 32) <| nm (f (Int32.toNatClampNeg y4)) fun x2 =>
    if x2 = (-1) then
      nm (y4 + 1) fun x3 =>
      some (.inl (x3, w))
    else
      ck (vp_in y4 32) <| nm (f (Int32.toNatClampNeg y4)) fun x4 =>
      if x4 ≤ y2 then
        nm (w.1 0 29) fun x5 =>
        bn2 (iter (fun q => bd_X4_reach_105 fu f y2 y4 q.1 q.2) fu (x5, w)) fun x6 w7 =>
        ck (vp_in x6 32) <| nm (wI w7 19 (Int32.toNatClampNeg x6) y4) fun w9 =>
        nm (w9.1 0 29) fun x10 =>
        nm (wI w9 0 29 (x10 + 1)) fun w11 =>
        nm (y4 + 1) fun x12 =>
        some (.inl (x12, w11))
      else
        nm (y4 + 1) fun x13 =>
        some (.inl (x13, w))

noncomputable def f_X4_reach (fu : Nat) (w : WS) (a1 : Int32) (a2 : Int32) : Option (Int32 × WS) :=
  bn (f_X4_lookedAt fu w a1 a1) fun x1 =>
  nm (wI w 0 0 x1) fun w2 =>
  nm (w2.1 0 0) fun x3 =>
  if x3 = 0 then
    if 0 ≤ a2 then
      nm (fun _ => 0) fun (f0 : Nat → Int32) =>
      bn2 (iter (fun q => bd_X4_reach_37 fu a1 a2 q.1 q.2.1 q.2.2) fu ((0 : Int32), w2, f0)) fun w4 f5 =>
      nm (wI w4 0 29 0) fun w7 =>
      bn (iter (fun q => bd_X4_reach_71 fu f5 a2 q.1 q.2) fu ((0 : Int32), w7)) fun w8 =>
      nm (w8.1 0 29) fun x10 =>
      some (x10, w8)
    else
      bn2 (f_X4_fail fu w2 (3 : Int32)) fun x12 w11 =>
      some (x12, w11)
  else
    some ((0 : Int32), w2)

section
variable {p : Program} {l : Launch} {e : Env} {s : State} {m : MethodId} {args : Array Value} {below : List Frame} {meth : Method} {c : Code} {D : va_G} {kA : Nat → ClassId} {A : Nat → Prop} {Q : State → Prop} {ad : Nat → Nat}
abbrev rm_X4_reach : Room := { frames := 5, cells := 1, slots := 32, locals := 116 }
set_option maxRecDepth 100000 in
set_option maxHeartbeats 4000000 in
theorem lp_X4_reach_37 (X : CX p m c cX4_reach 6 s args RX4) (E : EX l s D kA A) {q9 : Nat} (fu : Nat) (y1 : Int32) (y2 : Int32) : ∀ (n : Nat) (y4 : Int32) (w : WS) (f : (Nat → Int32)) (rw : WS) (rf : (Nat → Int32)), iter (fun q => bd_X4_reach_37 fu y1 y2 q.1 q.2.1 q.2.2) n (y4, w, f) = some (rw, rf) → CS p l e rm_X4_reach s m args below meth c D A 6 1 32 Q ((picM kA ad rw) ++ [(q9, .inl (kA 0, 32, .inl rf))]) 63 [(0, .ref (ad 0)), (2, .int y2), (3, .ref q9)] [] → CS p l e rm_X4_reach s m args below meth c D A 6 1 32 Q ((picM kA ad w) ++ [(q9, .inl (kA 0, 32, .inl f))]) 37 [(0, .ref (ad 0)), (1, .int y1), (2, .int y2), (3, .ref q9), (4, .int y4)] [] := by
  intro n
  induction n with
  | zero =>
    intro y4 w f rw rf hit kk
    exact (iter_0 hit).elim
  | succ n ih =>
    intro y4 w f rw rf hit kk
    obtain ⟨o, h1, hit⟩ := iter_one hit
    have hf : bd_X4_reach_37 fu y1 y2 y4 w f = some o := h1
    unfold bd_X4_reach_37 at hf
    refine x_iload X dX4_reach_37 4 rfl ?_
    refine x_aload_n X dX4_reach_39 0 rfl ?_
    refine x_get X E.1.1 (T := TX4) (C := RX4) inW4 0 rfl rfl 1 (by decide) w_831 rfl (v := .int (w.1 0 1)) rfl dX4_reach_40 ?_
    refine x_nmI hf (fun x1 hf => ?_)
    refine x_icmp_ge X (tgt := 63) dX4_reach_43 (by decide) hf (fun hf => ?_) (fun hf => ?_)
    · cases hf
      cases hit
      refine x_lpick (lv2 := [(0, .ref (ad 0)), (2, .int y2), (3, .ref q9)]) [0, 2, 3] rfl ?_
      exact kk
    · refine x_aload_n X dX4_reach_46 3 rfl ?_
      refine x_iload X dX4_reach_47 4 rfl ?_
      refine x_aload_n X dX4_reach_49 0 rfl ?_
      refine x_iload_n X dX4_reach_50 1 rfl ?_
      refine x_iload X dX4_reach_51 4 rfl ?_
      obtain ⟨x3, w2, hx3, hf⟩ := bn2_some hf
      refine x_callVs_i X E (As := [.int y1, .int y4]) (rest := [.int y4, .ref q9]) (n := 2) (u := picM kA ad w) (u2 := picM kA ad w2) [] [(q9, .inl (kA 0, 32, .inl f))] rfl (goodV w_1055 w_1057 s_41 w_52 w_1058) (met_X4_distanceBetween l E.2.2.2 D kA ad fu w y1 y4 x3 w2 hx3) rfl rfl (by decide +kernel) ⟨by decide, by decide⟩ 0 rfl (qc := (RX4, TX4, _)) rfl rfl rfl rfl (Nat.le_of_ble_eq_true rfl) dX4_reach_53 ⟨by decide, by decide⟩ _ rfl ?_
      refine x_iast X E.1.1 22 rfl dX4_reach_56 hf (fun f => picM kA ad w2 ++ [(q9, .inl (kA 0, 32, .inl f))]) rfl (fun f4 hf => ?_)
      refine x_iinc X dX4_reach_57 4 rfl (by decide) (y4 + 1) rfl hf (fun x5 => [(4, .int x5), (0, .ref (ad 0)), (1, .int y1), (2, .int y2), (3, .ref q9)]) (fun _ => rfl) (fun x5 hf => ?_)
      refine x_goto X (tgt := 37) dX4_reach_60 (by decide) ?_
      cases hf
      refine x_lpick (lv2 := [(0, .ref (ad 0)), (1, .int y1), (2, .int y2), (3, .ref q9), (4, .int x5)]) [1, 2, 3, 4, 0] rfl ?_
      exact ih _ _ _ _ _ hit kk
set_option maxRecDepth 100000 in
set_option maxHeartbeats 4000000 in
theorem lp_X4_reach_105 (X : CX p m c cX4_reach 6 s args RX4) (E : EX l s D kA A) {q9 : Nat} (fu : Nat) (f : (Nat → Int32)) (y2 : Int32) (y4 : Int32) : ∀ (n : Nat) (y5 : Int32) (w : WS) (r5 : Int32) (rw : WS), iter (fun q => bd_X4_reach_105 fu f y2 y4 q.1 q.2) n (y5, w) = some (r5, rw) → CS p l e rm_X4_reach s m args below meth c D A 6 1 32 Q ((picM kA ad rw) ++ [(q9, .inl (kA 0, 32, .inl f))]) 150 [(0, .ref (ad 0)), (2, .int y2), (3, .ref q9), (4, .int y4), (5, .int r5)] [] → CS p l e rm_X4_reach s m args below meth c D A 6 1 32 Q ((picM kA ad w) ++ [(q9, .inl (kA 0, 32, .inl f))]) 105 [(0, .ref (ad 0)), (2, .int y2), (3, .ref q9), (4, .int y4), (5, .int y5)] [] := by
  intro n
  induction n with
  | zero =>
    intro y5 w r5 rw hit kk
    exact (iter_0 hit).elim
  | succ n ih =>
    intro y5 w r5 rw hit kk
    obtain ⟨o, h1, hit⟩ := iter_one hit
    have hf : bd_X4_reach_105 fu f y2 y4 y5 w = some o := h1
    unfold bd_X4_reach_105 at hf
    refine x_iload X dX4_reach_105 4 rfl ?_
    refine x_if_le X (tgt := 150) dX4_reach_107 (by decide) hf (fun hf => ?_) (fun hf => ?_)
    · cases hf
      cases hit
      exact kk
    · refine x_aload_n X dX4_reach_110 2 rfl ?_
      refine x_aload_n X dX4_reach_111 0 rfl ?_
      refine x_get X E.1.1 (T := TX4) (C := RX4) inW4 0 rfl rfl 28 (by decide) w_858 rfl (v := .ref (ad 19)) rfl dX4_reach_112 ?_
      refine x_iload X dX4_reach_115 4 rfl ?_
      refine x_iconst X (v := 1) dX4_reach_117 (by decide) ?_
      refine x_isub X dX4_reach_118 ?_
      refine x_iald X E.1.1 19 rfl dX4_reach_119 hf (fun x1 hf => ?_)
      refine x_iald X E.1.1 22 rfl dX4_reach_120 hf (fun x2 hf => ?_)
      refine x_aload_n X dX4_reach_121 2 rfl ?_
      refine x_iload X dX4_reach_122 3 rfl ?_
      refine x_iald X E.1.1 22 rfl dX4_reach_124 hf (fun x3 hf => ?_)
      refine x_icmp_le X (tgt := 150) dX4_reach_125 (by decide) hf (fun hf => ?_) (fun hf => ?_)
      · cases hf
        cases hit
        exact kk
      · refine x_aload_n X dX4_reach_128 0 rfl ?_
        refine x_get X E.1.1 (T := TX4) (C := RX4) inW4 0 rfl rfl 28 (by decide) w_858 rfl (v := .ref (ad 19)) rfl dX4_reach_129 ?_
        refine x_iload X dX4_reach_132 4 rfl ?_
        refine x_aload_n X dX4_reach_134 0 rfl ?_
        refine x_get X E.1.1 (T := TX4) (C := RX4) inW4 0 rfl rfl 28 (by decide) w_858 rfl (v := .ref (ad 19)) rfl dX4_reach_135 ?_
        refine x_iload X dX4_reach_138 4 rfl ?_
        refine x_iconst X (v := 1) dX4_reach_140 (by decide) ?_
        refine x_isub X dX4_reach_141 ?_
        refine x_iald X E.1.1 19 rfl dX4_reach_142 hf (fun x4 hf => ?_)
        refine x_iast X E.1.1 19 rfl dX4_reach_143 hf (fun w => ((picM kA ad w) ++ [(q9, .inl (kA 0, 32, .inl f))])) rfl (fun w5 hf => ?_)
        refine x_iinc X dX4_reach_144 4 rfl (by decide) (y5 + (-1)) rfl hf (fun x6 => [(5, .int x6), (0, .ref (ad 0)), (2, .int y2), (3, .ref q9), (4, .int y4)]) (fun _ => rfl) (fun x6 hf => ?_)
        refine x_goto X (tgt := 105) dX4_reach_147 (by decide) ?_
        cases hf
        refine x_lpick (lv2 := [(0, .ref (ad 0)), (2, .int y2), (3, .ref q9), (4, .int y4), (5, .int x6)]) [1, 2, 3, 4, 0] rfl ?_
        exact ih _ _ _ _ hit kk
set_option maxRecDepth 100000 in
set_option maxHeartbeats 4000000 in
theorem lp_X4_reach_71 (X : CX p m c cX4_reach 6 s args RX4) (E : EX l s D kA A) {q9 : Nat} (fu : Nat) (f : (Nat → Int32)) (y2 : Int32) : ∀ (n : Nat) (y4 : Int32) (w : WS) (rw : WS), iter (fun q => bd_X4_reach_71 fu f y2 q.1 q.2) n (y4, w) = some (rw) → CS p l e rm_X4_reach s m args below meth c D A 6 1 32 Q ((picM kA ad rw) ++ [(q9, .inl (kA 0, 32, .inl f))]) 175 [(0, .ref (ad 0))] [] → CS p l e rm_X4_reach s m args below meth c D A 6 1 32 Q ((picM kA ad w) ++ [(q9, .inl (kA 0, 32, .inl f))]) 71 [(0, .ref (ad 0)), (2, .int y2), (3, .ref q9), (4, .int y4)] [] := by
  intro n
  induction n with
  | zero =>
    intro y4 w rw hit kk
    exact (iter_0 hit).elim
  | succ n ih =>
    intro y4 w rw hit kk
    obtain ⟨o, h1, hit⟩ := iter_one hit
    have hf : bd_X4_reach_71 fu f y2 y4 w = some o := h1
    unfold bd_X4_reach_71 at hf
    refine x_iload X dX4_reach_71 3 rfl ?_
    refine x_aload_n X dX4_reach_73 0 rfl ?_
    refine x_get X E.1.1 (T := TX4) (C := RX4) inW4 0 rfl rfl 1 (by decide) w_831 rfl (v := .int (w.1 0 1)) rfl dX4_reach_74 ?_
    refine x_nmI hf (fun x1 hf => ?_)
    refine x_icmp_ge X (tgt := 175) dX4_reach_77 (by decide) hf (fun hf => ?_) (fun hf => ?_)
    · cases hf
      cases hit
      refine x_lpick (lv2 := [(0, .ref (ad 0))]) [0] rfl ?_
      exact kk
    · refine x_aload_n X dX4_reach_80 2 rfl ?_
      refine x_iload X dX4_reach_81 3 rfl ?_
      refine x_iald X E.1.1 22 rfl dX4_reach_83 hf (fun x2 hf => ?_)
      refine x_iconst X (v := (-1)) dX4_reach_84 (by decide) ?_
      refine x_icmp_eq X (tgt := 169) dX4_reach_85 (by decide) hf (fun hf => ?_) (fun hf => ?_)
      · refine x_iinc X dX4_reach_169 3 rfl (by decide) (y4 + 1) rfl hf (fun x3 => [(4, .int x3), (0, .ref (ad 0)), (2, .int y2), (3, .ref q9)]) (fun _ => rfl) (fun x3 hf => ?_)
        refine x_goto X (tgt := 71) dX4_reach_172 (by decide) ?_
        cases hf
        refine x_lpick (lv2 := [(0, .ref (ad 0)), (2, .int y2), (3, .ref q9), (4, .int x3)]) [1, 2, 3, 0] rfl ?_
        exact ih _ _ _ hit kk
      · refine x_aload_n X dX4_reach_88 2 rfl ?_
        refine x_iload X dX4_reach_89 3 rfl ?_
        refine x_iald X E.1.1 22 rfl dX4_reach_91 hf (fun x4 hf => ?_)
        refine x_iload_n X dX4_reach_92 1 rfl ?_
        refine x_icmp_le X (tgt := 99) dX4_reach_93 (by decide) hf (fun hf => ?_) (fun hf => ?_)
        · refine x_aload_n X dX4_reach_99 0 rfl ?_
          refine x_get X E.1.1 (T := TX4) (C := RX4) inW4 0 rfl rfl 29 (by decide) w_859 rfl (v := .int (w.1 0 29)) rfl dX4_reach_100 ?_
          refine x_nmI hf (fun x5 hf => ?_)
          refine x_istore X (lv2 := [(5, .int x5), (0, .ref (ad 0)), (2, .int y2), (3, .ref q9), (4, .int y4)]) dX4_reach_103 (by decide) rfl ?_
          refine x_lpick (lv2 := [(0, .ref (ad 0)), (2, .int y2), (3, .ref q9), (4, .int y4), (5, .int x5)]) [1, 2, 3, 4, 0] rfl ?_
          obtain ⟨x6, w7, h8, hf⟩ := bn2_some hf
          refine lp_X4_reach_105 X E fu f y2 y4 fu x5 w x6 w7 h8 ?_
          refine x_aload_n X dX4_reach_150 0 rfl ?_
          refine x_get X E.1.1 (T := TX4) (C := RX4) inW4 0 rfl rfl 28 (by decide) w_858 rfl (v := .ref (ad 19)) rfl dX4_reach_151 ?_
          refine x_iload X dX4_reach_154 4 rfl ?_
          refine x_iload X dX4_reach_156 3 rfl ?_
          refine x_iast X E.1.1 19 rfl dX4_reach_158 hf (fun w => ((picM kA ad w) ++ [(q9, .inl (kA 0, 32, .inl f))])) rfl (fun w9 hf => ?_)
          refine x_aload_n X dX4_reach_159 0 rfl ?_
          refine x_dup X dX4_reach_160 rfl ?_
          refine x_get X E.1.1 (T := TX4) (C := RX4) inW4 0 rfl rfl 29 (by decide) w_859 rfl (v := .int (w9.1 0 29)) rfl dX4_reach_161 ?_
          refine x_nmI hf (fun x10 hf => ?_)
          refine x_iconst X (v := 1) dX4_reach_164 (by decide) ?_
          refine x_iadd X dX4_reach_165 ?_
          refine x_put X E.1.1 (T := TX4) (C := RX4) (ty := .int) inW4 tyX4 tyX4_ok nmX4 0 rfl rfl 29 (by decide) w_859 rfl rfl (by decide +kernel) rfl rfl (Nat.le_of_ble_eq_true rfl) dX4_reach_166 ((picM kA ad (wI w9 0 29 (x10 + 1))) ++ [(q9, .inl (kA 0, 32, .inl f))]) rfl ?_
          refine x_nmW (pic := (fun w => ((picM kA ad w) ++ [(q9, .inl (kA 0, 32, .inl f))]))) (u := (wI w9 0 29 (x10 + 1))) hf (fun w11 hf => ?_)
          refine x_iinc X dX4_reach_169 3 rfl (by decide) (y4 + 1) rfl hf (fun x12 => [(4, .int x12), (0, .ref (ad 0)), (2, .int y2), (3, .ref q9), (5, .int x6)]) (fun _ => rfl) (fun x12 hf => ?_)
          refine x_goto X (tgt := 71) dX4_reach_172 (by decide) ?_
          cases hf
          refine x_lpick (lv2 := [(0, .ref (ad 0)), (2, .int y2), (3, .ref q9), (4, .int x12)]) [1, 2, 3, 0] rfl ?_
          exact ih _ _ _ hit kk
        · refine x_goto X (tgt := 169) dX4_reach_96 (by decide) ?_
          refine x_iinc X dX4_reach_169 3 rfl (by decide) (y4 + 1) rfl hf (fun x13 => [(4, .int x13), (0, .ref (ad 0)), (2, .int y2), (3, .ref q9)]) (fun _ => rfl) (fun x13 hf => ?_)
          refine x_goto X (tgt := 71) dX4_reach_172 (by decide) ?_
          cases hf
          refine x_lpick (lv2 := [(0, .ref (ad 0)), (2, .int y2), (3, .ref q9), (4, .int x13)]) [1, 2, 3, 0] rfl ?_
          exact ih _ _ _ hit kk
set_option maxRecDepth 100000 in
set_option maxHeartbeats 4000000 in
theorem met_X4_reach (l : Launch) (hst : l.stackTraces = false) (D : va_G) (kA : Nat → ClassId) (ad : Nat → Nat) (fu : Nat) (w : WS) (a1 : Int32) (a2 : Int32) (v : Int32) (w1 : WS) (hf : f_X4_reach fu w a1 a2 = some (v, w1)) (sz : Nat) : Met l yX4_reach (wsY yX4_reach cX4_reach 6 (some .int)) rm_X4_reach (va_Pc [.ref (ad 0), .int a1, .int a2] (PreG D kA (picM kA ad w) sz)) (va_Qi (fun (r : Int32) (_ : Unit) => r = v) (fun _ t => PosG D (va_A (picM kA ad w) sz) (picM kA ad w1) t) (va_A (picM kA ad w) sz)) 1 32 (va_A (picM kA ad w) sz) := by
  refine metG (own := RX4) hst (by decide +kernel) rfl (Nat.le_of_ble_eq_true rfl) rfl ?_
  intro p e s m below meth c X hr hlk E _
  unfold f_X4_reach at hf
  refine x_aload_n X dX4_reach_0 0 rfl ?_
  refine x_aload_n X dX4_reach_1 0 rfl ?_
  refine x_iload_n X dX4_reach_2 1 rfl ?_
  refine x_iload_n X dX4_reach_3 1 rfl ?_
  obtain ⟨x1, hx1, hf⟩ := bn_some hf
  refine x_callV_i X E (As := [.int a1, .int a1]) (rest := [.ref (ad 0)]) (n := 2) (ws2 := (picM kA ad w)) (goodV w_1051 w_1053 s_40 w_52 w_1054) (met_X4_lookedAt l E.2.2.2 D kA ad fu w a1 a1 x1 hx1) rfl rfl (by decide +kernel) ⟨by decide, by decide⟩ 0 rfl (qc := (RX4, TX4, _)) rfl rfl rfl rfl (Nat.le_of_ble_eq_true rfl) dX4_reach_4 ⟨by decide, by decide⟩ ?_
  refine x_put X E.1.1 (T := TX4) (C := RX4) (ty := .int) inW4 tyX4 tyX4_ok nmX4 0 rfl rfl 0 (by decide) w_830 rfl rfl (by decide +kernel) rfl rfl (Nat.le_of_ble_eq_true rfl) dX4_reach_7 (picM kA ad (wI w 0 0 x1)) rfl ?_
  refine x_nmW (pic := (picM kA ad)) (u := (wI w 0 0 x1)) hf (fun w2 hf => ?_)
  refine x_aload_n X dX4_reach_10 0 rfl ?_
  refine x_get X E.1.1 (T := TX4) (C := RX4) inW4 0 rfl rfl 0 (by decide) w_830 rfl (v := .int (w2.1 0 0)) rfl dX4_reach_11 ?_
  refine x_nmI hf (fun x3 hf => ?_)
  refine x_if_eq X (tgt := 19) dX4_reach_14 (by decide) hf (fun hf => ?_) (fun hf => ?_)
  · refine x_iload_n X dX4_reach_19 2 rfl ?_
    refine x_if_ge X (tgt := 29) dX4_reach_20 (by decide) hf (fun hf => ?_) (fun hf => ?_)
    · refine x_bipush X (v := 32) dX4_reach_29 (by decide) ?_
      refine x_newI X E w_128 (N := 32) (by decide) (by decide +kernel) (by decide) (by decide) (by decide) dX4_reach_31 (fun q9 => ?_)
      refine x_nmW (pic := fun f => picM kA ad w2 ++ [(q9, .inl (kA 0, 32, .inl f))]) (u := fun _ => 0) hf (fun f0 hf => ?_)
      refine x_astore_n X (lv2 := [(3, .ref q9), (0, .ref (ad 0)), (1, .int a1), (2, .int a2)]) dX4_reach_33 (by decide) rfl ?_
      refine x_iconst X (v := 0) dX4_reach_34 (by decide) ?_
      refine x_istore X (lv2 := [(4, .int 0), (3, .ref q9), (0, .ref (ad 0)), (1, .int a1), (2, .int a2)]) dX4_reach_35 (by decide) rfl ?_
      refine x_lpick (lv2 := [(0, .ref (ad 0)), (1, .int a1), (2, .int a2), (3, .ref q9), (4, .int 0)]) [2, 3, 4, 1, 0] rfl ?_
      obtain ⟨w4, f5, h6, hf⟩ := bn2_some hf
      refine lp_X4_reach_37 X E fu a1 a2 fu (0 : Int32) w2 f0 w4 f5 h6 ?_
      refine x_aload_n X dX4_reach_63 0 rfl ?_
      refine x_iconst X (v := 0) dX4_reach_64 (by decide) ?_
      refine x_put X E.1.1 (T := TX4) (C := RX4) (ty := .int) inW4 tyX4 tyX4_ok nmX4 0 rfl rfl 29 (by decide) w_859 rfl rfl (by decide +kernel) rfl rfl (Nat.le_of_ble_eq_true rfl) dX4_reach_65 ((picM kA ad (wI w4 0 29 0)) ++ [(q9, .inl (kA 0, 32, .inl f5))]) rfl ?_
      refine x_nmW (pic := (fun w => ((picM kA ad w) ++ [(q9, .inl (kA 0, 32, .inl f5))]))) (u := (wI w4 0 29 0)) hf (fun w7 hf => ?_)
      refine x_iconst X (v := 0) dX4_reach_68 (by decide) ?_
      refine x_istore X (lv2 := [(4, .int 0), (0, .ref (ad 0)), (2, .int a2), (3, .ref q9)]) dX4_reach_69 (by decide) rfl ?_
      refine x_lpick (lv2 := [(0, .ref (ad 0)), (2, .int a2), (3, .ref q9), (4, .int 0)]) [1, 2, 3, 0] rfl ?_
      obtain ⟨w8, h9, hf⟩ := bn_some hf
      refine lp_X4_reach_71 X E fu f5 a2 fu (0 : Int32) w7 w8 h9 ?_
      refine x_aload_n X dX4_reach_175 0 rfl ?_
      refine x_get X E.1.1 (T := TX4) (C := RX4) inW4 0 rfl rfl 29 (by decide) w_859 rfl (v := .int (w8.1 0 29)) rfl dX4_reach_176 ?_
      refine x_nmI hf (fun x10 hf => ?_)
      refine x_perm [0, 1, 2, 3, 4, 5, 6, 7, 8, 9, 10, 11, 12, 13, 14, 15, 16, 17, 18, 19, 20, 21] (by decide) (picM kA ad w8) rfl ?_
      cases hf
      exact x_iret X hr hlk rfl rfl dX4_reach_179
    · refine x_aload_n X dX4_reach_23 0 rfl ?_
      refine x_iconst X (v := 3) dX4_reach_24 (by decide) ?_
      obtain ⟨x12, w11, hx12, hf⟩ := bn2_some hf
      refine x_callV_i X E (As := [.int 3]) (rest := []) (n := 1) (ws2 := (picM kA ad w11)) (goodV w_935 w_937 s_29 w_52 w_938) (met_X4_fail l E.2.2.2 D kA ad fu w2 (3 : Int32) x12 w11 hx12) rfl rfl (by decide +kernel) ⟨by decide, by decide⟩ 0 rfl (qc := (RX4, TX4, _)) rfl rfl rfl rfl (Nat.le_of_ble_eq_true rfl) dX4_reach_25 ⟨by decide, by decide⟩ ?_
      refine x_widen (k := 1) (n := 32) (by decide) (by decide) ?_
      cases hf
      exact x_iret X hr hlk rfl rfl dX4_reach_28
  · refine x_iconst X (v := 0) dX4_reach_17 (by decide) ?_
    refine x_widen (k := 1) (n := 32) (by decide) (by decide) ?_
    cases hf
    exact x_iret X hr hlk rfl rfl dX4_reach_18
end
