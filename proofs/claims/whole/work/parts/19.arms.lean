section LR
variable {p : Program} {l : Launch} {e : Env} {R : Room} {s : State} {m : MethodId} {args : Array Value} {below : List Frame} {meth : Method} {c : Code} {D : va_G} {kA : Nat → ClassId} {A : Nat → Prop} {nL cells slots : Nat} {Q : State → Prop} {cc : ByteArray} {own : String} {ws : va_W} {pc : Nat} {lv : List (Nat × Value)} {st : List Value}
theorem x_sld (X : CX p m c cc nL s args own) {b L : Nat} {xs : Nat → Int32} (hX : va_X b L xs s s.heap) (hbl : b < s.heap.size) (hbA : ¬ A b) {i : Int32} (hin : vp_in i L) (hd : decode cc pc = .ok (.iaload, 1)) (kk : CS p l e R s m args below meth c D A nL cells slots Q ws (pc + 1) lv (.int (xs i.toNatClampNeg) :: st)) : CS p l e R s m args below meth c D A nL cells slots Q ws pc lv (.int i :: .ref b :: st) := fun H locs ls hP hD hS hl => va_sld X.1 X.2.1 hX hbl hbA hS hin hd (kk H locs ls hP hD hS hl)
theorem x_slen (X : CX p m c cc nL s args own) {b L : Nat} {xs : Nat → Int32} (hX : va_X b L xs s s.heap) (hbl : b < s.heap.size) (hbA : ¬ A b) (hd : decode cc pc = .ok (.arraylength, 1)) (kk : CS p l e R s m args below meth c D A nL cells slots Q ws (pc + 1) lv (.int (Int32.ofNat L) :: st)) : CS p l e R s m args below meth c D A nL cells slots Q ws pc lv (.ref b :: st) := fun H locs ls hP hD hS hl => va_slen X.1 X.2.1 hX hbl hbA hS hd (kk H locs ls hP hD hS hl)
theorem x_tableIn (X : CX p m c cc nL s args own) {dflt lo hi : Int} {offs : Array Int} {len : Nat} {x : Int32} {off : Int} {tgt : Nat} (hd : decode cc pc = .ok (.tableswitch dflt lo hi offs, len)) (h1 : ¬ x.toInt < lo) (h2 : ¬ hi < x.toInt) (ho : offs[(x.toInt - lo).toNat]? = some off) (ht : (pc : Int) + off = (tgt : Int)) (kk : CS p l e R s m args below meth c D A nL cells slots Q ws tgt lv st) : CS p l e R s m args below meth c D A nL cells slots Q ws pc lv (.int x :: st) := fun H locs ls hP hD hS hl => lv_tableIn X.1 X.2.1 hd h1 h2 ho ht (kk H locs ls hP hD hS hl)
theorem x_tableOut (X : CX p m c cc nL s args own) {dflt lo hi : Int} {offs : Array Int} {len : Nat} {x : Int32} {tgt : Nat} (hd : decode cc pc = .ok (.tableswitch dflt lo hi offs, len)) (h : x.toInt < lo ∨ hi < x.toInt) (ht : (pc : Int) + dflt = (tgt : Int)) (kk : CS p l e R s m args below meth c D A nL cells slots Q ws tgt lv st) : CS p l e R s m args below meth c D A nL cells slots Q ws pc lv (.int x :: st) := fun H locs ls hP hD hS hl => lv_tableOut X.1 X.2.1 hd h ht (kk H locs ls hP hD hS hl)
/-- a call with room of a method whose world is the middle of ours -/
theorem x_callVm_i (X : CX p m c cc nL s args own) (E : EX l s D kA A) {y : MethodName} {bytes : ByteArray} {maxL n index mc ms : Nat} {rm : Room} {As rest : List Value} {ret : Option FieldType} {v : Int32} {C : String} {b ci : Nat} {qc : vw_C} {fs : List Value} {u u2 : va_W} (w1 w3 : va_W) (hws : ws = w1 ++ (u ++ w3)) (hG : GoodIn WG (wsV own index C y (wsY y bytes maxL ret))) (hM : ∀ sz, Met l y (wsY y bytes maxL ret) rm (va_Pc (.ref b :: As) (PreG D kA u sz)) (va_Qi (fun (r : Int32) (_ : Unit) => r = v) (fun _ t => PosG D (va_A u sz) u2 t) (va_A u sz)) mc ms (va_A u sz)) (hrc : rm.cells = mc) (hrs : rm.slots = ms) (hy : y.cls = C ∧ y.cls ≠ "java/lang/invoke/MethodHandle" ∧ y.cls ≠ "java/lang/invoke/VarHandle" ∧ (parseMethodDescriptor y.desc).map (fun d => d.parameters.length) = some n) (hR : rm.frames + 1 ≤ R.frames ∧ 8 + (maxL + 11) + rm.locals ≤ R.locals) (q0 : Nat) (he : u[q0]? = some (b, .inr (ci, fs))) (hc : vwCl[ci]? = some qc) (hqc : qc.1 = C) (hn : As.length = n) (hst : st = As.reverse ++ .ref b :: rest) (hcat : (rest.map fun v => v.category).sum ≤ 8) (hd : decode cc pc = .ok (.invokevirtual index, 3)) (hcs : cells + mc ≤ R.cells ∧ slots + ms ≤ R.slots) (ws2 : va_W) (hws2 : w1 ++ (u2 ++ w3) = ws2) (kk : CS p l e R s m args below meth c D A nL (cells + mc) (slots + ms) Q ws2 (pc + 3) lv (.int v :: rest)) : CS p l e R s m args below meth c D A nL cells slots Q ws pc lv st := by
  subst hws
  intro H locs ls hP hD hS hl
  obtain ⟨hPu, hDu⟩ := seg_P hP hD
  have hF := fr_self hDu hS E.2.2.1
  refine va_calli (va_runV (As := As) (rest := rest) (C := C) X (hM H.size) (cwV n X.2.2.2.2 hG rfl hrc hrs hy hR) ⟨pre_blind, hqc ▸ va_recv E.1.1 hPu hc he, pre_at E hPu hDu hS⟩ rfl hn hl.1 hst (lv_room hcat) hd hcs) hS (fun q _ h => hF q h) hF (fun r z t H1 locs1 ht hvm hw hB hz1 hk1 hS1 => ?_)
  obtain ⟨hP1, hD1⟩ := hB
  rw [ht] at hP1
  obtain ⟨hP2, hD2⟩ := seg_join hP hD hk1 hF hP1 hD1
  rw [hws2] at hP2 hD2
  subst hw; exact kk H1 locs1 ls hP2 hD2 hS1 hl
end LR
abbrev LWo (kA : Nat → ClassId) (ao : Nat) (o : Nat → Int64) : va_W := [(ao, .inl (kA 1, 1, .inr (.inl o)))]
abbrev LWd (kA : Nat → ClassId) (aod : Nat) (od : Nat → UInt64) : va_W := [(aod, .inl (kA 3, 1, .inr (.inr (.inr (.inl od)))))]
abbrev LW (kA : Nat → ClassId) (ad am : Nat → Nat) (ao aod : Nat) (w : WS) (o : Nat → Int64) (od : Nat → UInt64) (v : WS) : va_W := (picC kA ad w ++ LWo kA ao o) ++ (LWd kA aod od ++ picM kA am v)
theorem lw_mid (a b c d : va_W) : (a ++ b) ++ (c ++ d) = ((a ++ b) ++ c) ++ (d ++ []) := by rw [List.append_nil, List.append_assoc (a ++ b) c d]
theorem lw_fst (a b c d : va_W) : (a ++ b) ++ (c ++ d) = [] ++ (a ++ (b ++ (c ++ d))) := by rw [List.nil_append, List.append_assoc]
abbrev LV (ad am : Nat → Nat) (b ao aod : Nat) (at5 : Int32) : List (Nat × Value) := [(0, .ref b), (1, .ref (ad 0)), (2, .ref (am 0)), (3, .ref ao), (4, .ref aod), (5, .int at5)]
section LA
variable {p : Program} {l : Launch} {e : Env} {s : State} {m : MethodId} {args : Array Value} {below : List Frame} {meth : Method} {c : Code} {D : va_G} {kA : Nat → ClassId} {A : Nat → Prop} {cells slots : Nat} {Q : State → Prop} {ws : va_W} {pc : Nat} {st : List Value} {ad am : Nat → Nat} {b ao aod L i : Nat} {xs : Nat → Int32} {lv : List (Nat × Value)}
theorem x_arg (X : CX p m c cL_law 9 s args RL) (hX : va_X b L xs s s.heap) (hbl : b < s.heap.size) (hbA : ¬ A b) (hi : i + 4 ≤ L) (hL : L ≤ 2048) {n : Int} {j : Nat} (hj : j < 4) (hn : Int32.ofInt n = nI j) (j0 j5 : Nat) (h0 : lv[j0]? = some (0, .ref b)) (h5 : lv[j5]? = some (5, .int (nI i))) (d0 : decode cL_law pc = .ok (.aload_n 0, 1)) (d1 : decode cL_law (pc + 1) = .ok (.iload 5, 2)) (d3 : decode cL_law (pc + 3) = .ok (.iconst n, 1)) (d4 : decode cL_law (pc + 4) = .ok (.iadd, 1)) (d5 : decode cL_law (pc + 5) = .ok (.iaload, 1)) (kk : CS p l e room_1 s m args below meth c D A 9 cells slots Q ws (pc + 6) lv (.int (xs (i + j)) :: st)) : CS p l e room_1 s m args below meth c D A 9 cells slots Q ws pc lv st := by
  refine x_aload_n X d0 j0 h0 ?_
  refine x_iload X d1 j5 h5 ?_
  refine x_iconst X d3 hn ?_
  refine x_iadd X d4 ?_
  rw [nI_add]
  refine x_sld X hX hbl hbA (vp_in_nI (by omega) (by omega)) d5 ?_
  rw [nI_clamp (by omega)]
  exact kk
theorem x_bool (X : CX p m c cL_law 9 s args RL) {x : Int32} (d0 : decode cL_law pc = .ok (.ifCond .eq 7, 3)) (d3 : decode cL_law (pc + 3) = .ok (.iconst 1, 1)) (d4 : decode cL_law (pc + 4) = .ok (.goto 4, 3)) (d7 : decode cL_law (pc + 7) = .ok (.iconst 0, 1)) (kk : CS p l e room_1 s m args below meth c D A 9 cells slots Q ws (pc + 8) lv (.int (if x = 0 then 0 else 1) :: st)) : CS p l e room_1 s m args below meth c D A 9 cells slots Q ws pc lv (.int x :: st) := by
  by_cases hx : x = 0
  · rw [if_pos hx] at kk
    exact x_if_eq_t X (tgt := pc + 7) d0 (by omega) hx (x_iconst X d7 (by decide) kk)
  · rw [if_neg hx] at kk
    exact x_if_eq_f X (tgt := pc + 7) d0 (by omega) hx (x_iconst X d3 (by decide) (x_goto X (tgt := pc + 8) d4 (by omega) kk))
theorem x_lbool (X : CX p m c cL_law 9 s args RL) {x : Int32} (d0 : decode cL_law pc = .ok (.ifCond .eq 7, 3)) (d3 : decode cL_law (pc + 3) = .ok (.lconst 1, 1)) (d4 : decode cL_law (pc + 4) = .ok (.goto 4, 3)) (d7 : decode cL_law (pc + 7) = .ok (.lconst 0, 1)) (kk : CS p l e room_1 s m args below meth c D A 9 cells slots Q ws (pc + 8) lv (.long (if x = 0 then 0 else 1) :: st)) : CS p l e room_1 s m args below meth c D A 9 cells slots Q ws pc lv (.int x :: st) := by
  by_cases hx : x = 0
  · rw [if_pos hx] at kk
    exact x_if_eq_t X (tgt := pc + 7) d0 (by omega) hx (x_lconst X d7 (by decide) kk)
  · rw [if_neg hx] at kk
    exact x_if_eq_f X (tgt := pc + 7) d0 (by omega) hx (x_lconst X d3 (by decide) (x_goto X (tgt := pc + 8) d4 (by omega) kk))
theorem lcmp_self (x : Int64) : lg_cmp x x = 0 := by unfold lg_cmp; simp
set_option maxRecDepth 100000 in
set_option maxHeartbeats 4000000 in
theorem arm_0 (X : CX p m c cL_law 9 s args RL) (E : EX l s D kA A) (hNC : NCs s) (hX : va_X b L xs s s.heap) (hbl : b < s.heap.size) (hbA : ¬ A b) (hi : i + 4 ≤ L) (hL : L ≤ 2048) (hcC : cells + 8 ≤ 601024) (hcS : slots + 80 ≤ 7293034) (fu : Nat) (w w1 v v1 : WS) (o o1 : Nat → Int64) (od : Nat → UInt64) (c6 : Int32) (r7 : Int32) (h1 : f_L_addJunction fu w o = some (c6, w1, o1)) (h2 : f_X4_addJunction fu v = some (r7, v1)) (h3 : f_X4_thrown fu v1 = some c6) (h4 : c6 = 0 → o1 0 = Int32.toInt64 r7) (kk : CS p l e room_1 s m args below meth c D A 9 (cells + 8) (slots + 80) Q (LW kA ad am ao aod w1 o1 od v1) 1905 [(0, .ref b), (1, .ref (ad 0)), (2, .ref (am 0)), (3, .ref ao), (4, .ref aod), (5, .int (nI i))] []) : CS p l e room_1 s m args below meth c D A 9 cells slots Q (LW kA ad am ao aod w o od v) 184 [(0, .ref b), (1, .ref (ad 0)), (2, .ref (am 0)), (3, .ref ao), (4, .ref aod), (5, .int (nI i))] [] := by
  refine x_aload_n X dL_law_184 1 rfl ?_
  refine x_aload_n X dL_law_185 3 rfl ?_
  refine x_callW X E hNC (As := [.ref (ad 0), .ref ao]) (rest := []) (n := 2) (mc := 1) (ms := 6) (rm := rm_L_addJunction) (u := picC kA ad w ++ LWo kA ao o) (u2 := picC kA ad w1 ++ LWo kA ao o1) (w3 := LWd kA aod od ++ picM kA am v) rfl (goodSW w_299 w_300 w_46 w_301) (fun sz => met_L_addJunction l E.2.2.2 D kA ad ao fu w o _ _ _ h1 sz) rfl rfl (by decide +kernel) ⟨by decide, by decide⟩ rfl rfl (Nat.le_of_ble_eq_true rfl) dL_law_186 ⟨(show cells + 1 ≤ 601024 by omega), (show slots + 6 ≤ 7293034 by omega)⟩ (LW kA ad am ao aod w1 o1 od v) rfl ?_
  refine x_istore X (lv2 := (6, .int c6) :: [(0, .ref b), (1, .ref (ad 0)), (2, .ref (am 0)), (3, .ref ao), (4, .ref aod), (5, .int (nI i))]) dL_law_189 (by decide) rfl ?_
  refine x_aload_n X dL_law_191 3 rfl ?_
  refine x_callVs_i X E (As := []) (rest := []) (n := 0) (rm := rm_X4_addJunction) (u := picM kA am v) (u2 := picM kA am v1) ((picC kA ad w1 ++ LWo kA ao o1) ++ LWd kA aod od) [] (lw_mid _ _ _ _) (goodV w_931 w_932 w_933 w_52 w_934) (fun sz => met_X4_addJunction l E.2.2.2 D kA am fu v r7 v1 h2 sz) rfl rfl (by decide +kernel) ⟨by decide, by decide⟩ 0 rfl (qc := (RX4, TX4, _)) rfl rfl rfl rfl (Nat.le_of_ble_eq_true rfl) dL_law_192 ⟨(show cells + 1 ≤ 601024 by omega), (show slots + 6 ≤ 7293034 by omega)⟩ (LW kA ad am ao aod w1 o1 od v1) (lw_mid _ _ _ _).symm ?_
  refine x_istore X (lv2 := (7, .int r7) :: (6, .int c6) :: [(0, .ref b), (1, .ref (ad 0)), (2, .ref (am 0)), (3, .ref ao), (4, .ref aod), (5, .int (nI i))]) dL_law_195 (by decide) rfl ?_
  refine x_aload_n X dL_law_197 4 rfl ?_
  refine x_callVs_i X E (As := []) (rest := []) (n := 0) (rm := rm_X4_thrown) (u := picM kA am v1) (u2 := picM kA am v1) ((picC kA ad w1 ++ LWo kA ao o1) ++ LWd kA aod od) [] (lw_mid _ _ _ _) (goodV w_927 w_928 w_929 w_52 w_930) (fun sz => met_X4_thrown l E.2.2.2 D kA am fu v1 c6 h3 sz) rfl rfl (by decide +kernel) ⟨by decide, by decide⟩ 0 rfl (qc := (RX4, TX4, _)) rfl rfl rfl rfl (Nat.le_of_ble_eq_true rfl) dL_law_198 ⟨(show cells + 1 ≤ 601024 by omega), (show slots + 6 ≤ 7293034 by omega)⟩ (LW kA ad am ao aod w1 o1 od v1) (lw_mid _ _ _ _).symm ?_
  refine x_iload X dL_law_201 1 rfl ?_
  refine x_icmp_eq_t X (tgt := 208) dL_law_203 (by decide) rfl ?_
  refine x_iload X dL_law_208 1 rfl ?_
  have hend : CS p l e room_1 s m args below meth c D A 9 (cells + 1) (slots + 6) Q (LW kA ad am ao aod w1 o1 od v1) 225 ((7, .int r7) :: (6, .int c6) :: [(0, .ref b), (1, .ref (ad 0)), (2, .ref (am 0)), (3, .ref ao), (4, .ref aod), (5, .int (nI i))]) [] := x_goto X (tgt := 1905) dL_law_225 (by decide) (x_lpick (lv2 := [(0, .ref b), (1, .ref (ad 0)), (2, .ref (am 0)), (3, .ref ao), (4, .ref aod), (5, .int (nI i))]) [2, 3, 4, 5, 6, 7] rfl (x_widen (show cells + 1 ≤ cells + 8 by omega) (show slots + 6 ≤ slots + 80 by omega) kk))
  by_cases hc6 : c6 = 0
  · have h4 := h4 hc6
    refine x_if_ne_f X (tgt := 225) dL_law_210 (by decide) hc6 ?_
    refine x_aload_n X dL_law_213 5 rfl ?_
    refine x_iconst X (v := 0) dL_law_214 (by decide) ?_
    refine x_lald X E.1.1 29 rfl (kf := some) dL_law_215 (ck_t in01) (fun z hz => ?_)
    have hz : z = _ := (Option.some.inj hz).trans h4
    subst hz
    refine x_iload X dL_law_216 0 rfl ?_
    refine x_i2l X dL_law_218 ?_
    refine x_lcmp X dL_law_219 ?_
    refine x_if_eq_t X (tgt := 225) dL_law_220 (by decide) (lcmp_self _) ?_
    exact hend
  · exact x_if_ne_t X (tgt := 225) dL_law_210 (by decide) hc6 hend
set_option maxRecDepth 100000 in
set_option maxHeartbeats 4000000 in
theorem arm_1 (X : CX p m c cL_law 9 s args RL) (E : EX l s D kA A) (hNC : NCs s) (hX : va_X b L xs s s.heap) (hbl : b < s.heap.size) (hbA : ¬ A b) (hi : i + 4 ≤ L) (hL : L ≤ 2048) (hcC : cells + 8 ≤ 601024) (hcS : slots + 80 ≤ 7293034) (fu : Nat) (w w1 v v1 : WS) (o o1 : Nat → Int64) (od : Nat → UInt64) (c6 : Int32) (r7 : Int32) (h1 : f_L_addRoad fu w o (xs (i + 1)) (xs (i + 2)) (xs (i + 3)) = some (c6, w1, o1)) (h2 : f_X4_addRoad fu v (xs (i + 1)) (xs (i + 2)) (xs (i + 3)) = some (r7, v1)) (h3 : f_X4_thrown fu v1 = some c6) (h4 : c6 = 0 → o1 0 = Int32.toInt64 r7) (kk : CS p l e room_1 s m args below meth c D A 9 (cells + 8) (slots + 80) Q (LW kA ad am ao aod w1 o1 od v1) 1905 [(0, .ref b), (1, .ref (ad 0)), (2, .ref (am 0)), (3, .ref ao), (4, .ref aod), (5, .int (nI i))] []) : CS p l e room_1 s m args below meth c D A 9 cells slots Q (LW kA ad am ao aod w o od v) 228 [(0, .ref b), (1, .ref (ad 0)), (2, .ref (am 0)), (3, .ref ao), (4, .ref aod), (5, .int (nI i))] [] := by
  refine x_aload_n X dL_law_228 1 rfl ?_
  refine x_arg X hX hbl hbA hi hL (j := 1) (by decide) (by decide) 0 5 rfl rfl dL_law_229 dL_law_230 dL_law_232 dL_law_233 dL_law_234 ?_
  refine x_arg X hX hbl hbA hi hL (j := 2) (by decide) (by decide) 0 5 rfl rfl dL_law_235 dL_law_236 dL_law_238 dL_law_239 dL_law_240 ?_
  refine x_arg X hX hbl hbA hi hL (j := 3) (by decide) (by decide) 0 5 rfl rfl dL_law_241 dL_law_242 dL_law_244 dL_law_245 dL_law_246 ?_
  refine x_aload_n X dL_law_247 3 rfl ?_
  refine x_callW X E hNC (As := [.ref (ad 0), .int (xs (i + 1)), .int (xs (i + 2)), .int (xs (i + 3)), .ref ao]) (rest := []) (n := 5) (mc := 5) (ms := 30) (rm := rm_L_addRoad) (u := picC kA ad w ++ LWo kA ao o) (u2 := picC kA ad w1 ++ LWo kA ao o1) (w3 := LWd kA aod od ++ picM kA am v) rfl (goodSW w_376 w_377 w_46 w_378) (fun sz => met_L_addRoad l E.2.2.2 D kA ad ao fu w o (xs (i + 1)) (xs (i + 2)) (xs (i + 3)) _ _ _ h1 sz) rfl rfl (by decide +kernel) ⟨by decide, by decide⟩ rfl rfl (Nat.le_of_ble_eq_true rfl) dL_law_248 ⟨(show cells + 5 ≤ 601024 by omega), (show slots + 30 ≤ 7293034 by omega)⟩ (LW kA ad am ao aod w1 o1 od v) rfl ?_
  refine x_istore X (lv2 := (6, .int c6) :: [(0, .ref b), (1, .ref (ad 0)), (2, .ref (am 0)), (3, .ref ao), (4, .ref aod), (5, .int (nI i))]) dL_law_251 (by decide) rfl ?_
  refine x_aload_n X dL_law_253 3 rfl ?_
  refine x_arg X hX hbl hbA hi hL (j := 1) (by decide) (by decide) 1 6 rfl rfl dL_law_254 dL_law_255 dL_law_257 dL_law_258 dL_law_259 ?_
  refine x_arg X hX hbl hbA hi hL (j := 2) (by decide) (by decide) 1 6 rfl rfl dL_law_260 dL_law_261 dL_law_263 dL_law_264 dL_law_265 ?_
  refine x_arg X hX hbl hbA hi hL (j := 3) (by decide) (by decide) 1 6 rfl rfl dL_law_266 dL_law_267 dL_law_269 dL_law_270 dL_law_271 ?_
  refine x_callVs_i X E (As := [.int (xs (i + 1)), .int (xs (i + 2)), .int (xs (i + 3))]) (rest := []) (n := 3) (rm := rm_X4_addRoad) (u := picM kA am v) (u2 := picM kA am v1) ((picC kA ad w1 ++ LWo kA ao o1) ++ LWd kA aod od) [] (lw_mid _ _ _ _) (goodV w_939 w_940 w_941 w_52 w_942) (fun sz => met_X4_addRoad l E.2.2.2 D kA am fu v (xs (i + 1)) (xs (i + 2)) (xs (i + 3)) r7 v1 h2 sz) rfl rfl (by decide +kernel) ⟨by decide, by decide⟩ 0 rfl (qc := (RX4, TX4, _)) rfl rfl rfl rfl (Nat.le_of_ble_eq_true rfl) dL_law_272 ⟨(show cells + 5 ≤ 601024 by omega), (show slots + 30 ≤ 7293034 by omega)⟩ (LW kA ad am ao aod w1 o1 od v1) (lw_mid _ _ _ _).symm ?_
  refine x_istore X (lv2 := (7, .int r7) :: (6, .int c6) :: [(0, .ref b), (1, .ref (ad 0)), (2, .ref (am 0)), (3, .ref ao), (4, .ref aod), (5, .int (nI i))]) dL_law_275 (by decide) rfl ?_
  refine x_aload_n X dL_law_277 4 rfl ?_
  refine x_callVs_i X E (As := []) (rest := []) (n := 0) (rm := rm_X4_thrown) (u := picM kA am v1) (u2 := picM kA am v1) ((picC kA ad w1 ++ LWo kA ao o1) ++ LWd kA aod od) [] (lw_mid _ _ _ _) (goodV w_927 w_928 w_929 w_52 w_930) (fun sz => met_X4_thrown l E.2.2.2 D kA am fu v1 c6 h3 sz) rfl rfl (by decide +kernel) ⟨by decide, by decide⟩ 0 rfl (qc := (RX4, TX4, _)) rfl rfl rfl rfl (Nat.le_of_ble_eq_true rfl) dL_law_278 ⟨(show cells + 5 ≤ 601024 by omega), (show slots + 30 ≤ 7293034 by omega)⟩ (LW kA ad am ao aod w1 o1 od v1) (lw_mid _ _ _ _).symm ?_
  refine x_iload X dL_law_281 1 rfl ?_
  refine x_icmp_eq_t X (tgt := 288) dL_law_283 (by decide) rfl ?_
  refine x_iload X dL_law_288 1 rfl ?_
  have hend : CS p l e room_1 s m args below meth c D A 9 (cells + 5) (slots + 30) Q (LW kA ad am ao aod w1 o1 od v1) 305 ((7, .int r7) :: (6, .int c6) :: [(0, .ref b), (1, .ref (ad 0)), (2, .ref (am 0)), (3, .ref ao), (4, .ref aod), (5, .int (nI i))]) [] := x_goto X (tgt := 1905) dL_law_305 (by decide) (x_lpick (lv2 := [(0, .ref b), (1, .ref (ad 0)), (2, .ref (am 0)), (3, .ref ao), (4, .ref aod), (5, .int (nI i))]) [2, 3, 4, 5, 6, 7] rfl (x_widen (show cells + 5 ≤ cells + 8 by omega) (show slots + 30 ≤ slots + 80 by omega) kk))
  by_cases hc6 : c6 = 0
  · have h4 := h4 hc6
    refine x_if_ne_f X (tgt := 305) dL_law_290 (by decide) hc6 ?_
    refine x_aload_n X dL_law_293 5 rfl ?_
    refine x_iconst X (v := 0) dL_law_294 (by decide) ?_
    refine x_lald X E.1.1 29 rfl (kf := some) dL_law_295 (ck_t in01) (fun z hz => ?_)
    have hz : z = _ := (Option.some.inj hz).trans h4
    subst hz
    refine x_iload X dL_law_296 0 rfl ?_
    refine x_i2l X dL_law_298 ?_
    refine x_lcmp X dL_law_299 ?_
    refine x_if_eq_t X (tgt := 305) dL_law_300 (by decide) (lcmp_self _) ?_
    exact hend
  · exact x_if_ne_t X (tgt := 305) dL_law_290 (by decide) hc6 hend
set_option maxRecDepth 100000 in
set_option maxHeartbeats 4000000 in
theorem arm_2 (X : CX p m c cL_law 9 s args RL) (E : EX l s D kA A) (hNC : NCs s) (hX : va_X b L xs s s.heap) (hbl : b < s.heap.size) (hbA : ¬ A b) (hi : i + 4 ≤ L) (hL : L ≤ 2048) (hcC : cells + 8 ≤ 601024) (hcS : slots + 80 ≤ 7293034) (fu : Nat) (w w1 v v1 : WS) (o o1 : Nat → Int64) (od : Nat → UInt64) (c6 : Int32) (r7 : Int32) (h1 : f_L_setWeight fu w o (xs (i + 1)) (xs (i + 2)) = some (c6, w1, o1)) (h2 : f_X4_setWeight fu v (xs (i + 1)) (xs (i + 2)) = some (r7, v1)) (h3 : f_X4_thrown fu v1 = some c6) (h4 : c6 = 0 → o1 0 = Int32.toInt64 r7) (kk : CS p l e room_1 s m args below meth c D A 9 (cells + 8) (slots + 80) Q (LW kA ad am ao aod w1 o1 od v1) 1905 [(0, .ref b), (1, .ref (ad 0)), (2, .ref (am 0)), (3, .ref ao), (4, .ref aod), (5, .int (nI i))] []) : CS p l e room_1 s m args below meth c D A 9 cells slots Q (LW kA ad am ao aod w o od v) 308 [(0, .ref b), (1, .ref (ad 0)), (2, .ref (am 0)), (3, .ref ao), (4, .ref aod), (5, .int (nI i))] [] := by
  refine x_aload_n X dL_law_308 1 rfl ?_
  refine x_arg X hX hbl hbA hi hL (j := 1) (by decide) (by decide) 0 5 rfl rfl dL_law_309 dL_law_310 dL_law_312 dL_law_313 dL_law_314 ?_
  refine x_arg X hX hbl hbA hi hL (j := 2) (by decide) (by decide) 0 5 rfl rfl dL_law_315 dL_law_316 dL_law_318 dL_law_319 dL_law_320 ?_
  refine x_aload_n X dL_law_321 3 rfl ?_
  refine x_callW X E hNC (As := [.ref (ad 0), .int (xs (i + 1)), .int (xs (i + 2)), .ref ao]) (rest := []) (n := 4) (mc := 2) (ms := 12) (rm := rm_L_setWeight) (u := picC kA ad w ++ LWo kA ao o) (u2 := picC kA ad w1 ++ LWo kA ao o1) (w3 := LWd kA aod od ++ picM kA am v) rfl (goodSW w_434 w_435 w_46 w_436) (fun sz => met_L_setWeight l E.2.2.2 D kA ad ao fu w o (xs (i + 1)) (xs (i + 2)) _ _ _ h1 sz) rfl rfl (by decide +kernel) ⟨by decide, by decide⟩ rfl rfl (Nat.le_of_ble_eq_true rfl) dL_law_322 ⟨(show cells + 2 ≤ 601024 by omega), (show slots + 12 ≤ 7293034 by omega)⟩ (LW kA ad am ao aod w1 o1 od v) rfl ?_
  refine x_istore X (lv2 := (6, .int c6) :: [(0, .ref b), (1, .ref (ad 0)), (2, .ref (am 0)), (3, .ref ao), (4, .ref aod), (5, .int (nI i))]) dL_law_325 (by decide) rfl ?_
  refine x_aload_n X dL_law_327 3 rfl ?_
  refine x_arg X hX hbl hbA hi hL (j := 1) (by decide) (by decide) 1 6 rfl rfl dL_law_328 dL_law_329 dL_law_331 dL_law_332 dL_law_333 ?_
  refine x_arg X hX hbl hbA hi hL (j := 2) (by decide) (by decide) 1 6 rfl rfl dL_law_334 dL_law_335 dL_law_337 dL_law_338 dL_law_339 ?_
  refine x_callVs_i X E (As := [.int (xs (i + 1)), .int (xs (i + 2))]) (rest := []) (n := 2) (rm := rm_X4_setWeight) (u := picM kA am v) (u2 := picM kA am v1) ((picC kA ad w1 ++ LWo kA ao o1) ++ LWd kA aod od) [] (lw_mid _ _ _ _) (goodV w_947 w_948 w_949 w_52 w_950) (fun sz => met_X4_setWeight l E.2.2.2 D kA am fu v (xs (i + 1)) (xs (i + 2)) r7 v1 h2 sz) rfl rfl (by decide +kernel) ⟨by decide, by decide⟩ 0 rfl (qc := (RX4, TX4, _)) rfl rfl rfl rfl (Nat.le_of_ble_eq_true rfl) dL_law_340 ⟨(show cells + 2 ≤ 601024 by omega), (show slots + 12 ≤ 7293034 by omega)⟩ (LW kA ad am ao aod w1 o1 od v1) (lw_mid _ _ _ _).symm ?_
  refine x_istore X (lv2 := (7, .int r7) :: (6, .int c6) :: [(0, .ref b), (1, .ref (ad 0)), (2, .ref (am 0)), (3, .ref ao), (4, .ref aod), (5, .int (nI i))]) dL_law_343 (by decide) rfl ?_
  refine x_aload_n X dL_law_345 4 rfl ?_
  refine x_callVs_i X E (As := []) (rest := []) (n := 0) (rm := rm_X4_thrown) (u := picM kA am v1) (u2 := picM kA am v1) ((picC kA ad w1 ++ LWo kA ao o1) ++ LWd kA aod od) [] (lw_mid _ _ _ _) (goodV w_927 w_928 w_929 w_52 w_930) (fun sz => met_X4_thrown l E.2.2.2 D kA am fu v1 c6 h3 sz) rfl rfl (by decide +kernel) ⟨by decide, by decide⟩ 0 rfl (qc := (RX4, TX4, _)) rfl rfl rfl rfl (Nat.le_of_ble_eq_true rfl) dL_law_346 ⟨(show cells + 2 ≤ 601024 by omega), (show slots + 12 ≤ 7293034 by omega)⟩ (LW kA ad am ao aod w1 o1 od v1) (lw_mid _ _ _ _).symm ?_
  refine x_iload X dL_law_349 1 rfl ?_
  refine x_icmp_eq_t X (tgt := 356) dL_law_351 (by decide) rfl ?_
  refine x_iload X dL_law_356 1 rfl ?_
  have hend : CS p l e room_1 s m args below meth c D A 9 (cells + 2) (slots + 12) Q (LW kA ad am ao aod w1 o1 od v1) 373 ((7, .int r7) :: (6, .int c6) :: [(0, .ref b), (1, .ref (ad 0)), (2, .ref (am 0)), (3, .ref ao), (4, .ref aod), (5, .int (nI i))]) [] := x_goto X (tgt := 1905) dL_law_373 (by decide) (x_lpick (lv2 := [(0, .ref b), (1, .ref (ad 0)), (2, .ref (am 0)), (3, .ref ao), (4, .ref aod), (5, .int (nI i))]) [2, 3, 4, 5, 6, 7] rfl (x_widen (show cells + 2 ≤ cells + 8 by omega) (show slots + 12 ≤ slots + 80 by omega) kk))
  by_cases hc6 : c6 = 0
  · have h4 := h4 hc6
    refine x_if_ne_f X (tgt := 373) dL_law_358 (by decide) hc6 ?_
    refine x_aload_n X dL_law_361 5 rfl ?_
    refine x_iconst X (v := 0) dL_law_362 (by decide) ?_
    refine x_lald X E.1.1 29 rfl (kf := some) dL_law_363 (ck_t in01) (fun z hz => ?_)
    have hz : z = _ := (Option.some.inj hz).trans h4
    subst hz
    refine x_iload X dL_law_364 0 rfl ?_
    refine x_i2l X dL_law_366 ?_
    refine x_lcmp X dL_law_367 ?_
    refine x_if_eq_t X (tgt := 373) dL_law_368 (by decide) (lcmp_self _) ?_
    exact hend
  · exact x_if_ne_t X (tgt := 373) dL_law_358 (by decide) hc6 hend
set_option maxRecDepth 100000 in
set_option maxHeartbeats 4000000 in
theorem arm_3 (X : CX p m c cL_law 9 s args RL) (E : EX l s D kA A) (hNC : NCs s) (hX : va_X b L xs s s.heap) (hbl : b < s.heap.size) (hbA : ¬ A b) (hi : i + 4 ≤ L) (hL : L ≤ 2048) (hcC : cells + 8 ≤ 601024) (hcS : slots + 80 ≤ 7293034) (fu : Nat) (w w1 v v1 : WS) (o o1 : Nat → Int64) (od : Nat → UInt64) (c6 : Int32) (r7 : Int32) (h1 : f_L_setOpen fu w o (xs (i + 1)) (if xs (i + 2) = 0 then 0 else 1) = some (c6, w1, o1)) (h2 : f_X4_setOpen fu v (xs (i + 1)) (if xs (i + 2) = 0 then 0 else 1) = some (r7, v1)) (h3 : f_X4_thrown fu v1 = some c6) (h4 : c6 = 0 → o1 0 = Int32.toInt64 r7) (kk : CS p l e room_1 s m args below meth c D A 9 (cells + 8) (slots + 80) Q (LW kA ad am ao aod w1 o1 od v1) 1905 [(0, .ref b), (1, .ref (ad 0)), (2, .ref (am 0)), (3, .ref ao), (4, .ref aod), (5, .int (nI i))] []) : CS p l e room_1 s m args below meth c D A 9 cells slots Q (LW kA ad am ao aod w o od v) 376 [(0, .ref b), (1, .ref (ad 0)), (2, .ref (am 0)), (3, .ref ao), (4, .ref aod), (5, .int (nI i))] [] := by
  refine x_aload_n X dL_law_376 1 rfl ?_
  refine x_arg X hX hbl hbA hi hL (j := 1) (by decide) (by decide) 0 5 rfl rfl dL_law_377 dL_law_378 dL_law_380 dL_law_381 dL_law_382 ?_
  refine x_arg X hX hbl hbA hi hL (j := 2) (by decide) (by decide) 0 5 rfl rfl dL_law_383 dL_law_384 dL_law_386 dL_law_387 dL_law_388 ?_
  refine x_bool X dL_law_389 dL_law_392 dL_law_393 dL_law_396 ?_
  refine x_aload_n X dL_law_397 3 rfl ?_
  refine x_callW X E hNC (As := [.ref (ad 0), .int (xs (i + 1)), .int (if xs (i + 2) = 0 then 0 else 1), .ref ao]) (rest := []) (n := 4) (mc := 1) (ms := 6) (rm := rm_L_setOpen) (u := picC kA ad w ++ LWo kA ao o) (u2 := picC kA ad w1 ++ LWo kA ao o1) (w3 := LWd kA aod od ++ picM kA am v) rfl (goodSW w_507 w_508 w_46 w_509) (fun sz => met_L_setOpen l E.2.2.2 D kA ad ao fu w o (xs (i + 1)) (if xs (i + 2) = 0 then 0 else 1) _ _ _ h1 sz) rfl rfl (by decide +kernel) ⟨by decide, by decide⟩ rfl rfl (Nat.le_of_ble_eq_true rfl) dL_law_398 ⟨(show cells + 1 ≤ 601024 by omega), (show slots + 6 ≤ 7293034 by omega)⟩ (LW kA ad am ao aod w1 o1 od v) rfl ?_
  refine x_istore X (lv2 := (6, .int c6) :: [(0, .ref b), (1, .ref (ad 0)), (2, .ref (am 0)), (3, .ref ao), (4, .ref aod), (5, .int (nI i))]) dL_law_401 (by decide) rfl ?_
  refine x_aload_n X dL_law_403 3 rfl ?_
  refine x_arg X hX hbl hbA hi hL (j := 1) (by decide) (by decide) 1 6 rfl rfl dL_law_404 dL_law_405 dL_law_407 dL_law_408 dL_law_409 ?_
  refine x_arg X hX hbl hbA hi hL (j := 2) (by decide) (by decide) 1 6 rfl rfl dL_law_410 dL_law_411 dL_law_413 dL_law_414 dL_law_415 ?_
  refine x_bool X dL_law_416 dL_law_419 dL_law_420 dL_law_423 ?_
  refine x_callVs_i X E (As := [.int (xs (i + 1)), .int (if xs (i + 2) = 0 then 0 else 1)]) (rest := []) (n := 2) (rm := rm_X4_setOpen) (u := picM kA am v) (u2 := picM kA am v1) ((picC kA ad w1 ++ LWo kA ao o1) ++ LWd kA aod od) [] (lw_mid _ _ _ _) (goodV w_979 w_980 w_981 w_52 w_982) (fun sz => met_X4_setOpen l E.2.2.2 D kA am fu v (xs (i + 1)) (if xs (i + 2) = 0 then 0 else 1) r7 v1 h2 sz) rfl rfl (by decide +kernel) ⟨by decide, by decide⟩ 0 rfl (qc := (RX4, TX4, _)) rfl rfl rfl rfl (Nat.le_of_ble_eq_true rfl) dL_law_424 ⟨(show cells + 1 ≤ 601024 by omega), (show slots + 6 ≤ 7293034 by omega)⟩ (LW kA ad am ao aod w1 o1 od v1) (lw_mid _ _ _ _).symm ?_
  refine x_istore X (lv2 := (7, .int r7) :: (6, .int c6) :: [(0, .ref b), (1, .ref (ad 0)), (2, .ref (am 0)), (3, .ref ao), (4, .ref aod), (5, .int (nI i))]) dL_law_427 (by decide) rfl ?_
  refine x_aload_n X dL_law_429 4 rfl ?_
  refine x_callVs_i X E (As := []) (rest := []) (n := 0) (rm := rm_X4_thrown) (u := picM kA am v1) (u2 := picM kA am v1) ((picC kA ad w1 ++ LWo kA ao o1) ++ LWd kA aod od) [] (lw_mid _ _ _ _) (goodV w_927 w_928 w_929 w_52 w_930) (fun sz => met_X4_thrown l E.2.2.2 D kA am fu v1 c6 h3 sz) rfl rfl (by decide +kernel) ⟨by decide, by decide⟩ 0 rfl (qc := (RX4, TX4, _)) rfl rfl rfl rfl (Nat.le_of_ble_eq_true rfl) dL_law_430 ⟨(show cells + 1 ≤ 601024 by omega), (show slots + 6 ≤ 7293034 by omega)⟩ (LW kA ad am ao aod w1 o1 od v1) (lw_mid _ _ _ _).symm ?_
  refine x_iload X dL_law_433 1 rfl ?_
  refine x_icmp_eq_t X (tgt := 440) dL_law_435 (by decide) rfl ?_
  refine x_iload X dL_law_440 1 rfl ?_
  have hend : CS p l e room_1 s m args below meth c D A 9 (cells + 1) (slots + 6) Q (LW kA ad am ao aod w1 o1 od v1) 457 ((7, .int r7) :: (6, .int c6) :: [(0, .ref b), (1, .ref (ad 0)), (2, .ref (am 0)), (3, .ref ao), (4, .ref aod), (5, .int (nI i))]) [] := x_goto X (tgt := 1905) dL_law_457 (by decide) (x_lpick (lv2 := [(0, .ref b), (1, .ref (ad 0)), (2, .ref (am 0)), (3, .ref ao), (4, .ref aod), (5, .int (nI i))]) [2, 3, 4, 5, 6, 7] rfl (x_widen (show cells + 1 ≤ cells + 8 by omega) (show slots + 6 ≤ slots + 80 by omega) kk))
  by_cases hc6 : c6 = 0
  · have h4 := h4 hc6
    refine x_if_ne_f X (tgt := 457) dL_law_442 (by decide) hc6 ?_
    refine x_aload_n X dL_law_445 5 rfl ?_
    refine x_iconst X (v := 0) dL_law_446 (by decide) ?_
    refine x_lald X E.1.1 29 rfl (kf := some) dL_law_447 (ck_t in01) (fun z hz => ?_)
    have hz : z = _ := (Option.some.inj hz).trans h4
    subst hz
    refine x_iload X dL_law_448 0 rfl ?_
    refine x_i2l X dL_law_450 ?_
    refine x_lcmp X dL_law_451 ?_
    refine x_if_eq_t X (tgt := 457) dL_law_452 (by decide) (lcmp_self _) ?_
    exact hend
  · exact x_if_ne_t X (tgt := 457) dL_law_442 (by decide) hc6 hend
set_option maxRecDepth 100000 in
set_option maxHeartbeats 4000000 in
theorem arm_4 (X : CX p m c cL_law 9 s args RL) (E : EX l s D kA A) (hNC : NCs s) (hX : va_X b L xs s s.heap) (hbl : b < s.heap.size) (hbA : ¬ A b) (hi : i + 4 ≤ L) (hL : L ≤ 2048) (hcC : cells + 8 ≤ 601024) (hcS : slots + 80 ≤ 7293034) (fu : Nat) (w w1 v v1 : WS) (o o1 : Nat → Int64) (od : Nat → UInt64) (c6 : Int32) (r7 : Int32) (h1 : f_L_setTurn fu w o (xs (i + 1)) (xs (i + 2)) (xs (i + 3)) = some (c6, w1, o1)) (h2 : f_X4_setTurn fu v (xs (i + 1)) (xs (i + 2)) (xs (i + 3)) = some (r7, v1)) (h3 : f_X4_thrown fu v1 = some c6) (h4 : c6 = 0 → o1 0 = Int32.toInt64 r7) (kk : CS p l e room_1 s m args below meth c D A 9 (cells + 8) (slots + 80) Q (LW kA ad am ao aod w1 o1 od v1) 1905 [(0, .ref b), (1, .ref (ad 0)), (2, .ref (am 0)), (3, .ref ao), (4, .ref aod), (5, .int (nI i))] []) : CS p l e room_1 s m args below meth c D A 9 cells slots Q (LW kA ad am ao aod w o od v) 460 [(0, .ref b), (1, .ref (ad 0)), (2, .ref (am 0)), (3, .ref ao), (4, .ref aod), (5, .int (nI i))] [] := by
  refine x_aload_n X dL_law_460 1 rfl ?_
  refine x_arg X hX hbl hbA hi hL (j := 1) (by decide) (by decide) 0 5 rfl rfl dL_law_461 dL_law_462 dL_law_464 dL_law_465 dL_law_466 ?_
  refine x_arg X hX hbl hbA hi hL (j := 2) (by decide) (by decide) 0 5 rfl rfl dL_law_467 dL_law_468 dL_law_470 dL_law_471 dL_law_472 ?_
  refine x_arg X hX hbl hbA hi hL (j := 3) (by decide) (by decide) 0 5 rfl rfl dL_law_473 dL_law_474 dL_law_476 dL_law_477 dL_law_478 ?_
  refine x_aload_n X dL_law_479 3 rfl ?_
  refine x_callW X E hNC (As := [.ref (ad 0), .int (xs (i + 1)), .int (xs (i + 2)), .int (xs (i + 3)), .ref ao]) (rest := []) (n := 5) (mc := 4) (ms := 24) (rm := rm_L_setTurn) (u := picC kA ad w ++ LWo kA ao o) (u2 := picC kA ad w1 ++ LWo kA ao o1) (w3 := LWd kA aod od ++ picM kA am v) rfl (goodSW w_519 w_520 w_46 w_521) (fun sz => met_L_setTurn l E.2.2.2 D kA ad ao fu w o (xs (i + 1)) (xs (i + 2)) (xs (i + 3)) _ _ _ h1 sz) rfl rfl (by decide +kernel) ⟨by decide, by decide⟩ rfl rfl (Nat.le_of_ble_eq_true rfl) dL_law_480 ⟨(show cells + 4 ≤ 601024 by omega), (show slots + 24 ≤ 7293034 by omega)⟩ (LW kA ad am ao aod w1 o1 od v) rfl ?_
  refine x_istore X (lv2 := (6, .int c6) :: [(0, .ref b), (1, .ref (ad 0)), (2, .ref (am 0)), (3, .ref ao), (4, .ref aod), (5, .int (nI i))]) dL_law_483 (by decide) rfl ?_
  refine x_aload_n X dL_law_485 3 rfl ?_
  refine x_arg X hX hbl hbA hi hL (j := 1) (by decide) (by decide) 1 6 rfl rfl dL_law_486 dL_law_487 dL_law_489 dL_law_490 dL_law_491 ?_
  refine x_arg X hX hbl hbA hi hL (j := 2) (by decide) (by decide) 1 6 rfl rfl dL_law_492 dL_law_493 dL_law_495 dL_law_496 dL_law_497 ?_
  refine x_arg X hX hbl hbA hi hL (j := 3) (by decide) (by decide) 1 6 rfl rfl dL_law_498 dL_law_499 dL_law_501 dL_law_502 dL_law_503 ?_
  refine x_callVs_i X E (As := [.int (xs (i + 1)), .int (xs (i + 2)), .int (xs (i + 3))]) (rest := []) (n := 3) (rm := rm_X4_setTurn) (u := picM kA am v) (u2 := picM kA am v1) ((picC kA ad w1 ++ LWo kA ao o1) ++ LWd kA aod od) [] (lw_mid _ _ _ _) (goodV w_983 w_984 w_985 w_52 w_986) (fun sz => met_X4_setTurn l E.2.2.2 D kA am fu v (xs (i + 1)) (xs (i + 2)) (xs (i + 3)) r7 v1 h2 sz) rfl rfl (by decide +kernel) ⟨by decide, by decide⟩ 0 rfl (qc := (RX4, TX4, _)) rfl rfl rfl rfl (Nat.le_of_ble_eq_true rfl) dL_law_504 ⟨(show cells + 4 ≤ 601024 by omega), (show slots + 24 ≤ 7293034 by omega)⟩ (LW kA ad am ao aod w1 o1 od v1) (lw_mid _ _ _ _).symm ?_
  refine x_istore X (lv2 := (7, .int r7) :: (6, .int c6) :: [(0, .ref b), (1, .ref (ad 0)), (2, .ref (am 0)), (3, .ref ao), (4, .ref aod), (5, .int (nI i))]) dL_law_507 (by decide) rfl ?_
  refine x_aload_n X dL_law_509 4 rfl ?_
  refine x_callVs_i X E (As := []) (rest := []) (n := 0) (rm := rm_X4_thrown) (u := picM kA am v1) (u2 := picM kA am v1) ((picC kA ad w1 ++ LWo kA ao o1) ++ LWd kA aod od) [] (lw_mid _ _ _ _) (goodV w_927 w_928 w_929 w_52 w_930) (fun sz => met_X4_thrown l E.2.2.2 D kA am fu v1 c6 h3 sz) rfl rfl (by decide +kernel) ⟨by decide, by decide⟩ 0 rfl (qc := (RX4, TX4, _)) rfl rfl rfl rfl (Nat.le_of_ble_eq_true rfl) dL_law_510 ⟨(show cells + 4 ≤ 601024 by omega), (show slots + 24 ≤ 7293034 by omega)⟩ (LW kA ad am ao aod w1 o1 od v1) (lw_mid _ _ _ _).symm ?_
  refine x_iload X dL_law_513 1 rfl ?_
  refine x_icmp_eq_t X (tgt := 520) dL_law_515 (by decide) rfl ?_
  refine x_iload X dL_law_520 1 rfl ?_
  have hend : CS p l e room_1 s m args below meth c D A 9 (cells + 4) (slots + 24) Q (LW kA ad am ao aod w1 o1 od v1) 537 ((7, .int r7) :: (6, .int c6) :: [(0, .ref b), (1, .ref (ad 0)), (2, .ref (am 0)), (3, .ref ao), (4, .ref aod), (5, .int (nI i))]) [] := x_goto X (tgt := 1905) dL_law_537 (by decide) (x_lpick (lv2 := [(0, .ref b), (1, .ref (ad 0)), (2, .ref (am 0)), (3, .ref ao), (4, .ref aod), (5, .int (nI i))]) [2, 3, 4, 5, 6, 7] rfl (x_widen (show cells + 4 ≤ cells + 8 by omega) (show slots + 24 ≤ slots + 80 by omega) kk))
  by_cases hc6 : c6 = 0
  · have h4 := h4 hc6
    refine x_if_ne_f X (tgt := 537) dL_law_522 (by decide) hc6 ?_
    refine x_aload_n X dL_law_525 5 rfl ?_
    refine x_iconst X (v := 0) dL_law_526 (by decide) ?_
    refine x_lald X E.1.1 29 rfl (kf := some) dL_law_527 (ck_t in01) (fun z hz => ?_)
    have hz : z = _ := (Option.some.inj hz).trans h4
    subst hz
    refine x_iload X dL_law_528 0 rfl ?_
    refine x_i2l X dL_law_530 ?_
    refine x_lcmp X dL_law_531 ?_
    refine x_if_eq_t X (tgt := 537) dL_law_532 (by decide) (lcmp_self _) ?_
    exact hend
  · exact x_if_ne_t X (tgt := 537) dL_law_522 (by decide) hc6 hend
set_option maxRecDepth 100000 in
set_option maxHeartbeats 4000000 in
theorem arm_5 (X : CX p m c cL_law 9 s args RL) (E : EX l s D kA A) (hNC : NCs s) (hX : va_X b L xs s s.heap) (hbl : b < s.heap.size) (hbA : ¬ A b) (hi : i + 4 ≤ L) (hL : L ≤ 2048) (hcC : cells + 8 ≤ 601024) (hcS : slots + 80 ≤ 7293034) (fu : Nat) (w w1 v v1 : WS) (o o1 : Nat → Int64) (od : Nat → UInt64) (c6 : Int32) (r7 : Int32) (h1 : f_L_setUTurn fu w o (xs (i + 1)) = some (c6, w1, o1)) (h2 : f_X4_setUTurn fu v (xs (i + 1)) = some (r7, v1)) (h3 : f_X4_thrown fu v1 = some c6) (h4 : c6 = 0 → o1 0 = Int32.toInt64 r7) (kk : CS p l e room_1 s m args below meth c D A 9 (cells + 8) (slots + 80) Q (LW kA ad am ao aod w1 o1 od v1) 1905 [(0, .ref b), (1, .ref (ad 0)), (2, .ref (am 0)), (3, .ref ao), (4, .ref aod), (5, .int (nI i))] []) : CS p l e room_1 s m args below meth c D A 9 cells slots Q (LW kA ad am ao aod w o od v) 540 [(0, .ref b), (1, .ref (ad 0)), (2, .ref (am 0)), (3, .ref ao), (4, .ref aod), (5, .int (nI i))] [] := by
  refine x_aload_n X dL_law_540 1 rfl ?_
  refine x_arg X hX hbl hbA hi hL (j := 1) (by decide) (by decide) 0 5 rfl rfl dL_law_541 dL_law_542 dL_law_544 dL_law_545 dL_law_546 ?_
  refine x_aload_n X dL_law_547 3 rfl ?_
  refine x_callW X E hNC (As := [.ref (ad 0), .int (xs (i + 1)), .ref ao]) (rest := []) (n := 3) (mc := 1) (ms := 6) (rm := rm_L_setUTurn) (u := picC kA ad w ++ LWo kA ao o) (u2 := picC kA ad w1 ++ LWo kA ao o1) (w3 := LWd kA aod od ++ picM kA am v) rfl (goodSW w_537 w_538 w_46 w_539) (fun sz => met_L_setUTurn l E.2.2.2 D kA ad ao fu w o (xs (i + 1)) _ _ _ h1 sz) rfl rfl (by decide +kernel) ⟨by decide, by decide⟩ rfl rfl (Nat.le_of_ble_eq_true rfl) dL_law_548 ⟨(show cells + 1 ≤ 601024 by omega), (show slots + 6 ≤ 7293034 by omega)⟩ (LW kA ad am ao aod w1 o1 od v) rfl ?_
  refine x_istore X (lv2 := (6, .int c6) :: [(0, .ref b), (1, .ref (ad 0)), (2, .ref (am 0)), (3, .ref ao), (4, .ref aod), (5, .int (nI i))]) dL_law_551 (by decide) rfl ?_
  refine x_aload_n X dL_law_553 3 rfl ?_
  refine x_arg X hX hbl hbA hi hL (j := 1) (by decide) (by decide) 1 6 rfl rfl dL_law_554 dL_law_555 dL_law_557 dL_law_558 dL_law_559 ?_
  refine x_callVs_i X E (As := [.int (xs (i + 1))]) (rest := []) (n := 1) (rm := rm_X4_setUTurn) (u := picM kA am v) (u2 := picM kA am v1) ((picC kA ad w1 ++ LWo kA ao o1) ++ LWd kA aod od) [] (lw_mid _ _ _ _) (goodV w_987 w_988 w_989 w_52 w_990) (fun sz => met_X4_setUTurn l E.2.2.2 D kA am fu v (xs (i + 1)) r7 v1 h2 sz) rfl rfl (by decide +kernel) ⟨by decide, by decide⟩ 0 rfl (qc := (RX4, TX4, _)) rfl rfl rfl rfl (Nat.le_of_ble_eq_true rfl) dL_law_560 ⟨(show cells + 1 ≤ 601024 by omega), (show slots + 6 ≤ 7293034 by omega)⟩ (LW kA ad am ao aod w1 o1 od v1) (lw_mid _ _ _ _).symm ?_
  refine x_istore X (lv2 := (7, .int r7) :: (6, .int c6) :: [(0, .ref b), (1, .ref (ad 0)), (2, .ref (am 0)), (3, .ref ao), (4, .ref aod), (5, .int (nI i))]) dL_law_563 (by decide) rfl ?_
  refine x_aload_n X dL_law_565 4 rfl ?_
  refine x_callVs_i X E (As := []) (rest := []) (n := 0) (rm := rm_X4_thrown) (u := picM kA am v1) (u2 := picM kA am v1) ((picC kA ad w1 ++ LWo kA ao o1) ++ LWd kA aod od) [] (lw_mid _ _ _ _) (goodV w_927 w_928 w_929 w_52 w_930) (fun sz => met_X4_thrown l E.2.2.2 D kA am fu v1 c6 h3 sz) rfl rfl (by decide +kernel) ⟨by decide, by decide⟩ 0 rfl (qc := (RX4, TX4, _)) rfl rfl rfl rfl (Nat.le_of_ble_eq_true rfl) dL_law_566 ⟨(show cells + 1 ≤ 601024 by omega), (show slots + 6 ≤ 7293034 by omega)⟩ (LW kA ad am ao aod w1 o1 od v1) (lw_mid _ _ _ _).symm ?_
  refine x_iload X dL_law_569 1 rfl ?_
  refine x_icmp_eq_t X (tgt := 576) dL_law_571 (by decide) rfl ?_
  refine x_iload X dL_law_576 1 rfl ?_
  have hend : CS p l e room_1 s m args below meth c D A 9 (cells + 1) (slots + 6) Q (LW kA ad am ao aod w1 o1 od v1) 593 ((7, .int r7) :: (6, .int c6) :: [(0, .ref b), (1, .ref (ad 0)), (2, .ref (am 0)), (3, .ref ao), (4, .ref aod), (5, .int (nI i))]) [] := x_goto X (tgt := 1905) dL_law_593 (by decide) (x_lpick (lv2 := [(0, .ref b), (1, .ref (ad 0)), (2, .ref (am 0)), (3, .ref ao), (4, .ref aod), (5, .int (nI i))]) [2, 3, 4, 5, 6, 7] rfl (x_widen (show cells + 1 ≤ cells + 8 by omega) (show slots + 6 ≤ slots + 80 by omega) kk))
  by_cases hc6 : c6 = 0
  · have h4 := h4 hc6
    refine x_if_ne_f X (tgt := 593) dL_law_578 (by decide) hc6 ?_
    refine x_aload_n X dL_law_581 5 rfl ?_
    refine x_iconst X (v := 0) dL_law_582 (by decide) ?_
    refine x_lald X E.1.1 29 rfl (kf := some) dL_law_583 (ck_t in01) (fun z hz => ?_)
    have hz : z = _ := (Option.some.inj hz).trans h4
    subst hz
    refine x_iload X dL_law_584 0 rfl ?_
    refine x_i2l X dL_law_586 ?_
    refine x_lcmp X dL_law_587 ?_
    refine x_if_eq_t X (tgt := 593) dL_law_588 (by decide) (lcmp_self _) ?_
    exact hend
  · exact x_if_ne_t X (tgt := 593) dL_law_578 (by decide) hc6 hend
set_option maxRecDepth 100000 in
set_option maxHeartbeats 4000000 in
theorem arm_6 (X : CX p m c cL_law 9 s args RL) (E : EX l s D kA A) (hNC : NCs s) (hX : va_X b L xs s s.heap) (hbl : b < s.heap.size) (hbA : ¬ A b) (hi : i + 4 ≤ L) (hL : L ≤ 2048) (hcC : cells + 8 ≤ 601024) (hcS : slots + 80 ≤ 7293034) (fu : Nat) (w v v1 : WS) (o : Nat → Int64) (od : Nat → UInt64) (r : Int32) (h1 : f_X3_junctionCount fu w = some r) (h2 : f_X4_junctionCount fu v = some (r, v1)) (kk : CS p l e room_1 s m args below meth c D A 9 (cells + 8) (slots + 80) Q (LW kA ad am ao aod w o od v1) 1905 [(0, .ref b), (1, .ref (ad 0)), (2, .ref (am 0)), (3, .ref ao), (4, .ref aod), (5, .int (nI i))] []) : CS p l e room_1 s m args below meth c D A 9 cells slots Q (LW kA ad am ao aod w o od v) 596 [(0, .ref b), (1, .ref (ad 0)), (2, .ref (am 0)), (3, .ref ao), (4, .ref aod), (5, .int (nI i))] [] := by
  refine x_aload_n X dL_law_596 1 rfl ?_
  refine x_callVs_i X E (As := []) (rest := []) (n := 0) (rm := rm_X3_junctionCount) (u := picC kA ad w) (u2 := picC kA ad w) [] (LWo kA ao o ++ (LWd kA aod od ++ picM kA am v)) (lw_fst _ _ _ _) (goodV w_247 w_248 w_249 w_47 w_250) (fun sz => met_X3_junctionCount l E.2.2.2 D kA ad fu w r h1 sz) rfl rfl (by decide +kernel) ⟨by decide, by decide⟩ 0 rfl (qc := (RX3, TX3, _)) rfl rfl rfl rfl (Nat.le_of_ble_eq_true rfl) dL_law_597 ⟨(show cells ≤ 601024 by omega), (show slots ≤ 7293034 by omega)⟩ (LW kA ad am ao aod w o od v) (lw_fst _ _ _ _).symm ?_
  refine x_aload_n X dL_law_600 2 rfl ?_
  refine x_callVs_i X E (As := []) (rest := [.int r]) (n := 0) (rm := rm_X4_junctionCount) (u := picM kA am v) (u2 := picM kA am v1) ((picC kA ad w ++ LWo kA ao o) ++ LWd kA aod od) [] (lw_mid _ _ _ _) (goodV w_991 w_992 w_993 w_52 w_994) (fun sz => met_X4_junctionCount l E.2.2.2 D kA am fu v r v1 h2 sz) rfl rfl (by decide +kernel) ⟨by decide, by decide⟩ 0 rfl (qc := (RX4, TX4, _)) rfl rfl rfl rfl (Nat.le_of_ble_eq_true rfl) dL_law_601 ⟨(show cells ≤ 601024 by omega), (show slots ≤ 7293034 by omega)⟩ (LW kA ad am ao aod w o od v1) (lw_mid _ _ _ _).symm ?_
  refine x_icmp_eq_t X (tgt := 1905) dL_law_604 (by decide) rfl ?_
  exact x_widen (by omega) (by omega) kk
set_option maxRecDepth 100000 in
set_option maxHeartbeats 4000000 in
theorem arm_7 (X : CX p m c cL_law 9 s args RL) (E : EX l s D kA A) (hNC : NCs s) (hX : va_X b L xs s s.heap) (hbl : b < s.heap.size) (hbA : ¬ A b) (hi : i + 4 ≤ L) (hL : L ≤ 2048) (hcC : cells + 8 ≤ 601024) (hcS : slots + 80 ≤ 7293034) (fu : Nat) (w v v1 : WS) (o : Nat → Int64) (od : Nat → UInt64) (r : Int32) (h1 : f_X3_roadCount fu w = some r) (h2 : f_X4_roadCount fu v = some (r, v1)) (kk : CS p l e room_1 s m args below meth c D A 9 (cells + 8) (slots + 80) Q (LW kA ad am ao aod w o od v1) 1905 [(0, .ref b), (1, .ref (ad 0)), (2, .ref (am 0)), (3, .ref ao), (4, .ref aod), (5, .int (nI i))] []) : CS p l e room_1 s m args below meth c D A 9 cells slots Q (LW kA ad am ao aod w o od v) 609 [(0, .ref b), (1, .ref (ad 0)), (2, .ref (am 0)), (3, .ref ao), (4, .ref aod), (5, .int (nI i))] [] := by
  refine x_aload_n X dL_law_609 1 rfl ?_
  refine x_callVs_i X E (As := []) (rest := []) (n := 0) (rm := rm_X3_roadCount) (u := picC kA ad w) (u2 := picC kA ad w) [] (LWo kA ao o ++ (LWd kA aod od ++ picM kA am v)) (lw_fst _ _ _ _) (goodV w_251 w_252 w_253 w_47 w_254) (fun sz => met_X3_roadCount l E.2.2.2 D kA ad fu w r h1 sz) rfl rfl (by decide +kernel) ⟨by decide, by decide⟩ 0 rfl (qc := (RX3, TX3, _)) rfl rfl rfl rfl (Nat.le_of_ble_eq_true rfl) dL_law_610 ⟨(show cells ≤ 601024 by omega), (show slots ≤ 7293034 by omega)⟩ (LW kA ad am ao aod w o od v) (lw_fst _ _ _ _).symm ?_
  refine x_aload_n X dL_law_613 2 rfl ?_
  refine x_callVs_i X E (As := []) (rest := [.int r]) (n := 0) (rm := rm_X4_roadCount) (u := picM kA am v) (u2 := picM kA am v1) ((picC kA ad w ++ LWo kA ao o) ++ LWd kA aod od) [] (lw_mid _ _ _ _) (goodV w_995 w_996 w_997 w_52 w_998) (fun sz => met_X4_roadCount l E.2.2.2 D kA am fu v r v1 h2 sz) rfl rfl (by decide +kernel) ⟨by decide, by decide⟩ 0 rfl (qc := (RX4, TX4, _)) rfl rfl rfl rfl (Nat.le_of_ble_eq_true rfl) dL_law_614 ⟨(show cells ≤ 601024 by omega), (show slots ≤ 7293034 by omega)⟩ (LW kA ad am ao aod w o od v1) (lw_mid _ _ _ _).symm ?_
  refine x_icmp_eq_t X (tgt := 1905) dL_law_617 (by decide) rfl ?_
  exact x_widen (by omega) (by omega) kk
set_option maxRecDepth 100000 in
set_option maxHeartbeats 4000000 in
theorem arm_8 (X : CX p m c cL_law 9 s args RL) (E : EX l s D kA A) (hNC : NCs s) (hX : va_X b L xs s s.heap) (hbl : b < s.heap.size) (hbA : ¬ A b) (hi : i + 4 ≤ L) (hL : L ≤ 2048) (hcC : cells + 8 ≤ 601024) (hcS : slots + 80 ≤ 7293034) (fu : Nat) (w w1 v v1 : WS) (o o1 : Nat → Int64) (od : Nat → UInt64) (c6 : Int32) (r7 : Int32) (h1 : f_L_weight fu w o (xs (i + 1)) = some (c6, w1, o1)) (h2 : f_X4_weight fu v (xs (i + 1)) = some (r7, v1)) (h3 : f_X4_thrown fu v1 = some c6) (h4 : c6 = 0 → o1 0 = Int32.toInt64 r7) (kk : CS p l e room_1 s m args below meth c D A 9 (cells + 8) (slots + 80) Q (LW kA ad am ao aod w1 o1 od v1) 1905 [(0, .ref b), (1, .ref (ad 0)), (2, .ref (am 0)), (3, .ref ao), (4, .ref aod), (5, .int (nI i))] []) : CS p l e room_1 s m args below meth c D A 9 cells slots Q (LW kA ad am ao aod w o od v) 622 [(0, .ref b), (1, .ref (ad 0)), (2, .ref (am 0)), (3, .ref ao), (4, .ref aod), (5, .int (nI i))] [] := by
  refine x_aload_n X dL_law_622 1 rfl ?_
  refine x_arg X hX hbl hbA hi hL (j := 1) (by decide) (by decide) 0 5 rfl rfl dL_law_623 dL_law_624 dL_law_626 dL_law_627 dL_law_628 ?_
  refine x_aload_n X dL_law_629 3 rfl ?_
  refine x_callW X E hNC (As := [.ref (ad 0), .int (xs (i + 1)), .ref ao]) (rest := []) (n := 3) (mc := 1) (ms := 6) (rm := rm_L_weight) (u := picC kA ad w ++ LWo kA ao o) (u2 := picC kA ad w1 ++ LWo kA ao o1) (w3 := LWd kA aod od ++ picM kA am v) rfl (goodSW w_554 w_555 w_46 w_556) (fun sz => met_L_weight l E.2.2.2 D kA ad ao fu w o (xs (i + 1)) _ _ _ h1 sz) rfl rfl (by decide +kernel) ⟨by decide, by decide⟩ rfl rfl (Nat.le_of_ble_eq_true rfl) dL_law_630 ⟨(show cells + 1 ≤ 601024 by omega), (show slots + 6 ≤ 7293034 by omega)⟩ (LW kA ad am ao aod w1 o1 od v) rfl ?_
  refine x_istore X (lv2 := (6, .int c6) :: [(0, .ref b), (1, .ref (ad 0)), (2, .ref (am 0)), (3, .ref ao), (4, .ref aod), (5, .int (nI i))]) dL_law_633 (by decide) rfl ?_
  refine x_aload_n X dL_law_635 3 rfl ?_
  refine x_arg X hX hbl hbA hi hL (j := 1) (by decide) (by decide) 1 6 rfl rfl dL_law_636 dL_law_637 dL_law_639 dL_law_640 dL_law_641 ?_
  refine x_callVs_i X E (As := [.int (xs (i + 1))]) (rest := []) (n := 1) (rm := rm_X4_weight) (u := picM kA am v) (u2 := picM kA am v1) ((picC kA ad w1 ++ LWo kA ao o1) ++ LWd kA aod od) [] (lw_mid _ _ _ _) (goodV w_999 w_1000 w_1001 w_52 w_1002) (fun sz => met_X4_weight l E.2.2.2 D kA am fu v (xs (i + 1)) r7 v1 h2 sz) rfl rfl (by decide +kernel) ⟨by decide, by decide⟩ 0 rfl (qc := (RX4, TX4, _)) rfl rfl rfl rfl (Nat.le_of_ble_eq_true rfl) dL_law_642 ⟨(show cells + 1 ≤ 601024 by omega), (show slots + 6 ≤ 7293034 by omega)⟩ (LW kA ad am ao aod w1 o1 od v1) (lw_mid _ _ _ _).symm ?_
  refine x_istore X (lv2 := (7, .int r7) :: (6, .int c6) :: [(0, .ref b), (1, .ref (ad 0)), (2, .ref (am 0)), (3, .ref ao), (4, .ref aod), (5, .int (nI i))]) dL_law_645 (by decide) rfl ?_
  refine x_aload_n X dL_law_647 4 rfl ?_
  refine x_callVs_i X E (As := []) (rest := []) (n := 0) (rm := rm_X4_thrown) (u := picM kA am v1) (u2 := picM kA am v1) ((picC kA ad w1 ++ LWo kA ao o1) ++ LWd kA aod od) [] (lw_mid _ _ _ _) (goodV w_927 w_928 w_929 w_52 w_930) (fun sz => met_X4_thrown l E.2.2.2 D kA am fu v1 c6 h3 sz) rfl rfl (by decide +kernel) ⟨by decide, by decide⟩ 0 rfl (qc := (RX4, TX4, _)) rfl rfl rfl rfl (Nat.le_of_ble_eq_true rfl) dL_law_648 ⟨(show cells + 1 ≤ 601024 by omega), (show slots + 6 ≤ 7293034 by omega)⟩ (LW kA ad am ao aod w1 o1 od v1) (lw_mid _ _ _ _).symm ?_
  refine x_iload X dL_law_651 1 rfl ?_
  refine x_icmp_eq_t X (tgt := 658) dL_law_653 (by decide) rfl ?_
  refine x_iload X dL_law_658 1 rfl ?_
  have hend : CS p l e room_1 s m args below meth c D A 9 (cells + 1) (slots + 6) Q (LW kA ad am ao aod w1 o1 od v1) 675 ((7, .int r7) :: (6, .int c6) :: [(0, .ref b), (1, .ref (ad 0)), (2, .ref (am 0)), (3, .ref ao), (4, .ref aod), (5, .int (nI i))]) [] := x_goto X (tgt := 1905) dL_law_675 (by decide) (x_lpick (lv2 := [(0, .ref b), (1, .ref (ad 0)), (2, .ref (am 0)), (3, .ref ao), (4, .ref aod), (5, .int (nI i))]) [2, 3, 4, 5, 6, 7] rfl (x_widen (show cells + 1 ≤ cells + 8 by omega) (show slots + 6 ≤ slots + 80 by omega) kk))
  by_cases hc6 : c6 = 0
  · have h4 := h4 hc6
    refine x_if_ne_f X (tgt := 675) dL_law_660 (by decide) hc6 ?_
    refine x_aload_n X dL_law_663 5 rfl ?_
    refine x_iconst X (v := 0) dL_law_664 (by decide) ?_
    refine x_lald X E.1.1 29 rfl (kf := some) dL_law_665 (ck_t in01) (fun z hz => ?_)
    have hz : z = _ := (Option.some.inj hz).trans h4
    subst hz
    refine x_iload X dL_law_666 0 rfl ?_
    refine x_i2l X dL_law_668 ?_
    refine x_lcmp X dL_law_669 ?_
    refine x_if_eq_t X (tgt := 675) dL_law_670 (by decide) (lcmp_self _) ?_
    exact hend
  · exact x_if_ne_t X (tgt := 675) dL_law_660 (by decide) hc6 hend
set_option maxRecDepth 100000 in
set_option maxHeartbeats 4000000 in
theorem arm_9 (X : CX p m c cL_law 9 s args RL) (E : EX l s D kA A) (hNC : NCs s) (hX : va_X b L xs s s.heap) (hbl : b < s.heap.size) (hbA : ¬ A b) (hi : i + 4 ≤ L) (hL : L ≤ 2048) (hcC : cells + 8 ≤ 601024) (hcS : slots + 80 ≤ 7293034) (fu : Nat) (w w1 v v1 : WS) (o o1 : Nat → Int64) (od : Nat → UInt64) (c6 : Int32) (r7 : Int32) (h1 : f_L_isOpen fu w o (xs (i + 1)) = some (c6, w1, o1)) (h2 : f_X4_isOpen fu v (xs (i + 1)) = some (r7, v1)) (h3 : f_X4_thrown fu v1 = some c6) (h4 : c6 = 0 → o1 0 = if r7 = 0 then 0 else 1) (kk : CS p l e room_1 s m args below meth c D A 9 (cells + 8) (slots + 80) Q (LW kA ad am ao aod w1 o1 od v1) 1905 [(0, .ref b), (1, .ref (ad 0)), (2, .ref (am 0)), (3, .ref ao), (4, .ref aod), (5, .int (nI i))] []) : CS p l e room_1 s m args below meth c D A 9 cells slots Q (LW kA ad am ao aod w o od v) 678 [(0, .ref b), (1, .ref (ad 0)), (2, .ref (am 0)), (3, .ref ao), (4, .ref aod), (5, .int (nI i))] [] := by
  refine x_aload_n X dL_law_678 1 rfl ?_
  refine x_arg X hX hbl hbA hi hL (j := 1) (by decide) (by decide) 0 5 rfl rfl dL_law_679 dL_law_680 dL_law_682 dL_law_683 dL_law_684 ?_
  refine x_aload_n X dL_law_685 3 rfl ?_
  refine x_callW X E hNC (As := [.ref (ad 0), .int (xs (i + 1)), .ref ao]) (rest := []) (n := 3) (mc := 1) (ms := 6) (rm := rm_L_isOpen) (u := picC kA ad w ++ LWo kA ao o) (u2 := picC kA ad w1 ++ LWo kA ao o1) (w3 := LWd kA aod od ++ picM kA am v) rfl (goodSW w_561 w_562 w_46 w_563) (fun sz => met_L_isOpen l E.2.2.2 D kA ad ao fu w o (xs (i + 1)) _ _ _ h1 sz) rfl rfl (by decide +kernel) ⟨by decide, by decide⟩ rfl rfl (Nat.le_of_ble_eq_true rfl) dL_law_686 ⟨(show cells + 1 ≤ 601024 by omega), (show slots + 6 ≤ 7293034 by omega)⟩ (LW kA ad am ao aod w1 o1 od v) rfl ?_
  refine x_istore X (lv2 := (6, .int c6) :: [(0, .ref b), (1, .ref (ad 0)), (2, .ref (am 0)), (3, .ref ao), (4, .ref aod), (5, .int (nI i))]) dL_law_689 (by decide) rfl ?_
  refine x_aload_n X dL_law_691 3 rfl ?_
  refine x_arg X hX hbl hbA hi hL (j := 1) (by decide) (by decide) 1 6 rfl rfl dL_law_692 dL_law_693 dL_law_695 dL_law_696 dL_law_697 ?_
  refine x_callVs_i X E (As := [.int (xs (i + 1))]) (rest := []) (n := 1) (rm := rm_X4_isOpen) (u := picM kA am v) (u2 := picM kA am v1) ((picC kA ad w1 ++ LWo kA ao o1) ++ LWd kA aod od) [] (lw_mid _ _ _ _) (goodV w_1003 w_1004 w_1005 w_52 w_1006) (fun sz => met_X4_isOpen l E.2.2.2 D kA am fu v (xs (i + 1)) r7 v1 h2 sz) rfl rfl (by decide +kernel) ⟨by decide, by decide⟩ 0 rfl (qc := (RX4, TX4, _)) rfl rfl rfl rfl (Nat.le_of_ble_eq_true rfl) dL_law_698 ⟨(show cells + 1 ≤ 601024 by omega), (show slots + 6 ≤ 7293034 by omega)⟩ (LW kA ad am ao aod w1 o1 od v1) (lw_mid _ _ _ _).symm ?_
  refine x_istore X (lv2 := (7, .int r7) :: (6, .int c6) :: [(0, .ref b), (1, .ref (ad 0)), (2, .ref (am 0)), (3, .ref ao), (4, .ref aod), (5, .int (nI i))]) dL_law_701 (by decide) rfl ?_
  refine x_aload_n X dL_law_703 4 rfl ?_
  refine x_callVs_i X E (As := []) (rest := []) (n := 0) (rm := rm_X4_thrown) (u := picM kA am v1) (u2 := picM kA am v1) ((picC kA ad w1 ++ LWo kA ao o1) ++ LWd kA aod od) [] (lw_mid _ _ _ _) (goodV w_927 w_928 w_929 w_52 w_930) (fun sz => met_X4_thrown l E.2.2.2 D kA am fu v1 c6 h3 sz) rfl rfl (by decide +kernel) ⟨by decide, by decide⟩ 0 rfl (qc := (RX4, TX4, _)) rfl rfl rfl rfl (Nat.le_of_ble_eq_true rfl) dL_law_704 ⟨(show cells + 1 ≤ 601024 by omega), (show slots + 6 ≤ 7293034 by omega)⟩ (LW kA ad am ao aod w1 o1 od v1) (lw_mid _ _ _ _).symm ?_
  refine x_iload X dL_law_707 1 rfl ?_
  refine x_icmp_eq_t X (tgt := 714) dL_law_709 (by decide) rfl ?_
  refine x_iload X dL_law_714 1 rfl ?_
  have hend : CS p l e room_1 s m args below meth c D A 9 (cells + 1) (slots + 6) Q (LW kA ad am ao aod w1 o1 od v1) 738 ((7, .int r7) :: (6, .int c6) :: [(0, .ref b), (1, .ref (ad 0)), (2, .ref (am 0)), (3, .ref ao), (4, .ref aod), (5, .int (nI i))]) [] := x_goto X (tgt := 1905) dL_law_738 (by decide) (x_lpick (lv2 := [(0, .ref b), (1, .ref (ad 0)), (2, .ref (am 0)), (3, .ref ao), (4, .ref aod), (5, .int (nI i))]) [2, 3, 4, 5, 6, 7] rfl (x_widen (show cells + 1 ≤ cells + 8 by omega) (show slots + 6 ≤ slots + 80 by omega) kk))
  by_cases hc6 : c6 = 0
  · have h4 := h4 hc6
    refine x_if_ne_f X (tgt := 738) dL_law_716 (by decide) hc6 ?_
    refine x_aload_n X dL_law_719 5 rfl ?_
    refine x_iconst X (v := 0) dL_law_720 (by decide) ?_
    refine x_lald X E.1.1 29 rfl (kf := some) dL_law_721 (ck_t in01) (fun z hz => ?_)
    have hz : z = _ := (Option.some.inj hz).trans h4
    subst hz
    refine x_iload X dL_law_722 0 rfl ?_
    refine x_lbool X dL_law_724 dL_law_727 dL_law_728 dL_law_731 ?_
    refine x_lcmp X dL_law_732 ?_
    refine x_if_eq_t X (tgt := 738) dL_law_733 (by decide) (lcmp_self _) ?_
    exact hend
  · exact x_if_ne_t X (tgt := 738) dL_law_716 (by decide) hc6 hend
set_option maxRecDepth 100000 in
set_option maxHeartbeats 4000000 in
theorem arm_10 (X : CX p m c cL_law 9 s args RL) (E : EX l s D kA A) (hNC : NCs s) (hX : va_X b L xs s s.heap) (hbl : b < s.heap.size) (hbA : ¬ A b) (hi : i + 4 ≤ L) (hL : L ≤ 2048) (hcC : cells + 8 ≤ 601024) (hcS : slots + 80 ≤ 7293034) (fu : Nat) (w w1 v v1 : WS) (o o1 : Nat → Int64) (od : Nat → UInt64) (c6 : Int32) (r7 : Int32) (h1 : f_L_turnPenalty fu w o (xs (i + 1)) (xs (i + 2)) = some (c6, w1, o1)) (h2 : f_X4_turnPenalty fu v (xs (i + 1)) (xs (i + 2)) = some (r7, v1)) (h3 : f_X4_thrown fu v1 = some c6) (h4 : c6 = 0 → o1 0 = Int32.toInt64 r7) (kk : CS p l e room_1 s m args below meth c D A 9 (cells + 8) (slots + 80) Q (LW kA ad am ao aod w1 o1 od v1) 1905 [(0, .ref b), (1, .ref (ad 0)), (2, .ref (am 0)), (3, .ref ao), (4, .ref aod), (5, .int (nI i))] []) : CS p l e room_1 s m args below meth c D A 9 cells slots Q (LW kA ad am ao aod w o od v) 741 [(0, .ref b), (1, .ref (ad 0)), (2, .ref (am 0)), (3, .ref ao), (4, .ref aod), (5, .int (nI i))] [] := by
  refine x_aload_n X dL_law_741 1 rfl ?_
  refine x_arg X hX hbl hbA hi hL (j := 1) (by decide) (by decide) 0 5 rfl rfl dL_law_742 dL_law_743 dL_law_745 dL_law_746 dL_law_747 ?_
  refine x_arg X hX hbl hbA hi hL (j := 2) (by decide) (by decide) 0 5 rfl rfl dL_law_748 dL_law_749 dL_law_751 dL_law_752 dL_law_753 ?_
  refine x_aload_n X dL_law_754 3 rfl ?_
  refine x_callW X E hNC (As := [.ref (ad 0), .int (xs (i + 1)), .int (xs (i + 2)), .ref ao]) (rest := []) (n := 4) (mc := 3) (ms := 18) (rm := rm_L_turnPenalty) (u := picC kA ad w ++ LWo kA ao o) (u2 := picC kA ad w1 ++ LWo kA ao o1) (w3 := LWd kA aod od ++ picM kA am v) rfl (goodSW w_568 w_569 w_46 w_570) (fun sz => met_L_turnPenalty l E.2.2.2 D kA ad ao fu w o (xs (i + 1)) (xs (i + 2)) _ _ _ h1 sz) rfl rfl (by decide +kernel) ⟨by decide, by decide⟩ rfl rfl (Nat.le_of_ble_eq_true rfl) dL_law_755 ⟨(show cells + 3 ≤ 601024 by omega), (show slots + 18 ≤ 7293034 by omega)⟩ (LW kA ad am ao aod w1 o1 od v) rfl ?_
  refine x_istore X (lv2 := (6, .int c6) :: [(0, .ref b), (1, .ref (ad 0)), (2, .ref (am 0)), (3, .ref ao), (4, .ref aod), (5, .int (nI i))]) dL_law_758 (by decide) rfl ?_
  refine x_aload_n X dL_law_760 3 rfl ?_
  refine x_arg X hX hbl hbA hi hL (j := 1) (by decide) (by decide) 1 6 rfl rfl dL_law_761 dL_law_762 dL_law_764 dL_law_765 dL_law_766 ?_
  refine x_arg X hX hbl hbA hi hL (j := 2) (by decide) (by decide) 1 6 rfl rfl dL_law_767 dL_law_768 dL_law_770 dL_law_771 dL_law_772 ?_
  refine x_callVs_i X E (As := [.int (xs (i + 1)), .int (xs (i + 2))]) (rest := []) (n := 2) (rm := rm_X4_turnPenalty) (u := picM kA am v) (u2 := picM kA am v1) ((picC kA ad w1 ++ LWo kA ao o1) ++ LWd kA aod od) [] (lw_mid _ _ _ _) (goodV w_1007 w_1008 w_1009 w_52 w_1010) (fun sz => met_X4_turnPenalty l E.2.2.2 D kA am fu v (xs (i + 1)) (xs (i + 2)) r7 v1 h2 sz) rfl rfl (by decide +kernel) ⟨by decide, by decide⟩ 0 rfl (qc := (RX4, TX4, _)) rfl rfl rfl rfl (Nat.le_of_ble_eq_true rfl) dL_law_773 ⟨(show cells + 3 ≤ 601024 by omega), (show slots + 18 ≤ 7293034 by omega)⟩ (LW kA ad am ao aod w1 o1 od v1) (lw_mid _ _ _ _).symm ?_
  refine x_istore X (lv2 := (7, .int r7) :: (6, .int c6) :: [(0, .ref b), (1, .ref (ad 0)), (2, .ref (am 0)), (3, .ref ao), (4, .ref aod), (5, .int (nI i))]) dL_law_776 (by decide) rfl ?_
  refine x_aload_n X dL_law_778 4 rfl ?_
  refine x_callVs_i X E (As := []) (rest := []) (n := 0) (rm := rm_X4_thrown) (u := picM kA am v1) (u2 := picM kA am v1) ((picC kA ad w1 ++ LWo kA ao o1) ++ LWd kA aod od) [] (lw_mid _ _ _ _) (goodV w_927 w_928 w_929 w_52 w_930) (fun sz => met_X4_thrown l E.2.2.2 D kA am fu v1 c6 h3 sz) rfl rfl (by decide +kernel) ⟨by decide, by decide⟩ 0 rfl (qc := (RX4, TX4, _)) rfl rfl rfl rfl (Nat.le_of_ble_eq_true rfl) dL_law_779 ⟨(show cells + 3 ≤ 601024 by omega), (show slots + 18 ≤ 7293034 by omega)⟩ (LW kA ad am ao aod w1 o1 od v1) (lw_mid _ _ _ _).symm ?_
  refine x_iload X dL_law_782 1 rfl ?_
  refine x_icmp_eq_t X (tgt := 789) dL_law_784 (by decide) rfl ?_
  refine x_iload X dL_law_789 1 rfl ?_
  have hend : CS p l e room_1 s m args below meth c D A 9 (cells + 3) (slots + 18) Q (LW kA ad am ao aod w1 o1 od v1) 806 ((7, .int r7) :: (6, .int c6) :: [(0, .ref b), (1, .ref (ad 0)), (2, .ref (am 0)), (3, .ref ao), (4, .ref aod), (5, .int (nI i))]) [] := x_goto X (tgt := 1905) dL_law_806 (by decide) (x_lpick (lv2 := [(0, .ref b), (1, .ref (ad 0)), (2, .ref (am 0)), (3, .ref ao), (4, .ref aod), (5, .int (nI i))]) [2, 3, 4, 5, 6, 7] rfl (x_widen (show cells + 3 ≤ cells + 8 by omega) (show slots + 18 ≤ slots + 80 by omega) kk))
  by_cases hc6 : c6 = 0
  · have h4 := h4 hc6
    refine x_if_ne_f X (tgt := 806) dL_law_791 (by decide) hc6 ?_
    refine x_aload_n X dL_law_794 5 rfl ?_
    refine x_iconst X (v := 0) dL_law_795 (by decide) ?_
    refine x_lald X E.1.1 29 rfl (kf := some) dL_law_796 (ck_t in01) (fun z hz => ?_)
    have hz : z = _ := (Option.some.inj hz).trans h4
    subst hz
    refine x_iload X dL_law_797 0 rfl ?_
    refine x_i2l X dL_law_799 ?_
    refine x_lcmp X dL_law_800 ?_
    refine x_if_eq_t X (tgt := 806) dL_law_801 (by decide) (lcmp_self _) ?_
    exact hend
  · exact x_if_ne_t X (tgt := 806) dL_law_791 (by decide) hc6 hend
set_option maxRecDepth 100000 in
set_option maxHeartbeats 4000000 in
theorem arm_11 (X : CX p m c cL_law 9 s args RL) (E : EX l s D kA A) (hNC : NCs s) (hX : va_X b L xs s s.heap) (hbl : b < s.heap.size) (hbA : ¬ A b) (hi : i + 4 ≤ L) (hL : L ≤ 2048) (hcC : cells + 8 ≤ 601024) (hcS : slots + 80 ≤ 7293034) (fu : Nat) (w w1 v v1 : WS) (o o1 : Nat → Int64) (od : Nat → UInt64) (c6 : Int32) (r7 : Int32) (h1 : f_L_prepare fu w o = some (c6, w1, o1)) (h2 : f_X4_prepare fu v = some (r7, v1)) (h3 : f_X4_thrown fu v1 = some c6) (h4 : c6 = 0 → o1 0 = Int32.toInt64 r7) (kk : CS p l e room_1 s m args below meth c D A 9 (cells + 8) (slots + 80) Q (LW kA ad am ao aod w1 o1 od v1) 1905 [(0, .ref b), (1, .ref (ad 0)), (2, .ref (am 0)), (3, .ref ao), (4, .ref aod), (5, .int (nI i))] []) : CS p l e room_1 s m args below meth c D A 9 cells slots Q (LW kA ad am ao aod w o od v) 809 [(0, .ref b), (1, .ref (ad 0)), (2, .ref (am 0)), (3, .ref ao), (4, .ref aod), (5, .int (nI i))] [] := by
  refine x_aload_n X dL_law_809 1 rfl ?_
  refine x_aload_n X dL_law_810 3 rfl ?_
  refine x_callW X E hNC (As := [.ref (ad 0), .ref ao]) (rest := []) (n := 2) (mc := 1) (ms := 6) (rm := rm_L_prepare) (u := picC kA ad w ++ LWo kA ao o) (u2 := picC kA ad w1 ++ LWo kA ao o1) (w3 := LWd kA aod od ++ picM kA am v) rfl (goodSW w_576 w_577 w_46 w_578) (fun sz => met_L_prepare l E.2.2.2 D kA ad ao fu w o _ _ _ h1 sz) rfl rfl (by decide +kernel) ⟨by decide, by decide⟩ rfl rfl (Nat.le_of_ble_eq_true rfl) dL_law_811 ⟨(show cells + 1 ≤ 601024 by omega), (show slots + 6 ≤ 7293034 by omega)⟩ (LW kA ad am ao aod w1 o1 od v) rfl ?_
  refine x_istore X (lv2 := (6, .int c6) :: [(0, .ref b), (1, .ref (ad 0)), (2, .ref (am 0)), (3, .ref ao), (4, .ref aod), (5, .int (nI i))]) dL_law_814 (by decide) rfl ?_
  refine x_aload_n X dL_law_816 3 rfl ?_
  refine x_callVs_i X E (As := []) (rest := []) (n := 0) (rm := rm_X4_prepare) (u := picM kA am v) (u2 := picM kA am v1) ((picC kA ad w1 ++ LWo kA ao o1) ++ LWd kA aod od) [] (lw_mid _ _ _ _) (goodV w_1011 w_1012 w_1013 w_52 w_1014) (fun sz => met_X4_prepare l E.2.2.2 D kA am fu v r7 v1 h2 sz) rfl rfl (by decide +kernel) ⟨by decide, by decide⟩ 0 rfl (qc := (RX4, TX4, _)) rfl rfl rfl rfl (Nat.le_of_ble_eq_true rfl) dL_law_817 ⟨(show cells + 1 ≤ 601024 by omega), (show slots + 6 ≤ 7293034 by omega)⟩ (LW kA ad am ao aod w1 o1 od v1) (lw_mid _ _ _ _).symm ?_
  refine x_istore X (lv2 := (7, .int r7) :: (6, .int c6) :: [(0, .ref b), (1, .ref (ad 0)), (2, .ref (am 0)), (3, .ref ao), (4, .ref aod), (5, .int (nI i))]) dL_law_820 (by decide) rfl ?_
  refine x_aload_n X dL_law_822 4 rfl ?_
  refine x_callVs_i X E (As := []) (rest := []) (n := 0) (rm := rm_X4_thrown) (u := picM kA am v1) (u2 := picM kA am v1) ((picC kA ad w1 ++ LWo kA ao o1) ++ LWd kA aod od) [] (lw_mid _ _ _ _) (goodV w_927 w_928 w_929 w_52 w_930) (fun sz => met_X4_thrown l E.2.2.2 D kA am fu v1 c6 h3 sz) rfl rfl (by decide +kernel) ⟨by decide, by decide⟩ 0 rfl (qc := (RX4, TX4, _)) rfl rfl rfl rfl (Nat.le_of_ble_eq_true rfl) dL_law_823 ⟨(show cells + 1 ≤ 601024 by omega), (show slots + 6 ≤ 7293034 by omega)⟩ (LW kA ad am ao aod w1 o1 od v1) (lw_mid _ _ _ _).symm ?_
  refine x_iload X dL_law_826 1 rfl ?_
  refine x_icmp_eq_t X (tgt := 833) dL_law_828 (by decide) rfl ?_
  refine x_iload X dL_law_833 1 rfl ?_
  have hend : CS p l e room_1 s m args below meth c D A 9 (cells + 1) (slots + 6) Q (LW kA ad am ao aod w1 o1 od v1) 850 ((7, .int r7) :: (6, .int c6) :: [(0, .ref b), (1, .ref (ad 0)), (2, .ref (am 0)), (3, .ref ao), (4, .ref aod), (5, .int (nI i))]) [] := x_goto X (tgt := 1905) dL_law_850 (by decide) (x_lpick (lv2 := [(0, .ref b), (1, .ref (ad 0)), (2, .ref (am 0)), (3, .ref ao), (4, .ref aod), (5, .int (nI i))]) [2, 3, 4, 5, 6, 7] rfl (x_widen (show cells + 1 ≤ cells + 8 by omega) (show slots + 6 ≤ slots + 80 by omega) kk))
  by_cases hc6 : c6 = 0
  · have h4 := h4 hc6
    refine x_if_ne_f X (tgt := 850) dL_law_835 (by decide) hc6 ?_
    refine x_aload_n X dL_law_838 5 rfl ?_
    refine x_iconst X (v := 0) dL_law_839 (by decide) ?_
    refine x_lald X E.1.1 29 rfl (kf := some) dL_law_840 (ck_t in01) (fun z hz => ?_)
    have hz : z = _ := (Option.some.inj hz).trans h4
    subst hz
    refine x_iload X dL_law_841 0 rfl ?_
    refine x_i2l X dL_law_843 ?_
    refine x_lcmp X dL_law_844 ?_
    refine x_if_eq_t X (tgt := 850) dL_law_845 (by decide) (lcmp_self _) ?_
    exact hend
  · exact x_if_ne_t X (tgt := 850) dL_law_835 (by decide) hc6 hend
set_option maxRecDepth 100000 in
set_option maxHeartbeats 4000000 in
theorem arm_12 (X : CX p m c cL_law 9 s args RL) (E : EX l s D kA A) (hNC : NCs s) (hX : va_X b L xs s s.heap) (hbl : b < s.heap.size) (hbA : ¬ A b) (hi : i + 4 ≤ L) (hL : L ≤ 2048) (hcC : cells + 8 ≤ 601024) (hcS : slots + 80 ≤ 7293034) (fu : Nat) (w v v1 : WS) (o : Nat → Int64) (od : Nat → UInt64) (r : Int32) (h1 : f_X3_isPrepared fu w = some r) (h2 : f_X4_isPrepared fu v = some (r, v1)) (kk : CS p l e room_1 s m args below meth c D A 9 (cells + 8) (slots + 80) Q (LW kA ad am ao aod w o od v1) 1905 [(0, .ref b), (1, .ref (ad 0)), (2, .ref (am 0)), (3, .ref ao), (4, .ref aod), (5, .int (nI i))] []) : CS p l e room_1 s m args below meth c D A 9 cells slots Q (LW kA ad am ao aod w o od v) 853 [(0, .ref b), (1, .ref (ad 0)), (2, .ref (am 0)), (3, .ref ao), (4, .ref aod), (5, .int (nI i))] [] := by
  refine x_aload_n X dL_law_853 1 rfl ?_
  refine x_callVs_i X E (As := []) (rest := []) (n := 0) (rm := rm_X3_isPrepared) (u := picC kA ad w) (u2 := picC kA ad w) [] (LWo kA ao o ++ (LWd kA aod od ++ picM kA am v)) (lw_fst _ _ _ _) (goodV w_255 w_256 w_257 w_47 w_258) (fun sz => met_X3_isPrepared l E.2.2.2 D kA ad fu w r h1 sz) rfl rfl (by decide +kernel) ⟨by decide, by decide⟩ 0 rfl (qc := (RX3, TX3, _)) rfl rfl rfl rfl (Nat.le_of_ble_eq_true rfl) dL_law_854 ⟨(show cells ≤ 601024 by omega), (show slots ≤ 7293034 by omega)⟩ (LW kA ad am ao aod w o od v) (lw_fst _ _ _ _).symm ?_
  refine x_aload_n X dL_law_857 2 rfl ?_
  refine x_callVs_i X E (As := []) (rest := [.int r]) (n := 0) (rm := rm_X4_isPrepared) (u := picM kA am v) (u2 := picM kA am v1) ((picC kA ad w ++ LWo kA ao o) ++ LWd kA aod od) [] (lw_mid _ _ _ _) (goodV w_1023 w_1024 w_1025 w_52 w_1026) (fun sz => met_X4_isPrepared l E.2.2.2 D kA am fu v r v1 h2 sz) rfl rfl (by decide +kernel) ⟨by decide, by decide⟩ 0 rfl (qc := (RX4, TX4, _)) rfl rfl rfl rfl (Nat.le_of_ble_eq_true rfl) dL_law_858 ⟨(show cells ≤ 601024 by omega), (show slots ≤ 7293034 by omega)⟩ (LW kA ad am ao aod w o od v1) (lw_mid _ _ _ _).symm ?_
  refine x_icmp_eq_t X (tgt := 1905) dL_law_861 (by decide) rfl ?_
  exact x_widen (by omega) (by omega) kk
set_option maxRecDepth 100000 in
set_option maxHeartbeats 4000000 in
theorem arm_13 (X : CX p m c cL_law 9 s args RL) (E : EX l s D kA A) (hNC : NCs s) (hX : va_X b L xs s s.heap) (hbl : b < s.heap.size) (hbA : ¬ A b) (hi : i + 4 ≤ L) (hL : L ≤ 2048) (hcC : cells + 8 ≤ 601024) (hcS : slots + 80 ≤ 7293034) (fu : Nat) (w w1 v v1 : WS) (o o1 : Nat → Int64) (od : Nat → UInt64) (c6 : Int32) (r7 : Int32) (h1 : f_L_position fu w o (xs (i + 1)) = some (c6, w1, o1)) (h2 : f_X4_position fu v (xs (i + 1)) = some (r7, v1)) (h3 : f_X4_thrown fu v1 = some c6) (h4 : c6 = 0 → o1 0 = Int32.toInt64 r7) (kk : CS p l e room_1 s m args below meth c D A 9 (cells + 8) (slots + 80) Q (LW kA ad am ao aod w1 o1 od v1) 1905 [(0, .ref b), (1, .ref (ad 0)), (2, .ref (am 0)), (3, .ref ao), (4, .ref aod), (5, .int (nI i))] []) : CS p l e room_1 s m args below meth c D A 9 cells slots Q (LW kA ad am ao aod w o od v) 866 [(0, .ref b), (1, .ref (ad 0)), (2, .ref (am 0)), (3, .ref ao), (4, .ref aod), (5, .int (nI i))] [] := by
  refine x_aload_n X dL_law_866 1 rfl ?_
  refine x_arg X hX hbl hbA hi hL (j := 1) (by decide) (by decide) 0 5 rfl rfl dL_law_867 dL_law_868 dL_law_870 dL_law_871 dL_law_872 ?_
  refine x_aload_n X dL_law_873 3 rfl ?_
  refine x_callW X E hNC (As := [.ref (ad 0), .int (xs (i + 1)), .ref ao]) (rest := []) (n := 3) (mc := 2) (ms := 12) (rm := rm_L_position) (u := picC kA ad w ++ LWo kA ao o) (u2 := picC kA ad w1 ++ LWo kA ao o1) (w3 := LWd kA aod od ++ picM kA am v) rfl (goodSW w_609 w_610 w_46 w_611) (fun sz => met_L_position l E.2.2.2 D kA ad ao fu w o (xs (i + 1)) _ _ _ h1 sz) rfl rfl (by decide +kernel) ⟨by decide, by decide⟩ rfl rfl (Nat.le_of_ble_eq_true rfl) dL_law_874 ⟨(show cells + 2 ≤ 601024 by omega), (show slots + 12 ≤ 7293034 by omega)⟩ (LW kA ad am ao aod w1 o1 od v) rfl ?_
  refine x_istore X (lv2 := (6, .int c6) :: [(0, .ref b), (1, .ref (ad 0)), (2, .ref (am 0)), (3, .ref ao), (4, .ref aod), (5, .int (nI i))]) dL_law_877 (by decide) rfl ?_
  refine x_aload_n X dL_law_879 3 rfl ?_
  refine x_arg X hX hbl hbA hi hL (j := 1) (by decide) (by decide) 1 6 rfl rfl dL_law_880 dL_law_881 dL_law_883 dL_law_884 dL_law_885 ?_
  refine x_callVs_i X E (As := [.int (xs (i + 1))]) (rest := []) (n := 1) (rm := rm_X4_position) (u := picM kA am v) (u2 := picM kA am v1) ((picC kA ad w1 ++ LWo kA ao o1) ++ LWd kA aod od) [] (lw_mid _ _ _ _) (goodV w_1027 w_1028 w_1029 w_52 w_1030) (fun sz => met_X4_position l E.2.2.2 D kA am fu v (xs (i + 1)) r7 v1 h2 sz) rfl rfl (by decide +kernel) ⟨by decide, by decide⟩ 0 rfl (qc := (RX4, TX4, _)) rfl rfl rfl rfl (Nat.le_of_ble_eq_true rfl) dL_law_886 ⟨(show cells + 2 ≤ 601024 by omega), (show slots + 12 ≤ 7293034 by omega)⟩ (LW kA ad am ao aod w1 o1 od v1) (lw_mid _ _ _ _).symm ?_
  refine x_istore X (lv2 := (7, .int r7) :: (6, .int c6) :: [(0, .ref b), (1, .ref (ad 0)), (2, .ref (am 0)), (3, .ref ao), (4, .ref aod), (5, .int (nI i))]) dL_law_889 (by decide) rfl ?_
  refine x_aload_n X dL_law_891 4 rfl ?_
  refine x_callVs_i X E (As := []) (rest := []) (n := 0) (rm := rm_X4_thrown) (u := picM kA am v1) (u2 := picM kA am v1) ((picC kA ad w1 ++ LWo kA ao o1) ++ LWd kA aod od) [] (lw_mid _ _ _ _) (goodV w_927 w_928 w_929 w_52 w_930) (fun sz => met_X4_thrown l E.2.2.2 D kA am fu v1 c6 h3 sz) rfl rfl (by decide +kernel) ⟨by decide, by decide⟩ 0 rfl (qc := (RX4, TX4, _)) rfl rfl rfl rfl (Nat.le_of_ble_eq_true rfl) dL_law_892 ⟨(show cells + 2 ≤ 601024 by omega), (show slots + 12 ≤ 7293034 by omega)⟩ (LW kA ad am ao aod w1 o1 od v1) (lw_mid _ _ _ _).symm ?_
  refine x_iload X dL_law_895 1 rfl ?_
  refine x_icmp_eq_t X (tgt := 902) dL_law_897 (by decide) rfl ?_
  refine x_iload X dL_law_902 1 rfl ?_
  have hend : CS p l e room_1 s m args below meth c D A 9 (cells + 2) (slots + 12) Q (LW kA ad am ao aod w1 o1 od v1) 919 ((7, .int r7) :: (6, .int c6) :: [(0, .ref b), (1, .ref (ad 0)), (2, .ref (am 0)), (3, .ref ao), (4, .ref aod), (5, .int (nI i))]) [] := x_goto X (tgt := 1905) dL_law_919 (by decide) (x_lpick (lv2 := [(0, .ref b), (1, .ref (ad 0)), (2, .ref (am 0)), (3, .ref ao), (4, .ref aod), (5, .int (nI i))]) [2, 3, 4, 5, 6, 7] rfl (x_widen (show cells + 2 ≤ cells + 8 by omega) (show slots + 12 ≤ slots + 80 by omega) kk))
  by_cases hc6 : c6 = 0
  · have h4 := h4 hc6
    refine x_if_ne_f X (tgt := 919) dL_law_904 (by decide) hc6 ?_
    refine x_aload_n X dL_law_907 5 rfl ?_
    refine x_iconst X (v := 0) dL_law_908 (by decide) ?_
    refine x_lald X E.1.1 29 rfl (kf := some) dL_law_909 (ck_t in01) (fun z hz => ?_)
    have hz : z = _ := (Option.some.inj hz).trans h4
    subst hz
    refine x_iload X dL_law_910 0 rfl ?_
    refine x_i2l X dL_law_912 ?_
    refine x_lcmp X dL_law_913 ?_
    refine x_if_eq_t X (tgt := 919) dL_law_914 (by decide) (lcmp_self _) ?_
    exact hend
  · exact x_if_ne_t X (tgt := 919) dL_law_904 (by decide) hc6 hend
set_option maxRecDepth 100000 in
set_option maxHeartbeats 4000000 in
theorem arm_14 (X : CX p m c cL_law 9 s args RL) (E : EX l s D kA A) (hNC : NCs s) (hX : va_X b L xs s s.heap) (hbl : b < s.heap.size) (hbA : ¬ A b) (hi : i + 4 ≤ L) (hL : L ≤ 2048) (hcC : cells + 8 ≤ 601024) (hcS : slots + 80 ≤ 7293034) (fu : Nat) (w v v1 : WS) (o : Nat → Int64) (od : Nat → UInt64) (r : Int32) (h1 : f_X3_arcCount fu w = some r) (h2 : f_X4_arcCount fu v = some (r, v1)) (kk : CS p l e room_1 s m args below meth c D A 9 (cells + 8) (slots + 80) Q (LW kA ad am ao aod w o od v1) 1905 [(0, .ref b), (1, .ref (ad 0)), (2, .ref (am 0)), (3, .ref ao), (4, .ref aod), (5, .int (nI i))] []) : CS p l e room_1 s m args below meth c D A 9 cells slots Q (LW kA ad am ao aod w o od v) 922 [(0, .ref b), (1, .ref (ad 0)), (2, .ref (am 0)), (3, .ref ao), (4, .ref aod), (5, .int (nI i))] [] := by
  refine x_aload_n X dL_law_922 1 rfl ?_
  refine x_callVs_i X E (As := []) (rest := []) (n := 0) (rm := rm_X3_arcCount) (u := picC kA ad w) (u2 := picC kA ad w) [] (LWo kA ao o ++ (LWd kA aod od ++ picM kA am v)) (lw_fst _ _ _ _) (goodV w_259 w_260 w_261 w_47 w_262) (fun sz => met_X3_arcCount l E.2.2.2 D kA ad fu w r h1 sz) rfl rfl (by decide +kernel) ⟨by decide, by decide⟩ 0 rfl (qc := (RX3, TX3, _)) rfl rfl rfl rfl (Nat.le_of_ble_eq_true rfl) dL_law_923 ⟨(show cells ≤ 601024 by omega), (show slots ≤ 7293034 by omega)⟩ (LW kA ad am ao aod w o od v) (lw_fst _ _ _ _).symm ?_
  refine x_aload_n X dL_law_926 2 rfl ?_
  refine x_callVs_i X E (As := []) (rest := [.int r]) (n := 0) (rm := rm_X4_arcCount) (u := picM kA am v) (u2 := picM kA am v1) ((picC kA ad w ++ LWo kA ao o) ++ LWd kA aod od) [] (lw_mid _ _ _ _) (goodV w_1031 w_1032 w_1033 w_52 w_1034) (fun sz => met_X4_arcCount l E.2.2.2 D kA am fu v r v1 h2 sz) rfl rfl (by decide +kernel) ⟨by decide, by decide⟩ 0 rfl (qc := (RX4, TX4, _)) rfl rfl rfl rfl (Nat.le_of_ble_eq_true rfl) dL_law_927 ⟨(show cells ≤ 601024 by omega), (show slots ≤ 7293034 by omega)⟩ (LW kA ad am ao aod w o od v1) (lw_mid _ _ _ _).symm ?_
  refine x_icmp_eq_t X (tgt := 1905) dL_law_930 (by decide) rfl ?_
  exact x_widen (by omega) (by omega) kk
set_option maxRecDepth 100000 in
set_option maxHeartbeats 4000000 in
theorem arm_15 (X : CX p m c cL_law 9 s args RL) (E : EX l s D kA A) (hNC : NCs s) (hX : va_X b L xs s s.heap) (hbl : b < s.heap.size) (hbA : ¬ A b) (hi : i + 4 ≤ L) (hL : L ≤ 2048) (hcC : cells + 8 ≤ 601024) (hcS : slots + 80 ≤ 7293034) (fu : Nat) (w w1 v v1 : WS) (o o1 : Nat → Int64) (od : Nat → UInt64) (c6 : Int32) (r7 : Int32) (h1 : f_L_hasArc fu w o (xs (i + 1)) (xs (i + 2)) = some (c6, w1, o1)) (h2 : f_X4_hasArc fu v (xs (i + 1)) (xs (i + 2)) = some (r7, v1)) (h3 : f_X4_thrown fu v1 = some c6) (h4 : c6 = 0 → o1 0 = if r7 = 0 then 0 else 1) (kk : CS p l e room_1 s m args below meth c D A 9 (cells + 8) (slots + 80) Q (LW kA ad am ao aod w1 o1 od v1) 1905 [(0, .ref b), (1, .ref (ad 0)), (2, .ref (am 0)), (3, .ref ao), (4, .ref aod), (5, .int (nI i))] []) : CS p l e room_1 s m args below meth c D A 9 cells slots Q (LW kA ad am ao aod w o od v) 935 [(0, .ref b), (1, .ref (ad 0)), (2, .ref (am 0)), (3, .ref ao), (4, .ref aod), (5, .int (nI i))] [] := by
  refine x_aload_n X dL_law_935 1 rfl ?_
  refine x_arg X hX hbl hbA hi hL (j := 1) (by decide) (by decide) 0 5 rfl rfl dL_law_936 dL_law_937 dL_law_939 dL_law_940 dL_law_941 ?_
  refine x_arg X hX hbl hbA hi hL (j := 2) (by decide) (by decide) 0 5 rfl rfl dL_law_942 dL_law_943 dL_law_945 dL_law_946 dL_law_947 ?_
  refine x_aload_n X dL_law_948 3 rfl ?_
  refine x_callW X E hNC (As := [.ref (ad 0), .int (xs (i + 1)), .int (xs (i + 2)), .ref ao]) (rest := []) (n := 4) (mc := 3) (ms := 18) (rm := rm_L_hasArc) (u := picC kA ad w ++ LWo kA ao o) (u2 := picC kA ad w1 ++ LWo kA ao o1) (w3 := LWd kA aod od ++ picM kA am v) rfl (goodSW w_621 w_622 w_46 w_623) (fun sz => met_L_hasArc l E.2.2.2 D kA ad ao fu w o (xs (i + 1)) (xs (i + 2)) _ _ _ h1 sz) rfl rfl (by decide +kernel) ⟨by decide, by decide⟩ rfl rfl (Nat.le_of_ble_eq_true rfl) dL_law_949 ⟨(show cells + 3 ≤ 601024 by omega), (show slots + 18 ≤ 7293034 by omega)⟩ (LW kA ad am ao aod w1 o1 od v) rfl ?_
  refine x_istore X (lv2 := (6, .int c6) :: [(0, .ref b), (1, .ref (ad 0)), (2, .ref (am 0)), (3, .ref ao), (4, .ref aod), (5, .int (nI i))]) dL_law_952 (by decide) rfl ?_
  refine x_aload_n X dL_law_954 3 rfl ?_
  refine x_arg X hX hbl hbA hi hL (j := 1) (by decide) (by decide) 1 6 rfl rfl dL_law_955 dL_law_956 dL_law_958 dL_law_959 dL_law_960 ?_
  refine x_arg X hX hbl hbA hi hL (j := 2) (by decide) (by decide) 1 6 rfl rfl dL_law_961 dL_law_962 dL_law_964 dL_law_965 dL_law_966 ?_
  refine x_callVs_i X E (As := [.int (xs (i + 1)), .int (xs (i + 2))]) (rest := []) (n := 2) (rm := rm_X4_hasArc) (u := picM kA am v) (u2 := picM kA am v1) ((picC kA ad w1 ++ LWo kA ao o1) ++ LWd kA aod od) [] (lw_mid _ _ _ _) (goodV w_1035 w_1036 w_1037 w_52 w_1038) (fun sz => met_X4_hasArc l E.2.2.2 D kA am fu v (xs (i + 1)) (xs (i + 2)) r7 v1 h2 sz) rfl rfl (by decide +kernel) ⟨by decide, by decide⟩ 0 rfl (qc := (RX4, TX4, _)) rfl rfl rfl rfl (Nat.le_of_ble_eq_true rfl) dL_law_967 ⟨(show cells + 3 ≤ 601024 by omega), (show slots + 18 ≤ 7293034 by omega)⟩ (LW kA ad am ao aod w1 o1 od v1) (lw_mid _ _ _ _).symm ?_
  refine x_istore X (lv2 := (7, .int r7) :: (6, .int c6) :: [(0, .ref b), (1, .ref (ad 0)), (2, .ref (am 0)), (3, .ref ao), (4, .ref aod), (5, .int (nI i))]) dL_law_970 (by decide) rfl ?_
  refine x_aload_n X dL_law_972 4 rfl ?_
  refine x_callVs_i X E (As := []) (rest := []) (n := 0) (rm := rm_X4_thrown) (u := picM kA am v1) (u2 := picM kA am v1) ((picC kA ad w1 ++ LWo kA ao o1) ++ LWd kA aod od) [] (lw_mid _ _ _ _) (goodV w_927 w_928 w_929 w_52 w_930) (fun sz => met_X4_thrown l E.2.2.2 D kA am fu v1 c6 h3 sz) rfl rfl (by decide +kernel) ⟨by decide, by decide⟩ 0 rfl (qc := (RX4, TX4, _)) rfl rfl rfl rfl (Nat.le_of_ble_eq_true rfl) dL_law_973 ⟨(show cells + 3 ≤ 601024 by omega), (show slots + 18 ≤ 7293034 by omega)⟩ (LW kA ad am ao aod w1 o1 od v1) (lw_mid _ _ _ _).symm ?_
  refine x_iload X dL_law_976 1 rfl ?_
  refine x_icmp_eq_t X (tgt := 983) dL_law_978 (by decide) rfl ?_
  refine x_iload X dL_law_983 1 rfl ?_
  have hend : CS p l e room_1 s m args below meth c D A 9 (cells + 3) (slots + 18) Q (LW kA ad am ao aod w1 o1 od v1) 1007 ((7, .int r7) :: (6, .int c6) :: [(0, .ref b), (1, .ref (ad 0)), (2, .ref (am 0)), (3, .ref ao), (4, .ref aod), (5, .int (nI i))]) [] := x_goto X (tgt := 1905) dL_law_1007 (by decide) (x_lpick (lv2 := [(0, .ref b), (1, .ref (ad 0)), (2, .ref (am 0)), (3, .ref ao), (4, .ref aod), (5, .int (nI i))]) [2, 3, 4, 5, 6, 7] rfl (x_widen (show cells + 3 ≤ cells + 8 by omega) (show slots + 18 ≤ slots + 80 by omega) kk))
  by_cases hc6 : c6 = 0
  · have h4 := h4 hc6
    refine x_if_ne_f X (tgt := 1007) dL_law_985 (by decide) hc6 ?_
    refine x_aload_n X dL_law_988 5 rfl ?_
    refine x_iconst X (v := 0) dL_law_989 (by decide) ?_
    refine x_lald X E.1.1 29 rfl (kf := some) dL_law_990 (ck_t in01) (fun z hz => ?_)
    have hz : z = _ := (Option.some.inj hz).trans h4
    subst hz
    refine x_iload X dL_law_991 0 rfl ?_
    refine x_lbool X dL_law_993 dL_law_996 dL_law_997 dL_law_1000 ?_
    refine x_lcmp X dL_law_1001 ?_
    refine x_if_eq_t X (tgt := 1007) dL_law_1002 (by decide) (lcmp_self _) ?_
    exact hend
  · exact x_if_ne_t X (tgt := 1007) dL_law_985 (by decide) hc6 hend
set_option maxRecDepth 100000 in
set_option maxHeartbeats 4000000 in
theorem arm_16 (X : CX p m c cL_law 9 s args RL) (E : EX l s D kA A) (hNC : NCs s) (hX : va_X b L xs s s.heap) (hbl : b < s.heap.size) (hbA : ¬ A b) (hi : i + 4 ≤ L) (hL : L ≤ 2048) (hcC : cells + 8 ≤ 601024) (hcS : slots + 80 ≤ 7293034) (fu : Nat) (w w1 v v1 : WS) (o o1 : Nat → Int64) (od : Nat → UInt64) (c6 : Int32) (r7 : Int32) (h1 : f_L_arcCost fu w o (xs (i + 1)) (xs (i + 2)) = some (c6, w1, o1)) (h2 : f_X4_arcCost fu v (xs (i + 1)) (xs (i + 2)) = some (r7, v1)) (h3 : f_X4_thrown fu v1 = some c6) (h4 : c6 = 0 → o1 0 = Int32.toInt64 r7) (kk : CS p l e room_1 s m args below meth c D A 9 (cells + 8) (slots + 80) Q (LW kA ad am ao aod w1 o1 od v1) 1905 [(0, .ref b), (1, .ref (ad 0)), (2, .ref (am 0)), (3, .ref ao), (4, .ref aod), (5, .int (nI i))] []) : CS p l e room_1 s m args below meth c D A 9 cells slots Q (LW kA ad am ao aod w o od v) 1010 [(0, .ref b), (1, .ref (ad 0)), (2, .ref (am 0)), (3, .ref ao), (4, .ref aod), (5, .int (nI i))] [] := by
  refine x_aload_n X dL_law_1010 1 rfl ?_
  refine x_arg X hX hbl hbA hi hL (j := 1) (by decide) (by decide) 0 5 rfl rfl dL_law_1011 dL_law_1012 dL_law_1014 dL_law_1015 dL_law_1016 ?_
  refine x_arg X hX hbl hbA hi hL (j := 2) (by decide) (by decide) 0 5 rfl rfl dL_law_1017 dL_law_1018 dL_law_1020 dL_law_1021 dL_law_1022 ?_
  refine x_aload_n X dL_law_1023 3 rfl ?_
  refine x_callW X E hNC (As := [.ref (ad 0), .int (xs (i + 1)), .int (xs (i + 2)), .ref ao]) (rest := []) (n := 4) (mc := 4) (ms := 24) (rm := rm_L_arcCost) (u := picC kA ad w ++ LWo kA ao o) (u2 := picC kA ad w1 ++ LWo kA ao o1) (w3 := LWd kA aod od ++ picM kA am v) rfl (goodSW w_628 w_629 w_46 w_630) (fun sz => met_L_arcCost l E.2.2.2 D kA ad ao fu w o (xs (i + 1)) (xs (i + 2)) _ _ _ h1 sz) rfl rfl (by decide +kernel) ⟨by decide, by decide⟩ rfl rfl (Nat.le_of_ble_eq_true rfl) dL_law_1024 ⟨(show cells + 4 ≤ 601024 by omega), (show slots + 24 ≤ 7293034 by omega)⟩ (LW kA ad am ao aod w1 o1 od v) rfl ?_
  refine x_istore X (lv2 := (6, .int c6) :: [(0, .ref b), (1, .ref (ad 0)), (2, .ref (am 0)), (3, .ref ao), (4, .ref aod), (5, .int (nI i))]) dL_law_1027 (by decide) rfl ?_
  refine x_aload_n X dL_law_1029 3 rfl ?_
  refine x_arg X hX hbl hbA hi hL (j := 1) (by decide) (by decide) 1 6 rfl rfl dL_law_1030 dL_law_1031 dL_law_1033 dL_law_1034 dL_law_1035 ?_
  refine x_arg X hX hbl hbA hi hL (j := 2) (by decide) (by decide) 1 6 rfl rfl dL_law_1036 dL_law_1037 dL_law_1039 dL_law_1040 dL_law_1041 ?_
  refine x_callVs_i X E (As := [.int (xs (i + 1)), .int (xs (i + 2))]) (rest := []) (n := 2) (rm := rm_X4_arcCost) (u := picM kA am v) (u2 := picM kA am v1) ((picC kA ad w1 ++ LWo kA ao o1) ++ LWd kA aod od) [] (lw_mid _ _ _ _) (goodV w_1039 w_1040 w_1041 w_52 w_1042) (fun sz => met_X4_arcCost l E.2.2.2 D kA am fu v (xs (i + 1)) (xs (i + 2)) r7 v1 h2 sz) rfl rfl (by decide +kernel) ⟨by decide, by decide⟩ 0 rfl (qc := (RX4, TX4, _)) rfl rfl rfl rfl (Nat.le_of_ble_eq_true rfl) dL_law_1042 ⟨(show cells + 4 ≤ 601024 by omega), (show slots + 24 ≤ 7293034 by omega)⟩ (LW kA ad am ao aod w1 o1 od v1) (lw_mid _ _ _ _).symm ?_
  refine x_istore X (lv2 := (7, .int r7) :: (6, .int c6) :: [(0, .ref b), (1, .ref (ad 0)), (2, .ref (am 0)), (3, .ref ao), (4, .ref aod), (5, .int (nI i))]) dL_law_1045 (by decide) rfl ?_
  refine x_aload_n X dL_law_1047 4 rfl ?_
  refine x_callVs_i X E (As := []) (rest := []) (n := 0) (rm := rm_X4_thrown) (u := picM kA am v1) (u2 := picM kA am v1) ((picC kA ad w1 ++ LWo kA ao o1) ++ LWd kA aod od) [] (lw_mid _ _ _ _) (goodV w_927 w_928 w_929 w_52 w_930) (fun sz => met_X4_thrown l E.2.2.2 D kA am fu v1 c6 h3 sz) rfl rfl (by decide +kernel) ⟨by decide, by decide⟩ 0 rfl (qc := (RX4, TX4, _)) rfl rfl rfl rfl (Nat.le_of_ble_eq_true rfl) dL_law_1048 ⟨(show cells + 4 ≤ 601024 by omega), (show slots + 24 ≤ 7293034 by omega)⟩ (LW kA ad am ao aod w1 o1 od v1) (lw_mid _ _ _ _).symm ?_
  refine x_iload X dL_law_1051 1 rfl ?_
  refine x_icmp_eq_t X (tgt := 1058) dL_law_1053 (by decide) rfl ?_
  refine x_iload X dL_law_1058 1 rfl ?_
  have hend : CS p l e room_1 s m args below meth c D A 9 (cells + 4) (slots + 24) Q (LW kA ad am ao aod w1 o1 od v1) 1075 ((7, .int r7) :: (6, .int c6) :: [(0, .ref b), (1, .ref (ad 0)), (2, .ref (am 0)), (3, .ref ao), (4, .ref aod), (5, .int (nI i))]) [] := x_goto X (tgt := 1905) dL_law_1075 (by decide) (x_lpick (lv2 := [(0, .ref b), (1, .ref (ad 0)), (2, .ref (am 0)), (3, .ref ao), (4, .ref aod), (5, .int (nI i))]) [2, 3, 4, 5, 6, 7] rfl (x_widen (show cells + 4 ≤ cells + 8 by omega) (show slots + 24 ≤ slots + 80 by omega) kk))
  by_cases hc6 : c6 = 0
  · have h4 := h4 hc6
    refine x_if_ne_f X (tgt := 1075) dL_law_1060 (by decide) hc6 ?_
    refine x_aload_n X dL_law_1063 5 rfl ?_
    refine x_iconst X (v := 0) dL_law_1064 (by decide) ?_
    refine x_lald X E.1.1 29 rfl (kf := some) dL_law_1065 (ck_t in01) (fun z hz => ?_)
    have hz : z = _ := (Option.some.inj hz).trans h4
    subst hz
    refine x_iload X dL_law_1066 0 rfl ?_
    refine x_i2l X dL_law_1068 ?_
    refine x_lcmp X dL_law_1069 ?_
    refine x_if_eq_t X (tgt := 1075) dL_law_1070 (by decide) (lcmp_self _) ?_
    exact hend
  · exact x_if_ne_t X (tgt := 1075) dL_law_1060 (by decide) hc6 hend
set_option maxRecDepth 100000 in
set_option maxHeartbeats 4000000 in
theorem arm_17 (X : CX p m c cL_law 9 s args RL) (E : EX l s D kA A) (hNC : NCs s) (hX : va_X b L xs s s.heap) (hbl : b < s.heap.size) (hbA : ¬ A b) (hi : i + 4 ≤ L) (hL : L ≤ 2048) (hcC : cells + 8 ≤ 601024) (hcS : slots + 80 ≤ 7293034) (fu : Nat) (w w1 v v1 : WS) (o o1 : Nat → Int64) (od : Nat → UInt64) (c6 : Int32) (r7 : Int32) (h1 : f_L_distance fu w o (xs (i + 1)) (xs (i + 2)) = some (c6, w1, o1)) (h2 : f_X4_distance fu v (xs (i + 1)) (xs (i + 2)) = some (r7, v1)) (h3 : f_X4_thrown fu v1 = some c6) (h4 : c6 = 0 → o1 0 = Int32.toInt64 r7) (kk : CS p l e room_1 s m args below meth c D A 9 (cells + 8) (slots + 80) Q (LW kA ad am ao aod w1 o1 od v1) 1905 [(0, .ref b), (1, .ref (ad 0)), (2, .ref (am 0)), (3, .ref ao), (4, .ref aod), (5, .int (nI i))] []) : CS p l e room_1 s m args below meth c D A 9 cells slots Q (LW kA ad am ao aod w o od v) 1078 [(0, .ref b), (1, .ref (ad 0)), (2, .ref (am 0)), (3, .ref ao), (4, .ref aod), (5, .int (nI i))] [] := by
  refine x_aload_n X dL_law_1078 1 rfl ?_
  refine x_arg X hX hbl hbA hi hL (j := 1) (by decide) (by decide) 0 5 rfl rfl dL_law_1079 dL_law_1080 dL_law_1082 dL_law_1083 dL_law_1084 ?_
  refine x_arg X hX hbl hbA hi hL (j := 2) (by decide) (by decide) 0 5 rfl rfl dL_law_1085 dL_law_1086 dL_law_1088 dL_law_1089 dL_law_1090 ?_
  refine x_aload_n X dL_law_1091 3 rfl ?_
  refine x_callW X E hNC (As := [.ref (ad 0), .int (xs (i + 1)), .int (xs (i + 2)), .ref ao]) (rest := []) (n := 4) (mc := 3) (ms := 18) (rm := rm_L_distance) (u := picC kA ad w ++ LWo kA ao o) (u2 := picC kA ad w1 ++ LWo kA ao o1) (w3 := LWd kA aod od ++ picM kA am v) rfl (goodSW w_653 w_654 w_46 w_655) (fun sz => met_L_distance l E.2.2.2 D kA ad ao fu w o (xs (i + 1)) (xs (i + 2)) _ _ _ h1 sz) rfl rfl (by decide +kernel) ⟨by decide, by decide⟩ rfl rfl (Nat.le_of_ble_eq_true rfl) dL_law_1092 ⟨(show cells + 3 ≤ 601024 by omega), (show slots + 18 ≤ 7293034 by omega)⟩ (LW kA ad am ao aod w1 o1 od v) rfl ?_
  refine x_istore X (lv2 := (6, .int c6) :: [(0, .ref b), (1, .ref (ad 0)), (2, .ref (am 0)), (3, .ref ao), (4, .ref aod), (5, .int (nI i))]) dL_law_1095 (by decide) rfl ?_
  refine x_aload_n X dL_law_1097 3 rfl ?_
  refine x_arg X hX hbl hbA hi hL (j := 1) (by decide) (by decide) 1 6 rfl rfl dL_law_1098 dL_law_1099 dL_law_1101 dL_law_1102 dL_law_1103 ?_
  refine x_arg X hX hbl hbA hi hL (j := 2) (by decide) (by decide) 1 6 rfl rfl dL_law_1104 dL_law_1105 dL_law_1107 dL_law_1108 dL_law_1109 ?_
  refine x_callVs_i X E (As := [.int (xs (i + 1)), .int (xs (i + 2))]) (rest := []) (n := 2) (rm := rm_X4_distance) (u := picM kA am v) (u2 := picM kA am v1) ((picC kA ad w1 ++ LWo kA ao o1) ++ LWd kA aod od) [] (lw_mid _ _ _ _) (goodV w_1047 w_1048 w_1049 w_52 w_1050) (fun sz => met_X4_distance l E.2.2.2 D kA am fu v (xs (i + 1)) (xs (i + 2)) r7 v1 h2 sz) rfl rfl (by decide +kernel) ⟨by decide, by decide⟩ 0 rfl (qc := (RX4, TX4, _)) rfl rfl rfl rfl (Nat.le_of_ble_eq_true rfl) dL_law_1110 ⟨(show cells + 3 ≤ 601024 by omega), (show slots + 18 ≤ 7293034 by omega)⟩ (LW kA ad am ao aod w1 o1 od v1) (lw_mid _ _ _ _).symm ?_
  refine x_istore X (lv2 := (7, .int r7) :: (6, .int c6) :: [(0, .ref b), (1, .ref (ad 0)), (2, .ref (am 0)), (3, .ref ao), (4, .ref aod), (5, .int (nI i))]) dL_law_1113 (by decide) rfl ?_
  refine x_aload_n X dL_law_1115 4 rfl ?_
  refine x_callVs_i X E (As := []) (rest := []) (n := 0) (rm := rm_X4_thrown) (u := picM kA am v1) (u2 := picM kA am v1) ((picC kA ad w1 ++ LWo kA ao o1) ++ LWd kA aod od) [] (lw_mid _ _ _ _) (goodV w_927 w_928 w_929 w_52 w_930) (fun sz => met_X4_thrown l E.2.2.2 D kA am fu v1 c6 h3 sz) rfl rfl (by decide +kernel) ⟨by decide, by decide⟩ 0 rfl (qc := (RX4, TX4, _)) rfl rfl rfl rfl (Nat.le_of_ble_eq_true rfl) dL_law_1116 ⟨(show cells + 3 ≤ 601024 by omega), (show slots + 18 ≤ 7293034 by omega)⟩ (LW kA ad am ao aod w1 o1 od v1) (lw_mid _ _ _ _).symm ?_
  refine x_iload X dL_law_1119 1 rfl ?_
  refine x_icmp_eq_t X (tgt := 1126) dL_law_1121 (by decide) rfl ?_
  refine x_iload X dL_law_1126 1 rfl ?_
  have hend : CS p l e room_1 s m args below meth c D A 9 (cells + 3) (slots + 18) Q (LW kA ad am ao aod w1 o1 od v1) 1143 ((7, .int r7) :: (6, .int c6) :: [(0, .ref b), (1, .ref (ad 0)), (2, .ref (am 0)), (3, .ref ao), (4, .ref aod), (5, .int (nI i))]) [] := x_goto X (tgt := 1905) dL_law_1143 (by decide) (x_lpick (lv2 := [(0, .ref b), (1, .ref (ad 0)), (2, .ref (am 0)), (3, .ref ao), (4, .ref aod), (5, .int (nI i))]) [2, 3, 4, 5, 6, 7] rfl (x_widen (show cells + 3 ≤ cells + 8 by omega) (show slots + 18 ≤ slots + 80 by omega) kk))
  by_cases hc6 : c6 = 0
  · have h4 := h4 hc6
    refine x_if_ne_f X (tgt := 1143) dL_law_1128 (by decide) hc6 ?_
    refine x_aload_n X dL_law_1131 5 rfl ?_
    refine x_iconst X (v := 0) dL_law_1132 (by decide) ?_
    refine x_lald X E.1.1 29 rfl (kf := some) dL_law_1133 (ck_t in01) (fun z hz => ?_)
    have hz : z = _ := (Option.some.inj hz).trans h4
    subst hz
    refine x_iload X dL_law_1134 0 rfl ?_
    refine x_i2l X dL_law_1136 ?_
    refine x_lcmp X dL_law_1137 ?_
    refine x_if_eq_t X (tgt := 1143) dL_law_1138 (by decide) (lcmp_self _) ?_
    exact hend
  · exact x_if_ne_t X (tgt := 1143) dL_law_1128 (by decide) hc6 hend
set_option maxRecDepth 100000 in
set_option maxHeartbeats 4000000 in
theorem arm_18 (X : CX p m c cL_law 9 s args RL) (E : EX l s D kA A) (hNC : NCs s) (hX : va_X b L xs s s.heap) (hbl : b < s.heap.size) (hbA : ¬ A b) (hi : i + 4 ≤ L) (hL : L ≤ 2048) (hcC : cells + 8 ≤ 601024) (hcS : slots + 80 ≤ 7293034) (fu : Nat) (w w1 v v1 : WS) (o o1 : Nat → Int64) (od : Nat → UInt64) (c6 : Int32) (r7 : Int32) (h1 : f_L_distanceBehind fu w o (xs (i + 1)) (xs (i + 2)) = some (c6, w1, o1)) (h2 : f_X4_distanceBehind fu v (xs (i + 1)) (xs (i + 2)) = some (r7, v1)) (h3 : f_X4_thrown fu v1 = some c6) (h4 : c6 = 0 → o1 0 = Int32.toInt64 r7) (kk : CS p l e room_1 s m args below meth c D A 9 (cells + 8) (slots + 80) Q (LW kA ad am ao aod w1 o1 od v1) 1905 [(0, .ref b), (1, .ref (ad 0)), (2, .ref (am 0)), (3, .ref ao), (4, .ref aod), (5, .int (nI i))] []) : CS p l e room_1 s m args below meth c D A 9 cells slots Q (LW kA ad am ao aod w o od v) 1146 [(0, .ref b), (1, .ref (ad 0)), (2, .ref (am 0)), (3, .ref ao), (4, .ref aod), (5, .int (nI i))] [] := by
  refine x_aload_n X dL_law_1146 1 rfl ?_
  refine x_arg X hX hbl hbA hi hL (j := 1) (by decide) (by decide) 0 5 rfl rfl dL_law_1147 dL_law_1148 dL_law_1150 dL_law_1151 dL_law_1152 ?_
  refine x_arg X hX hbl hbA hi hL (j := 2) (by decide) (by decide) 0 5 rfl rfl dL_law_1153 dL_law_1154 dL_law_1156 dL_law_1157 dL_law_1158 ?_
  refine x_aload_n X dL_law_1159 3 rfl ?_
  refine x_callW X E hNC (As := [.ref (ad 0), .int (xs (i + 1)), .int (xs (i + 2)), .ref ao]) (rest := []) (n := 4) (mc := 3) (ms := 18) (rm := rm_L_distanceBehind) (u := picC kA ad w ++ LWo kA ao o) (u2 := picC kA ad w1 ++ LWo kA ao o1) (w3 := LWd kA aod od ++ picM kA am v) rfl (goodSW w_688 w_689 w_46 w_690) (fun sz => met_L_distanceBehind l E.2.2.2 D kA ad ao fu w o (xs (i + 1)) (xs (i + 2)) _ _ _ h1 sz) rfl rfl (by decide +kernel) ⟨by decide, by decide⟩ rfl rfl (Nat.le_of_ble_eq_true rfl) dL_law_1160 ⟨(show cells + 3 ≤ 601024 by omega), (show slots + 18 ≤ 7293034 by omega)⟩ (LW kA ad am ao aod w1 o1 od v) rfl ?_
  refine x_istore X (lv2 := (6, .int c6) :: [(0, .ref b), (1, .ref (ad 0)), (2, .ref (am 0)), (3, .ref ao), (4, .ref aod), (5, .int (nI i))]) dL_law_1163 (by decide) rfl ?_
  refine x_aload_n X dL_law_1165 3 rfl ?_
  refine x_arg X hX hbl hbA hi hL (j := 1) (by decide) (by decide) 1 6 rfl rfl dL_law_1166 dL_law_1167 dL_law_1169 dL_law_1170 dL_law_1171 ?_
  refine x_arg X hX hbl hbA hi hL (j := 2) (by decide) (by decide) 1 6 rfl rfl dL_law_1172 dL_law_1173 dL_law_1175 dL_law_1176 dL_law_1177 ?_
  refine x_callVs_i X E (As := [.int (xs (i + 1)), .int (xs (i + 2))]) (rest := []) (n := 2) (rm := rm_X4_distanceBehind) (u := picM kA am v) (u2 := picM kA am v1) ((picC kA ad w1 ++ LWo kA ao o1) ++ LWd kA aod od) [] (lw_mid _ _ _ _) (goodV w_1071 w_1072 w_1073 w_52 w_1074) (fun sz => met_X4_distanceBehind l E.2.2.2 D kA am fu v (xs (i + 1)) (xs (i + 2)) r7 v1 h2 sz) rfl rfl (by decide +kernel) ⟨by decide, by decide⟩ 0 rfl (qc := (RX4, TX4, _)) rfl rfl rfl rfl (Nat.le_of_ble_eq_true rfl) dL_law_1178 ⟨(show cells + 3 ≤ 601024 by omega), (show slots + 18 ≤ 7293034 by omega)⟩ (LW kA ad am ao aod w1 o1 od v1) (lw_mid _ _ _ _).symm ?_
  refine x_istore X (lv2 := (7, .int r7) :: (6, .int c6) :: [(0, .ref b), (1, .ref (ad 0)), (2, .ref (am 0)), (3, .ref ao), (4, .ref aod), (5, .int (nI i))]) dL_law_1181 (by decide) rfl ?_
  refine x_aload_n X dL_law_1183 4 rfl ?_
  refine x_callVs_i X E (As := []) (rest := []) (n := 0) (rm := rm_X4_thrown) (u := picM kA am v1) (u2 := picM kA am v1) ((picC kA ad w1 ++ LWo kA ao o1) ++ LWd kA aod od) [] (lw_mid _ _ _ _) (goodV w_927 w_928 w_929 w_52 w_930) (fun sz => met_X4_thrown l E.2.2.2 D kA am fu v1 c6 h3 sz) rfl rfl (by decide +kernel) ⟨by decide, by decide⟩ 0 rfl (qc := (RX4, TX4, _)) rfl rfl rfl rfl (Nat.le_of_ble_eq_true rfl) dL_law_1184 ⟨(show cells + 3 ≤ 601024 by omega), (show slots + 18 ≤ 7293034 by omega)⟩ (LW kA ad am ao aod w1 o1 od v1) (lw_mid _ _ _ _).symm ?_
  refine x_iload X dL_law_1187 1 rfl ?_
  refine x_icmp_eq_t X (tgt := 1194) dL_law_1189 (by decide) rfl ?_
  refine x_iload X dL_law_1194 1 rfl ?_
  have hend : CS p l e room_1 s m args below meth c D A 9 (cells + 3) (slots + 18) Q (LW kA ad am ao aod w1 o1 od v1) 1211 ((7, .int r7) :: (6, .int c6) :: [(0, .ref b), (1, .ref (ad 0)), (2, .ref (am 0)), (3, .ref ao), (4, .ref aod), (5, .int (nI i))]) [] := x_goto X (tgt := 1905) dL_law_1211 (by decide) (x_lpick (lv2 := [(0, .ref b), (1, .ref (ad 0)), (2, .ref (am 0)), (3, .ref ao), (4, .ref aod), (5, .int (nI i))]) [2, 3, 4, 5, 6, 7] rfl (x_widen (show cells + 3 ≤ cells + 8 by omega) (show slots + 18 ≤ slots + 80 by omega) kk))
  by_cases hc6 : c6 = 0
  · have h4 := h4 hc6
    refine x_if_ne_f X (tgt := 1211) dL_law_1196 (by decide) hc6 ?_
    refine x_aload_n X dL_law_1199 5 rfl ?_
    refine x_iconst X (v := 0) dL_law_1200 (by decide) ?_
    refine x_lald X E.1.1 29 rfl (kf := some) dL_law_1201 (ck_t in01) (fun z hz => ?_)
    have hz : z = _ := (Option.some.inj hz).trans h4
    subst hz
    refine x_iload X dL_law_1202 0 rfl ?_
    refine x_i2l X dL_law_1204 ?_
    refine x_lcmp X dL_law_1205 ?_
    refine x_if_eq_t X (tgt := 1211) dL_law_1206 (by decide) (lcmp_self _) ?_
    exact hend
  · exact x_if_ne_t X (tgt := 1211) dL_law_1196 (by decide) hc6 hend
set_option maxRecDepth 100000 in
set_option maxHeartbeats 4000000 in
theorem arm_19 (X : CX p m c cL_law 9 s args RL) (E : EX l s D kA A) (hNC : NCs s) (hX : va_X b L xs s s.heap) (hbl : b < s.heap.size) (hbA : ¬ A b) (hi : i + 4 ≤ L) (hL : L ≤ 2048) (hcC : cells + 8 ≤ 601024) (hcS : slots + 80 ≤ 7293034) (fu : Nat) (w w1 v v1 : WS) (o o1 : Nat → Int64) (od : Nat → UInt64) (c6 : Int32) (r7 : Int32) (h1 : f_L_route fu w o (xs (i + 1)) (xs (i + 2)) = some (c6, w1, o1)) (h2 : f_X4_route fu v (xs (i + 1)) (xs (i + 2)) = some (r7, v1)) (h3 : f_X4_thrown fu v1 = some c6) (h4 : c6 = 0 → o1 0 = Int32.toInt64 r7) (kk : CS p l e room_1 s m args below meth c D A 9 (cells + 8) (slots + 80) Q (LW kA ad am ao aod w1 o1 od v1) 1905 [(0, .ref b), (1, .ref (ad 0)), (2, .ref (am 0)), (3, .ref ao), (4, .ref aod), (5, .int (nI i))] []) : CS p l e room_1 s m args below meth c D A 9 cells slots Q (LW kA ad am ao aod w o od v) 1214 [(0, .ref b), (1, .ref (ad 0)), (2, .ref (am 0)), (3, .ref ao), (4, .ref aod), (5, .int (nI i))] [] := by
  refine x_aload_n X dL_law_1214 1 rfl ?_
  refine x_arg X hX hbl hbA hi hL (j := 1) (by decide) (by decide) 0 5 rfl rfl dL_law_1215 dL_law_1216 dL_law_1218 dL_law_1219 dL_law_1220 ?_
  refine x_arg X hX hbl hbA hi hL (j := 2) (by decide) (by decide) 0 5 rfl rfl dL_law_1221 dL_law_1222 dL_law_1224 dL_law_1225 dL_law_1226 ?_
  refine x_aload_n X dL_law_1227 3 rfl ?_
  refine x_callW X E hNC (As := [.ref (ad 0), .int (xs (i + 1)), .int (xs (i + 2)), .ref ao]) (rest := []) (n := 4) (mc := 4) (ms := 24) (rm := rm_L_route) (u := picC kA ad w ++ LWo kA ao o) (u2 := picC kA ad w1 ++ LWo kA ao o1) (w3 := LWd kA aod od ++ picM kA am v) rfl (goodSW w_695 w_696 w_46 w_697) (fun sz => met_L_route l E.2.2.2 D kA ad ao fu w o (xs (i + 1)) (xs (i + 2)) _ _ _ h1 sz) rfl rfl (by decide +kernel) ⟨by decide, by decide⟩ rfl rfl (Nat.le_of_ble_eq_true rfl) dL_law_1228 ⟨(show cells + 4 ≤ 601024 by omega), (show slots + 24 ≤ 7293034 by omega)⟩ (LW kA ad am ao aod w1 o1 od v) rfl ?_
  refine x_istore X (lv2 := (6, .int c6) :: [(0, .ref b), (1, .ref (ad 0)), (2, .ref (am 0)), (3, .ref ao), (4, .ref aod), (5, .int (nI i))]) dL_law_1231 (by decide) rfl ?_
  refine x_aload_n X dL_law_1233 3 rfl ?_
  refine x_arg X hX hbl hbA hi hL (j := 1) (by decide) (by decide) 1 6 rfl rfl dL_law_1234 dL_law_1235 dL_law_1237 dL_law_1238 dL_law_1239 ?_
  refine x_arg X hX hbl hbA hi hL (j := 2) (by decide) (by decide) 1 6 rfl rfl dL_law_1240 dL_law_1241 dL_law_1243 dL_law_1244 dL_law_1245 ?_
  refine x_callVs_i X E (As := [.int (xs (i + 1)), .int (xs (i + 2))]) (rest := []) (n := 2) (rm := rm_X4_route) (u := picM kA am v) (u2 := picM kA am v1) ((picC kA ad w1 ++ LWo kA ao o1) ++ LWd kA aod od) [] (lw_mid _ _ _ _) (goodV w_1075 w_1076 w_1077 w_52 w_1078) (fun sz => met_X4_route l E.2.2.2 D kA am fu v (xs (i + 1)) (xs (i + 2)) r7 v1 h2 sz) rfl rfl (by decide +kernel) ⟨by decide, by decide⟩ 0 rfl (qc := (RX4, TX4, _)) rfl rfl rfl rfl (Nat.le_of_ble_eq_true rfl) dL_law_1246 ⟨(show cells + 4 ≤ 601024 by omega), (show slots + 24 ≤ 7293034 by omega)⟩ (LW kA ad am ao aod w1 o1 od v1) (lw_mid _ _ _ _).symm ?_
  refine x_istore X (lv2 := (7, .int r7) :: (6, .int c6) :: [(0, .ref b), (1, .ref (ad 0)), (2, .ref (am 0)), (3, .ref ao), (4, .ref aod), (5, .int (nI i))]) dL_law_1249 (by decide) rfl ?_
  refine x_aload_n X dL_law_1251 4 rfl ?_
  refine x_callVs_i X E (As := []) (rest := []) (n := 0) (rm := rm_X4_thrown) (u := picM kA am v1) (u2 := picM kA am v1) ((picC kA ad w1 ++ LWo kA ao o1) ++ LWd kA aod od) [] (lw_mid _ _ _ _) (goodV w_927 w_928 w_929 w_52 w_930) (fun sz => met_X4_thrown l E.2.2.2 D kA am fu v1 c6 h3 sz) rfl rfl (by decide +kernel) ⟨by decide, by decide⟩ 0 rfl (qc := (RX4, TX4, _)) rfl rfl rfl rfl (Nat.le_of_ble_eq_true rfl) dL_law_1252 ⟨(show cells + 4 ≤ 601024 by omega), (show slots + 24 ≤ 7293034 by omega)⟩ (LW kA ad am ao aod w1 o1 od v1) (lw_mid _ _ _ _).symm ?_
  refine x_iload X dL_law_1255 1 rfl ?_
  refine x_icmp_eq_t X (tgt := 1262) dL_law_1257 (by decide) rfl ?_
  refine x_iload X dL_law_1262 1 rfl ?_
  have hend : CS p l e room_1 s m args below meth c D A 9 (cells + 4) (slots + 24) Q (LW kA ad am ao aod w1 o1 od v1) 1279 ((7, .int r7) :: (6, .int c6) :: [(0, .ref b), (1, .ref (ad 0)), (2, .ref (am 0)), (3, .ref ao), (4, .ref aod), (5, .int (nI i))]) [] := x_goto X (tgt := 1905) dL_law_1279 (by decide) (x_lpick (lv2 := [(0, .ref b), (1, .ref (ad 0)), (2, .ref (am 0)), (3, .ref ao), (4, .ref aod), (5, .int (nI i))]) [2, 3, 4, 5, 6, 7] rfl (x_widen (show cells + 4 ≤ cells + 8 by omega) (show slots + 24 ≤ slots + 80 by omega) kk))
  by_cases hc6 : c6 = 0
  · have h4 := h4 hc6
    refine x_if_ne_f X (tgt := 1279) dL_law_1264 (by decide) hc6 ?_
    refine x_aload_n X dL_law_1267 5 rfl ?_
    refine x_iconst X (v := 0) dL_law_1268 (by decide) ?_
    refine x_lald X E.1.1 29 rfl (kf := some) dL_law_1269 (ck_t in01) (fun z hz => ?_)
    have hz : z = _ := (Option.some.inj hz).trans h4
    subst hz
    refine x_iload X dL_law_1270 0 rfl ?_
    refine x_i2l X dL_law_1272 ?_
    refine x_lcmp X dL_law_1273 ?_
    refine x_if_eq_t X (tgt := 1279) dL_law_1274 (by decide) (lcmp_self _) ?_
    exact hend
  · exact x_if_ne_t X (tgt := 1279) dL_law_1264 (by decide) hc6 hend
set_option maxRecDepth 100000 in
set_option maxHeartbeats 4000000 in
theorem arm_20 (X : CX p m c cL_law 9 s args RL) (E : EX l s D kA A) (hNC : NCs s) (hX : va_X b L xs s s.heap) (hbl : b < s.heap.size) (hbA : ¬ A b) (hi : i + 4 ≤ L) (hL : L ≤ 2048) (hcC : cells + 8 ≤ 601024) (hcS : slots + 80 ≤ 7293034) (fu : Nat) (w w1 v v1 : WS) (o o1 : Nat → Int64) (od : Nat → UInt64) (c6 : Int32) (r7 : Int32) (h1 : f_L_routeRoad fu w o (xs (i + 1)) = some (c6, w1, o1)) (h2 : f_X4_routeRoad fu v (xs (i + 1)) = some (r7, v1)) (h3 : f_X4_thrown fu v1 = some c6) (h4 : c6 = 0 → o1 0 = Int32.toInt64 r7) (kk : CS p l e room_1 s m args below meth c D A 9 (cells + 8) (slots + 80) Q (LW kA ad am ao aod w1 o1 od v1) 1905 [(0, .ref b), (1, .ref (ad 0)), (2, .ref (am 0)), (3, .ref ao), (4, .ref aod), (5, .int (nI i))] []) : CS p l e room_1 s m args below meth c D A 9 cells slots Q (LW kA ad am ao aod w o od v) 1282 [(0, .ref b), (1, .ref (ad 0)), (2, .ref (am 0)), (3, .ref ao), (4, .ref aod), (5, .int (nI i))] [] := by
  refine x_aload_n X dL_law_1282 1 rfl ?_
  refine x_arg X hX hbl hbA hi hL (j := 1) (by decide) (by decide) 0 5 rfl rfl dL_law_1283 dL_law_1284 dL_law_1286 dL_law_1287 dL_law_1288 ?_
  refine x_aload_n X dL_law_1289 3 rfl ?_
  refine x_callW X E hNC (As := [.ref (ad 0), .int (xs (i + 1)), .ref ao]) (rest := []) (n := 3) (mc := 1) (ms := 6) (rm := rm_L_routeRoad) (u := picC kA ad w ++ LWo kA ao o) (u2 := picC kA ad w1 ++ LWo kA ao o1) (w3 := LWd kA aod od ++ picM kA am v) rfl (goodSW w_729 w_730 w_46 w_731) (fun sz => met_L_routeRoad l E.2.2.2 D kA ad ao fu w o (xs (i + 1)) _ _ _ h1 sz) rfl rfl (by decide +kernel) ⟨by decide, by decide⟩ rfl rfl (Nat.le_of_ble_eq_true rfl) dL_law_1290 ⟨(show cells + 1 ≤ 601024 by omega), (show slots + 6 ≤ 7293034 by omega)⟩ (LW kA ad am ao aod w1 o1 od v) rfl ?_
  refine x_istore X (lv2 := (6, .int c6) :: [(0, .ref b), (1, .ref (ad 0)), (2, .ref (am 0)), (3, .ref ao), (4, .ref aod), (5, .int (nI i))]) dL_law_1293 (by decide) rfl ?_
  refine x_aload_n X dL_law_1295 3 rfl ?_
  refine x_arg X hX hbl hbA hi hL (j := 1) (by decide) (by decide) 1 6 rfl rfl dL_law_1296 dL_law_1297 dL_law_1299 dL_law_1300 dL_law_1301 ?_
  refine x_callVs_i X E (As := [.int (xs (i + 1))]) (rest := []) (n := 1) (rm := rm_X4_routeRoad) (u := picM kA am v) (u2 := picM kA am v1) ((picC kA ad w1 ++ LWo kA ao o1) ++ LWd kA aod od) [] (lw_mid _ _ _ _) (goodV w_1083 w_1084 w_1085 w_52 w_1086) (fun sz => met_X4_routeRoad l E.2.2.2 D kA am fu v (xs (i + 1)) r7 v1 h2 sz) rfl rfl (by decide +kernel) ⟨by decide, by decide⟩ 0 rfl (qc := (RX4, TX4, _)) rfl rfl rfl rfl (Nat.le_of_ble_eq_true rfl) dL_law_1302 ⟨(show cells + 1 ≤ 601024 by omega), (show slots + 6 ≤ 7293034 by omega)⟩ (LW kA ad am ao aod w1 o1 od v1) (lw_mid _ _ _ _).symm ?_
  refine x_istore X (lv2 := (7, .int r7) :: (6, .int c6) :: [(0, .ref b), (1, .ref (ad 0)), (2, .ref (am 0)), (3, .ref ao), (4, .ref aod), (5, .int (nI i))]) dL_law_1305 (by decide) rfl ?_
  refine x_aload_n X dL_law_1307 4 rfl ?_
  refine x_callVs_i X E (As := []) (rest := []) (n := 0) (rm := rm_X4_thrown) (u := picM kA am v1) (u2 := picM kA am v1) ((picC kA ad w1 ++ LWo kA ao o1) ++ LWd kA aod od) [] (lw_mid _ _ _ _) (goodV w_927 w_928 w_929 w_52 w_930) (fun sz => met_X4_thrown l E.2.2.2 D kA am fu v1 c6 h3 sz) rfl rfl (by decide +kernel) ⟨by decide, by decide⟩ 0 rfl (qc := (RX4, TX4, _)) rfl rfl rfl rfl (Nat.le_of_ble_eq_true rfl) dL_law_1308 ⟨(show cells + 1 ≤ 601024 by omega), (show slots + 6 ≤ 7293034 by omega)⟩ (LW kA ad am ao aod w1 o1 od v1) (lw_mid _ _ _ _).symm ?_
  refine x_iload X dL_law_1311 1 rfl ?_
  refine x_icmp_eq_t X (tgt := 1318) dL_law_1313 (by decide) rfl ?_
  refine x_iload X dL_law_1318 1 rfl ?_
  have hend : CS p l e room_1 s m args below meth c D A 9 (cells + 1) (slots + 6) Q (LW kA ad am ao aod w1 o1 od v1) 1335 ((7, .int r7) :: (6, .int c6) :: [(0, .ref b), (1, .ref (ad 0)), (2, .ref (am 0)), (3, .ref ao), (4, .ref aod), (5, .int (nI i))]) [] := x_goto X (tgt := 1905) dL_law_1335 (by decide) (x_lpick (lv2 := [(0, .ref b), (1, .ref (ad 0)), (2, .ref (am 0)), (3, .ref ao), (4, .ref aod), (5, .int (nI i))]) [2, 3, 4, 5, 6, 7] rfl (x_widen (show cells + 1 ≤ cells + 8 by omega) (show slots + 6 ≤ slots + 80 by omega) kk))
  by_cases hc6 : c6 = 0
  · have h4 := h4 hc6
    refine x_if_ne_f X (tgt := 1335) dL_law_1320 (by decide) hc6 ?_
    refine x_aload_n X dL_law_1323 5 rfl ?_
    refine x_iconst X (v := 0) dL_law_1324 (by decide) ?_
    refine x_lald X E.1.1 29 rfl (kf := some) dL_law_1325 (ck_t in01) (fun z hz => ?_)
    have hz : z = _ := (Option.some.inj hz).trans h4
    subst hz
    refine x_iload X dL_law_1326 0 rfl ?_
    refine x_i2l X dL_law_1328 ?_
    refine x_lcmp X dL_law_1329 ?_
    refine x_if_eq_t X (tgt := 1335) dL_law_1330 (by decide) (lcmp_self _) ?_
    exact hend
  · exact x_if_ne_t X (tgt := 1335) dL_law_1320 (by decide) hc6 hend
set_option maxRecDepth 100000 in
set_option maxHeartbeats 4000000 in
theorem arm_21 (X : CX p m c cL_law 9 s args RL) (E : EX l s D kA A) (hNC : NCs s) (hX : va_X b L xs s s.heap) (hbl : b < s.heap.size) (hbA : ¬ A b) (hi : i + 4 ≤ L) (hL : L ≤ 2048) (hcC : cells + 8 ≤ 601024) (hcS : slots + 80 ≤ 7293034) (fu : Nat) (w v v1 : WS) (o : Nat → Int64) (od : Nat → UInt64) (r : Int32) (h1 : f_X3_routeCost fu w = some r) (h2 : f_X4_routeCost fu v = some (r, v1)) (kk : CS p l e room_1 s m args below meth c D A 9 (cells + 8) (slots + 80) Q (LW kA ad am ao aod w o od v1) 1905 [(0, .ref b), (1, .ref (ad 0)), (2, .ref (am 0)), (3, .ref ao), (4, .ref aod), (5, .int (nI i))] []) : CS p l e room_1 s m args below meth c D A 9 cells slots Q (LW kA ad am ao aod w o od v) 1338 [(0, .ref b), (1, .ref (ad 0)), (2, .ref (am 0)), (3, .ref ao), (4, .ref aod), (5, .int (nI i))] [] := by
  refine x_aload_n X dL_law_1338 1 rfl ?_
  refine x_callVs_i X E (As := []) (rest := []) (n := 0) (rm := rm_X3_routeCost) (u := picC kA ad w) (u2 := picC kA ad w) [] (LWo kA ao o ++ (LWd kA aod od ++ picM kA am v)) (lw_fst _ _ _ _) (goodV w_263 w_264 w_265 w_47 w_266) (fun sz => met_X3_routeCost l E.2.2.2 D kA ad fu w r h1 sz) rfl rfl (by decide +kernel) ⟨by decide, by decide⟩ 0 rfl (qc := (RX3, TX3, _)) rfl rfl rfl rfl (Nat.le_of_ble_eq_true rfl) dL_law_1339 ⟨(show cells ≤ 601024 by omega), (show slots ≤ 7293034 by omega)⟩ (LW kA ad am ao aod w o od v) (lw_fst _ _ _ _).symm ?_
  refine x_aload_n X dL_law_1342 2 rfl ?_
  refine x_callVs_i X E (As := []) (rest := [.int r]) (n := 0) (rm := rm_X4_routeCost) (u := picM kA am v) (u2 := picM kA am v1) ((picC kA ad w ++ LWo kA ao o) ++ LWd kA aod od) [] (lw_mid _ _ _ _) (goodV w_1087 w_1088 w_1089 w_52 w_1090) (fun sz => met_X4_routeCost l E.2.2.2 D kA am fu v r v1 h2 sz) rfl rfl (by decide +kernel) ⟨by decide, by decide⟩ 0 rfl (qc := (RX4, TX4, _)) rfl rfl rfl rfl (Nat.le_of_ble_eq_true rfl) dL_law_1343 ⟨(show cells ≤ 601024 by omega), (show slots ≤ 7293034 by omega)⟩ (LW kA ad am ao aod w o od v1) (lw_mid _ _ _ _).symm ?_
  refine x_icmp_eq_t X (tgt := 1905) dL_law_1346 (by decide) rfl ?_
  exact x_widen (by omega) (by omega) kk
set_option maxRecDepth 100000 in
set_option maxHeartbeats 4000000 in
theorem arm_22 (X : CX p m c cL_law 9 s args RL) (E : EX l s D kA A) (hNC : NCs s) (hX : va_X b L xs s s.heap) (hbl : b < s.heap.size) (hbA : ¬ A b) (hi : i + 4 ≤ L) (hL : L ≤ 2048) (hcC : cells + 8 ≤ 601024) (hcS : slots + 80 ≤ 7293034) (fu : Nat) (w w1 v v1 : WS) (o o1 : Nat → Int64) (od : Nat → UInt64) (c6 : Int32) (r7 : Int32) (h1 : f_L_reach fu w o (xs (i + 1)) (xs (i + 2)) = some (c6, w1, o1)) (h2 : f_X4_reach fu v (xs (i + 1)) (xs (i + 2)) = some (r7, v1)) (h3 : f_X4_thrown fu v1 = some c6) (h4 : c6 = 0 → o1 0 = Int32.toInt64 r7) (kk : CS p l e room_1 s m args below meth c D A 9 (cells + 8) (slots + 80) Q (LW kA ad am ao aod w1 o1 od v1) 1905 [(0, .ref b), (1, .ref (ad 0)), (2, .ref (am 0)), (3, .ref ao), (4, .ref aod), (5, .int (nI i))] []) : CS p l e room_1 s m args below meth c D A 9 cells slots Q (LW kA ad am ao aod w o od v) 1351 [(0, .ref b), (1, .ref (ad 0)), (2, .ref (am 0)), (3, .ref ao), (4, .ref aod), (5, .int (nI i))] [] := by
  refine x_aload_n X dL_law_1351 1 rfl ?_
  refine x_arg X hX hbl hbA hi hL (j := 1) (by decide) (by decide) 0 5 rfl rfl dL_law_1352 dL_law_1353 dL_law_1355 dL_law_1356 dL_law_1357 ?_
  refine x_arg X hX hbl hbA hi hL (j := 2) (by decide) (by decide) 0 5 rfl rfl dL_law_1358 dL_law_1359 dL_law_1361 dL_law_1362 dL_law_1363 ?_
  refine x_aload_n X dL_law_1364 3 rfl ?_
  refine x_callW X E hNC (As := [.ref (ad 0), .int (xs (i + 1)), .int (xs (i + 2)), .ref ao]) (rest := []) (n := 4) (mc := 3) (ms := 18) (rm := rm_L_reach) (u := picC kA ad w ++ LWo kA ao o) (u2 := picC kA ad w1 ++ LWo kA ao o1) (w3 := LWd kA aod od ++ picM kA am v) rfl (goodSW w_737 w_738 w_46 w_739) (fun sz => met_L_reach l E.2.2.2 D kA ad ao fu w o (xs (i + 1)) (xs (i + 2)) _ _ _ h1 sz) rfl rfl (by decide +kernel) ⟨by decide, by decide⟩ rfl rfl (Nat.le_of_ble_eq_true rfl) dL_law_1365 ⟨(show cells + 3 ≤ 601024 by omega), (show slots + 18 ≤ 7293034 by omega)⟩ (LW kA ad am ao aod w1 o1 od v) rfl ?_
  refine x_istore X (lv2 := (6, .int c6) :: [(0, .ref b), (1, .ref (ad 0)), (2, .ref (am 0)), (3, .ref ao), (4, .ref aod), (5, .int (nI i))]) dL_law_1368 (by decide) rfl ?_
  refine x_aload_n X dL_law_1370 3 rfl ?_
  refine x_arg X hX hbl hbA hi hL (j := 1) (by decide) (by decide) 1 6 rfl rfl dL_law_1371 dL_law_1372 dL_law_1374 dL_law_1375 dL_law_1376 ?_
  refine x_arg X hX hbl hbA hi hL (j := 2) (by decide) (by decide) 1 6 rfl rfl dL_law_1377 dL_law_1378 dL_law_1380 dL_law_1381 dL_law_1382 ?_
  refine x_callVm_i X E (As := [.int (xs (i + 1)), .int (xs (i + 2))]) (rest := []) (n := 2) (rm := rm_X4_reach) (u := picM kA am v) (u2 := picM kA am v1) ((picC kA ad w1 ++ LWo kA ao o1) ++ LWd kA aod od) [] (lw_mid _ _ _ _) (goodV w_1091 w_1092 w_1093 w_52 w_1094) (fun sz => met_X4_reach l E.2.2.2 D kA am fu v (xs (i + 1)) (xs (i + 2)) r7 v1 h2 sz) rfl rfl (by decide +kernel) ⟨by decide, by decide⟩ 0 rfl (qc := (RX4, TX4, _)) rfl rfl rfl rfl (Nat.le_of_ble_eq_true rfl) dL_law_1383 ⟨(show cells + 3 + 1 ≤ 601024 by omega), (show slots + 18 + 32 ≤ 7293034 by omega)⟩ (LW kA ad am ao aod w1 o1 od v1) (lw_mid _ _ _ _).symm ?_
  refine x_istore X (lv2 := (7, .int r7) :: (6, .int c6) :: [(0, .ref b), (1, .ref (ad 0)), (2, .ref (am 0)), (3, .ref ao), (4, .ref aod), (5, .int (nI i))]) dL_law_1386 (by decide) rfl ?_
  refine x_aload_n X dL_law_1388 4 rfl ?_
  refine x_callVs_i X E (As := []) (rest := []) (n := 0) (rm := rm_X4_thrown) (u := picM kA am v1) (u2 := picM kA am v1) ((picC kA ad w1 ++ LWo kA ao o1) ++ LWd kA aod od) [] (lw_mid _ _ _ _) (goodV w_927 w_928 w_929 w_52 w_930) (fun sz => met_X4_thrown l E.2.2.2 D kA am fu v1 c6 h3 sz) rfl rfl (by decide +kernel) ⟨by decide, by decide⟩ 0 rfl (qc := (RX4, TX4, _)) rfl rfl rfl rfl (Nat.le_of_ble_eq_true rfl) dL_law_1389 ⟨(show cells + 3 + 1 ≤ 601024 by omega), (show slots + 18 + 32 ≤ 7293034 by omega)⟩ (LW kA ad am ao aod w1 o1 od v1) (lw_mid _ _ _ _).symm ?_
  refine x_iload X dL_law_1392 1 rfl ?_
  refine x_icmp_eq_t X (tgt := 1399) dL_law_1394 (by decide) rfl ?_
  refine x_iload X dL_law_1399 1 rfl ?_
  have hend : CS p l e room_1 s m args below meth c D A 9 (cells + 3 + 1) (slots + 18 + 32) Q (LW kA ad am ao aod w1 o1 od v1) 1416 ((7, .int r7) :: (6, .int c6) :: [(0, .ref b), (1, .ref (ad 0)), (2, .ref (am 0)), (3, .ref ao), (4, .ref aod), (5, .int (nI i))]) [] := x_goto X (tgt := 1905) dL_law_1416 (by decide) (x_lpick (lv2 := [(0, .ref b), (1, .ref (ad 0)), (2, .ref (am 0)), (3, .ref ao), (4, .ref aod), (5, .int (nI i))]) [2, 3, 4, 5, 6, 7] rfl (x_widen (show cells + 3 + 1 ≤ cells + 8 by omega) (show slots + 18 + 32 ≤ slots + 80 by omega) kk))
  by_cases hc6 : c6 = 0
  · have h4 := h4 hc6
    refine x_if_ne_f X (tgt := 1416) dL_law_1401 (by decide) hc6 ?_
    refine x_aload_n X dL_law_1404 5 rfl ?_
    refine x_iconst X (v := 0) dL_law_1405 (by decide) ?_
    refine x_lald X E.1.1 29 rfl (kf := some) dL_law_1406 (ck_t in01) (fun z hz => ?_)
    have hz : z = _ := (Option.some.inj hz).trans h4
    subst hz
    refine x_iload X dL_law_1407 0 rfl ?_
    refine x_i2l X dL_law_1409 ?_
    refine x_lcmp X dL_law_1410 ?_
    refine x_if_eq_t X (tgt := 1416) dL_law_1411 (by decide) (lcmp_self _) ?_
    exact hend
  · exact x_if_ne_t X (tgt := 1416) dL_law_1401 (by decide) hc6 hend
set_option maxRecDepth 100000 in
set_option maxHeartbeats 4000000 in
theorem arm_23 (X : CX p m c cL_law 9 s args RL) (E : EX l s D kA A) (hNC : NCs s) (hX : va_X b L xs s s.heap) (hbl : b < s.heap.size) (hbA : ¬ A b) (hi : i + 4 ≤ L) (hL : L ≤ 2048) (hcC : cells + 8 ≤ 601024) (hcS : slots + 80 ≤ 7293034) (fu : Nat) (w w1 v v1 : WS) (o o1 : Nat → Int64) (od : Nat → UInt64) (c6 : Int32) (r7 : Int32) (h1 : f_L_reached fu w o (xs (i + 1)) = some (c6, w1, o1)) (h2 : f_X4_reached fu v (xs (i + 1)) = some (r7, v1)) (h3 : f_X4_thrown fu v1 = some c6) (h4 : c6 = 0 → o1 0 = Int32.toInt64 r7) (kk : CS p l e room_1 s m args below meth c D A 9 (cells + 8) (slots + 80) Q (LW kA ad am ao aod w1 o1 od v1) 1905 [(0, .ref b), (1, .ref (ad 0)), (2, .ref (am 0)), (3, .ref ao), (4, .ref aod), (5, .int (nI i))] []) : CS p l e room_1 s m args below meth c D A 9 cells slots Q (LW kA ad am ao aod w o od v) 1419 [(0, .ref b), (1, .ref (ad 0)), (2, .ref (am 0)), (3, .ref ao), (4, .ref aod), (5, .int (nI i))] [] := by
  refine x_aload_n X dL_law_1419 1 rfl ?_
  refine x_arg X hX hbl hbA hi hL (j := 1) (by decide) (by decide) 0 5 rfl rfl dL_law_1420 dL_law_1421 dL_law_1423 dL_law_1424 dL_law_1425 ?_
  refine x_aload_n X dL_law_1426 3 rfl ?_
  refine x_callW X E hNC (As := [.ref (ad 0), .int (xs (i + 1)), .ref ao]) (rest := []) (n := 3) (mc := 1) (ms := 6) (rm := rm_L_reached) (u := picC kA ad w ++ LWo kA ao o) (u2 := picC kA ad w1 ++ LWo kA ao o1) (w3 := LWd kA aod od ++ picM kA am v) rfl (goodSW w_749 w_750 w_46 w_751) (fun sz => met_L_reached l E.2.2.2 D kA ad ao fu w o (xs (i + 1)) _ _ _ h1 sz) rfl rfl (by decide +kernel) ⟨by decide, by decide⟩ rfl rfl (Nat.le_of_ble_eq_true rfl) dL_law_1427 ⟨(show cells + 1 ≤ 601024 by omega), (show slots + 6 ≤ 7293034 by omega)⟩ (LW kA ad am ao aod w1 o1 od v) rfl ?_
  refine x_istore X (lv2 := (6, .int c6) :: [(0, .ref b), (1, .ref (ad 0)), (2, .ref (am 0)), (3, .ref ao), (4, .ref aod), (5, .int (nI i))]) dL_law_1430 (by decide) rfl ?_
  refine x_aload_n X dL_law_1432 3 rfl ?_
  refine x_arg X hX hbl hbA hi hL (j := 1) (by decide) (by decide) 1 6 rfl rfl dL_law_1433 dL_law_1434 dL_law_1436 dL_law_1437 dL_law_1438 ?_
  refine x_callVs_i X E (As := [.int (xs (i + 1))]) (rest := []) (n := 1) (rm := rm_X4_reached) (u := picM kA am v) (u2 := picM kA am v1) ((picC kA ad w1 ++ LWo kA ao o1) ++ LWd kA aod od) [] (lw_mid _ _ _ _) (goodV w_1095 w_1096 w_1097 w_52 w_1098) (fun sz => met_X4_reached l E.2.2.2 D kA am fu v (xs (i + 1)) r7 v1 h2 sz) rfl rfl (by decide +kernel) ⟨by decide, by decide⟩ 0 rfl (qc := (RX4, TX4, _)) rfl rfl rfl rfl (Nat.le_of_ble_eq_true rfl) dL_law_1439 ⟨(show cells + 1 ≤ 601024 by omega), (show slots + 6 ≤ 7293034 by omega)⟩ (LW kA ad am ao aod w1 o1 od v1) (lw_mid _ _ _ _).symm ?_
  refine x_istore X (lv2 := (7, .int r7) :: (6, .int c6) :: [(0, .ref b), (1, .ref (ad 0)), (2, .ref (am 0)), (3, .ref ao), (4, .ref aod), (5, .int (nI i))]) dL_law_1442 (by decide) rfl ?_
  refine x_aload_n X dL_law_1444 4 rfl ?_
  refine x_callVs_i X E (As := []) (rest := []) (n := 0) (rm := rm_X4_thrown) (u := picM kA am v1) (u2 := picM kA am v1) ((picC kA ad w1 ++ LWo kA ao o1) ++ LWd kA aod od) [] (lw_mid _ _ _ _) (goodV w_927 w_928 w_929 w_52 w_930) (fun sz => met_X4_thrown l E.2.2.2 D kA am fu v1 c6 h3 sz) rfl rfl (by decide +kernel) ⟨by decide, by decide⟩ 0 rfl (qc := (RX4, TX4, _)) rfl rfl rfl rfl (Nat.le_of_ble_eq_true rfl) dL_law_1445 ⟨(show cells + 1 ≤ 601024 by omega), (show slots + 6 ≤ 7293034 by omega)⟩ (LW kA ad am ao aod w1 o1 od v1) (lw_mid _ _ _ _).symm ?_
  refine x_iload X dL_law_1448 1 rfl ?_
  refine x_icmp_eq_t X (tgt := 1455) dL_law_1450 (by decide) rfl ?_
  refine x_iload X dL_law_1455 1 rfl ?_
  have hend : CS p l e room_1 s m args below meth c D A 9 (cells + 1) (slots + 6) Q (LW kA ad am ao aod w1 o1 od v1) 1472 ((7, .int r7) :: (6, .int c6) :: [(0, .ref b), (1, .ref (ad 0)), (2, .ref (am 0)), (3, .ref ao), (4, .ref aod), (5, .int (nI i))]) [] := x_goto X (tgt := 1905) dL_law_1472 (by decide) (x_lpick (lv2 := [(0, .ref b), (1, .ref (ad 0)), (2, .ref (am 0)), (3, .ref ao), (4, .ref aod), (5, .int (nI i))]) [2, 3, 4, 5, 6, 7] rfl (x_widen (show cells + 1 ≤ cells + 8 by omega) (show slots + 6 ≤ slots + 80 by omega) kk))
  by_cases hc6 : c6 = 0
  · have h4 := h4 hc6
    refine x_if_ne_f X (tgt := 1472) dL_law_1457 (by decide) hc6 ?_
    refine x_aload_n X dL_law_1460 5 rfl ?_
    refine x_iconst X (v := 0) dL_law_1461 (by decide) ?_
    refine x_lald X E.1.1 29 rfl (kf := some) dL_law_1462 (ck_t in01) (fun z hz => ?_)
    have hz : z = _ := (Option.some.inj hz).trans h4
    subst hz
    refine x_iload X dL_law_1463 0 rfl ?_
    refine x_i2l X dL_law_1465 ?_
    refine x_lcmp X dL_law_1466 ?_
    refine x_if_eq_t X (tgt := 1472) dL_law_1467 (by decide) (lcmp_self _) ?_
    exact hend
  · exact x_if_ne_t X (tgt := 1472) dL_law_1457 (by decide) hc6 hend
set_option maxRecDepth 100000 in
set_option maxHeartbeats 4000000 in
theorem arm_24 (X : CX p m c cL_law 9 s args RL) (E : EX l s D kA A) (hNC : NCs s) (hX : va_X b L xs s s.heap) (hbl : b < s.heap.size) (hbA : ¬ A b) (hi : i + 4 ≤ L) (hL : L ≤ 2048) (hcC : cells + 8 ≤ 601024) (hcS : slots + 80 ≤ 7293034) (fu : Nat) (w w1 v v1 : WS) (o : Nat → Int64) (od od1 : Nat → UInt64) (c6 : Int32) (r7 : UInt64) (h1 : f_L_averageDistance fu w od (xs (i + 1)) = some (c6, w1, od1)) (h2 : f_X4_averageDistance fu v (xs (i + 1)) = some (r7, v1)) (h3 : f_X4_thrown fu v1 = some c6) (h4 : c6 = 0 → od1 0 = r7) (kk : CS p l e room_1 s m args below meth c D A 9 (cells + 8) (slots + 80) Q (LW kA ad am ao aod w1 o od1 v1) 1905 [(0, .ref b), (1, .ref (ad 0)), (2, .ref (am 0)), (3, .ref ao), (4, .ref aod), (5, .int (nI i))] []) : CS p l e room_1 s m args below meth c D A 9 cells slots Q (LW kA ad am ao aod w o od v) 1475 [(0, .ref b), (1, .ref (ad 0)), (2, .ref (am 0)), (3, .ref ao), (4, .ref aod), (5, .int (nI i))] [] := by
  refine x_aload_n X dL_law_1475 1 rfl ?_
  refine x_arg X hX hbl hbA hi hL (j := 1) (by decide) (by decide) 0 5 rfl rfl dL_law_1476 dL_law_1477 dL_law_1479 dL_law_1480 dL_law_1481 ?_
  refine x_aload X dL_law_1482 4 rfl ?_
  refine x_perm [0, 1, 2, 3, 4, 5, 6, 7, 8, 9, 10, 11, 12, 13, 14, 15, 16, 17, 18, 19, 20, 21, 22, 23, 24, 25, 26, 27, 28, 30, 29, 31, 32, 33, 34, 35, 36, 37, 38, 39, 40, 41, 42, 43, 44, 45, 46, 47, 48, 49, 50, 51, 52] rfl ((picC kA ad w ++ LWd kA aod od) ++ (LWo kA ao o ++ picM kA am v)) rfl ?_
  refine x_callW X E hNC (As := [.ref (ad 0), .int (xs (i + 1)), .ref aod]) (rest := []) (n := 3) (mc := 2) (ms := 12) (rm := rm_L_averageDistance) (u := picC kA ad w ++ LWd kA aod od) (u2 := picC kA ad w1 ++ LWd kA aod od1) (w3 := LWo kA ao o ++ picM kA am v) rfl (goodSW w_757 w_758 w_46 w_759) (fun sz => met_L_averageDistance l E.2.2.2 D kA ad aod fu w od (xs (i + 1)) _ _ _ h1 sz) rfl rfl (by decide +kernel) ⟨by decide, by decide⟩ rfl rfl (Nat.le_of_ble_eq_true rfl) dL_law_1484 ⟨(show cells + 2 ≤ 601024 by omega), (show slots + 12 ≤ 7293034 by omega)⟩ ((picC kA ad w1 ++ LWd kA aod od1) ++ (LWo kA ao o ++ picM kA am v)) rfl ?_
  refine x_perm [0, 1, 2, 3, 4, 5, 6, 7, 8, 9, 10, 11, 12, 13, 14, 15, 16, 17, 18, 19, 20, 21, 22, 23, 24, 25, 26, 27, 28, 30, 29, 31, 32, 33, 34, 35, 36, 37, 38, 39, 40, 41, 42, 43, 44, 45, 46, 47, 48, 49, 50, 51, 52] rfl (LW kA ad am ao aod w1 o od1 v) rfl ?_
  refine x_istore X (lv2 := (6, .int c6) :: [(0, .ref b), (1, .ref (ad 0)), (2, .ref (am 0)), (3, .ref ao), (4, .ref aod), (5, .int (nI i))]) dL_law_1487 (by decide) rfl ?_
  refine x_aload_n X dL_law_1489 3 rfl ?_
  refine x_arg X hX hbl hbA hi hL (j := 1) (by decide) (by decide) 1 6 rfl rfl dL_law_1490 dL_law_1491 dL_law_1493 dL_law_1494 dL_law_1495 ?_
  refine x_callVs_d X E (As := [.int (xs (i + 1))]) (rest := []) (n := 1) (rm := rm_X4_averageDistance) (u := picM kA am v) (u2 := picM kA am v1) ((picC kA ad w1 ++ LWo kA ao o) ++ LWd kA aod od1) [] (lw_mid _ _ _ _) (goodV w_1099 w_1100 w_1101 w_52 w_1102) (fun sz => met_X4_averageDistance l E.2.2.2 D kA am fu v (xs (i + 1)) r7 v1 h2 sz) rfl rfl (by decide +kernel) ⟨by decide, by decide⟩ 0 rfl (qc := (RX4, TX4, _)) rfl rfl rfl rfl (Nat.le_of_ble_eq_true rfl) dL_law_1496 ⟨(show cells + 2 ≤ 601024 by omega), (show slots + 12 ≤ 7293034 by omega)⟩ (LW kA ad am ao aod w1 o od1 v1) (lw_mid _ _ _ _).symm ?_
  refine x_dstore X (lv2 := (7, .double r7) :: (6, .int c6) :: [(0, .ref b), (1, .ref (ad 0)), (2, .ref (am 0)), (3, .ref ao), (4, .ref aod), (5, .int (nI i))]) dL_law_1499 (by decide) rfl ?_
  refine x_aload_n X dL_law_1501 4 rfl ?_
  refine x_callVs_i X E (As := []) (rest := []) (n := 0) (rm := rm_X4_thrown) (u := picM kA am v1) (u2 := picM kA am v1) ((picC kA ad w1 ++ LWo kA ao o) ++ LWd kA aod od1) [] (lw_mid _ _ _ _) (goodV w_927 w_928 w_929 w_52 w_930) (fun sz => met_X4_thrown l E.2.2.2 D kA am fu v1 c6 h3 sz) rfl rfl (by decide +kernel) ⟨by decide, by decide⟩ 0 rfl (qc := (RX4, TX4, _)) rfl rfl rfl rfl (Nat.le_of_ble_eq_true rfl) dL_law_1502 ⟨(show cells + 2 ≤ 601024 by omega), (show slots + 12 ≤ 7293034 by omega)⟩ (LW kA ad am ao aod w1 o od1 v1) (lw_mid _ _ _ _).symm ?_
  refine x_iload X dL_law_1505 1 rfl ?_
  refine x_icmp_eq_t X (tgt := 1512) dL_law_1507 (by decide) rfl ?_
  refine x_iload X dL_law_1512 1 rfl ?_
  have hend : CS p l e room_1 s m args below meth c D A 9 (cells + 2) (slots + 12) Q (LW kA ad am ao aod w1 o od1 v1) 1549 ((7, .double r7) :: (6, .int c6) :: [(0, .ref b), (1, .ref (ad 0)), (2, .ref (am 0)), (3, .ref ao), (4, .ref aod), (5, .int (nI i))]) [] := x_goto X (tgt := 1905) dL_law_1549 (by decide) (x_lpick (lv2 := [(0, .ref b), (1, .ref (ad 0)), (2, .ref (am 0)), (3, .ref ao), (4, .ref aod), (5, .int (nI i))]) [2, 3, 4, 5, 6, 7] rfl (x_widen (show cells + 2 ≤ cells + 8 by omega) (show slots + 12 ≤ slots + 80 by omega) kk))
  by_cases hc6 : c6 = 0
  · have h4 := h4 hc6
    refine x_if_ne_f X (tgt := 1549) dL_law_1514 (by decide) hc6 ?_
    refine x_aload X dL_law_1517 6 rfl ?_
    refine x_iconst X (v := 0) dL_law_1519 (by decide) ?_
    refine x_dald X E.1.1 30 rfl (kf := some) dL_law_1520 (ck_t in01) (fun z hz => ?_)
    have hz : z = _ := (Option.some.inj hz).trans h4
    rw [hz]
    refine x_dload X dL_law_1521 0 rfl ?_
    refine x_dcmp X dL_law_1523 ?_
    by_cases hq : Op.cmpValue (FP.dcmp r7 r7) .l = 0
    · exact x_if_eq_t X (tgt := 1549) dL_law_1524 (by decide) hq hend
    · refine x_if_eq_f X (tgt := 1549) dL_law_1524 (by decide) hq ?_
      refine x_aload X dL_law_1527 6 rfl ?_
      refine x_iconst X (v := 0) dL_law_1529 (by decide) ?_
      refine x_dald X E.1.1 30 rfl (kf := some) dL_law_1530 (ck_t in01) (fun y0 hz0 => ?_)
      have hz0 : y0 = r7 := (Option.some.inj hz0).trans h4
      rw [hz0]
      refine x_aload X dL_law_1531 6 rfl ?_
      refine x_iconst X (v := 0) dL_law_1533 (by decide) ?_
      refine x_dald X E.1.1 30 rfl (kf := some) dL_law_1534 (ck_t in01) (fun y1 hz1 => ?_)
      have hz1 : y1 = r7 := (Option.some.inj hz1).trans h4
      rw [hz1]
      refine x_dcmp X dL_law_1535 ?_
      refine x_if_eq_f X (tgt := 1547) dL_law_1536 (by decide) hq ?_
      refine x_dload X dL_law_1539 0 rfl ?_
      refine x_dload X dL_law_1541 0 rfl ?_
      refine x_dcmp X dL_law_1543 ?_
      exact x_if_ne_t X (tgt := 1549) dL_law_1544 (by decide) hq hend
  · exact x_if_ne_t X (tgt := 1549) dL_law_1514 (by decide) hc6 hend
set_option maxRecDepth 100000 in
set_option maxHeartbeats 4000000 in
theorem arm_25 (X : CX p m c cL_law 9 s args RL) (E : EX l s D kA A) (hNC : NCs s) (hX : va_X b L xs s s.heap) (hbl : b < s.heap.size) (hbA : ¬ A b) (hi : i + 4 ≤ L) (hL : L ≤ 2048) (hcC : cells + 8 ≤ 601024) (hcS : slots + 80 ≤ 7293034) (fu : Nat) (w w1 v v1 : WS) (o o1 : Nat → Int64) (od : Nat → UInt64) (c6 : Int32) (r7 : Int32) (h1 : f_L_detour fu w o (xs (i + 1)) (xs (i + 2)) (xs (i + 3)) = some (c6, w1, o1)) (h2 : f_X4_detour fu v (xs (i + 1)) (xs (i + 2)) (xs (i + 3)) = some (r7, v1)) (h3 : f_X4_thrown fu v1 = some c6) (h4 : c6 = 0 → o1 0 = Int32.toInt64 r7) (kk : CS p l e room_1 s m args below meth c D A 9 (cells + 8) (slots + 80) Q (LW kA ad am ao aod w1 o1 od v1) 1905 [(0, .ref b), (1, .ref (ad 0)), (2, .ref (am 0)), (3, .ref ao), (4, .ref aod), (5, .int (nI i))] []) : CS p l e room_1 s m args below meth c D A 9 cells slots Q (LW kA ad am ao aod w o od v) 1552 [(0, .ref b), (1, .ref (ad 0)), (2, .ref (am 0)), (3, .ref ao), (4, .ref aod), (5, .int (nI i))] [] := by
  refine x_aload_n X dL_law_1552 1 rfl ?_
  refine x_arg X hX hbl hbA hi hL (j := 1) (by decide) (by decide) 0 5 rfl rfl dL_law_1553 dL_law_1554 dL_law_1556 dL_law_1557 dL_law_1558 ?_
  refine x_arg X hX hbl hbA hi hL (j := 2) (by decide) (by decide) 0 5 rfl rfl dL_law_1559 dL_law_1560 dL_law_1562 dL_law_1563 dL_law_1564 ?_
  refine x_arg X hX hbl hbA hi hL (j := 3) (by decide) (by decide) 0 5 rfl rfl dL_law_1565 dL_law_1566 dL_law_1568 dL_law_1569 dL_law_1570 ?_
  refine x_aload_n X dL_law_1571 3 rfl ?_
  refine x_callW X E hNC (As := [.ref (ad 0), .int (xs (i + 1)), .int (xs (i + 2)), .int (xs (i + 3)), .ref ao]) (rest := []) (n := 5) (mc := 5) (ms := 30) (rm := rm_L_detour) (u := picC kA ad w ++ LWo kA ao o) (u2 := picC kA ad w1 ++ LWo kA ao o1) (w3 := LWd kA aod od ++ picM kA am v) rfl (goodSW w_764 w_765 w_46 w_766) (fun sz => met_L_detour l E.2.2.2 D kA ad ao fu w o (xs (i + 1)) (xs (i + 2)) (xs (i + 3)) _ _ _ h1 sz) rfl rfl (by decide +kernel) ⟨by decide, by decide⟩ rfl rfl (Nat.le_of_ble_eq_true rfl) dL_law_1572 ⟨(show cells + 5 ≤ 601024 by omega), (show slots + 30 ≤ 7293034 by omega)⟩ (LW kA ad am ao aod w1 o1 od v) rfl ?_
  refine x_istore X (lv2 := (6, .int c6) :: [(0, .ref b), (1, .ref (ad 0)), (2, .ref (am 0)), (3, .ref ao), (4, .ref aod), (5, .int (nI i))]) dL_law_1575 (by decide) rfl ?_
  refine x_aload_n X dL_law_1577 3 rfl ?_
  refine x_arg X hX hbl hbA hi hL (j := 1) (by decide) (by decide) 1 6 rfl rfl dL_law_1578 dL_law_1579 dL_law_1581 dL_law_1582 dL_law_1583 ?_
  refine x_arg X hX hbl hbA hi hL (j := 2) (by decide) (by decide) 1 6 rfl rfl dL_law_1584 dL_law_1585 dL_law_1587 dL_law_1588 dL_law_1589 ?_
  refine x_arg X hX hbl hbA hi hL (j := 3) (by decide) (by decide) 1 6 rfl rfl dL_law_1590 dL_law_1591 dL_law_1593 dL_law_1594 dL_law_1595 ?_
  refine x_callVs_i X E (As := [.int (xs (i + 1)), .int (xs (i + 2)), .int (xs (i + 3))]) (rest := []) (n := 3) (rm := rm_X4_detour) (u := picM kA am v) (u2 := picM kA am v1) ((picC kA ad w1 ++ LWo kA ao o1) ++ LWd kA aod od) [] (lw_mid _ _ _ _) (goodV w_1103 w_1104 w_1105 w_52 w_1106) (fun sz => met_X4_detour l E.2.2.2 D kA am fu v (xs (i + 1)) (xs (i + 2)) (xs (i + 3)) r7 v1 h2 sz) rfl rfl (by decide +kernel) ⟨by decide, by decide⟩ 0 rfl (qc := (RX4, TX4, _)) rfl rfl rfl rfl (Nat.le_of_ble_eq_true rfl) dL_law_1596 ⟨(show cells + 5 ≤ 601024 by omega), (show slots + 30 ≤ 7293034 by omega)⟩ (LW kA ad am ao aod w1 o1 od v1) (lw_mid _ _ _ _).symm ?_
  refine x_istore X (lv2 := (7, .int r7) :: (6, .int c6) :: [(0, .ref b), (1, .ref (ad 0)), (2, .ref (am 0)), (3, .ref ao), (4, .ref aod), (5, .int (nI i))]) dL_law_1599 (by decide) rfl ?_
  refine x_aload_n X dL_law_1601 4 rfl ?_
  refine x_callVs_i X E (As := []) (rest := []) (n := 0) (rm := rm_X4_thrown) (u := picM kA am v1) (u2 := picM kA am v1) ((picC kA ad w1 ++ LWo kA ao o1) ++ LWd kA aod od) [] (lw_mid _ _ _ _) (goodV w_927 w_928 w_929 w_52 w_930) (fun sz => met_X4_thrown l E.2.2.2 D kA am fu v1 c6 h3 sz) rfl rfl (by decide +kernel) ⟨by decide, by decide⟩ 0 rfl (qc := (RX4, TX4, _)) rfl rfl rfl rfl (Nat.le_of_ble_eq_true rfl) dL_law_1602 ⟨(show cells + 5 ≤ 601024 by omega), (show slots + 30 ≤ 7293034 by omega)⟩ (LW kA ad am ao aod w1 o1 od v1) (lw_mid _ _ _ _).symm ?_
  refine x_iload X dL_law_1605 1 rfl ?_
  refine x_icmp_eq_t X (tgt := 1612) dL_law_1607 (by decide) rfl ?_
  refine x_iload X dL_law_1612 1 rfl ?_
  have hend : CS p l e room_1 s m args below meth c D A 9 (cells + 5) (slots + 30) Q (LW kA ad am ao aod w1 o1 od v1) 1629 ((7, .int r7) :: (6, .int c6) :: [(0, .ref b), (1, .ref (ad 0)), (2, .ref (am 0)), (3, .ref ao), (4, .ref aod), (5, .int (nI i))]) [] := x_goto X (tgt := 1905) dL_law_1629 (by decide) (x_lpick (lv2 := [(0, .ref b), (1, .ref (ad 0)), (2, .ref (am 0)), (3, .ref ao), (4, .ref aod), (5, .int (nI i))]) [2, 3, 4, 5, 6, 7] rfl (x_widen (show cells + 5 ≤ cells + 8 by omega) (show slots + 30 ≤ slots + 80 by omega) kk))
  by_cases hc6 : c6 = 0
  · have h4 := h4 hc6
    refine x_if_ne_f X (tgt := 1629) dL_law_1614 (by decide) hc6 ?_
    refine x_aload_n X dL_law_1617 5 rfl ?_
    refine x_iconst X (v := 0) dL_law_1618 (by decide) ?_
    refine x_lald X E.1.1 29 rfl (kf := some) dL_law_1619 (ck_t in01) (fun z hz => ?_)
    have hz : z = _ := (Option.some.inj hz).trans h4
    subst hz
    refine x_iload X dL_law_1620 0 rfl ?_
    refine x_i2l X dL_law_1622 ?_
    refine x_lcmp X dL_law_1623 ?_
    refine x_if_eq_t X (tgt := 1629) dL_law_1624 (by decide) (lcmp_self _) ?_
    exact hend
  · exact x_if_ne_t X (tgt := 1629) dL_law_1614 (by decide) hc6 hend
set_option maxRecDepth 100000 in
set_option maxHeartbeats 4000000 in
theorem arm_26 (X : CX p m c cL_law 9 s args RL) (E : EX l s D kA A) (hNC : NCs s) (hX : va_X b L xs s s.heap) (hbl : b < s.heap.size) (hbA : ¬ A b) (hi : i + 4 ≤ L) (hL : L ≤ 2048) (hcC : cells + 8 ≤ 601024) (hcS : slots + 80 ≤ 7293034) (fu : Nat) (w w1 v v1 : WS) (o o1 : Nat → Int64) (od : Nat → UInt64) (c6 : Int32) (r7 : Int32) (h1 : f_L_setPlace fu w o (xs (i + 1)) (xs (i + 2)) (if xs (i + 3) = 0 then 0 else 1) = some (c6, w1, o1)) (h2 : f_X4_setPlace fu v (xs (i + 1)) (xs (i + 2)) (if xs (i + 3) = 0 then 0 else 1) = some (r7, v1)) (h3 : f_X4_thrown fu v1 = some c6) (h4 : c6 = 0 → o1 0 = if r7 = 0 then 0 else 1) (kk : CS p l e room_1 s m args below meth c D A 9 (cells + 8) (slots + 80) Q (LW kA ad am ao aod w1 o1 od v1) 1905 [(0, .ref b), (1, .ref (ad 0)), (2, .ref (am 0)), (3, .ref ao), (4, .ref aod), (5, .int (nI i))] []) : CS p l e room_1 s m args below meth c D A 9 cells slots Q (LW kA ad am ao aod w o od v) 1632 [(0, .ref b), (1, .ref (ad 0)), (2, .ref (am 0)), (3, .ref ao), (4, .ref aod), (5, .int (nI i))] [] := by
  refine x_aload_n X dL_law_1632 1 rfl ?_
  refine x_arg X hX hbl hbA hi hL (j := 1) (by decide) (by decide) 0 5 rfl rfl dL_law_1633 dL_law_1634 dL_law_1636 dL_law_1637 dL_law_1638 ?_
  refine x_arg X hX hbl hbA hi hL (j := 2) (by decide) (by decide) 0 5 rfl rfl dL_law_1639 dL_law_1640 dL_law_1642 dL_law_1643 dL_law_1644 ?_
  refine x_arg X hX hbl hbA hi hL (j := 3) (by decide) (by decide) 0 5 rfl rfl dL_law_1645 dL_law_1646 dL_law_1648 dL_law_1649 dL_law_1650 ?_
  refine x_bool X dL_law_1651 dL_law_1654 dL_law_1655 dL_law_1658 ?_
  refine x_aload_n X dL_law_1659 3 rfl ?_
  refine x_callW X E hNC (As := [.ref (ad 0), .int (xs (i + 1)), .int (xs (i + 2)), .int (if xs (i + 3) = 0 then 0 else 1), .ref ao]) (rest := []) (n := 5) (mc := 2) (ms := 12) (rm := rm_L_setPlace) (u := picC kA ad w ++ LWo kA ao o) (u2 := picC kA ad w1 ++ LWo kA ao o1) (w3 := LWd kA aod od ++ picM kA am v) rfl (goodSW w_771 w_772 w_46 w_773) (fun sz => met_L_setPlace l E.2.2.2 D kA ad ao fu w o (xs (i + 1)) (xs (i + 2)) (if xs (i + 3) = 0 then 0 else 1) _ _ _ h1 sz) rfl rfl (by decide +kernel) ⟨by decide, by decide⟩ rfl rfl (Nat.le_of_ble_eq_true rfl) dL_law_1660 ⟨(show cells + 2 ≤ 601024 by omega), (show slots + 12 ≤ 7293034 by omega)⟩ (LW kA ad am ao aod w1 o1 od v) rfl ?_
  refine x_istore X (lv2 := (6, .int c6) :: [(0, .ref b), (1, .ref (ad 0)), (2, .ref (am 0)), (3, .ref ao), (4, .ref aod), (5, .int (nI i))]) dL_law_1663 (by decide) rfl ?_
  refine x_aload_n X dL_law_1665 3 rfl ?_
  refine x_arg X hX hbl hbA hi hL (j := 1) (by decide) (by decide) 1 6 rfl rfl dL_law_1666 dL_law_1667 dL_law_1669 dL_law_1670 dL_law_1671 ?_
  refine x_arg X hX hbl hbA hi hL (j := 2) (by decide) (by decide) 1 6 rfl rfl dL_law_1672 dL_law_1673 dL_law_1675 dL_law_1676 dL_law_1677 ?_
  refine x_arg X hX hbl hbA hi hL (j := 3) (by decide) (by decide) 1 6 rfl rfl dL_law_1678 dL_law_1679 dL_law_1681 dL_law_1682 dL_law_1683 ?_
  refine x_bool X dL_law_1684 dL_law_1687 dL_law_1688 dL_law_1691 ?_
  refine x_callVs_i X E (As := [.int (xs (i + 1)), .int (xs (i + 2)), .int (if xs (i + 3) = 0 then 0 else 1)]) (rest := []) (n := 3) (rm := rm_X4_setPlace) (u := picM kA am v) (u2 := picM kA am v1) ((picC kA ad w1 ++ LWo kA ao o1) ++ LWd kA aod od) [] (lw_mid _ _ _ _) (goodV w_1107 w_1108 w_1109 w_52 w_1110) (fun sz => met_X4_setPlace l E.2.2.2 D kA am fu v (xs (i + 1)) (xs (i + 2)) (if xs (i + 3) = 0 then 0 else 1) r7 v1 h2 sz) rfl rfl (by decide +kernel) ⟨by decide, by decide⟩ 0 rfl (qc := (RX4, TX4, _)) rfl rfl rfl rfl (Nat.le_of_ble_eq_true rfl) dL_law_1692 ⟨(show cells + 2 ≤ 601024 by omega), (show slots + 12 ≤ 7293034 by omega)⟩ (LW kA ad am ao aod w1 o1 od v1) (lw_mid _ _ _ _).symm ?_
  refine x_istore X (lv2 := (7, .int r7) :: (6, .int c6) :: [(0, .ref b), (1, .ref (ad 0)), (2, .ref (am 0)), (3, .ref ao), (4, .ref aod), (5, .int (nI i))]) dL_law_1695 (by decide) rfl ?_
  refine x_aload_n X dL_law_1697 4 rfl ?_
  refine x_callVs_i X E (As := []) (rest := []) (n := 0) (rm := rm_X4_thrown) (u := picM kA am v1) (u2 := picM kA am v1) ((picC kA ad w1 ++ LWo kA ao o1) ++ LWd kA aod od) [] (lw_mid _ _ _ _) (goodV w_927 w_928 w_929 w_52 w_930) (fun sz => met_X4_thrown l E.2.2.2 D kA am fu v1 c6 h3 sz) rfl rfl (by decide +kernel) ⟨by decide, by decide⟩ 0 rfl (qc := (RX4, TX4, _)) rfl rfl rfl rfl (Nat.le_of_ble_eq_true rfl) dL_law_1698 ⟨(show cells + 2 ≤ 601024 by omega), (show slots + 12 ≤ 7293034 by omega)⟩ (LW kA ad am ao aod w1 o1 od v1) (lw_mid _ _ _ _).symm ?_
  refine x_iload X dL_law_1701 1 rfl ?_
  refine x_icmp_eq_t X (tgt := 1708) dL_law_1703 (by decide) rfl ?_
  refine x_iload X dL_law_1708 1 rfl ?_
  have hend : CS p l e room_1 s m args below meth c D A 9 (cells + 2) (slots + 12) Q (LW kA ad am ao aod w1 o1 od v1) 1732 ((7, .int r7) :: (6, .int c6) :: [(0, .ref b), (1, .ref (ad 0)), (2, .ref (am 0)), (3, .ref ao), (4, .ref aod), (5, .int (nI i))]) [] := x_goto X (tgt := 1905) dL_law_1732 (by decide) (x_lpick (lv2 := [(0, .ref b), (1, .ref (ad 0)), (2, .ref (am 0)), (3, .ref ao), (4, .ref aod), (5, .int (nI i))]) [2, 3, 4, 5, 6, 7] rfl (x_widen (show cells + 2 ≤ cells + 8 by omega) (show slots + 12 ≤ slots + 80 by omega) kk))
  by_cases hc6 : c6 = 0
  · have h4 := h4 hc6
    refine x_if_ne_f X (tgt := 1732) dL_law_1710 (by decide) hc6 ?_
    refine x_aload_n X dL_law_1713 5 rfl ?_
    refine x_iconst X (v := 0) dL_law_1714 (by decide) ?_
    refine x_lald X E.1.1 29 rfl (kf := some) dL_law_1715 (ck_t in01) (fun z hz => ?_)
    have hz : z = _ := (Option.some.inj hz).trans h4
    subst hz
    refine x_iload X dL_law_1716 0 rfl ?_
    refine x_lbool X dL_law_1718 dL_law_1721 dL_law_1722 dL_law_1725 ?_
    refine x_lcmp X dL_law_1726 ?_
    refine x_if_eq_t X (tgt := 1732) dL_law_1727 (by decide) (lcmp_self _) ?_
    exact hend
  · exact x_if_ne_t X (tgt := 1732) dL_law_1710 (by decide) hc6 hend
set_option maxRecDepth 100000 in
set_option maxHeartbeats 4000000 in
theorem arm_27 (X : CX p m c cL_law 9 s args RL) (E : EX l s D kA A) (hNC : NCs s) (hX : va_X b L xs s s.heap) (hbl : b < s.heap.size) (hbA : ¬ A b) (hi : i + 4 ≤ L) (hL : L ≤ 2048) (hcC : cells + 8 ≤ 601024) (hcS : slots + 80 ≤ 7293034) (fu : Nat) (w w1 v v1 : WS) (o o1 : Nat → Int64) (od : Nat → UInt64) (c6 : Int32) (r7 : Int32) (h1 : f_L_nearest fu w o (xs (i + 1)) (xs (i + 2)) = some (c6, w1, o1)) (h2 : f_X4_nearest fu v (xs (i + 1)) (xs (i + 2)) = some (r7, v1)) (h3 : f_X4_thrown fu v1 = some c6) (h4 : c6 = 0 → o1 0 = Int32.toInt64 r7) (kk : CS p l e room_1 s m args below meth c D A 9 (cells + 8) (slots + 80) Q (LW kA ad am ao aod w1 o1 od v1) 1905 [(0, .ref b), (1, .ref (ad 0)), (2, .ref (am 0)), (3, .ref ao), (4, .ref aod), (5, .int (nI i))] []) : CS p l e room_1 s m args below meth c D A 9 cells slots Q (LW kA ad am ao aod w o od v) 1735 [(0, .ref b), (1, .ref (ad 0)), (2, .ref (am 0)), (3, .ref ao), (4, .ref aod), (5, .int (nI i))] [] := by
  refine x_aload_n X dL_law_1735 1 rfl ?_
  refine x_arg X hX hbl hbA hi hL (j := 1) (by decide) (by decide) 0 5 rfl rfl dL_law_1736 dL_law_1737 dL_law_1739 dL_law_1740 dL_law_1741 ?_
  refine x_arg X hX hbl hbA hi hL (j := 2) (by decide) (by decide) 0 5 rfl rfl dL_law_1742 dL_law_1743 dL_law_1745 dL_law_1746 dL_law_1747 ?_
  refine x_aload_n X dL_law_1748 3 rfl ?_
  refine x_callW X E hNC (As := [.ref (ad 0), .int (xs (i + 1)), .int (xs (i + 2)), .ref ao]) (rest := []) (n := 4) (mc := 4) (ms := 24) (rm := rm_L_nearest) (u := picC kA ad w ++ LWo kA ao o) (u2 := picC kA ad w1 ++ LWo kA ao o1) (w3 := LWd kA aod od ++ picM kA am v) rfl (goodSW w_786 w_787 w_46 w_788) (fun sz => met_L_nearest l E.2.2.2 D kA ad ao fu w o (xs (i + 1)) (xs (i + 2)) _ _ _ h1 sz) rfl rfl (by decide +kernel) ⟨by decide, by decide⟩ rfl rfl (Nat.le_of_ble_eq_true rfl) dL_law_1749 ⟨(show cells + 4 ≤ 601024 by omega), (show slots + 24 ≤ 7293034 by omega)⟩ (LW kA ad am ao aod w1 o1 od v) rfl ?_
  refine x_istore X (lv2 := (6, .int c6) :: [(0, .ref b), (1, .ref (ad 0)), (2, .ref (am 0)), (3, .ref ao), (4, .ref aod), (5, .int (nI i))]) dL_law_1752 (by decide) rfl ?_
  refine x_aload_n X dL_law_1754 3 rfl ?_
  refine x_arg X hX hbl hbA hi hL (j := 1) (by decide) (by decide) 1 6 rfl rfl dL_law_1755 dL_law_1756 dL_law_1758 dL_law_1759 dL_law_1760 ?_
  refine x_arg X hX hbl hbA hi hL (j := 2) (by decide) (by decide) 1 6 rfl rfl dL_law_1761 dL_law_1762 dL_law_1764 dL_law_1765 dL_law_1766 ?_
  refine x_callVs_i X E (As := [.int (xs (i + 1)), .int (xs (i + 2))]) (rest := []) (n := 2) (rm := rm_X4_nearest) (u := picM kA am v) (u2 := picM kA am v1) ((picC kA ad w1 ++ LWo kA ao o1) ++ LWd kA aod od) [] (lw_mid _ _ _ _) (goodV w_1111 w_1112 w_1113 w_52 w_1114) (fun sz => met_X4_nearest l E.2.2.2 D kA am fu v (xs (i + 1)) (xs (i + 2)) r7 v1 h2 sz) rfl rfl (by decide +kernel) ⟨by decide, by decide⟩ 0 rfl (qc := (RX4, TX4, _)) rfl rfl rfl rfl (Nat.le_of_ble_eq_true rfl) dL_law_1767 ⟨(show cells + 4 ≤ 601024 by omega), (show slots + 24 ≤ 7293034 by omega)⟩ (LW kA ad am ao aod w1 o1 od v1) (lw_mid _ _ _ _).symm ?_
  refine x_istore X (lv2 := (7, .int r7) :: (6, .int c6) :: [(0, .ref b), (1, .ref (ad 0)), (2, .ref (am 0)), (3, .ref ao), (4, .ref aod), (5, .int (nI i))]) dL_law_1770 (by decide) rfl ?_
  refine x_aload_n X dL_law_1772 4 rfl ?_
  refine x_callVs_i X E (As := []) (rest := []) (n := 0) (rm := rm_X4_thrown) (u := picM kA am v1) (u2 := picM kA am v1) ((picC kA ad w1 ++ LWo kA ao o1) ++ LWd kA aod od) [] (lw_mid _ _ _ _) (goodV w_927 w_928 w_929 w_52 w_930) (fun sz => met_X4_thrown l E.2.2.2 D kA am fu v1 c6 h3 sz) rfl rfl (by decide +kernel) ⟨by decide, by decide⟩ 0 rfl (qc := (RX4, TX4, _)) rfl rfl rfl rfl (Nat.le_of_ble_eq_true rfl) dL_law_1773 ⟨(show cells + 4 ≤ 601024 by omega), (show slots + 24 ≤ 7293034 by omega)⟩ (LW kA ad am ao aod w1 o1 od v1) (lw_mid _ _ _ _).symm ?_
  refine x_iload X dL_law_1776 1 rfl ?_
  refine x_icmp_eq_t X (tgt := 1783) dL_law_1778 (by decide) rfl ?_
  refine x_iload X dL_law_1783 1 rfl ?_
  have hend : CS p l e room_1 s m args below meth c D A 9 (cells + 4) (slots + 24) Q (LW kA ad am ao aod w1 o1 od v1) 1800 ((7, .int r7) :: (6, .int c6) :: [(0, .ref b), (1, .ref (ad 0)), (2, .ref (am 0)), (3, .ref ao), (4, .ref aod), (5, .int (nI i))]) [] := x_goto X (tgt := 1905) dL_law_1800 (by decide) (x_lpick (lv2 := [(0, .ref b), (1, .ref (ad 0)), (2, .ref (am 0)), (3, .ref ao), (4, .ref aod), (5, .int (nI i))]) [2, 3, 4, 5, 6, 7] rfl (x_widen (show cells + 4 ≤ cells + 8 by omega) (show slots + 24 ≤ slots + 80 by omega) kk))
  by_cases hc6 : c6 = 0
  · have h4 := h4 hc6
    refine x_if_ne_f X (tgt := 1800) dL_law_1785 (by decide) hc6 ?_
    refine x_aload_n X dL_law_1788 5 rfl ?_
    refine x_iconst X (v := 0) dL_law_1789 (by decide) ?_
    refine x_lald X E.1.1 29 rfl (kf := some) dL_law_1790 (ck_t in01) (fun z hz => ?_)
    have hz : z = _ := (Option.some.inj hz).trans h4
    subst hz
    refine x_iload X dL_law_1791 0 rfl ?_
    refine x_i2l X dL_law_1793 ?_
    refine x_lcmp X dL_law_1794 ?_
    refine x_if_eq_t X (tgt := 1800) dL_law_1795 (by decide) (lcmp_self _) ?_
    exact hend
  · exact x_if_ne_t X (tgt := 1800) dL_law_1785 (by decide) hc6 hend
set_option maxRecDepth 100000 in
set_option maxHeartbeats 4000000 in
theorem arm_28 (X : CX p m c cL_law 9 s args RL) (E : EX l s D kA A) (hNC : NCs s) (hX : va_X b L xs s s.heap) (hbl : b < s.heap.size) (hbA : ¬ A b) (hi : i + 4 ≤ L) (hL : L ≤ 2048) (hcC : cells + 8 ≤ 601024) (hcS : slots + 80 ≤ 7293034) (fu : Nat) (w w1 v v1 : WS) (o o1 : Nat → Int64) (od : Nat → UInt64) (c6 : Int32) (r7 : Int32) (h1 : f_L_push fu w o = some (c6, w1, o1)) (h2 : f_X4_push fu v = some (r7, v1)) (h3 : f_X4_thrown fu v1 = some c6) (h4 : c6 = 0 → o1 0 = Int32.toInt64 r7) (kk : CS p l e room_1 s m args below meth c D A 9 (cells + 8) (slots + 80) Q (LW kA ad am ao aod w1 o1 od v1) 1905 [(0, .ref b), (1, .ref (ad 0)), (2, .ref (am 0)), (3, .ref ao), (4, .ref aod), (5, .int (nI i))] []) : CS p l e room_1 s m args below meth c D A 9 cells slots Q (LW kA ad am ao aod w o od v) 1803 [(0, .ref b), (1, .ref (ad 0)), (2, .ref (am 0)), (3, .ref ao), (4, .ref aod), (5, .int (nI i))] [] := by
  refine x_aload_n X dL_law_1803 1 rfl ?_
  refine x_aload_n X dL_law_1804 3 rfl ?_
  refine x_callW X E hNC (As := [.ref (ad 0), .ref ao]) (rest := []) (n := 2) (mc := 1) (ms := 6) (rm := rm_L_push) (u := picC kA ad w ++ LWo kA ao o) (u2 := picC kA ad w1 ++ LWo kA ao o1) (w3 := LWd kA aod od ++ picM kA am v) rfl (goodSW w_794 w_795 w_46 w_796) (fun sz => met_L_push l E.2.2.2 D kA ad ao fu w o _ _ _ h1 sz) rfl rfl (by decide +kernel) ⟨by decide, by decide⟩ rfl rfl (Nat.le_of_ble_eq_true rfl) dL_law_1805 ⟨(show cells + 1 ≤ 601024 by omega), (show slots + 6 ≤ 7293034 by omega)⟩ (LW kA ad am ao aod w1 o1 od v) rfl ?_
  refine x_istore X (lv2 := (6, .int c6) :: [(0, .ref b), (1, .ref (ad 0)), (2, .ref (am 0)), (3, .ref ao), (4, .ref aod), (5, .int (nI i))]) dL_law_1808 (by decide) rfl ?_
  refine x_aload_n X dL_law_1810 3 rfl ?_
  refine x_callVs_i X E (As := []) (rest := []) (n := 0) (rm := rm_X4_push) (u := picM kA am v) (u2 := picM kA am v1) ((picC kA ad w1 ++ LWo kA ao o1) ++ LWd kA aod od) [] (lw_mid _ _ _ _) (goodV w_1115 w_1116 w_1117 w_52 w_1118) (fun sz => met_X4_push l E.2.2.2 D kA am fu v r7 v1 h2 sz) rfl rfl (by decide +kernel) ⟨by decide, by decide⟩ 0 rfl (qc := (RX4, TX4, _)) rfl rfl rfl rfl (Nat.le_of_ble_eq_true rfl) dL_law_1811 ⟨(show cells + 1 ≤ 601024 by omega), (show slots + 6 ≤ 7293034 by omega)⟩ (LW kA ad am ao aod w1 o1 od v1) (lw_mid _ _ _ _).symm ?_
  refine x_istore X (lv2 := (7, .int r7) :: (6, .int c6) :: [(0, .ref b), (1, .ref (ad 0)), (2, .ref (am 0)), (3, .ref ao), (4, .ref aod), (5, .int (nI i))]) dL_law_1814 (by decide) rfl ?_
  refine x_aload_n X dL_law_1816 4 rfl ?_
  refine x_callVs_i X E (As := []) (rest := []) (n := 0) (rm := rm_X4_thrown) (u := picM kA am v1) (u2 := picM kA am v1) ((picC kA ad w1 ++ LWo kA ao o1) ++ LWd kA aod od) [] (lw_mid _ _ _ _) (goodV w_927 w_928 w_929 w_52 w_930) (fun sz => met_X4_thrown l E.2.2.2 D kA am fu v1 c6 h3 sz) rfl rfl (by decide +kernel) ⟨by decide, by decide⟩ 0 rfl (qc := (RX4, TX4, _)) rfl rfl rfl rfl (Nat.le_of_ble_eq_true rfl) dL_law_1817 ⟨(show cells + 1 ≤ 601024 by omega), (show slots + 6 ≤ 7293034 by omega)⟩ (LW kA ad am ao aod w1 o1 od v1) (lw_mid _ _ _ _).symm ?_
  refine x_iload X dL_law_1820 1 rfl ?_
  refine x_icmp_eq_t X (tgt := 1827) dL_law_1822 (by decide) rfl ?_
  refine x_iload X dL_law_1827 1 rfl ?_
  have hend : CS p l e room_1 s m args below meth c D A 9 (cells + 1) (slots + 6) Q (LW kA ad am ao aod w1 o1 od v1) 1844 ((7, .int r7) :: (6, .int c6) :: [(0, .ref b), (1, .ref (ad 0)), (2, .ref (am 0)), (3, .ref ao), (4, .ref aod), (5, .int (nI i))]) [] := x_goto X (tgt := 1905) dL_law_1844 (by decide) (x_lpick (lv2 := [(0, .ref b), (1, .ref (ad 0)), (2, .ref (am 0)), (3, .ref ao), (4, .ref aod), (5, .int (nI i))]) [2, 3, 4, 5, 6, 7] rfl (x_widen (show cells + 1 ≤ cells + 8 by omega) (show slots + 6 ≤ slots + 80 by omega) kk))
  by_cases hc6 : c6 = 0
  · have h4 := h4 hc6
    refine x_if_ne_f X (tgt := 1844) dL_law_1829 (by decide) hc6 ?_
    refine x_aload_n X dL_law_1832 5 rfl ?_
    refine x_iconst X (v := 0) dL_law_1833 (by decide) ?_
    refine x_lald X E.1.1 29 rfl (kf := some) dL_law_1834 (ck_t in01) (fun z hz => ?_)
    have hz : z = _ := (Option.some.inj hz).trans h4
    subst hz
    refine x_iload X dL_law_1835 0 rfl ?_
    refine x_i2l X dL_law_1837 ?_
    refine x_lcmp X dL_law_1838 ?_
    refine x_if_eq_t X (tgt := 1844) dL_law_1839 (by decide) (lcmp_self _) ?_
    exact hend
  · exact x_if_ne_t X (tgt := 1844) dL_law_1829 (by decide) hc6 hend
set_option maxRecDepth 100000 in
set_option maxHeartbeats 4000000 in
theorem arm_29 (X : CX p m c cL_law 9 s args RL) (E : EX l s D kA A) (hNC : NCs s) (hX : va_X b L xs s s.heap) (hbl : b < s.heap.size) (hbA : ¬ A b) (hi : i + 4 ≤ L) (hL : L ≤ 2048) (hcC : cells + 8 ≤ 601024) (hcS : slots + 80 ≤ 7293034) (fu : Nat) (w w1 v v1 : WS) (o o1 : Nat → Int64) (od : Nat → UInt64) (c6 : Int32) (r7 : Int32) (h1 : f_L_pop fu w o = some (c6, w1, o1)) (h2 : f_X4_pop fu v = some (r7, v1)) (h3 : f_X4_thrown fu v1 = some c6) (h4 : c6 = 0 → o1 0 = Int32.toInt64 r7) (kk : CS p l e room_1 s m args below meth c D A 9 (cells + 8) (slots + 80) Q (LW kA ad am ao aod w1 o1 od v1) 1905 [(0, .ref b), (1, .ref (ad 0)), (2, .ref (am 0)), (3, .ref ao), (4, .ref aod), (5, .int (nI i))] []) : CS p l e room_1 s m args below meth c D A 9 cells slots Q (LW kA ad am ao aod w o od v) 1847 [(0, .ref b), (1, .ref (ad 0)), (2, .ref (am 0)), (3, .ref ao), (4, .ref aod), (5, .int (nI i))] [] := by
  refine x_aload_n X dL_law_1847 1 rfl ?_
  refine x_aload_n X dL_law_1848 3 rfl ?_
  refine x_callW X E hNC (As := [.ref (ad 0), .ref ao]) (rest := []) (n := 2) (mc := 1) (ms := 6) (rm := rm_L_pop) (u := picC kA ad w ++ LWo kA ao o) (u2 := picC kA ad w1 ++ LWo kA ao o1) (w3 := LWd kA aod od ++ picM kA am v) rfl (goodSW w_809 w_810 w_46 w_811) (fun sz => met_L_pop l E.2.2.2 D kA ad ao fu w o _ _ _ h1 sz) rfl rfl (by decide +kernel) ⟨by decide, by decide⟩ rfl rfl (Nat.le_of_ble_eq_true rfl) dL_law_1849 ⟨(show cells + 1 ≤ 601024 by omega), (show slots + 6 ≤ 7293034 by omega)⟩ (LW kA ad am ao aod w1 o1 od v) rfl ?_
  refine x_istore X (lv2 := (6, .int c6) :: [(0, .ref b), (1, .ref (ad 0)), (2, .ref (am 0)), (3, .ref ao), (4, .ref aod), (5, .int (nI i))]) dL_law_1852 (by decide) rfl ?_
  refine x_aload_n X dL_law_1854 3 rfl ?_
  refine x_callVs_i X E (As := []) (rest := []) (n := 0) (rm := rm_X4_pop) (u := picM kA am v) (u2 := picM kA am v1) ((picC kA ad w1 ++ LWo kA ao o1) ++ LWd kA aod od) [] (lw_mid _ _ _ _) (goodV w_1119 w_1120 w_1121 w_52 w_1122) (fun sz => met_X4_pop l E.2.2.2 D kA am fu v r7 v1 h2 sz) rfl rfl (by decide +kernel) ⟨by decide, by decide⟩ 0 rfl (qc := (RX4, TX4, _)) rfl rfl rfl rfl (Nat.le_of_ble_eq_true rfl) dL_law_1855 ⟨(show cells + 1 ≤ 601024 by omega), (show slots + 6 ≤ 7293034 by omega)⟩ (LW kA ad am ao aod w1 o1 od v1) (lw_mid _ _ _ _).symm ?_
  refine x_istore X (lv2 := (7, .int r7) :: (6, .int c6) :: [(0, .ref b), (1, .ref (ad 0)), (2, .ref (am 0)), (3, .ref ao), (4, .ref aod), (5, .int (nI i))]) dL_law_1858 (by decide) rfl ?_
  refine x_aload_n X dL_law_1860 4 rfl ?_
  refine x_callVs_i X E (As := []) (rest := []) (n := 0) (rm := rm_X4_thrown) (u := picM kA am v1) (u2 := picM kA am v1) ((picC kA ad w1 ++ LWo kA ao o1) ++ LWd kA aod od) [] (lw_mid _ _ _ _) (goodV w_927 w_928 w_929 w_52 w_930) (fun sz => met_X4_thrown l E.2.2.2 D kA am fu v1 c6 h3 sz) rfl rfl (by decide +kernel) ⟨by decide, by decide⟩ 0 rfl (qc := (RX4, TX4, _)) rfl rfl rfl rfl (Nat.le_of_ble_eq_true rfl) dL_law_1861 ⟨(show cells + 1 ≤ 601024 by omega), (show slots + 6 ≤ 7293034 by omega)⟩ (LW kA ad am ao aod w1 o1 od v1) (lw_mid _ _ _ _).symm ?_
  refine x_iload X dL_law_1864 1 rfl ?_
  refine x_icmp_eq_t X (tgt := 1871) dL_law_1866 (by decide) rfl ?_
  refine x_iload X dL_law_1871 1 rfl ?_
  have hend : CS p l e room_1 s m args below meth c D A 9 (cells + 1) (slots + 6) Q (LW kA ad am ao aod w1 o1 od v1) 1888 ((7, .int r7) :: (6, .int c6) :: [(0, .ref b), (1, .ref (ad 0)), (2, .ref (am 0)), (3, .ref ao), (4, .ref aod), (5, .int (nI i))]) [] := x_goto X (tgt := 1905) dL_law_1888 (by decide) (x_lpick (lv2 := [(0, .ref b), (1, .ref (ad 0)), (2, .ref (am 0)), (3, .ref ao), (4, .ref aod), (5, .int (nI i))]) [2, 3, 4, 5, 6, 7] rfl (x_widen (show cells + 1 ≤ cells + 8 by omega) (show slots + 6 ≤ slots + 80 by omega) kk))
  by_cases hc6 : c6 = 0
  · have h4 := h4 hc6
    refine x_if_ne_f X (tgt := 1888) dL_law_1873 (by decide) hc6 ?_
    refine x_aload_n X dL_law_1876 5 rfl ?_
    refine x_iconst X (v := 0) dL_law_1877 (by decide) ?_
    refine x_lald X E.1.1 29 rfl (kf := some) dL_law_1878 (ck_t in01) (fun z hz => ?_)
    have hz : z = _ := (Option.some.inj hz).trans h4
    subst hz
    refine x_iload X dL_law_1879 0 rfl ?_
    refine x_i2l X dL_law_1881 ?_
    refine x_lcmp X dL_law_1882 ?_
    refine x_if_eq_t X (tgt := 1888) dL_law_1883 (by decide) (lcmp_self _) ?_
    exact hend
  · exact x_if_ne_t X (tgt := 1888) dL_law_1873 (by decide) hc6 hend
set_option maxRecDepth 100000 in
set_option maxHeartbeats 4000000 in
theorem arm_30 (X : CX p m c cL_law 9 s args RL) (E : EX l s D kA A) (hNC : NCs s) (hX : va_X b L xs s s.heap) (hbl : b < s.heap.size) (hbA : ¬ A b) (hi : i + 4 ≤ L) (hL : L ≤ 2048) (hcC : cells + 8 ≤ 601024) (hcS : slots + 80 ≤ 7293034) (fu : Nat) (w v v1 : WS) (o : Nat → Int64) (od : Nat → UInt64) (r : Int64) (h1 : f_X3_digest fu w = some r) (h2 : f_X4_digest fu v = some (r, v1)) (kk : CS p l e room_1 s m args below meth c D A 9 (cells + 8) (slots + 80) Q (LW kA ad am ao aod w o od v1) 1905 [(0, .ref b), (1, .ref (ad 0)), (2, .ref (am 0)), (3, .ref ao), (4, .ref aod), (5, .int (nI i))] []) : CS p l e room_1 s m args below meth c D A 9 cells slots Q (LW kA ad am ao aod w o od v) 1891 [(0, .ref b), (1, .ref (ad 0)), (2, .ref (am 0)), (3, .ref ao), (4, .ref aod), (5, .int (nI i))] [] := by
  refine x_aload_n X dL_law_1891 1 rfl ?_
  refine x_callVs_l X E (As := []) (rest := []) (n := 0) (rm := rm_X3_digest) (u := picC kA ad w) (u2 := picC kA ad w) [] (LWo kA ao o ++ (LWd kA aod od ++ picM kA am v)) (lw_fst _ _ _ _) (goodV w_267 w_268 w_269 w_47 w_270) (fun sz => met_X3_digest l E.2.2.2 D kA ad fu w r h1 sz) rfl rfl (by decide +kernel) ⟨by decide, by decide⟩ 0 rfl (qc := (RX3, TX3, _)) rfl rfl rfl rfl (Nat.le_of_ble_eq_true rfl) dL_law_1892 ⟨(show cells ≤ 601024 by omega), (show slots ≤ 7293034 by omega)⟩ (LW kA ad am ao aod w o od v) (lw_fst _ _ _ _).symm ?_
  refine x_aload_n X dL_law_1895 2 rfl ?_
  refine x_callVs_l X E (As := []) (rest := [.long r]) (n := 0) (rm := rm_X4_digest) (u := picM kA am v) (u2 := picM kA am v1) ((picC kA ad w ++ LWo kA ao o) ++ LWd kA aod od) [] (lw_mid _ _ _ _) (goodV w_1123 w_1124 w_1125 w_52 w_1126) (fun sz => met_X4_digest l E.2.2.2 D kA am fu v r v1 h2 sz) rfl rfl (by decide +kernel) ⟨by decide, by decide⟩ 0 rfl (qc := (RX4, TX4, _)) rfl rfl rfl rfl (Nat.le_of_ble_eq_true rfl) dL_law_1896 ⟨(show cells ≤ 601024 by omega), (show slots ≤ 7293034 by omega)⟩ (LW kA ad am ao aod w o od v1) (lw_mid _ _ _ _).symm ?_
  refine x_lcmp X dL_law_1899 ?_
  refine x_if_eq_t X (tgt := 1905) dL_law_1900 (by decide) (lcmp_self _) ?_
  exact x_widen (by omega) (by omega) kk
end LA
