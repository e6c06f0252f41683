def LStep (fu k : Nat) (x1 x2 x3 : Int32) (w v : WS) (o : Nat → Int64) (od : Nat → UInt64) (w1 v1 : WS) (o1 : Nat → Int64) (od1 : Nat → UInt64) : Prop := match k with
  | 0 => ∃ (c6 : Int32) (r7 : Int32), f_L_addJunction fu w o = some (c6, w1, o1) ∧ f_X4_addJunction fu v = some (r7, v1) ∧ f_X4_thrown fu v1 = some c6 ∧ (c6 = 0 → o1 0 = Int32.toInt64 r7) ∧ od1 = od
  | 1 => ∃ (c6 : Int32) (r7 : Int32), f_L_addRoad fu w o x1 x2 x3 = some (c6, w1, o1) ∧ f_X4_addRoad fu v x1 x2 x3 = some (r7, v1) ∧ f_X4_thrown fu v1 = some c6 ∧ (c6 = 0 → o1 0 = Int32.toInt64 r7) ∧ od1 = od
  | 2 => ∃ (c6 : Int32) (r7 : Int32), f_L_setWeight fu w o x1 x2 = some (c6, w1, o1) ∧ f_X4_setWeight fu v x1 x2 = some (r7, v1) ∧ f_X4_thrown fu v1 = some c6 ∧ (c6 = 0 → o1 0 = Int32.toInt64 r7) ∧ od1 = od
  | 3 => ∃ (c6 : Int32) (r7 : Int32), f_L_setOpen fu w o x1 (if x2 = 0 then 0 else 1) = some (c6, w1, o1) ∧ f_X4_setOpen fu v x1 (if x2 = 0 then 0 else 1) = some (r7, v1) ∧ f_X4_thrown fu v1 = some c6 ∧ (c6 = 0 → o1 0 = Int32.toInt64 r7) ∧ od1 = od
  | 4 => ∃ (c6 : Int32) (r7 : Int32), f_L_setTurn fu w o x1 x2 x3 = some (c6, w1, o1) ∧ f_X4_setTurn fu v x1 x2 x3 = some (r7, v1) ∧ f_X4_thrown fu v1 = some c6 ∧ (c6 = 0 → o1 0 = Int32.toInt64 r7) ∧ od1 = od
  | 5 => ∃ (c6 : Int32) (r7 : Int32), f_L_setUTurn fu w o x1 = some (c6, w1, o1) ∧ f_X4_setUTurn fu v x1 = some (r7, v1) ∧ f_X4_thrown fu v1 = some c6 ∧ (c6 = 0 → o1 0 = Int32.toInt64 r7) ∧ od1 = od
  | 6 => ∃ r : Int32, f_X3_junctionCount fu w = some r ∧ f_X4_junctionCount fu v = some (r, v1) ∧ w1 = w ∧ o1 = o ∧ od1 = od
  | 7 => ∃ r : Int32, f_X3_roadCount fu w = some r ∧ f_X4_roadCount fu v = some (r, v1) ∧ w1 = w ∧ o1 = o ∧ od1 = od
  | 8 => ∃ (c6 : Int32) (r7 : Int32), f_L_weight fu w o x1 = some (c6, w1, o1) ∧ f_X4_weight fu v x1 = some (r7, v1) ∧ f_X4_thrown fu v1 = some c6 ∧ (c6 = 0 → o1 0 = Int32.toInt64 r7) ∧ od1 = od
  | 9 => ∃ (c6 : Int32) (r7 : Int32), f_L_isOpen fu w o x1 = some (c6, w1, o1) ∧ f_X4_isOpen fu v x1 = some (r7, v1) ∧ f_X4_thrown fu v1 = some c6 ∧ (c6 = 0 → o1 0 = if r7 = 0 then 0 else 1) ∧ od1 = od
  | 10 => ∃ (c6 : Int32) (r7 : Int32), f_L_turnPenalty fu w o x1 x2 = some (c6, w1, o1) ∧ f_X4_turnPenalty fu v x1 x2 = some (r7, v1) ∧ f_X4_thrown fu v1 = some c6 ∧ (c6 = 0 → o1 0 = Int32.toInt64 r7) ∧ od1 = od
  | 11 => ∃ (c6 : Int32) (r7 : Int32), f_L_prepare fu w o = some (c6, w1, o1) ∧ f_X4_prepare fu v = some (r7, v1) ∧ f_X4_thrown fu v1 = some c6 ∧ (c6 = 0 → o1 0 = Int32.toInt64 r7) ∧ od1 = od
  | 12 => ∃ r : Int32, f_X3_isPrepared fu w = some r ∧ f_X4_isPrepared fu v = some (r, v1) ∧ w1 = w ∧ o1 = o ∧ od1 = od
  | 13 => ∃ (c6 : Int32) (r7 : Int32), f_L_position fu w o x1 = some (c6, w1, o1) ∧ f_X4_position fu v x1 = some (r7, v1) ∧ f_X4_thrown fu v1 = some c6 ∧ (c6 = 0 → o1 0 = Int32.toInt64 r7) ∧ od1 = od
  | 14 => ∃ r : Int32, f_X3_arcCount fu w = some r ∧ f_X4_arcCount fu v = some (r, v1) ∧ w1 = w ∧ o1 = o ∧ od1 = od
  | 15 => ∃ (c6 : Int32) (r7 : Int32), f_L_hasArc fu w o x1 x2 = some (c6, w1, o1) ∧ f_X4_hasArc fu v x1 x2 = some (r7, v1) ∧ f_X4_thrown fu v1 = some c6 ∧ (c6 = 0 → o1 0 = if r7 = 0 then 0 else 1) ∧ od1 = od
  | 16 => ∃ (c6 : Int32) (r7 : Int32), f_L_arcCost fu w o x1 x2 = some (c6, w1, o1) ∧ f_X4_arcCost fu v x1 x2 = some (r7, v1) ∧ f_X4_thrown fu v1 = some c6 ∧ (c6 = 0 → o1 0 = Int32.toInt64 r7) ∧ od1 = od
  | 17 => ∃ (c6 : Int32) (r7 : Int32), f_L_distance fu w o x1 x2 = some (c6, w1, o1) ∧ f_X4_distance fu v x1 x2 = some (r7, v1) ∧ f_X4_thrown fu v1 = some c6 ∧ (c6 = 0 → o1 0 = Int32.toInt64 r7) ∧ od1 = od
  | 18 => ∃ (c6 : Int32) (r7 : Int32), f_L_distanceBehind fu w o x1 x2 = some (c6, w1, o1) ∧ f_X4_distanceBehind fu v x1 x2 = some (r7, v1) ∧ f_X4_thrown fu v1 = some c6 ∧ (c6 = 0 → o1 0 = Int32.toInt64 r7) ∧ od1 = od
  | 19 => ∃ (c6 : Int32) (r7 : Int32), f_L_route fu w o x1 x2 = some (c6, w1, o1) ∧ f_X4_route fu v x1 x2 = some (r7, v1) ∧ f_X4_thrown fu v1 = some c6 ∧ (c6 = 0 → o1 0 = Int32.toInt64 r7) ∧ od1 = od
  | 20 => ∃ (c6 : Int32) (r7 : Int32), f_L_routeRoad fu w o x1 = some (c6, w1, o1) ∧ f_X4_routeRoad fu v x1 = some (r7, v1) ∧ f_X4_thrown fu v1 = some c6 ∧ (c6 = 0 → o1 0 = Int32.toInt64 r7) ∧ od1 = od
  | 21 => ∃ r : Int32, f_X3_routeCost fu w = some r ∧ f_X4_routeCost fu v = some (r, v1) ∧ w1 = w ∧ o1 = o ∧ od1 = od
  | 22 => ∃ (c6 : Int32) (r7 : Int32), f_L_reach fu w o x1 x2 = some (c6, w1, o1) ∧ f_X4_reach fu v x1 x2 = some (r7, v1) ∧ f_X4_thrown fu v1 = some c6 ∧ (c6 = 0 → o1 0 = Int32.toInt64 r7) ∧ od1 = od
  | 23 => ∃ (c6 : Int32) (r7 : Int32), f_L_reached fu w o x1 = some (c6, w1, o1) ∧ f_X4_reached fu v x1 = some (r7, v1) ∧ f_X4_thrown fu v1 = some c6 ∧ (c6 = 0 → o1 0 = Int32.toInt64 r7) ∧ od1 = od
  | 24 => ∃ (c6 : Int32) (r7 : UInt64), f_L_averageDistance fu w od x1 = some (c6, w1, od1) ∧ f_X4_averageDistance fu v x1 = some (r7, v1) ∧ f_X4_thrown fu v1 = some c6 ∧ (c6 = 0 → od1 0 = r7) ∧ o1 = o
  | 25 => ∃ (c6 : Int32) (r7 : Int32), f_L_detour fu w o x1 x2 x3 = some (c6, w1, o1) ∧ f_X4_detour fu v x1 x2 x3 = some (r7, v1) ∧ f_X4_thrown fu v1 = some c6 ∧ (c6 = 0 → o1 0 = Int32.toInt64 r7) ∧ od1 = od
  | 26 => ∃ (c6 : Int32) (r7 : Int32), f_L_setPlace fu w o x1 x2 (if x3 = 0 then 0 else 1) = some (c6, w1, o1) ∧ f_X4_setPlace fu v x1 x2 (if x3 = 0 then 0 else 1) = some (r7, v1) ∧ f_X4_thrown fu v1 = some c6 ∧ (c6 = 0 → o1 0 = if r7 = 0 then 0 else 1) ∧ od1 = od
  | 27 => ∃ (c6 : Int32) (r7 : Int32), f_L_nearest fu w o x1 x2 = some (c6, w1, o1) ∧ f_X4_nearest fu v x1 x2 = some (r7, v1) ∧ f_X4_thrown fu v1 = some c6 ∧ (c6 = 0 → o1 0 = Int32.toInt64 r7) ∧ od1 = od
  | 28 => ∃ (c6 : Int32) (r7 : Int32), f_L_push fu w o = some (c6, w1, o1) ∧ f_X4_push fu v = some (r7, v1) ∧ f_X4_thrown fu v1 = some c6 ∧ (c6 = 0 → o1 0 = Int32.toInt64 r7) ∧ od1 = od
  | 29 => ∃ (c6 : Int32) (r7 : Int32), f_L_pop fu w o = some (c6, w1, o1) ∧ f_X4_pop fu v = some (r7, v1) ∧ f_X4_thrown fu v1 = some c6 ∧ (c6 = 0 → o1 0 = Int32.toInt64 r7) ∧ od1 = od
  | 30 => ∃ r : Int64, f_X3_digest fu w = some r ∧ f_X4_digest fu v = some (r, v1) ∧ w1 = w ∧ o1 = o ∧ od1 = od
  | _ => w1 = w ∧ v1 = v ∧ o1 = o ∧ od1 = od

section LA
variable {p : Program} {l : Launch} {e : Env} {s : State} {m : MethodId} {args : Array Value} {below : List Frame} {meth : Method} {c : Code} {D : va_G} {kA : Nat → ClassId} {A : Nat → Prop} {cells slots : Nat} {Q : State → Prop} {ws : va_W} {pc : Nat} {st : List Value} {ad am : Nat → Nat} {b ao aod L i : Nat} {xs : Nat → Int32} {lv : List (Nat × Value)}
set_option maxRecDepth 100000 in
set_option maxHeartbeats 4000000 in
theorem law_step (X : CX p m c cL_law 9 s args RL) (E : EX l s D kA A) (hNC : NCs s) (hX : va_X b L xs s s.heap) (hbl : b < s.heap.size) (hbA : ¬ A b) (hi : i + 4 ≤ L) (hL : L ≤ 2048) (hcC : cells + 8 ≤ 601024) (hcS : slots + 80 ≤ 7293034) (fu k : Nat) (hk : xs i &&& 31 = nI k) (hk32 : k < 32) (w v w1 v1 : WS) (o o1 : Nat → Int64) (od od1 : Nat → UInt64) (hs : LStep fu k (xs (i + 1)) (xs (i + 2)) (xs (i + 3)) w v o od w1 v1 o1 od1) (kk : CS p l e room_1 s m args below meth c D A 9 (cells + 8) (slots + 80) Q (LW kA ad am ao aod w1 o1 od1 v1) 1905 [(0, .ref b), (1, .ref (ad 0)), (2, .ref (am 0)), (3, .ref ao), (4, .ref aod), (5, .int (nI i))] []) : CS p l e room_1 s m args below meth c D A 9 cells slots Q (LW kA ad am ao aod w o od v) 37 [(0, .ref b), (1, .ref (ad 0)), (2, .ref (am 0)), (3, .ref ao), (4, .ref aod), (5, .int (nI i))] [] := by
  refine x_aload_n X dL_law_37 0 rfl ?_
  refine x_iload X dL_law_38 5 rfl ?_
  refine x_sld X hX hbl hbA (vp_in_nI (by omega) (by omega)) dL_law_40 ?_
  rw [nI_clamp (by omega)]
  refine x_bipush X (v := 31) dL_law_41 (by decide) ?_
  refine x_iand X dL_law_43 ?_
  rw [hk]
  match k, hk32, hs with
  | 0, _, hs =>
    obtain ⟨c6, r7, h1, h2, h3, h4, he⟩ := hs
    subst he
    refine x_tableIn X (off := 140) (tgt := 184) dL_law_44 (by decide) (by decide) (by decide) (by decide) ?_
    exact arm_0 X E hNC hX hbl hbA hi hL hcC hcS fu w w1 v v1 o o1 _ c6 r7 h1 h2 h3 h4 kk
  | 1, _, hs =>
    obtain ⟨c6, r7, h1, h2, h3, h4, he⟩ := hs
    subst he
    refine x_tableIn X (off := 184) (tgt := 228) dL_law_44 (by decide) (by decide) (by decide) (by decide) ?_
    exact arm_1 X E hNC hX hbl hbA hi hL hcC hcS fu w w1 v v1 o o1 _ c6 r7 h1 h2 h3 h4 kk
  | 2, _, hs =>
    obtain ⟨c6, r7, h1, h2, h3, h4, he⟩ := hs
    subst he
    refine x_tableIn X (off := 264) (tgt := 308) dL_law_44 (by decide) (by decide) (by decide) (by decide) ?_
    exact arm_2 X E hNC hX hbl hbA hi hL hcC hcS fu w w1 v v1 o o1 _ c6 r7 h1 h2 h3 h4 kk
  | 3, _, hs =>
    obtain ⟨c6, r7, h1, h2, h3, h4, he⟩ := hs
    subst he
    refine x_tableIn X (off := 332) (tgt := 376) dL_law_44 (by decide) (by decide) (by decide) (by decide) ?_
    exact arm_3 X E hNC hX hbl hbA hi hL hcC hcS fu w w1 v v1 o o1 _ c6 r7 h1 h2 h3 h4 kk
  | 4, _, hs =>
    obtain ⟨c6, r7, h1, h2, h3, h4, he⟩ := hs
    subst he
    refine x_tableIn X (off := 416) (tgt := 460) dL_law_44 (by decide) (by decide) (by decide) (by decide) ?_
    exact arm_4 X E hNC hX hbl hbA hi hL hcC hcS fu w w1 v v1 o o1 _ c6 r7 h1 h2 h3 h4 kk
  | 5, _, hs =>
    obtain ⟨c6, r7, h1, h2, h3, h4, he⟩ := hs
    subst he
    refine x_tableIn X (off := 496) (tgt := 540) dL_law_44 (by decide) (by decide) (by decide) (by decide) ?_
    exact arm_5 X E hNC hX hbl hbA hi hL hcC hcS fu w w1 v v1 o o1 _ c6 r7 h1 h2 h3 h4 kk
  | 6, _, hs =>
    obtain ⟨r, h1, h2, he1, he2, he3⟩ := hs
    subst he1
    subst he2
    subst he3
    refine x_tableIn X (off := 552) (tgt := 596) dL_law_44 (by decide) (by decide) (by decide) (by decide) ?_
    exact arm_6 X E hNC hX hbl hbA hi hL hcC hcS fu _ v v1 _ _ r h1 h2 kk
  | 7, _, hs =>
    obtain ⟨r, h1, h2, he1, he2, he3⟩ := hs
    subst he1
    subst he2
    subst he3
    refine x_tableIn X (off := 565) (tgt := 609) dL_law_44 (by decide) (by decide) (by decide) (by decide) ?_
    exact arm_7 X E hNC hX hbl hbA hi hL hcC hcS fu _ v v1 _ _ r h1 h2 kk
  | 8, _, hs =>
    obtain ⟨c6, r7, h1, h2, h3, h4, he⟩ := hs
    subst he
    refine x_tableIn X (off := 578) (tgt := 622) dL_law_44 (by decide) (by decide) (by decide) (by decide) ?_
    exact arm_8 X E hNC hX hbl hbA hi hL hcC hcS fu w w1 v v1 o o1 _ c6 r7 h1 h2 h3 h4 kk
  | 9, _, hs =>
    obtain ⟨c6, r7, h1, h2, h3, h4, he⟩ := hs
    subst he
    refine x_tableIn X (off := 634) (tgt := 678) dL_law_44 (by decide) (by decide) (by decide) (by decide) ?_
    exact arm_9 X E hNC hX hbl hbA hi hL hcC hcS fu w w1 v v1 o o1 _ c6 r7 h1 h2 h3 h4 kk
  | 10, _, hs =>
    obtain ⟨c6, r7, h1, h2, h3, h4, he⟩ := hs
    subst he
    refine x_tableIn X (off := 697) (tgt := 741) dL_law_44 (by decide) (by decide) (by decide) (by decide) ?_
    exact arm_10 X E hNC hX hbl hbA hi hL hcC hcS fu w w1 v v1 o o1 _ c6 r7 h1 h2 h3 h4 kk
  | 11, _, hs =>
    obtain ⟨c6, r7, h1, h2, h3, h4, he⟩ := hs
    subst he
    refine x_tableIn X (off := 765) (tgt := 809) dL_law_44 (by decide) (by decide) (by decide) (by decide) ?_
    exact arm_11 X E hNC hX hbl hbA hi hL hcC hcS fu w w1 v v1 o o1 _ c6 r7 h1 h2 h3 h4 kk
  | 12, _, hs =>
    obtain ⟨r, h1, h2, he1, he2, he3⟩ := hs
    subst he1
    subst he2
    subst he3
    refine x_tableIn X (off := 809) (tgt := 853) dL_law_44 (by decide) (by decide) (by decide) (by decide) ?_
    exact arm_12 X E hNC hX hbl hbA hi hL hcC hcS fu _ v v1 _ _ r h1 h2 kk
  | 13, _, hs =>
    obtain ⟨c6, r7, h1, h2, h3, h4, he⟩ := hs
    subst he
    refine x_tableIn X (off := 822) (tgt := 866) dL_law_44 (by decide) (by decide) (by decide) (by decide) ?_
    exact arm_13 X E hNC hX hbl hbA hi hL hcC hcS fu w w1 v v1 o o1 _ c6 r7 h1 h2 h3 h4 kk
  | 14, _, hs =>
    obtain ⟨r, h1, h2, he1, he2, he3⟩ := hs
    subst he1
    subst he2
    subst he3
    refine x_tableIn X (off := 878) (tgt := 922) dL_law_44 (by decide) (by decide) (by decide) (by decide) ?_
    exact arm_14 X E hNC hX hbl hbA hi hL hcC hcS fu _ v v1 _ _ r h1 h2 kk
  | 15, _, hs =>
    obtain ⟨c6, r7, h1, h2, h3, h4, he⟩ := hs
    subst he
    refine x_tableIn X (off := 891) (tgt := 935) dL_law_44 (by decide) (by decide) (by decide) (by decide) ?_
    exact arm_15 X E hNC hX hbl hbA hi hL hcC hcS fu w w1 v v1 o o1 _ c6 r7 h1 h2 h3 h4 kk
  | 16, _, hs =>
    obtain ⟨c6, r7, h1, h2, h3, h4, he⟩ := hs
    subst he
    refine x_tableIn X (off := 966) (tgt := 1010) dL_law_44 (by decide) (by decide) (by decide) (by decide) ?_
    exact arm_16 X E hNC hX hbl hbA hi hL hcC hcS fu w w1 v v1 o o1 _ c6 r7 h1 h2 h3 h4 kk
  | 17, _, hs =>
    obtain ⟨c6, r7, h1, h2, h3, h4, he⟩ := hs
    subst he
    refine x_tableIn X (off := 1034) (tgt := 1078) dL_law_44 (by decide) (by decide) (by decide) (by decide) ?_
    exact arm_17 X E hNC hX hbl hbA hi hL hcC hcS fu w w1 v v1 o o1 _ c6 r7 h1 h2 h3 h4 kk
  | 18, _, hs =>
    obtain ⟨c6, r7, h1, h2, h3, h4, he⟩ := hs
    subst he
    refine x_tableIn X (off := 1102) (tgt := 1146) dL_law_44 (by decide) (by decide) (by decide) (by decide) ?_
    exact arm_18 X E hNC hX hbl hbA hi hL hcC hcS fu w w1 v v1 o o1 _ c6 r7 h1 h2 h3 h4 kk
  | 19, _, hs =>
    obtain ⟨c6, r7, h1, h2, h3, h4, he⟩ := hs
    subst he
    refine x_tableIn X (off := 1170) (tgt := 1214) dL_law_44 (by decide) (by decide) (by decide) (by decide) ?_
    exact arm_19 X E hNC hX hbl hbA hi hL hcC hcS fu w w1 v v1 o o1 _ c6 r7 h1 h2 h3 h4 kk
  | 20, _, hs =>
    obtain ⟨c6, r7, h1, h2, h3, h4, he⟩ := hs
    subst he
    refine x_tableIn X (off := 1238) (tgt := 1282) dL_law_44 (by decide) (by decide) (by decide) (by decide) ?_
    exact arm_20 X E hNC hX hbl hbA hi hL hcC hcS fu w w1 v v1 o o1 _ c6 r7 h1 h2 h3 h4 kk
  | 21, _, hs =>
    obtain ⟨r, h1, h2, he1, he2, he3⟩ := hs
    subst he1
    subst he2
    subst he3
    refine x_tableIn X (off := 1294) (tgt := 1338) dL_law_44 (by decide) (by decide) (by decide) (by decide) ?_
    exact arm_21 X E hNC hX hbl hbA hi hL hcC hcS fu _ v v1 _ _ r h1 h2 kk
  | 22, _, hs =>
    obtain ⟨c6, r7, h1, h2, h3, h4, he⟩ := hs
    subst he
    refine x_tableIn X (off := 1307) (tgt := 1351) dL_law_44 (by decide) (by decide) (by decide) (by decide) ?_
    exact arm_22 X E hNC hX hbl hbA hi hL hcC hcS fu w w1 v v1 o o1 _ c6 r7 h1 h2 h3 h4 kk
  | 23, _, hs =>
    obtain ⟨c6, r7, h1, h2, h3, h4, he⟩ := hs
    subst he
    refine x_tableIn X (off := 1375) (tgt := 1419) dL_law_44 (by decide) (by decide) (by decide) (by decide) ?_
    exact arm_23 X E hNC hX hbl hbA hi hL hcC hcS fu w w1 v v1 o o1 _ c6 r7 h1 h2 h3 h4 kk
  | 24, _, hs =>
    obtain ⟨c6, r7, h1, h2, h3, h4, he⟩ := hs
    subst he
    refine x_tableIn X (off := 1431) (tgt := 1475) dL_law_44 (by decide) (by decide) (by decide) (by decide) ?_
    exact arm_24 X E hNC hX hbl hbA hi hL hcC hcS fu w w1 v v1 _ od od1 c6 r7 h1 h2 h3 h4 kk
  | 25, _, hs =>
    obtain ⟨c6, r7, h1, h2, h3, h4, he⟩ := hs
    subst he
    refine x_tableIn X (off := 1508) (tgt := 1552) dL_law_44 (by decide) (by decide) (by decide) (by decide) ?_
    exact arm_25 X E hNC hX hbl hbA hi hL hcC hcS fu w w1 v v1 o o1 _ c6 r7 h1 h2 h3 h4 kk
  | 26, _, hs =>
    obtain ⟨c6, r7, h1, h2, h3, h4, he⟩ := hs
    subst he
    refine x_tableIn X (off := 1588) (tgt := 1632) dL_law_44 (by decide) (by decide) (by decide) (by decide) ?_
    exact arm_26 X E hNC hX hbl hbA hi hL hcC hcS fu w w1 v v1 o o1 _ c6 r7 h1 h2 h3 h4 kk
  | 27, _, hs =>
    obtain ⟨c6, r7, h1, h2, h3, h4, he⟩ := hs
    subst he
    refine x_tableIn X (off := 1691) (tgt := 1735) dL_law_44 (by decide) (by decide) (by decide) (by decide) ?_
    exact arm_27 X E hNC hX hbl hbA hi hL hcC hcS fu w w1 v v1 o o1 _ c6 r7 h1 h2 h3 h4 kk
  | 28, _, hs =>
    obtain ⟨c6, r7, h1, h2, h3, h4, he⟩ := hs
    subst he
    refine x_tableIn X (off := 1759) (tgt := 1803) dL_law_44 (by decide) (by decide) (by decide) (by decide) ?_
    exact arm_28 X E hNC hX hbl hbA hi hL hcC hcS fu w w1 v v1 o o1 _ c6 r7 h1 h2 h3 h4 kk
  | 29, _, hs =>
    obtain ⟨c6, r7, h1, h2, h3, h4, he⟩ := hs
    subst he
    refine x_tableIn X (off := 1803) (tgt := 1847) dL_law_44 (by decide) (by decide) (by decide) (by decide) ?_
    exact arm_29 X E hNC hX hbl hbA hi hL hcC hcS fu w w1 v v1 o o1 _ c6 r7 h1 h2 h3 h4 kk
  | 30, _, hs =>
    obtain ⟨r, h1, h2, he1, he2, he3⟩ := hs
    subst he1
    subst he2
    subst he3
    refine x_tableIn X (off := 1847) (tgt := 1891) dL_law_44 (by decide) (by decide) (by decide) (by decide) ?_
    exact arm_30 X E hNC hX hbl hbA hi hL hcC hcS fu _ v v1 _ _ r h1 h2 kk
  | 31, _, hs =>
    obtain ⟨he1, he2, he3, he4⟩ := hs
    subst he1
    subst he2
    subst he3
    subst he4
    refine x_tableOut X (tgt := 1905) dL_law_44 (by decide) (by decide) ?_
    exact x_widen (by omega) (by omega) kk
  | k + 32, hk32, _ => exact absurd hk32 (by omega)
theorem law_loop (X : CX p m c cL_law 9 s args RL) (E : EX l s D kA A) (hNC : NCs s) (hX : va_X b L xs s s.heap) (hbl : b < s.heap.size) (hbA : ¬ A b) (hL : L ≤ 2048) (fu : Nat) (Rel : WS → WS → Prop) (hRel : ∀ (k : Nat) (x1 x2 x3 : Int32) (w v : WS) (o : Nat → Int64) (od : Nat → UInt64), Rel w v → ∃ w1 v1 o1 od1, LStep fu k x1 x2 x3 w v o od w1 v1 o1 od1 ∧ Rel w1 v1) (kend : ∀ (i : Nat) (w v : WS) (o : Nat → Int64) (od : Nat → UInt64), CS p l e room_1 s m args below meth c D A 9 601024 7293034 Q (LW kA ad am ao aod w o od v) 1911 [(0, .ref b), (1, .ref (ad 0)), (2, .ref (am 0)), (3, .ref ao), (4, .ref aod), (5, .int (nI i))] []) :
    ∀ (n i cells slots : Nat) (w v : WS) (o : Nat → Int64) (od : Nat → UInt64), L < i + 4 * n + 4 → i ≤ 4096 → cells + 8 * n ≤ 601024 → slots + 80 * n ≤ 7293034 → Rel w v → CS p l e room_1 s m args below meth c D A 9 cells slots Q (LW kA ad am ao aod w o od v) 28 [(0, .ref b), (1, .ref (ad 0)), (2, .ref (am 0)), (3, .ref ao), (4, .ref aod), (5, .int (nI i))] [] := by
  intro n
  induction n with
  | zero =>
    intro i cells slots w v o od hn hi h1 h2 hR
    refine x_iload X dL_law_28 5 rfl ?_
    refine x_aload_n X dL_law_30 0 rfl ?_
    refine x_slen X hX hbl hbA dL_law_31 ?_
    refine x_iconst X (v := nI 4) dL_law_32 (by decide) ?_
    refine x_isub X dL_law_33 ?_
    refine x_icmp_gt_t X (tgt := 1911) dL_law_34 (by decide) (Int32.lt_iff_toInt_lt.mpr (by rw [show Int32.ofNat L = nI L from rfl, pk_sub_toInt (by omega) (by omega), nI_toInt (by omega)]; omega)) ?_
    exact x_widen (by omega) (by omega) (kend i w v o od)
  | succ n ih =>
    intro i cells slots w v o od hn hi h1 h2 hR
    refine x_iload X dL_law_28 5 rfl ?_
    refine x_aload_n X dL_law_30 0 rfl ?_
    refine x_slen X hX hbl hbA dL_law_31 ?_
    refine x_iconst X (v := nI 4) dL_law_32 (by decide) ?_
    refine x_isub X dL_law_33 ?_
    by_cases hg : L < i + 4
    · refine x_icmp_gt_t X (tgt := 1911) dL_law_34 (by decide) (Int32.lt_iff_toInt_lt.mpr (by rw [show Int32.ofNat L = nI L from rfl, pk_sub_toInt (by omega) (by omega), nI_toInt (by omega)]; omega)) ?_
      exact x_widen (by omega) (by omega) (kend i w v o od)
    · refine x_icmp_gt_f X (tgt := 1911) dL_law_34 (by decide) (fun h => by have h := Int32.lt_iff_toInt_lt.mp h; rw [show Int32.ofNat L = nI L from rfl, pk_sub_toInt (by omega) (by omega), nI_toInt (by omega)] at h; omega) ?_
      obtain ⟨k, hk32, hk⟩ := pk_andE (xs i) (m := 31) 5 (by decide)
      obtain ⟨w1, v1, o1, od1, hs, hR1⟩ := hRel k (xs (i + 1)) (xs (i + 2)) (xs (i + 3)) w v o od hR
      refine law_step X E hNC hX hbl hbA (by omega) hL (by omega) (by omega) fu k hk hk32 w v w1 v1 o o1 od od1 hs ?_
      refine x_iinc X (kf := some) dL_law_1905 5 rfl (by decide) (nI (i + 4)) (nI_add i 4) rfl (fun z => [(5, .int z), (0, .ref b), (1, .ref (ad 0)), (2, .ref (am 0)), (3, .ref ao), (4, .ref aod)]) (fun _ => rfl) (fun z hz => ?_)
      cases hz
      refine x_lpick (lv2 := [(0, .ref b), (1, .ref (ad 0)), (2, .ref (am 0)), (3, .ref ao), (4, .ref aod), (5, .int (nI (i + 4)))]) [1, 2, 3, 4, 5, 0] rfl ?_
      refine x_goto X (tgt := 28) dL_law_1908 (by decide) ?_
      exact ih (i + 4) (cells + 8) (slots + 80) w1 v1 o1 od1 (by omega) (by omega) (by omega) (by omega) hR1
end LA
