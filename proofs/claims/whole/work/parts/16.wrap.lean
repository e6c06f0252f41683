theorem in01 : vp_in 0 1 := by unfold vp_in; decide
noncomputable def f_L_addJunction (fu : Nat) (w : WS) (o : (Nat → Int64))  : Option (Int32 × WS × (Nat → Int64)) :=
  bx (f_X3_addJunction fu w) (fun q => if q.1 = "java/lang/IllegalStateException" then some (1, q.2, o) else none) fun q =>
  some (0, q.2, vp_updL o 0 (Int32.toInt64 q.1))

noncomputable def f_L_addRoad (fu : Nat) (w : WS) (o : (Nat → Int64)) (a1 : Int32) (a2 : Int32) (a3 : Int32) : Option (Int32 × WS × (Nat → Int64)) :=
  bx (f_X3_addRoad fu w a1 a2 a3) (fun q => if q.1 = "java/lang/IndexOutOfBoundsException" then some (1, q.2, o) else if q.1 = "java/lang/IllegalArgumentException" then some (2, q.2, o) else if q.1 = "java/lang/IllegalStateException" then some (3, q.2, o) else none) fun q =>
  some (0, q.2, vp_updL o 0 (Int32.toInt64 q.1))

noncomputable def f_L_setWeight (fu : Nat) (w : WS) (o : (Nat → Int64)) (a1 : Int32) (a2 : Int32) : Option (Int32 × WS × (Nat → Int64)) :=
  bx (f_X3_setWeight fu w a1 a2) (fun q => if q.1 = "java/lang/IndexOutOfBoundsException" then some (1, q.2, o) else if q.1 = "java/lang/IllegalArgumentException" then some (2, q.2, o) else none) fun q =>
  some (0, q.2, vp_updL o 0 (Int32.toInt64 q.1))

noncomputable def f_L_setOpen (fu : Nat) (w : WS) (o : (Nat → Int64)) (a1 : Int32) (a2 : Int32) : Option (Int32 × WS × (Nat → Int64)) :=
  bx (f_X3_setOpen fu w a1 a2) (fun q => if q.1 = "java/lang/IndexOutOfBoundsException" then some (1, q.2, o) else none) fun q =>
  some (0, q.2, vp_updL o 0 (Int32.toInt64 q.1))

noncomputable def f_L_setTurn (fu : Nat) (w : WS) (o : (Nat → Int64)) (a1 : Int32) (a2 : Int32) (a3 : Int32) : Option (Int32 × WS × (Nat → Int64)) :=
  bx (f_X3_setTurn fu w a1 a2 a3) (fun q => if q.1 = "java/lang/IndexOutOfBoundsException" then some (1, q.2, o) else if q.1 = "java/lang/IllegalArgumentException" then some (2, q.2, o) else none) fun q =>
  some (0, q.2, vp_updL o 0 (Int32.toInt64 q.1))

noncomputable def f_L_setUTurn (fu : Nat) (w : WS) (o : (Nat → Int64)) (a1 : Int32) : Option (Int32 × WS × (Nat → Int64)) :=
  bx (f_X3_setUTurn fu w a1) (fun q => if q.1 = "java/lang/IllegalArgumentException" then some (1, q.2, o) else none) fun q =>
  some (0, q.2, vp_updL o 0 (Int32.toInt64 q.1))

noncomputable def f_L_weight (fu : Nat) (w : WS) (o : (Nat → Int64)) (a1 : Int32) : Option (Int32 × WS × (Nat → Int64)) :=
  bx (f_X3_weight fu w a1) (fun q => if q.1 = "java/lang/IndexOutOfBoundsException" then some (1, q.2, o) else none) fun q =>
  some (0, q.2, vp_updL o 0 (Int32.toInt64 q.1))

noncomputable def f_L_isOpen (fu : Nat) (w : WS) (o : (Nat → Int64)) (a1 : Int32) : Option (Int32 × WS × (Nat → Int64)) :=
  bx (f_X3_isOpen fu w a1) (fun q => if q.1 = "java/lang/IndexOutOfBoundsException" then some (1, q.2, o) else none) fun q =>
  some (0, q.2, vp_updL o 0 (if q.1 = 0 then 0 else 1))

noncomputable def f_L_turnPenalty (fu : Nat) (w : WS) (o : (Nat → Int64)) (a1 : Int32) (a2 : Int32) : Option (Int32 × WS × (Nat → Int64)) :=
  bx (f_X3_turnPenalty fu w a1 a2) (fun q => if q.1 = "java/lang/IndexOutOfBoundsException" then some (1, q.2, o) else if q.1 = "java/lang/IllegalArgumentException" then some (2, q.2, o) else none) fun q =>
  some (0, q.2, vp_updL o 0 (Int32.toInt64 q.1))

noncomputable def f_L_prepare (fu : Nat) (w : WS) (o : (Nat → Int64))  : Option (Int32 × WS × (Nat → Int64)) :=
  bx (f_X3_prepare fu w) (fun q => if q.1 = "java/lang/IllegalStateException" then some (1, q.2, o) else none) fun q =>
  some (0, q.2, vp_updL o 0 (Int32.toInt64 q.1))

noncomputable def f_L_position (fu : Nat) (w : WS) (o : (Nat → Int64)) (a1 : Int32) : Option (Int32 × WS × (Nat → Int64)) :=
  bx (f_X3_position fu w a1) (fun q => if q.1 = "java/lang/IllegalStateException" then some (1, q.2, o) else if q.1 = "java/lang/IndexOutOfBoundsException" then some (2, q.2, o) else none) fun q =>
  some (0, q.2, vp_updL o 0 (Int32.toInt64 q.1))

noncomputable def f_L_hasArc (fu : Nat) (w : WS) (o : (Nat → Int64)) (a1 : Int32) (a2 : Int32) : Option (Int32 × WS × (Nat → Int64)) :=
  bx (f_X3_hasArc fu w a1 a2) (fun q => if q.1 = "java/lang/IllegalStateException" then some (1, q.2, o) else if q.1 = "java/lang/IndexOutOfBoundsException" then some (2, q.2, o) else none) fun q =>
  some (0, q.2, vp_updL o 0 (if q.1 = 0 then 0 else 1))

noncomputable def f_L_arcCost (fu : Nat) (w : WS) (o : (Nat → Int64)) (a1 : Int32) (a2 : Int32) : Option (Int32 × WS × (Nat → Int64)) :=
  bx (f_X3_arcCost fu w a1 a2) (fun q => if q.1 = "java/lang/IllegalStateException" then some (1, q.2, o) else if q.1 = "java/lang/IndexOutOfBoundsException" then some (2, q.2, o) else if q.1 = "java/util/NoSuchElementException" then some (3, q.2, o) else none) fun q =>
  some (0, q.2, vp_updL o 0 (Int32.toInt64 q.1))

noncomputable def f_L_distance (fu : Nat) (w : WS) (o : (Nat → Int64)) (a1 : Int32) (a2 : Int32) : Option (Int32 × WS × (Nat → Int64)) :=
  bx (f_X3_distance fu w a1 a2) (fun q => if q.1 = "java/lang/IllegalStateException" then some (1, q.2, o) else if q.1 = "java/lang/IndexOutOfBoundsException" then some (2, q.2, o) else none) fun q =>
  some (0, q.2, vp_updL o 0 (Int32.toInt64 q.1))

noncomputable def f_L_distanceBehind (fu : Nat) (w : WS) (o : (Nat → Int64)) (a1 : Int32) (a2 : Int32) : Option (Int32 × WS × (Nat → Int64)) :=
  bx (f_X3_distanceBehind fu w a1 a2) (fun q => if q.1 = "java/lang/IllegalStateException" then some (1, q.2, o) else if q.1 = "java/lang/IndexOutOfBoundsException" then some (2, q.2, o) else none) fun q =>
  some (0, q.2, vp_updL o 0 (Int32.toInt64 q.1))

noncomputable def f_L_route (fu : Nat) (w : WS) (o : (Nat → Int64)) (a1 : Int32) (a2 : Int32) : Option (Int32 × WS × (Nat → Int64)) :=
  bx (f_X3_route fu w a1 a2) (fun q => if q.1 = "java/lang/IllegalStateException" then some (1, q.2, o) else if q.1 = "java/lang/IndexOutOfBoundsException" then some (2, q.2, o) else if q.1 = "java/util/NoSuchElementException" then some (3, q.2, o) else none) fun q =>
  some (0, q.2, vp_updL o 0 (Int32.toInt64 q.1))

noncomputable def f_L_routeRoad (fu : Nat) (w : WS) (o : (Nat → Int64)) (a1 : Int32) : Option (Int32 × WS × (Nat → Int64)) :=
  bx (f_X3_routeRoad fu w a1) (fun q => if q.1 = "java/lang/IndexOutOfBoundsException" then some (1, q.2, o) else none) fun q =>
  some (0, q.2, vp_updL o 0 (Int32.toInt64 q.1))

noncomputable def f_L_reach (fu : Nat) (w : WS) (o : (Nat → Int64)) (a1 : Int32) (a2 : Int32) : Option (Int32 × WS × (Nat → Int64)) :=
  bx (f_X3_reach fu w a1 a2) (fun q => if q.1 = "java/lang/IllegalStateException" then some (1, q.2, o) else if q.1 = "java/lang/IndexOutOfBoundsException" then some (2, q.2, o) else if q.1 = "java/lang/IllegalArgumentException" then some (3, q.2, o) else none) fun q =>
  some (0, q.2, vp_updL o 0 (Int32.toInt64 q.1))

noncomputable def f_L_reached (fu : Nat) (w : WS) (o : (Nat → Int64)) (a1 : Int32) : Option (Int32 × WS × (Nat → Int64)) :=
  bx (f_X3_reached fu w a1) (fun q => if q.1 = "java/lang/IndexOutOfBoundsException" then some (1, q.2, o) else none) fun q =>
  some (0, q.2, vp_updL o 0 (Int32.toInt64 q.1))

noncomputable def f_L_averageDistance (fu : Nat) (w : WS) (o : (Nat → UInt64)) (a1 : Int32) : Option (Int32 × WS × (Nat → UInt64)) :=
  bx (f_X3_averageDistance fu w a1) (fun q => if q.1 = "java/lang/IllegalStateException" then some (1, q.2, o) else if q.1 = "java/lang/IndexOutOfBoundsException" then some (2, q.2, o) else none) fun q =>
  some (0, q.2, vf_upd o 0 q.1)

noncomputable def f_L_detour (fu : Nat) (w : WS) (o : (Nat → Int64)) (a1 : Int32) (a2 : Int32) (a3 : Int32) : Option (Int32 × WS × (Nat → Int64)) :=
  bx (f_X3_detour fu w a1 a2 a3) (fun q => if q.1 = "java/lang/IllegalStateException" then some (1, q.2, o) else if q.1 = "java/lang/IndexOutOfBoundsException" then some (2, q.2, o) else if q.1 = "java/util/NoSuchElementException" then some (3, q.2, o) else none) fun q =>
  some (0, q.2, vp_updL o 0 (Int32.toInt64 q.1))

noncomputable def f_L_setPlace (fu : Nat) (w : WS) (o : (Nat → Int64)) (a1 : Int32) (a2 : Int32) (a3 : Int32) : Option (Int32 × WS × (Nat → Int64)) :=
  bx (f_X3_setPlace fu w a1 a2 a3) (fun q => if q.1 = "java/lang/IndexOutOfBoundsException" then some (1, q.2, o) else none) fun q =>
  some (0, q.2, vp_updL o 0 (if q.1 = 0 then 0 else 1))

noncomputable def f_L_nearest (fu : Nat) (w : WS) (o : (Nat → Int64)) (a1 : Int32) (a2 : Int32) : Option (Int32 × WS × (Nat → Int64)) :=
  bx (f_X3_nearest fu w a1 a2) (fun q => if q.1 = "java/lang/IllegalStateException" then some (1, q.2, o) else if q.1 = "java/lang/IndexOutOfBoundsException" then some (2, q.2, o) else if q.1 = "java/util/NoSuchElementException" then some (3, q.2, o) else none) fun q =>
  some (0, q.2, vp_updL o 0 (Int32.toInt64 q.1))

noncomputable def f_L_push (fu : Nat) (w : WS) (o : (Nat → Int64))  : Option (Int32 × WS × (Nat → Int64)) :=
  bx (f_X3_push fu w) (fun q => if q.1 = "java/lang/IllegalStateException" then some (1, q.2, o) else none) fun q =>
  some (0, q.2, vp_updL o 0 (Int32.toInt64 q.1))

noncomputable def f_L_pop (fu : Nat) (w : WS) (o : (Nat → Int64))  : Option (Int32 × WS × (Nat → Int64)) :=
  bx (f_X3_pop fu w) (fun q => if q.1 = "java/lang/IllegalStateException" then some (1, q.2, o) else none) fun q =>
  some (0, q.2, vp_updL o 0 (Int32.toInt64 q.1))

abbrev rm_L_addJunction : Room := { frames := 7, cells := 1, slots := 6, locals := 110 }
set_option maxRecDepth 100000 in
set_option maxHeartbeats 4000000 in
theorem met_L_addJunction (l : Launch) (hst : l.stackTraces = false) (D : va_G) (kA : Nat → ClassId) (ad : Nat → Nat) (ao : Nat) (fu : Nat) (w : WS) (o : (Nat → Int64))  (v : Int32) (w1 : WS) (o1 : (Nat → Int64)) (hf : f_L_addJunction fu w o = some (v, w1, o1)) (sz : Nat) : vx_Met l yL_addJunction (wsH yL_addJunction cL_addJunction 3 (some .int) [(0, 8, 11, 13)]) rm_L_addJunction (va_Pc [.ref (ad 0), .ref ao] (fun U => PreG D kA (picC kA ad w ++ [(ao, .inl (kA 1, 1, .inr (.inl o)))]) sz U ∧ NCs U)) (va_Qi (fun (r : Int32) (_ : Unit) => r = v) (fun _ t => PosG D (va_A (picC kA ad w ++ [(ao, .inl (kA 1, 1, .inr (.inl o)))]) sz) (picC kA ad w1 ++ [(ao, .inl (kA 1, 1, .inr (.inl o1)))]) t) (va_A (picC kA ad w ++ [(ao, .inl (kA 1, 1, .inr (.inl o)))]) sz)) (vx_X (fun (_ : Unit) => False) (fun _ _ _ => True) (va_A (picC kA ad w ++ [(ao, .inl (kA 1, 1, .inr (.inl o)))]) sz)) 1 6 (va_A (picC kA ad w ++ [(ao, .inl (kA 1, 1, .inr (.inl o)))]) sz) := by
  refine metW (own := RL) (hh := [(0, 8, 11, 13)]) hst (by decide +kernel) rfl (Nat.le_of_ble_eq_true rfl) rfl ?_
  intro p e s m below meth c X hr hlk E hNC htab
  unfold f_L_addJunction at hf
  refine x_aload_n X dL_addJunction_0 1 rfl ?_
  refine x_iconst X (v := 0) dL_addJunction_1 (by decide) ?_
  refine x_aload_n X dL_addJunction_2 0 rfl ?_
  obtain ⟨o9, h9, hf, hg⟩ := bx_one hf
  refine x_callXs_i X E (As := []) (rest := [.int 0, .ref ao]) (n := 0) (pic := picC kA ad) (w0 := w) (w3 := [(ao, .inl (kA 1, 1, .inr (.inl o)))]) (mc := 1) (ms := 6) (goodV w_303 w_304 w_305 w_47 w_306) (fun sz => met_X3_addJunction l E.2.2.2 D kA ad fu w o9 h9 sz) rfl rfl (by decide +kernel) ⟨by decide, by decide⟩ 0 rfl (qc := (RX3, TX3, _)) rfl rfl rfl rfl (Nat.le_of_ble_eq_true rfl) dL_addJunction_3 ⟨by decide, by decide⟩ (fun q ce q9 H1 locs1 ls ho hP hD hS hl hce hcv hcl => ?_) (fun z w2 ho => ?_)
  · have hg := hg _ ho
    by_cases hq : q.1 = "java/lang/IllegalStateException"
    · rw [if_pos hq] at hg
      cases hg
      refine x_catch (ws := picC kA ad q.2 ++ [(ao, .inl (kA 1, 1, .inr (.inl o)))]) (name := "java/lang/IllegalStateException") X E htab [] [] (0, 8, 11, 13) rfl (fun z hz => by simp at hz) (by decide +kernel) (hpc := 11) rfl (by decide) w_302 ca_ISE hce hcv (hq ▸ hcl) hP hD hS hl ?_
      refine x_astore_n X (lv2 := (2, .ref q9) :: [(0, .ref (ad 0)), (1, .ref ao)]) dL_addJunction_11 (by decide) rfl ?_
      refine x_iconst X (v := 1) dL_addJunction_12 (by decide) ?_
      exact x_iretW X hr hlk rfl rfl (by decide) (by decide) dL_addJunction_13
    rw [if_neg hq] at hg
    cases hg
  · have hf := hf _ ho
    cases hf
    refine x_i2l X dL_addJunction_6 ?_
    refine x_last X E.1.1 29 rfl (kf := some) (u := ()) dL_addJunction_7 (ck_t in01) (fun _ => picC kA ad w2 ++ [(ao, .inl (kA 1, 1, .inr (.inl (vp_updL o 0 (Int32.toInt64 z)))))]) rfl (fun _ _ => ?_)
    refine x_goto X (tgt := 14) dL_addJunction_8 (by decide) ?_
    refine x_iconst X (v := 0) dL_addJunction_14 (by decide) ?_
    exact x_iretW X hr hlk rfl rfl (by decide) (by decide) dL_addJunction_15
abbrev rm_L_addRoad : Room := { frames := 8, cells := 5, slots := 30, locals := 134 }
set_option maxRecDepth 100000 in
set_option maxHeartbeats 4000000 in
theorem met_L_addRoad (l : Launch) (hst : l.stackTraces = false) (D : va_G) (kA : Nat → ClassId) (ad : Nat → Nat) (ao : Nat) (fu : Nat) (w : WS) (o : (Nat → Int64)) (a1 : Int32) (a2 : Int32) (a3 : Int32) (v : Int32) (w1 : WS) (o1 : (Nat → Int64)) (hf : f_L_addRoad fu w o a1 a2 a3 = some (v, w1, o1)) (sz : Nat) : vx_Met l yL_addRoad (wsH yL_addRoad cL_addRoad 6 (some .int) [(0, 12, 15, 19), (0, 12, 19, 21), (0, 12, 23, 13)]) rm_L_addRoad (va_Pc [.ref (ad 0), .int a1, .int a2, .int a3, .ref ao] (fun U => PreG D kA (picC kA ad w ++ [(ao, .inl (kA 1, 1, .inr (.inl o)))]) sz U ∧ NCs U)) (va_Qi (fun (r : Int32) (_ : Unit) => r = v) (fun _ t => PosG D (va_A (picC kA ad w ++ [(ao, .inl (kA 1, 1, .inr (.inl o)))]) sz) (picC kA ad w1 ++ [(ao, .inl (kA 1, 1, .inr (.inl o1)))]) t) (va_A (picC kA ad w ++ [(ao, .inl (kA 1, 1, .inr (.inl o)))]) sz)) (vx_X (fun (_ : Unit) => False) (fun _ _ _ => True) (va_A (picC kA ad w ++ [(ao, .inl (kA 1, 1, .inr (.inl o)))]) sz)) 5 30 (va_A (picC kA ad w ++ [(ao, .inl (kA 1, 1, .inr (.inl o)))]) sz) := by
  refine metW (own := RL) (hh := [(0, 12, 15, 19), (0, 12, 19, 21), (0, 12, 23, 13)]) hst (by decide +kernel) rfl (Nat.le_of_ble_eq_true rfl) rfl ?_
  intro p e s m below meth c X hr hlk E hNC htab
  unfold f_L_addRoad at hf
  refine x_aload X dL_addRoad_0 4 rfl ?_
  refine x_iconst X (v := 0) dL_addRoad_2 (by decide) ?_
  refine x_aload_n X dL_addRoad_3 0 rfl ?_
  refine x_iload_n X dL_addRoad_4 1 rfl ?_
  refine x_iload_n X dL_addRoad_5 2 rfl ?_
  refine x_iload_n X dL_addRoad_6 3 rfl ?_
  obtain ⟨o9, h9, hf, hg⟩ := bx_one hf
  refine x_callXs_i X E (As := [.int a1, .int a2, .int a3]) (rest := [.int 0, .ref ao]) (n := 3) (pic := picC kA ad) (w0 := w) (w3 := [(ao, .inl (kA 1, 1, .inr (.inl o)))]) (mc := 5) (ms := 30) (goodV w_381 w_382 w_383 w_47 w_384) (fun sz => met_X3_addRoad l E.2.2.2 D kA ad fu w a1 a2 a3 o9 h9 sz) rfl rfl (by decide +kernel) ⟨by decide, by decide⟩ 0 rfl (qc := (RX3, TX3, _)) rfl rfl rfl rfl (Nat.le_of_ble_eq_true rfl) dL_addRoad_7 ⟨by decide, by decide⟩ (fun q ce q9 H1 locs1 ls ho hP hD hS hl hce hcv hcl => ?_) (fun z w2 ho => ?_)
  · have hg := hg _ ho
    by_cases hq : q.1 = "java/lang/IndexOutOfBoundsException"
    · rw [if_pos hq] at hg
      cases hg
      refine x_catch (ws := picC kA ad q.2 ++ [(ao, .inl (kA 1, 1, .inr (.inl o)))]) (name := "java/lang/IndexOutOfBoundsException") X E htab [] [(0, 12, 19, 21), (0, 12, 23, 13)] (0, 12, 15, 19) rfl (fun z hz => by simp at hz) (by decide +kernel) (hpc := 15) rfl (by decide) w_379 ca_IOB hce hcv (hq ▸ hcl) hP hD hS hl ?_
      refine x_astore X (lv2 := (5, .ref q9) :: [(0, .ref (ad 0)), (1, .int a1), (2, .int a2), (3, .int a3), (4, .ref ao)]) dL_addRoad_15 (by decide) rfl ?_
      refine x_iconst X (v := 1) dL_addRoad_17 (by decide) ?_
      exact x_iretW X hr hlk rfl rfl (by decide) (by decide) dL_addRoad_18
    rw [if_neg hq] at hg
    by_cases hq : q.1 = "java/lang/IllegalArgumentException"
    · rw [if_pos hq] at hg
      cases hg
      refine x_catch (ws := picC kA ad q.2 ++ [(ao, .inl (kA 1, 1, .inr (.inl o)))]) (name := "java/lang/IllegalArgumentException") X E htab [(0, 12, 15, 19)] [(0, 12, 23, 13)] (0, 12, 19, 21) rfl (fun z hz => by
        simp only [List.mem_cons, List.not_mem_nil, or_false] at hz
        rcases hz with rfl
        · exact ⟨by decide, "java/lang/IndexOutOfBoundsException", w_379, hNC _ (by decide +kernel) _ (by decide +kernel) (by decide +kernel)⟩) (by decide +kernel) (hpc := 19) rfl (by decide) w_380 ca_IAE hce hcv (hq ▸ hcl) hP hD hS hl ?_
      refine x_astore X (lv2 := (5, .ref q9) :: [(0, .ref (ad 0)), (1, .int a1), (2, .int a2), (3, .int a3), (4, .ref ao)]) dL_addRoad_19 (by decide) rfl ?_
      refine x_iconst X (v := 2) dL_addRoad_21 (by decide) ?_
      exact x_iretW X hr hlk rfl rfl (by decide) (by decide) dL_addRoad_22
    rw [if_neg hq] at hg
    by_cases hq : q.1 = "java/lang/IllegalStateException"
    · rw [if_pos hq] at hg
      cases hg
      refine x_catch (ws := picC kA ad q.2 ++ [(ao, .inl (kA 1, 1, .inr (.inl o)))]) (name := "java/lang/IllegalStateException") X E htab [(0, 12, 15, 19), (0, 12, 19, 21)] [] (0, 12, 23, 13) rfl (fun z hz => by
        simp only [List.mem_cons, List.not_mem_nil, or_false] at hz
        rcases hz with rfl | rfl
        · exact ⟨by decide, "java/lang/IndexOutOfBoundsException", w_379, hNC _ (by decide +kernel) _ (by decide +kernel) (by decide +kernel)⟩
        · exact ⟨by decide, "java/lang/IllegalArgumentException", w_380, hNC _ (by decide +kernel) _ (by decide +kernel) (by decide +kernel)⟩) (by decide +kernel) (hpc := 23) rfl (by decide) w_302 ca_ISE hce hcv (hq ▸ hcl) hP hD hS hl ?_
      refine x_astore X (lv2 := (5, .ref q9) :: [(0, .ref (ad 0)), (1, .int a1), (2, .int a2), (3, .int a3), (4, .ref ao)]) dL_addRoad_23 (by decide) rfl ?_
      refine x_iconst X (v := 3) dL_addRoad_25 (by decide) ?_
      exact x_iretW X hr hlk rfl rfl (by decide) (by decide) dL_addRoad_26
    rw [if_neg hq] at hg
    cases hg
  · have hf := hf _ ho
    cases hf
    refine x_i2l X dL_addRoad_10 ?_
    refine x_last X E.1.1 29 rfl (kf := some) (u := ()) dL_addRoad_11 (ck_t in01) (fun _ => picC kA ad w2 ++ [(ao, .inl (kA 1, 1, .inr (.inl (vp_updL o 0 (Int32.toInt64 z)))))]) rfl (fun _ _ => ?_)
    refine x_goto X (tgt := 27) dL_addRoad_12 (by decide) ?_
    refine x_iconst X (v := 0) dL_addRoad_27 (by decide) ?_
    exact x_iretW X hr hlk rfl rfl (by decide) (by decide) dL_addRoad_28
abbrev rm_L_setWeight : Room := { frames := 9, cells := 2, slots := 12, locals := 206 }
set_option maxRecDepth 100000 in
set_option maxHeartbeats 4000000 in
theorem met_L_setWeight (l : Launch) (hst : l.stackTraces = false) (D : va_G) (kA : Nat → ClassId) (ad : Nat → Nat) (ao : Nat) (fu : Nat) (w : WS) (o : (Nat → Int64)) (a1 : Int32) (a2 : Int32) (v : Int32) (w1 : WS) (o1 : (Nat → Int64)) (hf : f_L_setWeight fu w o a1 a2 = some (v, w1, o1)) (sz : Nat) : vx_Met l yL_setWeight (wsH yL_setWeight cL_setWeight 5 (some .int) [(0, 10, 13, 19), (0, 10, 17, 21)]) rm_L_setWeight (va_Pc [.ref (ad 0), .int a1, .int a2, .ref ao] (fun U => PreG D kA (picC kA ad w ++ [(ao, .inl (kA 1, 1, .inr (.inl o)))]) sz U ∧ NCs U)) (va_Qi (fun (r : Int32) (_ : Unit) => r = v) (fun _ t => PosG D (va_A (picC kA ad w ++ [(ao, .inl (kA 1, 1, .inr (.inl o)))]) sz) (picC kA ad w1 ++ [(ao, .inl (kA 1, 1, .inr (.inl o1)))]) t) (va_A (picC kA ad w ++ [(ao, .inl (kA 1, 1, .inr (.inl o)))]) sz)) (vx_X (fun (_ : Unit) => False) (fun _ _ _ => True) (va_A (picC kA ad w ++ [(ao, .inl (kA 1, 1, .inr (.inl o)))]) sz)) 2 12 (va_A (picC kA ad w ++ [(ao, .inl (kA 1, 1, .inr (.inl o)))]) sz) := by
  refine metW (own := RL) (hh := [(0, 10, 13, 19), (0, 10, 17, 21)]) hst (by decide +kernel) rfl (Nat.le_of_ble_eq_true rfl) rfl ?_
  intro p e s m below meth c X hr hlk E hNC htab
  unfold f_L_setWeight at hf
  refine x_aload_n X dL_setWeight_0 3 rfl ?_
  refine x_iconst X (v := 0) dL_setWeight_1 (by decide) ?_
  refine x_aload_n X dL_setWeight_2 0 rfl ?_
  refine x_iload_n X dL_setWeight_3 1 rfl ?_
  refine x_iload_n X dL_setWeight_4 2 rfl ?_
  obtain ⟨o9, h9, hf, hg⟩ := bx_one hf
  refine x_callXs_i X E (As := [.int a1, .int a2]) (rest := [.int 0, .ref ao]) (n := 2) (pic := picC kA ad) (w0 := w) (w3 := [(ao, .inl (kA 1, 1, .inr (.inl o)))]) (mc := 2) (ms := 12) (goodV w_437 w_438 w_439 w_47 w_440) (fun sz => met_X3_setWeight l E.2.2.2 D kA ad fu w a1 a2 o9 h9 sz) rfl rfl (by decide +kernel) ⟨by decide, by decide⟩ 0 rfl (qc := (RX3, TX3, _)) rfl rfl rfl rfl (Nat.le_of_ble_eq_true rfl) dL_setWeight_5 ⟨by decide, by decide⟩ (fun q ce q9 H1 locs1 ls ho hP hD hS hl hce hcv hcl => ?_) (fun z w2 ho => ?_)
  · have hg := hg _ ho
    by_cases hq : q.1 = "java/lang/IndexOutOfBoundsException"
    · rw [if_pos hq] at hg
      cases hg
      refine x_catch (ws := picC kA ad q.2 ++ [(ao, .inl (kA 1, 1, .inr (.inl o)))]) (name := "java/lang/IndexOutOfBoundsException") X E htab [] [(0, 10, 17, 21)] (0, 10, 13, 19) rfl (fun z hz => by simp at hz) (by decide +kernel) (hpc := 13) rfl (by decide) w_379 ca_IOB hce hcv (hq ▸ hcl) hP hD hS hl ?_
      refine x_astore X (lv2 := (4, .ref q9) :: [(0, .ref (ad 0)), (1, .int a1), (2, .int a2), (3, .ref ao)]) dL_setWeight_13 (by decide) rfl ?_
      refine x_iconst X (v := 1) dL_setWeight_15 (by decide) ?_
      exact x_iretW X hr hlk rfl rfl (by decide) (by decide) dL_setWeight_16
    rw [if_neg hq] at hg
    by_cases hq : q.1 = "java/lang/IllegalArgumentException"
    · rw [if_pos hq] at hg
      cases hg
      refine x_catch (ws := picC kA ad q.2 ++ [(ao, .inl (kA 1, 1, .inr (.inl o)))]) (name := "java/lang/IllegalArgumentException") X E htab [(0, 10, 13, 19)] [] (0, 10, 17, 21) rfl (fun z hz => by
        simp only [List.mem_cons, List.not_mem_nil, or_false] at hz
        rcases hz with rfl
        · exact ⟨by decide, "java/lang/IndexOutOfBoundsException", w_379, hNC _ (by decide +kernel) _ (by decide +kernel) (by decide +kernel)⟩) (by decide +kernel) (hpc := 17) rfl (by decide) w_380 ca_IAE hce hcv (hq ▸ hcl) hP hD hS hl ?_
      refine x_astore X (lv2 := (4, .ref q9) :: [(0, .ref (ad 0)), (1, .int a1), (2, .int a2), (3, .ref ao)]) dL_setWeight_17 (by decide) rfl ?_
      refine x_iconst X (v := 2) dL_setWeight_19 (by decide) ?_
      exact x_iretW X hr hlk rfl rfl (by decide) (by decide) dL_setWeight_20
    rw [if_neg hq] at hg
    cases hg
  · have hf := hf _ ho
    cases hf
    refine x_i2l X dL_setWeight_8 ?_
    refine x_last X E.1.1 29 rfl (kf := some) (u := ()) dL_setWeight_9 (ck_t in01) (fun _ => picC kA ad w2 ++ [(ao, .inl (kA 1, 1, .inr (.inl (vp_updL o 0 (Int32.toInt64 z)))))]) rfl (fun _ _ => ?_)
    refine x_goto X (tgt := 21) dL_setWeight_10 (by decide) ?_
    refine x_iconst X (v := 0) dL_setWeight_21 (by decide) ?_
    exact x_iretW X hr hlk rfl rfl (by decide) (by decide) dL_setWeight_22
abbrev rm_L_setOpen : Room := { frames := 10, cells := 1, slots := 6, locals := 230 }
set_option maxRecDepth 100000 in
set_option maxHeartbeats 4000000 in
theorem met_L_setOpen (l : Launch) (hst : l.stackTraces = false) (D : va_G) (kA : Nat → ClassId) (ad : Nat → Nat) (ao : Nat) (fu : Nat) (w : WS) (o : (Nat → Int64)) (a1 : Int32) (a2 : Int32) (v : Int32) (w1 : WS) (o1 : (Nat → Int64)) (hf : f_L_setOpen fu w o a1 a2 = some (v, w1, o1)) (sz : Nat) : vx_Met l yL_setOpen (wsH yL_setOpen cL_setOpen 5 (some .int) [(0, 10, 13, 19)]) rm_L_setOpen (va_Pc [.ref (ad 0), .int a1, .int a2, .ref ao] (fun U => PreG D kA (picC kA ad w ++ [(ao, .inl (kA 1, 1, .inr (.inl o)))]) sz U ∧ NCs U)) (va_Qi (fun (r : Int32) (_ : Unit) => r = v) (fun _ t => PosG D (va_A (picC kA ad w ++ [(ao, .inl (kA 1, 1, .inr (.inl o)))]) sz) (picC kA ad w1 ++ [(ao, .inl (kA 1, 1, .inr (.inl o1)))]) t) (va_A (picC kA ad w ++ [(ao, .inl (kA 1, 1, .inr (.inl o)))]) sz)) (vx_X (fun (_ : Unit) => False) (fun _ _ _ => True) (va_A (picC kA ad w ++ [(ao, .inl (kA 1, 1, .inr (.inl o)))]) sz)) 1 6 (va_A (picC kA ad w ++ [(ao, .inl (kA 1, 1, .inr (.inl o)))]) sz) := by
  refine metW (own := RL) (hh := [(0, 10, 13, 19)]) hst (by decide +kernel) rfl (Nat.le_of_ble_eq_true rfl) rfl ?_
  intro p e s m below meth c X hr hlk E hNC htab
  unfold f_L_setOpen at hf
  refine x_aload_n X dL_setOpen_0 3 rfl ?_
  refine x_iconst X (v := 0) dL_setOpen_1 (by decide) ?_
  refine x_aload_n X dL_setOpen_2 0 rfl ?_
  refine x_iload_n X dL_setOpen_3 1 rfl ?_
  refine x_iload_n X dL_setOpen_4 2 rfl ?_
  obtain ⟨o9, h9, hf, hg⟩ := bx_one hf
  refine x_callXs_i X E (As := [.int a1, .int a2]) (rest := [.int 0, .ref ao]) (n := 2) (pic := picC kA ad) (w0 := w) (w3 := [(ao, .inl (kA 1, 1, .inr (.inl o)))]) (mc := 1) (ms := 6) (goodV w_510 w_511 w_512 w_47 w_513) (fun sz => met_X3_setOpen l E.2.2.2 D kA ad fu w a1 a2 o9 h9 sz) rfl rfl (by decide +kernel) ⟨by decide, by decide⟩ 0 rfl (qc := (RX3, TX3, _)) rfl rfl rfl rfl (Nat.le_of_ble_eq_true rfl) dL_setOpen_5 ⟨by decide, by decide⟩ (fun q ce q9 H1 locs1 ls ho hP hD hS hl hce hcv hcl => ?_) (fun z w2 ho => ?_)
  · have hg := hg _ ho
    by_cases hq : q.1 = "java/lang/IndexOutOfBoundsException"
    · rw [if_pos hq] at hg
      cases hg
      refine x_catch (ws := picC kA ad q.2 ++ [(ao, .inl (kA 1, 1, .inr (.inl o)))]) (name := "java/lang/IndexOutOfBoundsException") X E htab [] [] (0, 10, 13, 19) rfl (fun z hz => by simp at hz) (by decide +kernel) (hpc := 13) rfl (by decide) w_379 ca_IOB hce hcv (hq ▸ hcl) hP hD hS hl ?_
      refine x_astore X (lv2 := (4, .ref q9) :: [(0, .ref (ad 0)), (1, .int a1), (2, .int a2), (3, .ref ao)]) dL_setOpen_13 (by decide) rfl ?_
      refine x_iconst X (v := 1) dL_setOpen_15 (by decide) ?_
      exact x_iretW X hr hlk rfl rfl (by decide) (by decide) dL_setOpen_16
    rw [if_neg hq] at hg
    cases hg
  · have hf := hf _ ho
    cases hf
    refine x_i2l X dL_setOpen_8 ?_
    refine x_last X E.1.1 29 rfl (kf := some) (u := ()) dL_setOpen_9 (ck_t in01) (fun _ => picC kA ad w2 ++ [(ao, .inl (kA 1, 1, .inr (.inl (vp_updL o 0 (Int32.toInt64 z)))))]) rfl (fun _ _ => ?_)
    refine x_goto X (tgt := 17) dL_setOpen_10 (by decide) ?_
    refine x_iconst X (v := 0) dL_setOpen_17 (by decide) ?_
    exact x_iretW X hr hlk rfl rfl (by decide) (by decide) dL_setOpen_18
abbrev rm_L_setTurn : Room := { frames := 9, cells := 4, slots := 24, locals := 208 }
set_option maxRecDepth 100000 in
set_option maxHeartbeats 4000000 in
theorem met_L_setTurn (l : Launch) (hst : l.stackTraces = false) (D : va_G) (kA : Nat → ClassId) (ad : Nat → Nat) (ao : Nat) (fu : Nat) (w : WS) (o : (Nat → Int64)) (a1 : Int32) (a2 : Int32) (a3 : Int32) (v : Int32) (w1 : WS) (o1 : (Nat → Int64)) (hf : f_L_setTurn fu w o a1 a2 a3 = some (v, w1, o1)) (sz : Nat) : vx_Met l yL_setTurn (wsH yL_setTurn cL_setTurn 6 (some .int) [(0, 12, 15, 19), (0, 12, 19, 21)]) rm_L_setTurn (va_Pc [.ref (ad 0), .int a1, .int a2, .int a3, .ref ao] (fun U => PreG D kA (picC kA ad w ++ [(ao, .inl (kA 1, 1, .inr (.inl o)))]) sz U ∧ NCs U)) (va_Qi (fun (r : Int32) (_ : Unit) => r = v) (fun _ t => PosG D (va_A (picC kA ad w ++ [(ao, .inl (kA 1, 1, .inr (.inl o)))]) sz) (picC kA ad w1 ++ [(ao, .inl (kA 1, 1, .inr (.inl o1)))]) t) (va_A (picC kA ad w ++ [(ao, .inl (kA 1, 1, .inr (.inl o)))]) sz)) (vx_X (fun (_ : Unit) => False) (fun _ _ _ => True) (va_A (picC kA ad w ++ [(ao, .inl (kA 1, 1, .inr (.inl o)))]) sz)) 4 24 (va_A (picC kA ad w ++ [(ao, .inl (kA 1, 1, .inr (.inl o)))]) sz) := by
  refine metW (own := RL) (hh := [(0, 12, 15, 19), (0, 12, 19, 21)]) hst (by decide +kernel) rfl (Nat.le_of_ble_eq_true rfl) rfl ?_
  intro p e s m below meth c X hr hlk E hNC htab
  unfold f_L_setTurn at hf
  refine x_aload X dL_setTurn_0 4 rfl ?_
  refine x_iconst X (v := 0) dL_setTurn_2 (by decide) ?_
  refine x_aload_n X dL_setTurn_3 0 rfl ?_
  refine x_iload_n X dL_setTurn_4 1 rfl ?_
  refine x_iload_n X dL_setTurn_5 2 rfl ?_
  refine x_iload_n X dL_setTurn_6 3 rfl ?_
  obtain ⟨o9, h9, hf, hg⟩ := bx_one hf
  refine x_callXs_i X E (As := [.int a1, .int a2, .int a3]) (rest := [.int 0, .ref ao]) (n := 3) (pic := picC kA ad) (w0 := w) (w3 := [(ao, .inl (kA 1, 1, .inr (.inl o)))]) (mc := 4) (ms := 24) (goodV w_522 w_523 w_524 w_47 w_525) (fun sz => met_X3_setTurn l E.2.2.2 D kA ad fu w a1 a2 a3 o9 h9 sz) rfl rfl (by decide +kernel) ⟨by decide, by decide⟩ 0 rfl (qc := (RX3, TX3, _)) rfl rfl rfl rfl (Nat.le_of_ble_eq_true rfl) dL_setTurn_7 ⟨by decide, by decide⟩ (fun q ce q9 H1 locs1 ls ho hP hD hS hl hce hcv hcl => ?_) (fun z w2 ho => ?_)
  · have hg := hg _ ho
    by_cases hq : q.1 = "java/lang/IndexOutOfBoundsException"
    · rw [if_pos hq] at hg
      cases hg
      refine x_catch (ws := picC kA ad q.2 ++ [(ao, .inl (kA 1, 1, .inr (.inl o)))]) (name := "java/lang/IndexOutOfBoundsException") X E htab [] [(0, 12, 19, 21)] (0, 12, 15, 19) rfl (fun z hz => by simp at hz) (by decide +kernel) (hpc := 15) rfl (by decide) w_379 ca_IOB hce hcv (hq ▸ hcl) hP hD hS hl ?_
      refine x_astore X (lv2 := (5, .ref q9) :: [(0, .ref (ad 0)), (1, .int a1), (2, .int a2), (3, .int a3), (4, .ref ao)]) dL_setTurn_15 (by decide) rfl ?_
      refine x_iconst X (v := 1) dL_setTurn_17 (by decide) ?_
      exact x_iretW X hr hlk rfl rfl (by decide) (by decide) dL_setTurn_18
    rw [if_neg hq] at hg
    by_cases hq : q.1 = "java/lang/IllegalArgumentException"
    · rw [if_pos hq] at hg
      cases hg
      refine x_catch (ws := picC kA ad q.2 ++ [(ao, .inl (kA 1, 1, .inr (.inl o)))]) (name := "java/lang/IllegalArgumentException") X E htab [(0, 12, 15, 19)] [] (0, 12, 19, 21) rfl (fun z hz => by
        simp only [List.mem_cons, List.not_mem_nil, or_false] at hz
        rcases hz with rfl
        · exact ⟨by decide, "java/lang/IndexOutOfBoundsException", w_379, hNC _ (by decide +kernel) _ (by decide +kernel) (by decide +kernel)⟩) (by decide +kernel) (hpc := 19) rfl (by decide) w_380 ca_IAE hce hcv (hq ▸ hcl) hP hD hS hl ?_
      refine x_astore X (lv2 := (5, .ref q9) :: [(0, .ref (ad 0)), (1, .int a1), (2, .int a2), (3, .int a3), (4, .ref ao)]) dL_setTurn_19 (by decide) rfl ?_
      refine x_iconst X (v := 2) dL_setTurn_21 (by decide) ?_
      exact x_iretW X hr hlk rfl rfl (by decide) (by decide) dL_setTurn_22
    rw [if_neg hq] at hg
    cases hg
  · have hf := hf _ ho
    cases hf
    refine x_i2l X dL_setTurn_10 ?_
    refine x_last X E.1.1 29 rfl (kf := some) (u := ()) dL_setTurn_11 (ck_t in01) (fun _ => picC kA ad w2 ++ [(ao, .inl (kA 1, 1, .inr (.inl (vp_updL o 0 (Int32.toInt64 z)))))]) rfl (fun _ _ => ?_)
    refine x_goto X (tgt := 23) dL_setTurn_12 (by decide) ?_
    refine x_iconst X (v := 0) dL_setTurn_23 (by decide) ?_
    exact x_iretW X hr hlk rfl rfl (by decide) (by decide) dL_setTurn_24
abbrev rm_L_setUTurn : Room := { frames := 9, cells := 1, slots := 6, locals := 204 }
set_option maxRecDepth 100000 in
set_option maxHeartbeats 4000000 in
theorem met_L_setUTurn (l : Launch) (hst : l.stackTraces = false) (D : va_G) (kA : Nat → ClassId) (ad : Nat → Nat) (ao : Nat) (fu : Nat) (w : WS) (o : (Nat → Int64)) (a1 : Int32) (v : Int32) (w1 : WS) (o1 : (Nat → Int64)) (hf : f_L_setUTurn fu w o a1 = some (v, w1, o1)) (sz : Nat) : vx_Met l yL_setUTurn (wsH yL_setUTurn cL_setUTurn 4 (some .int) [(0, 9, 12, 21)]) rm_L_setUTurn (va_Pc [.ref (ad 0), .int a1, .ref ao] (fun U => PreG D kA (picC kA ad w ++ [(ao, .inl (kA 1, 1, .inr (.inl o)))]) sz U ∧ NCs U)) (va_Qi (fun (r : Int32) (_ : Unit) => r = v) (fun _ t => PosG D (va_A (picC kA ad w ++ [(ao, .inl (kA 1, 1, .inr (.inl o)))]) sz) (picC kA ad w1 ++ [(ao, .inl (kA 1, 1, .inr (.inl o1)))]) t) (va_A (picC kA ad w ++ [(ao, .inl (kA 1, 1, .inr (.inl o)))]) sz)) (vx_X (fun (_ : Unit) => False) (fun _ _ _ => True) (va_A (picC kA ad w ++ [(ao, .inl (kA 1, 1, .inr (.inl o)))]) sz)) 1 6 (va_A (picC kA ad w ++ [(ao, .inl (kA 1, 1, .inr (.inl o)))]) sz) := by
  refine metW (own := RL) (hh := [(0, 9, 12, 21)]) hst (by decide +kernel) rfl (Nat.le_of_ble_eq_true rfl) rfl ?_
  intro p e s m below meth c X hr hlk E hNC htab
  unfold f_L_setUTurn at hf
  refine x_aload_n X dL_setUTurn_0 2 rfl ?_
  refine x_iconst X (v := 0) dL_setUTurn_1 (by decide) ?_
  refine x_aload_n X dL_setUTurn_2 0 rfl ?_
  refine x_iload_n X dL_setUTurn_3 1 rfl ?_
  obtain ⟨o9, h9, hf, hg⟩ := bx_one hf
  refine x_callXs_i X E (As := [.int a1]) (rest := [.int 0, .ref ao]) (n := 1) (pic := picC kA ad) (w0 := w) (w3 := [(ao, .inl (kA 1, 1, .inr (.inl o)))]) (mc := 1) (ms := 6) (goodV w_540 w_541 w_542 w_47 w_543) (fun sz => met_X3_setUTurn l E.2.2.2 D kA ad fu w a1 o9 h9 sz) rfl rfl (by decide +kernel) ⟨by decide, by decide⟩ 0 rfl (qc := (RX3, TX3, _)) rfl rfl rfl rfl (Nat.le_of_ble_eq_true rfl) dL_setUTurn_4 ⟨by decide, by decide⟩ (fun q ce q9 H1 locs1 ls ho hP hD hS hl hce hcv hcl => ?_) (fun z w2 ho => ?_)
  · have hg := hg _ ho
    by_cases hq : q.1 = "java/lang/IllegalArgumentException"
    · rw [if_pos hq] at hg
      cases hg
      refine x_catch (ws := picC kA ad q.2 ++ [(ao, .inl (kA 1, 1, .inr (.inl o)))]) (name := "java/lang/IllegalArgumentException") X E htab [] [] (0, 9, 12, 21) rfl (fun z hz => by simp at hz) (by decide +kernel) (hpc := 12) rfl (by decide) w_380 ca_IAE hce hcv (hq ▸ hcl) hP hD hS hl ?_
      refine x_astore_n X (lv2 := (3, .ref q9) :: [(0, .ref (ad 0)), (1, .int a1), (2, .ref ao)]) dL_setUTurn_12 (by decide) rfl ?_
      refine x_iconst X (v := 1) dL_setUTurn_13 (by decide) ?_
      exact x_iretW X hr hlk rfl rfl (by decide) (by decide) dL_setUTurn_14
    rw [if_neg hq] at hg
    cases hg
  · have hf := hf _ ho
    cases hf
    refine x_i2l X dL_setUTurn_7 ?_
    refine x_last X E.1.1 29 rfl (kf := some) (u := ()) dL_setUTurn_8 (ck_t in01) (fun _ => picC kA ad w2 ++ [(ao, .inl (kA 1, 1, .inr (.inl (vp_updL o 0 (Int32.toInt64 z)))))]) rfl (fun _ _ => ?_)
    refine x_goto X (tgt := 15) dL_setUTurn_9 (by decide) ?_
    refine x_iconst X (v := 0) dL_setUTurn_15 (by decide) ?_
    exact x_iretW X hr hlk rfl rfl (by decide) (by decide) dL_setUTurn_16
abbrev rm_L_weight : Room := { frames := 8, cells := 1, slots := 6, locals := 132 }
set_option maxRecDepth 100000 in
set_option maxHeartbeats 4000000 in
theorem met_L_weight (l : Launch) (hst : l.stackTraces = false) (D : va_G) (kA : Nat → ClassId) (ad : Nat → Nat) (ao : Nat) (fu : Nat) (w : WS) (o : (Nat → Int64)) (a1 : Int32) (v : Int32) (w1 : WS) (o1 : (Nat → Int64)) (hf : f_L_weight fu w o a1 = some (v, w1, o1)) (sz : Nat) : vx_Met l yL_weight (wsH yL_weight cL_weight 4 (some .int) [(0, 9, 12, 19)]) rm_L_weight (va_Pc [.ref (ad 0), .int a1, .ref ao] (fun U => PreG D kA (picC kA ad w ++ [(ao, .inl (kA 1, 1, .inr (.inl o)))]) sz U ∧ NCs U)) (va_Qi (fun (r : Int32) (_ : Unit) => r = v) (fun _ t => PosG D (va_A (picC kA ad w ++ [(ao, .inl (kA 1, 1, .inr (.inl o)))]) sz) (picC kA ad w1 ++ [(ao, .inl (kA 1, 1, .inr (.inl o1)))]) t) (va_A (picC kA ad w ++ [(ao, .inl (kA 1, 1, .inr (.inl o)))]) sz)) (vx_X (fun (_ : Unit) => False) (fun _ _ _ => True) (va_A (picC kA ad w ++ [(ao, .inl (kA 1, 1, .inr (.inl o)))]) sz)) 1 6 (va_A (picC kA ad w ++ [(ao, .inl (kA 1, 1, .inr (.inl o)))]) sz) := by
  refine metW (own := RL) (hh := [(0, 9, 12, 19)]) hst (by decide +kernel) rfl (Nat.le_of_ble_eq_true rfl) rfl ?_
  intro p e s m below meth c X hr hlk E hNC htab
  unfold f_L_weight at hf
  refine x_aload_n X dL_weight_0 2 rfl ?_
  refine x_iconst X (v := 0) dL_weight_1 (by decide) ?_
  refine x_aload_n X dL_weight_2 0 rfl ?_
  refine x_iload_n X dL_weight_3 1 rfl ?_
  obtain ⟨o9, h9, hf, hg⟩ := bx_one hf
  refine x_callXs_i X E (As := [.int a1]) (rest := [.int 0, .ref ao]) (n := 1) (pic := picC kA ad) (w0 := w) (w3 := [(ao, .inl (kA 1, 1, .inr (.inl o)))]) (mc := 1) (ms := 6) (goodV w_557 w_558 w_559 w_47 w_560) (fun sz => met_X3_weight l E.2.2.2 D kA ad fu w a1 o9 h9 sz) rfl rfl (by decide +kernel) ⟨by decide, by decide⟩ 0 rfl (qc := (RX3, TX3, _)) rfl rfl rfl rfl (Nat.le_of_ble_eq_true rfl) dL_weight_4 ⟨by decide, by decide⟩ (fun q ce q9 H1 locs1 ls ho hP hD hS hl hce hcv hcl => ?_) (fun z w2 ho => ?_)
  · have hg := hg _ ho
    by_cases hq : q.1 = "java/lang/IndexOutOfBoundsException"
    · rw [if_pos hq] at hg
      cases hg
      refine x_catch (ws := picC kA ad q.2 ++ [(ao, .inl (kA 1, 1, .inr (.inl o)))]) (name := "java/lang/IndexOutOfBoundsException") X E htab [] [] (0, 9, 12, 19) rfl (fun z hz => by simp at hz) (by decide +kernel) (hpc := 12) rfl (by decide) w_379 ca_IOB hce hcv (hq ▸ hcl) hP hD hS hl ?_
      refine x_astore_n X (lv2 := (3, .ref q9) :: [(0, .ref (ad 0)), (1, .int a1), (2, .ref ao)]) dL_weight_12 (by decide) rfl ?_
      refine x_iconst X (v := 1) dL_weight_13 (by decide) ?_
      exact x_iretW X hr hlk rfl rfl (by decide) (by decide) dL_weight_14
    rw [if_neg hq] at hg
    cases hg
  · have hf := hf _ ho
    cases hf
    refine x_i2l X dL_weight_7 ?_
    refine x_last X E.1.1 29 rfl (kf := some) (u := ()) dL_weight_8 (ck_t in01) (fun _ => picC kA ad w2 ++ [(ao, .inl (kA 1, 1, .inr (.inl (vp_updL o 0 (Int32.toInt64 z)))))]) rfl (fun _ _ => ?_)
    refine x_goto X (tgt := 15) dL_weight_9 (by decide) ?_
    refine x_iconst X (v := 0) dL_weight_15 (by decide) ?_
    exact x_iretW X hr hlk rfl rfl (by decide) (by decide) dL_weight_16
abbrev rm_L_isOpen : Room := { frames := 8, cells := 1, slots := 6, locals := 132 }
set_option maxRecDepth 100000 in
set_option maxHeartbeats 4000000 in
theorem met_L_isOpen (l : Launch) (hst : l.stackTraces = false) (D : va_G) (kA : Nat → ClassId) (ad : Nat → Nat) (ao : Nat) (fu : Nat) (w : WS) (o : (Nat → Int64)) (a1 : Int32) (v : Int32) (w1 : WS) (o1 : (Nat → Int64)) (hf : f_L_isOpen fu w o a1 = some (v, w1, o1)) (sz : Nat) : vx_Met l yL_isOpen (wsH yL_isOpen cL_isOpen 4 (some .int) [(0, 16, 19, 19)]) rm_L_isOpen (va_Pc [.ref (ad 0), .int a1, .ref ao] (fun U => PreG D kA (picC kA ad w ++ [(ao, .inl (kA 1, 1, .inr (.inl o)))]) sz U ∧ NCs U)) (va_Qi (fun (r : Int32) (_ : Unit) => r = v) (fun _ t => PosG D (va_A (picC kA ad w ++ [(ao, .inl (kA 1, 1, .inr (.inl o)))]) sz) (picC kA ad w1 ++ [(ao, .inl (kA 1, 1, .inr (.inl o1)))]) t) (va_A (picC kA ad w ++ [(ao, .inl (kA 1, 1, .inr (.inl o)))]) sz)) (vx_X (fun (_ : Unit) => False) (fun _ _ _ => True) (va_A (picC kA ad w ++ [(ao, .inl (kA 1, 1, .inr (.inl o)))]) sz)) 1 6 (va_A (picC kA ad w ++ [(ao, .inl (kA 1, 1, .inr (.inl o)))]) sz) := by
  refine metW (own := RL) (hh := [(0, 16, 19, 19)]) hst (by decide +kernel) rfl (Nat.le_of_ble_eq_true rfl) rfl ?_
  intro p e s m below meth c X hr hlk E hNC htab
  unfold f_L_isOpen at hf
  refine x_aload_n X dL_isOpen_0 2 rfl ?_
  refine x_iconst X (v := 0) dL_isOpen_1 (by decide) ?_
  refine x_aload_n X dL_isOpen_2 0 rfl ?_
  refine x_iload_n X dL_isOpen_3 1 rfl ?_
  obtain ⟨o9, h9, hf, hg⟩ := bx_one hf
  refine x_callXs_i X E (As := [.int a1]) (rest := [.int 0, .ref ao]) (n := 1) (pic := picC kA ad) (w0 := w) (w3 := [(ao, .inl (kA 1, 1, .inr (.inl o)))]) (mc := 1) (ms := 6) (goodV w_564 w_565 w_566 w_47 w_567) (fun sz => met_X3_isOpen l E.2.2.2 D kA ad fu w a1 o9 h9 sz) rfl rfl (by decide +kernel) ⟨by decide, by decide⟩ 0 rfl (qc := (RX3, TX3, _)) rfl rfl rfl rfl (Nat.le_of_ble_eq_true rfl) dL_isOpen_4 ⟨by decide, by decide⟩ (fun q ce q9 H1 locs1 ls ho hP hD hS hl hce hcv hcl => ?_) (fun z w2 ho => ?_)
  · have hg := hg _ ho
    by_cases hq : q.1 = "java/lang/IndexOutOfBoundsException"
    · rw [if_pos hq] at hg
      cases hg
      refine x_catch (ws := picC kA ad q.2 ++ [(ao, .inl (kA 1, 1, .inr (.inl o)))]) (name := "java/lang/IndexOutOfBoundsException") X E htab [] [] (0, 16, 19, 19) rfl (fun z hz => by simp at hz) (by decide +kernel) (hpc := 19) rfl (by decide) w_379 ca_IOB hce hcv (hq ▸ hcl) hP hD hS hl ?_
      refine x_astore_n X (lv2 := (3, .ref q9) :: [(0, .ref (ad 0)), (1, .int a1), (2, .ref ao)]) dL_isOpen_19 (by decide) rfl ?_
      refine x_iconst X (v := 1) dL_isOpen_20 (by decide) ?_
      exact x_iretW X hr hlk rfl rfl (by decide) (by decide) dL_isOpen_21
    rw [if_neg hq] at hg
    cases hg
  · have hf := hf _ ho
    cases hf
    by_cases hz : z = 0
    · refine x_if_eq_t X (tgt := 14) dL_isOpen_7 (by decide) hz ?_
      refine x_lconst X (v := 0) dL_isOpen_14 (by decide) ?_
      refine x_last X E.1.1 29 rfl (kf := some) (u := ()) dL_isOpen_15 (ck_t in01) (fun _ => picC kA ad w2 ++ [(ao, .inl (kA 1, 1, .inr (.inl (vp_updL o 0 (if z = 0 then 0 else 1)))))]) (by rw [if_pos hz]; rfl) (fun _ _ => ?_)
      refine x_goto X (tgt := 22) dL_isOpen_16 (by decide) ?_
      refine x_iconst X (v := 0) dL_isOpen_22 (by decide) ?_
      exact x_iretW X hr hlk rfl rfl (by decide) (by decide) dL_isOpen_23
    · refine x_if_eq_f X (tgt := 14) dL_isOpen_7 (by decide) hz ?_
      refine x_lconst X (v := 1) dL_isOpen_10 (by decide) ?_
      refine x_goto X (tgt := 15) dL_isOpen_11 (by decide) ?_
      refine x_last X E.1.1 29 rfl (kf := some) (u := ()) dL_isOpen_15 (ck_t in01) (fun _ => picC kA ad w2 ++ [(ao, .inl (kA 1, 1, .inr (.inl (vp_updL o 0 (if z = 0 then 0 else 1)))))]) (by rw [if_neg hz]; rfl) (fun _ _ => ?_)
      refine x_goto X (tgt := 22) dL_isOpen_16 (by decide) ?_
      refine x_iconst X (v := 0) dL_isOpen_22 (by decide) ?_
      exact x_iretW X hr hlk rfl rfl (by decide) (by decide) dL_isOpen_23
abbrev rm_L_turnPenalty : Room := { frames := 9, cells := 3, slots := 18, locals := 155 }
set_option maxRecDepth 100000 in
set_option maxHeartbeats 4000000 in
theorem met_L_turnPenalty (l : Launch) (hst : l.stackTraces = false) (D : va_G) (kA : Nat → ClassId) (ad : Nat → Nat) (ao : Nat) (fu : Nat) (w : WS) (o : (Nat → Int64)) (a1 : Int32) (a2 : Int32) (v : Int32) (w1 : WS) (o1 : (Nat → Int64)) (hf : f_L_turnPenalty fu w o a1 a2 = some (v, w1, o1)) (sz : Nat) : vx_Met l yL_turnPenalty (wsH yL_turnPenalty cL_turnPenalty 5 (some .int) [(0, 10, 13, 19), (0, 10, 17, 21)]) rm_L_turnPenalty (va_Pc [.ref (ad 0), .int a1, .int a2, .ref ao] (fun U => PreG D kA (picC kA ad w ++ [(ao, .inl (kA 1, 1, .inr (.inl o)))]) sz U ∧ NCs U)) (va_Qi (fun (r : Int32) (_ : Unit) => r = v) (fun _ t => PosG D (va_A (picC kA ad w ++ [(ao, .inl (kA 1, 1, .inr (.inl o)))]) sz) (picC kA ad w1 ++ [(ao, .inl (kA 1, 1, .inr (.inl o1)))]) t) (va_A (picC kA ad w ++ [(ao, .inl (kA 1, 1, .inr (.inl o)))]) sz)) (vx_X (fun (_ : Unit) => False) (fun _ _ _ => True) (va_A (picC kA ad w ++ [(ao, .inl (kA 1, 1, .inr (.inl o)))]) sz)) 3 18 (va_A (picC kA ad w ++ [(ao, .inl (kA 1, 1, .inr (.inl o)))]) sz) := by
  refine metW (own := RL) (hh := [(0, 10, 13, 19), (0, 10, 17, 21)]) hst (by decide +kernel) rfl (Nat.le_of_ble_eq_true rfl) rfl ?_
  intro p e s m below meth c X hr hlk E hNC htab
  unfold f_L_turnPenalty at hf
  refine x_aload_n X dL_turnPenalty_0 3 rfl ?_
  refine x_iconst X (v := 0) dL_turnPenalty_1 (by decide) ?_
  refine x_aload_n X dL_turnPenalty_2 0 rfl ?_
  refine x_iload_n X dL_turnPenalty_3 1 rfl ?_
  refine x_iload_n X dL_turnPenalty_4 2 rfl ?_
  obtain ⟨o9, h9, hf, hg⟩ := bx_one hf
  refine x_callXs_i X E (As := [.int a1, .int a2]) (rest := [.int 0, .ref ao]) (n := 2) (pic := picC kA ad) (w0 := w) (w3 := [(ao, .inl (kA 1, 1, .inr (.inl o)))]) (mc := 3) (ms := 18) (goodV w_571 w_572 w_573 w_47 w_574) (fun sz => met_X3_turnPenalty l E.2.2.2 D kA ad fu w a1 a2 o9 h9 sz) rfl rfl (by decide +kernel) ⟨by decide, by decide⟩ 0 rfl (qc := (RX3, TX3, _)) rfl rfl rfl rfl (Nat.le_of_ble_eq_true rfl) dL_turnPenalty_5 ⟨by decide, by decide⟩ (fun q ce q9 H1 locs1 ls ho hP hD hS hl hce hcv hcl => ?_) (fun z w2 ho => ?_)
  · have hg := hg _ ho
    by_cases hq : q.1 = "java/lang/IndexOutOfBoundsException"
    · rw [if_pos hq] at hg
      cases hg
      refine x_catch (ws := picC kA ad q.2 ++ [(ao, .inl (kA 1, 1, .inr (.inl o)))]) (name := "java/lang/IndexOutOfBoundsException") X E htab [] [(0, 10, 17, 21)] (0, 10, 13, 19) rfl (fun z hz => by simp at hz) (by decide +kernel) (hpc := 13) rfl (by decide) w_379 ca_IOB hce hcv (hq ▸ hcl) hP hD hS hl ?_
      refine x_astore X (lv2 := (4, .ref q9) :: [(0, .ref (ad 0)), (1, .int a1), (2, .int a2), (3, .ref ao)]) dL_turnPenalty_13 (by decide) rfl ?_
      refine x_iconst X (v := 1) dL_turnPenalty_15 (by decide) ?_
      exact x_iretW X hr hlk rfl rfl (by decide) (by decide) dL_turnPenalty_16
    rw [if_neg hq] at hg
    by_cases hq : q.1 = "java/lang/IllegalArgumentException"
    · rw [if_pos hq] at hg
      cases hg
      refine x_catch (ws := picC kA ad q.2 ++ [(ao, .inl (kA 1, 1, .inr (.inl o)))]) (name := "java/lang/IllegalArgumentException") X E htab [(0, 10, 13, 19)] [] (0, 10, 17, 21) rfl (fun z hz => by
        simp only [List.mem_cons, List.not_mem_nil, or_false] at hz
        rcases hz with rfl
        · exact ⟨by decide, "java/lang/IndexOutOfBoundsException", w_379, hNC _ (by decide +kernel) _ (by decide +kernel) (by decide +kernel)⟩) (by decide +kernel) (hpc := 17) rfl (by decide) w_380 ca_IAE hce hcv (hq ▸ hcl) hP hD hS hl ?_
      refine x_astore X (lv2 := (4, .ref q9) :: [(0, .ref (ad 0)), (1, .int a1), (2, .int a2), (3, .ref ao)]) dL_turnPenalty_17 (by decide) rfl ?_
      refine x_iconst X (v := 2) dL_turnPenalty_19 (by decide) ?_
      exact x_iretW X hr hlk rfl rfl (by decide) (by decide) dL_turnPenalty_20
    rw [if_neg hq] at hg
    cases hg
  · have hf := hf _ ho
    cases hf
    refine x_i2l X dL_turnPenalty_8 ?_
    refine x_last X E.1.1 29 rfl (kf := some) (u := ()) dL_turnPenalty_9 (ck_t in01) (fun _ => picC kA ad w2 ++ [(ao, .inl (kA 1, 1, .inr (.inl (vp_updL o 0 (Int32.toInt64 z)))))]) rfl (fun _ _ => ?_)
    refine x_goto X (tgt := 21) dL_turnPenalty_10 (by decide) ?_
    refine x_iconst X (v := 0) dL_turnPenalty_21 (by decide) ?_
    exact x_iretW X hr hlk rfl rfl (by decide) (by decide) dL_turnPenalty_22
abbrev rm_L_prepare : Room := { frames := 10, cells := 1, slots := 6, locals := 228 }
set_option maxRecDepth 100000 in
set_option maxHeartbeats 4000000 in
theorem met_L_prepare (l : Launch) (hst : l.stackTraces = false) (D : va_G) (kA : Nat → ClassId) (ad : Nat → Nat) (ao : Nat) (fu : Nat) (w : WS) (o : (Nat → Int64))  (v : Int32) (w1 : WS) (o1 : (Nat → Int64)) (hf : f_L_prepare fu w o = some (v, w1, o1)) (sz : Nat) : vx_Met l yL_prepare (wsH yL_prepare cL_prepare 3 (some .int) [(0, 8, 11, 13)]) rm_L_prepare (va_Pc [.ref (ad 0), .ref ao] (fun U => PreG D kA (picC kA ad w ++ [(ao, .inl (kA 1, 1, .inr (.inl o)))]) sz U ∧ NCs U)) (va_Qi (fun (r : Int32) (_ : Unit) => r = v) (fun _ t => PosG D (va_A (picC kA ad w ++ [(ao, .inl (kA 1, 1, .inr (.inl o)))]) sz) (picC kA ad w1 ++ [(ao, .inl (kA 1, 1, .inr (.inl o1)))]) t) (va_A (picC kA ad w ++ [(ao, .inl (kA 1, 1, .inr (.inl o)))]) sz)) (vx_X (fun (_ : Unit) => False) (fun _ _ _ => True) (va_A (picC kA ad w ++ [(ao, .inl (kA 1, 1, .inr (.inl o)))]) sz)) 1 6 (va_A (picC kA ad w ++ [(ao, .inl (kA 1, 1, .inr (.inl o)))]) sz) := by
  refine metW (own := RL) (hh := [(0, 8, 11, 13)]) hst (by decide +kernel) rfl (Nat.le_of_ble_eq_true rfl) rfl ?_
  intro p e s m below meth c X hr hlk E hNC htab
  unfold f_L_prepare at hf
  refine x_aload_n X dL_prepare_0 1 rfl ?_
  refine x_iconst X (v := 0) dL_prepare_1 (by decide) ?_
  refine x_aload_n X dL_prepare_2 0 rfl ?_
  obtain ⟨o9, h9, hf, hg⟩ := bx_one hf
  refine x_callXs_i X E (As := []) (rest := [.int 0, .ref ao]) (n := 0) (pic := picC kA ad) (w0 := w) (w3 := [(ao, .inl (kA 1, 1, .inr (.inl o)))]) (mc := 1) (ms := 6) (goodV w_579 w_580 w_581 w_47 w_582) (fun sz => met_X3_prepare l E.2.2.2 D kA ad fu w o9 h9 sz) rfl rfl (by decide +kernel) ⟨by decide, by decide⟩ 0 rfl (qc := (RX3, TX3, _)) rfl rfl rfl rfl (Nat.le_of_ble_eq_true rfl) dL_prepare_3 ⟨by decide, by decide⟩ (fun q ce q9 H1 locs1 ls ho hP hD hS hl hce hcv hcl => ?_) (fun z w2 ho => ?_)
  · have hg := hg _ ho
    by_cases hq : q.1 = "java/lang/IllegalStateException"
    · rw [if_pos hq] at hg
      cases hg
      refine x_catch (ws := picC kA ad q.2 ++ [(ao, .inl (kA 1, 1, .inr (.inl o)))]) (name := "java/lang/IllegalStateException") X E htab [] [] (0, 8, 11, 13) rfl (fun z hz => by simp at hz) (by decide +kernel) (hpc := 11) rfl (by decide) w_302 ca_ISE hce hcv (hq ▸ hcl) hP hD hS hl ?_
      refine x_astore_n X (lv2 := (2, .ref q9) :: [(0, .ref (ad 0)), (1, .ref ao)]) dL_prepare_11 (by decide) rfl ?_
      refine x_iconst X (v := 1) dL_prepare_12 (by decide) ?_
      exact x_iretW X hr hlk rfl rfl (by decide) (by decide) dL_prepare_13
    rw [if_neg hq] at hg
    cases hg
  · have hf := hf _ ho
    cases hf
    refine x_i2l X dL_prepare_6 ?_
    refine x_last X E.1.1 29 rfl (kf := some) (u := ()) dL_prepare_7 (ck_t in01) (fun _ => picC kA ad w2 ++ [(ao, .inl (kA 1, 1, .inr (.inl (vp_updL o 0 (Int32.toInt64 z)))))]) rfl (fun _ _ => ?_)
    refine x_goto X (tgt := 14) dL_prepare_8 (by decide) ?_
    refine x_iconst X (v := 0) dL_prepare_14 (by decide) ?_
    exact x_iretW X hr hlk rfl rfl (by decide) (by decide) dL_prepare_15
abbrev rm_L_position : Room := { frames := 8, cells := 2, slots := 12, locals := 132 }
set_option maxRecDepth 100000 in
set_option maxHeartbeats 4000000 in
theorem met_L_position (l : Launch) (hst : l.stackTraces = false) (D : va_G) (kA : Nat → ClassId) (ad : Nat → Nat) (ao : Nat) (fu : Nat) (w : WS) (o : (Nat → Int64)) (a1 : Int32) (v : Int32) (w1 : WS) (o1 : (Nat → Int64)) (hf : f_L_position fu w o a1 = some (v, w1, o1)) (sz : Nat) : vx_Met l yL_position (wsH yL_position cL_position 4 (some .int) [(0, 9, 12, 13), (0, 9, 15, 19)]) rm_L_position (va_Pc [.ref (ad 0), .int a1, .ref ao] (fun U => PreG D kA (picC kA ad w ++ [(ao, .inl (kA 1, 1, .inr (.inl o)))]) sz U ∧ NCs U)) (va_Qi (fun (r : Int32) (_ : Unit) => r = v) (fun _ t => PosG D (va_A (picC kA ad w ++ [(ao, .inl (kA 1, 1, .inr (.inl o)))]) sz) (picC kA ad w1 ++ [(ao, .inl (kA 1, 1, .inr (.inl o1)))]) t) (va_A (picC kA ad w ++ [(ao, .inl (kA 1, 1, .inr (.inl o)))]) sz)) (vx_X (fun (_ : Unit) => False) (fun _ _ _ => True) (va_A (picC kA ad w ++ [(ao, .inl (kA 1, 1, .inr (.inl o)))]) sz)) 2 12 (va_A (picC kA ad w ++ [(ao, .inl (kA 1, 1, .inr (.inl o)))]) sz) := by
  refine metW (own := RL) (hh := [(0, 9, 12, 13), (0, 9, 15, 19)]) hst (by decide +kernel) rfl (Nat.le_of_ble_eq_true rfl) rfl ?_
  intro p e s m below meth c X hr hlk E hNC htab
  unfold f_L_position at hf
  refine x_aload_n X dL_position_0 2 rfl ?_
  refine x_iconst X (v := 0) dL_position_1 (by decide) ?_
  refine x_aload_n X dL_position_2 0 rfl ?_
  refine x_iload_n X dL_position_3 1 rfl ?_
  obtain ⟨o9, h9, hf, hg⟩ := bx_one hf
  refine x_callXs_i X E (As := [.int a1]) (rest := [.int 0, .ref ao]) (n := 1) (pic := picC kA ad) (w0 := w) (w3 := [(ao, .inl (kA 1, 1, .inr (.inl o)))]) (mc := 2) (ms := 12) (goodV w_612 w_613 w_614 w_47 w_615) (fun sz => met_X3_position l E.2.2.2 D kA ad fu w a1 o9 h9 sz) rfl rfl (by decide +kernel) ⟨by decide, by decide⟩ 0 rfl (qc := (RX3, TX3, _)) rfl rfl rfl rfl (Nat.le_of_ble_eq_true rfl) dL_position_4 ⟨by decide, by decide⟩ (fun q ce q9 H1 locs1 ls ho hP hD hS hl hce hcv hcl => ?_) (fun z w2 ho => ?_)
  · have hg := hg _ ho
    by_cases hq : q.1 = "java/lang/IllegalStateException"
    · rw [if_pos hq] at hg
      cases hg
      refine x_catch (ws := picC kA ad q.2 ++ [(ao, .inl (kA 1, 1, .inr (.inl o)))]) (name := "java/lang/IllegalStateException") X E htab [] [(0, 9, 15, 19)] (0, 9, 12, 13) rfl (fun z hz => by simp at hz) (by decide +kernel) (hpc := 12) rfl (by decide) w_302 ca_ISE hce hcv (hq ▸ hcl) hP hD hS hl ?_
      refine x_astore_n X (lv2 := (3, .ref q9) :: [(0, .ref (ad 0)), (1, .int a1), (2, .ref ao)]) dL_position_12 (by decide) rfl ?_
      refine x_iconst X (v := 1) dL_position_13 (by decide) ?_
      exact x_iretW X hr hlk rfl rfl (by decide) (by decide) dL_position_14
    rw [if_neg hq] at hg
    by_cases hq : q.1 = "java/lang/IndexOutOfBoundsException"
    · rw [if_pos hq] at hg
      cases hg
      refine x_catch (ws := picC kA ad q.2 ++ [(ao, .inl (kA 1, 1, .inr (.inl o)))]) (name := "java/lang/IndexOutOfBoundsException") X E htab [(0, 9, 12, 13)] [] (0, 9, 15, 19) rfl (fun z hz => by
        simp only [List.mem_cons, List.not_mem_nil, or_false] at hz
        rcases hz with rfl
        · exact ⟨by decide, "java/lang/IllegalStateException", w_302, hNC _ (by decide +kernel) _ (by decide +kernel) (by decide +kernel)⟩) (by decide +kernel) (hpc := 15) rfl (by decide) w_379 ca_IOB hce hcv (hq ▸ hcl) hP hD hS hl ?_
      refine x_astore_n X (lv2 := (3, .ref q9) :: [(0, .ref (ad 0)), (1, .int a1), (2, .ref ao)]) dL_position_15 (by decide) rfl ?_
      refine x_iconst X (v := 2) dL_position_16 (by decide) ?_
      exact x_iretW X hr hlk rfl rfl (by decide) (by decide) dL_position_17
    rw [if_neg hq] at hg
    cases hg
  · have hf := hf _ ho
    cases hf
    refine x_i2l X dL_position_7 ?_
    refine x_last X E.1.1 29 rfl (kf := some) (u := ()) dL_position_8 (ck_t in01) (fun _ => picC kA ad w2 ++ [(ao, .inl (kA 1, 1, .inr (.inl (vp_updL o 0 (Int32.toInt64 z)))))]) rfl (fun _ _ => ?_)
    refine x_goto X (tgt := 18) dL_position_9 (by decide) ?_
    refine x_iconst X (v := 0) dL_position_18 (by decide) ?_
    exact x_iretW X hr hlk rfl rfl (by decide) (by decide) dL_position_19
abbrev rm_L_hasArc : Room := { frames := 8, cells := 3, slots := 18, locals := 133 }
set_option maxRecDepth 100000 in
set_option maxHeartbeats 4000000 in
theorem met_L_hasArc (l : Launch) (hst : l.stackTraces = false) (D : va_G) (kA : Nat → ClassId) (ad : Nat → Nat) (ao : Nat) (fu : Nat) (w : WS) (o : (Nat → Int64)) (a1 : Int32) (a2 : Int32) (v : Int32) (w1 : WS) (o1 : (Nat → Int64)) (hf : f_L_hasArc fu w o a1 a2 = some (v, w1, o1)) (sz : Nat) : vx_Met l yL_hasArc (wsH yL_hasArc cL_hasArc 5 (some .int) [(0, 17, 20, 13), (0, 17, 24, 19)]) rm_L_hasArc (va_Pc [.ref (ad 0), .int a1, .int a2, .ref ao] (fun U => PreG D kA (picC kA ad w ++ [(ao, .inl (kA 1, 1, .inr (.inl o)))]) sz U ∧ NCs U)) (va_Qi (fun (r : Int32) (_ : Unit) => r = v) (fun _ t => PosG D (va_A (picC kA ad w ++ [(ao, .inl (kA 1, 1, .inr (.inl o)))]) sz) (picC kA ad w1 ++ [(ao, .inl (kA 1, 1, .inr (.inl o1)))]) t) (va_A (picC kA ad w ++ [(ao, .inl (kA 1, 1, .inr (.inl o)))]) sz)) (vx_X (fun (_ : Unit) => False) (fun _ _ _ => True) (va_A (picC kA ad w ++ [(ao, .inl (kA 1, 1, .inr (.inl o)))]) sz)) 3 18 (va_A (picC kA ad w ++ [(ao, .inl (kA 1, 1, .inr (.inl o)))]) sz) := by
  refine metW (own := RL) (hh := [(0, 17, 20, 13), (0, 17, 24, 19)]) hst (by decide +kernel) rfl (Nat.le_of_ble_eq_true rfl) rfl ?_
  intro p e s m below meth c X hr hlk E hNC htab
  unfold f_L_hasArc at hf
  refine x_aload_n X dL_hasArc_0 3 rfl ?_
  refine x_iconst X (v := 0) dL_hasArc_1 (by decide) ?_
  refine x_aload_n X dL_hasArc_2 0 rfl ?_
  refine x_iload_n X dL_hasArc_3 1 rfl ?_
  refine x_iload_n X dL_hasArc_4 2 rfl ?_
  obtain ⟨o9, h9, hf, hg⟩ := bx_one hf
  refine x_callXs_i X E (As := [.int a1, .int a2]) (rest := [.int 0, .ref ao]) (n := 2) (pic := picC kA ad) (w0 := w) (w3 := [(ao, .inl (kA 1, 1, .inr (.inl o)))]) (mc := 3) (ms := 18) (goodV w_624 w_625 w_626 w_47 w_627) (fun sz => met_X3_hasArc l E.2.2.2 D kA ad fu w a1 a2 o9 h9 sz) rfl rfl (by decide +kernel) ⟨by decide, by decide⟩ 0 rfl (qc := (RX3, TX3, _)) rfl rfl rfl rfl (Nat.le_of_ble_eq_true rfl) dL_hasArc_5 ⟨by decide, by decide⟩ (fun q ce q9 H1 locs1 ls ho hP hD hS hl hce hcv hcl => ?_) (fun z w2 ho => ?_)
  · have hg := hg _ ho
    by_cases hq : q.1 = "java/lang/IllegalStateException"
    · rw [if_pos hq] at hg
      cases hg
      refine x_catch (ws := picC kA ad q.2 ++ [(ao, .inl (kA 1, 1, .inr (.inl o)))]) (name := "java/lang/IllegalStateException") X E htab [] [(0, 17, 24, 19)] (0, 17, 20, 13) rfl (fun z hz => by simp at hz) (by decide +kernel) (hpc := 20) rfl (by decide) w_302 ca_ISE hce hcv (hq ▸ hcl) hP hD hS hl ?_
      refine x_astore X (lv2 := (4, .ref q9) :: [(0, .ref (ad 0)), (1, .int a1), (2, .int a2), (3, .ref ao)]) dL_hasArc_20 (by decide) rfl ?_
      refine x_iconst X (v := 1) dL_hasArc_22 (by decide) ?_
      exact x_iretW X hr hlk rfl rfl (by decide) (by decide) dL_hasArc_23
    rw [if_neg hq] at hg
    by_cases hq : q.1 = "java/lang/IndexOutOfBoundsException"
    · rw [if_pos hq] at hg
      cases hg
      refine x_catch (ws := picC kA ad q.2 ++ [(ao, .inl (kA 1, 1, .inr (.inl o)))]) (name := "java/lang/IndexOutOfBoundsException") X E htab [(0, 17, 20, 13)] [] (0, 17, 24, 19) rfl (fun z hz => by
        simp only [List.mem_cons, List.not_mem_nil, or_false] at hz
        rcases hz with rfl
        · exact ⟨by decide, "java/lang/IllegalStateException", w_302, hNC _ (by decide +kernel) _ (by decide +kernel) (by decide +kernel)⟩) (by decide +kernel) (hpc := 24) rfl (by decide) w_379 ca_IOB hce hcv (hq ▸ hcl) hP hD hS hl ?_
      refine x_astore X (lv2 := (4, .ref q9) :: [(0, .ref (ad 0)), (1, .int a1), (2, .int a2), (3, .ref ao)]) dL_hasArc_24 (by decide) rfl ?_
      refine x_iconst X (v := 2) dL_hasArc_26 (by decide) ?_
      exact x_iretW X hr hlk rfl rfl (by decide) (by decide) dL_hasArc_27
    rw [if_neg hq] at hg
    cases hg
  · have hf := hf _ ho
    cases hf
    by_cases hz : z = 0
    · refine x_if_eq_t X (tgt := 15) dL_hasArc_8 (by decide) hz ?_
      refine x_lconst X (v := 0) dL_hasArc_15 (by decide) ?_
      refine x_last X E.1.1 29 rfl (kf := some) (u := ()) dL_hasArc_16 (ck_t in01) (fun _ => picC kA ad w2 ++ [(ao, .inl (kA 1, 1, .inr (.inl (vp_updL o 0 (if z = 0 then 0 else 1)))))]) (by rw [if_pos hz]; rfl) (fun _ _ => ?_)
      refine x_goto X (tgt := 28) dL_hasArc_17 (by decide) ?_
      refine x_iconst X (v := 0) dL_hasArc_28 (by decide) ?_
      exact x_iretW X hr hlk rfl rfl (by decide) (by decide) dL_hasArc_29
    · refine x_if_eq_f X (tgt := 15) dL_hasArc_8 (by decide) hz ?_
      refine x_lconst X (v := 1) dL_hasArc_11 (by decide) ?_
      refine x_goto X (tgt := 16) dL_hasArc_12 (by decide) ?_
      refine x_last X E.1.1 29 rfl (kf := some) (u := ()) dL_hasArc_16 (ck_t in01) (fun _ => picC kA ad w2 ++ [(ao, .inl (kA 1, 1, .inr (.inl (vp_updL o 0 (if z = 0 then 0 else 1)))))]) (by rw [if_neg hz]; rfl) (fun _ _ => ?_)
      refine x_goto X (tgt := 28) dL_hasArc_17 (by decide) ?_
      refine x_iconst X (v := 0) dL_hasArc_28 (by decide) ?_
      exact x_iretW X hr hlk rfl rfl (by decide) (by decide) dL_hasArc_29
abbrev rm_L_arcCost : Room := { frames := 8, cells := 4, slots := 24, locals := 133 }
set_option maxRecDepth 100000 in
set_option maxHeartbeats 4000000 in
theorem met_L_arcCost (l : Launch) (hst : l.stackTraces = false) (D : va_G) (kA : Nat → ClassId) (ad : Nat → Nat) (ao : Nat) (fu : Nat) (w : WS) (o : (Nat → Int64)) (a1 : Int32) (a2 : Int32) (v : Int32) (w1 : WS) (o1 : (Nat → Int64)) (hf : f_L_arcCost fu w o a1 a2 = some (v, w1, o1)) (sz : Nat) : vx_Met l yL_arcCost (wsH yL_arcCost cL_arcCost 5 (some .int) [(0, 10, 13, 13), (0, 10, 17, 19), (0, 10, 21, 61)]) rm_L_arcCost (va_Pc [.ref (ad 0), .int a1, .int a2, .ref ao] (fun U => PreG D kA (picC kA ad w ++ [(ao, .inl (kA 1, 1, .inr (.inl o)))]) sz U ∧ NCs U)) (va_Qi (fun (r : Int32) (_ : Unit) => r = v) (fun _ t => PosG D (va_A (picC kA ad w ++ [(ao, .inl (kA 1, 1, .inr (.inl o)))]) sz) (picC kA ad w1 ++ [(ao, .inl (kA 1, 1, .inr (.inl o1)))]) t) (va_A (picC kA ad w ++ [(ao, .inl (kA 1, 1, .inr (.inl o)))]) sz)) (vx_X (fun (_ : Unit) => False) (fun _ _ _ => True) (va_A (picC kA ad w ++ [(ao, .inl (kA 1, 1, .inr (.inl o)))]) sz)) 4 24 (va_A (picC kA ad w ++ [(ao, .inl (kA 1, 1, .inr (.inl o)))]) sz) := by
  refine metW (own := RL) (hh := [(0, 10, 13, 13), (0, 10, 17, 19), (0, 10, 21, 61)]) hst (by decide +kernel) rfl (Nat.le_of_ble_eq_true rfl) rfl ?_
  intro p e s m below meth c X hr hlk E hNC htab
  unfold f_L_arcCost at hf
  refine x_aload_n X dL_arcCost_0 3 rfl ?_
  refine x_iconst X (v := 0) dL_arcCost_1 (by decide) ?_
  refine x_aload_n X dL_arcCost_2 0 rfl ?_
  refine x_iload_n X dL_arcCost_3 1 rfl ?_
  refine x_iload_n X dL_arcCost_4 2 rfl ?_
  obtain ⟨o9, h9, hf, hg⟩ := bx_one hf
  refine x_callXs_i X E (As := [.int a1, .int a2]) (rest := [.int 0, .ref ao]) (n := 2) (pic := picC kA ad) (w0 := w) (w3 := [(ao, .inl (kA 1, 1, .inr (.inl o)))]) (mc := 4) (ms := 24) (goodV w_632 w_633 w_634 w_47 w_635) (fun sz => met_X3_arcCost l E.2.2.2 D kA ad fu w a1 a2 o9 h9 sz) rfl rfl (by decide +kernel) ⟨by decide, by decide⟩ 0 rfl (qc := (RX3, TX3, _)) rfl rfl rfl rfl (Nat.le_of_ble_eq_true rfl) dL_arcCost_5 ⟨by decide, by decide⟩ (fun q ce q9 H1 locs1 ls ho hP hD hS hl hce hcv hcl => ?_) (fun z w2 ho => ?_)
  · have hg := hg _ ho
    by_cases hq : q.1 = "java/lang/IllegalStateException"
    · rw [if_pos hq] at hg
      cases hg
      refine x_catch (ws := picC kA ad q.2 ++ [(ao, .inl (kA 1, 1, .inr (.inl o)))]) (name := "java/lang/IllegalStateException") X E htab [] [(0, 10, 17, 19), (0, 10, 21, 61)] (0, 10, 13, 13) rfl (fun z hz => by simp at hz) (by decide +kernel) (hpc := 13) rfl (by decide) w_302 ca_ISE hce hcv (hq ▸ hcl) hP hD hS hl ?_
      refine x_astore X (lv2 := (4, .ref q9) :: [(0, .ref (ad 0)), (1, .int a1), (2, .int a2), (3, .ref ao)]) dL_arcCost_13 (by decide) rfl ?_
      refine x_iconst X (v := 1) dL_arcCost_15 (by decide) ?_
      exact x_iretW X hr hlk rfl rfl (by decide) (by decide) dL_arcCost_16
    rw [if_neg hq] at hg
    by_cases hq : q.1 = "java/lang/IndexOutOfBoundsException"
    · rw [if_pos hq] at hg
      cases hg
      refine x_catch (ws := picC kA ad q.2 ++ [(ao, .inl (kA 1, 1, .inr (.inl o)))]) (name := "java/lang/IndexOutOfBoundsException") X E htab [(0, 10, 13, 13)] [(0, 10, 21, 61)] (0, 10, 17, 19) rfl (fun z hz => by
        simp only [List.mem_cons, List.not_mem_nil, or_false] at hz
        rcases hz with rfl
        · exact ⟨by decide, "java/lang/IllegalStateException", w_302, hNC _ (by decide +kernel) _ (by decide +kernel) (by decide +kernel)⟩) (by decide +kernel) (hpc := 17) rfl (by decide) w_379 ca_IOB hce hcv (hq ▸ hcl) hP hD hS hl ?_
      refine x_astore X (lv2 := (4, .ref q9) :: [(0, .ref (ad 0)), (1, .int a1), (2, .int a2), (3, .ref ao)]) dL_arcCost_17 (by decide) rfl ?_
      refine x_iconst X (v := 2) dL_arcCost_19 (by decide) ?_
      exact x_iretW X hr hlk rfl rfl (by decide) (by decide) dL_arcCost_20
    rw [if_neg hq] at hg
    by_cases hq : q.1 = "java/util/NoSuchElementException"
    · rw [if_pos hq] at hg
      cases hg
      refine x_catch (ws := picC kA ad q.2 ++ [(ao, .inl (kA 1, 1, .inr (.inl o)))]) (name := "java/util/NoSuchElementException") X E htab [(0, 10, 13, 13), (0, 10, 17, 19)] [] (0, 10, 21, 61) rfl (fun z hz => by
        simp only [List.mem_cons, List.not_mem_nil, or_false] at hz
        rcases hz with rfl | rfl
        · exact ⟨by decide, "java/lang/IllegalStateException", w_302, hNC _ (by decide +kernel) _ (by decide +kernel) (by decide +kernel)⟩
        · exact ⟨by decide, "java/lang/IndexOutOfBoundsException", w_379, hNC _ (by decide +kernel) _ (by decide +kernel) (by decide +kernel)⟩) (by decide +kernel) (hpc := 21) rfl (by decide) w_631 ca_NSE hce hcv (hq ▸ hcl) hP hD hS hl ?_
      refine x_astore X (lv2 := (4, .ref q9) :: [(0, .ref (ad 0)), (1, .int a1), (2, .int a2), (3, .ref ao)]) dL_arcCost_21 (by decide) rfl ?_
      refine x_iconst X (v := 3) dL_arcCost_23 (by decide) ?_
      exact x_iretW X hr hlk rfl rfl (by decide) (by decide) dL_arcCost_24
    rw [if_neg hq] at hg
    cases hg
  · have hf := hf _ ho
    cases hf
    refine x_i2l X dL_arcCost_8 ?_
    refine x_last X E.1.1 29 rfl (kf := some) (u := ()) dL_arcCost_9 (ck_t in01) (fun _ => picC kA ad w2 ++ [(ao, .inl (kA 1, 1, .inr (.inl (vp_updL o 0 (Int32.toInt64 z)))))]) rfl (fun _ _ => ?_)
    refine x_goto X (tgt := 25) dL_arcCost_10 (by decide) ?_
    refine x_iconst X (v := 0) dL_arcCost_25 (by decide) ?_
    exact x_iretW X hr hlk rfl rfl (by decide) (by decide) dL_arcCost_26
abbrev rm_L_distance : Room := { frames := 8, cells := 3, slots := 18, locals := 181 }
set_option maxRecDepth 100000 in
set_option maxHeartbeats 4000000 in
theorem met_L_distance (l : Launch) (hst : l.stackTraces = false) (D : va_G) (kA : Nat → ClassId) (ad : Nat → Nat) (ao : Nat) (fu : Nat) (w : WS) (o : (Nat → Int64)) (a1 : Int32) (a2 : Int32) (v : Int32) (w1 : WS) (o1 : (Nat → Int64)) (hf : f_L_distance fu w o a1 a2 = some (v, w1, o1)) (sz : Nat) : vx_Met l yL_distance (wsH yL_distance cL_distance 5 (some .int) [(0, 10, 13, 13), (0, 10, 17, 19)]) rm_L_distance (va_Pc [.ref (ad 0), .int a1, .int a2, .ref ao] (fun U => PreG D kA (picC kA ad w ++ [(ao, .inl (kA 1, 1, .inr (.inl o)))]) sz U ∧ NCs U)) (va_Qi (fun (r : Int32) (_ : Unit) => r = v) (fun _ t => PosG D (va_A (picC kA ad w ++ [(ao, .inl (kA 1, 1, .inr (.inl o)))]) sz) (picC kA ad w1 ++ [(ao, .inl (kA 1, 1, .inr (.inl o1)))]) t) (va_A (picC kA ad w ++ [(ao, .inl (kA 1, 1, .inr (.inl o)))]) sz)) (vx_X (fun (_ : Unit) => False) (fun _ _ _ => True) (va_A (picC kA ad w ++ [(ao, .inl (kA 1, 1, .inr (.inl o)))]) sz)) 3 18 (va_A (picC kA ad w ++ [(ao, .inl (kA 1, 1, .inr (.inl o)))]) sz) := by
  refine metW (own := RL) (hh := [(0, 10, 13, 13), (0, 10, 17, 19)]) hst (by decide +kernel) rfl (Nat.le_of_ble_eq_true rfl) rfl ?_
  intro p e s m below meth c X hr hlk E hNC htab
  unfold f_L_distance at hf
  refine x_aload_n X dL_distance_0 3 rfl ?_
  refine x_iconst X (v := 0) dL_distance_1 (by decide) ?_
  refine x_aload_n X dL_distance_2 0 rfl ?_
  refine x_iload_n X dL_distance_3 1 rfl ?_
  refine x_iload_n X dL_distance_4 2 rfl ?_
  obtain ⟨o9, h9, hf, hg⟩ := bx_one hf
  refine x_callXs_i X E (As := [.int a1, .int a2]) (rest := [.int 0, .ref ao]) (n := 2) (pic := picC kA ad) (w0 := w) (w3 := [(ao, .inl (kA 1, 1, .inr (.inl o)))]) (mc := 3) (ms := 18) (goodV w_656 w_657 w_658 w_47 w_659) (fun sz => met_X3_distance l E.2.2.2 D kA ad fu w a1 a2 o9 h9 sz) rfl rfl (by decide +kernel) ⟨by decide, by decide⟩ 0 rfl (qc := (RX3, TX3, _)) rfl rfl rfl rfl (Nat.le_of_ble_eq_true rfl) dL_distance_5 ⟨by decide, by decide⟩ (fun q ce q9 H1 locs1 ls ho hP hD hS hl hce hcv hcl => ?_) (fun z w2 ho => ?_)
  · have hg := hg _ ho
    by_cases hq : q.1 = "java/lang/IllegalStateException"
    · rw [if_pos hq] at hg
      cases hg
      refine x_catch (ws := picC kA ad q.2 ++ [(ao, .inl (kA 1, 1, .inr (.inl o)))]) (name := "java/lang/IllegalStateException") X E htab [] [(0, 10, 17, 19)] (0, 10, 13, 13) rfl (fun z hz => by simp at hz) (by decide +kernel) (hpc := 13) rfl (by decide) w_302 ca_ISE hce hcv (hq ▸ hcl) hP hD hS hl ?_
      refine x_astore X (lv2 := (4, .ref q9) :: [(0, .ref (ad 0)), (1, .int a1), (2, .int a2), (3, .ref ao)]) dL_distance_13 (by decide) rfl ?_
      refine x_iconst X (v := 1) dL_distance_15 (by decide) ?_
      exact x_iretW X hr hlk rfl rfl (by decide) (by decide) dL_distance_16
    rw [if_neg hq] at hg
    by_cases hq : q.1 = "java/lang/IndexOutOfBoundsException"
    · rw [if_pos hq] at hg
      cases hg
      refine x_catch (ws := picC kA ad q.2 ++ [(ao, .inl (kA 1, 1, .inr (.inl o)))]) (name := "java/lang/IndexOutOfBoundsException") X E htab [(0, 10, 13, 13)] [] (0, 10, 17, 19) rfl (fun z hz => by
        simp only [List.mem_cons, List.not_mem_nil, or_false] at hz
        rcases hz with rfl
        · exact ⟨by decide, "java/lang/IllegalStateException", w_302, hNC _ (by decide +kernel) _ (by decide +kernel) (by decide +kernel)⟩) (by decide +kernel) (hpc := 17) rfl (by decide) w_379 ca_IOB hce hcv (hq ▸ hcl) hP hD hS hl ?_
      refine x_astore X (lv2 := (4, .ref q9) :: [(0, .ref (ad 0)), (1, .int a1), (2, .int a2), (3, .ref ao)]) dL_distance_17 (by decide) rfl ?_
      refine x_iconst X (v := 2) dL_distance_19 (by decide) ?_
      exact x_iretW X hr hlk rfl rfl (by decide) (by decide) dL_distance_20
    rw [if_neg hq] at hg
    cases hg
  · have hf := hf _ ho
    cases hf
    refine x_i2l X dL_distance_8 ?_
    refine x_last X E.1.1 29 rfl (kf := some) (u := ()) dL_distance_9 (ck_t in01) (fun _ => picC kA ad w2 ++ [(ao, .inl (kA 1, 1, .inr (.inl (vp_updL o 0 (Int32.toInt64 z)))))]) rfl (fun _ _ => ?_)
    refine x_goto X (tgt := 21) dL_distance_10 (by decide) ?_
    refine x_iconst X (v := 0) dL_distance_21 (by decide) ?_
    exact x_iretW X hr hlk rfl rfl (by decide) (by decide) dL_distance_22
abbrev rm_L_distanceBehind : Room := { frames := 8, cells := 3, slots := 18, locals := 135 }
set_option maxRecDepth 100000 in
set_option maxHeartbeats 4000000 in
theorem met_L_distanceBehind (l : Launch) (hst : l.stackTraces = false) (D : va_G) (kA : Nat → ClassId) (ad : Nat → Nat) (ao : Nat) (fu : Nat) (w : WS) (o : (Nat → Int64)) (a1 : Int32) (a2 : Int32) (v : Int32) (w1 : WS) (o1 : (Nat → Int64)) (hf : f_L_distanceBehind fu w o a1 a2 = some (v, w1, o1)) (sz : Nat) : vx_Met l yL_distanceBehind (wsH yL_distanceBehind cL_distanceBehind 5 (some .int) [(0, 10, 13, 13), (0, 10, 17, 19)]) rm_L_distanceBehind (va_Pc [.ref (ad 0), .int a1, .int a2, .ref ao] (fun U => PreG D kA (picC kA ad w ++ [(ao, .inl (kA 1, 1, .inr (.inl o)))]) sz U ∧ NCs U)) (va_Qi (fun (r : Int32) (_ : Unit) => r = v) (fun _ t => PosG D (va_A (picC kA ad w ++ [(ao, .inl (kA 1, 1, .inr (.inl o)))]) sz) (picC kA ad w1 ++ [(ao, .inl (kA 1, 1, .inr (.inl o1)))]) t) (va_A (picC kA ad w ++ [(ao, .inl (kA 1, 1, .inr (.inl o)))]) sz)) (vx_X (fun (_ : Unit) => False) (fun _ _ _ => True) (va_A (picC kA ad w ++ [(ao, .inl (kA 1, 1, .inr (.inl o)))]) sz)) 3 18 (va_A (picC kA ad w ++ [(ao, .inl (kA 1, 1, .inr (.inl o)))]) sz) := by
  refine metW (own := RL) (hh := [(0, 10, 13, 13), (0, 10, 17, 19)]) hst (by decide +kernel) rfl (Nat.le_of_ble_eq_true rfl) rfl ?_
  intro p e s m below meth c X hr hlk E hNC htab
  unfold f_L_distanceBehind at hf
  refine x_aload_n X dL_distanceBehind_0 3 rfl ?_
  refine x_iconst X (v := 0) dL_distanceBehind_1 (by decide) ?_
  refine x_aload_n X dL_distanceBehind_2 0 rfl ?_
  refine x_iload_n X dL_distanceBehind_3 1 rfl ?_
  refine x_iload_n X dL_distanceBehind_4 2 rfl ?_
  obtain ⟨o9, h9, hf, hg⟩ := bx_one hf
  refine x_callXs_i X E (As := [.int a1, .int a2]) (rest := [.int 0, .ref ao]) (n := 2) (pic := picC kA ad) (w0 := w) (w3 := [(ao, .inl (kA 1, 1, .inr (.inl o)))]) (mc := 3) (ms := 18) (goodV w_691 w_692 w_693 w_47 w_694) (fun sz => met_X3_distanceBehind l E.2.2.2 D kA ad fu w a1 a2 o9 h9 sz) rfl rfl (by decide +kernel) ⟨by decide, by decide⟩ 0 rfl (qc := (RX3, TX3, _)) rfl rfl rfl rfl (Nat.le_of_ble_eq_true rfl) dL_distanceBehind_5 ⟨by decide, by decide⟩ (fun q ce q9 H1 locs1 ls ho hP hD hS hl hce hcv hcl => ?_) (fun z w2 ho => ?_)
  · have hg := hg _ ho
    by_cases hq : q.1 = "java/lang/IllegalStateException"
    · rw [if_pos hq] at hg
      cases hg
      refine x_catch (ws := picC kA ad q.2 ++ [(ao, .inl (kA 1, 1, .inr (.inl o)))]) (name := "java/lang/IllegalStateException") X E htab [] [(0, 10, 17, 19)] (0, 10, 13, 13) rfl (fun z hz => by simp at hz) (by decide +kernel) (hpc := 13) rfl (by decide) w_302 ca_ISE hce hcv (hq ▸ hcl) hP hD hS hl ?_
      refine x_astore X (lv2 := (4, .ref q9) :: [(0, .ref (ad 0)), (1, .int a1), (2, .int a2), (3, .ref ao)]) dL_distanceBehind_13 (by decide) rfl ?_
      refine x_iconst X (v := 1) dL_distanceBehind_15 (by decide) ?_
      exact x_iretW X hr hlk rfl rfl (by decide) (by decide) dL_distanceBehind_16
    rw [if_neg hq] at hg
    by_cases hq : q.1 = "java/lang/IndexOutOfBoundsException"
    · rw [if_pos hq] at hg
      cases hg
      refine x_catch (ws := picC kA ad q.2 ++ [(ao, .inl (kA 1, 1, .inr (.inl o)))]) (name := "java/lang/IndexOutOfBoundsException") X E htab [(0, 10, 13, 13)] [] (0, 10, 17, 19) rfl (fun z hz => by
        simp only [List.mem_cons, List.not_mem_nil, or_false] at hz
        rcases hz with rfl
        · exact ⟨by decide, "java/lang/IllegalStateException", w_302, hNC _ (by decide +kernel) _ (by decide +kernel) (by decide +kernel)⟩) (by decide +kernel) (hpc := 17) rfl (by decide) w_379 ca_IOB hce hcv (hq ▸ hcl) hP hD hS hl ?_
      refine x_astore X (lv2 := (4, .ref q9) :: [(0, .ref (ad 0)), (1, .int a1), (2, .int a2), (3, .ref ao)]) dL_distanceBehind_17 (by decide) rfl ?_
      refine x_iconst X (v := 2) dL_distanceBehind_19 (by decide) ?_
      exact x_iretW X hr hlk rfl rfl (by decide) (by decide) dL_distanceBehind_20
    rw [if_neg hq] at hg
    cases hg
  · have hf := hf _ ho
    cases hf
    refine x_i2l X dL_distanceBehind_8 ?_
    refine x_last X E.1.1 29 rfl (kf := some) (u := ()) dL_distanceBehind_9 (ck_t in01) (fun _ => picC kA ad w2 ++ [(ao, .inl (kA 1, 1, .inr (.inl (vp_updL o 0 (Int32.toInt64 z)))))]) rfl (fun _ _ => ?_)
    refine x_goto X (tgt := 21) dL_distanceBehind_10 (by decide) ?_
    refine x_iconst X (v := 0) dL_distanceBehind_21 (by decide) ?_
    exact x_iretW X hr hlk rfl rfl (by decide) (by decide) dL_distanceBehind_22
abbrev rm_L_route : Room := { frames := 8, cells := 4, slots := 24, locals := 160 }
set_option maxRecDepth 100000 in
set_option maxHeartbeats 4000000 in
theorem met_L_route (l : Launch) (hst : l.stackTraces = false) (D : va_G) (kA : Nat → ClassId) (ad : Nat → Nat) (ao : Nat) (fu : Nat) (w : WS) (o : (Nat → Int64)) (a1 : Int32) (a2 : Int32) (v : Int32) (w1 : WS) (o1 : (Nat → Int64)) (hf : f_L_route fu w o a1 a2 = some (v, w1, o1)) (sz : Nat) : vx_Met l yL_route (wsH yL_route cL_route 5 (some .int) [(0, 10, 13, 13), (0, 10, 17, 19), (0, 10, 21, 61)]) rm_L_route (va_Pc [.ref (ad 0), .int a1, .int a2, .ref ao] (fun U => PreG D kA (picC kA ad w ++ [(ao, .inl (kA 1, 1, .inr (.inl o)))]) sz U ∧ NCs U)) (va_Qi (fun (r : Int32) (_ : Unit) => r = v) (fun _ t => PosG D (va_A (picC kA ad w ++ [(ao, .inl (kA 1, 1, .inr (.inl o)))]) sz) (picC kA ad w1 ++ [(ao, .inl (kA 1, 1, .inr (.inl o1)))]) t) (va_A (picC kA ad w ++ [(ao, .inl (kA 1, 1, .inr (.inl o)))]) sz)) (vx_X (fun (_ : Unit) => False) (fun _ _ _ => True) (va_A (picC kA ad w ++ [(ao, .inl (kA 1, 1, .inr (.inl o)))]) sz)) 4 24 (va_A (picC kA ad w ++ [(ao, .inl (kA 1, 1, .inr (.inl o)))]) sz) := by
  refine metW (own := RL) (hh := [(0, 10, 13, 13), (0, 10, 17, 19), (0, 10, 21, 61)]) hst (by decide +kernel) rfl (Nat.le_of_ble_eq_true rfl) rfl ?_
  intro p e s m below meth c X hr hlk E hNC htab
  unfold f_L_route at hf
  refine x_aload_n X dL_route_0 3 rfl ?_
  refine x_iconst X (v := 0) dL_route_1 (by decide) ?_
  refine x_aload_n X dL_route_2 0 rfl ?_
  refine x_iload_n X dL_route_3 1 rfl ?_
  refine x_iload_n X dL_route_4 2 rfl ?_
  obtain ⟨o9, h9, hf, hg⟩ := bx_one hf
  refine x_callXs_i X E (As := [.int a1, .int a2]) (rest := [.int 0, .ref ao]) (n := 2) (pic := picC kA ad) (w0 := w) (w3 := [(ao, .inl (kA 1, 1, .inr (.inl o)))]) (mc := 4) (ms := 24) (goodV w_698 w_699 w_700 w_47 w_701) (fun sz => met_X3_route l E.2.2.2 D kA ad fu w a1 a2 o9 h9 sz) rfl rfl (by decide +kernel) ⟨by decide, by decide⟩ 0 rfl (qc := (RX3, TX3, _)) rfl rfl rfl rfl (Nat.le_of_ble_eq_true rfl) dL_route_5 ⟨by decide, by decide⟩ (fun q ce q9 H1 locs1 ls ho hP hD hS hl hce hcv hcl => ?_) (fun z w2 ho => ?_)
  · have hg := hg _ ho
    by_cases hq : q.1 = "java/lang/IllegalStateException"
    · rw [if_pos hq] at hg
      cases hg
      refine x_catch (ws := picC kA ad q.2 ++ [(ao, .inl (kA 1, 1, .inr (.inl o)))]) (name := "java/lang/IllegalStateException") X E htab [] [(0, 10, 17, 19), (0, 10, 21, 61)] (0, 10, 13, 13) rfl (fun z hz => by simp at hz) (by decide +kernel) (hpc := 13) rfl (by decide) w_302 ca_ISE hce hcv (hq ▸ hcl) hP hD hS hl ?_
      refine x_astore X (lv2 := (4, .ref q9) :: [(0, .ref (ad 0)), (1, .int a1), (2, .int a2), (3, .ref ao)]) dL_route_13 (by decide) rfl ?_
      refine x_iconst X (v := 1) dL_route_15 (by decide) ?_
      exact x_iretW X hr hlk rfl rfl (by decide) (by decide) dL_route_16
    rw [if_neg hq] at hg
    by_cases hq : q.1 = "java/lang/IndexOutOfBoundsException"
    · rw [if_pos hq] at hg
      cases hg
      refine x_catch (ws := picC kA ad q.2 ++ [(ao, .inl (kA 1, 1, .inr (.inl o)))]) (name := "java/lang/IndexOutOfBoundsException") X E htab [(0, 10, 13, 13)] [(0, 10, 21, 61)] (0, 10, 17, 19) rfl (fun z hz => by
        simp only [List.mem_cons, List.not_mem_nil, or_false] at hz
        rcases hz with rfl
        · exact ⟨by decide, "java/lang/IllegalStateException", w_302, hNC _ (by decide +kernel) _ (by decide +kernel) (by decide +kernel)⟩) (by decide +kernel) (hpc := 17) rfl (by decide) w_379 ca_IOB hce hcv (hq ▸ hcl) hP hD hS hl ?_
      refine x_astore X (lv2 := (4, .ref q9) :: [(0, .ref (ad 0)), (1, .int a1), (2, .int a2), (3, .ref ao)]) dL_route_17 (by decide) rfl ?_
      refine x_iconst X (v := 2) dL_route_19 (by decide) ?_
      exact x_iretW X hr hlk rfl rfl (by decide) (by decide) dL_route_20
    rw [if_neg hq] at hg
    by_cases hq : q.1 = "java/util/NoSuchElementException"
    · rw [if_pos hq] at hg
      cases hg
      refine x_catch (ws := picC kA ad q.2 ++ [(ao, .inl (kA 1, 1, .inr (.inl o)))]) (name := "java/util/NoSuchElementException") X E htab [(0, 10, 13, 13), (0, 10, 17, 19)] [] (0, 10, 21, 61) rfl (fun z hz => by
        simp only [List.mem_cons, List.not_mem_nil, or_false] at hz
        rcases hz with rfl | rfl
        · exact ⟨by decide, "java/lang/IllegalStateException", w_302, hNC _ (by decide +kernel) _ (by decide +kernel) (by decide +kernel)⟩
        · exact ⟨by decide, "java/lang/IndexOutOfBoundsException", w_379, hNC _ (by decide +kernel) _ (by decide +kernel) (by decide +kernel)⟩) (by decide +kernel) (hpc := 21) rfl (by decide) w_631 ca_NSE hce hcv (hq ▸ hcl) hP hD hS hl ?_
      refine x_astore X (lv2 := (4, .ref q9) :: [(0, .ref (ad 0)), (1, .int a1), (2, .int a2), (3, .ref ao)]) dL_route_21 (by decide) rfl ?_
      refine x_iconst X (v := 3) dL_route_23 (by decide) ?_
      exact x_iretW X hr hlk rfl rfl (by decide) (by decide) dL_route_24
    rw [if_neg hq] at hg
    cases hg
  · have hf := hf _ ho
    cases hf
    refine x_i2l X dL_route_8 ?_
    refine x_last X E.1.1 29 rfl (kf := some) (u := ()) dL_route_9 (ck_t in01) (fun _ => picC kA ad w2 ++ [(ao, .inl (kA 1, 1, .inr (.inl (vp_updL o 0 (Int32.toInt64 z)))))]) rfl (fun _ _ => ?_)
    refine x_goto X (tgt := 25) dL_route_10 (by decide) ?_
    refine x_iconst X (v := 0) dL_route_25 (by decide) ?_
    exact x_iretW X hr hlk rfl rfl (by decide) (by decide) dL_route_26
abbrev rm_L_routeRoad : Room := { frames := 7, cells := 1, slots := 6, locals := 111 }
set_option maxRecDepth 100000 in
set_option maxHeartbeats 4000000 in
theorem met_L_routeRoad (l : Launch) (hst : l.stackTraces = false) (D : va_G) (kA : Nat → ClassId) (ad : Nat → Nat) (ao : Nat) (fu : Nat) (w : WS) (o : (Nat → Int64)) (a1 : Int32) (v : Int32) (w1 : WS) (o1 : (Nat → Int64)) (hf : f_L_routeRoad fu w o a1 = some (v, w1, o1)) (sz : Nat) : vx_Met l yL_routeRoad (wsH yL_routeRoad cL_routeRoad 4 (some .int) [(0, 9, 12, 19)]) rm_L_routeRoad (va_Pc [.ref (ad 0), .int a1, .ref ao] (fun U => PreG D kA (picC kA ad w ++ [(ao, .inl (kA 1, 1, .inr (.inl o)))]) sz U ∧ NCs U)) (va_Qi (fun (r : Int32) (_ : Unit) => r = v) (fun _ t => PosG D (va_A (picC kA ad w ++ [(ao, .inl (kA 1, 1, .inr (.inl o)))]) sz) (picC kA ad w1 ++ [(ao, .inl (kA 1, 1, .inr (.inl o1)))]) t) (va_A (picC kA ad w ++ [(ao, .inl (kA 1, 1, .inr (.inl o)))]) sz)) (vx_X (fun (_ : Unit) => False) (fun _ _ _ => True) (va_A (picC kA ad w ++ [(ao, .inl (kA 1, 1, .inr (.inl o)))]) sz)) 1 6 (va_A (picC kA ad w ++ [(ao, .inl (kA 1, 1, .inr (.inl o)))]) sz) := by
  refine metW (own := RL) (hh := [(0, 9, 12, 19)]) hst (by decide +kernel) rfl (Nat.le_of_ble_eq_true rfl) rfl ?_
  intro p e s m below meth c X hr hlk E hNC htab
  unfold f_L_routeRoad at hf
  refine x_aload_n X dL_routeRoad_0 2 rfl ?_
  refine x_iconst X (v := 0) dL_routeRoad_1 (by decide) ?_
  refine x_aload_n X dL_routeRoad_2 0 rfl ?_
  refine x_iload_n X dL_routeRoad_3 1 rfl ?_
  obtain ⟨o9, h9, hf, hg⟩ := bx_one hf
  refine x_callXs_i X E (As := [.int a1]) (rest := [.int 0, .ref ao]) (n := 1) (pic := picC kA ad) (w0 := w) (w3 := [(ao, .inl (kA 1, 1, .inr (.inl o)))]) (mc := 1) (ms := 6) (goodV w_732 w_733 w_734 w_47 w_735) (fun sz => met_X3_routeRoad l E.2.2.2 D kA ad fu w a1 o9 h9 sz) rfl rfl (by decide +kernel) ⟨by decide, by decide⟩ 0 rfl (qc := (RX3, TX3, _)) rfl rfl rfl rfl (Nat.le_of_ble_eq_true rfl) dL_routeRoad_4 ⟨by decide, by decide⟩ (fun q ce q9 H1 locs1 ls ho hP hD hS hl hce hcv hcl => ?_) (fun z w2 ho => ?_)
  · have hg := hg _ ho
    by_cases hq : q.1 = "java/lang/IndexOutOfBoundsException"
    · rw [if_pos hq] at hg
      cases hg
      refine x_catch (ws := picC kA ad q.2 ++ [(ao, .inl (kA 1, 1, .inr (.inl o)))]) (name := "java/lang/IndexOutOfBoundsException") X E htab [] [] (0, 9, 12, 19) rfl (fun z hz => by simp at hz) (by decide +kernel) (hpc := 12) rfl (by decide) w_379 ca_IOB hce hcv (hq ▸ hcl) hP hD hS hl ?_
      refine x_astore_n X (lv2 := (3, .ref q9) :: [(0, .ref (ad 0)), (1, .int a1), (2, .ref ao)]) dL_routeRoad_12 (by decide) rfl ?_
      refine x_iconst X (v := 1) dL_routeRoad_13 (by decide) ?_
      exact x_iretW X hr hlk rfl rfl (by decide) (by decide) dL_routeRoad_14
    rw [if_neg hq] at hg
    cases hg
  · have hf := hf _ ho
    cases hf
    refine x_i2l X dL_routeRoad_7 ?_
    refine x_last X E.1.1 29 rfl (kf := some) (u := ()) dL_routeRoad_8 (ck_t in01) (fun _ => picC kA ad w2 ++ [(ao, .inl (kA 1, 1, .inr (.inl (vp_updL o 0 (Int32.toInt64 z)))))]) rfl (fun _ _ => ?_)
    refine x_goto X (tgt := 15) dL_routeRoad_9 (by decide) ?_
    refine x_iconst X (v := 0) dL_routeRoad_15 (by decide) ?_
    exact x_iretW X hr hlk rfl rfl (by decide) (by decide) dL_routeRoad_16
abbrev rm_L_reach : Room := { frames := 8, cells := 3, slots := 18, locals := 161 }
set_option maxRecDepth 100000 in
set_option maxHeartbeats 4000000 in
theorem met_L_reach (l : Launch) (hst : l.stackTraces = false) (D : va_G) (kA : Nat → ClassId) (ad : Nat → Nat) (ao : Nat) (fu : Nat) (w : WS) (o : (Nat → Int64)) (a1 : Int32) (a2 : Int32) (v : Int32) (w1 : WS) (o1 : (Nat → Int64)) (hf : f_L_reach fu w o a1 a2 = some (v, w1, o1)) (sz : Nat) : vx_Met l yL_reach (wsH yL_reach cL_reach 5 (some .int) [(0, 10, 13, 13), (0, 10, 17, 19), (0, 10, 21, 21)]) rm_L_reach (va_Pc [.ref (ad 0), .int a1, .int a2, .ref ao] (fun U => PreG D kA (picC kA ad w ++ [(ao, .inl (kA 1, 1, .inr (.inl o)))]) sz U ∧ NCs U)) (va_Qi (fun (r : Int32) (_ : Unit) => r = v) (fun _ t => PosG D (va_A (picC kA ad w ++ [(ao, .inl (kA 1, 1, .inr (.inl o)))]) sz) (picC kA ad w1 ++ [(ao, .inl (kA 1, 1, .inr (.inl o1)))]) t) (va_A (picC kA ad w ++ [(ao, .inl (kA 1, 1, .inr (.inl o)))]) sz)) (vx_X (fun (_ : Unit) => False) (fun _ _ _ => True) (va_A (picC kA ad w ++ [(ao, .inl (kA 1, 1, .inr (.inl o)))]) sz)) 3 18 (va_A (picC kA ad w ++ [(ao, .inl (kA 1, 1, .inr (.inl o)))]) sz) := by
  refine metW (own := RL) (hh := [(0, 10, 13, 13), (0, 10, 17, 19), (0, 10, 21, 21)]) hst (by decide +kernel) rfl (Nat.le_of_ble_eq_true rfl) rfl ?_
  intro p e s m below meth c X hr hlk E hNC htab
  unfold f_L_reach at hf
  refine x_aload_n X dL_reach_0 3 rfl ?_
  refine x_iconst X (v := 0) dL_reach_1 (by decide) ?_
  refine x_aload_n X dL_reach_2 0 rfl ?_
  refine x_iload_n X dL_reach_3 1 rfl ?_
  refine x_iload_n X dL_reach_4 2 rfl ?_
  obtain ⟨o9, h9, hf, hg⟩ := bx_one hf
  refine x_callXs_i X E (As := [.int a1, .int a2]) (rest := [.int 0, .ref ao]) (n := 2) (pic := picC kA ad) (w0 := w) (w3 := [(ao, .inl (kA 1, 1, .inr (.inl o)))]) (mc := 3) (ms := 18) (goodV w_740 w_741 w_742 w_47 w_743) (fun sz => met_X3_reach l E.2.2.2 D kA ad fu w a1 a2 o9 h9 sz) rfl rfl (by decide +kernel) ⟨by decide, by decide⟩ 0 rfl (qc := (RX3, TX3, _)) rfl rfl rfl rfl (Nat.le_of_ble_eq_true rfl) dL_reach_5 ⟨by decide, by decide⟩ (fun q ce q9 H1 locs1 ls ho hP hD hS hl hce hcv hcl => ?_) (fun z w2 ho => ?_)
  · have hg := hg _ ho
    by_cases hq : q.1 = "java/lang/IllegalStateException"
    · rw [if_pos hq] at hg
      cases hg
      refine x_catch (ws := picC kA ad q.2 ++ [(ao, .inl (kA 1, 1, .inr (.inl o)))]) (name := "java/lang/IllegalStateException") X E htab [] [(0, 10, 17, 19), (0, 10, 21, 21)] (0, 10, 13, 13) rfl (fun z hz => by simp at hz) (by decide +kernel) (hpc := 13) rfl (by decide) w_302 ca_ISE hce hcv (hq ▸ hcl) hP hD hS hl ?_
      refine x_astore X (lv2 := (4, .ref q9) :: [(0, .ref (ad 0)), (1, .int a1), (2, .int a2), (3, .ref ao)]) dL_reach_13 (by decide) rfl ?_
      refine x_iconst X (v := 1) dL_reach_15 (by decide) ?_
      exact x_iretW X hr hlk rfl rfl (by decide) (by decide) dL_reach_16
    rw [if_neg hq] at hg
    by_cases hq : q.1 = "java/lang/IndexOutOfBoundsException"
    · rw [if_pos hq] at hg
      cases hg
      refine x_catch (ws := picC kA ad q.2 ++ [(ao, .inl (kA 1, 1, .inr (.inl o)))]) (name := "java/lang/IndexOutOfBoundsException") X E htab [(0, 10, 13, 13)] [(0, 10, 21, 21)] (0, 10, 17, 19) rfl (fun z hz => by
        simp only [List.mem_cons, List.not_mem_nil, or_false] at hz
        rcases hz with rfl
        · exact ⟨by decide, "java/lang/IllegalStateException", w_302, hNC _ (by decide +kernel) _ (by decide +kernel) (by decide +kernel)⟩) (by decide +kernel) (hpc := 17) rfl (by decide) w_379 ca_IOB hce hcv (hq ▸ hcl) hP hD hS hl ?_
      refine x_astore X (lv2 := (4, .ref q9) :: [(0, .ref (ad 0)), (1, .int a1), (2, .int a2), (3, .ref ao)]) dL_reach_17 (by decide) rfl ?_
      refine x_iconst X (v := 2) dL_reach_19 (by decide) ?_
      exact x_iretW X hr hlk rfl rfl (by decide) (by decide) dL_reach_20
    rw [if_neg hq] at hg
    by_cases hq : q.1 = "java/lang/IllegalArgumentException"
    · rw [if_pos hq] at hg
      cases hg
      refine x_catch (ws := picC kA ad q.2 ++ [(ao, .inl (kA 1, 1, .inr (.inl o)))]) (name := "java/lang/IllegalArgumentException") X E htab [(0, 10, 13, 13), (0, 10, 17, 19)] [] (0, 10, 21, 21) rfl (fun z hz => by
        simp only [List.mem_cons, List.not_mem_nil, or_false] at hz
        rcases hz with rfl | rfl
        · exact ⟨by decide, "java/lang/IllegalStateException", w_302, hNC _ (by decide +kernel) _ (by decide +kernel) (by decide +kernel)⟩
        · exact ⟨by decide, "java/lang/IndexOutOfBoundsException", w_379, hNC _ (by decide +kernel) _ (by decide +kernel) (by decide +kernel)⟩) (by decide +kernel) (hpc := 21) rfl (by decide) w_380 ca_IAE hce hcv (hq ▸ hcl) hP hD hS hl ?_
      refine x_astore X (lv2 := (4, .ref q9) :: [(0, .ref (ad 0)), (1, .int a1), (2, .int a2), (3, .ref ao)]) dL_reach_21 (by decide) rfl ?_
      refine x_iconst X (v := 3) dL_reach_23 (by decide) ?_
      exact x_iretW X hr hlk rfl rfl (by decide) (by decide) dL_reach_24
    rw [if_neg hq] at hg
    cases hg
  · have hf := hf _ ho
    cases hf
    refine x_i2l X dL_reach_8 ?_
    refine x_last X E.1.1 29 rfl (kf := some) (u := ()) dL_reach_9 (ck_t in01) (fun _ => picC kA ad w2 ++ [(ao, .inl (kA 1, 1, .inr (.inl (vp_updL o 0 (Int32.toInt64 z)))))]) rfl (fun _ _ => ?_)
    refine x_goto X (tgt := 25) dL_reach_10 (by decide) ?_
    refine x_iconst X (v := 0) dL_reach_25 (by decide) ?_
    exact x_iretW X hr hlk rfl rfl (by decide) (by decide) dL_reach_26
abbrev rm_L_reached : Room := { frames := 7, cells := 1, slots := 6, locals := 111 }
set_option maxRecDepth 100000 in
set_option maxHeartbeats 4000000 in
theorem met_L_reached (l : Launch) (hst : l.stackTraces = false) (D : va_G) (kA : Nat → ClassId) (ad : Nat → Nat) (ao : Nat) (fu : Nat) (w : WS) (o : (Nat → Int64)) (a1 : Int32) (v : Int32) (w1 : WS) (o1 : (Nat → Int64)) (hf : f_L_reached fu w o a1 = some (v, w1, o1)) (sz : Nat) : vx_Met l yL_reached (wsH yL_reached cL_reached 4 (some .int) [(0, 9, 12, 19)]) rm_L_reached (va_Pc [.ref (ad 0), .int a1, .ref ao] (fun U => PreG D kA (picC kA ad w ++ [(ao, .inl (kA 1, 1, .inr (.inl o)))]) sz U ∧ NCs U)) (va_Qi (fun (r : Int32) (_ : Unit) => r = v) (fun _ t => PosG D (va_A (picC kA ad w ++ [(ao, .inl (kA 1, 1, .inr (.inl o)))]) sz) (picC kA ad w1 ++ [(ao, .inl (kA 1, 1, .inr (.inl o1)))]) t) (va_A (picC kA ad w ++ [(ao, .inl (kA 1, 1, .inr (.inl o)))]) sz)) (vx_X (fun (_ : Unit) => False) (fun _ _ _ => True) (va_A (picC kA ad w ++ [(ao, .inl (kA 1, 1, .inr (.inl o)))]) sz)) 1 6 (va_A (picC kA ad w ++ [(ao, .inl (kA 1, 1, .inr (.inl o)))]) sz) := by
  refine metW (own := RL) (hh := [(0, 9, 12, 19)]) hst (by decide +kernel) rfl (Nat.le_of_ble_eq_true rfl) rfl ?_
  intro p e s m below meth c X hr hlk E hNC htab
  unfold f_L_reached at hf
  refine x_aload_n X dL_reached_0 2 rfl ?_
  refine x_iconst X (v := 0) dL_reached_1 (by decide) ?_
  refine x_aload_n X dL_reached_2 0 rfl ?_
  refine x_iload_n X dL_reached_3 1 rfl ?_
  obtain ⟨o9, h9, hf, hg⟩ := bx_one hf
  refine x_callXs_i X E (As := [.int a1]) (rest := [.int 0, .ref ao]) (n := 1) (pic := picC kA ad) (w0 := w) (w3 := [(ao, .inl (kA 1, 1, .inr (.inl o)))]) (mc := 1) (ms := 6) (goodV w_752 w_753 w_754 w_47 w_755) (fun sz => met_X3_reached l E.2.2.2 D kA ad fu w a1 o9 h9 sz) rfl rfl (by decide +kernel) ⟨by decide, by decide⟩ 0 rfl (qc := (RX3, TX3, _)) rfl rfl rfl rfl (Nat.le_of_ble_eq_true rfl) dL_reached_4 ⟨by decide, by decide⟩ (fun q ce q9 H1 locs1 ls ho hP hD hS hl hce hcv hcl => ?_) (fun z w2 ho => ?_)
  · have hg := hg _ ho
    by_cases hq : q.1 = "java/lang/IndexOutOfBoundsException"
    · rw [if_pos hq] at hg
      cases hg
      refine x_catch (ws := picC kA ad q.2 ++ [(ao, .inl (kA 1, 1, .inr (.inl o)))]) (name := "java/lang/IndexOutOfBoundsException") X E htab [] [] (0, 9, 12, 19) rfl (fun z hz => by simp at hz) (by decide +kernel) (hpc := 12) rfl (by decide) w_379 ca_IOB hce hcv (hq ▸ hcl) hP hD hS hl ?_
      refine x_astore_n X (lv2 := (3, .ref q9) :: [(0, .ref (ad 0)), (1, .int a1), (2, .ref ao)]) dL_reached_12 (by decide) rfl ?_
      refine x_iconst X (v := 1) dL_reached_13 (by decide) ?_
      exact x_iretW X hr hlk rfl rfl (by decide) (by decide) dL_reached_14
    rw [if_neg hq] at hg
    cases hg
  · have hf := hf _ ho
    cases hf
    refine x_i2l X dL_reached_7 ?_
    refine x_last X E.1.1 29 rfl (kf := some) (u := ()) dL_reached_8 (ck_t in01) (fun _ => picC kA ad w2 ++ [(ao, .inl (kA 1, 1, .inr (.inl (vp_updL o 0 (Int32.toInt64 z)))))]) rfl (fun _ _ => ?_)
    refine x_goto X (tgt := 15) dL_reached_9 (by decide) ?_
    refine x_iconst X (v := 0) dL_reached_15 (by decide) ?_
    exact x_iretW X hr hlk rfl rfl (by decide) (by decide) dL_reached_16
abbrev rm_L_averageDistance : Room := { frames := 8, cells := 2, slots := 12, locals := 162 }
set_option maxRecDepth 100000 in
set_option maxHeartbeats 4000000 in
theorem met_L_averageDistance (l : Launch) (hst : l.stackTraces = false) (D : va_G) (kA : Nat → ClassId) (ad : Nat → Nat) (ao : Nat) (fu : Nat) (w : WS) (o : (Nat → UInt64)) (a1 : Int32) (v : Int32) (w1 : WS) (o1 : (Nat → UInt64)) (hf : f_L_averageDistance fu w o a1 = some (v, w1, o1)) (sz : Nat) : vx_Met l yL_averageDistance (wsH yL_averageDistance cL_averageDistance 4 (some .int) [(0, 8, 11, 13), (0, 8, 14, 19)]) rm_L_averageDistance (va_Pc [.ref (ad 0), .int a1, .ref ao] (fun U => PreG D kA (picC kA ad w ++ [(ao, .inl (kA 3, 1, .inr (.inr (.inr (.inl o)))))]) sz U ∧ NCs U)) (va_Qi (fun (r : Int32) (_ : Unit) => r = v) (fun _ t => PosG D (va_A (picC kA ad w ++ [(ao, .inl (kA 3, 1, .inr (.inr (.inr (.inl o)))))]) sz) (picC kA ad w1 ++ [(ao, .inl (kA 3, 1, .inr (.inr (.inr (.inl o1)))))]) t) (va_A (picC kA ad w ++ [(ao, .inl (kA 3, 1, .inr (.inr (.inr (.inl o)))))]) sz)) (vx_X (fun (_ : Unit) => False) (fun _ _ _ => True) (va_A (picC kA ad w ++ [(ao, .inl (kA 3, 1, .inr (.inr (.inr (.inl o)))))]) sz)) 2 12 (va_A (picC kA ad w ++ [(ao, .inl (kA 3, 1, .inr (.inr (.inr (.inl o)))))]) sz) := by
  refine metW (own := RL) (hh := [(0, 8, 11, 13), (0, 8, 14, 19)]) hst (by decide +kernel) rfl (Nat.le_of_ble_eq_true rfl) rfl ?_
  intro p e s m below meth c X hr hlk E hNC htab
  unfold f_L_averageDistance at hf
  refine x_aload_n X dL_averageDistance_0 2 rfl ?_
  refine x_iconst X (v := 0) dL_averageDistance_1 (by decide) ?_
  refine x_aload_n X dL_averageDistance_2 0 rfl ?_
  refine x_iload_n X dL_averageDistance_3 1 rfl ?_
  obtain ⟨o9, h9, hf, hg⟩ := bx_one hf
  refine x_callXs_d X E (As := [.int a1]) (rest := [.int 0, .ref ao]) (n := 1) (pic := picC kA ad) (w0 := w) (w3 := [(ao, .inl (kA 3, 1, .inr (.inr (.inr (.inl o)))))]) (mc := 2) (ms := 12) (goodV w_760 w_761 w_762 w_47 w_763) (fun sz => met_X3_averageDistance l E.2.2.2 D kA ad fu w a1 o9 h9 sz) rfl rfl (by decide +kernel) ⟨by decide, by decide⟩ 0 rfl (qc := (RX3, TX3, _)) rfl rfl rfl rfl (Nat.le_of_ble_eq_true rfl) dL_averageDistance_4 ⟨by decide, by decide⟩ (fun q ce q9 H1 locs1 ls ho hP hD hS hl hce hcv hcl => ?_) (fun z w2 ho => ?_)
  · have hg := hg _ ho
    by_cases hq : q.1 = "java/lang/IllegalStateException"
    · rw [if_pos hq] at hg
      cases hg
      refine x_catch (ws := picC kA ad q.2 ++ [(ao, .inl (kA 3, 1, .inr (.inr (.inr (.inl o)))))]) (name := "java/lang/IllegalStateException") X E htab [] [(0, 8, 14, 19)] (0, 8, 11, 13) rfl (fun z hz => by simp at hz) (by decide +kernel) (hpc := 11) rfl (by decide) w_302 ca_ISE hce hcv (hq ▸ hcl) hP hD hS hl ?_
      refine x_astore_n X (lv2 := (3, .ref q9) :: [(0, .ref (ad 0)), (1, .int a1), (2, .ref ao)]) dL_averageDistance_11 (by decide) rfl ?_
      refine x_iconst X (v := 1) dL_averageDistance_12 (by decide) ?_
      exact x_iretW X hr hlk rfl rfl (by decide) (by decide) dL_averageDistance_13
    rw [if_neg hq] at hg
    by_cases hq : q.1 = "java/lang/IndexOutOfBoundsException"
    · rw [if_pos hq] at hg
      cases hg
      refine x_catch (ws := picC kA ad q.2 ++ [(ao, .inl (kA 3, 1, .inr (.inr (.inr (.inl o)))))]) (name := "java/lang/IndexOutOfBoundsException") X E htab [(0, 8, 11, 13)] [] (0, 8, 14, 19) rfl (fun z hz => by
        simp only [List.mem_cons, List.not_mem_nil, or_false] at hz
        rcases hz with rfl
        · exact ⟨by decide, "java/lang/IllegalStateException", w_302, hNC _ (by decide +kernel) _ (by decide +kernel) (by decide +kernel)⟩) (by decide +kernel) (hpc := 14) rfl (by decide) w_379 ca_IOB hce hcv (hq ▸ hcl) hP hD hS hl ?_
      refine x_astore_n X (lv2 := (3, .ref q9) :: [(0, .ref (ad 0)), (1, .int a1), (2, .ref ao)]) dL_averageDistance_14 (by decide) rfl ?_
      refine x_iconst X (v := 2) dL_averageDistance_15 (by decide) ?_
      exact x_iretW X hr hlk rfl rfl (by decide) (by decide) dL_averageDistance_16
    rw [if_neg hq] at hg
    cases hg
  · have hf := hf _ ho
    cases hf
    refine x_dast X E.1.1 29 rfl (kf := some) (u := ()) dL_averageDistance_7 (ck_t in01) (fun _ => picC kA ad w2 ++ [(ao, .inl (kA 3, 1, .inr (.inr (.inr (.inl (vf_upd o 0 z))))))]) rfl (fun _ _ => ?_)
    refine x_goto X (tgt := 17) dL_averageDistance_8 (by decide) ?_
    refine x_iconst X (v := 0) dL_averageDistance_17 (by decide) ?_
    exact x_iretW X hr hlk rfl rfl (by decide) (by decide) dL_averageDistance_18
abbrev rm_L_detour : Room := { frames := 10, cells := 5, slots := 30, locals := 233 }
set_option maxRecDepth 100000 in
set_option maxHeartbeats 4000000 in
theorem met_L_detour (l : Launch) (hst : l.stackTraces = false) (D : va_G) (kA : Nat → ClassId) (ad : Nat → Nat) (ao : Nat) (fu : Nat) (w : WS) (o : (Nat → Int64)) (a1 : Int32) (a2 : Int32) (a3 : Int32) (v : Int32) (w1 : WS) (o1 : (Nat → Int64)) (hf : f_L_detour fu w o a1 a2 a3 = some (v, w1, o1)) (sz : Nat) : vx_Met l yL_detour (wsH yL_detour cL_detour 6 (some .int) [(0, 12, 15, 13), (0, 12, 19, 19), (0, 12, 23, 61)]) rm_L_detour (va_Pc [.ref (ad 0), .int a1, .int a2, .int a3, .ref ao] (fun U => PreG D kA (picC kA ad w ++ [(ao, .inl (kA 1, 1, .inr (.inl o)))]) sz U ∧ NCs U)) (va_Qi (fun (r : Int32) (_ : Unit) => r = v) (fun _ t => PosG D (va_A (picC kA ad w ++ [(ao, .inl (kA 1, 1, .inr (.inl o)))]) sz) (picC kA ad w1 ++ [(ao, .inl (kA 1, 1, .inr (.inl o1)))]) t) (va_A (picC kA ad w ++ [(ao, .inl (kA 1, 1, .inr (.inl o)))]) sz)) (vx_X (fun (_ : Unit) => False) (fun _ _ _ => True) (va_A (picC kA ad w ++ [(ao, .inl (kA 1, 1, .inr (.inl o)))]) sz)) 5 30 (va_A (picC kA ad w ++ [(ao, .inl (kA 1, 1, .inr (.inl o)))]) sz) := by
  refine metW (own := RL) (hh := [(0, 12, 15, 13), (0, 12, 19, 19), (0, 12, 23, 61)]) hst (by decide +kernel) rfl (Nat.le_of_ble_eq_true rfl) rfl ?_
  intro p e s m below meth c X hr hlk E hNC htab
  unfold f_L_detour at hf
  refine x_aload X dL_detour_0 4 rfl ?_
  refine x_iconst X (v := 0) dL_detour_2 (by decide) ?_
  refine x_aload_n X dL_detour_3 0 rfl ?_
  refine x_iload_n X dL_detour_4 1 rfl ?_
  refine x_iload_n X dL_detour_5 2 rfl ?_
  refine x_iload_n X dL_detour_6 3 rfl ?_
  obtain ⟨o9, h9, hf, hg⟩ := bx_one hf
  refine x_callXs_i X E (As := [.int a1, .int a2, .int a3]) (rest := [.int 0, .ref ao]) (n := 3) (pic := picC kA ad) (w0 := w) (w3 := [(ao, .inl (kA 1, 1, .inr (.inl o)))]) (mc := 5) (ms := 30) (goodV w_767 w_768 w_769 w_47 w_770) (fun sz => met_X3_detour l E.2.2.2 D kA ad fu w a1 a2 a3 o9 h9 sz) rfl rfl (by decide +kernel) ⟨by decide, by decide⟩ 0 rfl (qc := (RX3, TX3, _)) rfl rfl rfl rfl (Nat.le_of_ble_eq_true rfl) dL_detour_7 ⟨by decide, by decide⟩ (fun q ce q9 H1 locs1 ls ho hP hD hS hl hce hcv hcl => ?_) (fun z w2 ho => ?_)
  · have hg := hg _ ho
    by_cases hq : q.1 = "java/lang/IllegalStateException"
    · rw [if_pos hq] at hg
      cases hg
      refine x_catch (ws := picC kA ad q.2 ++ [(ao, .inl (kA 1, 1, .inr (.inl o)))]) (name := "java/lang/IllegalStateException") X E htab [] [(0, 12, 19, 19), (0, 12, 23, 61)] (0, 12, 15, 13) rfl (fun z hz => by simp at hz) (by decide +kernel) (hpc := 15) rfl (by decide) w_302 ca_ISE hce hcv (hq ▸ hcl) hP hD hS hl ?_
      refine x_astore X (lv2 := (5, .ref q9) :: [(0, .ref (ad 0)), (1, .int a1), (2, .int a2), (3, .int a3), (4, .ref ao)]) dL_detour_15 (by decide) rfl ?_
      refine x_iconst X (v := 1) dL_detour_17 (by decide) ?_
      exact x_iretW X hr hlk rfl rfl (by decide) (by decide) dL_detour_18
    rw [if_neg hq] at hg
    by_cases hq : q.1 = "java/lang/IndexOutOfBoundsException"
    · rw [if_pos hq] at hg
      cases hg
      refine x_catch (ws := picC kA ad q.2 ++ [(ao, .inl (kA 1, 1, .inr (.inl o)))]) (name := "java/lang/IndexOutOfBoundsException") X E htab [(0, 12, 15, 13)] [(0, 12, 23, 61)] (0, 12, 19, 19) rfl (fun z hz => by
        simp only [List.mem_cons, List.not_mem_nil, or_false] at hz
        rcases hz with rfl
        · exact ⟨by decide, "java/lang/IllegalStateException", w_302, hNC _ (by decide +kernel) _ (by decide +kernel) (by decide +kernel)⟩) (by decide +kernel) (hpc := 19) rfl (by decide) w_379 ca_IOB hce hcv (hq ▸ hcl) hP hD hS hl ?_
      refine x_astore X (lv2 := (5, .ref q9) :: [(0, .ref (ad 0)), (1, .int a1), (2, .int a2), (3, .int a3), (4, .ref ao)]) dL_detour_19 (by decide) rfl ?_
      refine x_iconst X (v := 2) dL_detour_21 (by decide) ?_
      exact x_iretW X hr hlk rfl rfl (by decide) (by decide) dL_detour_22
    rw [if_neg hq] at hg
    by_cases hq : q.1 = "java/util/NoSuchElementException"
    · rw [if_pos hq] at hg
      cases hg
      refine x_catch (ws := picC kA ad q.2 ++ [(ao, .inl (kA 1, 1, .inr (.inl o)))]) (name := "java/util/NoSuchElementException") X E htab [(0, 12, 15, 13), (0, 12, 19, 19)] [] (0, 12, 23, 61) rfl (fun z hz => by
        simp only [List.mem_cons, List.not_mem_nil, or_false] at hz
        rcases hz with rfl | rfl
        · exact ⟨by decide, "java/lang/IllegalStateException", w_302, hNC _ (by decide +kernel) _ (by decide +kernel) (by decide +kernel)⟩
        · exact ⟨by decide, "java/lang/IndexOutOfBoundsException", w_379, hNC _ (by decide +kernel) _ (by decide +kernel) (by decide +kernel)⟩) (by decide +kernel) (hpc := 23) rfl (by decide) w_631 ca_NSE hce hcv (hq ▸ hcl) hP hD hS hl ?_
      refine x_astore X (lv2 := (5, .ref q9) :: [(0, .ref (ad 0)), (1, .int a1), (2, .int a2), (3, .int a3), (4, .ref ao)]) dL_detour_23 (by decide) rfl ?_
      refine x_iconst X (v := 3) dL_detour_25 (by decide) ?_
      exact x_iretW X hr hlk rfl rfl (by decide) (by decide) dL_detour_26
    rw [if_neg hq] at hg
    cases hg
  · have hf := hf _ ho
    cases hf
    refine x_i2l X dL_detour_10 ?_
    refine x_last X E.1.1 29 rfl (kf := some) (u := ()) dL_detour_11 (ck_t in01) (fun _ => picC kA ad w2 ++ [(ao, .inl (kA 1, 1, .inr (.inl (vp_updL o 0 (Int32.toInt64 z)))))]) rfl (fun _ _ => ?_)
    refine x_goto X (tgt := 27) dL_detour_12 (by decide) ?_
    refine x_iconst X (v := 0) dL_detour_27 (by decide) ?_
    exact x_iretW X hr hlk rfl rfl (by decide) (by decide) dL_detour_28
abbrev rm_L_setPlace : Room := { frames := 8, cells := 2, slots := 12, locals := 135 }
set_option maxRecDepth 100000 in
set_option maxHeartbeats 4000000 in
theorem met_L_setPlace (l : Launch) (hst : l.stackTraces = false) (D : va_G) (kA : Nat → ClassId) (ad : Nat → Nat) (ao : Nat) (fu : Nat) (w : WS) (o : (Nat → Int64)) (a1 : Int32) (a2 : Int32) (a3 : Int32) (v : Int32) (w1 : WS) (o1 : (Nat → Int64)) (hf : f_L_setPlace fu w o a1 a2 a3 = some (v, w1, o1)) (sz : Nat) : vx_Met l yL_setPlace (wsH yL_setPlace cL_setPlace 6 (some .int) [(0, 19, 22, 19)]) rm_L_setPlace (va_Pc [.ref (ad 0), .int a1, .int a2, .int a3, .ref ao] (fun U => PreG D kA (picC kA ad w ++ [(ao, .inl (kA 1, 1, .inr (.inl o)))]) sz U ∧ NCs U)) (va_Qi (fun (r : Int32) (_ : Unit) => r = v) (fun _ t => PosG D (va_A (picC kA ad w ++ [(ao, .inl (kA 1, 1, .inr (.inl o)))]) sz) (picC kA ad w1 ++ [(ao, .inl (kA 1, 1, .inr (.inl o1)))]) t) (va_A (picC kA ad w ++ [(ao, .inl (kA 1, 1, .inr (.inl o)))]) sz)) (vx_X (fun (_ : Unit) => False) (fun _ _ _ => True) (va_A (picC kA ad w ++ [(ao, .inl (kA 1, 1, .inr (.inl o)))]) sz)) 2 12 (va_A (picC kA ad w ++ [(ao, .inl (kA 1, 1, .inr (.inl o)))]) sz) := by
  refine metW (own := RL) (hh := [(0, 19, 22, 19)]) hst (by decide +kernel) rfl (Nat.le_of_ble_eq_true rfl) rfl ?_
  intro p e s m below meth c X hr hlk E hNC htab
  unfold f_L_setPlace at hf
  refine x_aload X dL_setPlace_0 4 rfl ?_
  refine x_iconst X (v := 0) dL_setPlace_2 (by decide) ?_
  refine x_aload_n X dL_setPlace_3 0 rfl ?_
  refine x_iload_n X dL_setPlace_4 1 rfl ?_
  refine x_iload_n X dL_setPlace_5 2 rfl ?_
  refine x_iload_n X dL_setPlace_6 3 rfl ?_
  obtain ⟨o9, h9, hf, hg⟩ := bx_one hf
  refine x_callXs_i X E (As := [.int a1, .int a2, .int a3]) (rest := [.int 0, .ref ao]) (n := 3) (pic := picC kA ad) (w0 := w) (w3 := [(ao, .inl (kA 1, 1, .inr (.inl o)))]) (mc := 2) (ms := 12) (goodV w_774 w_775 w_776 w_47 w_777) (fun sz => met_X3_setPlace l E.2.2.2 D kA ad fu w a1 a2 a3 o9 h9 sz) rfl rfl (by decide +kernel) ⟨by decide, by decide⟩ 0 rfl (qc := (RX3, TX3, _)) rfl rfl rfl rfl (Nat.le_of_ble_eq_true rfl) dL_setPlace_7 ⟨by decide, by decide⟩ (fun q ce q9 H1 locs1 ls ho hP hD hS hl hce hcv hcl => ?_) (fun z w2 ho => ?_)
  · have hg := hg _ ho
    by_cases hq : q.1 = "java/lang/IndexOutOfBoundsException"
    · rw [if_pos hq] at hg
      cases hg
      refine x_catch (ws := picC kA ad q.2 ++ [(ao, .inl (kA 1, 1, .inr (.inl o)))]) (name := "java/lang/IndexOutOfBoundsException") X E htab [] [] (0, 19, 22, 19) rfl (fun z hz => by simp at hz) (by decide +kernel) (hpc := 22) rfl (by decide) w_379 ca_IOB hce hcv (hq ▸ hcl) hP hD hS hl ?_
      refine x_astore X (lv2 := (5, .ref q9) :: [(0, .ref (ad 0)), (1, .int a1), (2, .int a2), (3, .int a3), (4, .ref ao)]) dL_setPlace_22 (by decide) rfl ?_
      refine x_iconst X (v := 1) dL_setPlace_24 (by decide) ?_
      exact x_iretW X hr hlk rfl rfl (by decide) (by decide) dL_setPlace_25
    rw [if_neg hq] at hg
    cases hg
  · have hf := hf _ ho
    cases hf
    by_cases hz : z = 0
    · refine x_if_eq_t X (tgt := 17) dL_setPlace_10 (by decide) hz ?_
      refine x_lconst X (v := 0) dL_setPlace_17 (by decide) ?_
      refine x_last X E.1.1 29 rfl (kf := some) (u := ()) dL_setPlace_18 (ck_t in01) (fun _ => picC kA ad w2 ++ [(ao, .inl (kA 1, 1, .inr (.inl (vp_updL o 0 (if z = 0 then 0 else 1)))))]) (by rw [if_pos hz]; rfl) (fun _ _ => ?_)
      refine x_goto X (tgt := 26) dL_setPlace_19 (by decide) ?_
      refine x_iconst X (v := 0) dL_setPlace_26 (by decide) ?_
      exact x_iretW X hr hlk rfl rfl (by decide) (by decide) dL_setPlace_27
    · refine x_if_eq_f X (tgt := 17) dL_setPlace_10 (by decide) hz ?_
      refine x_lconst X (v := 1) dL_setPlace_13 (by decide) ?_
      refine x_goto X (tgt := 18) dL_setPlace_14 (by decide) ?_
      refine x_last X E.1.1 29 rfl (kf := some) (u := ()) dL_setPlace_18 (ck_t in01) (fun _ => picC kA ad w2 ++ [(ao, .inl (kA 1, 1, .inr (.inl (vp_updL o 0 (if z = 0 then 0 else 1)))))]) (by rw [if_neg hz]; rfl) (fun _ _ => ?_)
      refine x_goto X (tgt := 26) dL_setPlace_19 (by decide) ?_
      refine x_iconst X (v := 0) dL_setPlace_26 (by decide) ?_
      exact x_iretW X hr hlk rfl rfl (by decide) (by decide) dL_setPlace_27
abbrev rm_L_nearest : Room := { frames := 8, cells := 4, slots := 24, locals := 163 }
set_option maxRecDepth 100000 in
set_option maxHeartbeats 4000000 in
theorem met_L_nearest (l : Launch) (hst : l.stackTraces = false) (D : va_G) (kA : Nat → ClassId) (ad : Nat → Nat) (ao : Nat) (fu : Nat) (w : WS) (o : (Nat → Int64)) (a1 : Int32) (a2 : Int32) (v : Int32) (w1 : WS) (o1 : (Nat → Int64)) (hf : f_L_nearest fu w o a1 a2 = some (v, w1, o1)) (sz : Nat) : vx_Met l yL_nearest (wsH yL_nearest cL_nearest 5 (some .int) [(0, 10, 13, 13), (0, 10, 17, 19), (0, 10, 21, 61)]) rm_L_nearest (va_Pc [.ref (ad 0), .int a1, .int a2, .ref ao] (fun U => PreG D kA (picC kA ad w ++ [(ao, .inl (kA 1, 1, .inr (.inl o)))]) sz U ∧ NCs U)) (va_Qi (fun (r : Int32) (_ : Unit) => r = v) (fun _ t => PosG D (va_A (picC kA ad w ++ [(ao, .inl (kA 1, 1, .inr (.inl o)))]) sz) (picC kA ad w1 ++ [(ao, .inl (kA 1, 1, .inr (.inl o1)))]) t) (va_A (picC kA ad w ++ [(ao, .inl (kA 1, 1, .inr (.inl o)))]) sz)) (vx_X (fun (_ : Unit) => False) (fun _ _ _ => True) (va_A (picC kA ad w ++ [(ao, .inl (kA 1, 1, .inr (.inl o)))]) sz)) 4 24 (va_A (picC kA ad w ++ [(ao, .inl (kA 1, 1, .inr (.inl o)))]) sz) := by
  refine metW (own := RL) (hh := [(0, 10, 13, 13), (0, 10, 17, 19), (0, 10, 21, 61)]) hst (by decide +kernel) rfl (Nat.le_of_ble_eq_true rfl) rfl ?_
  intro p e s m below meth c X hr hlk E hNC htab
  unfold f_L_nearest at hf
  refine x_aload_n X dL_nearest_0 3 rfl ?_
  refine x_iconst X (v := 0) dL_nearest_1 (by decide) ?_
  refine x_aload_n X dL_nearest_2 0 rfl ?_
  refine x_iload_n X dL_nearest_3 1 rfl ?_
  refine x_iload_n X dL_nearest_4 2 rfl ?_
  obtain ⟨o9, h9, hf, hg⟩ := bx_one hf
  refine x_callXs_i X E (As := [.int a1, .int a2]) (rest := [.int 0, .ref ao]) (n := 2) (pic := picC kA ad) (w0 := w) (w3 := [(ao, .inl (kA 1, 1, .inr (.inl o)))]) (mc := 4) (ms := 24) (goodV w_789 w_790 w_791 w_47 w_792) (fun sz => met_X3_nearest l E.2.2.2 D kA ad fu w a1 a2 o9 h9 sz) rfl rfl (by decide +kernel) ⟨by decide, by decide⟩ 0 rfl (qc := (RX3, TX3, _)) rfl rfl rfl rfl (Nat.le_of_ble_eq_true rfl) dL_nearest_5 ⟨by decide, by decide⟩ (fun q ce q9 H1 locs1 ls ho hP hD hS hl hce hcv hcl => ?_) (fun z w2 ho => ?_)
  · have hg := hg _ ho
    by_cases hq : q.1 = "java/lang/IllegalStateException"
    · rw [if_pos hq] at hg
      cases hg
      refine x_catch (ws := picC kA ad q.2 ++ [(ao, .inl (kA 1, 1, .inr (.inl o)))]) (name := "java/lang/IllegalStateException") X E htab [] [(0, 10, 17, 19), (0, 10, 21, 61)] (0, 10, 13, 13) rfl (fun z hz => by simp at hz) (by decide +kernel) (hpc := 13) rfl (by decide) w_302 ca_ISE hce hcv (hq ▸ hcl) hP hD hS hl ?_
      refine x_astore X (lv2 := (4, .ref q9) :: [(0, .ref (ad 0)), (1, .int a1), (2, .int a2), (3, .ref ao)]) dL_nearest_13 (by decide) rfl ?_
      refine x_iconst X (v := 1) dL_nearest_15 (by decide) ?_
      exact x_iretW X hr hlk rfl rfl (by decide) (by decide) dL_nearest_16
    rw [if_neg hq] at hg
    by_cases hq : q.1 = "java/lang/IndexOutOfBoundsException"
    · rw [if_pos hq] at hg
      cases hg
      refine x_catch (ws := picC kA ad q.2 ++ [(ao, .inl (kA 1, 1, .inr (.inl o)))]) (name := "java/lang/IndexOutOfBoundsException") X E htab [(0, 10, 13, 13)] [(0, 10, 21, 61)] (0, 10, 17, 19) rfl (fun z hz => by
        simp only [List.mem_cons, List.not_mem_nil, or_false] at hz
        rcases hz with rfl
        · exact ⟨by decide, "java/lang/IllegalStateException", w_302, hNC _ (by decide +kernel) _ (by decide +kernel) (by decide +kernel)⟩) (by decide +kernel) (hpc := 17) rfl (by decide) w_379 ca_IOB hce hcv (hq ▸ hcl) hP hD hS hl ?_
      refine x_astore X (lv2 := (4, .ref q9) :: [(0, .ref (ad 0)), (1, .int a1), (2, .int a2), (3, .ref ao)]) dL_nearest_17 (by decide) rfl ?_
      refine x_iconst X (v := 2) dL_nearest_19 (by decide) ?_
      exact x_iretW X hr hlk rfl rfl (by decide) (by decide) dL_nearest_20
    rw [if_neg hq] at hg
    by_cases hq : q.1 = "java/util/NoSuchElementException"
    · rw [if_pos hq] at hg
      cases hg
      refine x_catch (ws := picC kA ad q.2 ++ [(ao, .inl (kA 1, 1, .inr (.inl o)))]) (name := "java/util/NoSuchElementException") X E htab [(0, 10, 13, 13), (0, 10, 17, 19)] [] (0, 10, 21, 61) rfl (fun z hz => by
        simp only [List.mem_cons, List.not_mem_nil, or_false] at hz
        rcases hz with rfl | rfl
        · exact ⟨by decide, "java/lang/IllegalStateException", w_302, hNC _ (by decide +kernel) _ (by decide +kernel) (by decide +kernel)⟩
        · exact ⟨by decide, "java/lang/IndexOutOfBoundsException", w_379, hNC _ (by decide +kernel) _ (by decide +kernel) (by decide +kernel)⟩) (by decide +kernel) (hpc := 21) rfl (by decide) w_631 ca_NSE hce hcv (hq ▸ hcl) hP hD hS hl ?_
      refine x_astore X (lv2 := (4, .ref q9) :: [(0, .ref (ad 0)), (1, .int a1), (2, .int a2), (3, .ref ao)]) dL_nearest_21 (by decide) rfl ?_
      refine x_iconst X (v := 3) dL_nearest_23 (by decide) ?_
      exact x_iretW X hr hlk rfl rfl (by decide) (by decide) dL_nearest_24
    rw [if_neg hq] at hg
    cases hg
  · have hf := hf _ ho
    cases hf
    refine x_i2l X dL_nearest_8 ?_
    refine x_last X E.1.1 29 rfl (kf := some) (u := ()) dL_nearest_9 (ck_t in01) (fun _ => picC kA ad w2 ++ [(ao, .inl (kA 1, 1, .inr (.inl (vp_updL o 0 (Int32.toInt64 z)))))]) rfl (fun _ _ => ?_)
    refine x_goto X (tgt := 25) dL_nearest_10 (by decide) ?_
    refine x_iconst X (v := 0) dL_nearest_25 (by decide) ?_
    exact x_iretW X hr hlk rfl rfl (by decide) (by decide) dL_nearest_26
abbrev rm_L_push : Room := { frames := 7, cells := 1, slots := 6, locals := 110 }
set_option maxRecDepth 100000 in
set_option maxHeartbeats 4000000 in
theorem met_L_push (l : Launch) (hst : l.stackTraces = false) (D : va_G) (kA : Nat → ClassId) (ad : Nat → Nat) (ao : Nat) (fu : Nat) (w : WS) (o : (Nat → Int64))  (v : Int32) (w1 : WS) (o1 : (Nat → Int64)) (hf : f_L_push fu w o = some (v, w1, o1)) (sz : Nat) : vx_Met l yL_push (wsH yL_push cL_push 3 (some .int) [(0, 8, 11, 13)]) rm_L_push (va_Pc [.ref (ad 0), .ref ao] (fun U => PreG D kA (picC kA ad w ++ [(ao, .inl (kA 1, 1, .inr (.inl o)))]) sz U ∧ NCs U)) (va_Qi (fun (r : Int32) (_ : Unit) => r = v) (fun _ t => PosG D (va_A (picC kA ad w ++ [(ao, .inl (kA 1, 1, .inr (.inl o)))]) sz) (picC kA ad w1 ++ [(ao, .inl (kA 1, 1, .inr (.inl o1)))]) t) (va_A (picC kA ad w ++ [(ao, .inl (kA 1, 1, .inr (.inl o)))]) sz)) (vx_X (fun (_ : Unit) => False) (fun _ _ _ => True) (va_A (picC kA ad w ++ [(ao, .inl (kA 1, 1, .inr (.inl o)))]) sz)) 1 6 (va_A (picC kA ad w ++ [(ao, .inl (kA 1, 1, .inr (.inl o)))]) sz) := by
  refine metW (own := RL) (hh := [(0, 8, 11, 13)]) hst (by decide +kernel) rfl (Nat.le_of_ble_eq_true rfl) rfl ?_
  intro p e s m below meth c X hr hlk E hNC htab
  unfold f_L_push at hf
  refine x_aload_n X dL_push_0 1 rfl ?_
  refine x_iconst X (v := 0) dL_push_1 (by decide) ?_
  refine x_aload_n X dL_push_2 0 rfl ?_
  obtain ⟨o9, h9, hf, hg⟩ := bx_one hf
  refine x_callXs_i X E (As := []) (rest := [.int 0, .ref ao]) (n := 0) (pic := picC kA ad) (w0 := w) (w3 := [(ao, .inl (kA 1, 1, .inr (.inl o)))]) (mc := 1) (ms := 6) (goodV w_797 w_798 w_799 w_47 w_800) (fun sz => met_X3_push l E.2.2.2 D kA ad fu w o9 h9 sz) rfl rfl (by decide +kernel) ⟨by decide, by decide⟩ 0 rfl (qc := (RX3, TX3, _)) rfl rfl rfl rfl (Nat.le_of_ble_eq_true rfl) dL_push_3 ⟨by decide, by decide⟩ (fun q ce q9 H1 locs1 ls ho hP hD hS hl hce hcv hcl => ?_) (fun z w2 ho => ?_)
  · have hg := hg _ ho
    by_cases hq : q.1 = "java/lang/IllegalStateException"
    · rw [if_pos hq] at hg
      cases hg
      refine x_catch (ws := picC kA ad q.2 ++ [(ao, .inl (kA 1, 1, .inr (.inl o)))]) (name := "java/lang/IllegalStateException") X E htab [] [] (0, 8, 11, 13) rfl (fun z hz => by simp at hz) (by decide +kernel) (hpc := 11) rfl (by decide) w_302 ca_ISE hce hcv (hq ▸ hcl) hP hD hS hl ?_
      refine x_astore_n X (lv2 := (2, .ref q9) :: [(0, .ref (ad 0)), (1, .ref ao)]) dL_push_11 (by decide) rfl ?_
      refine x_iconst X (v := 1) dL_push_12 (by decide) ?_
      exact x_iretW X hr hlk rfl rfl (by decide) (by decide) dL_push_13
    rw [if_neg hq] at hg
    cases hg
  · have hf := hf _ ho
    cases hf
    refine x_i2l X dL_push_6 ?_
    refine x_last X E.1.1 29 rfl (kf := some) (u := ()) dL_push_7 (ck_t in01) (fun _ => picC kA ad w2 ++ [(ao, .inl (kA 1, 1, .inr (.inl (vp_updL o 0 (Int32.toInt64 z)))))]) rfl (fun _ _ => ?_)
    refine x_goto X (tgt := 14) dL_push_8 (by decide) ?_
    refine x_iconst X (v := 0) dL_push_14 (by decide) ?_
    exact x_iretW X hr hlk rfl rfl (by decide) (by decide) dL_push_15
abbrev rm_L_pop : Room := { frames := 9, cells := 1, slots := 6, locals := 203 }
set_option maxRecDepth 100000 in
set_option maxHeartbeats 4000000 in
theorem met_L_pop (l : Launch) (hst : l.stackTraces = false) (D : va_G) (kA : Nat → ClassId) (ad : Nat → Nat) (ao : Nat) (fu : Nat) (w : WS) (o : (Nat → Int64))  (v : Int32) (w1 : WS) (o1 : (Nat → Int64)) (hf : f_L_pop fu w o = some (v, w1, o1)) (sz : Nat) : vx_Met l yL_pop (wsH yL_pop cL_pop 3 (some .int) [(0, 8, 11, 13)]) rm_L_pop (va_Pc [.ref (ad 0), .ref ao] (fun U => PreG D kA (picC kA ad w ++ [(ao, .inl (kA 1, 1, .inr (.inl o)))]) sz U ∧ NCs U)) (va_Qi (fun (r : Int32) (_ : Unit) => r = v) (fun _ t => PosG D (va_A (picC kA ad w ++ [(ao, .inl (kA 1, 1, .inr (.inl o)))]) sz) (picC kA ad w1 ++ [(ao, .inl (kA 1, 1, .inr (.inl o1)))]) t) (va_A (picC kA ad w ++ [(ao, .inl (kA 1, 1, .inr (.inl o)))]) sz)) (vx_X (fun (_ : Unit) => False) (fun _ _ _ => True) (va_A (picC kA ad w ++ [(ao, .inl (kA 1, 1, .inr (.inl o)))]) sz)) 1 6 (va_A (picC kA ad w ++ [(ao, .inl (kA 1, 1, .inr (.inl o)))]) sz) := by
  refine metW (own := RL) (hh := [(0, 8, 11, 13)]) hst (by decide +kernel) rfl (Nat.le_of_ble_eq_true rfl) rfl ?_
  intro p e s m below meth c X hr hlk E hNC htab
  unfold f_L_pop at hf
  refine x_aload_n X dL_pop_0 1 rfl ?_
  refine x_iconst X (v := 0) dL_pop_1 (by decide) ?_
  refine x_aload_n X dL_pop_2 0 rfl ?_
  obtain ⟨o9, h9, hf, hg⟩ := bx_one hf
  refine x_callXs_i X E (As := []) (rest := [.int 0, .ref ao]) (n := 0) (pic := picC kA ad) (w0 := w) (w3 := [(ao, .inl (kA 1, 1, .inr (.inl o)))]) (mc := 1) (ms := 6) (goodV w_812 w_813 w_814 w_47 w_815) (fun sz => met_X3_pop l E.2.2.2 D kA ad fu w o9 h9 sz) rfl rfl (by decide +kernel) ⟨by decide, by decide⟩ 0 rfl (qc := (RX3, TX3, _)) rfl rfl rfl rfl (Nat.le_of_ble_eq_true rfl) dL_pop_3 ⟨by decide, by decide⟩ (fun q ce q9 H1 locs1 ls ho hP hD hS hl hce hcv hcl => ?_) (fun z w2 ho => ?_)
  · have hg := hg _ ho
    by_cases hq : q.1 = "java/lang/IllegalStateException"
    · rw [if_pos hq] at hg
      cases hg
      refine x_catch (ws := picC kA ad q.2 ++ [(ao, .inl (kA 1, 1, .inr (.inl o)))]) (name := "java/lang/IllegalStateException") X E htab [] [] (0, 8, 11, 13) rfl (fun z hz => by simp at hz) (by decide +kernel) (hpc := 11) rfl (by decide) w_302 ca_ISE hce hcv (hq ▸ hcl) hP hD hS hl ?_
      refine x_astore_n X (lv2 := (2, .ref q9) :: [(0, .ref (ad 0)), (1, .ref ao)]) dL_pop_11 (by decide) rfl ?_
      refine x_iconst X (v := 1) dL_pop_12 (by decide) ?_
      exact x_iretW X hr hlk rfl rfl (by decide) (by decide) dL_pop_13
    rw [if_neg hq] at hg
    cases hg
  · have hf := hf _ ho
    cases hf
    refine x_i2l X dL_pop_6 ?_
    refine x_last X E.1.1 29 rfl (kf := some) (u := ()) dL_pop_7 (ck_t in01) (fun _ => picC kA ad w2 ++ [(ao, .inl (kA 1, 1, .inr (.inl (vp_updL o 0 (Int32.toInt64 z)))))]) rfl (fun _ _ => ?_)
    refine x_goto X (tgt := 14) dL_pop_8 (by decide) ?_
    refine x_iconst X (v := 0) dL_pop_14 (by decide) ?_
    exact x_iretW X hr hlk rfl rfl (by decide) (by decide) dL_pop_15
