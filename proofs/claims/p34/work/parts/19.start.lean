def R_law : String := "RoadOracleLaw"
def lw_P (b : Addr) (xs : List Int32) (args : Array Value) (s : State) : Prop := args = #[.ref b] ∧ s.IntsAt b xs ∧ xs.length ≤ 260 ∧ (Jvm.Cond.and given_1 narrow_1).before args s = true
def lw_Q (_ : Array Value) (s : State) (o : Outcome) (t : State) : Prop := o = .returned (some (.int 1)) ∧ Framed s o t [] 600130 7301080
def lw_Z (below : List Frame) (a : Array Value) (s : State) : State → Prop := fun t => ∃ o, t.status = .running ∧ Ended t below o ∧ lw_Q a s o t
/-- the law's own end, with 1 on the stack, nothing written that was there before, its room as the claim has it -/
theorem lw_ret {p : Program} {l : Launch} {e : Env} {s : State} {m : MethodId} {below : List Frame} {meth : Method} {c : Code} {b : Nat} (hx : p.tables.exec = Jvm.exec) (hb : c.code = code) (hr : meth.sig.returnType = ret) (hlocks : meth.locks = false) {pc : Nat} {H : Heap} {ls : Array Slot} (hdg : decode code pc = .ok (.ireturn, 1)) : W p l e room_1 s m #[Value.ref b] below meth c H [] 600130 7301080 (lw_Z below #[Value.ref b] s) (F0 m pc ls [.int 1]) := by
  intro T hT X
  obtain ⟨fs, hret, hrun, hended, hW, hframe⟩ := X.leave (v := some (.int 1)) (hlocks := hlocks) (fun h => by rw [hr] at h; cases h)
  have hmeth' : T.vm.method? m = some meth := X.method'
  refine ⟨T.setFrames fs, ?_, .returned (some (.int 1)), hrun, hended, rfl, ⟨_, rfl⟩, hW, hframe⟩
  jvm_step X.here [X.here.top, hx, hb, hdg, hmeth', hr, ret, narrow_b1]
  (try refine ⟨rfl, ?_⟩); (try refine ⟨rfl, ?_⟩)
  first | (intro acts; rw [hret _ acts rfl rfl rfl]) | rw [hret _ _ rfl rfl rfl]
  exact Steps.refl _
/-- what holds at the law's entry: the machine, the code, the tables' words (any of lw_tbl by 'hts w (by decide +kernel)'), the script of L ints xs at the cell b, what the Statement gives of the start (any of its parts by flat_of_before) -/
def lw_At (p : Program) (s : State) (m : MethodId) (meth : Method) (c : Code) (b L : Nat) (xs : Nat → Int32) : Prop :=
  p.tables.exec = Jvm.exec ∧ c.code = code ∧ meth.sig.returnType = ret ∧ c.maxLocals = 15 ∧ s.vm.findClass R_law = some m.cls ∧ (∀ w ∈ lw_tbl, w.before #[Value.ref b] s = true) ∧ va_X b L xs s s.heap ∧ b < s.heap.size ∧ meth.locks = false ∧ (Jvm.Cond.and given_1 narrow_1).before #[Value.ref b] s = true

def wC0 : WS := (fun a => match a with
  | 1 => fun j => (match j with
    | 9 => 100
    | _ => 0)
  | 12 => fillF 4096 (-2) (fun _ => 0)
  | _ => fun _ => 0, fun _ _ => 0)
def vL0 : WS := (fun _ _ => 0, fun _ _ => 0)
/-- the law's arrays behind build: the new ones are zero, but 100 in uTurn -/
def vM0 (v : WS) : WS := (fun a => match a with
  | 0 => v.1 0
  | 1 => v.1 1
  | 2 => v.1 2
  | 5 => upd (fun _ => 0) 0 100
  | _ => fun _ => 0, fun _ _ => 0)
def adOf (q : Nat) (u : Nat → Nat) : Nat → Nat := fun i => match i with
  | 0 => q
  | n + 1 => u (n + 1)
def al3 (a0 a1 a2 : Nat) : Nat → Nat := fun i => match i with
  | 0 => a0
  | 1 => a1
  | _ => a2
def al9 (al : Nat → Nat) (a3 a4 a5 a6 a7 a8 : Nat) : Nat → Nat := fun i => match i with
  | 0 => al 0
  | 1 => al 1
  | 2 => al 2
  | 3 => a3
  | 4 => a4
  | 5 => a5
  | 6 => a6
  | 7 => a7
  | _ => a8
set_option maxRecDepth 100000 in
theorem str_in : ∀ q ∈ STRL, Cond.stringRef q.1 q.2.1 q.2.2 ∈ lw_tbl := by decide +kernel
set_option maxRecDepth 100000 in
theorem str_ex : ∀ q ∈ STRL, Cond.exactly (.string q.1 q.2.1) "java/lang/String" ∈ flatC (Jvm.Cond.and given_1 narrow_1) := by decide +kernel
theorem arr_kn {args : Array Value} {s : State} {ty : FieldType} (hn : ∀ C, ty ≠ .object C) (h : (Cond.arrayClass ty).before args s = true) : ∃ cA, ArrOfT s cA ty ∧ va_RA s cA ty := by
  obtain ⟨cA, kA, comp, h1, h2, h3⟩ := Cond.arrayClass_spec h
  refine ⟨cA, fun n z => ⟨fun k h => (by cases h), kA, h2, comp, h3⟩, ?_⟩
  cases ty <;> first | exact h1 | exact absurd rfl (hn _)
theorem kn_all {args : Array Value} {s : State} (hts : ∀ w ∈ WG, w.before args s = true) : ∃ (D : va_G) (kA : Nat → ClassId), va_K D vwCl (tyS kA) s := by
  obtain ⟨c0, i0, k0⟩ := u_known hts inW0 (hts _ w_5023)
  obtain ⟨c1, i1, k1⟩ := u_known hts inW1 (hts _ w_186)
  obtain ⟨c2, i2, k2⟩ := u_known hts inW2 (hts _ w_74)
  obtain ⟨c3, i3, k3⟩ := u_known hts inW3 (hts _ w_5000)
  obtain ⟨a0, x0, y0⟩ := arr_kn (fun C h => by cases h) (hts _ w_128)
  obtain ⟨a1, x1, y1⟩ := arr_kn (fun C h => by cases h) (hts _ w_129)
  obtain ⟨a2, x2, y2⟩ := arr_kn (fun C h => by cases h) (hts _ w_246)
  obtain ⟨a3, x3, y3⟩ := arr_kn (fun C h => by cases h) (hts _ w_375)
  refine ⟨(fun c => match c with
    | 0 => c0
    | 1 => c1
    | 2 => c2
    | _ => c3, fun c => match c with
    | 0 => i0
    | 1 => i1
    | 2 => i2
    | _ => i3), fun k => match k with
    | 0 => a0
    | 1 => a1
    | 2 => a2
    | _ => a3, ?_, ?_⟩
  · intro c q hq
    match c, hq with
    | 0, hq => cases hq; exact k0
    | 1, hq => cases hq; exact k1
    | 2, hq => cases hq; exact k2
    | 3, hq => cases hq; exact k3
    | n + 4, hq => cases hq
  · intro c q hq
    match c, hq with
    | 0, hq => cases hq; exact ⟨x0, y0⟩
    | 1, hq => cases hq; exact ⟨x1, y1⟩
    | 2, hq => cases hq; exact ⟨x2, y2⟩
    | 3, hq => cases hq; exact ⟨x3, y3⟩
    | n + 4, hq => cases hq
theorem NW_tab {w : Cond} (hw : NWk w = true) : w.onTables = true := by
  cases w <;> first | rfl | (exfalso; cases hw)
section
variable {p : Program} {l : Launch} {e : Env} {s : State} {m : MethodId} {args : Array Value} {below : List Frame} {meth : Method} {c : Code} {D : va_G} {kA : Nat → ClassId} {A : Nat → Prop} {Q : State → Prop} {ad al : Nat → Nat} {b L : Nat} {xs : Nat → Int32}
set_option maxRecDepth 100000 in
set_option maxHeartbeats 4000000 in
theorem law_mid (X : CX p m c cL_law 15 s args RL) (E : EX l s D kA A) (hX : va_X b L xs s s.heap) (hbl : b < s.heap.size) (hbA : ¬ A b) (hL : L ≤ 260) (fu : Nat) (w1 w2 v1 : WS) (r : Int32) (hb : f_L_build fu L xs wC0 vL0 = some (1, w1, v1)) (hp : f_X3_prepare fu w1 = some (.inl (r, w2))) (hr0 : 0 ≤ r) (hm : f_L_main fu L xs w2 (vM0 v1) = some ()) (kk : ∀ (w f : WS) (al : Nat → Nat), CS p l e room_1 s m args below meth c D A 15 38 46914 Q (picC kA ad w ++ picL kA al f) 269 [] []) : CS p l e room_1 s m args below meth c D A 15 32 46652 Q (picC kA ad wC0 ++ picB kA al vL0) 24 [(1, .ref (ad 0)), (0, .ref b), (2, .ref (al 0)), (3, .ref (al 1)), (4, .ref (al 2))] [] := by
  refine x_aload_n X dL_law_24 0 rfl ?_
  refine x_aload_n X dL_law_25 1 rfl ?_
  refine x_aload_n X dL_law_26 2 rfl ?_
  refine x_aload_n X dL_law_27 3 rfl ?_
  refine x_aload X dL_law_28 4 rfl ?_
  refine x_callSwx_i X E hX hbl hbA (As := [.ref (ad 0), .ref b, .ref (al 0), .ref (al 1), .ref (al 2)]) (rest := []) (n := 5) (ws2 := picC kA ad w1 ++ picB kA al v1) (goodS w_5234 w_5235 w_46 w_5236) (fun sz => met_L_build l E.2.2.2 D kA ad al fu b L xs hL wC0 vL0 1 w1 v1 hb sz) rfl rfl (by decide +kernel) ⟨Nat.le_of_ble_eq_true rfl, Nat.le_of_ble_eq_true rfl⟩ rfl rfl (Nat.le_of_ble_eq_true rfl) dL_law_30 ⟨Nat.le_of_ble_eq_true rfl, Nat.le_of_ble_eq_true rfl⟩ ?_
  refine x_if_eq_f X (tgt := 43) dL_law_33 (by decide) (by decide) ?_
  refine x_aload_n X dL_law_36 0 rfl ?_
  refine x_callVs_i X E (As := []) (rest := []) (n := 0) (u := picC kA ad w1) (u2 := picC kA ad w2) [] (picB kA al v1) rfl (goodV w_5225 w_580 w_581 w_47 w_582) (met_X3_prepare l E.2.2.2 D kA ad fu w1 r w2 hp) rfl rfl (by decide +kernel) ⟨Nat.le_of_ble_eq_true rfl, Nat.le_of_ble_eq_true rfl⟩ 0 rfl (qc := (RX3, TX3, _)) rfl rfl rfl rfl (Nat.le_of_ble_eq_true rfl) dL_law_37 ⟨Nat.le_of_ble_eq_true rfl, Nat.le_of_ble_eq_true rfl⟩ (picC kA ad w2 ++ picB kA al v1) rfl ?_
  refine x_if_ge_t X (tgt := 45) dL_law_40 (by decide) hr0 ?_
  refine x_bipush X (v := 81) dL_law_45 (by decide) ?_
  refine x_newI X E w_128 (by decide) (N := 81) rfl (by decide) (Nat.le_of_ble_eq_true rfl) (Nat.le_of_ble_eq_true rfl) dL_law_47 (fun a3 => ?_)
  refine x_astore X (lv2 := [(5, .ref a3), (1, .ref (ad 0)), (0, .ref b), (2, .ref (al 0)), (3, .ref (al 1)), (4, .ref (al 2))]) dL_law_49 (by decide) rfl ?_
  refine x_bipush X (v := 9) dL_law_51 (by decide) ?_
  refine x_newZ X E w_246 (by decide) (N := 9) rfl (by decide) (Nat.le_of_ble_eq_true rfl) (Nat.le_of_ble_eq_true rfl) dL_law_53 (fun a4 => ?_)
  refine x_astore X (lv2 := [(6, .ref a4), (5, .ref a3), (1, .ref (ad 0)), (0, .ref b), (2, .ref (al 0)), (3, .ref (al 1)), (4, .ref (al 2))]) dL_law_55 (by decide) rfl ?_
  refine x_iconst X (v := 1) dL_law_57 (by decide) ?_
  refine x_newI X E w_128 (by decide) (N := 1) rfl (by decide) (Nat.le_of_ble_eq_true rfl) (Nat.le_of_ble_eq_true rfl) dL_law_58 (fun a5 => ?_)
  refine x_dup X dL_law_60 rfl ?_
  refine x_iconst X (v := 0) dL_law_61 (by decide) ?_
  refine x_bipush X (v := 100) dL_law_62 (by decide) ?_
  refine x_iast X E.1.1 34 rfl (kf := some) (u := ()) dL_law_64 (ck_t (by rw [← nI_0]; exact vp_in_nI (by decide) (by decide))) (fun _ => (((picC kA ad w2 ++ picB kA al v1) ++ [(a3, .inl (kA 0, 81, .inl (fun _ => 0)))]) ++ [(a4, .inl (kA 2, 9, .inl (fun _ => 0)))]) ++ [(a5, .inl (kA 0, 1, .inl (upd (fun _ => 0) 0 100)))]) rfl (fun _ _ => ?_)
  refine x_astore X (lv2 := [(7, .ref a5), (6, .ref a4), (5, .ref a3), (1, .ref (ad 0)), (0, .ref b), (2, .ref (al 0)), (3, .ref (al 1)), (4, .ref (al 2))]) dL_law_65 (by decide) rfl ?_
  refine x_bipush X (v := 81) dL_law_67 (by decide) ?_
  refine x_newI X E w_128 (by decide) (N := 81) rfl (by decide) (Nat.le_of_ble_eq_true rfl) (Nat.le_of_ble_eq_true rfl) dL_law_69 (fun a6 => ?_)
  refine x_astore X (lv2 := [(8, .ref a6), (7, .ref a5), (6, .ref a4), (5, .ref a3), (1, .ref (ad 0)), (0, .ref b), (2, .ref (al 0)), (3, .ref (al 1)), (4, .ref (al 2))]) dL_law_71 (by decide) rfl ?_
  refine x_bipush X (v := 81) dL_law_73 (by decide) ?_
  refine x_newI X E w_128 (by decide) (N := 81) rfl (by decide) (Nat.le_of_ble_eq_true rfl) (Nat.le_of_ble_eq_true rfl) dL_law_75 (fun a7 => ?_)
  refine x_astore X (lv2 := [(9, .ref a7), (8, .ref a6), (7, .ref a5), (6, .ref a4), (5, .ref a3), (1, .ref (ad 0)), (0, .ref b), (2, .ref (al 0)), (3, .ref (al 1)), (4, .ref (al 2))]) dL_law_77 (by decide) rfl ?_
  refine x_bipush X (v := 9) dL_law_79 (by decide) ?_
  refine x_newI X E w_128 (by decide) (N := 9) rfl (by decide) (Nat.le_of_ble_eq_true rfl) (Nat.le_of_ble_eq_true rfl) dL_law_81 (fun a8 => ?_)
  refine x_astore X (lv2 := [(10, .ref a8), (9, .ref a7), (8, .ref a6), (7, .ref a5), (6, .ref a4), (5, .ref a3), (1, .ref (ad 0)), (0, .ref b), (2, .ref (al 0)), (3, .ref (al 1)), (4, .ref (al 2))]) dL_law_83 (by decide) rfl ?_
  refine x_lpick (lv2 := [(0, .ref b), (1, .ref (ad 0)), (2, .ref (al9 al a3 a4 a5 a6 a7 a8 0)), (3, .ref (al9 al a3 a4 a5 a6 a7 a8 1)), (4, .ref (al9 al a3 a4 a5 a6 a7 a8 2)), (5, .ref (al9 al a3 a4 a5 a6 a7 a8 3)), (6, .ref (al9 al a3 a4 a5 a6 a7 a8 4)), (7, .ref (al9 al a3 a4 a5 a6 a7 a8 5)), (8, .ref (al9 al a3 a4 a5 a6 a7 a8 6)), (9, .ref (al9 al a3 a4 a5 a6 a7 a8 7)), (10, .ref (al9 al a3 a4 a5 a6 a7 a8 8))]) [7, 6, 8, 9, 10, 5, 4, 3, 2, 1, 0] rfl ?_
  refine x_perm [0, 1, 2, 3, 4, 5, 6, 7, 8, 9, 10, 11, 12, 13, 14, 15, 16, 17, 18, 19, 20, 21, 22, 23, 24, 25, 26, 27, 28, 29, 30, 31, 32, 33, 34, 35, 36, 37] rfl (picC kA ad w2 ++ picL kA (al9 al a3 a4 a5 a6 a7 a8) (vM0 v1)) rfl ?_
  refine x_widen (k := 38) (n := 46914) (Nat.le_of_ble_eq_true rfl) (Nat.le_of_ble_eq_true rfl) ?_
  exact law_tail X E hX hbl hbA hL fu w2 (vM0 v1) hm (fun w f => kk w f _)
end
set_option maxRecDepth 100000 in
set_option maxHeartbeats 4000000 in
theorem whole_of {p : Program} {e : Env} {s : State} {m : MethodId} {below : List Frame} {meth : Method} {c : Code} (l : Launch) (hflags : l.flags = flags0) {b L : Nat} {xs : Nat → Int32} (hL : L ≤ 260) (C0 : lw_At p s m meth c b L xs) (fu : Nat) (w1 w2 v1 : WS) (r : Int32) (hb : f_L_build fu L xs wC0 vL0 = some (1, w1, v1)) (hp : f_X3_prepare fu w1 = some (.inl (r, w2))) (hr0 : 0 ≤ r) (hm : f_L_main fu L xs w2 (vM0 v1) = some ()) : W p l e room_1 s m #[Value.ref b] below meth c s.heap [] 0 0 (lw_Z below #[Value.ref b] s) (entryFrame m ([Value.ref b] : List Value).toArray 15) := by
  obtain ⟨hx, hcb, hret, hml, hown, hts, hX, hbl, hlk, hgv⟩ := C0
  have hfl := flat_of_before _ hgv
  have htsW : ∀ w ∈ WG, w.before #[Value.ref b] s = true := fun w h => hts w (List.mem_filter.mp h).1
  obtain ⟨D, kA, hK⟩ := kn_all htsW
  have hst : l.stackTraces = false := by
    unfold Launch.stackTraces
    rw [hflags]
    decide +kernel
  have hNW : ∀ w ∈ NWL, va_Nw w s := fun w hw => va_Nw.of (NW_tab (List.mem_filter.mp hw).2) (hts w (List.mem_filter.mp hw).1)
  have hSt : ∀ q ∈ STRL, ∃ a, vk_R q.1 q.2.1 q.2.2 a s := by
    intro q hq
    obtain ⟨a, c9, cA, kA9, q1, -⟩ := Cond.exactly_spec (args := #[Value.ref b]) (first := s) (o := none) (s := s) (idx := []) (t := .string q.1 q.2.1) (cls := "java/lang/String") (hfl _ (str_ex q hq))
    exact ⟨a, vk_R.of (hts _ (str_in q hq)) q1⟩
  have hA : ∀ a : Nat, a < s.heap.size → ¬ (fun q : Nat => s.heap.size ≤ q) a := fun a h h2 => Nat.lt_irrefl _ (Nat.lt_of_lt_of_le h h2)
  have hZZ : ZZ (fun q : Nat => s.heap.size ≤ q) s s.heap := ⟨vx_Zqof (hts _ (by decide +kernel)) (hts _ (by decide +kernel)) (hfl _ (by decide +kernel)) hA, vx_Zqof (hts _ (by decide +kernel)) (hts _ (by decide +kernel)) (hfl _ (by decide +kernel)) hA⟩
  have X : CX p m c cL_law 15 s #[Value.ref b] RL := ⟨hx, hcb, hml, hown, htsW⟩
  have E : EX l s D kA (fun q : Nat => s.heap.size ≤ q) := ⟨⟨hK, hNW, hSt⟩, hZZ, fun q h => h, hst⟩
  have main : CS p l e room_1 s m #[Value.ref b] below meth c D (fun q : Nat => s.heap.size ≤ q) 15 0 0 (lw_Z below #[Value.ref b] s) [] 0 [(0, .ref b)] [] := by
    refine x_new X E (C := RX3) (T := TX3) (N := 12) (ci := 3) inW3 tyX3 tyX3_ok w_5223 w_5000 w_47 rfl [.null, .null, .null, .null, .null, .null, .null, .int 0, .int 0, .null, .null, .int 0] dfX3 (Nat.le_of_ble_eq_true rfl) (Nat.le_of_ble_eq_true rfl) dL_law_0 (fun q3 => ?_)
    refine x_dup X dL_law_3 rfl ?_
    refine x_callI X E (As := []) (rest := [.ref q3]) (n := 0) (pic := W_X3_init kA q3) [] rfl w_5224 w_68 w_47 w_69 (fun sz => met_X3_init l E.2.2.2 D kA q3 sz) rfl rfl rfl (by decide +kernel) ⟨by decide, by decide⟩ rfl rfl (Nat.le_of_ble_eq_true rfl) dL_law_4 ⟨Nat.le_of_ble_eq_true rfl, Nat.le_of_ble_eq_true rfl⟩ (fun u3 => ?_)
    refine x_astore_n X (lv2 := [(1, .ref q3), (0, .ref b)]) dL_law_7 (by decide) rfl ?_
    refine x_bipush X (v := 9) dL_law_8 (by decide) ?_
    refine x_newI X E w_128 (by decide) (N := 9) rfl (by decide) (Nat.le_of_ble_eq_true rfl) (Nat.le_of_ble_eq_true rfl) dL_law_10 (fun a0 => ?_)
    refine x_astore_n X (lv2 := [(2, .ref a0), (1, .ref q3), (0, .ref b)]) dL_law_12 (by decide) rfl ?_
    refine x_bipush X (v := 9) dL_law_13 (by decide) ?_
    refine x_newI X E w_128 (by decide) (N := 9) rfl (by decide) (Nat.le_of_ble_eq_true rfl) (Nat.le_of_ble_eq_true rfl) dL_law_15 (fun a1 => ?_)
    refine x_astore_n X (lv2 := [(3, .ref a1), (2, .ref a0), (1, .ref q3), (0, .ref b)]) dL_law_17 (by decide) rfl ?_
    refine x_bipush X (v := 9) dL_law_18 (by decide) ?_
    refine x_newI X E w_128 (by decide) (N := 9) rfl (by decide) (Nat.le_of_ble_eq_true rfl) (Nat.le_of_ble_eq_true rfl) dL_law_20 (fun a2 => ?_)
    refine x_astore X (lv2 := [(4, .ref a2), (3, .ref a1), (2, .ref a0), (1, .ref q3), (0, .ref b)]) dL_law_22 (by decide) rfl ?_
    refine x_lpick (lv2 := [(1, .ref (adOf q3 u3 0)), (0, .ref b), (2, .ref (al3 a0 a1 a2 0)), (3, .ref (al3 a0 a1 a2 1)), (4, .ref (al3 a0 a1 a2 2))]) [3, 4, 2, 1, 0] rfl ?_
    refine x_perm [0, 1, 2, 3, 4, 5, 6, 7, 8, 9, 10, 11, 12, 13, 14, 15, 16, 17, 18, 19, 20, 21, 22, 23, 24, 25, 26, 27, 28, 29, 30, 31] rfl (picC kA (adOf q3 u3) wC0 ++ picB kA (al3 a0 a1 a2) vL0) rfl ?_
    refine x_widen (k := 32) (n := 46652) (Nat.le_of_ble_eq_true rfl) (Nat.le_of_ble_eq_true rfl) ?_
    refine law_mid X E hX hbl (hA b hbl) hL fu w1 w2 v1 r hb hp hr0 hm (fun w f al => ?_)
    refine x_iconst X (v := 1) dL_law_269 (by decide) ?_
    refine x_widen (k := 600130) (n := 7301080) (Nat.le_of_ble_eq_true rfl) (Nat.le_of_ble_eq_true rfl) ?_
    intro H locs ls hP hD hS hl
    exact va_forget (fun q hq => hS.2.2 q hq) (lw_ret hx hcb hret hlk dL_law_270)
  rw [lg_entry_eq]
  have hl := lv_entry (n := 15) [Value.ref b] (Nat.le_of_ble_eq_true rfl)
  exact main s.heap [] _ (fun k q h => by simp at h) ⟨fun i j p q h => by simp at h, fun k q h => by simp at h⟩ va_S.rf hl
