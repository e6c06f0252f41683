def R_law : String := "RoadOracleLaw"
def lw_P (b : Addr) (xs : List Int32) (args : Array Value) (s : State) : Prop := args = #[.ref b] ∧ s.IntsAt b xs ∧ xs.length ≤ 2048 ∧ (Jvm.Cond.and given_1 narrow_1).before args s = true
/-- what a walk over the start with the record d0 says of its end, said of the start itself -/
theorem lw_closed {s t : State} {o : Outcome} {d0 : Drawn} {L : List Loc} {k n : Nat} (hd0 : s.drawn.sameBut d0 lw_cs) (hv : ∃ v, o = .returned v) (hW : (s.setDrawn d0).WarmedH t.vm) (hs : (s.setDrawn d0).sameButNew ({ t with vm := s.vm } : State) L k n) : State.butDraws s t lw_cs (fun t1 => Framed s o t1 L k n) := by
  have h2 : t.drawn = d0 := congrArg State.drawn hs.1
  refine ⟨⟨hv, hW, State.sameButNew.setDrawn hs s.drawn⟩, ?_, by decide⟩
  rw [h2]
  exact hd0
def lw_Q (_ : Array Value) (s : State) (o : Outcome) (t : State) : Prop := o = .returned (some (.int 1)) ∧ State.butDraws s t lw_cs (fun t1 => Framed s o t1 [] 601024 7293034)
def lw_Z (below : List Frame) (a : Array Value) (s : State) : State → Prop := fun t => ∃ o, t.status = .running ∧ Ended t below o ∧ lw_Q a s o t
/-- the law's own end, with 1 on the stack, nothing written that was there before, its room as the claim has it; d0: the record of draws at this point (at the entry s.drawn: begin with 'refine W.base ?_' and 'have hd0 := Drawn.sameBut.refl s.drawn lw_cs') -/
theorem lw_ret {p : Program} {l : Launch} {e : Env} {s : State} {m : MethodId} {below : List Frame} {meth : Method} {c : Code} {b : Nat} {d0 : Drawn} (hd0 : s.drawn.sameBut d0 lw_cs) (hx : p.tables.exec = Jvm.exec) (hb : c.code = code) (hr : meth.sig.returnType = ret) (hlocks : meth.locks = false) {pc : Nat} {H : Heap} {ls : Array Slot} (hdg : decode code pc = .ok (.ireturn, 1)) : W p l e room_1 (s.setDrawn d0) m #[Value.ref b] below meth c H [] 601024 7293034 (lw_Z below #[Value.ref b] s) (F0 m pc ls [.int 1]) := by
  intro T hT X
  obtain ⟨fs, hret, hrun, hended, hW, hframe⟩ := X.leave (v := some (.int 1)) (hlocks := hlocks) (fun h => by rw [hr] at h; cases h)
  have hmeth' : T.vm.method? m = some meth := X.method'
  refine ⟨T.setFrames fs, ?_, .returned (some (.int 1)), hrun, hended, rfl, lw_closed hd0 ⟨_, rfl⟩ hW hframe⟩
  jvm_step X.here [X.here.top, hx, hb, hdg, hmeth', hr, ret, narrow_b1]
  (try refine ⟨rfl, ?_⟩); (try refine ⟨rfl, ?_⟩)
  first | (intro acts; rw [hret _ acts rfl rfl rfl]) | rw [hret _ _ rfl rfl rfl]
  exact Steps.refl _
/-- what holds at the law's entry: the machine, the code, the tables' words (any of lw_tbl by 'hts w (by decide +kernel)'), the script of L ints xs at the cell b, what the Statement gives of the start (any of its parts by flat_of_before) -/
def lw_At (p : Program) (s : State) (m : MethodId) (meth : Method) (c : Code) (b L : Nat) (xs : Nat → Int32) : Prop :=
  p.tables.exec = Jvm.exec ∧ c.code = code ∧ meth.sig.returnType = ret ∧ c.maxLocals = 9 ∧ s.vm.findClass R_law = some m.cls ∧ (∀ w ∈ lw_tbl, w.before #[Value.ref b] s = true) ∧ va_X b L xs s s.heap ∧ b < s.heap.size ∧ meth.locks = false ∧ (Jvm.Cond.and given_1 narrow_1).before #[Value.ref b] s = true

def wC0 : WS := (fun a => match a with
  | 1 => fun j => (match j with
    | 9 => 100
    | _ => 0)
  | 12 => fillF 4096 (-2) (fun _ => 0)
  | _ => fun _ => 0, fun _ _ => 0)
def wM0 : WS := (fun a => match a with
  | 0 => fun j => (match j with
    | 8 => 100
    | _ => 0)
  | 5 => fillF 4096 (-2) (fun _ => 0)
  | _ => fun _ => 0, fun _ _ => 0)
def adOf (q : Nat) (u : Nat → Nat) : Nat → Nat := fun i => match i with
  | 0 => q
  | n + 1 => u (n + 1)
set_option maxRecDepth 100000 in
theorem str_in : ∀ q ∈ STRL, Cond.stringRef q.1 q.2.1 q.2.2 ∈ lw_tbl := by decide +kernel
set_option maxRecDepth 100000 in
theorem str_ex : ∀ q ∈ STRL, Cond.exactly (.string q.1 q.2.1) "java/lang/String" ∈ flatC (Jvm.Cond.and given_1 narrow_1) := by decide +kernel
set_option maxRecDepth 100000 in
theorem nc_in : ∀ a ∈ XL, ∀ b ∈ XL, a ≠ b → Cond.not (.castable a b) ∈ flatC (Jvm.Cond.and given_1 narrow_1) := by decide +kernel
theorem arr_kn {args : Array Value} {s : State} {ty : FieldType} (hn : ∀ C, ty ≠ .object C) (h : (Cond.arrayClass ty).before args s = true) : ∃ cA, ArrOfT s cA ty ∧ va_RA s cA ty := by
  obtain ⟨cA, kA, comp, h1, h2, h3⟩ := Cond.arrayClass_spec h
  refine ⟨cA, fun n z => ⟨fun k h => (by cases h), kA, h2, comp, h3⟩, ?_⟩
  cases ty <;> first | exact h1 | exact absurd rfl (hn _)
theorem kn_all {args : Array Value} {s : State} (hts : ∀ w ∈ WG, w.before args s = true) : ∃ (D : va_G) (kA : Nat → ClassId), va_K D vwCl (tyS kA) s := by
  obtain ⟨c0, i0, k0⟩ := u_known hts inW0 (hts _ w_5023)
  obtain ⟨c1, i1, k1⟩ := u_known hts inW1 (hts _ w_186)
  obtain ⟨c2, i2, k2⟩ := u_known hts inW2 (hts _ w_74)
  obtain ⟨c3, i3, k3⟩ := u_known hts inW3 (hts _ w_5000)
  obtain ⟨c4, i4, k4⟩ := u_known hts inW4 (hts _ w_824)
  obtain ⟨a0, x0, y0⟩ := arr_kn (fun C h => by cases h) (hts _ w_128)
  obtain ⟨a1, x1, y1⟩ := arr_kn (fun C h => by cases h) (hts _ w_129)
  obtain ⟨a2, x2, y2⟩ := arr_kn (fun C h => by cases h) (hts _ w_246)
  obtain ⟨a3, x3, y3⟩ := arr_kn (fun C h => by cases h) (hts _ w_1129)
  refine ⟨(fun c => match c with
    | 0 => c0
    | 1 => c1
    | 2 => c2
    | 3 => c3
    | _ => c4, fun c => match c with
    | 0 => i0
    | 1 => i1
    | 2 => i2
    | 3 => i3
    | _ => i4), fun k => match k with
    | 0 => a0
    | 1 => a1
    | 2 => a2
    | _ => a3, ?_, ?_⟩
  · intro c q hq
    match c, hq with
    | 0, hq => cases hq; exact k0
    | 1, hq => cases hq; exact k1
    | 2, hq => cases hq; exact k2
    | 3, hq => cases hq; exact k3
    | 4, hq => cases hq; exact k4
    | n + 5, hq => cases hq
  · intro c q hq
    match c, hq with
    | 0, hq => cases hq; exact ⟨x0, y0⟩
    | 1, hq => cases hq; exact ⟨x1, y1⟩
    | 2, hq => cases hq; exact ⟨x2, y2⟩
    | 3, hq => cases hq; exact ⟨x3, y3⟩
    | n + 4, hq => cases hq
theorem NW_tab {w : Cond} (hw : NWk w = true) : w.onTables = true := by
  cases w <;> first | rfl | (exfalso; cases hw)
set_option maxRecDepth 100000 in
set_option maxHeartbeats 4000000 in
theorem whole_of {p : Program} {e : Env} {s : State} {m : MethodId} {below : List Frame} {meth : Method} {c : Code} (l : Launch) (hflags : l.flags = flags0) {b L : Nat} {xs : Nat → Int32} (hL : L ≤ 2048) (C0 : lw_At p s m meth c b L xs) (fu : Nat) (Rel : WS → WS → Prop) (h0 : Rel wC0 wM0) (hRel : ∀ (k : Nat) (x1 x2 x3 : Int32) (w v : WS) (o : Nat → Int64) (od : Nat → UInt64), Rel w v → ∃ w1 v1 o1 od1, LStep fu k x1 x2 x3 w v o od w1 v1 o1 od1 ∧ Rel w1 v1) : W p l e room_1 s m #[Value.ref b] below meth c s.heap [] 0 0 (lw_Z below #[Value.ref b] s) (entryFrame m ([Value.ref b] : List Value).toArray 9) := by
  obtain ⟨hx, hcb, hret, hml, hown, hts, hX, hbl, hlk, hgv⟩ := C0
  have hfl := flat_of_before _ hgv
  have hd0 := Drawn.sameBut.refl s.drawn lw_cs
  have htsW : ∀ w ∈ WG, w.before #[Value.ref b] s = true := fun w h => hts w (List.mem_filter.mp h).1
  obtain ⟨D, kA, hK⟩ := kn_all htsW
  have hst : l.stackTraces = false := by
    unfold Launch.stackTraces
    rw [hflags]
    decide +kernel
  have hNW : ∀ w ∈ NWL, va_Nw w s := fun w hw => va_Nw.of (NW_tab (List.mem_filter.mp hw).2) (hts w (List.mem_filter.mp hw).1)
  have hSt : ∀ q ∈ STRL, ∃ a, vk_R q.1 q.2.1 q.2.2 a s := by
    intro q hq
    obtain ⟨a, c9, cA, kA9, q1, -⟩ := Cond.exactly_spec (args := #[Value.ref b]) (first := s) (o := none) (s := s) (idx := []) (t := .string q.1 q.2.1) (cls := "java/lang/String") (hfl _ (str_ex q hq))
    exact ⟨a, vk_R.of (hts _ (str_in q hq)) q1⟩
  have hNC : NCs s := fun x hx y hy hne => va_Nc.of (hfl _ (nc_in x hx y hy hne))
  have hA : ∀ a : Nat, a < s.heap.size → ¬ (fun q : Nat => s.heap.size ≤ q) a := fun a h h2 => Nat.lt_irrefl _ (Nat.lt_of_lt_of_le h h2)
  have hZZ : ZZ (fun q : Nat => s.heap.size ≤ q) s s.heap := ⟨vx_Zqof (hts _ (by decide +kernel)) (hts _ (by decide +kernel)) (hfl _ (by decide +kernel)) hA, vx_Zqof (hts _ (by decide +kernel)) (hts _ (by decide +kernel)) (hfl _ (by decide +kernel)) hA⟩
  have X : CX p m c cL_law 9 s #[Value.ref b] RL := ⟨hx, hcb, hml, hown, htsW⟩
  have E : EX l s D kA (fun q : Nat => s.heap.size ≤ q) := ⟨⟨hK, hNW, hSt⟩, hZZ, fun q h => h, hst⟩
  have main : CS p l e room_1 s m #[Value.ref b] below meth c D (fun q : Nat => s.heap.size ≤ q) 9 0 0 (lw_Z below #[Value.ref b] s) [] 0 [(0, .ref b)] [] := by
    refine x_new X E (C := RX3) (T := TX3) (N := 12) (ci := 3) inW3 tyX3 tyX3_ok w_65 w_5000 w_47 rfl [.null, .null, .null, .null, .null, .null, .null, .int 0, .int 0, .null, .null, .int 0] dfX3 (Nat.le_of_ble_eq_true rfl) (Nat.le_of_ble_eq_true rfl) dL_law_0 (fun q3 => ?_)
    refine x_dup X dL_law_3 rfl ?_
    refine x_callI X E (As := []) (rest := [.ref q3]) (n := 0) (pic := W_X3_init kA q3) [] rfl w_67 w_68 w_47 w_69 (fun sz => met_X3_init l E.2.2.2 D kA q3 sz) rfl rfl rfl (by decide +kernel) ⟨by decide, by decide⟩ rfl rfl (Nat.le_of_ble_eq_true rfl) dL_law_4 ⟨Nat.le_of_ble_eq_true rfl, Nat.le_of_ble_eq_true rfl⟩ (fun u3 => ?_)
    refine x_astore_n X (lv2 := [(1, .ref q3), (0, .ref b)]) dL_law_7 (by decide) rfl ?_
    refine x_new X E (C := RX4) (T := TX4) (N := 32) (ci := 4) inW4 tyX4 tyX4_ok w_823 w_824 w_52 rfl [.int 0, .int 0, .int 0, .null, .null, .null, .null, .null, .int 0, .int 0, .null, .null, .null, .int 0, .int 0, .null, .null, .null, .null, .int 0, .null, .null, .null, .null, .null, .null, .int 0, .int 0, .null, .int 0, .null, .null] dfX4 (Nat.le_of_ble_eq_true rfl) (Nat.le_of_ble_eq_true rfl) dL_law_8 (fun q4 => ?_)
    refine x_dup X dL_law_11 rfl ?_
    refine x_callI X E (As := []) (rest := [.ref q4]) (n := 0) (pic := W_X4_init kA q4) ([] ++ W_X3_init kA q3 u3) rfl w_825 w_826 w_52 w_827 (fun sz => met_X4_init l E.2.2.2 D kA q4 sz) rfl rfl rfl (by decide +kernel) ⟨by decide, by decide⟩ rfl rfl (Nat.le_of_ble_eq_true rfl) dL_law_12 ⟨Nat.le_of_ble_eq_true rfl, Nat.le_of_ble_eq_true rfl⟩ (fun u4 => ?_)
    refine x_astore_n X (lv2 := [(2, .ref q4), (1, .ref q3), (0, .ref b)]) dL_law_15 (by decide) rfl ?_
    refine x_iconst X (v := 1) dL_law_16 (by decide) ?_
    refine x_newJ X E w_129 (by decide) (N := 1) rfl (by decide) (Nat.le_of_ble_eq_true rfl) (Nat.le_of_ble_eq_true rfl) dL_law_17 (fun ao => ?_)
    refine x_astore_n X (lv2 := [(3, .ref ao), (2, .ref q4), (1, .ref q3), (0, .ref b)]) dL_law_19 (by decide) rfl ?_
    refine x_iconst X (v := 1) dL_law_20 (by decide) ?_
    refine x_newD X E w_1129 (by decide) (N := 1) rfl (by decide) (Nat.le_of_ble_eq_true rfl) (Nat.le_of_ble_eq_true rfl) dL_law_21 (fun aod => ?_)
    refine x_astore X (lv2 := [(4, .ref aod), (3, .ref ao), (2, .ref q4), (1, .ref q3), (0, .ref b)]) dL_law_23 (by decide) rfl ?_
    refine x_iconst X (v := 0) dL_law_25 (by decide) ?_
    refine x_istore X (lv2 := [(5, .int 0), (4, .ref aod), (3, .ref ao), (2, .ref q4), (1, .ref q3), (0, .ref b)]) dL_law_26 (by decide) rfl ?_
    refine x_lpick (lv2 := LV (adOf q3 u3) (adOf q4 u4) b ao aod (nI 0)) [5, 4, 3, 2, 1, 0] (by rw [nI_0]; rfl) ?_
    refine x_perm [0, 1, 2, 3, 4, 5, 6, 7, 8, 9, 10, 11, 12, 13, 14, 15, 16, 17, 18, 19, 20, 21, 22, 23, 24, 25, 26, 27, 28, 51, 52, 29, 30, 31, 32, 33, 34, 35, 36, 37, 38, 39, 40, 41, 42, 43, 44, 45, 46, 47, 48, 49, 50] rfl (LW kA (adOf q3 u3) (adOf q4 u4) ao aod wC0 (fun _ => 0) (fun _ => 0) wM0) rfl ?_
    refine x_widen (k := 53) (n := 101747) (Nat.le_of_ble_eq_true rfl) (Nat.le_of_ble_eq_true rfl) ?_
    refine law_loop X E hNC hX hbl (hA b hbl) hL fu Rel hRel (fun i w v o od => ?_) 512 0 53 101747 wC0 wM0 _ _ (by omega) (by omega) (by omega) (by omega) h0
    refine x_iconst X (v := 1) dL_law_1911 (by decide) ?_
    intro H locs ls hP hD hS hl
    exact va_forget (fun q hq => hS.2.2 q hq) (W.base (lw_ret hd0 hx hcb hret hlk dL_law_1912))
  rw [lg_entry_eq]
  have hl := lv_entry (n := 9) [Value.ref b] (Nat.le_of_ble_eq_true rfl)
  exact main s.heap [] _ (fun k q h => by simp at h) ⟨fun i j p q h => by simp at h, fun k q h => by simp at h⟩ va_S.rf hl
