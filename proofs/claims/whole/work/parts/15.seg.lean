theorem seg_at {w1 w2 w3 : va_W} {k : Nat} {q : Nat × va_E} (h : w2[k]? = some q) : (w1 ++ (w2 ++ w3))[w1.length + k]? = some q := by
  have hl := (List.getElem?_eq_some_iff.mp h).1
  rw [List.getElem?_append_right (by omega), Nat.add_sub_cancel_left, List.getElem?_append_left hl]
  exact h
theorem seg_l {w1 w2 : va_W} {k : Nat} {q : Nat × va_E} (h : w1[k]? = some q) : (w1 ++ w2)[k]? = some q := by
  rw [List.getElem?_append_left (List.getElem?_eq_some_iff.mp h).1]
  exact h
theorem seg_r {w1 w2 w3 : va_W} {k : Nat} {q : Nat × va_E} (h : w3[k]? = some q) : (w1 ++ (w2 ++ w3))[w1.length + (w2.length + k)]? = some q := by
  rw [List.getElem?_append_right (by omega), Nat.add_sub_cancel_left, List.getElem?_append_right (by omega), Nat.add_sub_cancel_left]
  exact h
/-- behind a call that has the middle of a world: the rest stays -/
theorem seg_join {A0 : Nat → Prop} {D : va_G} {w1 w2 w3 w2' : va_W} {H H1 : Heap} (hP : va_P D vwCl (w1 ++ (w2 ++ w3)) H) (hD : va_D A0 (w1 ++ (w2 ++ w3))) (hk : ∀ q : Nat, q < H.size → ¬ va_A w2 H.size q → H1[q]? = H[q]?) (hF : ∀ q, va_A w2 H.size q → A0 q) (hP1 : va_P D vwCl w2' H1) (hD1 : va_D (va_A w2 H.size) w2') : va_P D vwCl (w1 ++ (w2' ++ w3)) H1 ∧ va_D A0 (w1 ++ (w2' ++ w3)) := by
  have out : ∀ (i : Nat) (q : Nat × va_E), (w1 ++ (w2 ++ w3))[i]? = some q → (i < w1.length ∨ w1.length + w2.length ≤ i) → q.1 < H.size ∧ ¬ va_A w2 H.size q.1 := by
    intro i q hq hi
    have hl := (hP i q hq).lt
    refine ⟨hl, fun h => ?_⟩
    rcases h with ⟨k2, e, h⟩ | h
    · have h2 := (List.getElem?_eq_some_iff.mp h).1
      have := hD.1 i _ q (q.1, e) hq (seg_at (w1 := w1) (w3 := w3) h) rfl
      omega
    · omega
  have o1 : ∀ (k : Nat) (q : Nat × va_E), w1[k]? = some q → q.1 < H.size ∧ ¬ va_A w2 H.size q.1 := fun k q h => out k q (seg_l h) (Or.inl (List.getElem?_eq_some_iff.mp h).1)
  have o3 : ∀ (k : Nat) (q : Nat × va_E), w3[k]? = some q → q.1 < H.size ∧ ¬ va_A w2 H.size q.1 := fun k q h => out _ q (seg_r h) (Or.inr (by omega))
  have d1 : va_D A0 w1 := ⟨fun i j p q hi hj e => hD.1 i j p q (seg_l hi) (seg_l hj) e, fun k q h => hD.2 k q (seg_l h)⟩
  have d3 : va_D A0 w3 := ⟨fun i j p q hi hj e => by have := hD.1 _ _ p q (seg_r (w1 := w1) (w2 := w2) hi) (seg_r hj) e; omega, fun k q h => hD.2 _ q (seg_r h)⟩
  have x13 : ∀ (i j : Nat) (p q : Nat × va_E), w1[i]? = some p → w3[j]? = some q → p.1 ≠ q.1 := fun i j p q hi hj e => by
    have := hD.1 _ _ p q (seg_l hi) (seg_r (w1 := w1) (w2 := w2) hj) e
    have := (List.getElem?_eq_some_iff.mp hi).1
    omega
  refine ⟨va_P.app (fun k q h => (hP k q (seg_l h)).kept (hk q.1 (o1 k q h).1 (o1 k q h).2)) (va_P.app hP1 (fun k q h => (hP _ q (seg_r h)).kept (hk q.1 (o3 k q h).1 (o3 k q h).2))), ?_⟩
  refine va_D.app d1 (va_D.app (hD1.weaken (fun k q _ h => hF q.1 h)) d3 (fun i j p q hi hj e => (o3 j q hj).2 (by rw [← e]; exact hD1.2 i p hi))) (fun i j p q hi hj e => ?_)
  rcases List.mem_append.mp (List.mem_of_getElem? hj) with h | h
  · obtain ⟨k, hk2⟩ := List.getElem?_of_mem h
    exact (o1 i p hi).2 (by rw [e]; exact hD1.2 k q hk2)
  · obtain ⟨k, hk2⟩ := List.getElem?_of_mem h
    exact x13 i k p q hi hk2 e
theorem seg_P {D : va_G} {A : Nat → Prop} {w1 w2 w3 : va_W} {H : Heap} (hP : va_P D vwCl (w1 ++ (w2 ++ w3)) H) (hD : va_D A (w1 ++ (w2 ++ w3))) : va_P D vwCl w2 H ∧ va_D A w2 :=
  ⟨fun k q h => hP _ q (seg_at h), fun i j p q hi hj e => by have := hD.1 _ _ p q (seg_at (w1 := w1) (w3 := w3) hi) (seg_at hj) e; omega, fun k q h => hD.2 _ q (seg_at h)⟩
def XL : List String := ["java/lang/IllegalStateException", "java/lang/IllegalArgumentException", "java/lang/IndexOutOfBoundsException", "java/util/NoSuchElementException"]
/-- none of the four exceptions is one of the others -/
def NCs (U : State) : Prop := ∀ a ∈ XL, ∀ b ∈ XL, a ≠ b → va_Nc a b U
section SG
variable {p : Program} {l : Launch} {e : Env} {R : Room} {s : State} {m : MethodId} {args : Array Value} {below : List Frame} {meth : Method} {c : Code} {D : va_G} {kA : Nat → ClassId} {A : Nat → Prop} {nL cells slots : Nat} {Q : State → Prop} {cc : ByteArray} {own : String} {ws : va_W} {pc : Nat} {lv : List (Nat × Value)} {st : List Value}
/-- a call of a method whose world is the middle of ours -/
theorem x_callVs_i (X : CX p m c cc nL s args own) (E : EX l s D kA A) {y : MethodName} {bytes : ByteArray} {maxL n index : Nat} {rm : Room} {As rest : List Value} {ret : Option FieldType} {v : Int32} {C : String} {b ci : Nat} {qc : vw_C} {fs : List Value} {u u2 : va_W} (w1 w3 : va_W) (hws : ws = w1 ++ (u ++ w3)) (hG : GoodIn WG (wsV own index C y (wsY y bytes maxL ret))) (hM : ∀ sz, Met l y (wsY y bytes maxL ret) rm (va_Pc (.ref b :: As) (PreG D kA u sz)) (va_Qi (fun (r : Int32) (_ : Unit) => r = v) (fun _ t => PosG D (va_A u sz) u2 t) (va_A u sz)) 0 0 (va_A u sz)) (hrc : rm.cells = 0) (hrs : rm.slots = 0) (hy : y.cls = C ∧ y.cls ≠ "java/lang/invoke/MethodHandle" ∧ y.cls ≠ "java/lang/invoke/VarHandle" ∧ (parseMethodDescriptor y.desc).map (fun d => d.parameters.length) = some n) (hR : rm.frames + 1 ≤ R.frames ∧ 8 + (maxL + 11) + rm.locals ≤ R.locals) (q0 : Nat) (he : u[q0]? = some (b, .inr (ci, fs))) (hc : vwCl[ci]? = some qc) (hqc : qc.1 = C) (hn : As.length = n) (hst : st = As.reverse ++ .ref b :: rest) (hcat : (rest.map fun v => v.category).sum ≤ 8) (hd : decode cc pc = .ok (.invokevirtual index, 3)) (hcs : cells ≤ R.cells ∧ slots ≤ R.slots) (ws2 : va_W) (hws2 : w1 ++ (u2 ++ w3) = ws2) (kk : CS p l e R s m args below meth c D A nL cells slots Q ws2 (pc + 3) lv (.int v :: rest)) : CS p l e R s m args below meth c D A nL cells slots Q ws pc lv st := by
  subst hws
  intro H locs ls hP hD hS hl
  obtain ⟨hPu, hDu⟩ := seg_P hP hD
  have hF := fr_self hDu hS E.2.2.1
  refine va_calli (va_runV (As := As) (rest := rest) (C := C) X (hM H.size) (cwV n X.2.2.2.2 hG rfl hrc hrs hy hR) ⟨pre_blind, hqc ▸ va_recv E.1.1 hPu hc he, pre_at E hPu hDu hS⟩ rfl hn hl.1 hst (lv_room hcat) hd hcs) hS (fun q _ h => hF q h) hF (fun r z t H1 locs1 ht hvm hw hB hz1 hk1 hS1 => ?_)
  obtain ⟨hP1, hD1⟩ := hB
  rw [ht] at hP1
  obtain ⟨hP2, hD2⟩ := seg_join hP hD hk1 hF hP1 hD1
  rw [hws2] at hP2 hD2
  subst hw; exact kk H1 locs1 ls hP2 hD2 hS1 hl
theorem x_callXs_i (X : CX p m c cc nL s args own) (E : EX l s D kA A) {y : MethodName} {bytes : ByteArray} {maxL n index : Nat} {rm : Room} {As rest : List Value} {ret : Option FieldType} {C : String} {b ci mc ms : Nat} {qc : vw_C} {fs : List Value} {pic : WS → va_W} {w0 : WS} {w3 : va_W} {o : (Int32 × WS) ⊕ (String × WS)} (hG : GoodIn WG (wsV own index C y (wsY y bytes maxL ret))) (hM : ∀ sz, vx_Met l y (wsY y bytes maxL ret) rm (va_Pc (.ref b :: As) (PreG D kA (pic w0) sz)) (va_Qi (fun (r : Int32) (w : WS) => o = .inl (r, w)) (fun w t => PosG D (va_A (pic w0) sz) (pic w) t) (va_A (pic w0) sz)) (vx_X (fun q : String × WS => o = .inr q) (fun E q t => E = q.1 ∧ PosG D (va_A (pic w0) sz) (pic q.2) t) (va_A (pic w0) sz)) mc ms (va_A (pic w0) sz)) (hrc : rm.cells = mc) (hrs : rm.slots = ms) (hy : y.cls = C ∧ y.cls ≠ "java/lang/invoke/MethodHandle" ∧ y.cls ≠ "java/lang/invoke/VarHandle" ∧ (parseMethodDescriptor y.desc).map (fun d => d.parameters.length) = some n) (hR : rm.frames + 1 ≤ R.frames ∧ 8 + (maxL + 11) + rm.locals ≤ R.locals) (q0 : Nat) (he : (pic w0)[q0]? = some (b, .inr (ci, fs))) (hc : vwCl[ci]? = some qc) (hqc : qc.1 = C) (hn : As.length = n) (hst : st = As.reverse ++ .ref b :: rest) (hcat : (rest.map fun v => v.category).sum ≤ 8) (hd : decode cc pc = .ok (.invokevirtual index, 3)) (hcs : cells + mc ≤ R.cells ∧ slots + ms ≤ R.slots) (kx : ∀ (q : String × WS) (ce : Cell) (q9 : Addr) (H1 : Heap) (locs1 : List Loc) (ls : Array Slot), o = .inr q → va_P D vwCl (pic q.2 ++ w3) H1 → va_D A (pic q.2 ++ w3) → va_S A s.heap H1 locs1 → lv_has ls nL lv → H1[q9]? = some ce → ce.vm = .none → s.vm.findClass q.1 = some ce.cls → vx_W p l e R s m args below meth c H1 locs1 (cells + mc) (slots + ms) Q (F0 m pc ls rest) q9) (kk : ∀ v w, o = .inl (v, w) → CS p l e R s m args below meth c D A nL (cells + mc) (slots + ms) Q (pic w ++ w3) (pc + 3) lv (.int v :: rest)) : CS p l e R s m args below meth c D A nL cells slots Q (pic w0 ++ w3) pc lv st := by
  intro H locs ls hP hD hS hl
  obtain ⟨hPu, hDu⟩ := seg_P (w1 := []) hP hD
  have hF := fr_self hDu hS E.2.2.1
  refine vx_calli (vx_runV (As := As) (rest := rest) (C := C) X (hM H.size) (cwV n X.2.2.2.2 hG rfl hrc hrs hy hR) ⟨pre_blind, hqc ▸ va_recv E.1.1 hPu hc he, pre_at E hPu hDu hS⟩ rfl hn hl.1 hst (lv_room hcat) hd hcs) hS (fun q _ h => hF q h) hF (fun q _ h => hF q h) (fun E1 ce q9 u t H1 locs1 ht hvm hw hB hz1 hk1 hS1 hce hcv hcl => ?_) (fun r u t H1 locs1 ht hvm hw hB hz1 hk1 hS1 => ?_)
  · obtain ⟨rfl, hP1, hD1⟩ := hB
    rw [ht] at hP1
    obtain ⟨hP2, hD2⟩ := seg_join (w1 := []) hP hD hk1 hF hP1 hD1
    exact kx u ce q9 H1 locs1 ls hw hP2 hD2 hS1 hl hce hcv hcl
  · obtain ⟨hP1, hD1⟩ := hB
    rw [ht] at hP1
    obtain ⟨hP2, hD2⟩ := seg_join (w1 := []) hP hD hk1 hF hP1 hD1
    exact kk r u hw H1 locs1 ls hP2 hD2 hS1 hl
/-- a call of a method whose world is the middle of ours -/
theorem x_callVs_l (X : CX p m c cc nL s args own) (E : EX l s D kA A) {y : MethodName} {bytes : ByteArray} {maxL n index : Nat} {rm : Room} {As rest : List Value} {ret : Option FieldType} {v : Int64} {C : String} {b ci : Nat} {qc : vw_C} {fs : List Value} {u u2 : va_W} (w1 w3 : va_W) (hws : ws = w1 ++ (u ++ w3)) (hG : GoodIn WG (wsV own index C y (wsY y bytes maxL ret))) (hM : ∀ sz, Met l y (wsY y bytes maxL ret) rm (va_Pc (.ref b :: As) (PreG D kA u sz)) (va_Ql (fun (r : Int64) (_ : Unit) => r = v) (fun _ t => PosG D (va_A u sz) u2 t) (va_A u sz)) 0 0 (va_A u sz)) (hrc : rm.cells = 0) (hrs : rm.slots = 0) (hy : y.cls = C ∧ y.cls ≠ "java/lang/invoke/MethodHandle" ∧ y.cls ≠ "java/lang/invoke/VarHandle" ∧ (parseMethodDescriptor y.desc).map (fun d => d.parameters.length) = some n) (hR : rm.frames + 1 ≤ R.frames ∧ 8 + (maxL + 11) + rm.locals ≤ R.locals) (q0 : Nat) (he : u[q0]? = some (b, .inr (ci, fs))) (hc : vwCl[ci]? = some qc) (hqc : qc.1 = C) (hn : As.length = n) (hst : st = As.reverse ++ .ref b :: rest) (hcat : (rest.map fun v => v.category).sum ≤ 8) (hd : decode cc pc = .ok (.invokevirtual index, 3)) (hcs : cells ≤ R.cells ∧ slots ≤ R.slots) (ws2 : va_W) (hws2 : w1 ++ (u2 ++ w3) = ws2) (kk : CS p l e R s m args below meth c D A nL cells slots Q ws2 (pc + 3) lv (.long v :: rest)) : CS p l e R s m args below meth c D A nL cells slots Q ws pc lv st := by
  subst hws
  intro H locs ls hP hD hS hl
  obtain ⟨hPu, hDu⟩ := seg_P hP hD
  have hF := fr_self hDu hS E.2.2.1
  refine va_calll (va_runV (As := As) (rest := rest) (C := C) X (hM H.size) (cwV n X.2.2.2.2 hG rfl hrc hrs hy hR) ⟨pre_blind, hqc ▸ va_recv E.1.1 hPu hc he, pre_at E hPu hDu hS⟩ rfl hn hl.1 hst (lv_room hcat) hd hcs) hS (fun q _ h => hF q h) hF (fun r z t H1 locs1 ht hvm hw hB hz1 hk1 hS1 => ?_)
  obtain ⟨hP1, hD1⟩ := hB
  rw [ht] at hP1
  obtain ⟨hP2, hD2⟩ := seg_join hP hD hk1 hF hP1 hD1
  rw [hws2] at hP2 hD2
  subst hw; exact kk H1 locs1 ls hP2 hD2 hS1 hl
/-- a call of a method whose world is the middle of ours -/
theorem x_callVs_d (X : CX p m c cc nL s args own) (E : EX l s D kA A) {y : MethodName} {bytes : ByteArray} {maxL n index : Nat} {rm : Room} {As rest : List Value} {ret : Option FieldType} {v : UInt64} {C : String} {b ci : Nat} {qc : vw_C} {fs : List Value} {u u2 : va_W} (w1 w3 : va_W) (hws : ws = w1 ++ (u ++ w3)) (hG : GoodIn WG (wsV own index C y (wsY y bytes maxL ret))) (hM : ∀ sz, Met l y (wsY y bytes maxL ret) rm (va_Pc (.ref b :: As) (PreG D kA u sz)) (va_Qd (fun (r : UInt64) (_ : Unit) => r = v) (fun _ t => PosG D (va_A u sz) u2 t) (va_A u sz)) 0 0 (va_A u sz)) (hrc : rm.cells = 0) (hrs : rm.slots = 0) (hy : y.cls = C ∧ y.cls ≠ "java/lang/invoke/MethodHandle" ∧ y.cls ≠ "java/lang/invoke/VarHandle" ∧ (parseMethodDescriptor y.desc).map (fun d => d.parameters.length) = some n) (hR : rm.frames + 1 ≤ R.frames ∧ 8 + (maxL + 11) + rm.locals ≤ R.locals) (q0 : Nat) (he : u[q0]? = some (b, .inr (ci, fs))) (hc : vwCl[ci]? = some qc) (hqc : qc.1 = C) (hn : As.length = n) (hst : st = As.reverse ++ .ref b :: rest) (hcat : (rest.map fun v => v.category).sum ≤ 8) (hd : decode cc pc = .ok (.invokevirtual index, 3)) (hcs : cells ≤ R.cells ∧ slots ≤ R.slots) (ws2 : va_W) (hws2 : w1 ++ (u2 ++ w3) = ws2) (kk : CS p l e R s m args below meth c D A nL cells slots Q ws2 (pc + 3) lv (.double v :: rest)) : CS p l e R s m args below meth c D A nL cells slots Q ws pc lv st := by
  subst hws
  intro H locs ls hP hD hS hl
  obtain ⟨hPu, hDu⟩ := seg_P hP hD
  have hF := fr_self hDu hS E.2.2.1
  refine va_calld (va_runV (As := As) (rest := rest) (C := C) X (hM H.size) (cwV n X.2.2.2.2 hG rfl hrc hrs hy hR) ⟨pre_blind, hqc ▸ va_recv E.1.1 hPu hc he, pre_at E hPu hDu hS⟩ rfl hn hl.1 hst (lv_room hcat) hd hcs) hS (fun q _ h => hF q h) hF (fun r z t H1 locs1 ht hvm hw hB hz1 hk1 hS1 => ?_)
  obtain ⟨hP1, hD1⟩ := hB
  rw [ht] at hP1
  obtain ⟨hP2, hD2⟩ := seg_join hP hD hk1 hF hP1 hD1
  rw [hws2] at hP2 hD2
  subst hw; exact kk H1 locs1 ls hP2 hD2 hS1 hl
theorem x_callXs_d (X : CX p m c cc nL s args own) (E : EX l s D kA A) {y : MethodName} {bytes : ByteArray} {maxL n index : Nat} {rm : Room} {As rest : List Value} {ret : Option FieldType} {C : String} {b ci mc ms : Nat} {qc : vw_C} {fs : List Value} {pic : WS → va_W} {w0 : WS} {w3 : va_W} {o : (UInt64 × WS) ⊕ (String × WS)} (hG : GoodIn WG (wsV own index C y (wsY y bytes maxL ret))) (hM : ∀ sz, vx_Met l y (wsY y bytes maxL ret) rm (va_Pc (.ref b :: As) (PreG D kA (pic w0) sz)) (va_Qd (fun (r : UInt64) (w : WS) => o = .inl (r, w)) (fun w t => PosG D (va_A (pic w0) sz) (pic w) t) (va_A (pic w0) sz)) (vx_X (fun q : String × WS => o = .inr q) (fun E q t => E = q.1 ∧ PosG D (va_A (pic w0) sz) (pic q.2) t) (va_A (pic w0) sz)) mc ms (va_A (pic w0) sz)) (hrc : rm.cells = mc) (hrs : rm.slots = ms) (hy : y.cls = C ∧ y.cls ≠ "java/lang/invoke/MethodHandle" ∧ y.cls ≠ "java/lang/invoke/VarHandle" ∧ (parseMethodDescriptor y.desc).map (fun d => d.parameters.length) = some n) (hR : rm.frames + 1 ≤ R.frames ∧ 8 + (maxL + 11) + rm.locals ≤ R.locals) (q0 : Nat) (he : (pic w0)[q0]? = some (b, .inr (ci, fs))) (hc : vwCl[ci]? = some qc) (hqc : qc.1 = C) (hn : As.length = n) (hst : st = As.reverse ++ .ref b :: rest) (hcat : (rest.map fun v => v.category).sum ≤ 8) (hd : decode cc pc = .ok (.invokevirtual index, 3)) (hcs : cells + mc ≤ R.cells ∧ slots + ms ≤ R.slots) (kx : ∀ (q : String × WS) (ce : Cell) (q9 : Addr) (H1 : Heap) (locs1 : List Loc) (ls : Array Slot), o = .inr q → va_P D vwCl (pic q.2 ++ w3) H1 → va_D A (pic q.2 ++ w3) → va_S A s.heap H1 locs1 → lv_has ls nL lv → H1[q9]? = some ce → ce.vm = .none → s.vm.findClass q.1 = some ce.cls → vx_W p l e R s m args below meth c H1 locs1 (cells + mc) (slots + ms) Q (F0 m pc ls rest) q9) (kk : ∀ v w, o = .inl (v, w) → CS p l e R s m args below meth c D A nL (cells + mc) (slots + ms) Q (pic w ++ w3) (pc + 3) lv (.double v :: rest)) : CS p l e R s m args below meth c D A nL cells slots Q (pic w0 ++ w3) pc lv st := by
  intro H locs ls hP hD hS hl
  obtain ⟨hPu, hDu⟩ := seg_P (w1 := []) hP hD
  have hF := fr_self hDu hS E.2.2.1
  refine vx_calld (vx_runV (As := As) (rest := rest) (C := C) X (hM H.size) (cwV n X.2.2.2.2 hG rfl hrc hrs hy hR) ⟨pre_blind, hqc ▸ va_recv E.1.1 hPu hc he, pre_at E hPu hDu hS⟩ rfl hn hl.1 hst (lv_room hcat) hd hcs) hS (fun q _ h => hF q h) hF (fun q _ h => hF q h) (fun E1 ce q9 u t H1 locs1 ht hvm hw hB hz1 hk1 hS1 hce hcv hcl => ?_) (fun r u t H1 locs1 ht hvm hw hB hz1 hk1 hS1 => ?_)
  · obtain ⟨rfl, hP1, hD1⟩ := hB
    rw [ht] at hP1
    obtain ⟨hP2, hD2⟩ := seg_join (w1 := []) hP hD hk1 hF hP1 hD1
    exact kx u ce q9 H1 locs1 ls hw hP2 hD2 hS1 hl hce hcv hcl
  · obtain ⟨hP1, hD1⟩ := hB
    rw [ht] at hP1
    obtain ⟨hP2, hD2⟩ := seg_join (w1 := []) hP hD hk1 hF hP1 hD1
    exact kk r u hw H1 locs1 ls hP2 hD2 hS1 hl
/-- a call of a method whose world is the middle of ours -/
theorem x_callVs_v (X : CX p m c cc nL s args own) (E : EX l s D kA A) {y : MethodName} {bytes : ByteArray} {maxL n index : Nat} {rm : Room} {As rest : List Value} {ret : Option FieldType}  {C : String} {b ci : Nat} {qc : vw_C} {fs : List Value} {u u2 : va_W} (w1 w3 : va_W) (hws : ws = w1 ++ (u ++ w3)) (hG : GoodIn WG (wsV own index C y (wsY y bytes maxL ret))) (hM : ∀ sz, Met l y (wsY y bytes maxL ret) rm (va_Pc (.ref b :: As) (PreG D kA u sz)) (va_Qv (fun (_ : Unit) => True) (fun _ t => PosG D (va_A u sz) u2 t) (va_A u sz)) 0 0 (va_A u sz)) (hrc : rm.cells = 0) (hrs : rm.slots = 0) (hy : y.cls = C ∧ y.cls ≠ "java/lang/invoke/MethodHandle" ∧ y.cls ≠ "java/lang/invoke/VarHandle" ∧ (parseMethodDescriptor y.desc).map (fun d => d.parameters.length) = some n) (hR : rm.frames + 1 ≤ R.frames ∧ 8 + (maxL + 11) + rm.locals ≤ R.locals) (q0 : Nat) (he : u[q0]? = some (b, .inr (ci, fs))) (hc : vwCl[ci]? = some qc) (hqc : qc.1 = C) (hn : As.length = n) (hst : st = As.reverse ++ .ref b :: rest) (hcat : (rest.map fun v => v.category).sum ≤ 8) (hd : decode cc pc = .ok (.invokevirtual index, 3)) (hcs : cells ≤ R.cells ∧ slots ≤ R.slots) (ws2 : va_W) (hws2 : w1 ++ (u2 ++ w3) = ws2) (kk : CS p l e R s m args below meth c D A nL cells slots Q ws2 (pc + 3) lv rest) : CS p l e R s m args below meth c D A nL cells slots Q ws pc lv st := by
  subst hws
  intro H locs ls hP hD hS hl
  obtain ⟨hPu, hDu⟩ := seg_P hP hD
  have hF := fr_self hDu hS E.2.2.1
  refine va_callv (va_runV (As := As) (rest := rest) (C := C) X (hM H.size) (cwV n X.2.2.2.2 hG rfl hrc hrs hy hR) ⟨pre_blind, hqc ▸ va_recv E.1.1 hPu hc he, pre_at E hPu hDu hS⟩ rfl hn hl.1 hst (lv_room hcat) hd hcs) hS (fun q _ h => hF q h) hF (fun z t H1 locs1 ht hvm hw hB hz1 hk1 hS1 => ?_)
  obtain ⟨hP1, hD1⟩ := hB
  rw [ht] at hP1
  obtain ⟨hP2, hD2⟩ := seg_join hP hD hk1 hF hP1 hD1
  rw [hws2] at hP2 hD2
  exact kk H1 locs1 ls hP2 hD2 hS1 hl
/-- the exception is caught by the row x of this method's table -/
theorem x_catch (X : CX p m c cc nL s args own) (E : EX l s D kA A) {hh : List (Nat × Nat × Nat × Nat)} (htab : c.exceptionTable.toList = tableOf hh) {name : String} {ce : Cell} {q9 : Addr} {H : Heap} {locs : List Loc} {ls : Array Slot} {rest : List Value} {hpc : Nat} (pre suf : List (Nat × Nat × Nat × Nat)) (x : Nat × Nat × Nat × Nat) (hsplit : hh = pre ++ x :: suf) (hpass : ∀ z ∈ pre, z.2.2.2 ≠ 0 ∧ ∃ nm : String, Cond.classLink own z.2.2.2 nm ∈ WG ∧ va_Nc name nm s) (hx : covers (⟨x.1, x.2.1, x.2.2.1, x.2.2.2⟩ : ExceptionTableEntry) pc = true) (hpc0 : x.2.2.1 = hpc) (h0 : x.2.2.2 ≠ 0) (hlink : Cond.classLink own x.2.2.2 name ∈ WG) (hcast : Cond.castable name name ∈ NWL) (hcell : H[q9]? = some ce) (hv : ce.vm = .none) (hcl : s.vm.findClass name = some ce.cls) (hP : va_P D vwCl ws H) (hD : va_D A ws) (hS : va_S A s.heap H locs) (hl : lv_has ls nL lv) (kk : CS p l e R s m args below meth c D A nL cells slots Q ws hpc lv [.ref q9]) : vx_W p l e R s m args below meth c H locs cells slots Q (F0 m pc ls rest) q9 := by
  subst hpc0
  refine vx_catch (name := name) X.2.2.2.1 (tableOf pre) ⟨x.1, x.2.1, x.2.2.1, x.2.2.2⟩ (tableOf suf) (by rw [htab, hsplit]; simp [tableOf]) (fun z hz => ?_) hx h0 (X.2.2.2.2 _ hlink) (va_Nw.use rfl (E.1.2.1 _ hcast)) hcell hv hcl (kk H locs ls hP hD hS hl)
  obtain ⟨z0, hz0, rfl⟩ := List.mem_map.mp hz
  obtain ⟨h1, nm, h2, h3⟩ := hpass z0 hz0
  exact Or.inr ⟨h1, nm, X.2.2.2.2 _ h2, h3⟩
/-- the end of a method with a table, an int -/
theorem x_iretW (X : CX p m c cc nL s args own) (hr : meth.sig.returnType = some .int) (hlk : meth.locks = false) {B : Nat → Prop} (hAB : A = B) {v v0 : Int32} (hv : v = v0) {XC : String → State → State → Prop} {mc ms : Nat} (h1 : cells ≤ mc) (h2 : slots ≤ ms) (hd : decode cc pc = .ok (.ireturn, 1)) : CS p l e R s m args below meth c D A nL cells slots (vx_MQ below (va_Qi (fun (r : Int32) (_ : Unit) => r = v0) (fun _ t => PosG D B ws t) B) XC args s mc ms B) ws pc lv [.int v] := by
  subst hAB
  intro H locs ls hP hD hS hl
  refine W.widen h1 h2 (vx_ret ?_)
  exact W.iret X.1 X.2.1 hr (fun t ht hW => ⟨⟨v, (), rfl, hv, by rw [ht]; exact hP, hD⟩, hS.F ht⟩) hS.2.2 hd hlk
theorem x_widen {k n : Nat} (h1 : cells ≤ k) (h2 : slots ≤ n) (kk : CS p l e R s m args below meth c D A nL k n Q ws pc lv st) : CS p l e R s m args below meth c D A nL cells slots Q ws pc lv st := fun H locs ls hP hD hS hl => W.widen h1 h2 (kk H locs ls hP hD hS hl)
theorem x_perm (is : List Nat) (hn : va_nd is = true) (ws2 : va_W) (h : is.map (fun i => ws[i]?) = ws2.map some) (kk : CS p l e R s m args below meth c D A nL cells slots Q ws2 pc lv st) : CS p l e R s m args below meth c D A nL cells slots Q ws pc lv st := by
  intro H locs ls hP hD hS hl
  refine kk H locs ls (hP.sub is ?_) (hD.sub is hn h) hS hl
  have key : ∀ (l1 : List (Option (Nat × va_E))) (l2 : va_W), l1 = l2.map some → l1.filterMap id = l2 := by
    intro l1 l2 e
    subst e
    induction l2 with
    | nil => rfl
    | cons a b ih => simp
  have := key _ _ h
  rw [List.filterMap_map] at this
  exact this
end SG
/-- a method with a table of its own, from its entry -/
theorem metW {l : Launch} {D : va_G} {kA : Nat → ClassId} {ws : va_W} {sz : Nat} {y : MethodName} {cc : ByteArray} {maxL : Nat} {ret : Option FieldType} {hh : List (Nat × Nat × Nat × Nat)} {rm : Room} {As : List Value} {Qc : Array Value → State → Outcome → State → Prop} {XC : String → State → State → Prop} {mc ms : Nat} {lv0 : List (Nat × Value)} {own : String} (hst : l.stackTraces = false) (hy : plainName y.cls = true) (hown : y.cls = own) (hcat : (lg_sl As).length ≤ maxL) (hlv : lv_args 0 As = lv0)
    (body : ∀ (p : Program) (e : Env) (s : State) (m : MethodId) (below : List Frame) (meth : Method) (c : Code), CX p m c cc maxL s As.toArray own → meth.sig.returnType = ret → meth.locks = false → EX l s D kA (va_A ws sz) → NCs s → c.exceptionTable.toList = tableOf hh → CS p l e rm s m As.toArray below meth c D (va_A ws sz) maxL 0 0 (vx_MQ below Qc XC As.toArray s mc ms (va_A ws sz)) ws 0 lv0 []) :
    vx_Met l y (wsH y cc maxL ret hh) rm (va_Pc As (fun U => PreG D kA ws sz U ∧ NCs U)) Qc XC mc ms (va_A ws sz) := by
  refine vx_ofWH (cc := cc) (maxL := maxL) (ret := ret) (hh := hh) hy rfl ?_
  intro p e s m args below meth c s₁ B hml hv
  obtain ⟨rfl, ⟨hsz, hP, hD0, hE, hZ⟩, hNC⟩ := hv
  have hts := atoms_spec (ws := wsH y cc maxL ret hh) B.pre
  rw [lg_entry_eq]
  have hl := lv_entry As hcat
  rw [hlv] at hl
  subst hsz
  subst hown
  exact body p e s m below meth c ⟨B.exec, B.bytes, hml, findClass_of_methodNamed B.named, fun w h => hts w (List.mem_cons_of_mem _ h)⟩ B.returns B.notSynchronized ⟨hE, hZ, fun q h => Or.inr h, hst⟩ hNC (vx_table (x := y) B (hts _ List.mem_cons_self)) s.heap [] _ hP hD0.self va_S.rf hl
section SW
variable {p : Program} {l : Launch} {e : Env} {R : Room} {s : State} {m : MethodId} {args : Array Value} {below : List Frame} {meth : Method} {c : Code} {D : va_G} {kA : Nat → ClassId} {A : Nat → Prop} {nL cells slots : Nat} {Q : State → Prop} {cc : ByteArray} {own : String} {ws : va_W} {pc : Nat} {lv : List (Nat × Value)} {st : List Value}
/-- the law calls a wrapper: its world is the start of ours; it never throws -/
theorem x_callW (X : CX p m c cc nL s args own) (E : EX l s D kA A) (hNC : NCs s) {y : MethodName} {bytes : ByteArray} {maxL n index mc ms : Nat} {rm : Room} {As rest : List Value} {hh : List (Nat × Nat × Nat × Nat)} {v : Int32} {u u2 w3 : va_W} (hws : ws = u ++ w3) (hG : GoodIn WG (va_wsS own index y (wsH y bytes maxL (some .int) hh))) (hM : ∀ sz, vx_Met l y (wsH y bytes maxL (some .int) hh) rm (va_Pc As (fun U => PreG D kA u sz U ∧ NCs U)) (va_Qi (fun (r : Int32) (_ : Unit) => r = v) (fun _ t => PosG D (va_A u sz) u2 t) (va_A u sz)) (vx_X (fun (_ : Unit) => False) (fun _ _ _ => True) (va_A u sz)) mc ms (va_A u sz)) (hrc : rm.cells = mc) (hrs : rm.slots = ms) (hy : y.cls ≠ "java/lang/invoke/MethodHandle" ∧ y.cls ≠ "java/lang/invoke/VarHandle" ∧ (parseMethodDescriptor y.desc).map (fun d => d.parameters.length) = some n) (hR : rm.frames + 1 ≤ R.frames ∧ 8 + (maxL + 11) + rm.locals ≤ R.locals) (hn : As.length = n) (hst : st = As.reverse ++ rest) (hcat : (rest.map fun v => v.category).sum ≤ 8) (hd : decode cc pc = .ok (.invokestatic index, 3)) (hcs : cells + mc ≤ R.cells ∧ slots + ms ≤ R.slots) (ws2 : va_W) (hws2 : u2 ++ w3 = ws2) (kk : CS p l e R s m args below meth c D A nL (cells + mc) (slots + ms) Q ws2 (pc + 3) lv (.int v :: rest)) : CS p l e R s m args below meth c D A nL cells slots Q ws pc lv st := by
  subst hws
  intro H locs ls hP hD hS hl
  obtain ⟨hPu, hDu⟩ := seg_P (w1 := []) hP hD
  have hF := fr_self hDu hS E.2.2.1
  refine vx_calli (vx_runSX (As := As) (rest := rest) X (hM H.size) (vx_cwSW n X.2.2.2.2 hG rfl hrc hrs hy hR) ⟨fun a U g mk h => ⟨(pre_blind a U g mk ⟨h.1, h.2.1⟩).1, (pre_blind a U g mk ⟨h.1, h.2.1⟩).2, fun x hx y hy hne => va_Nc.moved (u := U) (U := U.calling g mk a) (Vm.Alike.refl U.vm) (h.2.2 x hx y hy hne)⟩, fun U hU hW => ⟨rfl, (pre_at (As := As) E hPu hDu hS U hU hW).2, fun x hx y hy hne => va_Nc.moved hW.alike (hNC x hx y hy hne)⟩⟩ rfl hn hl.1 hst (lv_room hcat) hd hcs) hS (fun q _ h => hF q h) hF (fun q _ h => hF q h) (fun E1 ce q9 u t H1 locs1 ht hvm hw hB hz1 hk1 hS1 hce hcv hcl => hw.elim) (fun r z t H1 locs1 ht hvm hw hB hz1 hk1 hS1 => ?_)
  obtain ⟨hP1, hD1⟩ := hB
  rw [ht] at hP1
  obtain ⟨hP2, hD2⟩ := seg_join (w1 := []) hP hD hk1 hF hP1 hD1
  have hP2 : va_P D vwCl (u2 ++ w3) H1 := hP2
  have hD2 : va_D A (u2 ++ w3) := hD2
  rw [hws2] at hP2 hD2
  subst hw
  exact kk H1 locs1 ls hP2 hD2 hS1 hl
end SW
theorem ca_ISE : Cond.castable "java/lang/IllegalStateException" "java/lang/IllegalStateException" ∈ NWL := NWL_in 296 (by decide +kernel) rfl
theorem ca_IAE : Cond.castable "java/lang/IllegalArgumentException" "java/lang/IllegalArgumentException" ∈ NWL := NWL_in 394 (by decide +kernel) rfl
theorem ca_IOB : Cond.castable "java/lang/IndexOutOfBoundsException" "java/lang/IndexOutOfBoundsException" ∈ NWL := NWL_in 378 (by decide +kernel) rfl
theorem ca_NSE : Cond.castable "java/util/NoSuchElementException" "java/util/NoSuchElementException" ∈ NWL := NWL_in 622 (by decide +kernel) rfl
