theorem seg_at {w1 w2 w3 : va_W} {k : Nat} {q : Nat × va_E} (h : w2[k]? = some q) : (w1 ++ (w2 ++ w3))[w1.length + k]? = some q := by
  have hl := (List.getElem?_eq_some_iff.mp h).1
  rw [List.getElem?_append_right (by omega), Nat.add_sub_cancel_left, List.getElem?_append_left hl]
  exact h
theorem seg_l {w1 w2 : va_W} {k : Nat} {q : Nat × va_E} (h : w1[k]? = some q) : (w1 ++ w2)[k]? = some q := by
  rw [List.getElem?_append_left (List.getElem?_eq_some_iff.mp h).1]
  exact h
theorem seg_r {w1 w2 w3 : va_W} {k : Nat} {q : Nat × va_E} (h : w3[k]? = some q) : (w1 ++ (w2 ++ w3))[w1.length + (w2.length + k)]? = some q := by
  rw [List.getElem?_append_right (by omega), Nat.add_sub_cancel_left, List.getElem?_append_right (by omega), Nat.add_sub_cancel_left]
  exact h
/-- behind a call that has the middle of a world: the rest stays -/
theorem seg_join {A0 : Nat → Prop} {D : va_G} {w1 w2 w3 w2' : va_W} {H H1 : Heap} (hP : va_P D vwCl (w1 ++ (w2 ++ w3)) H) (hD : va_D A0 (w1 ++ (w2 ++ w3))) (hk : ∀ q : Nat, q < H.size → ¬ va_A w2 H.size q → H1[q]? = H[q]?) (hF : ∀ q, va_A w2 H.size q → A0 q) (hP1 : va_P D vwCl w2' H1) (hD1 : va_D (va_A w2 H.size) w2') : va_P D vwCl (w1 ++ (w2' ++ w3)) H1 ∧ va_D A0 (w1 ++ (w2' ++ w3)) := by
  have out : ∀ (i : Nat) (q : Nat × va_E), (w1 ++ (w2 ++ w3))[i]? = some q → (i < w1.length ∨ w1.length + w2.length ≤ i) → q.1 < H.size ∧ ¬ va_A w2 H.size q.1 := by
    intro i q hq hi
    have hl := (hP i q hq).lt
    refine ⟨hl, fun h => ?_⟩
    rcases h with ⟨k2, e, h⟩ | h
    · have h2 := (List.getElem?_eq_some_iff.mp h).1
      have := hD.1 i _ q (q.1, e) hq (seg_at (w1 := w1) (w3 := w3) h) rfl
      omega
    · omega
  have o1 : ∀ (k : Nat) (q : Nat × va_E), w1[k]? = some q → q.1 < H.size ∧ ¬ va_A w2 H.size q.1 := fun k q h => out k q (seg_l h) (Or.inl (List.getElem?_eq_some_iff.mp h).1)
  have o3 : ∀ (k : Nat) (q : Nat × va_E), w3[k]? = some q → q.1 < H.size ∧ ¬ va_A w2 H.size q.1 := fun k q h => out _ q (seg_r h) (Or.inr (by omega))
  have d1 : va_D A0 w1 := ⟨fun i j p q hi hj e => hD.1 i j p q (seg_l hi) (seg_l hj) e, fun k q h => hD.2 k q (seg_l h)⟩
  have d3 : va_D A0 w3 := ⟨fun i j p q hi hj e => by have := hD.1 _ _ p q (seg_r (w1 := w1) (w2 := w2) hi) (seg_r hj) e; omega, fun k q h => hD.2 _ q (seg_r h)⟩
  have x13 : ∀ (i j : Nat) (p q : Nat × va_E), w1[i]? = some p → w3[j]? = some q → p.1 ≠ q.1 := fun i j p q hi hj e => by
    have := hD.1 _ _ p q (seg_l hi) (seg_r (w1 := w1) (w2 := w2) hj) e
    have := (List.getElem?_eq_some_iff.mp hi).1
    omega
  refine ⟨va_P.app (fun k q h => (hP k q (seg_l h)).kept (hk q.1 (o1 k q h).1 (o1 k q h).2)) (va_P.app hP1 (fun k q h => (hP _ q (seg_r h)).kept (hk q.1 (o3 k q h).1 (o3 k q h).2))), ?_⟩
  refine va_D.app d1 (va_D.app (hD1.weaken (fun k q _ h => hF q.1 h)) d3 (fun i j p q hi hj e => (o3 j q hj).2 (by rw [← e]; exact hD1.2 i p hi))) (fun i j p q hi hj e => ?_)
  rcases List.mem_append.mp (List.mem_of_getElem? hj) with h | h
  · obtain ⟨k, hk2⟩ := List.getElem?_of_mem h
    exact (o1 i p hi).2 (by rw [e]; exact hD1.2 k q hk2)
  · obtain ⟨k, hk2⟩ := List.getElem?_of_mem h
    exact x13 i k p q hi hk2 e
theorem seg_P {D : va_G} {A : Nat → Prop} {w1 w2 w3 : va_W} {H : Heap} (hP : va_P D vwCl (w1 ++ (w2 ++ w3)) H) (hD : va_D A (w1 ++ (w2 ++ w3))) : va_P D vwCl w2 H ∧ va_D A w2 :=
  ⟨fun k q h => hP _ q (seg_at h), fun i j p q hi hj e => by have := hD.1 _ _ p q (seg_at (w1 := w1) (w3 := w3) hi) (seg_at hj) e; omega, fun k q h => hD.2 _ q (seg_at h)⟩
section SG
variable {p : Program} {l : Launch} {e : Env} {R : Room} {s : State} {m : MethodId} {args : Array Value} {below : List Frame} {meth : Method} {c : Code} {D : va_G} {kA : Nat → ClassId} {A : Nat → Prop} {nL cells slots : Nat} {Q : State → Prop} {cc : ByteArray} {own : String} {ws : va_W} {pc : Nat} {lv : List (Nat × Value)} {st : List Value}
theorem x_callVs_i (X : CX p m c cc nL s args own) (E : EX l s D kA A) {y : MethodName} {bytes : ByteArray} {maxL n index : Nat} {rm : Room} {As rest : List Value} {ret : Option FieldType} {v : Int32} {C : String} {b ci : Nat} {qc : vw_C} {fs : List Value} {u u2 : va_W} (w1 w3 : va_W) (hws : ws = w1 ++ (u ++ w3)) (hG : GoodIn WG (wsV own index C y (wsY y bytes maxL ret))) (hM : ∀ sz, Met l y (wsY y bytes maxL ret) rm (va_Pc (.ref b :: As) (PreG D kA u sz)) (va_Qi (fun (r : Int32) (_ : Unit) => r = v) (fun _ t => PosG D (va_A u sz) u2 t) (va_A u sz)) 0 0 (va_A u sz)) (hrc : rm.cells = 0) (hrs : rm.slots = 0) (hy : y.cls = C ∧ y.cls ≠ "java/lang/invoke/MethodHandle" ∧ y.cls ≠ "java/lang/invoke/VarHandle" ∧ (parseMethodDescriptor y.desc).map (fun d => d.parameters.length) = some n) (hR : rm.frames + 1 ≤ R.frames ∧ 8 + (maxL + 11) + rm.locals ≤ R.locals) (q0 : Nat) (he : u[q0]? = some (b, .inr (ci, fs))) (hc : vwCl[ci]? = some qc) (hqc : qc.1 = C) (hn : As.length = n) (hst : st = As.reverse ++ .ref b :: rest) (hcat : (rest.map fun v => v.category).sum ≤ 8) (hd : decode cc pc = .ok (.invokevirtual index, 3)) (hcs : cells ≤ R.cells ∧ slots ≤ R.slots) (ws2 : va_W) (hws2 : w1 ++ (u2 ++ w3) = ws2) (kk : CS p l e R s m args below meth c D A nL cells slots Q ws2 (pc + 3) lv (.int v :: rest)) : CS p l e R s m args below meth c D A nL cells slots Q ws pc lv st := by
  subst hws
  intro H locs ls hP hD hS hl
  obtain ⟨hPu, hDu⟩ := seg_P hP hD
  have hF := fr_self hDu hS E.2.2.1
  refine va_calli (va_runV (As := As) (rest := rest) (C := C) X (hM H.size) (cwV n X.2.2.2.2 hG rfl hrc hrs hy hR) ⟨pre_blind, hqc ▸ va_recv E.1.1 hPu hc he, pre_at E hPu hDu hS⟩ rfl hn hl.1 hst (lv_room hcat) hd hcs) hS (fun q _ h => hF q h) hF (fun r z t H1 locs1 ht hvm hw hB hz1 hk1 hS1 => ?_)
  obtain ⟨hP1, hD1⟩ := hB
  rw [ht] at hP1
  obtain ⟨hP2, hD2⟩ := seg_join hP hD hk1 hF hP1 hD1
  rw [hws2] at hP2 hD2
  subst hw; exact kk H1 locs1 ls hP2 hD2 hS1 hl
theorem x_callVs_v (X : CX p m c cc nL s args own) (E : EX l s D kA A) {y : MethodName} {bytes : ByteArray} {maxL n index : Nat} {rm : Room} {As rest : List Value} {ret : Option FieldType}  {C : String} {b ci : Nat} {qc : vw_C} {fs : List Value} {u u2 : va_W} (w1 w3 : va_W) (hws : ws = w1 ++ (u ++ w3)) (hG : GoodIn WG (wsV own index C y (wsY y bytes maxL ret))) (hM : ∀ sz, Met l y (wsY y bytes maxL ret) rm (va_Pc (.ref b :: As) (PreG D kA u sz)) (va_Qv (fun (_ : Unit) => True) (fun _ t => PosG D (va_A u sz) u2 t) (va_A u sz)) 0 0 (va_A u sz)) (hrc : rm.cells = 0) (hrs : rm.slots = 0) (hy : y.cls = C ∧ y.cls ≠ "java/lang/invoke/MethodHandle" ∧ y.cls ≠ "java/lang/invoke/VarHandle" ∧ (parseMethodDescriptor y.desc).map (fun d => d.parameters.length) = some n) (hR : rm.frames + 1 ≤ R.frames ∧ 8 + (maxL + 11) + rm.locals ≤ R.locals) (q0 : Nat) (he : u[q0]? = some (b, .inr (ci, fs))) (hc : vwCl[ci]? = some qc) (hqc : qc.1 = C) (hn : As.length = n) (hst : st = As.reverse ++ .ref b :: rest) (hcat : (rest.map fun v => v.category).sum ≤ 8) (hd : decode cc pc = .ok (.invokevirtual index, 3)) (hcs : cells ≤ R.cells ∧ slots ≤ R.slots) (ws2 : va_W) (hws2 : w1 ++ (u2 ++ w3) = ws2) (kk : CS p l e R s m args below meth c D A nL cells slots Q ws2 (pc + 3) lv rest) : CS p l e R s m args below meth c D A nL cells slots Q ws pc lv st := by
  subst hws
  intro H locs ls hP hD hS hl
  obtain ⟨hPu, hDu⟩ := seg_P hP hD
  have hF := fr_self hDu hS E.2.2.1
  refine va_callv (va_runV (As := As) (rest := rest) (C := C) X (hM H.size) (cwV n X.2.2.2.2 hG rfl hrc hrs hy hR) ⟨pre_blind, hqc ▸ va_recv E.1.1 hPu hc he, pre_at E hPu hDu hS⟩ rfl hn hl.1 hst (lv_room hcat) hd hcs) hS (fun q _ h => hF q h) hF (fun z t H1 locs1 ht hvm hw hB hz1 hk1 hS1 => ?_)
  obtain ⟨hP1, hD1⟩ := hB
  rw [ht] at hP1
  obtain ⟨hP2, hD2⟩ := seg_join hP hD hk1 hF hP1 hD1
  rw [hws2] at hP2 hD2
  exact kk H1 locs1 ls hP2 hD2 hS1 hl
theorem x_widen {k n : Nat} (h1 : cells ≤ k) (h2 : slots ≤ n) (kk : CS p l e R s m args below meth c D A nL k n Q ws pc lv st) : CS p l e R s m args below meth c D A nL cells slots Q ws pc lv st := fun H locs ls hP hD hS hl => W.widen h1 h2 (kk H locs ls hP hD hS hl)
theorem x_perm (is : List Nat) (hn : va_nd is = true) (ws2 : va_W) (h : is.map (fun i => ws[i]?) = ws2.map some) (kk : CS p l e R s m args below meth c D A nL cells slots Q ws2 pc lv st) : CS p l e R s m args below meth c D A nL cells slots Q ws pc lv st := by
  intro H locs ls hP hD hS hl
  refine kk H locs ls (hP.sub is ?_) (hD.sub is hn h) hS hl
  have key : ∀ (l1 : List (Option (Nat × va_E))) (l2 : va_W), l1 = l2.map some → l1.filterMap id = l2 := by
    intro l1 l2 e
    subst e
    induction l2 with
    | nil => rfl
    | cons a b ih => simp
  have := key _ _ h
  rw [List.filterMap_map] at this
  exact this
end SG
