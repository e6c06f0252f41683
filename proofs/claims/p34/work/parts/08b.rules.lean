/-! rules for the law's own methods -/
def bxn2 {α β ε γ : Type} (x : Option ((α × β) ⊕ ε)) (k : α → β → Option γ) : Option γ := match x with
  | some (.inl q) => k q.1 q.2
  | _ => none
theorem bxn2_some {α β ε γ : Type} {x : Option ((α × β) ⊕ ε)} {k : α → β → Option γ} {o : γ} (h : bxn2 x k = some o) : ∃ a b, x = some (.inl (a, b)) ∧ k a b = some o := by
  match x, h with
  | none, h => cases h
  | some (.inl a), h => exact ⟨a.1, a.2, rfl, h⟩
  | some (.inr q), h => cases h
theorem bxn2_e {α β ε γ : Type} (a : α) (b : β) (k : α → β → Option γ) : bxn2 (some (.inl (a, b)) : Option ((α × β) ⊕ ε)) k = k a b := rfl
theorem bxr_some {α ε γ : Type} {x : Option (α ⊕ ε)} {k : α → Option (γ ⊕ ε)} {o : γ} (h : bx x (fun q => some (.inr q)) k = some (.inl o)) : ∃ a, x = some (.inl a) ∧ k a = some (.inl o) := by
  match x, h with
  | none, h => cases h
  | some (.inl a), h => exact ⟨a, rfl, h⟩
  | some (.inr q), h => cases h
section RU
variable {p : Program} {l : Launch} {e : Env} {R : Room} {s : State} {m : MethodId} {args : Array Value} {below : List Frame} {meth : Method} {c : Code} {D : va_G} {kA : Nat → ClassId} {A : Nat → Prop} {nL cells slots : Nat} {Q : State → Prop} {cc : ByteArray} {own : String} {ws : va_W} {pc : Nat} {lv : List (Nat × Value)} {st : List Value}
theorem x_irem (X : CX p m c cc nL s args own) {x y : Int32} {α : Type} {kf : Int32 → Option α} {out : α} (hd : decode cc pc = .ok (.irem, 1)) (hf : ck (¬ y = 0) (nm (x % y) kf) = some out) (kk : ∀ v, kf v = some out → CS p l e R s m args below meth c D A nL cells slots Q ws (pc + 1) lv (.int v :: st)) : CS p l e R s m args below meth c D A nL cells slots Q ws pc lv (.int y :: .int x :: st) := by
  obtain ⟨hne, hf⟩ := ck_some hf
  intro H locs ls hP hD hS hl
  refine lv_irem X.1 X.2.1 hd hne ?_
  rw [irem_eq_mod]
  exact kk _ hf H locs ls hP hD hS hl
theorem x_callSw_i (X : CX p m c cc nL s args own) (E : EX l s D kA A) {y : MethodName} {bytes : ByteArray} {maxL n index : Nat} {rm : Room} {As rest : List Value} {ret : Option FieldType} {v : Int32} {ws2 : va_W} (hG : GoodIn WG (va_wsS own index y (wsY y bytes maxL ret))) (hM : ∀ sz, Met l y (wsY y bytes maxL ret) rm (va_Pc As (PreG D kA ws sz)) (va_Qi (fun (r : Int32) (_ : Unit) => r = v) (fun _ t => PosG D (va_A ws sz) ws2 t) (va_A ws sz)) 0 0 (va_A ws sz)) (hrc : rm.cells = 0) (hrs : rm.slots = 0) (hy : y.cls ≠ "java/lang/invoke/MethodHandle" ∧ y.cls ≠ "java/lang/invoke/VarHandle" ∧ (parseMethodDescriptor y.desc).map (fun d => d.parameters.length) = some n) (hR : rm.frames + 1 ≤ R.frames ∧ 8 + (maxL + 11) + rm.locals ≤ R.locals) (hn : As.length = n) (hst : st = As.reverse ++ rest) (hcat : (rest.map fun v => v.category).sum ≤ 8) (hd : decode cc pc = .ok (.invokestatic index, 3)) (hcs : cells ≤ R.cells ∧ slots ≤ R.slots) (kk : CS p l e R s m args below meth c D A nL cells slots Q ws2 (pc + 3) lv (.int v :: rest)) : CS p l e R s m args below meth c D A nL cells slots Q ws pc lv st := by
  intro H locs ls hP hD hS hl
  have hF := fr_self hD hS E.2.2.1
  refine va_calli (va_runS (As := As) (rest := rest) X (hM H.size) (va_cwS n X.2.2.2.2 hG rfl hrc hrs hy hR) ⟨pre_blind, pre_at E hP hD hS⟩ rfl hn hl.1 hst (lv_room hcat) hd hcs) hS (fun q _ h => hF q h) hF (fun r u t H1 locs1 ht hvm hw hB hz1 hk1 hS1 => ?_)
  obtain ⟨hP1, hD1⟩ := hB
  rw [ht] at hP1
  subst hw; exact kk H1 locs1 ls hP1 (hD1.weaken (fun _ q _ h => hF q.1 h)) hS1 hl
theorem x_callSw_v (X : CX p m c cc nL s args own) (E : EX l s D kA A) {y : MethodName} {bytes : ByteArray} {maxL n index : Nat} {rm : Room} {As rest : List Value} {ret : Option FieldType} {ws2 : va_W} (hG : GoodIn WG (va_wsS own index y (wsY y bytes maxL ret))) (hM : ∀ sz, Met l y (wsY y bytes maxL ret) rm (va_Pc As (PreG D kA ws sz)) (va_Qv (fun (_ : Unit) => True) (fun _ t => PosG D (va_A ws sz) ws2 t) (va_A ws sz)) 0 0 (va_A ws sz)) (hrc : rm.cells = 0) (hrs : rm.slots = 0) (hy : y.cls ≠ "java/lang/invoke/MethodHandle" ∧ y.cls ≠ "java/lang/invoke/VarHandle" ∧ (parseMethodDescriptor y.desc).map (fun d => d.parameters.length) = some n) (hR : rm.frames + 1 ≤ R.frames ∧ 8 + (maxL + 11) + rm.locals ≤ R.locals) (hn : As.length = n) (hst : st = As.reverse ++ rest) (hcat : (rest.map fun v => v.category).sum ≤ 8) (hd : decode cc pc = .ok (.invokestatic index, 3)) (hcs : cells ≤ R.cells ∧ slots ≤ R.slots) (kk : CS p l e R s m args below meth c D A nL cells slots Q ws2 (pc + 3) lv rest) : CS p l e R s m args below meth c D A nL cells slots Q ws pc lv st := by
  intro H locs ls hP hD hS hl
  have hF := fr_self hD hS E.2.2.1
  refine va_callv (va_runS (As := As) (rest := rest) X (hM H.size) (va_cwS n X.2.2.2.2 hG rfl hrc hrs hy hR) ⟨pre_blind, pre_at E hP hD hS⟩ rfl hn hl.1 hst (lv_room hcat) hd hcs) hS (fun q _ h => hF q h) hF (fun u t H1 locs1 ht hvm hw hB hz1 hk1 hS1 => ?_)
  obtain ⟨hP1, hD1⟩ := hB
  rw [ht] at hP1
  exact kk H1 locs1 ls hP1 (hD1.weaken (fun _ q _ h => hF q.1 h)) hS1 hl
/-- the script, seen from a later heap -/
theorem scr_at {b L : Nat} {xs : Nat → Int32} (hX : va_X b L xs s s.heap) (hbl : b < s.heap.size) (hbA : ¬ A b) {H : Heap} {locs : List Loc} (hS : va_S A s.heap H locs) {U : State} (hU : U.heap = H) (hW : s.WarmedH U.vm) : va_X b L xs U U.heap ∧ b < U.heap.size := by
  rw [hU]
  exact ⟨(hX.moved hW.alike).kept (hS.2.1 b hbl hbA), Nat.lt_of_lt_of_le hbl hS.1⟩
/-- a call of cell -/
theorem x_callSx (X : CX p m c cc nL s args own) {b L : Nat} {xs : Nat → Int32} (hX : va_X b L xs s s.heap) (hbl : b < s.heap.size) (hbA : ¬ A b) {y : MethodName} {bytes : ByteArray} {maxL n index : Nat} {rm : Room} {As rest : List Value} {ret : Option FieldType} {v : Int32} (hG : GoodIn WG (va_wsS own index y (wsY y bytes maxL ret))) (hM : Met l y (wsY y bytes maxL ret) rm (va_Pc As (fun U => va_X b L xs U U.heap ∧ b < U.heap.size)) (va_Qi (fun (r : Int32) (_ : Unit) => r = v) (fun _ _ => True) (fun _ => False)) 0 0 (fun _ => False)) (hrc : rm.cells = 0) (hrs : rm.slots = 0) (hy : y.cls ≠ "java/lang/invoke/MethodHandle" ∧ y.cls ≠ "java/lang/invoke/VarHandle" ∧ (parseMethodDescriptor y.desc).map (fun d => d.parameters.length) = some n) (hR : rm.frames + 1 ≤ R.frames ∧ 8 + (maxL + 11) + rm.locals ≤ R.locals) (hn : As.length = n) (hst : st = As.reverse ++ rest) (hcat : (rest.map fun v => v.category).sum ≤ 8) (hd : decode cc pc = .ok (.invokestatic index, 3)) (hcs : cells ≤ R.cells ∧ slots ≤ R.slots) (kk : CS p l e R s m args below meth c D A nL cells slots Q ws (pc + 3) lv (.int v :: rest)) : CS p l e R s m args below meth c D A nL cells slots Q ws pc lv st := by
  intro H locs ls hP hD hS hl
  refine va_calli (va_runS (As := As) (rest := rest) X hM (va_cwS n X.2.2.2.2 hG rfl hrc hrs hy hR) ⟨fun a U g mk h => ⟨h.1, va_X.moved (u := U) (U := U.calling g mk a) (Vm.Alike.refl U.vm) h.2.1, h.2.2⟩, fun U hU hW => ⟨rfl, scr_at hX hbl hbA hS hU hW⟩⟩ rfl hn hl.1 hst (lv_room hcat) hd hcs) hS (fun q _ h => h.elim) (fun q h => h.elim) (fun r u t H1 locs1 ht hvm hw hB hz1 hk1 hS1 => ?_)
  have hP1 : va_P D vwCl ws H1 := hP.kept (fun k q hq => hk1 q.1 (hP k q hq).lt (fun h => h.elim))
  subst hw; exact kk H1 locs1 ls hP1 hD hS1 hl
/-- a call of build: its world and the script -/
theorem x_callSwx_i (X : CX p m c cc nL s args own) (E : EX l s D kA A) {b L : Nat} {xs : Nat → Int32} (hX : va_X b L xs s s.heap) (hbl : b < s.heap.size) (hbA : ¬ A b) {y : MethodName} {bytes : ByteArray} {maxL n index : Nat} {rm : Room} {As rest : List Value} {ret : Option FieldType} {v : Int32} {ws2 : va_W} (hG : GoodIn WG (va_wsS own index y (wsY y bytes maxL ret))) (hM : ∀ sz, Met l y (wsY y bytes maxL ret) rm (va_Pc As (fun U => PreG D kA ws sz U ∧ va_X b L xs U U.heap ∧ b < U.heap.size ∧ ¬ va_A ws sz b)) (va_Qi (fun (r : Int32) (_ : Unit) => r = v) (fun _ t => PosG D (va_A ws sz) ws2 t) (va_A ws sz)) 0 0 (va_A ws sz)) (hrc : rm.cells = 0) (hrs : rm.slots = 0) (hy : y.cls ≠ "java/lang/invoke/MethodHandle" ∧ y.cls ≠ "java/lang/invoke/VarHandle" ∧ (parseMethodDescriptor y.desc).map (fun d => d.parameters.length) = some n) (hR : rm.frames + 1 ≤ R.frames ∧ 8 + (maxL + 11) + rm.locals ≤ R.locals) (hn : As.length = n) (hst : st = As.reverse ++ rest) (hcat : (rest.map fun v => v.category).sum ≤ 8) (hd : decode cc pc = .ok (.invokestatic index, 3)) (hcs : cells ≤ R.cells ∧ slots ≤ R.slots) (kk : CS p l e R s m args below meth c D A nL cells slots Q ws2 (pc + 3) lv (.int v :: rest)) : CS p l e R s m args below meth c D A nL cells slots Q ws pc lv st := by
  intro H locs ls hP hD hS hl
  have hF := fr_self hD hS E.2.2.1
  have hno : ¬ va_A ws H.size b := fun h => hbA (hF b h)
  refine va_calli (va_runS (As := As) (rest := rest) X (hM H.size) (va_cwS n X.2.2.2.2 hG rfl hrc hrs hy hR) ⟨fun a U g mk h => ⟨h.1, (pre_blind a U g mk ⟨h.1, h.2.1⟩).2, va_X.moved (u := U) (U := U.calling g mk a) (Vm.Alike.refl U.vm) h.2.2.1, h.2.2.2⟩, fun U hU hW => ⟨rfl, (pre_at (As := As) E hP hD hS U hU hW).2, (scr_at hX hbl hbA hS hU hW).1, (scr_at hX hbl hbA hS hU hW).2, hno⟩⟩ rfl hn hl.1 hst (lv_room hcat) hd hcs) hS (fun q _ h => hF q h) hF (fun r u t H1 locs1 ht hvm hw hB hz1 hk1 hS1 => ?_)
  obtain ⟨hP1, hD1⟩ := hB
  rw [ht] at hP1
  subst hw; exact kk H1 locs1 ls hP1 (hD1.weaken (fun _ q _ h => hF q.1 h)) hS1 hl
end RU
/-- build, from its entry -/
theorem metGx {l : Launch} {D : va_G} {kA : Nat → ClassId} {ws : va_W} {sz b L : Nat} {xs : Nat → Int32} {y : MethodName} {cc : ByteArray} {maxL : Nat} {ret : Option FieldType} {rm : Room} {As : List Value} {Qc : Array Value → State → Outcome → State → Prop} {mc ms : Nat} {lv0 : List (Nat × Value)} {own : String} (hst : l.stackTraces = false) (hy : plainName y.cls = true) (hown : y.cls = own) (hcat : (lg_sl As).length ≤ maxL) (hlv : lv_args 0 As = lv0)
    (body : ∀ (p : Program) (e : Env) (s : State) (m : MethodId) (below : List Frame) (meth : Method) (c : Code), CX p m c cc maxL s As.toArray own → meth.sig.returnType = ret → meth.locks = false → EX l s D kA (va_A ws sz) → va_X b L xs s s.heap → b < s.heap.size → ¬ va_A ws sz b → CS p l e rm s m As.toArray below meth c D (va_A ws sz) maxL 0 0 (MQ below Qc As.toArray s mc ms (va_A ws sz)) ws 0 lv0 []) :
    Met l y (wsY y cc maxL ret) rm (va_Pc As (fun U => PreG D kA ws sz U ∧ va_X b L xs U U.heap ∧ b < U.heap.size ∧ ¬ va_A ws sz b)) Qc mc ms (va_A ws sz) := by
  refine Met.ofW (cc := cc) (maxL := maxL) (ret := ret) hy rfl ?_
  intro p e s m args below meth c s₁ B hml hv
  obtain ⟨rfl, ⟨hsz, hP, hD0, hE, hZ⟩, hX, hbl, hbA⟩ := hv
  have hts := atoms_spec (ws := wsY y cc maxL ret) B.pre
  rw [lg_entry_eq]
  have hl := lv_entry As hcat
  rw [hlv] at hl
  subst hsz
  subst hown
  exact body p e s m below meth c ⟨B.exec, B.bytes, hml, findClass_of_methodNamed B.named, fun w h => hts w (List.mem_cons_of_mem _ h)⟩ B.returns B.notSynchronized ⟨hE, hZ, fun q h => Or.inr h, hst⟩ hX hbl hbA s.heap [] _ hP hD0.self va_S.rf hl
theorem x_sld {p : Program} {l : Launch} {e : Env} {R : Room} {s : State} {m : MethodId} {args : Array Value} {below : List Frame} {meth : Method} {c : Code} {D : va_G} {A : Nat → Prop} {nL cells slots : Nat} {Q : State → Prop} {cc : ByteArray} {own : String} {ws : va_W} {pc : Nat} {lv : List (Nat × Value)} {st : List Value} (X : CX p m c cc nL s args own) {b L : Nat} {xs : Nat → Int32} (hX : va_X b L xs s s.heap) (hbl : b < s.heap.size) (hbA : ¬ A b) {i : Int32} (hin : vp_in i L) (hd : decode cc pc = .ok (.iaload, 1)) (kk : CS p l e R s m args below meth c D A nL cells slots Q ws (pc + 1) lv (.int (xs i.toNatClampNeg) :: st)) : CS p l e R s m args below meth c D A nL cells slots Q ws pc lv (.int i :: .ref b :: st) := fun H locs ls hP hD hS hl => va_sld X.1 X.2.1 hX hbl hbA hS hin hd (kk H locs ls hP hD hS hl)
theorem x_slen {p : Program} {l : Launch} {e : Env} {R : Room} {s : State} {m : MethodId} {args : Array Value} {below : List Frame} {meth : Method} {c : Code} {D : va_G} {A : Nat → Prop} {nL cells slots : Nat} {Q : State → Prop} {cc : ByteArray} {own : String} {ws : va_W} {pc : Nat} {lv : List (Nat × Value)} {st : List Value} (X : CX p m c cc nL s args own) {b L : Nat} {xs : Nat → Int32} (hX : va_X b L xs s s.heap) (hbl : b < s.heap.size) (hbA : ¬ A b) (hd : decode cc pc = .ok (.arraylength, 1)) (kk : CS p l e R s m args below meth c D A nL cells slots Q ws (pc + 1) lv (.int (Int32.ofNat L) :: st)) : CS p l e R s m args below meth c D A nL cells slots Q ws pc lv (.ref b :: st) := fun H locs ls hP hD hS hl => va_slen X.1 X.2.1 hX hbl hbA hS hd (kk H locs ls hP hD hS hl)
