theorem va_nm_of {s : State} {a b : ClassId} {ty : FieldType} (h : ∀ C, ty ≠ .object C) (h1 : va_RA s a ty) (h2 : va_RA s b ty) : a = b := by
  cases ty <;> first | exact absurd rfl (h _) | exact Option.some.inj (Eq.trans (Eq.symm h1) h2)
section NR
variable {p : Program} {l : Launch} {e : Env} {R : Room} {s : State} {m : MethodId} {args : Array Value} {below : List Frame} {meth : Method} {c : Code} {D : va_G} {kA : Nat → ClassId} {A : Nat → Prop} {nL cells slots : Nat} {Q : State → Prop} {cc : ByteArray} {own : String} {ws : va_W} {pc : Nat} {lv : List (Nat × Value)} {st : List Value}
theorem x_newI (X : CX p m c cc nL s args own) (E : EX l s D kA A) (hw : Cond.arrayClass .int ∈ WG) {n : Int32} {N : Nat} (hn : ¬ n < 0) (hN : n.toNatClampNeg = N) (hbytes : N * 4 ≤ 536870912) (hc : cells + 1 ≤ R.cells) (hs : slots + N ≤ R.slots) (hd : decode cc pc = .ok (.newarray .int, 2)) (kk : ∀ q : Nat, CS p l e R s m args below meth c D A nL (cells + 1) (slots + N) Q (ws ++ [(q, .inl (kA 0, N, .inl (fun _ => 0)))]) (pc + 2) lv (.ref q :: st)) : CS p l e R s m args below meth c D A nL cells slots Q ws pc lv (.int n :: st) := by
  intro H locs ls hP hD hS hl
  refine va_newa (atype := .int) X.1 X.2.1 (X.2.2.2.2 _ hw) (ty := .int) rfl E.1.1 hP hD hS E.2.2.1 (N' := N) (a0 := (N, .inl (fun _ => 0))) (fun cA => by rw [vp_cell_i]; rfl) hn hN hbytes hc hs hd (fun q cA H1 hK1 hP1 hD1 hS1 => ?_)
  have e1 : cA = kA 0 := va_nm_of (fun C h => by cases h) (hK1.2 4 _ rfl).2 (hK1.2 0 _ rfl).2
  rw [e1] at hP1 hD1
  exact kk q H1 locs ls hP1 hD1 hS1 hl
theorem x_newJ (X : CX p m c cc nL s args own) (E : EX l s D kA A) (hw : Cond.arrayClass .long ∈ WG) {n : Int32} {N : Nat} (hn : ¬ n < 0) (hN : n.toNatClampNeg = N) (hbytes : N * 8 ≤ 536870912) (hc : cells + 1 ≤ R.cells) (hs : slots + N ≤ R.slots) (hd : decode cc pc = .ok (.newarray .long, 2)) (kk : ∀ q : Nat, CS p l e R s m args below meth c D A nL (cells + 1) (slots + N) Q (ws ++ [(q, .inl (kA 1, N, .inr (.inl (fun _ => 0))))]) (pc + 2) lv (.ref q :: st)) : CS p l e R s m args below meth c D A nL cells slots Q ws pc lv (.int n :: st) := by
  intro H locs ls hP hD hS hl
  refine va_newa (atype := .long) X.1 X.2.1 (X.2.2.2.2 _ hw) (ty := .long) rfl E.1.1 hP hD hS E.2.2.1 (N' := N) (a0 := (N, .inr (.inl (fun _ => 0)))) (fun cA => by rw [vp_cell_l]; rfl) hn hN hbytes hc hs hd (fun q cA H1 hK1 hP1 hD1 hS1 => ?_)
  have e1 : cA = kA 1 := va_nm_of (fun C h => by cases h) (hK1.2 4 _ rfl).2 (hK1.2 1 _ rfl).2
  rw [e1] at hP1 hD1
  exact kk q H1 locs ls hP1 hD1 hS1 hl
theorem x_newZ (X : CX p m c cc nL s args own) (E : EX l s D kA A) (hw : Cond.arrayClass .boolean ∈ WG) {n : Int32} {N : Nat} (hn : ¬ n < 0) (hN : n.toNatClampNeg = N) (hbytes : N * 1 ≤ 536870912) (hc : cells + 1 ≤ R.cells) (hs : slots + N ≤ R.slots) (hd : decode cc pc = .ok (.newarray .boolean, 2)) (kk : ∀ q : Nat, CS p l e R s m args below meth c D A nL (cells + 1) (slots + N) Q (ws ++ [(q, .inl (kA 2, N, .inl (fun _ => 0)))]) (pc + 2) lv (.ref q :: st)) : CS p l e R s m args below meth c D A nL cells slots Q ws pc lv (.int n :: st) := by
  intro H locs ls hP hD hS hl
  refine va_newa (atype := .boolean) X.1 X.2.1 (X.2.2.2.2 _ hw) (ty := .boolean) rfl E.1.1 hP hD hS E.2.2.1 (N' := N) (a0 := (N, .inl (fun _ => 0))) (fun cA => by rw [vp_cell_i]; rfl) hn hN hbytes hc hs hd (fun q cA H1 hK1 hP1 hD1 hS1 => ?_)
  have e1 : cA = kA 2 := va_nm_of (fun C h => by cases h) (hK1.2 4 _ rfl).2 (hK1.2 2 _ rfl).2
  rw [e1] at hP1 hD1
  exact kk q H1 locs ls hP1 hD1 hS1 hl
end NR
