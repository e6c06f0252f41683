/-- Arrays.fill of an int row -/
def fillF (n : Nat) (v : Int32) (f : Nat → Int32) : Nat → Int32 := fun j => if j < n then v else f j
theorem fillF_0 (v : Int32) (f : Nat → Int32) : fillF 0 v f = f := by funext j; simp [fillF]
theorem fillF_s (i : Nat) (v : Int32) (f : Nat → Int32) : upd (fillF i v f) i v = fillF (i + 1) v f := by
  funext j
  unfold upd fillF
  by_cases h : j = i
  · simp [h]
  · rw [if_neg h]
    by_cases h2 : j < i
    · rw [if_pos h2, if_pos (by omega)]
    · rw [if_neg h2, if_neg (by omega)]
abbrev rm_fill : Room := { frames := 0, cells := 0, slots := 0, locals := 0 }
section
variable {p : Program} {l : Launch} {e : Env} {s : State} {m : MethodId} {args : Array Value} {below : List Frame} {meth : Method} {c : Code} {D : va_G} {kA : Nat → ClassId} {A : Nat → Prop} {Q : State → Prop} {ad : Nat → Nat}
theorem lp_fill (X : CX p m c cJ7_fill_53178 4 s args RJ7) (hK : va_K D vwCl (tyS kA) s) {a n : Nat} (hn : n < 2 ^ 31) (f : Nat → Int32) (v : Int32) (kk : CS p l e rm_fill s m args below meth c D A 4 0 0 Q [(a, .inl (kA 0, n, .inl (fillF n v f)))] 20 [(0, .ref a), (1, .int v), (2, .int (nI n)), (3, .int (nI n))] []) :
    ∀ (k i : Nat), i + k = n → CS p l e rm_fill s m args below meth c D A 4 0 0 Q [(a, .inl (kA 0, n, .inl (fillF i v f)))] 5 [(0, .ref a), (1, .int v), (2, .int (nI i)), (3, .int (nI n))] [] := by
  intro k
  induction k with
  | zero =>
    intro i hi
    have e : i = n := by omega
    subst e
    refine x_iload_n X dJ7_fill_53178_5 2 rfl ?_
    refine x_iload_n X dJ7_fill_53178_6 3 rfl ?_
    refine x_icmp_ge_t X (tgt := 20) dJ7_fill_53178_7 (by decide) (nI_le (Nat.le_refl _) hn) ?_
    exact kk
  | succ k ih =>
    intro i hi
    have hin : vp_in (nI i) n := vp_in_nI (by omega) hn
    have hc : (nI i).toNatClampNeg = i := nI_clamp (by omega)
    refine x_iload_n X dJ7_fill_53178_5 2 rfl ?_
    refine x_iload_n X dJ7_fill_53178_6 3 rfl ?_
    refine x_icmp_ge_f X (tgt := 20) dJ7_fill_53178_7 (by decide) (nI_ge (by omega) hn) ?_
    refine x_aload_n X dJ7_fill_53178_10 0 rfl ?_
    refine x_iload_n X dJ7_fill_53178_11 2 rfl ?_
    refine x_iload_n X dJ7_fill_53178_12 1 rfl ?_
    refine x_iast X hK 0 rfl (kf := some) (u := ()) dJ7_fill_53178_13 (ck_t hin) (fun _ => [(a, .inl (kA 0, n, .inl (fillF (i + 1) v f)))]) (by rw [hc, fillF_s]; rfl) (fun _ _ => ?_)
    refine x_iinc X (kf := some) dJ7_fill_53178_14 2 rfl (by decide) (nI (i + 1)) (nI_1 i) rfl (fun z => [(2, .int z), (0, .ref a), (1, .int v), (3, .int (nI n))]) (fun _ => rfl) (fun z hz => ?_)
    cases hz
    refine x_lpick (lv2 := [(0, .ref a), (1, .int v), (2, .int (nI (i + 1))), (3, .int (nI n))]) [1, 2, 0, 3] rfl ?_
    refine x_goto X (tgt := 5) dJ7_fill_53178_17 (by decide) ?_
    exact ih (i + 1) (by omega)
end
theorem met_fill (l : Launch) (hst : l.stackTraces = false) (D : va_G) (kA : Nat → ClassId) (a n : Nat) (hn : n < 2 ^ 31) (f : Nat → Int32) (v : Int32) (sz : Nat) : Met l yJ7_fill_53178 (wsY yJ7_fill_53178 cJ7_fill_53178 4 none) rm_fill (va_Pc [.ref a, .int v] (PreG D kA [(a, .inl (kA 0, n, .inl f))] sz)) (va_Qv (fun (_ : Unit) => True) (fun _ t => PosG D (va_A [(a, .inl (kA 0, n, .inl f))] sz) [(a, .inl (kA 0, n, .inl (fillF n v f)))] t) (va_A [(a, .inl (kA 0, n, .inl f))] sz)) 0 0 (va_A [(a, .inl (kA 0, n, .inl f))] sz) := by
  refine metG (own := RJ7) hst (by decide +kernel) rfl (Nat.le_of_ble_eq_true rfl) rfl ?_
  intro p e s m below meth c X hr hlk E _
  refine x_iconst X (v := 0) dJ7_fill_53178_0 (by decide) ?_
  refine x_istore_n X (lv2 := [(2, .int 0), (0, .ref a), (1, .int v)]) dJ7_fill_53178_1 (by decide) rfl ?_
  refine x_aload_n X dJ7_fill_53178_2 1 rfl ?_
  refine x_alen X E.1.1 0 0 rfl rfl (v := nI n) rfl dJ7_fill_53178_3 ?_
  refine x_istore_n X (lv2 := [(3, .int (nI n)), (2, .int 0), (0, .ref a), (1, .int v)]) dJ7_fill_53178_4 (by decide) rfl ?_
  refine x_lpick (lv2 := [(0, .ref a), (1, .int v), (2, .int (nI 0)), (3, .int (nI n))]) [2, 3, 1, 0] (by rw [nI_0]; rfl) ?_
  have key := lp_fill (l := l) (e := e) (below := below) (meth := meth) (D := D) (kA := kA) (A := va_A [(a, .inl (kA 0, n, .inl f))] sz) (Q := MQ below (va_Qv (fun (_ : Unit) => True) (fun _ t => PosG D (va_A [(a, .inl (kA 0, n, .inl f))] sz) [(a, .inl (kA 0, n, .inl (fillF n v f)))] t) (va_A [(a, .inl (kA 0, n, .inl f))] sz)) [Value.ref a, Value.int v].toArray s 0 0 (va_A [(a, .inl (kA 0, n, .inl f))] sz)) X E.1.1 hn f v (x_vret X hr hlk rfl dJ7_fill_53178_20) n 0 (by omega)
  rw [fillF_0] at key
  exact key
section
variable {p : Program} {l : Launch} {e : Env} {s : State} {m : MethodId} {args : Array Value} {below : List Frame} {meth : Method} {c : Code} {D : va_G} {kA : Nat → ClassId} {A : Nat → Prop} {Q : State → Prop} {R : Room} {nL cells slots : Nat} {cc : ByteArray} {own : String} {ws : va_W} {pc : Nat} {lv : List (Nat × Value)} {st : List Value} {ad : Nat → Nat}
theorem x_fill (X : CX p m c cc nL s args own) (E : EX l s D kA A) {index : Nat} (h1 : Cond.methodLink own index yJ7_fill_53178 ∈ WG) (h2 : Cond.static yJ7_fill_53178 ∈ WG) (h3 : Cond.initialized yJ7_fill_53178.cls ∈ WG) (h5 : Cond.code yJ7_fill_53178 cJ7_fill_53178 4 none ∈ WG) (hfr : 1 ≤ R.frames) (hlo : 23 ≤ R.locals) (q0 : Nat) {a n : Nat} {f : Nat → Int32} {v : Int32} (he : ws[q0]? = some (a, .inl (kA 0, n, .inl f))) (hn : n < 2 ^ 31) (hd : decode cc pc = .ok (.invokestatic index, 3)) (hcs : cells ≤ R.cells ∧ slots ≤ R.slots) {α τ : Type} {u : τ} {kf : τ → α} {out : α} (hf : nm u kf = out) (ws2 : τ → va_W) (hws : ws.set q0 (a, .inl (kA 0, n, .inl (fillF n v f))) = ws2 u) (kk : ∀ u, kf u = out → CS p l e R s m args below meth c D A nL cells slots Q (ws2 u) (pc + 3) lv []) : CS p l e R s m args below meth c D A nL cells slots Q ws pc lv (.int v :: .ref a :: []) := by
  intro H locs ls hP hD hS hl
  have hone : [q0].map (fun i => ws[i]?) = ([(a, .inl (kA 0, n, .inl f))] : va_W).map some := by simp [he]
  have hPc : va_P D vwCl [(a, .inl (kA 0, n, .inl f))] H := hP.sub [q0] (by simp [he])
  have hDc : va_D A [(a, .inl (kA 0, n, .inl f))] := hD.sub [q0] rfl hone
  have hF := fr_self hDc hS E.2.2.1
  refine va_callv (va_runS (As := [.ref a, .int v]) (rest := []) X (met_fill l E.2.2.2 D kA a n hn f v H.size) (va_cwS 2 X.2.2.2.2 (goodS h1 h2 h3 h5) rfl rfl rfl (by decide +kernel) ⟨hfr, hlo⟩) ⟨pre_blind, pre_at E hPc hDc hS⟩ rfl rfl hl.1 rfl (lv_room (Nat.le_of_ble_eq_true rfl)) hd hcs) hS (fun q _ h => hF q h) hF (fun u1 t H1 locs1 ht hvm hw hB hz1 hk1 hS1 => ?_)
  obtain ⟨hP1, hD1⟩ := hB
  rw [ht] at hP1
  have hPn : va_P D vwCl (ws.set q0 (a, .inl (kA 0, n, .inl (fillF n v f)))) H1 := by
    have hlq := (List.getElem?_eq_some_iff.mp he).1
    intro k q hk
    by_cases hkp : k = q0
    · subst hkp
      rw [List.getElem?_set_self hlq] at hk
      cases hk
      exact hP1 0 _ rfl
    · rw [List.getElem?_set_ne (Ne.symm hkp)] at hk
      refine (hP k q hk).kept (hk1 q.1 (hP k q hk).lt (fun h => ?_))
      rcases h with ⟨k2, e2, h⟩ | h
      · match k2, h with
        | 0, h => cases h; exact hkp (hD.1 k q0 q _ hk he rfl)
      · have := (hP k q hk).lt
        omega
  have hDn := hD.set (e := .inl (kA 0, n, .inl (fillF n v f))) he
  rw [hws] at hPn hDn
  exact kk u hf H1 locs1 ls hPn hDn hS1 hl
end
