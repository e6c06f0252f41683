/-! the class: build, the turns -/
theorem cn_cut {f : Nat → Bool} {n : Nat} : ∀ m, n ≤ m → cn (fun i => decide (i < n) && f i) m = cn f n
  | 0, h => by
    have e : n = 0 := by omega
    subst e
    rfl
  | m + 1, h => by
    by_cases e : n = m + 1
    · subst e
      refine cn_congr (m + 1) fun i hi => ?_
      rw [decide_eq_true hi, Bool.true_and]
    · have ih := cn_cut (f := f) m (show n ≤ m by omega)
      show cn (fun i => decide (i < n) && f i) m + (if (decide (m < n) && f m) = true then 1 else 0) = cn f n
      rw [ih, decide_eq_false (by omega)]
      simp
theorem count_ok (fu : Nat) (X : Int64) {n : Nat} {f : Nat → Bool} (hn : n ≤ 64) (h : ∀ i, i < 64 → bL X i = (decide (i < n) && f i)) : f_J13_bitCount_95d88 fu X = some (nI (cn f n)) := by
  rw [bitCount_ok, cn_congr 64 h, cn_cut 64 hn]
/-- the cells that build writes -/
def FrBd (u v : WS) : Prop := (∀ c, c ≠ 2 → c ≠ 15 → c ≠ 16 → c ≠ 20 → c ≠ 21 → u.1 c = v.1 c) ∧ (∀ j, j ≠ 1 → j ≠ 2 → j ≠ 3 → j ≠ 4 → u.1 2 j = v.1 2 j) ∧ ∀ c, c ≠ 17 → c ≠ 18 → c ≠ 19 → c ≠ 22 → c ≠ 23 → u.2 c = v.2 c
theorem FrBd.rf (v : WS) : FrBd v v := ⟨fun _ _ _ _ _ _ => rfl, fun _ _ _ _ _ => rfl, fun _ _ _ _ _ _ => rfl⟩
theorem FrBd.trans {u v w : WS} (h : FrBd u v) (h2 : FrBd v w) : FrBd u w := ⟨fun c a b d e f => (h.1 c a b d e f).trans (h2.1 c a b d e f), fun j a b d e => (h.2.1 j a b d e).trans (h2.2.1 j a b d e), fun c a b d e f => (h.2.2 c a b d e f).trans (h2.2.2 c a b d e f)⟩
theorem FrBd.i2 (v : WS) (j : Nat) (x : Int32) (hj : j = 1 ∨ j = 2 ∨ j = 3 ∨ j = 4) : FrBd (wI v 2 j x) v := ⟨fun c h2 _ _ _ _ => wI_n h2, fun i a b c d => by rw [wI_at, if_neg (fun hh => by omega)], fun _ _ _ _ _ _ => rfl⟩
theorem FrBd.iA (v : WS) (c0 j : Nat) (x : Int32) (hc : c0 = 15 ∨ c0 = 16) : FrBd (wI v c0 j x) v := ⟨fun c _ h15 h16 _ _ => wI_n (by omega), fun i _ _ _ _ => by rw [wI_n (by omega)], fun _ _ _ _ _ _ => rfl⟩
theorem FrBd.lA (v : WS) (c0 j : Nat) (x : Int64) (hc : c0 = 17 ∨ c0 = 18 ∨ c0 = 19) : FrBd (wL v c0 j x) v := ⟨fun _ _ _ _ _ _ => rfl, fun _ _ _ _ _ => rfl, fun c _ _ _ _ _ => wL_n (by omega)⟩
theorem FrN.toBd {u v : WS} (h : FrN u v) : FrBd u v := ⟨fun c _ _ _ h20 h21 => h.1 c h20 h21, fun j _ _ _ _ => by rw [h.1 2 (by decide) (by decide)], fun c _ _ _ h22 h23 => h.2 c h22 h23⟩
theorem RCn.frBd {S : Nt} {u w : WS} (h : RCn S w) (f : FrBd u w) : RCn S u := h.same (f.1 1 (by decide) (by decide) (by decide) (by decide) (by decide)) (f.1 9 (by decide) (by decide) (by decide) (by decide) (by decide)) (f.1 10 (by decide) (by decide) (by decide) (by decide) (by decide)) (f.1 11 (by decide) (by decide) (by decide) (by decide) (by decide)) (f.1 12 (by decide) (by decide) (by decide) (by decide) (by decide)) (f.2.2 13 (by decide) (by decide) (by decide) (by decide) (by decide)) (f.2.2 14 (by decide) (by decide) (by decide) (by decide) (by decide)) (f.2.2 1 (by decide) (by decide) (by decide) (by decide) (by decide))
/-- heads and tails of the arcs A -/
def HT (S : Nt) (A : Nat → Nat → Bool) (w : WS) : Prop := ∀ r i, r < n_R S → i < 64 → bL (w.2 18 r) i = (decide (i < n_R S) && A r i) ∧ bL (w.2 19 r) i = (decide (i < n_R S) && A i r)
section BL
variable {S : Nt} {w : WS}
theorem link_ok (h : RCn S w) (hn : NtOK S) (h2 : w.1 2 2 = nI (n_R S)) {fu : Nat} (hf : 64 < fu) : ∃ w', f_X0_linkTurns fu w = some (nI (cn2 (n_fol S) (n_R S) (n_R S)), w') ∧ FrBd w' w ∧ w'.1 = w.1 ∧ (∀ c, c ≠ 18 → c ≠ 19 → w'.2 c = w.2 c) ∧ HT S (n_fol S) w' := by
  have hR := hn.2.1
  have key : ∃ r : Int32 × WS, iter (fun q : Int32 × Int32 × WS => bd_X0_linkTurns_4 fu q.1 q.2.1 q.2.2) fu ((0 : Int32), (0 : Int32), w) = some r ∧ r.1 = nI (cn2 (n_fol S) (n_R S) (n_R S)) ∧ FrBd r.2 w ∧ r.2.1 = w.1 ∧ (∀ c, c ≠ 18 → c ≠ 19 → r.2.2 c = w.2 c) ∧ HT S (n_fol S) r.2 := by
    refine iter_for0 (fun k (s : WS) => (nI (cn2 (n_fol S) (n_R S) k), nI k, s)) (n_R S) (fun k s => FrBd s w ∧ s.1 = w.1 ∧ (∀ c, c ≠ 18 → c ≠ 19 → s.2 c = w.2 c) ∧ ∀ r i, r < k → i < 64 → bL (s.2 18 r) i = (decide (i < n_R S) && n_fol S r i) ∧ bL (s.2 19 r) i = (decide (i < n_R S) && n_fol S i r)) (fun (r : Int32 × WS) => r.1 = nI (cn2 (n_fol S) (n_R S) (n_R S)) ∧ FrBd r.2 w ∧ r.2.1 = w.1 ∧ (∀ c, c ≠ 18 → c ≠ 19 → r.2.2 c = w.2 c) ∧ HT S (n_fol S) r.2) ?_ ?_ (by omega) w ⟨FrBd.rf w, rfl, fun _ _ _ => rfl, fun r i hr _ => absurd hr (Nat.not_lt_zero r)⟩
    · intro k s hk ⟨i0, i1, i2, i3⟩
      have hs := h.frBd i0
      obtain ⟨X1, e1, b1⟩ := folSet hs hn fu hk
      obtain ⟨X2, e2, b2⟩ := forSet (hs.frBd (FrBd.lA s 18 k X1 (by decide))) hn fu hk
      refine ⟨wL (wL s 18 k X1) 19 k X2, ?_, (FrBd.lA _ 19 k X2 (by decide)).trans ((FrBd.lA s 18 k X1 (by decide)).trans i0), i1, fun c c18 c19 => by rw [wL_n c19, wL_n c18]; exact i2 c c18 c19, fun r i hr hi => ?_⟩
      · show bd_X0_linkTurns_4 fu (nI (cn2 (n_fol S) (n_R S) k)) (nI k) s = _
        unfold bd_X0_linkTurns_4
        rw [nm_e1, show s.1 2 2 = nI (n_R S) by rw [i1]; exact h2, if_neg (nI_ge hk (by omega)), e1, bn_e, ck_t (in64 (by omega)), nm_e1, cl64 (by omega), e2, bn_e, ck_t (in64 (by omega)), nm_e1, ck_t (in64 (by omega)), nm_e1, wL_n (show (18 : Nat) ≠ 19 by decide), wL_s2, if_pos rfl, count_ok fu X1 hR b1, bn_e, nm_e1, nm_e1, nI_add, nI_1]
        rfl
      · rw [wL_n (show (18 : Nat) ≠ 19 by decide), wL_s2, wL_s2]
        by_cases e : r = k
        · rw [if_pos e, if_pos e, e]
          exact ⟨b1 i hi, b2 i hi⟩
        · rw [if_neg e, if_neg e, wL_n (show (19 : Nat) ≠ 18 by decide)]
          exact i3 r i (by omega) hi
    · intro s ⟨i0, i1, i2, i3⟩
      refine ⟨(nI (cn2 (n_fol S) (n_R S) (n_R S)), s), ?_, rfl, i0, i1, i2, i3⟩
      show bd_X0_linkTurns_4 fu _ (nI (n_R S)) s = _
      unfold bd_X0_linkTurns_4
      rw [nm_e1, show s.1 2 2 = nI (n_R S) by rw [i1]; exact h2, if_pos (nI_le (Nat.le_refl _) (by omega))]
  obtain ⟨r, e, r1, r2⟩ := key
  refine ⟨r.2, ?_, r2⟩
  unfold f_X0_linkTurns
  rw [e, bn2_s, r1]
/-! the road to take next -/
def bstC (w : Nat → Nat) (q : Nat → Bool) (k : Nat) : Int32 × Int32 := match bst w q k with
  | none => (0, 536870912)
  | some b => (nI b, nI (w b))
theorem cheapest_ok (h2 : w.1 2 2 = nI (n_R S)) (hn : NtOK S) {p : Nat} (hp : p < n_R S) (hH : HT S (ctA (n_R S) (n_fol S) p) w) (L : Int64) (hL : ∀ i, i < 64 → bL L i = ctL (n_R S) (n_fol S) p i) {fu : Nat} (hf : 64 < fu) : f_X0_cheapest fu w L = some (nI (n_ord S p)) := by
  have hR := hn.2.1
  have key : ∃ r, iter (fun q : Int32 × Int32 × Int32 => bd_X0_cheapest_9 fu w L q.1 q.2.1 q.2.2) fu ((0 : Int32), (536870912 : Int32), (0 : Int32)) = some r ∧ r = (bstC (ctW (n_R S) (ct (n_R S) (n_fol S) p)) (ctL (n_R S) (n_fol S) p) (n_R S)).1 := by
    refine iter_for0 (fun j (s : Int32 × Int32) => (s.1, s.2, nI j)) (n_R S) (fun j s => s = bstC (ctW (n_R S) (ct (n_R S) (n_fol S) p)) (ctL (n_R S) (n_fol S) p) j) (fun (r : Int32) => r = (bstC (ctW (n_R S) (ct (n_R S) (n_fol S) p)) (ctL (n_R S) (n_fol S) p) (n_R S)).1) ?_ ?_ (by omega) (0, 536870912) rfl
    · intro j s hj hI
      refine ⟨bstC (ctW (n_R S) (ct (n_R S) (n_fol S) p)) (ctL (n_R S) (n_fol S) p) (j + 1), ?_, rfl⟩
      show bd_X0_cheapest_9 fu w L s.1 s.2 (nI j) = _
      have hw := ctW_le (ct (n_R S) (n_fol S) p) hR j
      have c1 := count_ok fu (w.2 19 j &&& L) (n := n_R S) (f := fun u => ctL (n_R S) (n_fol S) p u && ctA (n_R S) (n_fol S) p u j) hR (fun i hi => by
        rw [bL_and, (hH j i hj hi).2, hL i hi, Bool.and_assoc]
        congr 1
        exact Bool.and_comm _ _)
      have c2 := count_ok fu (w.2 18 j &&& L) (n := n_R S) (f := fun u => ctL (n_R S) (n_fol S) p u && ctA (n_R S) (n_fol S) p j u) hR (fun i hi => by
        rw [bL_and, (hH j i hj hi).1, hL i hi, Bool.and_assoc]
        congr 1
        exact Bool.and_comm _ _)
      have eW : nI (cn (fun u => ctL (n_R S) (n_fol S) p u && ctA (n_R S) (n_fol S) p u j) (n_R S)) * nI (cn (fun u => ctL (n_R S) (n_fol S) p u && ctA (n_R S) (n_fol S) p j u) (n_R S)) = nI (ctW (n_R S) (ct (n_R S) (n_fol S) p) j) := pk_mul _ _
      unfold bd_X0_cheapest_9
      rw [nm_e1, h2, if_neg (nI_ge hj (by omega)), has_ok fu L (show j < 64 by omega), bn_e, hL j (by omega), if_zo]
      by_cases e : ctL (n_R S) (n_fol S) p j = true
      · rw [if_pos e, ck_t (in64 (by omega)), nm_e1, cl64 (by omega), c1, bn_e, ck_t (in64 (by omega)), nm_e1, c2, bn_e, eW]
        unfold bstC at hI ⊢
        cases hb : bst (ctW (n_R S) (ct (n_R S) (n_fol S) p)) (ctL (n_R S) (n_fol S) p) j with
        | none =>
          rw [hb] at hI
          rw [hI, bst_sN hb e]
          show (if (536870912 : Int32) ≤ nI (ctW (n_R S) (ct (n_R S) (n_fol S) p) j) then _ else _) = _
          rw [if_neg (show ¬ (536870912 : Int32) ≤ nI (ctW (n_R S) (ct (n_R S) (n_fol S) p) j) from nI_ge (b := 536870912) (by omega) (by decide)), nm_e1, nm_e1, nI_1]
        | some b =>
          rw [hb] at hI
          have hwb := ctW_le (ct (n_R S) (n_fol S) p) hR b
          rw [hI]
          show (if nI (ctW (n_R S) (ct (n_R S) (n_fol S) p) b) ≤ nI (ctW (n_R S) (ct (n_R S) (n_fol S) p) j) then _ else _) = _
          by_cases hlt : ctW (n_R S) (ct (n_R S) (n_fol S) p) j < ctW (n_R S) (ct (n_R S) (n_fol S) p) b
          · rw [if_neg (nI_ge hlt (by omega)), bst_sL hb e hlt, nm_e1, nm_e1, nI_1]
          · rw [if_pos (nI_le (by omega) (by omega)), bst_sG hb hlt, nm_e1, nI_1]
      · rw [if_neg e, nm_e1, nI_1, hI]
        unfold bstC
        rw [bst_sF (Bool.eq_false_iff.mpr e)]
    · intro s hI
      refine ⟨s.1, ?_, by rw [hI]⟩
      show bd_X0_cheapest_9 fu w L s.1 s.2 (nI (n_R S)) = _
      unfold bd_X0_cheapest_9
      rw [nm_e1, h2, if_pos (nI_le (Nat.le_refl _) (by omega))]
  obtain ⟨r, e, rfl⟩ := key
  unfold f_X0_cheapest
  rw [e, bn_e]
  congr 1
  show (bstC (ctW (n_R S) (ct (n_R S) (n_fol S) p)) (ctL (n_R S) (n_fol S) p) (n_R S)).1 = nI ((bst (ctW (n_R S) (ct (n_R S) (n_fol S) p)) (ct (n_R S) (n_fol S) p).2 (n_R S)).getD 0)
  unfold bstC
  cases bst (ctW (n_R S) (ct (n_R S) (n_fol S) p)) (ctL (n_R S) (n_fol S) p) (n_R S) with
  | none => exact nI_0.symm
  | some b => rfl
/-! shortcuts over a road -/
theorem bridge_ok (h2 : w.1 2 2 = nI (n_R S)) (hn : NtOK S) {p : Nat} (hp : p < n_R S) (hH : HT S (ctA (n_R S) (n_fol S) p) w) (F G : Int64) (hF : ∀ i, i < 64 → bL F i = (ctL (n_R S) (n_fol S) (p + 1) i && ctA (n_R S) (n_fol S) p i (n_ord S p))) (hG : ∀ i, i < 64 → bL G i = (ctL (n_R S) (n_fol S) (p + 1) i && ctA (n_R S) (n_fol S) p (n_ord S p) i)) {fu : Nat} (hf : 64 < fu) : ∃ w', f_X0_bridge fu w F G = some w' ∧ FrBd w' w ∧ w'.1 = w.1 ∧ (∀ c, c ≠ 18 → c ≠ 19 → w'.2 c = w.2 c) ∧ HT S (ctA (n_R S) (n_fol S) (p + 1)) w' := by
  have hR := hn.2.1
  have es : ∀ a b, ctA (n_R S) (n_fol S) (p + 1) a b = (ctA (n_R S) (n_fol S) p a b || (!(a == b) && ctL (n_R S) (n_fol S) (p + 1) a && ctL (n_R S) (n_fol S) (p + 1) b && ctA (n_R S) (n_fol S) p a (n_ord S p) && ctA (n_R S) (n_fol S) p (n_ord S p) b)) := fun a b => ctA_s p a b
  have bo : ∀ r i, r < 64 → i < 64 → bL (((1 : Int64) <<< ((nI r).toInt64 &&& 63)) ^^^ (-1)) i = !(r == i) := fun r i hr hi => by
    rw [bL_not _ hi, bL_one hr]
    congr 1
    by_cases e : i = r
    · rw [e]; simp
    · rw [decide_eq_false e]
      have : (r == i) = false := by simpa using fun h : r = i => e h.symm
      rw [this]
  have key : ∃ r : WS, iter (fun q : Int32 × WS => bd_X0_bridge_3 fu F G q.1 q.2) fu ((0 : Int32), w) = some r ∧ FrBd r w ∧ r.1 = w.1 ∧ (∀ c, c ≠ 18 → c ≠ 19 → r.2 c = w.2 c) ∧ HT S (ctA (n_R S) (n_fol S) (p + 1)) r := by
    refine iter_for0 (fun k (s : WS) => (nI k, s)) (n_R S) (fun k s => FrBd s w ∧ s.1 = w.1 ∧ (∀ c, c ≠ 18 → c ≠ 19 → s.2 c = w.2 c) ∧ ∀ r i, r < n_R S → i < 64 → bL (s.2 18 r) i = (decide (i < n_R S) && if r < k then ctA (n_R S) (n_fol S) (p + 1) r i else ctA (n_R S) (n_fol S) p r i) ∧ bL (s.2 19 r) i = (decide (i < n_R S) && if r < k then ctA (n_R S) (n_fol S) (p + 1) i r else ctA (n_R S) (n_fol S) p i r)) (fun (r : WS) => FrBd r w ∧ r.1 = w.1 ∧ (∀ c, c ≠ 18 → c ≠ 19 → r.2 c = w.2 c) ∧ HT S (ctA (n_R S) (n_fol S) (p + 1)) r) ?_ ?_ (by omega) w ⟨FrBd.rf w, rfl, fun _ _ _ => rfl, fun r i hr hi => by rw [if_neg (Nat.not_lt_zero r), if_neg (Nat.not_lt_zero r)]; exact hH r i hr hi⟩
    · intro k s hk ⟨i0, i1, i2, i3⟩
      have hnext : ∀ s' : WS, FrBd s' s → s'.1 = s.1 → (∀ c, c ≠ 18 → c ≠ 19 → s'.2 c = s.2 c) → (∀ r, r ≠ k → s'.2 18 r = s.2 18 r ∧ s'.2 19 r = s.2 19 r) → (∀ i, i < 64 → bL (s'.2 18 k) i = (bL (s.2 18 k) i || (bL F k && bL G i && !(k == i))) ∧ bL (s'.2 19 k) i = (bL (s.2 19 k) i || (bL G k && bL F i && !(k == i)))) → FrBd s' w ∧ s'.1 = w.1 ∧ (∀ c, c ≠ 18 → c ≠ 19 → s'.2 c = w.2 c) ∧ ∀ r i, r < n_R S → i < 64 → bL (s'.2 18 r) i = (decide (i < n_R S) && if r < k + 1 then ctA (n_R S) (n_fol S) (p + 1) r i else ctA (n_R S) (n_fol S) p r i) ∧ bL (s'.2 19 r) i = (decide (i < n_R S) && if r < k + 1 then ctA (n_R S) (n_fol S) (p + 1) i r else ctA (n_R S) (n_fol S) p i r) := by
        intro s' f1 f2 f3 f4 f5
        refine ⟨f1.trans i0, f2.trans i1, fun c a b => (f3 c a b).trans (i2 c a b), fun r i hr hi => ?_⟩
        have k3 := i3 r i hr hi
        by_cases e : r = k
        · subst e
          have k5 := f5 i hi
          rw [if_neg (Nat.lt_irrefl r), if_neg (Nat.lt_irrefl r)] at k3
          rw [if_pos (Nat.lt_succ_self r), if_pos (Nat.lt_succ_self r), k5.1, k5.2, k3.1, k3.2, es r i, es i r, hF r (by omega), hG i hi, hG r (by omega), hF i hi]
          by_cases hi2 : i < n_R S
          · have sy : (i == r) = (r == i) := by
              by_cases e2 : i = r
              · rw [e2]
              · rw [show (i == r) = false by simpa using e2, show (r == i) = false by simpa using fun h : r = i => e2 h.symm]
            rw [decide_eq_true hi2, sy]
            constructor
            · cases ctA (n_R S) (n_fol S) p r i <;> cases (r == i) <;> cases ctL (n_R S) (n_fol S) (p + 1) r <;> cases ctL (n_R S) (n_fol S) (p + 1) i <;> cases ctA (n_R S) (n_fol S) p r (n_ord S p) <;> cases ctA (n_R S) (n_fol S) p (n_ord S p) i <;> rfl
            · cases ctA (n_R S) (n_fol S) p i r <;> cases (r == i) <;> cases ctL (n_R S) (n_fol S) (p + 1) r <;> cases ctL (n_R S) (n_fol S) (p + 1) i <;> cases ctA (n_R S) (n_fol S) p i (n_ord S p) <;> cases ctA (n_R S) (n_fol S) p (n_ord S p) r <;> rfl
          · have hl : ctL (n_R S) (n_fol S) (p + 1) i = false := Bool.eq_false_iff.mpr fun hh => hi2 (ctL_lt _ i hh)
            rw [decide_eq_false hi2, hl]
            constructor
            · cases ctL (n_R S) (n_fol S) (p + 1) r <;> cases ctA (n_R S) (n_fol S) p r (n_ord S p) <;> rfl
            · cases ctL (n_R S) (n_fol S) (p + 1) r <;> cases ctA (n_R S) (n_fol S) p (n_ord S p) r <;> rfl
        · have k4 := f4 r e
          rw [k4.1, k4.2]
          by_cases c : r < k
          · rw [if_pos c, if_pos c] at k3
            rw [if_pos (show r < k + 1 by omega), if_pos (show r < k + 1 by omega)]
            exact k3
          · rw [if_neg c, if_neg c] at k3
            rw [if_neg (show ¬ r < k + 1 by omega), if_neg (show ¬ r < k + 1 by omega)]
            exact k3
      show ∃ s', bd_X0_bridge_3 fu F G (nI k) s = some (.inl (nI (k + 1), s')) ∧ _
      unfold bd_X0_bridge_3
      simp only [nm_e1, ck_t (in64 (show k < 64 by omega)), cl64 (show k < 64 by omega), only_ok, bn_e, has_ok fu F (show k < 64 by omega), has_ok fu G (show k < 64 by omega), if_zo, nI_1]
      rw [show s.1 2 2 = nI (n_R S) by rw [i1]; exact h2, if_neg (nI_ge hk (by omega))]
      by_cases cF : bL F k = true
      · rw [if_pos cF]
        by_cases cG : bL G k = true
        · rw [if_pos cG]
          refine ⟨_, rfl, hnext _ ((FrBd.lA _ 19 k _ (by decide)).trans (FrBd.lA s 18 k _ (by decide))) rfl (fun c a b => by rw [wL_n b, wL_n a]) (fun r hr => ?_) (fun i hi => ?_)⟩
          · rw [wL_n (show (18 : Nat) ≠ 19 by decide), wL_s2, wL_s2, if_neg hr, if_neg hr, wL_n (show (19 : Nat) ≠ 18 by decide)]
            exact ⟨rfl, rfl⟩
          · rw [wL_n (show (18 : Nat) ≠ 19 by decide), wL_s2, wL_s2, if_pos rfl, if_pos rfl, wL_n (show (19 : Nat) ≠ 18 by decide), bL_or, bL_or, bL_and, bL_and, bo k i (by omega) hi, cF, cG]
            exact ⟨rfl, rfl⟩
        · rw [if_neg cG]
          refine ⟨_, rfl, hnext _ (FrBd.lA s 18 k _ (by decide)) rfl (fun c a b => by rw [wL_n a]) (fun r hr => ?_) (fun i hi => ?_)⟩
          · rw [wL_s2, if_neg hr, wL_n (show (19 : Nat) ≠ 18 by decide)]
            exact ⟨rfl, rfl⟩
          · rw [wL_s2, if_pos rfl, wL_n (show (19 : Nat) ≠ 18 by decide), bL_or, bL_and, bo k i (by omega) hi, cF, Bool.eq_false_iff.mpr cG]
            simp
      · rw [if_neg cF]
        by_cases cG : bL G k = true
        · rw [if_pos cG]
          refine ⟨_, rfl, hnext _ (FrBd.lA s 19 k _ (by decide)) rfl (fun c a b => by rw [wL_n b]) (fun r hr => ?_) (fun i hi => ?_)⟩
          · rw [wL_s2, if_neg hr, wL_n (show (18 : Nat) ≠ 19 by decide)]
            exact ⟨rfl, rfl⟩
          · rw [wL_s2, if_pos rfl, wL_n (show (18 : Nat) ≠ 19 by decide), bL_or, bL_and, bo k i (by omega) hi, cG, Bool.eq_false_iff.mpr cF]
            simp
        · rw [if_neg cG]
          refine ⟨_, rfl, hnext _ (FrBd.rf s) rfl (fun _ _ _ => rfl) (fun _ _ => ⟨rfl, rfl⟩) (fun i hi => ?_)⟩
          rw [Bool.eq_false_iff.mpr cF, Bool.eq_false_iff.mpr cG]
          simp
    · intro s ⟨i0, i1, i2, i3⟩
      refine ⟨s, ?_, i0, i1, i2, fun r i hr hi => ?_⟩
      · show bd_X0_bridge_3 fu F G (nI (n_R S)) s = _
        unfold bd_X0_bridge_3
        rw [nm_e1, show s.1 2 2 = nI (n_R S) by rw [i1]; exact h2, if_pos (nI_le (Nat.le_refl _) (by omega))]
      · have k3 := i3 r i hr hi
        rw [if_pos hr, if_pos hr] at k3
        exact k3
  obtain ⟨r, e, k⟩ := key
  refine ⟨r, ?_, k⟩
  unfold f_X0_bridge
  rw [e, bn_e]
end BL
