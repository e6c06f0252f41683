/-! a sweep over the roads in an order -/
def swp (I : Nat) (o : Nat → Nat) (T : Nat → Nat → Bool) (E : Nat → Nat → Nat) (base : Nat → Nat) : Nat → Nat → Nat
  | 0, t => base t
  | k + 1, t => if T (o k) t = true then min (swp I o T E base k t) (ta I (swp I o T E base k (o k)) (E (o k) t)) else swp I o T E base k t
section SW
variable {I n : Nat} {o rk : Nat → Nat} {T : Nat → Nat → Bool} {E : Nat → Nat → Nat} {base : Nat → Nat}
theorem swp_s (k t : Nat) : swp I o T E base (k + 1) t ≤ swp I o T E base k t := by
  show (if T (o k) t = true then min (swp I o T E base k t) (ta I (swp I o T E base k (o k)) (E (o k) t)) else swp I o T E base k t) ≤ _
  split
  · exact Nat.min_le_left _ _
  · exact Nat.le_refl _
theorem swp_le {k m : Nat} (h : k ≤ m) (t : Nat) : swp I o T E base m t ≤ swp I o T E base k t := by
  induction m with
  | zero => rw [show k = 0 by omega]; exact Nat.le_refl _
  | succ m ih =>
    by_cases e : k = m + 1
    · rw [e]; exact Nat.le_refl _
    · exact Nat.le_trans (swp_s m t) (ih (by omega))
theorem swp_fix (h1 : ∀ k, k < n → o k < n ∧ rk (o k) = k) (h3 : ∀ x t, x < n → t < n → T x t = true → rk x < rk t) {t : Nat} (ht : t < n) : ∀ d k, k + d = n → rk t ≤ k → swp I o T E base n t = swp I o T E base k t
  | 0, k, h, _ => by rw [show k = n by omega]
  | d + 1, k, h, hk => by
    rw [swp_fix h1 h3 ht d (k + 1) (by omega) (by omega)]
    have hf : T (o k) t = false := Bool.eq_false_iff.mpr fun hh => by
      have := h3 (o k) t (h1 k (by omega)).1 ht hh
      rw [(h1 k (by omega)).2] at this
      omega
    exact if_neg (by rw [hf]; decide)
theorem swp_ok (h1 : ∀ k, k < n → o k < n ∧ rk (o k) = k) (h2 : ∀ t, t < n → rk t < n ∧ o (rk t) = t) (h3 : ∀ x t, x < n → t < n → T x t = true → rk x < rk t) :
    (∀ r, r < n → swp I o T E base n r ≤ base r) ∧ (∀ r x, r < n → x < n → T x r = true → swp I o T E base n r ≤ ta I (swp I o T E base n x) (E x r)) ∧ ∀ r, r < n → swp I o T E base n r = base r ∨ ∃ x, x < n ∧ T x r = true ∧ ta I (swp I o T E base n x) (E x r) ≤ swp I o T E base n r := by
  refine ⟨fun r _ => swp_le (k := 0) (Nat.zero_le n) r, fun r x hr hx hT => ?_, fun r hr => ?_⟩
  · have kx := h2 x hx
    have e : swp I o T E base (rk x + 1) r ≤ ta I (swp I o T E base (rk x) x) (E x r) := by
      show (if T (o (rk x)) r = true then min (swp I o T E base (rk x) r) (ta I (swp I o T E base (rk x) (o (rk x))) (E (o (rk x)) r)) else swp I o T E base (rk x) r) ≤ _
      rw [kx.2, if_pos hT]
      exact Nat.min_le_right _ _
    rw [swp_fix h1 h3 hx (n - rk x) (rk x) (by omega) (Nat.le_refl _)]
    exact Nat.le_trans (swp_le (show rk x + 1 ≤ n from kx.1) r) e
  · have key : ∀ k, k ≤ n → swp I o T E base k r = base r ∨ ∃ x, x < n ∧ T x r = true ∧ ta I (swp I o T E base n x) (E x r) ≤ swp I o T E base k r := by
      intro k
      induction k with
      | zero => intro _; exact Or.inl rfl
      | succ k ih =>
        intro hk
        have e : swp I o T E base (k + 1) r = if T (o k) r = true then min (swp I o T E base k r) (ta I (swp I o T E base k (o k)) (E (o k) r)) else swp I o T E base k r := rfl
        have ho := h1 k (by omega)
        by_cases hT : T (o k) r = true
        · rw [if_pos hT] at e
          by_cases hc : swp I o T E base k r ≤ ta I (swp I o T E base k (o k)) (E (o k) r)
          · rw [Nat.min_eq_left hc] at e
            rw [e]
            exact ih (by omega)
          · rw [Nat.min_eq_right (by omega)] at e
            right
            refine ⟨o k, ho.1, hT, ?_⟩
            rw [e, swp_fix h1 h3 ho.1 (n - k) k (by omega) (by rw [ho.2]; exact Nat.le_refl _)]
            exact Nat.le_refl _
        · rw [if_neg hT] at e
          rw [e]
          exact ih (by omega)
    exact key n (Nat.le_refl n)
theorem swp_I (hb : ∀ r, base r ≤ I) (k r : Nat) : swp I o T E base k r ≤ I := Nat.le_trans (swp_le (Nat.zero_le k) r) (hb r)
end SW
theorem Arcs.symm {I n : Nat} {s : Nat → Nat → Nat} {pos : Nat → Nat} {arc : Nat → Nat → Prop} {L : Nat → Nat → Nat} (h : Arcs I n s pos arc L) : Arcs I n (fun a b => s b a) pos (fun a b => arc b a) (fun a b => L b a) := by
  obtain ⟨a1, a2, a3, a4, a5, a6, a7⟩ := h
  refine ⟨fun a b ha hb hh => a1 b a hb ha hh, fun a b ha hb hh => a2 b a hb ha hh, fun a x b ha hx hb h1 h2 h3 h4 hne => ?_, fun a b ha hb hh => ?_, fun a b ha hb hh => (a5 b a hb ha hh).symm, a6, a7⟩
  · have k := a3 b x a hb hx ha h2 h1 h4 h3 hne.symm
    exact ⟨k.1, by show L b a ≤ ta I (L x a) (L b x); rw [ta_comm]; exact k.2⟩
  · rcases a4 b a hb ha hh with e | ⟨x, hx, k1, k2, k3, k4, k5⟩
    · exact Or.inl e
    · exact Or.inr ⟨x, hx, k2, k1, k4, k3, by show ta I (L x a) (L b x) ≤ L b a; rw [ta_comm]; exact k5⟩
/-! the class: lengths are passed on -/
def FrQ (u v : WS) : Prop := (∀ c, (c ≠ 5 ∧ c ≠ 17) → u.1 c = v.1 c) ∧ u.2 = v.2
theorem FrQ.rf (v : WS) : FrQ v v := ⟨fun _ _ => rfl, rfl⟩
theorem FrQ.trans {u v w : WS} (h : FrQ u v) (h2 : FrQ v w) : FrQ u w := ⟨fun c a => (h.1 c a).trans (h2.1 c a), h.2.trans h2.2⟩
theorem FrQ.i5 (v : WS) (j : Nat) (x : Int32) : FrQ (wI v 5 j x) v := ⟨fun c hc => wI_n hc.1, rfl⟩
theorem FrQ.i17 (v : WS) (j : Nat) (x : Int32) : FrQ (wI v 17 j x) v := ⟨fun c hc => wI_n hc.2, rfl⟩
theorem RCg.frQ {S : Nt} {u w : WS} (h : RCg S w) (f : FrQ u w) : RCg S u := h.same (f.1 2 (by decide)) (f.1 15 (by decide)) (f.1 16 (by decide)) (by rw [f.2]) (by rw [f.2]) (by rw [f.2])
theorem RCn.frQ {S : Nt} {u w : WS} (h : RCn S w) (f : FrQ u w) : RCn S u := h.same (f.1 1 (by decide)) (f.1 9 (by decide)) (f.1 10 (by decide)) (f.1 11 (by decide)) (f.1 12 (by decide)) (by rw [f.2]) (by rw [f.2]) (by rw [f.2])
/-- the row behind a road's pass over the positions from st to k - 1 -/
def psR (S : Nt) (R : Nat → Nat) (A : Nat → Bool) (rx : Nat) (E : Nat → Nat) (st k : Nat) : Nat → Nat := fun t => if st ≤ n_pos S t ∧ n_pos S t < k ∧ A t = true then min (R t) (ta 536870912 rx (E t)) else R t
def RowI (S : Nt) (R : Nat → Nat) (w : WS) : Prop := ∀ r, r < n_R S → w.1 5 r = nI (R r) ∧ R r ≤ 536870912
section PO
variable {S : Nt} {w : WS} {R : Nat → Nat}
theorem passOn_ok (hg : RCg S w) (hn : NtOK S) (hl : LnI S (n_L S) w) (hr : RowI S R w) {fu : Nat} (hf : 64 < fu) {x : Nat} (hx : x < n_R S) {st sp : Nat} (hst : st ≤ sp) (hsp : sp ≤ n_R S) : ∃ w', f_X0_passOn fu w (nI x) (nI st) (nI sp) = some w' ∧ FrQ w' w ∧ RowI S (psR S R (fun t => n_arc S x t) (R x) (fun t => n_L S x t) st sp) w' := by
  have hR := hn.2.1
  have hrx := hr x hx
  unfold f_X0_passOn
  rw [ck_t (in64 (by omega)), nm_e1, cl64 (by omega), hrx.1]
  by_cases hc : R x < 536870912
  · rw [if_pos (show nI (R x) < (536870912 : Int32) from nI_lt (b := 536870912) hc (by decide))]
    have key : ∃ w', iter (fun q : Int32 × WS => bd_X0_passOn_12 fu (nI x) (nI sp) q.1 q.2) fu (nI st, w) = some w' ∧ FrQ w' w ∧ RowI S (psR S R (fun t => n_arc S x t) (R x) (fun t => n_L S x t) st sp) w' := by
      refine iter_for (fun k (s : WS) => (nI k, s)) sp (fun k s => st ≤ k ∧ FrQ s w ∧ RowI S (psR S R (fun t => n_arc S x t) (R x) (fun t => n_L S x t) st k) s) (fun (w' : WS) => FrQ w' w ∧ RowI S (psR S R (fun t => n_arc S x t) (R x) (fun t => n_L S x t) st sp) w') ?_ ?_ (sp - st) st fu w (by omega) (by omega) ⟨Nat.le_refl _, FrQ.rf w, fun r hr2 => by unfold psR; rw [if_neg (by omega)]; exact hr r hr2⟩
      · intro k s hk ⟨i0, i1, i2⟩
        have hgs := hg.frQ i1
        have hy : n_ord S k < n_R S := ctO_lt (by omega)
        have hyp : n_pos S (n_ord S k) = k := n_pos_ord (by omega)
        have hin : ∀ t, t < n_R S → n_pos S t = k → t = n_ord S k := fun t ht e => ctR_inj ht hy (e.trans hyp.symm)
        show ∃ s', bd_X0_passOn_12 fu (nI x) (nI sp) (nI k) s = some (.inl (nI (k + 1), s')) ∧ _
        unfold bd_X0_passOn_12 f_X3_pair
        rw [if_neg (nI_ge hk (by omega)), ck_t (in64 (by omega)), nm_e1, cl64 (show k < 64 by omega), hgs.2.2.1 k (by omega), ck_t (in64 (by omega)), nm_e1, cl64 (show x < 64 by omega), has_ok fu _ (show n_ord S k < 64 by omega), bn_e, if_zo, hgs.2.2.2.2.1 x _ hx (show n_ord S k < 64 by omega), decide_eq_true hy, Bool.true_and]
        by_cases hbit : n_arc S x (n_ord S k) = true
        · have hne : n_ord S k ≠ x := fun e => arc_ne hn hx hy hbit e.symm
          have ek := i2 (n_ord S k) hy
          unfold psR at ek
          rw [if_neg (fun hh => by rw [hyp] at hh; omega)] at ek
          have ex := i2 x hx
          unfold psR at ex
          rw [if_neg (fun hh => arc_ne hn hx hx hh.2.2 rfl)] at ex
          have el := hl x (n_ord S k) hx hy hbit
          rw [← i1.1 20 (by decide)] at el
          rw [if_pos hbit, ck_t (in64 (by omega)), nm_e1, cl64 (show n_ord S k < 64 by omega), ck_t (in64 (by omega)), nm_e1, bn_e, ck_t (pr_in (by omega) (by omega)), nm_e1, pr_cl (by omega) (by omega), ck_t (in64 (by omega)), nm_e1, ek.1, ex.1, el.1, nI_add, min_nI (by omega) (by omega), nm_e1, nI_1]
          refine ⟨_, rfl, by omega, (FrQ.i5 s _ _).trans i1, fun t ht => ?_⟩
          rw [wI_at]
          by_cases e : t = n_ord S k
          · rw [if_pos ⟨rfl, e⟩]
            unfold psR
            rw [if_pos ⟨by rw [e, hyp]; exact i0, by rw [e, hyp]; omega, by rw [e]; exact hbit⟩, e]
            unfold ta
            dsimp only
            exact ⟨by congr 1; omega, by omega⟩
          · rw [if_neg (fun hh => e hh.2)]
            have k2 := i2 t ht
            have hpt : n_pos S t ≠ k := fun h => e (hin t ht h)
            unfold psR at k2 ⊢
            by_cases c : st ≤ n_pos S t ∧ n_pos S t < k ∧ n_arc S x t = true
            · rw [if_pos c] at k2
              rw [if_pos ⟨c.1, by omega, c.2.2⟩]
              exact k2
            · rw [if_neg c] at k2
              rw [if_neg (fun hh => c ⟨hh.1, by have := hh.2.1; omega, hh.2.2⟩)]
              exact k2
        · rw [if_neg hbit, nm_e1, nI_1]
          refine ⟨s, rfl, by omega, i1, fun t ht => ?_⟩
          have k2 := i2 t ht
          unfold psR at k2 ⊢
          by_cases c : st ≤ n_pos S t ∧ n_pos S t < k ∧ n_arc S x t = true
          · rw [if_pos c] at k2
            rw [if_pos ⟨c.1, by omega, c.2.2⟩]
            exact k2
          · rw [if_neg c] at k2
            rw [if_neg (fun hh => c ⟨hh.1, by
              have hpt : n_pos S t ≠ k := fun h => by
                have := hin t ht h
                subst this
                exact hbit hh.2.2
              have := hh.2.1
              omega, hh.2.2⟩)]
            exact k2
      · intro s ⟨i0, i1, i2⟩
        refine ⟨s, ?_, i1, i2⟩
        show bd_X0_passOn_12 fu (nI x) (nI sp) (nI sp) s = _
        unfold bd_X0_passOn_12
        rw [if_pos (nI_le (Nat.le_refl _) (by omega))]
    obtain ⟨w', e, k⟩ := key
    refine ⟨w', ?_, k⟩
    rw [e, bn_e]
  · rw [if_neg (show ¬ nI (R x) < (536870912 : Int32) from nI_nlt (b := 536870912) (by omega) (by omega))]
    refine ⟨w, rfl, FrQ.rf w, fun t ht => ?_⟩
    have k := hr t ht
    unfold psR
    by_cases c : st ≤ n_pos S t ∧ n_pos S t < sp ∧ n_arc S x t = true
    · rw [if_pos c, Nat.min_eq_left (by unfold ta; omega)]
      exact k
    · rw [if_neg c]
      exact k
end PO
