/-! the class: the two sweeps -/
theorem RowI.congr {S : Nt} {R R2 : Nat → Nat} {w : WS} (h : RowI S R w) (e : ∀ r, r < n_R S → R2 r = R r) : RowI S R2 w := fun r hr => by
  rw [e r hr]
  exact h r hr
theorem i_m1 (x : Int32) : x - 1 = x + (-1) := Int32.sub_eq_add_neg x 1
def upT (S : Nt) (arc : Nat → Nat → Bool) : Nat → Nat → Bool := fun x t => arc x t && decide (n_pos S x < n_pos S t)
def dnT (S : Nt) (arc : Nat → Nat → Bool) : Nat → Nat → Bool := fun x t => arc x t && decide (n_pos S t < n_pos S x)
def dnO (S : Nt) (k : Nat) : Nat := n_ord S (n_R S - 1 - k)
section SP
variable {S : Nt} {w : WS} {base : Nat → Nat}
theorem swp_psR {o : Nat → Nat} {T : Nat → Nat → Bool} {E : Nat → Nat → Nat} {k : Nat} {X : Int64} (hR : n_R S ≤ 64) (hX : ∀ t, t < n_R S → bL X t = T (o k) t) {t : Nat} (ht : t < n_R S) : swp 536870912 o T E base (k + 1) t = psR (swp 536870912 o T E base k) X (swp 536870912 o T E base k (o k)) (fun t => E (o k) t) 64 t := by
  show (if T (o k) t = true then min (swp 536870912 o T E base k t) (ta 536870912 (swp 536870912 o T E base k (o k)) (E (o k) t)) else swp 536870912 o T E base k t) = _
  unfold psR
  by_cases c : T (o k) t = true
  · rw [if_pos c, if_pos ⟨by omega, by rw [hX t ht]; exact c⟩]
  · rw [if_neg c, if_neg (fun hh => c (by rw [← hX t ht]; exact hh.2))]
theorem up_bits (hn : NtOK S) {A : Nat → Nat → Bool} (hA : ∀ a b, a < n_R S → b < n_R S → A a b = true → a ≠ b) {x t : Nat} (hx : x < n_R S) (ht : t < n_R S) : (decide (t < n_R S) && A x t && !(decide (t < n_R S) && decide (n_pos S t < n_pos S x))) = upT S A x t := by
  unfold upT
  rw [decide_eq_true ht, Bool.true_and, Bool.true_and]
  by_cases c : A x t = true
  · have := pos_ne hn hx ht (hA x t hx ht c)
    rw [c, Bool.true_and, Bool.true_and]
    by_cases c2 : n_pos S t < n_pos S x
    · rw [decide_eq_true c2, decide_eq_false (by omega)]; rfl
    · rw [decide_eq_false c2, decide_eq_true (by omega)]; rfl
  · rw [Bool.eq_false_iff.mpr c]; rfl
theorem dn_bits {A : Nat → Nat → Bool} {x t : Nat} (ht : t < n_R S) : (decide (t < n_R S) && A x t && (decide (t < n_R S) && decide (n_pos S t < n_pos S x))) = dnT S A x t := by
  unfold dnT
  rw [decide_eq_true ht, Bool.true_and, Bool.true_and]
/-- both sweeps, over arcs A with lengths E, do what sweep_bell wants -/
theorem two_sweeps (hn : NtOK S) {A : Nat → Nat → Bool} {E : Nat → Nat → Nat} (hA : ∀ a b, a < n_R S → b < n_R S → A a b = true → a ≠ b) : Sweep 536870912 (n_R S) (n_pos S) (fun a b => A b a = true) (fun a b => E b a) base (swp 536870912 (n_ord S) (upT S A) E base (n_R S)) (swp 536870912 (dnO S) (dnT S A) E (swp 536870912 (n_ord S) (upT S A) E base (n_R S)) (n_R S)) := by
  have u := swp_ok (I := 536870912) (n := n_R S) (o := n_ord S) (rk := n_pos S) (T := upT S A) (E := E) (base := base) (fun k hk => ⟨ctO_lt hk, n_pos_ord hk⟩) (fun t ht => ⟨n_pos_lt ht, n_ord_pos ht⟩) (fun x t _ _ hT => by
    unfold upT at hT
    simp only [Bool.and_eq_true, decide_eq_true_eq] at hT
    exact hT.2)
  have d := swp_ok (I := 536870912) (n := n_R S) (o := dnO S) (rk := fun t => n_R S - 1 - n_pos S t) (T := dnT S A) (E := E) (base := swp 536870912 (n_ord S) (upT S A) E base (n_R S)) (fun k hk => by
    have h1 : n_R S - 1 - k < n_R S := by omega
    refine ⟨ctO_lt h1, ?_⟩
    show n_R S - 1 - n_pos S (n_ord S (n_R S - 1 - k)) = k
    rw [n_pos_ord h1]
    omega) (fun t ht => by
    have := n_pos_lt ht
    refine ⟨by omega, ?_⟩
    show n_ord S (n_R S - 1 - (n_R S - 1 - n_pos S t)) = t
    rw [show n_R S - 1 - (n_R S - 1 - n_pos S t) = n_pos S t by omega]
    exact n_ord_pos ht) (fun x t hx ht hT => by
    unfold dnT at hT
    simp only [Bool.and_eq_true, decide_eq_true_eq] at hT
    have := n_pos_lt hx
    show n_R S - 1 - n_pos S x < n_R S - 1 - n_pos S t
    omega)
  refine ⟨u.1, fun r v hr hv h1 h2 => ?_, fun r hr => ?_, d.1, fun r v hr hv h1 h2 => ?_, fun r hr => ?_⟩
  · have k := u.2.1 r v hr hv (by unfold upT; rw [h1, decide_eq_true h2]; rfl)
    rw [ta_comm]
    exact k
  · rcases u.2.2 r hr with e | ⟨x, hx, hT, e⟩
    · exact Or.inl e
    · unfold upT at hT
      simp only [Bool.and_eq_true, decide_eq_true_eq] at hT
      exact Or.inr ⟨x, hx, hT.1, hT.2, by rw [ta_comm]; exact e⟩
  · have k := d.2.1 r v hr hv (by unfold dnT; rw [h1, decide_eq_true h2]; rfl)
    rw [ta_comm]
    exact k
  · rcases d.2.2 r hr with e | ⟨x, hx, hT, e⟩
    · exact Or.inl e
    · unfold dnT at hT
      simp only [Bool.and_eq_true, decide_eq_true_eq] at hT
      exact Or.inr ⟨x, hx, hT.1, hT.2, by rw [ta_comm]; exact e⟩
theorem forward_ok (hg : RCg S w) (hn : NtOK S) (hl : LnI S (n_L S) w) (hr : RowI S base w) {fu : Nat} (hf : 64 < fu) : ∃ w' Y, f_X0_spreadForward fu w = some w' ∧ FrQ w' w ∧ RowI S Y w' ∧ Bell 536870912 (n_R S) (fun a b => s1 S b a) base Y := by
  have hR := hn.2.1
  have hA := arcs_ok hn
  have hne : ∀ a b, a < n_R S → b < n_R S → n_arc S a b = true → a ≠ b := fun a b ha hb h => arc_ne hn ha hb h
  have l1 : ∃ w1, iter (fun q : Int32 × WS => bd_X0_spreadForward_2 fu q.1 q.2) fu ((0 : Int32), w) = some w1 ∧ FrQ w1 w ∧ RowI S (swp 536870912 (n_ord S) (upT S (n_arc S)) (n_L S) base (n_R S)) w1 := by
    refine iter_for0 (fun k (s : WS) => (nI k, s)) (n_R S) (fun k s => FrQ s w ∧ RowI S (swp 536870912 (n_ord S) (upT S (n_arc S)) (n_L S) base k) s) (fun (w1 : WS) => FrQ w1 w ∧ RowI S (swp 536870912 (n_ord S) (upT S (n_arc S)) (n_L S) base (n_R S)) w1) ?_ ?_ (by omega) w ⟨FrQ.rf w, hr⟩
    · intro k s hk ⟨i1, i2⟩
      have hgs := hg.frQ i1
      have hx : n_ord S k < n_R S := ctO_lt hk
      have bits : ∀ t, t < 64 → bL (s.2 18 (n_ord S k) &&& (s.2 17 (n_ord S k) ^^^ (-1))) t = (decide (t < n_R S) && n_arc S (n_ord S k) t && !(decide (t < n_R S) && decide (n_pos S t < n_pos S (n_ord S k)))) := fun t ht => by
        rw [bL_and, bL_not _ ht, hgs.2.2.2.2.1 _ t hx ht, hgs.2.2.2.1 _ t hx ht]
      obtain ⟨w', e, f, q⟩ := passOn_ok hn (hl.same (i1.1 20 (by decide))) i2 hf hx (s.2 18 (n_ord S k) &&& (s.2 17 (n_ord S k) ^^^ (-1))) (fun t ht hb => by
        rw [bits t ht] at hb
        simp only [Bool.and_eq_true, decide_eq_true_eq] at hb
        exact hb.1)
      refine ⟨w', ?_, f.trans i1, q.congr fun t ht => swp_psR hR (fun t ht => by rw [bits t (by omega), up_bits hn hne hx ht]) ht⟩
      show bd_X0_spreadForward_2 fu (nI k) s = _
      unfold bd_X0_spreadForward_2
      rw [nm_e1, hgs.1, if_neg (nI_ge hk (by omega)), ck_t (in64 (by omega)), nm_e1, cl64 (by omega), hgs.2.2.1 k hk, ck_t (in64 (by omega)), nm_e1, cl64 (by omega), ck_t (in64 (by omega)), nm_e1, e, bn_e, nm_e1, nI_1]
    · intro s ⟨i1, i2⟩
      have hgs := hg.frQ i1
      refine ⟨s, ?_, i1, i2⟩
      show bd_X0_spreadForward_2 fu (nI (n_R S)) s = _
      unfold bd_X0_spreadForward_2
      rw [nm_e1, hgs.1, if_pos (nI_le (Nat.le_refl _) (by omega))]
  obtain ⟨w1, e1, f1, r1⟩ := l1
  have l2 : ∃ w2, iter (fun q : Int32 × WS => bd_X0_spreadForward_53 fu q.1 q.2) fu (nI (n_R S - 0) + (-1), w1) = some w2 ∧ FrQ w2 w ∧ RowI S (swp 536870912 (dnO S) (dnT S (n_arc S)) (n_L S) (swp 536870912 (n_ord S) (upT S (n_arc S)) (n_L S) base (n_R S)) (n_R S)) w2 := by
    refine iter_for0 (fun k (s : WS) => (nI (n_R S - k) + (-1), s)) (n_R S) (fun k s => FrQ s w ∧ RowI S (swp 536870912 (dnO S) (dnT S (n_arc S)) (n_L S) (swp 536870912 (n_ord S) (upT S (n_arc S)) (n_L S) base (n_R S)) k) s) (fun (w2 : WS) => FrQ w2 w ∧ RowI S (swp 536870912 (dnO S) (dnT S (n_arc S)) (n_L S) (swp 536870912 (n_ord S) (upT S (n_arc S)) (n_L S) base (n_R S)) (n_R S)) w2) ?_ ?_ (by omega) w1 ⟨f1, r1⟩
    · intro k s hk ⟨i1, i2⟩
      have hgs := hg.frQ i1
      have hk2 : n_R S - 1 - k < n_R S := by omega
      have hx : dnO S k < n_R S := ctO_lt hk2
      have bits : ∀ t, t < 64 → bL (s.2 18 (dnO S k) &&& s.2 17 (dnO S k)) t = (decide (t < n_R S) && n_arc S (dnO S k) t && (decide (t < n_R S) && decide (n_pos S t < n_pos S (dnO S k)))) := fun t ht => by
        rw [bL_and, hgs.2.2.2.2.1 _ t hx ht, hgs.2.2.2.1 _ t hx ht]
      obtain ⟨w', e, f, q⟩ := passOn_ok hn (hl.same (i1.1 20 (by decide))) i2 hf hx (s.2 18 (dnO S k) &&& s.2 17 (dnO S k)) (fun t ht hb => by
        rw [bits t ht] at hb
        simp only [Bool.and_eq_true, decide_eq_true_eq] at hb
        exact hb.1)
      refine ⟨w', ?_, f.trans i1, q.congr fun t ht => swp_psR hR (fun t ht => by rw [bits t (by omega), dn_bits ht]) ht⟩
      show bd_X0_spreadForward_53 fu (nI (n_R S - k) + (-1)) s = some (Sum.inl (nI (n_R S - (k + 1)) + (-1), w'))
      rw [show n_R S - k = (n_R S - 1 - k) + 1 by omega, pk_m1]
      unfold bd_X0_spreadForward_53
      rw [if_neg (nI_pos (by omega)), ck_t (in64 (by omega)), nm_e1, cl64 (by omega), show s.1 16 (n_R S - 1 - k) = nI (dnO S k) from hgs.2.2.1 _ hk2]
      rw [ck_t (in64 (by omega)), nm_e1, cl64 (by omega), ck_t (in64 (by omega)), nm_e1, e, bn_e, nm_e1, show n_R S - (k + 1) = n_R S - 1 - k by omega]
    · intro s ⟨i1, i2⟩
      refine ⟨s, ?_, i1, i2⟩
      show bd_X0_spreadForward_53 fu (nI (n_R S - n_R S) + (-1)) s = _
      unfold bd_X0_spreadForward_53
      rw [Nat.sub_self, if_pos (by decide)]
  obtain ⟨w2, e2, f2, r2⟩ := l2
  refine ⟨w2, _, ?_, f2, r2, sweep_bell hA.symm (two_sweeps hn hne) (fun r hr2 => (hr r hr2).2)⟩
  unfold f_X0_spreadForward
  rw [e1, bn_e, nm_e1, (hg.frQ f1).1, nm_e1, i_m1]
  rw [Nat.sub_zero] at e2
  rw [e2, bn_e]
theorem backward_ok (hg : RCg S w) (hn : NtOK S) (hl : LnI S (n_L S) w) (hr : RowI S base w) {fu : Nat} (hf : 64 < fu) : ∃ w' Z, f_X0_spreadBackward fu w = some w' ∧ FrQ w' w ∧ RowI S Z w' ∧ Bell 536870912 (n_R S) (s1 S) base Z := by
  have hR := hn.2.1
  have hA := arcs_ok hn
  have hne : ∀ a b, a < n_R S → b < n_R S → (fun a b => n_arc S b a) a b = true → a ≠ b := fun a b ha hb h => (arc_ne hn hb ha h).symm
  have l1 : ∃ w1, iter (fun q : Int32 × WS => bd_X0_spreadBackward_2 fu q.1 q.2) fu ((0 : Int32), w) = some w1 ∧ FrQ w1 w ∧ RowI S (swp 536870912 (n_ord S) (upT S (fun a b => n_arc S b a)) (fun a b => n_L S b a) base (n_R S)) w1 := by
    refine iter_for0 (fun k (s : WS) => (nI k, s)) (n_R S) (fun k s => FrQ s w ∧ RowI S (swp 536870912 (n_ord S) (upT S (fun a b => n_arc S b a)) (fun a b => n_L S b a) base k) s) (fun (w1 : WS) => FrQ w1 w ∧ RowI S (swp 536870912 (n_ord S) (upT S (fun a b => n_arc S b a)) (fun a b => n_L S b a) base (n_R S)) w1) ?_ ?_ (by omega) w ⟨FrQ.rf w, hr⟩
    · intro k s hk ⟨i1, i2⟩
      have hgs := hg.frQ i1
      have hx : n_ord S k < n_R S := ctO_lt hk
      have bits : ∀ t, t < 64 → bL (s.2 19 (n_ord S k) &&& (s.2 17 (n_ord S k) ^^^ (-1))) t = (decide (t < n_R S) && (fun a b => n_arc S b a) (n_ord S k) t && !(decide (t < n_R S) && decide (n_pos S t < n_pos S (n_ord S k)))) := fun t ht => by
        rw [bL_and, bL_not _ ht, hgs.2.2.2.2.2 _ t hx ht, hgs.2.2.2.1 _ t hx ht]
      obtain ⟨w', e, f, q⟩ := passBack_ok hn (hl.same (i1.1 20 (by decide))) i2 hf hx (s.2 19 (n_ord S k) &&& (s.2 17 (n_ord S k) ^^^ (-1))) (fun t ht hb => by
        rw [bits t ht] at hb
        simp only [Bool.and_eq_true, decide_eq_true_eq] at hb
        exact hb.1)
      refine ⟨w', ?_, f.trans i1, q.congr fun t ht => swp_psR hR (fun t ht => by rw [bits t (by omega)]; exact up_bits hn hne hx ht) ht⟩
      show bd_X0_spreadBackward_2 fu (nI k) s = _
      unfold bd_X0_spreadBackward_2
      rw [nm_e1, hgs.1, if_neg (nI_ge hk (by omega)), ck_t (in64 (by omega)), nm_e1, cl64 (by omega), hgs.2.2.1 k hk, ck_t (in64 (by omega)), nm_e1, cl64 (by omega), ck_t (in64 (by omega)), nm_e1, e, bn_e, nm_e1, nI_1]
    · intro s ⟨i1, i2⟩
      have hgs := hg.frQ i1
      refine ⟨s, ?_, i1, i2⟩
      show bd_X0_spreadBackward_2 fu (nI (n_R S)) s = _
      unfold bd_X0_spreadBackward_2
      rw [nm_e1, hgs.1, if_pos (nI_le (Nat.le_refl _) (by omega))]
  obtain ⟨w1, e1, f1, r1⟩ := l1
  have l2 : ∃ w2, iter (fun q : Int32 × WS => bd_X0_spreadBackward_53 fu q.1 q.2) fu (nI (n_R S - 0) + (-1), w1) = some w2 ∧ FrQ w2 w ∧ RowI S (swp 536870912 (dnO S) (dnT S (fun a b => n_arc S b a)) (fun a b => n_L S b a) (swp 536870912 (n_ord S) (upT S (fun a b => n_arc S b a)) (fun a b => n_L S b a) base (n_R S)) (n_R S)) w2 := by
    refine iter_for0 (fun k (s : WS) => (nI (n_R S - k) + (-1), s)) (n_R S) (fun k s => FrQ s w ∧ RowI S (swp 536870912 (dnO S) (dnT S (fun a b => n_arc S b a)) (fun a b => n_L S b a) (swp 536870912 (n_ord S) (upT S (fun a b => n_arc S b a)) (fun a b => n_L S b a) base (n_R S)) k) s) (fun (w2 : WS) => FrQ w2 w ∧ RowI S (swp 536870912 (dnO S) (dnT S (fun a b => n_arc S b a)) (fun a b => n_L S b a) (swp 536870912 (n_ord S) (upT S (fun a b => n_arc S b a)) (fun a b => n_L S b a) base (n_R S)) (n_R S)) w2) ?_ ?_ (by omega) w1 ⟨f1, r1⟩
    · intro k s hk ⟨i1, i2⟩
      have hgs := hg.frQ i1
      have hk2 : n_R S - 1 - k < n_R S := by omega
      have hx : dnO S k < n_R S := ctO_lt hk2
      have bits : ∀ t, t < 64 → bL (s.2 19 (dnO S k) &&& s.2 17 (dnO S k)) t = (decide (t < n_R S) && (fun a b => n_arc S b a) (dnO S k) t && (decide (t < n_R S) && decide (n_pos S t < n_pos S (dnO S k)))) := fun t ht => by
        rw [bL_and, hgs.2.2.2.2.2 _ t hx ht, hgs.2.2.2.1 _ t hx ht]
      obtain ⟨w', e, f, q⟩ := passBack_ok hn (hl.same (i1.1 20 (by decide))) i2 hf hx (s.2 19 (dnO S k) &&& s.2 17 (dnO S k)) (fun t ht hb => by
        rw [bits t ht] at hb
        simp only [Bool.and_eq_true, decide_eq_true_eq] at hb
        exact hb.1)
      refine ⟨w', ?_, f.trans i1, q.congr fun t ht => swp_psR hR (fun t ht => by rw [bits t (by omega)]; exact dn_bits (A := fun a b => n_arc S b a) ht) ht⟩
      show bd_X0_spreadBackward_53 fu (nI (n_R S - k) + (-1)) s = some (Sum.inl (nI (n_R S - (k + 1)) + (-1), w'))
      rw [show n_R S - k = (n_R S - 1 - k) + 1 by omega, pk_m1]
      unfold bd_X0_spreadBackward_53
      rw [if_neg (nI_pos (by omega)), ck_t (in64 (by omega)), nm_e1, cl64 (by omega), show s.1 16 (n_R S - 1 - k) = nI (dnO S k) from hgs.2.2.1 _ hk2]
      rw [ck_t (in64 (by omega)), nm_e1, cl64 (by omega), ck_t (in64 (by omega)), nm_e1, e, bn_e, nm_e1, show n_R S - (k + 1) = n_R S - 1 - k by omega]
    · intro s ⟨i1, i2⟩
      refine ⟨s, ?_, i1, i2⟩
      show bd_X0_spreadBackward_53 fu (nI (n_R S - n_R S) + (-1)) s = _
      unfold bd_X0_spreadBackward_53
      rw [Nat.sub_self, if_pos (by decide)]
  obtain ⟨w2, e2, f2, r2⟩ := l2
  refine ⟨w2, _, ?_, f2, r2, sweep_bell hA (two_sweeps hn hne) (fun r hr2 => (hr r hr2).2)⟩
  unfold f_X0_spreadBackward
  rw [e1, bn_e, nm_e1, (hg.frQ f1).1, nm_e1, i_m1]
  rw [Nat.sub_zero] at e2
  rw [e2, bn_e]
end SP
