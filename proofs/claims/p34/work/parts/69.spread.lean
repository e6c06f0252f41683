/-! the class: the two sweeps -/
theorem RowI.congr {S : Nt} {R R2 : Nat → Nat} {w : WS} (h : RowI S R w) (e : ∀ r, r < n_R S → R2 r = R r) : RowI S R2 w := fun r hr => by
  rw [e r hr]
  exact h r hr
theorem i_m1 (x : Int32) : x - 1 = x + (-1) := Int32.sub_eq_add_neg x 1
def upT (S : Nt) (arc : Nat → Nat → Bool) : Nat → Nat → Bool := fun x t => arc x t && decide (n_pos S x < n_pos S t)
def dnT (S : Nt) (arc : Nat → Nat → Bool) : Nat → Nat → Bool := fun x t => arc x t && decide (n_pos S t < n_pos S x)
def dnO (S : Nt) (k : Nat) : Nat := n_ord S (n_R S - 1 - k)
section SP
variable {S : Nt} {w : WS} {base : Nat → Nat}
theorem swp_psR {o : Nat → Nat} {T A : Nat → Nat → Bool} {E : Nat → Nat → Nat} {k st sp : Nat} (hX : ∀ t, t < n_R S → ((st ≤ n_pos S t ∧ n_pos S t < sp ∧ A (o k) t = true) ↔ T (o k) t = true)) {t : Nat} (ht : t < n_R S) : swp 536870912 o T E base (k + 1) t = psR S (swp 536870912 o T E base k) (fun t => A (o k) t) (swp 536870912 o T E base k (o k)) (fun t => E (o k) t) st sp t := by
  show (if T (o k) t = true then min (swp 536870912 o T E base k t) (ta 536870912 (swp 536870912 o T E base k (o k)) (E (o k) t)) else swp 536870912 o T E base k t) = _
  unfold psR
  by_cases c : T (o k) t = true
  · rw [if_pos c, if_pos ((hX t ht).mpr c)]
  · rw [if_neg c, if_neg (fun hh => c ((hX t ht).mp hh))]
theorem up_iff {A : Nat → Nat → Bool} {k t : Nat} (hk : k < n_R S) (ht : t < n_R S) : (k + 1 ≤ n_pos S t ∧ n_pos S t < n_R S ∧ A (n_ord S k) t = true) ↔ upT S A (n_ord S k) t = true := by
  have h1 : n_pos S (n_ord S k) = k := n_pos_ord hk
  have h2 := n_pos_lt ht
  unfold upT
  simp only [Bool.and_eq_true, decide_eq_true_eq, h1]
  exact ⟨fun h => ⟨h.2.2, by omega⟩, fun h => ⟨by omega, h2, h.1⟩⟩
theorem dn_iff {A : Nat → Nat → Bool} {k t : Nat} (hk : n_R S - 1 - k < n_R S) : (0 ≤ n_pos S t ∧ n_pos S t < n_R S - 1 - k ∧ A (dnO S k) t = true) ↔ dnT S A (dnO S k) t = true := by
  have h1 : n_pos S (dnO S k) = n_R S - 1 - k := n_pos_ord hk
  unfold dnT
  simp only [Bool.and_eq_true, decide_eq_true_eq, h1]
  exact ⟨fun h => ⟨h.2.2, h.2.1⟩, fun h => ⟨Nat.zero_le _, h.2, h.1⟩⟩
/-- both sweeps, over arcs A with lengths E, do what sweep_bell wants -/
theorem two_sweeps (hn : NtOK S) {A : Nat → Nat → Bool} {E : Nat → Nat → Nat} (hA : ∀ a b, a < n_R S → b < n_R S → A a b = true → a ≠ b) : Sweep 536870912 (n_R S) (n_pos S) (fun a b => A b a = true) (fun a b => E b a) base (swp 536870912 (n_ord S) (upT S A) E base (n_R S)) (swp 536870912 (dnO S) (dnT S A) E (swp 536870912 (n_ord S) (upT S A) E base (n_R S)) (n_R S)) := by
  have u := swp_ok (I := 536870912) (n := n_R S) (o := n_ord S) (rk := n_pos S) (T := upT S A) (E := E) (base := base) (fun k hk => ⟨ctO_lt hk, n_pos_ord hk⟩) (fun t ht => ⟨n_pos_lt ht, n_ord_pos ht⟩) (fun x t _ _ hT => by
    unfold upT at hT
    simp only [Bool.and_eq_true, decide_eq_true_eq] at hT
    exact hT.2)
  have d := swp_ok (I := 536870912) (n := n_R S) (o := dnO S) (rk := fun t => n_R S - 1 - n_pos S t) (T := dnT S A) (E := E) (base := swp 536870912 (n_ord S) (upT S A) E base (n_R S)) (fun k hk => by
    have h1 : n_R S - 1 - k < n_R S := by omega
    refine ⟨ctO_lt h1, ?_⟩
    show n_R S - 1 - n_pos S (n_ord S (n_R S - 1 - k)) = k
    rw [n_pos_ord h1]
    omega) (fun t ht => by
    have := n_pos_lt ht
    refine ⟨by omega, ?_⟩
    show n_ord S (n_R S - 1 - (n_R S - 1 - n_pos S t)) = t
    rw [show n_R S - 1 - (n_R S - 1 - n_pos S t) = n_pos S t by omega]
    exact n_ord_pos ht) (fun x t hx ht hT => by
    unfold dnT at hT
    simp only [Bool.and_eq_true, decide_eq_true_eq] at hT
    have := n_pos_lt hx
    show n_R S - 1 - n_pos S x < n_R S - 1 - n_pos S t
    omega)
  refine ⟨u.1, fun r v hr hv h1 h2 => ?_, fun r hr => ?_, d.1, fun r v hr hv h1 h2 => ?_, fun r hr => ?_⟩
  · have k := u.2.1 r v hr hv (by unfold upT; rw [h1, decide_eq_true h2]; rfl)
    rw [ta_comm]
    exact k
  · rcases u.2.2 r hr with e | ⟨x, hx, hT, e⟩
    · exact Or.inl e
    · unfold upT at hT
      simp only [Bool.and_eq_true, decide_eq_true_eq] at hT
      exact Or.inr ⟨x, hx, hT.1, hT.2, by rw [ta_comm]; exact e⟩
  · have k := d.2.1 r v hr hv (by unfold dnT; rw [h1, decide_eq_true h2]; rfl)
    rw [ta_comm]
    exact k
  · rcases d.2.2 r hr with e | ⟨x, hx, hT, e⟩
    · exact Or.inl e
    · unfold dnT at hT
      simp only [Bool.and_eq_true, decide_eq_true_eq] at hT
      exact Or.inr ⟨x, hx, hT.1, hT.2, by rw [ta_comm]; exact e⟩
theorem forward_ok (hg : RCg S w) (hn : NtOK S) (hl : LnI S (n_L S) w) (hr : RowI S base w) {fu : Nat} (hf : 64 < fu) : ∃ w' Y, f_X0_spreadForward fu w = some w' ∧ FrQ w' w ∧ RowI S Y w' ∧ Bell 536870912 (n_R S) (fun a b => s1 S b a) base Y := by
  have hR := hn.2.1
  have hA := arcs_ok hn
  have hne : ∀ a b, a < n_R S → b < n_R S → n_arc S a b = true → a ≠ b := fun a b ha hb h => arc_ne hn ha hb h
  have l1 : ∃ w1, iter (fun q : Int32 × WS => bd_X0_spreadForward_2 fu q.1 q.2) fu ((0 : Int32), w) = some w1 ∧ FrQ w1 w ∧ RowI S (swp 536870912 (n_ord S) (upT S (n_arc S)) (n_L S) base (n_R S)) w1 := by
    refine iter_for0 (fun k (s : WS) => (nI k, s)) (n_R S) (fun k s => FrQ s w ∧ RowI S (swp 536870912 (n_ord S) (upT S (n_arc S)) (n_L S) base k) s) (fun (w1 : WS) => FrQ w1 w ∧ RowI S (swp 536870912 (n_ord S) (upT S (n_arc S)) (n_L S) base (n_R S)) w1) ?_ ?_ (by omega) w ⟨FrQ.rf w, hr⟩
    · intro k s hk ⟨i1, i2⟩
      have hgs := hg.frQ i1
      have hx : n_ord S k < n_R S := ctO_lt hk
      obtain ⟨w', e, f, q⟩ := passOn_ok hgs hn (hl.same (i1.1 20 (by decide))) i2 hf hx (show k + 1 ≤ n_R S by omega) (Nat.le_refl _)
      refine ⟨w', ?_, f.trans i1, q.congr fun t ht => swp_psR (A := (n_arc S)) (fun t ht => up_iff hk ht) ht⟩
      show bd_X0_spreadForward_2 fu (nI k) s = _
      unfold bd_X0_spreadForward_2
      rw [nm_e1, hgs.1, if_neg (nI_ge hk (by omega)), ck_t (in64 (by omega)), nm_e1, cl64 (by omega), hgs.2.2.1 k hk, nm_e1, nI_1, e, bn_e, nm_e1]
    · intro s ⟨i1, i2⟩
      have hgs := hg.frQ i1
      refine ⟨s, ?_, i1, i2⟩
      show bd_X0_spreadForward_2 fu (nI (n_R S)) s = _
      unfold bd_X0_spreadForward_2
      rw [nm_e1, hgs.1, if_pos (nI_le (Nat.le_refl _) (by omega))]
  obtain ⟨w1, e1, f1, r1⟩ := l1
  have l2 : ∃ w2, iter (fun q : Int32 × WS => bd_X0_spreadForward_41 fu q.1 q.2) fu (nI (n_R S - 0) + (-1), w1) = some w2 ∧ FrQ w2 w ∧ RowI S (swp 536870912 (dnO S) (dnT S (n_arc S)) (n_L S) (swp 536870912 (n_ord S) (upT S (n_arc S)) (n_L S) base (n_R S)) (n_R S)) w2 := by
    refine iter_for0 (fun k (s : WS) => (nI (n_R S - k) + (-1), s)) (n_R S) (fun k s => FrQ s w ∧ RowI S (swp 536870912 (dnO S) (dnT S (n_arc S)) (n_L S) (swp 536870912 (n_ord S) (upT S (n_arc S)) (n_L S) base (n_R S)) k) s) (fun (w2 : WS) => FrQ w2 w ∧ RowI S (swp 536870912 (dnO S) (dnT S (n_arc S)) (n_L S) (swp 536870912 (n_ord S) (upT S (n_arc S)) (n_L S) base (n_R S)) (n_R S)) w2) ?_ ?_ (by omega) w1 ⟨f1, r1⟩
    · intro k s hk ⟨i1, i2⟩
      have hgs := hg.frQ i1
      have hk2 : n_R S - 1 - k < n_R S := by omega
      have hx : dnO S k < n_R S := ctO_lt hk2
      obtain ⟨w', e, f, q⟩ := passOn_ok hgs hn (hl.same (i1.1 20 (by decide))) i2 hf hx (Nat.zero_le (n_R S - 1 - k)) (by omega)
      rw [nI_0] at e
      refine ⟨w', ?_, f.trans i1, q.congr fun t ht => swp_psR (A := (n_arc S)) (fun t ht => dn_iff hk2) ht⟩
      show bd_X0_spreadForward_41 fu (nI (n_R S - k) + (-1)) s = some (Sum.inl (nI (n_R S - (k + 1)) + (-1), w'))
      rw [show n_R S - k = (n_R S - 1 - k) + 1 by omega, pk_m1]
      unfold bd_X0_spreadForward_41
      rw [if_neg (nI_pos (by omega)), ck_t (in64 (by omega)), nm_e1, cl64 (by omega), show s.1 16 (n_R S - 1 - k) = nI (dnO S k) from hgs.2.2.1 _ hk2, e, bn_e, nm_e1, show n_R S - (k + 1) = n_R S - 1 - k by omega]
    · intro s ⟨i1, i2⟩
      refine ⟨s, ?_, i1, i2⟩
      show bd_X0_spreadForward_41 fu (nI (n_R S - n_R S) + (-1)) s = _
      unfold bd_X0_spreadForward_41
      rw [Nat.sub_self, if_pos (by decide)]
  obtain ⟨w2, e2, f2, r2⟩ := l2
  refine ⟨w2, _, ?_, f2, r2, sweep_bell hA.symm (two_sweeps hn hne) (fun r hr2 => (hr r hr2).2)⟩
  unfold f_X0_spreadForward
  rw [e1, bn_e, nm_e1, (hg.frQ f1).1, nm_e1, i_m1]
  rw [Nat.sub_zero] at e2
  rw [e2, bn_e]
end SP
