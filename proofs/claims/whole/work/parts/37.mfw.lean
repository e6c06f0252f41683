/-! the reference: the table, all of findCosts, and how many costs change -/
theorem lN_far : (1000000000000 : Int64) = lN 1000000000000 := rfl
theorem lmin_ok {x y z : Nat} (hx : x ≤ 1000000000000) (hy : y ≤ 1000000000000) (hz : z ≤ 1000000000000) : (if (if (lN y + lN z) < 1000000000000 then (lN y + lN z) else 1000000000000) < lN x then (if (lN y + lN z) < 1000000000000 then (lN y + lN z) else 1000000000000) else lN x) = lN (min x (ta 1000000000000 y z)) := by
  have e : (if (lN y + lN z) < 1000000000000 then (lN y + lN z) else 1000000000000) = lN (ta 1000000000000 y z) := by
    rw [lN_add, lN_far]
    by_cases h : y + z < 1000000000000
    · rw [if_pos ((pk_lLT (by omega) (by omega)).mpr h)]
      congr 1
      unfold ta
      omega
    · rw [if_neg (fun h2 => h ((pk_lLT (by omega) (by omega)).mp h2))]
      congr 1
      unfold ta
      omega
  rw [e]
  have ht := ta_le 1000000000000 y z
  by_cases h : ta 1000000000000 y z < x
  · rw [if_pos ((pk_lLT (by omega) (by omega)).mpr h)]
    congr 1
    omega
  · rw [if_neg (fun h2 => h ((pk_lLT (by omega) (by omega)).mp h2))]
    congr 1
    omega
/-- how many pairs -/
def cn2 (P : Nat → Nat → Bool) (n : Nat) : Nat → Nat
  | 0 => 0
  | a + 1 => cn2 P n a + cn (P a) n
theorem cn2_congr {P Q : Nat → Nat → Bool} {n : Nat} : ∀ m, (∀ a b, a < m → b < n → P a b = Q a b) → cn2 P n m = cn2 Q n m
  | 0, _ => rfl
  | m + 1, h => by
    unfold cn2
    rw [cn2_congr m (fun a b ha hb => h a b (by omega) hb), cn_congr n (fun b hb => h m b (by omega) hb)]
theorem cn2_le (P : Nat → Nat → Bool) (n : Nat) : ∀ m, cn2 P n m ≤ m * n
  | 0 => by simp [cn2]
  | m + 1 => by
    have h1 := cn2_le P n m
    have h2 := cn_le (P m) n
    unfold cn2
    rw [Nat.succ_mul]
    omega
section MC
variable {S : Nt} {v : WS}
theorem updRow (h : RMn S v) (hn : NtOK S) {fu : Nat} (hf : 64 < fu) {p : Nat} (hp : p < n_R S) {a : Nat} (ha : a < n_R S) (u : WS) (h1 : u.1 = v.1) (h3 : ∀ a' b', a' < n_R S → b' < n_R S → u.2 11 (64 * a' + b') = lN (if a' < a then fwM S (p + 1) a' b' else fwM S p a' b')) :
    ∃ r, iter (fun q : Int32 × WS => bd_X4_findCosts_152 fu (nI p) (nI (n_ord S p)) (nI a) q.1 q.2) fu ((0 : Int32), u) = some r ∧ r.1 = v.1 ∧ (∀ c, c ≠ 11 → r.2 c = u.2 c) ∧ ∀ a' b', a' < n_R S → b' < n_R S → r.2 11 (64 * a' + b') = lN (if a' < a + 1 then fwM S (p + 1) a' b' else fwM S p a' b') := by
  have hR := hn.2.1
  have hx : n_ord S p < n_R S := ctO_lt hp
  have sL : ∀ a, fwM S (p + 1) a (n_ord S p) = fwM S p a (n_ord S p) := fun a => FW_stopL (c2_le hn) p a
  have sR : ∀ b, fwM S (p + 1) (n_ord S p) b = fwM S p (n_ord S p) b := fun b => FW_stopR (c2_le hn) p b
  refine iter_for0 (fun k (s : WS) => (nI k, s)) (n_R S) (fun b s => s.1 = v.1 ∧ (∀ c, c ≠ 11 → s.2 c = u.2 c) ∧ ∀ a' b', a' < n_R S → b' < n_R S → s.2 11 (64 * a' + b') = lN (if a' < a ∨ (a' = a ∧ b' < b) then fwM S (p + 1) a' b' else fwM S p a' b')) (fun (r : WS) => r.1 = v.1 ∧ (∀ c, c ≠ 11 → r.2 c = u.2 c) ∧ ∀ a' b', a' < n_R S → b' < n_R S → r.2 11 (64 * a' + b') = lN (if a' < a + 1 then fwM S (p + 1) a' b' else fwM S p a' b')) ?_ ?_ (by omega) u ⟨h1, fun c _ => rfl, fun a' b' ha' hb' => ?_⟩
  · intro b s hb ⟨i1, i2, i3⟩
    have hs : RMn S s := h.same i1
    have g1 : s.2 11 (64 * a + b) = lN (fwM S p a b) := by rw [i3 a b ha hb, if_neg (by omega)]
    have g2 : s.2 11 (64 * a + n_ord S p) = lN (fwM S p a (n_ord S p)) := by
      rw [i3 a _ ha hx]
      split
      · rw [sL]
      · rfl
    have g3 : s.2 11 (64 * n_ord S p + b) = lN (fwM S p (n_ord S p) b) := by
      rw [i3 _ b hx hb]
      split
      · rw [sR]
      · rfl
    refine ⟨wL s 11 (64 * a + b) (lN (fwM S (p + 1) a b)), ?_, i1, fun c hc => ?_, fun a' b' ha' hb' => ?_⟩
    · show bd_X4_findCosts_152 fu (nI p) (nI (n_ord S p)) (nI a) (nI b) s = _
      unfold bd_X4_findCosts_152
      rw [nm_e1, hs.2.1, if_neg (nI_ge hb (by omega)), ck_t (px_in (by omega) (by omega)), nm_e1, px_cl (by omega) (by omega), ck_t (px_in (by omega) (by omega)), nm_e1, px_cl (by omega) (by omega), ck_t (px_in (by omega) (by omega)), nm_e1, px_cl (by omega) (by omega), ck_t (px_in (by omega) (by omega)), nm_e1, nm_e1, nI_1, g1, g2, g3, lmin_ok (fwM_le hn _ _ _) (fwM_le hn _ _ _) (fwM_le hn _ _ _)]
      rfl
    · rw [wL_n hc]; exact i2 c hc
    · rw [wL_at]
      by_cases e : 64 * a' + b' = 64 * a + b
      · have := ix_inj (by omega) (by omega) e
        rw [if_pos ⟨rfl, e⟩, this.1, this.2, if_pos (Or.inr ⟨rfl, by omega⟩)]
      · rw [if_neg (fun hh => e hh.2), i3 a' b' ha' hb']
        by_cases e2 : a' < a ∨ (a' = a ∧ b' < b)
        · rw [if_pos e2, if_pos (by omega)]
        · rw [if_neg e2, if_neg (by omega)]
  · intro s ⟨i1, i2, i3⟩
    have hs : RMn S s := h.same i1
    refine ⟨s, ?_, i1, i2, fun a' b' ha' hb' => ?_⟩
    · show bd_X4_findCosts_152 fu (nI p) (nI (n_ord S p)) (nI a) (nI (n_R S)) s = _
      unfold bd_X4_findCosts_152
      rw [nm_e1, hs.2.1, if_pos (nI_le (Nat.le_refl _) (by omega))]
    · rw [i3 a' b' ha' hb']
      by_cases e2 : a' < a + 1
      · rw [if_pos e2, if_pos (by omega)]
      · rw [if_neg e2, if_neg (by omega)]
  · rw [h3 a' b' ha' hb']
    by_cases e2 : a' < a
    · rw [if_pos e2, if_pos (Or.inl e2)]
    · rw [if_neg e2, if_neg (by omega)]
theorem updAll (h : RMn S v) (hn : NtOK S) {fu : Nat} (hf : 64 < fu) {p : Nat} (hp : p < n_R S) (u : WS) (h1 : u.1 = v.1) (h3 : ∀ a b, a < n_R S → b < n_R S → u.2 11 (64 * a + b) = lN (fwM S p a b)) :
    ∃ r, iter (fun q : Int32 × WS => bd_X4_findCosts_141 fu (nI p) (nI (n_ord S p)) q.1 q.2) fu ((0 : Int32), u) = some r ∧ r.1 = v.1 ∧ (∀ c, c ≠ 11 → r.2 c = u.2 c) ∧ ∀ a b, a < n_R S → b < n_R S → r.2 11 (64 * a + b) = lN (fwM S (p + 1) a b) := by
  have hR := hn.2.1
  refine iter_for0 (fun k (s : WS) => (nI k, s)) (n_R S) (fun a s => s.1 = v.1 ∧ (∀ c, c ≠ 11 → s.2 c = u.2 c) ∧ ∀ a' b', a' < n_R S → b' < n_R S → s.2 11 (64 * a' + b') = lN (if a' < a then fwM S (p + 1) a' b' else fwM S p a' b')) (fun (r : WS) => r.1 = v.1 ∧ (∀ c, c ≠ 11 → r.2 c = u.2 c) ∧ ∀ a b, a < n_R S → b < n_R S → r.2 11 (64 * a + b) = lN (fwM S (p + 1) a b)) ?_ ?_ (by omega) u ⟨h1, fun c _ => rfl, fun a' b' ha' hb' => ?_⟩
  · intro a s ha ⟨i1, i2, i3⟩
    have hs : RMn S s := h.same i1
    obtain ⟨r, e, j1, j2, j3⟩ := updRow h hn hf hp ha s i1 i3
    refine ⟨r, ?_, j1, fun c hc => (j2 c hc).trans (i2 c hc), j3⟩
    show bd_X4_findCosts_141 fu (nI p) (nI (n_ord S p)) (nI a) s = _
    unfold bd_X4_findCosts_141
    rw [nm_e1, hs.2.1, if_neg (nI_ge ha (by omega)), e, bn_e, nm_e1, nI_1]
  · intro s ⟨i1, i2, i3⟩
    have hs : RMn S s := h.same i1
    refine ⟨s, ?_, i1, i2, fun a' b' ha' hb' => by rw [i3 a' b' ha' hb', if_pos ha']⟩
    show bd_X4_findCosts_141 fu (nI p) (nI (n_ord S p)) (nI (n_R S)) s = _
    unfold bd_X4_findCosts_141
    rw [nm_e1, hs.2.1, if_pos (nI_le (Nat.le_refl _) (by omega))]
  · rw [h3 a' b' ha' hb', if_neg (Nat.not_lt_zero _)]
theorem findCosts_ok (h : RMn S v) (ho : RMo S v) (hn : NtOK S) {fu : Nat} (hf : 64 < fu) : ∃ r, f_X4_findCosts fu v = some r ∧ r.1 = v.1 ∧ (∀ c, c ≠ 9 → c ≠ 11 → r.2 c = v.2 c) ∧ RMc S r := by
  have hR := hn.2.1
  obtain ⟨u, e, g1, g2, g3⟩ := fillP_all h hn hf
  have hl : ∃ r, iter (fun q : Int32 × WS => bd_X4_findCosts_51 fu q.1 q.2) fu ((0 : Int32), u) = some r ∧ r.1 = v.1 ∧ (∀ c, c ≠ 9 → c ≠ 11 → r.2 c = v.2 c) ∧ RMc S r := by
    refine iter_for0 (fun k (s : WS) => (nI k, s)) (n_R S) (fun p s => s.1 = v.1 ∧ (∀ c, c ≠ 9 → c ≠ 11 → s.2 c = v.2 c) ∧ (∀ a b, a < n_R S → b < n_R S → s.2 11 (64 * a + b) = lN (fwM S p a b)) ∧ ∀ a b, a < n_R S → b < n_R S → a ≠ b → min (n_pos S a) (n_pos S b) < p → s.2 9 (64 * a + b) = lN (n_A S a b)) (fun (r : WS) => r.1 = v.1 ∧ (∀ c, c ≠ 9 → c ≠ 11 → r.2 c = v.2 c) ∧ RMc S r) ?_ ?_ (by omega) u ⟨g1, fun c _ hc => g2 c hc, g3, fun a b _ _ _ hh => absurd hh (Nat.not_lt_zero _)⟩
    · intro p s hp ⟨i1, i2, i3, i4⟩
      have hs : RMn S s := h.same i1
      have hx : n_ord S p < n_R S := ctO_lt hp
      obtain ⟨r1, e1, j1, j2, j3⟩ := takeC h ho hn hf hp s i1 i3 i4
      obtain ⟨r2, e2, k1, k2, k3⟩ := updAll h hn hf hp r1 j1 (fun a b ha hb => by rw [j2 11 (by decide)]; exact i3 a b ha hb)
      refine ⟨r2, ?_, k1, fun c h9 h11 => (k2 c h11).trans ((j2 c h9).trans (i2 c h9 h11)), k3, fun a b ha hb hne hm => by rw [k2 9 (by decide)]; exact j3 a b ha hb hne hm⟩
      show bd_X4_findCosts_51 fu (nI p) s = _
      unfold bd_X4_findCosts_51
      rw [nm_e1, hs.2.1, if_neg (nI_ge hp (by omega)), ck_t (in64 (by omega)), nm_e1, cl64 (by omega), show s.1 7 p = nI (n_ord S p) by rw [i1]; exact ho.2 p hp, e1, bn_e, e2, bn_e, nm_e1, nI_1]
    · intro s ⟨i1, i2, i3, i4⟩
      have hs : RMn S s := h.same i1
      refine ⟨s, ?_, i1, i2, fun a b ha hb hne => i4 a b ha hb hne (by have := n_pos_lt ha; omega)⟩
      show bd_X4_findCosts_51 fu (nI (n_R S)) s = _
      unfold bd_X4_findCosts_51
      rw [nm_e1, hs.2.1, if_pos (nI_le (Nat.le_refl _) (by omega))]
  obtain ⟨r, e2, k⟩ := hl
  refine ⟨r, ?_, k⟩
  unfold f_X4_findCosts
  rw [e, bn_e, e2, bn_e]
end MC
