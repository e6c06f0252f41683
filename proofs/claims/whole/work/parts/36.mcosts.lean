/-! the reference: the costs of all arcs -/
def RMo (S : Nt) (v : WS) : Prop := (∀ r, r < n_R S → v.1 6 r = nI (n_pos S r)) ∧ ∀ p, p < n_R S → v.1 7 p = nI (n_ord S p)
def RMa (S : Nt) (v : WS) : Prop := ∀ a b, a < n_R S → b < n_R S → v.1 8 (64 * a + b) = if n_arc S a b = true then 1 else 0
def RMc (S : Nt) (v : WS) : Prop := ∀ a b, a < n_R S → b < n_R S → a ≠ b → v.2 9 (64 * a + b) = lN (n_A S a b)
theorem ix_inj {a b c d : Nat} (hb : b < 64) (hd : d < 64) (h : 64 * a + b = 64 * c + d) : a = c ∧ b = d := by omega
section MC
variable {S : Nt} {v : WS}
theorem fillP_row (h : RMn S v) (hn : NtOK S) {fu : Nat} (hf : 64 < fu) {a : Nat} (ha : a < n_R S) (u : WS) (h1 : u.1 = v.1) (h2 : ∀ c, c ≠ 11 → u.2 c = v.2 c) (h3 : ∀ a' b', a' < a → b' < n_R S → u.2 11 (64 * a' + b') = lN (c2 S a' b')) :
    ∃ r, iter (fun q : Int32 × WS => bd_X4_findCosts_12 fu (nI a) q.1 q.2) fu ((0 : Int32), u) = some r ∧ r.1 = v.1 ∧ (∀ c, c ≠ 11 → r.2 c = v.2 c) ∧ ∀ a' b', a' < a + 1 → b' < n_R S → r.2 11 (64 * a' + b') = lN (c2 S a' b') := by
  have hR := hn.2.1
  refine iter_for0 (fun k (s : WS) => (nI k, s)) (n_R S) (fun b s => s.1 = v.1 ∧ (∀ c, c ≠ 11 → s.2 c = v.2 c) ∧ (∀ a' b', a' < a → b' < n_R S → s.2 11 (64 * a' + b') = lN (c2 S a' b')) ∧ ∀ b', b' < b → s.2 11 (64 * a + b') = lN (c2 S a b')) (fun (r : WS) => r.1 = v.1 ∧ (∀ c, c ≠ 11 → r.2 c = v.2 c) ∧ ∀ a' b', a' < a + 1 → b' < n_R S → r.2 11 (64 * a' + b') = lN (c2 S a' b')) ?_ ?_ (by omega) u ⟨h1, h2, h3, fun b' hb' => absurd hb' (Nat.not_lt_zero _)⟩
  · intro b s hb ⟨i1, i2, i3, i4⟩
    have hs : RMn S s := h.same i1
    refine ⟨wL s 11 (64 * a + b) (lN (c2 S a b)), ?_, i1, fun c hc => ?_, fun a' b' ha' hb' => ?_, fun b' hb' => ?_⟩
    · show bd_X4_findCosts_12 fu (nI a) (nI b) s = _
      unfold bd_X4_findCosts_12
      rw [nm_e1, hs.2.1, if_neg (nI_ge hb (by omega)), step_ok hs hn fu ha hb, bn_e, ck_t (px_in (by omega) (by omega)), nm_e1, px_cl (by omega) (by omega), nm_e1, nI_1]
    · rw [wL_n hc]; exact i2 c hc
    · rw [wL_at, if_neg (by omega)]; exact i3 a' b' ha' hb'
    · rw [wL_at]
      by_cases e : b' = b
      · rw [if_pos ⟨rfl, by omega⟩, e]
      · rw [if_neg (by omega)]; exact i4 b' (by omega)
  · intro s ⟨i1, i2, i3, i4⟩
    have hs : RMn S s := h.same i1
    refine ⟨s, ?_, i1, i2, fun a' b' ha' hb' => ?_⟩
    · show bd_X4_findCosts_12 fu (nI a) (nI (n_R S)) s = _
      unfold bd_X4_findCosts_12
      rw [nm_e1, hs.2.1, if_pos (nI_le (Nat.le_refl _) (by omega))]
    · by_cases e : a' = a
      · rw [e]; exact i4 b' hb'
      · exact i3 a' b' (by omega) hb'
theorem fillP_all (h : RMn S v) (hn : NtOK S) {fu : Nat} (hf : 64 < fu) :
    ∃ r, iter (fun q : Int32 × WS => bd_X4_findCosts_2 fu q.1 q.2) fu ((0 : Int32), v) = some r ∧ r.1 = v.1 ∧ (∀ c, c ≠ 11 → r.2 c = v.2 c) ∧ ∀ a' b', a' < n_R S → b' < n_R S → r.2 11 (64 * a' + b') = lN (c2 S a' b') := by
  have hR := hn.2.1
  refine iter_for0 (fun k (s : WS) => (nI k, s)) (n_R S) (fun a s => s.1 = v.1 ∧ (∀ c, c ≠ 11 → s.2 c = v.2 c) ∧ (∀ a' b', a' < a → b' < n_R S → s.2 11 (64 * a' + b') = lN (c2 S a' b'))) (fun (r : WS) => r.1 = v.1 ∧ (∀ c, c ≠ 11 → r.2 c = v.2 c) ∧ ∀ a' b', a' < n_R S → b' < n_R S → r.2 11 (64 * a' + b') = lN (c2 S a' b')) ?_ ?_ (by omega) v ⟨rfl, fun c _ => rfl, fun a' b' ha' => absurd ha' (Nat.not_lt_zero _)⟩
  · intro a s ha ⟨i1, i2, i3⟩
    have hs : RMn S s := h.same i1
    obtain ⟨r, e, j1, j2, j3⟩ := fillP_row h hn hf ha s i1 i2 i3
    refine ⟨r, ?_, j1, j2, j3⟩
    show bd_X4_findCosts_2 fu (nI a) s = _
    unfold bd_X4_findCosts_2
    rw [nm_e1, hs.2.1, if_neg (nI_ge ha (by omega)), e, bn_e, nm_e1, nI_1]
  · intro s ⟨i1, i2, i3⟩
    have hs : RMn S s := h.same i1
    refine ⟨s, ?_, i1, i2, i3⟩
    show bd_X4_findCosts_2 fu (nI (n_R S)) s = _
    unfold bd_X4_findCosts_2
    rw [nm_e1, hs.2.1, if_pos (nI_le (Nat.le_refl _) (by omega))]
abbrev fwM (S : Nt) (p a b : Nat) : Nat := FW 1000000000000 (c2 S) (n_ord S) p a b
theorem fwM_le (hn : NtOK S) (p a b : Nat) : fwM S p a b ≤ 1000000000000 := FW_I (c2_le hn) p a b
/-- the arcs of the road at a position -/
theorem takeC (h : RMn S v) (ho : RMo S v) (hn : NtOK S) {fu : Nat} (hf : 64 < fu) {p : Nat} (hp : p < n_R S) (u : WS) (h1 : u.1 = v.1) (h3 : ∀ a b, a < n_R S → b < n_R S → u.2 11 (64 * a + b) = lN (fwM S p a b)) (h4 : ∀ a b, a < n_R S → b < n_R S → a ≠ b → min (n_pos S a) (n_pos S b) < p → u.2 9 (64 * a + b) = lN (n_A S a b)) :
    ∃ r, iter (fun q : Int32 × WS => bd_X4_findCosts_68 fu (nI p) (nI (n_ord S p)) q.1 q.2) fu ((0 : Int32), u) = some r ∧ r.1 = v.1 ∧ (∀ c, c ≠ 9 → r.2 c = u.2 c) ∧ ∀ a b, a < n_R S → b < n_R S → a ≠ b → min (n_pos S a) (n_pos S b) < p + 1 → r.2 9 (64 * a + b) = lN (n_A S a b) := by
  have hR := hn.2.1
  have hx : n_ord S p < n_R S := ctO_lt hp
  have hxp : n_pos S (n_ord S p) = p := n_pos_ord hp
  refine iter_for0 (fun k (s : WS) => (nI k, s)) (n_R S) (fun k s => s.1 = v.1 ∧ (∀ c, c ≠ 9 → s.2 c = u.2 c) ∧ (∀ a b, a < n_R S → b < n_R S → a ≠ b → min (n_pos S a) (n_pos S b) < p → s.2 9 (64 * a + b) = lN (n_A S a b)) ∧ ∀ a, a < k → p < n_pos S a → s.2 9 (64 * n_ord S p + a) = lN (n_A S (n_ord S p) a) ∧ s.2 9 (64 * a + n_ord S p) = lN (n_A S a (n_ord S p))) (fun (r : WS) => r.1 = v.1 ∧ (∀ c, c ≠ 9 → r.2 c = u.2 c) ∧ ∀ a b, a < n_R S → b < n_R S → a ≠ b → min (n_pos S a) (n_pos S b) < p + 1 → r.2 9 (64 * a + b) = lN (n_A S a b)) ?_ ?_ (by omega) u ⟨h1, fun c _ => rfl, h4, fun a ha => absurd ha (Nat.not_lt_zero _)⟩
  · intro k s hk ⟨i1, i2, i3, i4⟩
    have hs : RMn S s := h.same i1
    have hkp := n_pos_lt hk
    have e6 : s.1 6 k = nI (n_pos S k) := by rw [i1]; exact ho.1 k hk
    have e11 : ∀ a b, a < n_R S → b < n_R S → s.2 11 (64 * a + b) = lN (fwM S p a b) := fun a b ha hb => by rw [i2 11 (by decide)]; exact h3 a b ha hb
    by_cases hpk : p < n_pos S k
    · have hne : n_ord S p ≠ k := fun e => by rw [← e, hxp] at hpk; omega
      have a1 : fwM S p (n_ord S p) k = n_A S (n_ord S p) k := by
        unfold n_A
        rw [hxp, show min p (n_pos S k) = p by omega]
      have a2 : fwM S p k (n_ord S p) = n_A S k (n_ord S p) := by
        unfold n_A
        rw [hxp, show min (n_pos S k) p = p by omega]
      refine ⟨wL (wL s 9 (64 * n_ord S p + k) (lN (n_A S (n_ord S p) k))) 9 (64 * k + n_ord S p) (lN (n_A S k (n_ord S p))), ?_, i1, fun c hc => ?_, fun a b ha hb hne2 hm => ?_, fun a ha hpa => ?_⟩
      · show bd_X4_findCosts_68 fu (nI p) (nI (n_ord S p)) (nI k) s = _
        unfold bd_X4_findCosts_68
        rw [nm_e1, hs.2.1, if_neg (nI_ge hk (by omega)), ck_t (in64 (by omega)), nm_e1, cl64 (by omega), e6, if_pos (nI_lt hpk (by omega)), ck_t (px_in (by omega) (by omega)), nm_e1, px_cl (by omega) (by omega), ck_t (px_in (by omega) (by omega)), nm_e1, ck_t (px_in (by omega) (by omega)), nm_e1, px_cl (by omega) (by omega), ck_t (px_in (by omega) (by omega)), nm_e1, nm_e1, nI_1, e11 _ _ hx hk, wL_n (show (11 : Nat) ≠ 9 by decide), e11 _ _ hk hx, a1, a2]
      · rw [wL_n hc, wL_n hc]; exact i2 c hc
      · have n1 : ¬ (64 * a + b = 64 * k + n_ord S p) := fun e => by
          have := ix_inj (by omega) (by omega) e
          rw [this.1, this.2, hxp] at hm
          omega
        have n2 : ¬ (64 * a + b = 64 * n_ord S p + k) := fun e => by
          have := ix_inj (by omega) (by omega) e
          rw [this.1, this.2, hxp] at hm
          omega
        rw [wL_at, if_neg (fun hh => n1 hh.2), wL_at, if_neg (fun hh => n2 hh.2)]
        exact i3 a b ha hb hne2 hm
      · by_cases e : a = k
        · subst e
          constructor
          · rw [wL_at, if_neg (fun hh => by have := ix_inj (by omega) (by omega) hh.2; exact hne this.1), wL_at, if_pos ⟨rfl, rfl⟩]
          · rw [wL_at, if_pos ⟨rfl, rfl⟩]
        · have := i4 a (by omega) hpa
          constructor
          · rw [wL_at, if_neg (fun hh => by have := ix_inj (by omega) (by omega) hh.2; exact hne this.1), wL_at, if_neg (fun hh => by have := ix_inj (by omega) (by omega) hh.2; exact e this.2)]
            exact this.1
          · rw [wL_at, if_neg (fun hh => by have := ix_inj (by omega) (by omega) hh.2; exact e this.1), wL_at, if_neg (fun hh => by have := ix_inj (by omega) (by omega) hh.2; exact hne this.2)]
            exact this.2
    · refine ⟨s, ?_, i1, i2, i3, fun a ha hpa => ?_⟩
      · show bd_X4_findCosts_68 fu (nI p) (nI (n_ord S p)) (nI k) s = _
        unfold bd_X4_findCosts_68
        rw [nm_e1, hs.2.1, if_neg (nI_ge hk (by omega)), ck_t (in64 (by omega)), nm_e1, cl64 (by omega), e6, if_neg (nI_nlt (by omega) (by omega)), nm_e1, nI_1]
      · by_cases e : a = k
        · subst e; exact absurd hpa hpk
        · exact i4 a (by omega) hpa
  · intro s ⟨i1, i2, i3, i4⟩
    have hs : RMn S s := h.same i1
    refine ⟨s, ?_, i1, i2, fun a b ha hb hne hm => ?_⟩
    · show bd_X4_findCosts_68 fu (nI p) (nI (n_ord S p)) (nI (n_R S)) s = _
      unfold bd_X4_findCosts_68
      rw [nm_e1, hs.2.1, if_pos (nI_le (Nat.le_refl _) (by omega))]
    · by_cases e1 : n_pos S a = p
      · have e2 : a = n_ord S p := by rw [← e1, n_ord_pos ha]
        subst e2
        have : n_pos S b ≠ p := fun e3 => hne (by rw [← e3, n_ord_pos hb])
        by_cases hb2 : p < n_pos S b
        · exact (i4 b hb hb2).1
        · exact i3 _ b ha hb hne (by omega)
      · by_cases e3 : n_pos S b = p
        · have e2 : b = n_ord S p := by rw [← e3, n_ord_pos hb]
          subst e2
          by_cases ha2 : p < n_pos S a
          · exact (i4 a ha ha2).2
          · exact i3 a _ ha hb hne (by omega)
        · exact i3 a b ha hb hne (by omega)
end MC
