/-! the reference's search: one improvement -/
def sm (f : Nat → Nat) : Nat → Nat
  | 0 => 0
  | n + 1 => sm f n + f n
theorem sm_lt {f h : Nat → Nat} {a : Nat} (ha : f a < h a) (he : ∀ r, r ≠ a → f r = h r) : ∀ n, sm f n ≤ sm h n ∧ (a < n → sm f n < sm h n)
  | 0 => ⟨Nat.le_refl 0, fun h => absurd h (Nat.not_lt_zero _)⟩
  | n + 1 => by
    have ih := sm_lt ha he n
    unfold sm
    by_cases e : n = a
    · subst e
      exact ⟨by omega, fun _ => by omega⟩
    · rw [he n e]
      exact ⟨by omega, fun h => by have := ih.2 (by omega); omega⟩
def updN (f : Nat → Nat) (a x : Nat) : Nat → Nat := fun r => if r = a then x else f r
theorem updN_s {f : Nat → Nat} {a x : Nat} : updN f a x a = x := if_pos rfl
theorem updN_n {f : Nat → Nat} {a x r : Nat} (h : r ≠ a) : updN f a x r = f r := if_neg h
def fbC (S : Nt) (be : Nat → Nat) (a b : Nat) : Nat := n_w S a + n_q S a b + be b
def FbInv (S : Nt) (g : Nat) (be co : Nat → Nat) : Prop :=
  (∀ r, r < n_R S → (be r = 1000000000000 ∧ co r = 1) ∨ (1 ≤ co r ∧ co r ≤ be r ∧ n_w S r ≤ be r ∧ be r ≤ 11000 * (1 + cn (fun x => decide (be x < be r)) (n_R S)))) ∧
  (∀ r, r < n_R S → n_o S r = true → n_t S r = g → be r = n_w S r ∧ co r = 1) ∧
  ∀ r, r < n_R S → be r < 1000000000000 → (n_o S r = true ∧ n_t S r = g ∧ be r = n_w S r ∧ co r = 1) ∨ ∃ b, b < n_R S ∧ c2 S r b < 1000000000000 ∧ be b < 1000000000000 ∧ (fbC S be r b < be r ∨ (fbC S be r b = be r ∧ co b + 1 ≤ co r))
def fbCl (S : Nt) (be co : Nat → Nat) (a b : Nat) : Prop := c2 S a b < 1000000000000 → be b < 1000000000000 → be a < fbC S be a b ∨ (be a = fbC S be a b ∧ co a ≤ co b + 1)
def fbMu (S : Nt) (be co : Nat → Nat) : Nat := sm (fun r => 1048576 * be r + co r) (n_R S)
def RB (S : Nt) (be co : Nat → Nat) (v : WS) : Prop := ∀ r, r < n_R S → v.2 20 r = lN (be r) ∧ v.1 21 r = nI (co r)
def FrB (u v : WS) : Prop := (∀ c, c ≠ 21 → u.1 c = v.1 c) ∧ ∀ c, c ≠ 20 → u.2 c = v.2 c
theorem FrB.rf (v : WS) : FrB v v := ⟨fun _ _ => rfl, fun _ _ => rfl⟩
theorem FrB.trans {u v w : WS} (h : FrB u v) (h2 : FrB v w) : FrB u w := ⟨fun c hc => (h.1 c hc).trans (h2.1 c hc), fun c hc => (h.2 c hc).trans (h2.2 c hc)⟩
theorem RMn.frB {S : Nt} {u v : WS} (h : RMn S v) (f : FrB u v) : RMn S u := by
  unfold RMn
  rw [f.1 0 (by decide), f.1 1 (by decide), f.1 2 (by decide), f.1 3 (by decide), f.1 4 (by decide), f.1 5 (by decide)]
  exact h
section FI
variable {S : Nt} {g : Nat} {be co : Nat → Nat} {v : WS}
theorem FbInv.fin (hn : NtOK S) (h : FbInv S g be co) {r : Nat} (hr : r < n_R S) (hf : be r < 1000000000000) : 1 ≤ co r ∧ co r ≤ be r ∧ n_w S r ≤ be r ∧ be r ≤ 715000 := by
  rcases h.1 r hr with e | e
  · omega
  · have := cn_le (fun x => decide (be x < be r)) (n_R S)
    have := hn.2.1
    omega
theorem FbInv.better (hn : NtOK S) (h : FbInv S g be co) {a b : Nat} (ha : a < n_R S) (hb : b < n_R S) (hc : c2 S a b < 1000000000000) (hf : be b < 1000000000000) (hbt : fbC S be a b < be a ∨ (fbC S be a b = be a ∧ co b + 1 < co a)) :
    FbInv S g (updN be a (fbC S be a b)) (updN co a (co b + 1)) ∧ fbMu S (updN be a (fbC S be a b)) (updN co a (co b + 1)) < fbMu S be co := by
  have hbf := h.fin hn hb hf
  have hwa := (hn.2.2.1 a ha).2.2.2
  have hq : n_q S a b ≤ 1000 := by have := n_p_le hn a b; unfold n_q; omega
  have hC : fbC S be a b = n_w S a + n_q S a b + be b := rfl
  have hne : b ≠ a := fun e => by rw [e] at hC; rw [e] at hbt; omega
  have hcoa : fbC S be a b = be a → co a ≤ 715000 := fun e => by
    have := h.fin hn ha (by omega)
    omega
  obtain ⟨i0, i1, i3⟩ := h
  have hle : ∀ r, updN be a (fbC S be a b) r ≤ be r := fun r => by
    by_cases e : r = a
    · rw [e, updN_s]; omega
    · rw [updN_n e]; exact Nat.le_refl _
  refine ⟨⟨fun r hr => ?_, fun r hr ho ht => ?_, fun r hr hfr => ?_⟩, ?_⟩
  · by_cases e : r = a
    · subst e
      right
      rw [updN_s, updN_s]
      refine ⟨by omega, by omega, by omega, ?_⟩
      rcases i0 b hb with e2 | e2
      · omega
      · have k := cn_lt (P := fun x => decide (be x < be b)) (Q := fun x => decide (updN be r (fbC S be r b) x < fbC S be r b)) (k0 := b) (by simp) (by rw [updN_n hne]; simp; omega) (n_R S) (fun x _ hx => by
          simp only [decide_eq_true_eq] at hx ⊢
          by_cases e3 : x = r
          · rw [e3] at hx; omega
          · rw [updN_n e3]; omega) hb
        omega
    · rw [updN_n e, updN_n e]
      rcases i0 r hr with e2 | e2
      · exact Or.inl e2
      · right
        refine ⟨e2.1, e2.2.1, e2.2.2.1, ?_⟩
        have k := cn_mono (P := fun x => decide (be x < be r)) (Q := fun x => decide (updN be a (fbC S be a b) x < be r)) (n_R S) (fun x _ hx => by
          simp only [decide_eq_true_eq] at hx ⊢
          have := hle x
          omega)
        omega
  · have := i1 r hr ho ht
    by_cases e : r = a
    · subst e; omega
    · rw [updN_n e, updN_n e]; exact this
  · by_cases e : r = a
    · subst e
      right
      refine ⟨b, hb, hc, by rw [updN_n hne]; exact hf, Or.inr ⟨?_, by rw [updN_n hne, updN_s]; exact Nat.le_refl _⟩⟩
      rw [updN_s]
      unfold fbC
      rw [updN_n hne]
    · rw [updN_n e] at hfr ⊢
      rw [updN_n e]
      rcases i3 r hr hfr with k | ⟨b0, k1, k2, k3, k4⟩
      · exact Or.inl k
      · right
        refine ⟨b0, k1, k2, Nat.lt_of_le_of_lt (hle b0) k3, ?_⟩
        have hC0 : fbC S be r b0 = n_w S r + n_q S r b0 + be b0 := rfl
        have hC1 : fbC S (updN be a (fbC S be a b)) r b0 = n_w S r + n_q S r b0 + updN be a (fbC S be a b) b0 := rfl
        by_cases e2 : b0 = a
        · subst e2
          rw [updN_s] at hC1
          rw [updN_s]
          omega
        · rw [updN_n e2] at hC1
          rw [updN_n e2]
          omega
  · unfold fbMu
    refine (sm_lt (a := a) ?_ (fun r hr => by rw [updN_n hr, updN_n hr]) (n_R S)).2 ha
    rw [updN_s, updN_s]
    omega
theorem RB.upd (h : RB S be co v) {a x y : Nat} : RB S (updN be a x) (updN co a y) (wI (wL v 20 a (lN x)) 21 a (nI y)) := by
  intro r hr
  rw [wI_2, wL_at, wI_at]
  by_cases e : r = a
  · rw [if_pos ⟨rfl, e⟩, if_pos ⟨rfl, e⟩, e, updN_s, updN_s]
    exact ⟨rfl, rfl⟩
  · rw [if_neg (fun hh => e hh.2), if_neg (fun hh => e hh.2), updN_n e, updN_n e]
    exact h r hr
theorem FrB.upd (v : WS) (a : Nat) (x : Int64) (y : Int32) : FrB (wI (wL v 20 a x) 21 a y) v := ⟨fun c hc => by rw [wI_n hc]; rfl, fun c hc => by rw [wI_2, wL_n hc]⟩
theorem improves_ok (h : RMn S v) (hn : NtOK S) (fu : Nat) {a b : Nat} (ha : a < n_R S) (hb : b < n_R S) (rb : RB S be co v) (J : FbInv S g be co) :
    (f_X4_improves fu v (nI a) (nI b) = some (0, v) ∧ fbCl S be co a b) ∨ ∃ v' be' co', f_X4_improves fu v (nI a) (nI b) = some (1, v') ∧ FrB v' v ∧ RB S be' co' v' ∧ FbInv S g be' co' ∧ fbMu S be' co' < fbMu S be co := by
  have hR := hn.2.1
  have hbl : ∀ r, r < n_R S → be r ≤ 1000000000000 := fun r hr => by
    rcases J.1 r hr with e | e
    · omega
    · have := cn_le (fun x => decide (be x < be r)) (n_R S)
      omega
  have hcl : ∀ r, r < n_R S → co r < 1000000 := fun r hr => by
    rcases J.1 r hr with e | e
    · omega
    · have := cn_le (fun x => decide (be x < be r)) (n_R S)
      omega
  have b1 := hbl a ha
  have b2 := hbl b hb
  have l1 := hcl a ha
  have l2 := hcl b hb
  have cle := c2_le hn a b
  unfold f_X4_improves
  rw [step_ok h hn fu ha hb, bn_e]
  by_cases hc : c2 S a b < 1000000000000
  · rw [if_neg (fun e => by have := (lg_cmp_eq _ _).mp e; rw [lN_far] at this; have := (pk_lEQ (by omega) (by decide)).mp this; omega), ck_t (in64 (by omega)), nm_e1, cl64 (by omega), (rb b hb).1]
    by_cases hf : be b < 1000000000000
    · have hp0 : 0 ≤ (n_p S a b).toInt := by
        rcases c2_cases hn a b with ⟨e, _⟩ | ⟨e, _⟩
        · omega
        · exact e.2.2.2.2.2
      have hq : n_q S a b ≤ 1000 := by have := n_p_le hn a b; unfold n_q; omega
      have hwa := (hn.2.2.1 a ha).2.2.2
      have hbf := J.fin hn hb hf
      have hC : fbC S be a b = n_w S a + n_q S a b + be b := rfl
      have ecost : Int32.toInt64 (v.1 3 a + n_p S a b) + lN (be b) = lN (fbC S be a b) := by
        rw [(h.2.2.1 a ha).2.2.1]
        conv => lhs; rw [i_nn hp0]
        rw [nI_add, nI_l (by have : (n_p S a b).toInt.toNat = n_q S a b := rfl; omega), lN_add]
        rfl
      rw [if_neg (fun e => by have := (lg_cmp_eq _ _).mp e; rw [lN_far] at this; have := (pk_lEQ (by omega) (by decide)).mp this; omega), ck_t (in64 (by omega)), nm_e1, cl64 (by omega), penalty_ok h hn fu ha hb, bn_e, ck_t (in64 (by omega)), nm_e1, ecost, nm_e1, ck_t (in64 (by omega)), nm_e1, (rb a ha).1]
      by_cases hgt : be a < fbC S be a b
      · left
        rw [if_pos ((lg_cmp_gt _ _).mpr ((pk_lLT (by omega) (by omega)).mpr hgt))]
        exact ⟨rfl, fun _ _ => Or.inl hgt⟩
      · rw [if_neg (fun e => hgt ((pk_lLT (by omega) (by omega)).mp ((lg_cmp_gt _ _).mp e))), ck_t (in64 (by omega)), nm_e1]
        by_cases heq : fbC S be a b = be a
        · rw [if_pos ((lg_cmp_eq _ _).mpr (by rw [heq])), ck_t (in64 (by omega)), nm_e1, (rb b hb).2, ck_t (in64 (by omega)), nm_e1, (rb a ha).2, nI_1]
          by_cases hl : co b + 1 < co a
          · right
            rw [if_pos ((nI_ltI (by omega) (by omega)).mpr hl)]
            simp only [nm_e1]
            rw [ck_t (in64 (by omega)), ck_t (in64 (by omega)), ck_t (in64 (by omega)), wL_1, (rb b hb).2, nI_1]
            have := J.better hn ha hb hc hf (Or.inr ⟨heq, hl⟩)
            exact ⟨_, _, _, rfl, FrB.upd _ _ _ _, rb.upd, this.1, this.2⟩
          · left
            rw [if_neg (fun e => hl ((nI_ltI (by omega) (by omega)).mp e))]
            exact ⟨rfl, fun _ _ => Or.inr ⟨heq.symm, by omega⟩⟩
        · right
          rw [if_neg (fun e => heq ((pk_lEQ (by omega) (by omega)).mp ((lg_cmp_eq _ _).mp e)))]
          simp only [nm_e1]
          rw [ck_t (in64 (by omega)), ck_t (in64 (by omega)), ck_t (in64 (by omega)), wL_1, (rb b hb).2, nI_1]
          have := J.better hn ha hb hc hf (Or.inl (by omega))
          exact ⟨_, _, _, rfl, FrB.upd _ _ _ _, rb.upd, this.1, this.2⟩
    · left
      rw [if_pos ((lg_cmp_eq _ _).mpr (by rw [lN_far, show be b = 1000000000000 by omega]))]
      exact ⟨rfl, fun _ h2 => absurd h2 hf⟩
  · left
    rw [if_pos ((lg_cmp_eq _ _).mpr (by rw [lN_far, show c2 S a b = 1000000000000 by omega]))]
    exact ⟨rfl, fun h2 _ => absurd h2 hc⟩
end FI
