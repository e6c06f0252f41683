/-! the best path: the road that goes on, and all of them -/
noncomputable def nxP (S : Nt) (g a : Nat) : Nat → Bool := fun b => decide (b < n_R S) && n_fol S a b && decide (s1 S a b + n_Z S g b = n_Z S g a)
noncomputable def n_nx (S : Nt) (g a : Nat) : Nat := nxt (nxP S g a) 0
noncomputable def pq (S : Nt) (g r : Nat) : Nat → Nat
  | 0 => r
  | i + 1 => n_nx S g (pq S g r i)
theorem pq_s (S : Nt) (g r : Nat) : ∀ i, pq S g (n_nx S g r) i = pq S g r (i + 1)
  | 0 => rfl
  | i + 1 => by
    show n_nx S g (pq S g (n_nx S g r) i) = n_nx S g (pq S g r (i + 1))
    rw [pq_s S g r i]
def PathOK (S : Nt) (g r N : Nat) : Prop := ∀ i, i < N → pq S g r i < n_R S ∧ n_Z S g (pq S g r i) < 536870912 ∧ (n_Z S g (pq S g r i) = 0 ↔ i + 1 = N)
section MP
variable {S : Nt} {v : WS} {g : Nat} {be co : Nat → Nat}
theorem Z_goal (hn : NtOK S) (hg : g < 2 ^ 31) {r : Nat} (hr : r < n_R S) (hl : n_Z S g r < 536870912) : n_Z S g r = 0 ↔ n_t S r = g := by
  obtain ⟨⟨b1, b2, b3⟩, h2⟩ := Z_ok hn hg
  have ho := (h2 r hr hl).2.2
  constructor
  · intro h
    rcases b3 r hr with e | ⟨b, hb, e⟩
    · by_cases hg2 : n_o S r = true ∧ n_t S r = g
      · exact hg2.2
      · have : goalB S g r = 536870912 := if_neg hg2
        omega
    · have := s1_pos hn r b
      unfold ta at e
      omega
  · intro h
    have := b1 r hr
    have e : goalB S g r = 0 := if_pos ⟨ho, h⟩
    omega
theorem nx_ok (hn : NtOK S) (hg : g < 2 ^ 31) {r : Nat} (hr : r < n_R S) (hl : n_Z S g r < 536870912) (h0 : n_Z S g r ≠ 0) : n_nx S g r < n_R S ∧ n_fol S r (n_nx S g r) = true ∧ s1 S r (n_nx S g r) + n_Z S g (n_nx S g r) = n_Z S g r ∧ ∀ b, b < n_nx S g r → nxP S g r b = false := by
  have hR := hn.2.1
  obtain ⟨⟨b1, b2, b3⟩, h2⟩ := Z_ok hn hg
  have ho := (h2 r hr hl).2.2
  have ex : ∃ b, b < n_R S ∧ nxP S g r b = true := by
    rcases b3 r hr with e | ⟨b, hb, e⟩
    · by_cases hg2 : n_o S r = true ∧ n_t S r = g
      · have : goalB S g r = 0 := if_pos hg2
        omega
      · have : goalB S g r = 536870912 := if_neg hg2
        omega
    · have k := b2 r hr b hb
      have hs : s1 S r b < 536870912 := by unfold ta at e; omega
      have hc := (s1_lt hn r b).mp hs
      have hf : n_fol S r b = true := by
        rcases c2_cases hn r b with ⟨e2, _⟩ | ⟨e2, _⟩
        · omega
        · exact e2.2.2.2.2.1
      refine ⟨b, hb, ?_⟩
      unfold nxP
      rw [decide_eq_true hb, hf, decide_eq_true (show s1 S r b + n_Z S g b = n_Z S g r by unfold ta at e k; omega)]
      rfl
  obtain ⟨b, hb, hp⟩ := ex
  obtain ⟨k1, k2, k3, k4⟩ := nxt_ok (nxP S g r) 64 0 rfl
  have hlt : nxt (nxP S g r) 0 < 64 := by
    apply Nat.lt_of_not_le
    intro hge
    have := k3 b (Nat.zero_le b) (by omega)
    rw [hp] at this
    cases this
  have h5 := k4 hlt
  have h6 : nxP S g r (n_nx S g r) = true := h5
  unfold nxP at h6
  simp only [Bool.and_eq_true, decide_eq_true_eq] at h6
  exact ⟨h6.1.1, h6.1.2, h6.2, fun b hb => k3 b (Nat.zero_le b) hb⟩
theorem path_ex (hn : NtOK S) (hg : g < 2 ^ 31) : ∀ (M r : Nat), n_Z S g r = M → r < n_R S → M < 536870912 → ∃ N, 1 ≤ N ∧ N ≤ 1 + cn (fun x => decide (n_Z S g x < M)) (n_R S) ∧ PathOK S g r N := by
  intro M
  induction M using Nat.strongRecOn with
  | ind M ih =>
    intro r hM hr hl
    by_cases h0 : M = 0
    · refine ⟨1, Nat.le_refl 1, by omega, fun i hi => ?_⟩
      have e : i = 0 := by omega
      subst e
      show r < n_R S ∧ n_Z S g r < 536870912 ∧ (n_Z S g r = 0 ↔ 0 + 1 = 1)
      exact ⟨hr, by omega, fun _ => rfl, fun _ => by omega⟩
    · have hx := nx_ok hn hg hr (by omega) (by omega)
      have hs := s1_pos hn r (n_nx S g r)
      obtain ⟨N, n1, n2, n3⟩ := ih (n_Z S g (n_nx S g r)) (by omega) (n_nx S g r) rfl hx.1 (by omega)
      have hc := cn_lt (P := fun x => decide (n_Z S g x < n_Z S g (n_nx S g r))) (Q := fun x => decide (n_Z S g x < M)) (k0 := n_nx S g r) (by simp) (by simp; omega) (n_R S) (fun x _ hx2 => by simp at hx2 ⊢; omega) hx.1
      refine ⟨N + 1, by omega, by omega, fun i hi => ?_⟩
      cases i with
      | zero =>
        show r < n_R S ∧ n_Z S g r < 536870912 ∧ (n_Z S g r = 0 ↔ 0 + 1 = N + 1)
        exact ⟨hr, by omega, fun h => by omega, fun h => by omega⟩
      | succ i =>
        have k := n3 i (by omega)
        rw [pq_s] at k
        exact ⟨k.1, k.2.1, fun h => by have := k.2.2.mp h; omega, fun h => k.2.2.mpr (by omega)⟩
theorem path_ok (hn : NtOK S) (hg : g < 2 ^ 31) {r : Nat} (hr : r < n_R S) (hl : n_Z S g r < 536870912) : ∃ N, 1 ≤ N ∧ N ≤ 64 ∧ PathOK S g r N := by
  obtain ⟨N, n1, n2, n3⟩ := path_ex hn hg (n_Z S g r) r rfl hr hl
  have hc := cn_lt (P := fun x => decide (n_Z S g x < n_Z S g r)) (Q := fun _ => true) (k0 := r) (by simp) rfl (n_R S) (fun _ _ _ => rfl) hr
  have hc2 := cn_le (fun _ => true) (n_R S)
  have := hn.2.1
  exact ⟨N, n1, by omega, n3⟩
/-- the reference: the road that goes on -/
theorem nextRoad_ok (h : RMn S v) (hn : NtOK S) (rb : RB S be co v) (hE : FbEnd S g be co) (hg : g < 2 ^ 31) {fu : Nat} (hf : 64 < fu) {r : Nat} (hr : r < n_R S) (hl : n_Z S g r < 536870912) (h0 : n_Z S g r ≠ 0) : f_X4_nextRoad fu v (nI r) = some (nI (n_nx S g r)) := by
  have hR := hn.2.1
  have hx := nx_ok hn hg hr hl h0
  have zr := fb_Z hn hE hr
  have lr := zr.1.mpr hl
  have zr2 := zr.2 lr
  have cr := fb_co hn hE hr lr
  have e0r := hE.1 r hr
  have hwr := (hn.2.2.1 r hr).2.2.2
  have key : ∃ x, iter (fun q : Int32 => bd_X4_nextRoad_2 fu v (nI r) q) fu (0 : Int32) = some x ∧ x = nI (n_nx S g r) := by
    refine iter_for0 (fun k (_ : Unit) => nI k) (n_nx S g r) (fun _ _ => True) (fun (x : Int32) => x = nI (n_nx S g r)) ?_ ?_ (by omega) () trivial
    · intro k s hk _
      refine ⟨(), ?_, trivial⟩
      have hkn : k < n_R S := by omega
      have hnot := hx.2.2.2 k hk
      have zk := fb_Z hn hE hkn
      have e0k := hE.1 k hkn
      have cle := c2_le hn r k
      show bd_X4_nextRoad_2 fu v (nI r) (nI k) = some (Sum.inl (nI (k + 1)))
      unfold bd_X4_nextRoad_2
      rw [step_ok h hn fu hr hkn, bn_e]
      by_cases hc : c2 S r k < 1000000000000
      · rw [if_neg (fun e => by have := (lg_cmp_eq _ _).mp e; rw [lN_far] at this; have := (pk_lEQ (by omega) (by decide)).mp this; omega), ck_t (in64 (by omega)), nm_e1, cl64 (by omega), (rb k hkn).1]
        by_cases hb : be k < 1000000000000
        · have hp0 : 0 ≤ (n_p S r k).toInt := by
            rcases c2_cases hn r k with ⟨e, _⟩ | ⟨e, _⟩
            · omega
            · exact e.2.2.2.2.2
          have hfol : n_fol S r k = true := by
            rcases c2_cases hn r k with ⟨e, _⟩ | ⟨e, _⟩
            · omega
            · exact e.2.2.2.2.1
          have q := c2_q hn hc
          have es := s1_eq hc
          have hqb : n_q S r k ≤ 1000 := by have := n_p_le hn r k; unfold n_q; omega
          have zk2 := zk.2 hb
          have ck2 := fb_co hn hE hkn hb
          have hw := (hn.2.2.1 k hkn).2.2.2
          have ecost : Int32.toInt64 (nI (n_w S r) + n_p S r k) + lN (be k) = lN (n_w S r + n_q S r k + be k) := by
            conv => lhs; rw [i_nn hp0]
            rw [nI_add, nI_l (by have : (n_p S r k).toInt.toNat = n_q S r k := rfl; omega), lN_add]
            rfl
          have hne : ¬ (n_w S r + n_q S r k + be k = be r ∧ co k + 1 = co r) := by
            intro hh
            unfold nxP at hnot
            rw [decide_eq_true hkn, hfol, decide_eq_true (show s1 S r k + n_Z S g k = n_Z S g r by omega)] at hnot
            cases hnot
          rw [if_neg (fun e => by have := (lg_cmp_eq _ _).mp e; rw [lN_far] at this; have := (pk_lEQ (by omega) (by decide)).mp this; omega), ck_t (in64 (by omega)), nm_e1, cl64 (by omega), (h.2.2.1 r hr).2.2.1, penalty_ok h hn fu hr hkn, bn_e]
          simp only [nm_e1, ck_t (in64 (show k < 64 by omega)), ck_t (in64 (show r < 64 by omega))]
          rw [(rb r hr).1, ecost, (rb k hkn).2, (rb r hr).2, nI_1, nI_1]
          by_cases l1 : n_w S r + n_q S r k + be k = be r
          · rw [if_pos ((lg_cmp_eq _ _).mpr (by rw [l1])), if_neg (fun e => hne ⟨l1, (nI_eq (by omega) (by omega)).mp e⟩)]
          · rw [if_neg (fun e => l1 ((pk_lEQ (by omega) (by omega)).mp ((lg_cmp_eq _ _).mp e)))]
        · have e3 : be k = 1000000000000 := by omega
          rw [if_pos ((lg_cmp_eq _ _).mpr (by rw [e3, ← lN_far])), nm_e1, nI_1]
      · have e3 : c2 S r k = 1000000000000 := by omega
        rw [if_pos ((lg_cmp_eq _ _).mpr (by rw [e3, ← lN_far])), nm_e1, nI_1]
    · intro s _
      refine ⟨nI (n_nx S g r), ?_, rfl⟩
      show bd_X4_nextRoad_2 fu v (nI r) (nI (n_nx S g r)) = some (Sum.inr (nI (n_nx S g r)))
      generalize n_nx S g r = k at hx ⊢
      have hkn : k < n_R S := hx.1
      have zk := fb_Z hn hE hkn
      have e0k := hE.1 k hkn
      have hs : s1 S r k < 536870912 := by omega
      have hc := (s1_lt hn r k).mp hs
      have hb : be k < 1000000000000 := zk.1.mpr (by omega)
      have hp0 : 0 ≤ (n_p S r k).toInt := by
        rcases c2_cases hn r k with ⟨e, _⟩ | ⟨e, _⟩
        · omega
        · exact e.2.2.2.2.2
      have q := c2_q hn hc
      have es := s1_eq hc
      have hqb : n_q S r k ≤ 1000 := by have := n_p_le hn r k; unfold n_q; omega
      have zk2 := zk.2 hb
      have ck2 := fb_co hn hE hkn hb
      have hw := (hn.2.2.1 k hkn).2.2.2
      have ecost : Int32.toInt64 (nI (n_w S r) + n_p S r k) + lN (be k) = lN (n_w S r + n_q S r k + be k) := by
        conv => lhs; rw [i_nn hp0]
        rw [nI_add, nI_l (by have : (n_p S r k).toInt.toNat = n_q S r k := rfl; omega), lN_add]
        rfl
      unfold bd_X4_nextRoad_2
      rw [step_ok h hn fu hr hkn, bn_e, if_neg (fun e => by have := (lg_cmp_eq _ _).mp e; rw [lN_far] at this; have := (pk_lEQ (by omega) (by decide)).mp this; omega), ck_t (in64 (by omega)), nm_e1, cl64 (by omega), (rb k hkn).1]
      rw [if_neg (fun e => by have := (lg_cmp_eq _ _).mp e; rw [lN_far] at this; have := (pk_lEQ (by omega) (by decide)).mp this; omega), ck_t (in64 (by omega)), nm_e1, cl64 (by omega), (h.2.2.1 r hr).2.2.1, penalty_ok h hn fu hr hkn, bn_e]
      simp only [nm_e1, ck_t (in64 (show k < 64 by omega)), ck_t (in64 (show r < 64 by omega))]
      rw [(rb r hr).1, ecost, (rb k hkn).2, (rb r hr).2, nI_1, if_pos ((lg_cmp_eq _ _).mpr (by rw [show n_w S r + n_q S r k + be k = be r by omega])), if_pos (by rw [show co k + 1 = co r by omega])]
  obtain ⟨x, e, rfl⟩ := key
  unfold f_X4_nextRoad
  rw [e, bn_e]
end MP
