/-! the reference: how many costs change -/
section MR
variable {S : Nt} {v : WS}
/-- the arcs whose cost isn't what o says -/
def chg (S : Nt) (o : Nat → Nat → Nat) (a b : Nat) : Bool := n_arc S a b && !(n_A S a b == o a b)
theorem copyC (v : WS) {fu : Nat} (hf : 4096 < fu) : ∃ r, iter (fun q : Int32 × WS => bd_X4_renewed_11 fu q.1 q.2) fu ((0 : Int32), v) = some r ∧ r.1 = v.1 ∧ (∀ c, c ≠ 10 → r.2 c = v.2 c) ∧ ∀ k, k < 4096 → r.2 10 k = v.2 9 k := by
  refine iter_for0 (fun k (s : WS) => (nI k, s)) 4096 (fun k s => s.1 = v.1 ∧ (∀ c, c ≠ 10 → s.2 c = v.2 c) ∧ ∀ j, j < k → s.2 10 j = v.2 9 j) (fun (r : WS) => r.1 = v.1 ∧ (∀ c, c ≠ 10 → r.2 c = v.2 c) ∧ ∀ k, k < 4096 → r.2 10 k = v.2 9 k) ?_ ?_ hf v ⟨rfl, fun c _ => rfl, fun j hj => absurd hj (Nat.not_lt_zero _)⟩
  · intro k s hk ⟨i1, i2, i3⟩
    refine ⟨wL s 10 k (s.2 9 k), ?_, i1, fun c hc => ?_, fun j hj => ?_⟩
    · show bd_X4_renewed_11 fu (nI k) s = _
      unfold bd_X4_renewed_11
      rw [if_neg (show ¬ (4096 : Int32) ≤ nI k from nI_ge (b := 4096) hk (by decide)), ck_t (vp_in_nI hk (by decide)), nm_e1, nI_clamp (by omega), ck_t (vp_in_nI hk (by decide)), nm_e1, nm_e1, nI_1]
    · rw [wL_n hc]; exact i2 c hc
    · rw [wL_at]
      by_cases e : j = k
      · rw [if_pos ⟨rfl, e⟩, e, i2 9 (by decide)]
      · rw [if_neg (fun hh => e hh.2)]; exact i3 j (by omega)
  · intro s ⟨i1, i2, i3⟩
    refine ⟨s, ?_, i1, i2, i3⟩
    show bd_X4_renewed_11 fu (nI 4096) s = _
    unfold bd_X4_renewed_11
    rw [if_pos (show (4096 : Int32) ≤ nI 4096 by decide)]
theorem cntRow (h : RMn S v) (ha' : RMa S v) (hc : RMc S v) (hn : NtOK S) {o : Nat → Nat → Nat} (ho : ∀ a b, a < n_R S → b < n_R S → a ≠ b → v.2 10 (64 * a + b) = lN (o a b) ∧ o a b ≤ 1000000000000) {fu : Nat} (hf : 64 < fu) {a : Nat} (ha : a < n_R S) (n0 : Nat) :
    iter (fun q : Int32 × Int32 => bd_X4_renewed_56 fu v (nI a) q.1 q.2) fu (nI n0, (0 : Int32)) = some (nI (n0 + cn (chg S o a) (n_R S))) := by
  have hR := hn.2.1
  have key : ∃ r, iter (fun q : Int32 × Int32 => bd_X4_renewed_56 fu v (nI a) q.1 q.2) fu (nI n0, (0 : Int32)) = some r ∧ r = nI (n0 + cn (chg S o a) (n_R S)) := by
    refine iter_for0 (fun k (s : Nat) => (nI s, nI k)) (n_R S) (fun b s => s = n0 + cn (chg S o a) b) (fun (r : Int32) => r = nI (n0 + cn (chg S o a) (n_R S))) ?_ ?_ (by omega) n0 rfl
    · intro b s hb hs
      refine ⟨s + (if chg S o a b = true then 1 else 0), ?_, by rw [hs, Nat.add_assoc]; rfl⟩
      show bd_X4_renewed_56 fu v (nI a) (nI s) (nI b) = _
      unfold bd_X4_renewed_56
      rw [nm_e1, h.2.1, if_neg (nI_ge hb (by omega)), ck_t (px_in (by omega) (by omega)), nm_e1, px_cl (by omega) (by omega)]
      simp only [nm_e1]
      rw [ck_t (px_in (by omega) (by omega)), ck_t (px_in (by omega) (by omega)), ha' a b ha hb, if_zo]
      by_cases e : n_arc S a b = true
      · have hne := (arcs_ok hn).2.2.2.2.1 a b ha hb e
        have hl := FW_I (c2_le hn) (o := n_ord S) (min (n_pos S a) (n_pos S b)) a b
        have ho2 := ho a b ha hb hne
        rw [if_pos e, hc a b ha hb hne, ho2.1]
        by_cases e2 : n_A S a b = o a b
        · rw [if_pos ((lg_cmp_eq _ _).mpr (by rw [e2])), if_neg (by unfold chg; rw [e2]; simp), nI_1, Int32.add_zero]
          rfl
        · rw [if_neg (fun h2 => e2 ((pk_lEQ (show n_A S a b < 2 ^ 63 by unfold n_A; omega) (by omega)).mp ((lg_cmp_eq _ _).mp h2))), if_pos (by unfold chg; rw [e]; simp [e2]), nI_1, nI_1]
      · rw [if_neg e, if_neg (by unfold chg; simp [e]), nI_1, Int32.add_zero]
        rfl
    · intro s hs
      refine ⟨nI s, ?_, by rw [hs]⟩
      show bd_X4_renewed_56 fu v (nI a) (nI s) (nI (n_R S)) = _
      unfold bd_X4_renewed_56
      rw [nm_e1, h.2.1, if_pos (nI_le (Nat.le_refl _) (by omega))]
  obtain ⟨r, e, rfl⟩ := key
  exact e
theorem cntAll (h : RMn S v) (ha' : RMa S v) (hc : RMc S v) (hn : NtOK S) {o : Nat → Nat → Nat} (ho : ∀ a b, a < n_R S → b < n_R S → a ≠ b → v.2 10 (64 * a + b) = lN (o a b) ∧ o a b ≤ 1000000000000) {fu : Nat} (hf : 64 < fu) :
    iter (fun q : Int32 × Int32 => bd_X4_renewed_46 fu v q.1 q.2) fu ((0 : Int32), (0 : Int32)) = some (nI (cn2 (chg S o) (n_R S) (n_R S))) := by
  have hR := hn.2.1
  have key : ∃ r, iter (fun q : Int32 × Int32 => bd_X4_renewed_46 fu v q.1 q.2) fu ((0 : Int32), (0 : Int32)) = some r ∧ r = nI (cn2 (chg S o) (n_R S) (n_R S)) := by
    refine iter_for0 (fun k (s : Nat) => (nI s, nI k)) (n_R S) (fun a s => s = cn2 (chg S o) (n_R S) a) (fun (r : Int32) => r = nI (cn2 (chg S o) (n_R S) (n_R S))) ?_ ?_ (by omega) 0 rfl
    · intro a s ha hs
      refine ⟨s + cn (chg S o a) (n_R S), ?_, by rw [hs]; rfl⟩
      show bd_X4_renewed_46 fu v (nI s) (nI a) = _
      unfold bd_X4_renewed_46
      rw [nm_e1, h.2.1, if_neg (nI_ge ha (by omega)), cntRow h ha' hc hn ho hf ha s, bn_e, nm_e1, nI_1]
    · intro s hs
      refine ⟨nI s, ?_, by rw [hs]⟩
      show bd_X4_renewed_46 fu v (nI s) (nI (n_R S)) = _
      unfold bd_X4_renewed_46
      rw [nm_e1, h.2.1, if_pos (nI_le (Nat.le_refl _) (by omega))]
  obtain ⟨r, e, rfl⟩ := key
  exact e
/-- behind a change of weights, closures or turns -/
theorem renewed_ok (h : RMn S v) (ho : RMo S v) (ha : RMa S v) (hn : NtOK S) (hp : v.1 0 9 = 1) {o : Nat → Nat → Nat} (hold : ∀ a b, a < n_R S → b < n_R S → a ≠ b → v.2 9 (64 * a + b) = lN (o a b) ∧ o a b ≤ 1000000000000) {fu : Nat} (hf : 4096 < fu) :
    ∃ r, f_X4_renewed fu v = some (nI (cn2 (chg S o) (n_R S) (n_R S)), r) ∧ r.1 = v.1 ∧ (∀ c, c ≠ 9 → c ≠ 10 → c ≠ 11 → r.2 c = v.2 c) ∧ RMc S r := by
  have hR := hn.2.1
  obtain ⟨u, e1, u1, u2, u3⟩ := copyC v hf
  obtain ⟨r, e2, r1, r2, r3⟩ := findCosts_ok (h.same u1) (show RMo S u by unfold RMo; rw [u1]; exact ho) hn (show 64 < fu by omega)
  have r1' : r.1 = v.1 := r1.trans u1
  refine ⟨r, ?_, r1', fun c h9 h10 h11 => (r2 c h9 h11).trans (u2 c h10), r3⟩
  have ho2 : ∀ a b, a < n_R S → b < n_R S → a ≠ b → r.2 10 (64 * a + b) = lN (o a b) ∧ o a b ≤ 1000000000000 := fun a b ha hb hne => by
    rw [r2 10 (by decide) (by decide), u3 _ (by omega)]
    exact hold a b ha hb hne
  unfold f_X4_renewed
  rw [nm_e1, hp, if_neg (by decide), e1, bn_e, e2, bn_e, cntAll (h.same r1') (show RMa S r by unfold RMa; rw [r1']; exact ha) r3 hn ho2 (by omega), bn_e]
theorem renewed_no (hp : v.1 0 9 = 0) (fu : Nat) : f_X4_renewed fu v = some (0, v) := by
  unfold f_X4_renewed
  rw [nm_e1, hp, if_pos rfl]
end MR
