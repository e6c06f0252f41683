/-! the law: how many costs differ -/
theorem cn_flat (P : Nat → Bool) : ∀ m, cn P (9 * m) = cn2 (fun a b => P (9 * a + b)) 9 m
  | 0 => rfl
  | m + 1 => by
    show cn P (9 * m + 9) = cn2 (fun a b => P (9 * a + b)) 9 m + cn (fun b => P (9 * m + b)) 9
    rw [cn_add, cn_flat P m]
section LU
variable {S S' : Nt} {w f : WS} {fu : Nat}
theorem unlike_ok (w f : WS) (hf : 81 < fu) : f_L_unlike fu w f = some (nI (cn (fun i => !decide (f.1 6 i = f.1 7 i)) 81)) := by
  have l : ∃ (r : Int32), iter (fun q : Int32 × Int32 => bd_L_unlike_4 fu w f q.1 q.2) fu ((0 : Int32), (0 : Int32)) = some r ∧ r = nI (cn (fun i => !decide (f.1 6 i = f.1 7 i)) 81) := by
    refine iter_for0 (fun k (s : Int32) => (s, nI k)) 81 (fun k s => s = nI (cn (fun i => !decide (f.1 6 i = f.1 7 i)) k)) (fun (r : Int32) => r = nI (cn (fun i => !decide (f.1 6 i = f.1 7 i)) 81)) ?_ ?_ hf (0 : Int32) rfl
    · intro k s hk i1
      refine ⟨nI (cn (fun i => !decide (f.1 6 i = f.1 7 i)) (k + 1)), ?_, rfl⟩
      show bd_L_unlike_4 fu w f s (nI k) = _
      unfold bd_L_unlike_4
      rw [if_neg (show ¬ (81 : Int32) ≤ nI k from nI_ge (b := 81) hk (by decide)), ck_t (in81 hk), nm_e1, ck_t (in81 hk), nm_e1, cl81 hk, i1]
      show _ = some (Sum.inl (nI (cn (fun i => !decide (f.1 6 i = f.1 7 i)) k + (if (!decide (f.1 6 k = f.1 7 k)) = true then 1 else 0)), nI (k + 1)) : (Int32 × Int32) ⊕ Int32)
      by_cases e : f.1 6 k = f.1 7 k
      · rw [if_pos e, nm_e1, nm_e1, nI_1, if_neg (by rw [decide_eq_true e]; decide), show nI (cn (fun i => !decide (f.1 6 i = f.1 7 i)) k) + 0 = nI (cn (fun i => !decide (f.1 6 i = f.1 7 i)) k + 0) from nI_add _ 0]
      · rw [if_neg e, nm_e1, nm_e1, nI_1, nI_1, if_pos (by rw [decide_eq_false e]; rfl)]
    · intro s hs
      refine ⟨s, ?_, hs⟩
      show bd_L_unlike_4 fu w f s (nI 81) = _
      unfold bd_L_unlike_4
      rw [if_pos (show (81 : Int32) ≤ nI 81 from nI_le (a := 81) (Nat.le_refl _) (by decide))]
  obtain ⟨r, e, hr⟩ := l
  unfold f_L_unlike
  rw [e, bn_e, hr]
theorem n_arc_eq (e1 : n_R S' = n_R S) (e2 : n_fol S' = n_fol S) : n_arc S' = n_arc S := by
  show ctF (n_R S') (n_fol S') = ctF (n_R S) (n_fol S)
  rw [e1, e2]
theorem unlike_eq (hR : n_R S = 9) (hR' : n_R S' = 9) (e2 : n_fol S' = n_fol S) (h6 : ∀ p q, p < 9 → q < 9 → f.1 6 (9 * p + q) = cA S p q) (h7 : ∀ p q, p < 9 → q < 9 → f.1 7 (9 * p + q) = cA S' p q) (hf : 81 < fu) : f_L_unlike fu w f = some (nI (cn2 (chL S' (n_L S)) 9 9)) := by
  rw [unlike_ok w f hf, show (81 : Nat) = 9 * 9 from rfl, cn_flat]
  have e : cn2 (fun a b => !decide (f.1 6 (9 * a + b) = f.1 7 (9 * a + b))) 9 9 = cn2 (chL S' (n_L S)) 9 9 := by
    refine cn2_congr 9 fun a b ha hb => ?_
    rw [h6 a b ha hb, h7 a b ha hb]
    unfold cA chL
    have ea : n_arc S' a b = n_arc S a b := by rw [n_arc_eq (hR'.trans hR.symm) e2]
    rw [ea]
    by_cases hc : n_arc S a b = true
    · rw [if_pos hc, if_pos hc, hc, Bool.true_and]
      by_cases e3 : cI (n_L S a b) = cI (n_L S' a b)
      · have e4 := cI_kc.mp e3
        rw [decide_eq_true e3, e4, beq_self_eq_true]
      · have e4 : ¬ kc (n_L S a b) = kc (n_L S' a b) := fun h => e3 (cI_kc.mpr h)
        rw [decide_eq_false e3, beq_eq_false_iff_ne.mpr (fun h => e4 h.symm)]
    · rw [if_neg hc, if_neg hc, Bool.eq_false_iff.mpr hc, Bool.false_and, decide_eq_true rfl]
      rfl
  rw [e]
end LU
