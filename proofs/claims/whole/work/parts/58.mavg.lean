/-! the reference: averageDistance, nearest, detour -/
noncomputable def av (S : Nt) (a : Nat) : Nat → Nat × Nat
  | 0 => (0, 0)
  | j + 1 => if j = a then av S a j else match n_c S a j with
    | none => av S a j
    | some d => ((av S a j).1 + d, (av S a j).2 + 1)
theorem av_le {S : Nt} (hn : NtOK S) {a : Nat} : ∀ j, j ≤ n_J S → (av S a j).1 ≤ 715000 * j ∧ (av S a j).2 ≤ j
  | 0, _ => ⟨Nat.le_refl 0, Nat.le_refl 0⟩
  | j + 1, h => by
    have ih := av_le hn (a := a) j (by omega)
    have hJ := hn.1
    unfold av
    by_cases e : j = a
    · rw [if_pos e]; omega
    · rw [if_neg e]
      cases hc : n_c S a j with
      | none => show (av S a j).1 ≤ 715000 * (j + 1) ∧ (av S a j).2 ≤ j + 1; omega
      | some d =>
        have := n_c_le hn (show j < 2 ^ 31 by omega) hc
        show (av S a j).1 + d ≤ 715000 * (j + 1) ∧ (av S a j).2 + 1 ≤ j + 1
        omega
/-- the nearest place: pl tells the places of the kind -/
noncomputable def nst (S : Nt) (a : Nat) (pl : Nat → Bool) : Nat → Option Nat := bst (dN S a) (fun j => pl j && (n_c S a j).isSome)
section MA
variable {S : Nt} {v : WS}
theorem avLoop (h : RMn S v) (hn : NtOK S) {fu : Nat} (hf : 2 ^ 80 ≤ fu) {a : Nat} (ha : a < n_J S) : ∃ r : Int64 × Int32 × WS, iter (fun q : Int64 × Int32 × Int32 × WS => bd_X4_averageDistance_27 fu (nI a) q.1 q.2.1 q.2.2.1 q.2.2.2) fu ((0 : Int64), (0 : Int32), (0 : Int32), v) = some r ∧ r.1 = lN (av S a (n_J S)).1 ∧ r.2.1 = nI (av S a (n_J S)).2 ∧ FrB r.2.2 v := by
  have hJ := hn.1
  refine iter_for0 (fun k (s : WS) => (lN (av S a k).1, nI (av S a k).2, nI k, s)) (n_J S) (fun k s => FrB s v) (fun (r : Int64 × Int32 × WS) => r.1 = lN (av S a (n_J S)).1 ∧ r.2.1 = nI (av S a (n_J S)).2 ∧ FrB r.2.2 v) ?_ ?_ (by omega) v (FrB.rf v)
  · intro k s hk i1
    have hs := h.frB i1
    have hl := av_le hn (a := a) k (by omega)
    obtain ⟨r, e, f1, _⟩ := between_ok hs hn hf ha hk
    refine ⟨r, ?_, f1.trans i1⟩
    show bd_X4_averageDistance_27 fu (nI a) (lN (av S a k).1) (nI (av S a k).2) (nI k) s = some (Sum.inl (lN (av S a (k + 1)).1, nI (av S a (k + 1)).2, nI (k + 1), r))
    unfold bd_X4_averageDistance_27
    rw [nm_e1, hs.1, if_neg (nI_ge hk (by omega)), e, bn2_e]
    by_cases c1 : k = a
    · have ea : av S a (k + 1) = av S a k := if_pos c1
      rw [if_pos (by rw [c1]), nm_e1, nI_1, ea]
    · rw [if_neg (fun e2 => c1 ((nI_eq (by omega) (by omega)).mp e2))]
      cases hc : n_c S a k with
      | none =>
        have ea : av S a (k + 1) = av S a k := by
          conv => lhs; unfold av
          rw [if_neg c1, hc]
        rw [show oI none = -1 from rfl, if_pos rfl, nm_e1, nI_1, ea]
      | some d =>
        have ea : av S a (k + 1) = ((av S a k).1 + d, (av S a k).2 + 1) := by
          conv => lhs; unfold av
          rw [if_neg c1, hc]
        have hd := n_c_le hn (show k < 2 ^ 31 by omega) hc
        rw [if_neg (show ¬ oI (some d) = -1 from m1_ne (by omega)), ea]
        simp only [nm_e1]
        rw [show oI (some d) = nI d from rfl, nI_l (by omega), lN_add, nI_1, nI_1]
  · intro s i1
    have hs := h.frB i1
    refine ⟨(lN (av S a (n_J S)).1, nI (av S a (n_J S)).2, s), ?_, rfl, rfl, i1⟩
    show bd_X4_averageDistance_27 fu (nI a) (lN (av S a (n_J S)).1) (nI (av S a (n_J S)).2) (nI (n_J S)) s = _
    unfold bd_X4_averageDistance_27
    rw [nm_e1, hs.1, if_pos (nI_le (Nat.le_refl _) (by omega))]
theorem nstLoop (h : RMn S v) (hn : NtOK S) {fu : Nat} (hf : 2 ^ 80 ≤ fu) {a c : Nat} (ha : a < n_J S) (hc4 : c < 4) {pl : Nat → Bool} (hpl : ∀ j, j < n_J S → v.1 12 (4 * j + c) = if pl j = true then 1 else 0) : ∃ r : Int32 × WS, iter (fun q : Int32 × Int32 × Int32 × WS => bd_X4_nearest_54 fu (nI a) (nI c) q.1 q.2.1 q.2.2.1 q.2.2.2) fu (((-1) : Int32), (0 : Int32), (0 : Int32), v) = some r ∧ r.1 = oI (nst S a pl (n_J S)) ∧ FrB r.2 v := by
  have hJ := hn.1
  refine iter_for0 (fun k (s : Int32 × Int32 × WS) => (s.1, s.2.1, nI k, s.2.2)) (n_J S) (fun k s => FrB s.2.2 v ∧ s.1 = oI (nst S a pl k) ∧ ∀ b, nst S a pl k = some b → s.2.1 = nI (dN S a b)) (fun (r : Int32 × WS) => r.1 = oI (nst S a pl (n_J S)) ∧ FrB r.2 v) ?_ ?_ (by omega) ((-1), 0, v) ⟨FrB.rf v, rfl, fun b hb => by cases hb⟩
  · intro k s hk ⟨i1, i2, i3⟩
    have hs := h.frB i1
    have e12 : s.2.2.1 12 (4 * k + c) = if pl k = true then 1 else 0 := by rw [i1.1 12 (by decide)]; exact hpl k hk
    have px : vp_in (((4 : Int32) * nI k) + nI c) 128 := by
      rw [show (4 : Int32) = nI 4 from rfl, pk_mul, nI_add]
      exact vp_in_nI (by omega) (by decide)
    have pc : Int32.toNatClampNeg (((4 : Int32) * nI k) + nI c) = 4 * k + c := by
      rw [show (4 : Int32) = nI 4 from rfl, pk_mul, nI_add]
      exact nI_clamp (by omega)
    have skip : ∀ w : WS, FrB w v → ((fun j => pl j && (n_c S a j).isSome) k) = false → ∃ s' : Int32 × Int32 × WS, some (Sum.inl (s.1, s.2.1, nI (k + 1), w) : (Int32 × Int32 × Int32 × WS) ⊕ (Int32 × WS)) = some (Sum.inl (s'.1, s'.2.1, nI (k + 1), s'.2.2)) ∧ FrB s'.2.2 v ∧ s'.1 = oI (nst S a pl (k + 1)) ∧ ∀ b, nst S a pl (k + 1) = some b → s'.2.1 = nI (dN S a b) := by
      intro w hw hq
      have e : nst S a pl (k + 1) = nst S a pl k := bst_sF hq
      exact ⟨(s.1, s.2.1, w), rfl, hw, by rw [e]; exact i2, by rw [e]; exact i3⟩
    show ∃ s' : Int32 × Int32 × WS, bd_X4_nearest_54 fu (nI a) (nI c) s.1 s.2.1 (nI k) s.2.2 = some (.inl (s'.1, s'.2.1, nI (k + 1), s'.2.2)) ∧ FrB s'.2.2 v ∧ s'.1 = oI (nst S a pl (k + 1)) ∧ ∀ b, nst S a pl (k + 1) = some b → s'.2.1 = nI (dN S a b)
    unfold bd_X4_nearest_54
    rw [nm_e1, hs.1, if_neg (nI_ge hk (by omega)), ck_t px, nm_e1, pc, e12, if_zo]
    by_cases cp : pl k = true
    · obtain ⟨r, e, f1, _⟩ := between_ok hs hn hf ha hk
      rw [if_pos cp, e, bn2_e]
      cases hc : n_c S a k with
      | none =>
        rw [show oI none = -1 from rfl, if_pos rfl, nm_e1, nI_1]
        exact skip r (f1.trans i1) (by simp [hc])
      | some d =>
        have hd := n_c_le hn (show k < 2 ^ 31 by omega) hc
        have edN : dN S a k = d := by unfold dN; rw [hc]; rfl
        have hq : ((fun j => pl j && (n_c S a j).isSome) k) = true := by simp [hc, cp]
        rw [if_neg (show ¬ oI (some d) = -1 from m1_ne (by omega))]
        cases hb : nst S a pl k with
        | none =>
          rw [hb] at i2
          rw [show s.1 = -1 from i2, if_pos rfl, nm_e1, nI_1]
          have e2 : nst S a pl (k + 1) = some k := bst_sN hb hq
          exact ⟨(nI k, nI d, r), rfl, f1.trans i1, by rw [e2]; rfl, fun b hb2 => by rw [e2] at hb2; cases hb2; rw [edN]⟩
        | some b =>
          have hbo := bst_ok hb
          have hbd : dN S a b ≤ 715000 := by
            have hq2 := hbo.2
            simp only [Bool.and_eq_true, Option.isSome_iff_exists] at hq2
            obtain ⟨x, hx⟩ := hq2.2
            have := n_c_le hn (show b < 2 ^ 31 by omega) hx
            unfold dN
            rw [hx]
            exact this
          rw [hb] at i2
          have i3 := i3 b hb
          rw [show s.1 = nI b from i2, if_neg (m1_ne (by omega)), i3, show oI (some d) = nI d from rfl]
          by_cases hl : d < dN S a b
          · rw [if_pos (nI_lt hl (by omega)), nm_e1, nI_1]
            have e2 : nst S a pl (k + 1) = some k := bst_sL hb hq (by rw [edN]; exact hl)
            exact ⟨(nI k, nI d, r), rfl, f1.trans i1, by rw [e2]; rfl, fun b hb2 => by rw [e2] at hb2; cases hb2; rw [edN]⟩
          · rw [if_neg (nI_nlt (by omega) (by omega)), nm_e1, nI_1]
            have e2 : nst S a pl (k + 1) = some b := bst_sG hb (by rw [edN]; exact hl)
            exact ⟨(nI b, nI (dN S a b), r), rfl, f1.trans i1, by rw [e2]; rfl, fun b2 hb2 => by rw [e2] at hb2; cases hb2; rfl⟩
    · rw [if_neg cp, nm_e1, nI_1]
      exact skip s.2.2 i1 (by simp [cp])
  · intro s ⟨i1, i2, i3⟩
    have hs := h.frB i1
    refine ⟨(s.1, s.2.2), ?_, i2, i1⟩
    show bd_X4_nearest_54 fu (nI a) (nI c) s.1 s.2.1 (nI (n_J S)) s.2.2 = _
    unfold bd_X4_nearest_54
    rw [nm_e1, hs.1, if_pos (nI_le (Nat.le_refl _) (by omega))]
end MA
