/-! the law: distances, the rounds, all of it -/
section LM
variable {S : Nt} {w f : WS} {fu g L : Nat} {xs : Nat → Int32}
theorem best_ok (hn : NtOK S) (hl : LR S f) (hf : 81 < fu) (hg : g < 5) (h8 : ∀ r, r < 9 → f.1 8 r = nI (tT S g r)) (w : WS) {a m0 : Nat} (ha : a < 5) (hm0 : m0 ≤ 1000000) : ∃ (r : Int32), iter (fun q : Int32 × Int32 => bd_L_distance_16 fu w f (nI a) q.1 q.2) fu (nI m0, (0 : Int32)) = some r ∧ ∃ m, r = nI m ∧ m ≤ m0 ∧ (∀ r, r < 9 → n_f S r = a → m ≤ tT S g r) ∧ (m = m0 ∨ ∃ r, r < 9 ∧ n_f S r = a ∧ m = tT S g r) := by
  have hR := hl.2.1
  have hJ := hn.1
  refine iter_for0 (fun k (s : Int32) => (s, nI k)) 9 (fun k s => ∃ m, s = nI m ∧ m ≤ m0 ∧ (∀ r, r < k → n_f S r = a → m ≤ tT S g r) ∧ (m = m0 ∨ ∃ r, r < 9 ∧ n_f S r = a ∧ m = tT S g r)) (fun (s : Int32) => ∃ m, s = nI m ∧ m ≤ m0 ∧ (∀ r, r < 9 → n_f S r = a → m ≤ tT S g r) ∧ (m = m0 ∨ ∃ r, r < 9 ∧ n_f S r = a ∧ m = tT S g r)) ?_ ?_ (by omega) (nI m0) ⟨m0, rfl, Nat.le_refl _, fun r h => absurd h (Nat.not_lt_zero r), Or.inl rfl⟩
  · intro k s hk ⟨m, i1, i2, i3, i4⟩
    have kk := hl.2.2.1 k (by omega)
    have j1 := hn.2.2.1 k (by omega)
    have ht := tT_le hn hR hg hk
    show ∃ s', bd_L_distance_16 fu w f (nI a) s (nI k) = some (Sum.inl (s', nI (k + 1)) : (Int32 × Int32) ⊕ Int32) ∧ _
    unfold bd_L_distance_16
    rw [if_neg (show ¬ (9 : Int32) ≤ nI k from nI_ge (b := 9) hk (by decide)), ck_t (in9 hk), nm_e1, cl9 hk, kk.1]
    by_cases e : n_f S k = a
    · rw [if_pos (by rw [e]), ck_t (in9 hk), nm_e1, nm_e1, nm_e1, nI_1, h8 k hk, i1, min_nI (by omega) (by omega)]
      refine ⟨_, rfl, min m (tT S g k), rfl, by omega, fun r hr he => ?_, ?_⟩
      · by_cases e2 : r = k
        · rw [e2]; exact Nat.min_le_right _ _
        · exact Nat.le_trans (Nat.min_le_left _ _) (i3 r (by omega) he)
      · by_cases c : tT S g k < m
        · rw [Nat.min_eq_right (by omega)]
          exact Or.inr ⟨k, hk, e, rfl⟩
        · rw [Nat.min_eq_left (by omega)]
          exact i4
    · rw [if_neg (fun h => e ((nI_eq (by omega) (by omega)).mp h)), nm_e1, nI_1]
      refine ⟨_, rfl, m, i1, i2, fun r hr he => ?_, i4⟩
      by_cases e2 : r = k
      · rw [e2] at he
        exact absurd he e
      · exact i3 r (by omega) he
  · intro s hs
    refine ⟨s, ?_, hs⟩
    show bd_L_distance_16 fu w f (nI a) s (nI 9) = _
    unfold bd_L_distance_16
    rw [if_pos (show (9 : Int32) ≤ nI 9 from nI_le (a := 9) (Nat.le_refl _) (by decide))]
theorem dist_ok (hn : NtOK S) (hl : LR S f) (hf : 81 < fu) (hg : g < 5) (h8 : ∀ r, r < 9 → f.1 8 r = nI (tT S g r)) (w : WS) {a : Nat} (ha : a < 5) : f_L_distance fu w f (nI a) (nI g) = some (oI (n_c S a g)) := by
  have hR := hl.2.1
  have hB := (Z_ok hn (show g < 2 ^ 31 by omega)).1
  unfold f_L_distance n_c
  by_cases e : a = g
  · obtain ⟨r, e1, m, hm, m1, m2, m3⟩ := best_ok (fu := fu) hn hl hf hg h8 w (a := a) (m0 := 0) ha (by omega)
    have e0 : m = 0 := by omega
    rw [if_pos (by rw [e]), if_pos e, show ((0 : Int32), (0 : Int32)) = (nI 0, (0 : Int32)) from rfl, e1, bn_e, hm, e0, if_pos (show nI 0 < (1000000 : Int32) from nI_lt (b := 1000000) (by omega) (by decide))]
    rfl
  · obtain ⟨r, e1, m, hm, m1, m2, m3⟩ := best_ok (fu := fu) hn hl hf hg h8 w (a := a) (m0 := 1000000) ha (by omega)
    rw [if_neg (fun h => e ((nI_eq (by omega) (by omega)).mp h)), if_neg e, show ((1000000 : Int32), (0 : Int32)) = (nI 1000000, (0 : Int32)) from rfl, e1, bn_e, hm]
    cases hb : n_fst S a g with
    | none =>
      have hno := bst_none hb
      have em : m = 1000000 := by
        rcases m3 with h | ⟨r, hr, hfr, h⟩
        · exact h
        · have q := hno r (by omega)
          have : ¬ n_Z S g r < 536870912 := fun hl2 => by
            obtain ⟨_, _, _, _, _, ho⟩ := Z_k hn hB (show r < n_R S by omega) hl2
            simp [hfr, ho, hl2] at q
          rw [h]
          exact if_neg this
      rw [em, if_neg (show ¬ nI 1000000 < (1000000 : Int32) from nI_nlt (b := 1000000) (Nat.le_refl _) (by decide))]
      rfl
    | some b =>
      have hbo := fst_ok hb
      have hmin := bst_min hb
      obtain ⟨c, j, j1, j2, j3, _⟩ := Z_k hn hB hbo.1 hbo.2.2.2
      have hwb := (hn.2.2.1 b hbo.1).2.2.2.2
      have et : tT S g b = n_w S b + n_Z S g b / 128 := if_pos hbo.2.2.2
      have l1 := m2 b (by omega) hbo.2.1
      have em : m = tT S g b := by
        rcases m3 with h | ⟨r, hr, hfr, h⟩
        · omega
        · by_cases hl2 : n_Z S g r < 536870912
          · obtain ⟨c2, i, i1, i2, i3, ho⟩ := Z_k hn hB (show r < n_R S by omega) hl2
            have q := hmin r (by omega) (by simp [hfr, ho, hl2])
            have er : tT S g r = n_w S r + n_Z S g r / 128 := if_pos hl2
            have q : 128 * n_w S b + 1 + n_Z S g b ≤ 128 * n_w S r + 1 + n_Z S g r := q
            omega
          · have er : tT S g r = 1000000 := if_neg hl2
            omega
      have hd : (128 * n_w S b + 1 + n_Z S g b) / 128 = m := by omega
      rw [if_pos (show nI m < (1000000 : Int32) from nI_lt (b := 1000000) (by omega) (by decide))]
      show some (nI m) = some (nI ((128 * n_w S b + 1 + n_Z S g b) / 128))
      rw [hd]
theorem starts_ok (h : RP S w) (hl : LR S f) (hf : 81 < fu) (hg : g < 5) (h8 : ∀ r, r < 9 → f.1 8 r = nI (tT S g r)) (y : Int32) : ∃ w', iter (fun q : Int32 × WS => bd_L_law_222 fu L xs f y (nI g) q.1 q.2) fu ((0 : Int32), w) = some w' ∧ RP S w' := by
  have hJ := hl.1
  refine iter_for0 (fun k (s : WS) => (nI k, s)) 5 (fun _ s => RP S s) (fun (w' : WS) => RP S w') ?_ ?_ (by omega) _ h
  · intro a s ha i1
    obtain ⟨w', e, h'⟩ := distance34 (fu := fu) i1 (by omega) (show a < n_J S by omega) (show g < n_J S by omega)
    refine ⟨w', ?_, h'⟩
    show bd_L_law_222 fu L xs f y (nI g) (nI a) s = _
    unfold bd_L_law_222
    rw [if_neg (show ¬ (5 : Int32) ≤ nI a from nI_ge (b := 5) ha (by decide)), e, bxn2_e, dist_ok (fu := fu) i1.1 hl hf hg h8 w' ha, bn_e, if_pos rfl, nm_e1, nI_1]
  · intro s hs
    refine ⟨s, ?_, hs⟩
    show bd_L_law_222 fu L xs f y (nI g) (nI 5) s = _
    unfold bd_L_law_222
    rw [if_pos (show (5 : Int32) ≤ nI 5 from nI_le (a := 5) (Nat.le_refl _) (by decide))]
theorem goals_ok (h : RP S w) (hl : LR S f) (hf : 81 < fu) (y : Int32) : ∃ (r : WS × WS), iter (fun q : Int32 × WS × WS => bd_L_law_194 fu L xs y q.1 q.2.1 q.2.2) fu ((0 : Int32), w, f) = some r ∧ RP S r.1 ∧ LR S r.2 := by
  refine iter_for0 (fun k (s : WS × WS) => (nI k, s)) 5 (fun _ s => RP S s.1 ∧ LR S s.2) (fun (r : WS × WS) => RP S r.1 ∧ LR S r.2) ?_ ?_ (by omega) (w, f) ⟨h, hl⟩
  · intro g s hg ⟨i1, i2⟩
    obtain ⟨w, f⟩ := s
    dsimp only at i1 i2
    obtain ⟨f', e, q1, q2⟩ := find_ok (fu := fu) i1.1 i2 hg hf w
    have hl' : LR S f' := i2.same (q1 0 (by decide)) (q1 1 (by decide)) (q1 2 (by decide)) (q1 3 (by decide)) (q1 4 (by decide)) (q1 5 (by decide))
    obtain ⟨w', e2, h'⟩ := starts_ok (fu := fu) (L := L) (xs := xs) i1 hl' hf hg q2 y
    refine ⟨(w', f'), ?_, h', hl'⟩
    show bd_L_law_194 fu L xs y (nI g) w f = _
    unfold bd_L_law_194
    rw [if_neg (show ¬ (5 : Int32) ≤ nI g from nI_ge (b := 5) hg (by decide)), ck_t (show vp_in 0 1 by rw [← nI_0]; exact vp_in_nI (by decide) (by decide)), nm_e1, show Int32.toNatClampNeg 0 = 0 from rfl, i2.2.2.2.2.2, e, bn_e, e2, bn_e, nm_e1, nI_1]
  · intro s hs
    refine ⟨s, ?_, hs⟩
    show bd_L_law_194 fu L xs y (nI 5) s.1 s.2 = _
    unfold bd_L_law_194
    rw [if_pos (show (5 : Int32) ≤ nI 5 from nI_le (a := 5) (Nat.le_refl _) (by decide))]
theorem round_ok {k : Nat} (hk : k < 8) (h : RP S w) (hl : LR S f) (hf : 81 < fu) : ∃ (r : WS × WS) (S' : Nt), bd_L_law_133 fu L xs (nI k) w f = some (.inl (nI (k + 1), r)) ∧ RP S' r.1 ∧ LR S' r.2 := by
  obtain ⟨f2, e1, q1, q2⟩ := read6_ok (fu := fu) h hl.2.1 f hf
  have hl2 : LR S f2 := hl.same (q1 0 (by decide)) (q1 1 (by decide)) (q1 2 (by decide)) (q1 3 (by decide)) (q1 4 (by decide)) (q1 5 (by decide))
  obtain ⟨S', w6, f7, e2, h', hl7, efol, e6⟩ := change_ok (fu := fu) h hl2 hf (cellV L xs ((9 : Int32) + nI k))
  obtain ⟨f10, e3, p1, p2⟩ := read7_ok (fu := fu) h' hl7.2.1 f7 hf
  have hl10 : LR S' f10 := hl7.same (p1 0 (by decide)) (p1 1 (by decide)) (p1 2 (by decide)) (p1 3 (by decide)) (p1 4 (by decide)) (p1 5 (by decide))
  have e4 := unlike_eq (f := f10) (w := w6) (fu := fu) hl.2.1 hl7.2.1 efol (fun p q hp hq => by rw [p1 6 (by decide), e6]; exact q2 p q hp hq) p2 hf
  obtain ⟨r, e5, r1, r2⟩ := goals_ok (fu := fu) (L := L) (xs := xs) h' hl10 hf (nI k)
  obtain ⟨w14, f15⟩ := r
  refine ⟨(w14, f15), S', ?_, r1, r2⟩
  have e9 : (9 : Int32) + nI k = nI (9 + k) := nI_add 9 k
  have hpos : ¬ (9 : Int32) + nI k < 0 := by rw [e9]; exact nI_pos (by omega)
  unfold bd_L_law_133
  rw [if_neg (show ¬ (8 : Int32) ≤ nI k from nI_ge (b := 8) hk (by decide)), e1, bn2_e, ck_t hpos, nm_e1, e2, bn3_e, e3, bn2_e, e4, bn_e, if_pos rfl, e5, bn2_e, nm_e1, nI_1]
theorem main_ok {v : WS} (h : RP S w) (hJ : n_J S = 5) (hR : n_R S = 9) (hv : LA S v) (ho : ∀ r, r < 9 → n_o S r = true) (hs : ∀ a b, n_s S a b = -2) (hu : n_u S = 100) (hf : 81 < fu) : f_L_main fu L xs w (vM0 v) = some () := by
  obtain ⟨f1, e1, a1, a2⟩ := set_ok (fu := fu) (L := L) (xs := xs) w (vM0 v) hf
  obtain ⟨f3, e3, b1, b2⟩ := opn_ok (fu := fu) (L := L) (xs := xs) w f1 hf
  have hl : LR S f3 := by
    refine ⟨hJ, hR, fun r hr => ?_, fun a b ha hb => ?_, fun r hr => ?_, ?_⟩
    · rw [b1 0 (by decide), b1 1 (by decide), b1 2 (by decide), a1 0 (by decide), a1 1 (by decide), a1 2 (by decide)]
      exact hv r hr
    · rw [b1 3 (by decide), a2 (9 * a + b) (by omega), hs]
    · rw [b2 r hr, ho r hr, if_pos rfl]
    · rw [b1 5 (by decide), a1 5 (by decide), hu]
      rfl
  have l : ∃ (r : WS × WS), iter (fun q : Int32 × WS × WS => bd_L_law_133 fu L xs q.1 q.2.1 q.2.2) fu ((0 : Int32), w, f3) = some r ∧ True := by
    refine iter_for0 (fun k (s : WS × WS) => (nI k, s)) 8 (fun _ s => ∃ S, RP S s.1 ∧ LR S s.2) (fun (r : WS × WS) => True) ?_ ?_ (by omega) (w, f3) ⟨S, h, hl⟩
    · intro k s hk ⟨S, i1, i2⟩
      obtain ⟨r, S', e, r1, r2⟩ := round_ok (fu := fu) (L := L) (xs := xs) hk i1 i2 hf
      exact ⟨r, e, S', r1, r2⟩
    · intro s _
      refine ⟨s, ?_, trivial⟩
      show bd_L_law_133 fu L xs (nI 8) s.1 s.2 = _
      unfold bd_L_law_133
      rw [if_pos (show (8 : Int32) ≤ nI 8 from nI_le (a := 8) (Nat.le_refl _) (by decide))]
  obtain ⟨r, e, -⟩ := l
  unfold f_L_main
  rw [e1, bn_e, e3, bn_e, e, bn2_e]
theorem all_ok (hf : 81 < fu) : ∃ (w1 w2 v1 : WS) (r : Int32), f_L_build fu L xs wC0 vL0 = some (1, w1, v1) ∧ f_X3_prepare fu w1 = some (.inl (r, w2)) ∧ 0 ≤ r ∧ f_L_main fu L xs w2 (vM0 v1) = some () := by
  obtain ⟨S, w1, v1, e1, q1, q2, q3, q4, q5, q6, q7, q8, q9, q10⟩ := build_law (fu := fu) (L := L) (xs := xs) hf
  obtain ⟨k, w2, e2, hk, hP⟩ := prep34 (fu := fu) q1 q2 q3 q4 (by omega) (by omega)
  exact ⟨w1, w2, v1, nI k, e1, e2, nI_pos' hk, main_ok hP q5 q6 q7 q8 q9 q10 hf⟩
end LM
