/-! steps: reach, averageDistance, nearest -/
theorem dN_le {S : Nt} (hn : NtOK S) {a j : Nat} (hj : j < 2 ^ 31) : dN S a j ≤ 715000 := by
  unfold dN
  cases hc : n_c S a j with
  | none => exact Nat.zero_le _
  | some d => exact n_c_le hn hj hc
/-- fields of searches and the kept junctions may change -/
def FrC (u v : WS) : Prop := (∀ c, c ≠ 0 → c ≠ 7 → c ≠ 8 → u.1 c = v.1 c) ∧ (∀ j, j ≠ 10 → u.1 0 j = v.1 0 j) ∧ u.2 = v.2
theorem FrC.rf (v : WS) : FrC v v := ⟨fun _ _ _ _ => rfl, fun _ _ => rfl, rfl⟩
theorem FrC.trans {u v w : WS} (h : FrC u v) (h2 : FrC v w) : FrC u w := ⟨fun c a b d => (h.1 c a b d).trans (h2.1 c a b d), fun j a => (h.2.1 j a).trans (h2.2.1 j a), h.2.2.trans h2.2.2⟩
theorem FrC.i7 (v : WS) (i : Nat) (x : Int32) : FrC (wI v 7 i x) v := ⟨fun c _ h _ => wI_n h, fun j _ => by rw [wI_n (by decide)], rfl⟩
theorem FrC.i8 (v : WS) (i : Nat) (x : Int32) : FrC (wI v 8 i x) v := ⟨fun c _ _ h => wI_n h, fun j _ => by rw [wI_n (by decide)], rfl⟩
theorem FrC.i0 (v : WS) (x : Int32) : FrC (wI v 0 10 x) v := ⟨fun c h _ _ => wI_n h, fun j h => by rw [wI_at, if_neg (fun hh => h hh.2)], rfl⟩
theorem RCn.frC {S : Nt} {u w : WS} (h : RCn S w) (f : FrC u w) : RCn S u := h.same (f.1 1 (by decide) (by decide) (by decide)) (f.1 9 (by decide) (by decide) (by decide)) (f.1 10 (by decide) (by decide) (by decide)) (f.1 11 (by decide) (by decide) (by decide)) (f.1 12 (by decide) (by decide) (by decide)) (by rw [f.2.2]) (by rw [f.2.2]) (by rw [f.2.2])
section S5
variable {S : Nt} {w v : WS} {fu : Nat} {o : Nat → Int64} {od : Nat → UInt64}
theorem insLoopC (fu : Nat) {d f : Nat → Nat} {j c : Nat} (hc : c < 2 ^ 31) : ∀ (k n : Nat) (s : WS), k < n → k ≤ 31 → (∀ i, i < k → s.1 7 i = nI (f i) ∧ s.1 8 i = nI (d (f i)) ∧ d (f i) < 2 ^ 31) → ∃ s', iter (fun q : Int32 × WS => bd_X3_keepReached_15 fu (nI j) (nI c) q.1 q.2) n (nI k, s) = some (nI (insK d f c k), s') ∧ FrC s' s ∧ (∀ j, s'.1 0 j = s.1 0 j) ∧ (∀ i, s'.1 7 i = if insK d f c k < i ∧ i ≤ k then s.1 7 (i - 1) else s.1 7 i) ∧ ∀ i, s'.1 8 i = if insK d f c k < i ∧ i ≤ k then s.1 8 (i - 1) else s.1 8 i := by
  intro k
  induction k with
  | zero =>
    intro n s hn _ _
    obtain ⟨n, rfl⟩ : ∃ m, n = m + 1 := ⟨n - 1, by omega⟩
    exact ⟨s, iter_inr (f := fun q : Int32 × WS => bd_X3_keepReached_15 fu (nI j) (nI c) q.1 q.2) (x := (nI 0, s)) (r := (nI 0, s)) (if_pos (show nI 0 ≤ 0 by decide)) n, FrC.rf s, fun _ => rfl, fun i => by rw [if_neg (by omega)], fun i => by rw [if_neg (by omega)]⟩
  | succ k ih =>
    intro n s hn hk h
    obtain ⟨n, rfl⟩ : ∃ m, n = m + 1 := ⟨n - 1, by omega⟩
    have hl := h k (by omega)
    by_cases hlt : c < d (f k)
    · have e1 : bd_X3_keepReached_15 fu (nI j) (nI c) (nI (k + 1)) s = some (.inl (nI k, wI (wI s 7 (k + 1) (s.1 7 k)) 8 (k + 1) (s.1 8 k))) := by
        unfold bd_X3_keepReached_15
        rw [if_neg (nI_nle (by omega) (by omega)), nI_pred, ck_t (vp_in_nI (by omega) (by decide)), nm_e1, nI_clamp (by omega), hl.2.1, if_neg (nI_ge hlt hl.2.2), ck_t (vp_in_nI (by omega) (by decide)), nm_e1, ck_t (vp_in_nI (by omega) (by decide)), nm_e1, nI_clamp (by omega), ck_t (vp_in_nI (by omega) (by decide)), nm_e1, wI_n (show (8 : Nat) ≠ 7 by decide), ck_t (vp_in_nI (by omega) (by decide)), nm_e1, nm_e1, pk_m1, hl.2.1]
      obtain ⟨s', i1, i2, i3, i4, i5⟩ := ih n (wI (wI s 7 (k + 1) (s.1 7 k)) 8 (k + 1) (s.1 8 k)) (by omega) (by omega) (fun i hi => by
        have := h i (by omega)
        refine ⟨?_, ?_, this.2.2⟩
        · rw [wI_n (by decide), wI_at, if_neg (by omega)]; exact this.1
        · rw [wI_at, if_neg (by omega), wI_n (by decide)]; exact this.2.1)
      have eK : insK d f c (k + 1) = insK d f c k := if_pos hlt
      have hK := insK_le d f c k
      refine ⟨s', ?_, i2.trans ((FrC.i8 _ _ _).trans (FrC.i7 _ _ _)), fun j => by rw [i3 j, wI_n (by decide), wI_n (by decide)], fun i => ?_, fun i => ?_⟩
      · rw [iter_inl (f := fun q : Int32 × WS => bd_X3_keepReached_15 fu (nI j) (nI c) q.1 q.2) (x := (nI (k + 1), s)) e1, eK]
        exact i1
      · rw [i4 i, eK]
        by_cases c1 : insK d f c k < i ∧ i ≤ k
        · rw [if_pos c1, if_pos (by omega), wI_n (by decide), wI_at, if_neg (by omega)]
        · rw [if_neg c1, wI_n (by decide), wI_at]
          by_cases c2 : i = k + 1
          · rw [if_pos ⟨rfl, c2⟩, if_pos (by omega), c2]
            rfl
          · rw [if_neg (fun hh => c2 hh.2), if_neg (by omega)]
      · rw [i5 i, eK]
        by_cases c1 : insK d f c k < i ∧ i ≤ k
        · rw [if_pos c1, if_pos (by omega), wI_at, if_neg (by omega), wI_n (by decide)]
        · rw [if_neg c1, wI_at]
          by_cases c2 : i = k + 1
          · rw [if_pos ⟨rfl, c2⟩, if_pos (by omega), c2]
            rfl
          · rw [if_neg (fun hh => c2 hh.2), if_neg (by omega), wI_n (by decide)]
    · have e1 : bd_X3_keepReached_15 fu (nI j) (nI c) (nI (k + 1)) s = some (.inr (nI (k + 1), s)) := by
        unfold bd_X3_keepReached_15
        rw [if_neg (nI_nle (by omega) (by omega)), nI_pred, ck_t (vp_in_nI (by omega) (by decide)), nm_e1, nI_clamp (by omega), hl.2.1, if_pos (nI_le (by omega) hc)]
      have eK : insK d f c (k + 1) = k + 1 := if_neg hlt
      refine ⟨s, ?_, FrC.rf s, fun _ => rfl, fun i => by rw [eK, if_neg (by omega)], fun i => by rw [eK, if_neg (by omega)]⟩
      rw [eK]
      exact iter_inr (f := fun q : Int32 × WS => bd_X3_keepReached_15 fu (nI j) (nI c) q.1 q.2) (x := (nI (k + 1), s)) (r := (nI (k + 1), s)) e1 n
theorem keepLoop (hc : RCn S w) (hn : NtOK S) (hf : 64 < fu) {a bud : Nat} (ha : a < n_J S) (hb : bud < 2 ^ 31) (hB : JR S a w) (h10 : w.1 0 10 = 0) : ∃ w', iter (fun q : Int32 × WS => bd_X3_reach_35 fu (nI bud) q.1 q.2) fu ((0 : Int32), w) = some w' ∧ FrC w' w ∧ w'.1 0 10 = nI (nr S a bud (n_J S)).2 ∧ ∀ i, i < (nr S a bud (n_J S)).2 → w'.1 7 i = nI ((nr S a bud (n_J S)).1 i) := by
  have hJ := hn.1
  have key : ∃ w', iter (fun q : Int32 × WS => bd_X3_reach_35 fu (nI bud) q.1 q.2) fu ((0 : Int32), w) = some w' ∧ FrC w' w ∧ w'.1 0 10 = nI (nr S a bud (n_J S)).2 ∧ ∀ i, i < (nr S a bud (n_J S)).2 → w'.1 7 i = nI ((nr S a bud (n_J S)).1 i) ∧ w'.1 8 i = nI (dN S a ((nr S a bud (n_J S)).1 i)) := by
    refine iter_for0 (fun k (s : WS) => (nI k, s)) (n_J S) (fun k s => FrC s w ∧ s.1 0 10 = nI (nr S a bud k).2 ∧ ∀ i, i < (nr S a bud k).2 → s.1 7 i = nI ((nr S a bud k).1 i) ∧ s.1 8 i = nI (dN S a ((nr S a bud k).1 i))) (fun (w' : WS) => FrC w' w ∧ w'.1 0 10 = nI (nr S a bud (n_J S)).2 ∧ ∀ i, i < (nr S a bud (n_J S)).2 → w'.1 7 i = nI ((nr S a bud (n_J S)).1 i) ∧ w'.1 8 i = nI (dN S a ((nr S a bud (n_J S)).1 i))) ?_ ?_ (by omega) w ⟨FrC.rf w, h10, fun i hi => absurd hi (Nat.not_lt_zero i)⟩
    · intro k s hk ⟨i1, i2, i3⟩
      have hs := hc.frC i1
      have hrs : JR S a s := hB.same (i1.1 17 (by decide) (by decide) (by decide))
      have hle := nr_le S a bud k
      have hlt := nr_lt S a bud k
      have efc := found_ok hn fu hk hrs
      show ∃ s', bd_X3_reach_35 fu (nI bud) (nI k) s = some (.inl (nI (k + 1), s')) ∧ FrC s' w ∧ s'.1 0 10 = nI (nr S a bud (k + 1)).2 ∧ ∀ i, i < (nr S a bud (k + 1)).2 → s'.1 7 i = nI ((nr S a bud (k + 1)).1 i) ∧ s'.1 8 i = nI (dN S a ((nr S a bud (k + 1)).1 i))
      unfold bd_X3_reach_35
      rw [nm_e1, hs.1, if_neg (nI_ge hk (by omega)), efc, bn_e]
      cases hcj : n_c S a k with
      | none =>
        have e : nr S a bud (k + 1) = nr S a bud k := if_neg (by unfold nrO; rw [hcj]; exact Bool.false_ne_true)
        rw [if_pos (show oI none < 0 by decide), nm_e1, nI_1, e]
        exact ⟨s, rfl, i1, i2, i3⟩
      | some d =>
        have hd := n_c_le hn (show k < 2 ^ 31 by omega) hcj
        have edN : dN S a k = d := by unfold dN; rw [hcj]; rfl
        rw [show oI (some d) = nI d from rfl, if_neg (nI_pos (by omega))]
        by_cases hbd : d ≤ bud
        · have e : nr S a bud (k + 1) = (insF (nr S a bud k).1 (insK (dN S a) (nr S a bud k).1 (dN S a k) (nr S a bud k).2) k, (nr S a bud k).2 + 1) := if_pos (by unfold nrO; rw [hcj]; exact decide_eq_true hbd)
          have hK := insK_le (dN S a) (nr S a bud k).1 d (nr S a bud k).2
          obtain ⟨s', e1, j1, j0, j2, j3⟩ := insLoopC fu (d := dN S a) (f := (nr S a bud k).1) (j := k) (c := d) (by omega) (nr S a bud k).2 fu s (by omega) (by omega) (fun i hi => ⟨(i3 i hi).1, (i3 i hi).2, by have := hlt i hi; have := dN_le hn (a := a) (show (nr S a bud k).1 i < 2 ^ 31 by omega); omega⟩)
          rw [if_neg (nI_nlt hbd (by omega)), e, edN]
          refine ⟨wI (wI (wI s' 7 (insK (dN S a) (nr S a bud k).1 d (nr S a bud k).2) (nI k)) 8 (insK (dN S a) (nr S a bud k).1 d (nr S a bud k).2) (nI d)) 0 10 (nI ((nr S a bud k).2 + 1)), ?_, (FrC.i0 _ _).trans ((FrC.i8 _ _ _).trans ((FrC.i7 _ _ _).trans (j1.trans i1))), by rw [wI_at, if_pos ⟨rfl, rfl⟩], fun i hi => ?_⟩
          · unfold f_X3_keepReached
            rw [nm_e1, i2, if_pos (show nI (nr S a bud k).2 < (32 : Int32) from nI_lt (b := 32) (by omega) (by decide)), nm_e1, e1, bn2_e, ck_t (vp_in_nI (by omega) (by decide)), nm_e1, nI_clamp (by omega), ck_t (vp_in_nI (by omega) (by decide)), nm_e1]
            simp only [nm_e1, bn_e]
            rw [wI_n (show (0 : Nat) ≠ 8 by decide), wI_n (show (0 : Nat) ≠ 7 by decide), j0, i2, nI_1, nI_1]
          · have hi : i < (nr S a bud k).2 + 1 := hi
            have a7 : ∀ x, (wI (wI (wI s' 7 (insK (dN S a) (nr S a bud k).1 d (nr S a bud k).2) (nI k)) 8 (insK (dN S a) (nr S a bud k).1 d (nr S a bud k).2) (nI d)) 0 10 x).1 7 i = if i = insK (dN S a) (nr S a bud k).1 d (nr S a bud k).2 then nI k else s'.1 7 i := fun x => by
              rw [wI_n (by decide), wI_n (by decide), wI_at]
              simp only [true_and]
            have a8 : ∀ x, (wI (wI (wI s' 7 (insK (dN S a) (nr S a bud k).1 d (nr S a bud k).2) (nI k)) 8 (insK (dN S a) (nr S a bud k).1 d (nr S a bud k).2) (nI d)) 0 10 x).1 8 i = if i = insK (dN S a) (nr S a bud k).1 d (nr S a bud k).2 then nI d else s'.1 8 i := fun x => by
              rw [wI_n (by decide), wI_at, wI_n (by decide)]
              simp only [true_and]
            rw [a7, a8]
            show _ = nI (insF (nr S a bud k).1 (insK (dN S a) (nr S a bud k).1 d (nr S a bud k).2) k i) ∧ _ = nI (dN S a (insF (nr S a bud k).1 (insK (dN S a) (nr S a bud k).1 d (nr S a bud k).2) k i))
            have eF : insF (nr S a bud k).1 (insK (dN S a) (nr S a bud k).1 d (nr S a bud k).2) k i = if i < insK (dN S a) (nr S a bud k).1 d (nr S a bud k).2 then (nr S a bud k).1 i else if i = insK (dN S a) (nr S a bud k).1 d (nr S a bud k).2 then k else (nr S a bud k).1 (i - 1) := rfl
            rw [eF]
            by_cases c1 : i = insK (dN S a) (nr S a bud k).1 d (nr S a bud k).2
            · have c2 : ¬ i < insK (dN S a) (nr S a bud k).1 d (nr S a bud k).2 := by omega
              rw [if_pos c1, if_pos c1, if_neg c2, if_pos c1, edN]
              exact ⟨rfl, rfl⟩
            · rw [if_neg c1, if_neg c1, if_neg c1, j2 i, j3 i]
              by_cases c2 : i < insK (dN S a) (nr S a bud k).1 d (nr S a bud k).2
              · have c3 : ¬ (insK (dN S a) (nr S a bud k).1 d (nr S a bud k).2 < i ∧ i ≤ (nr S a bud k).2) := by omega
                rw [if_neg c3, if_neg c3, if_pos c2]
                exact i3 i (by omega)
              · have c3 : insK (dN S a) (nr S a bud k).1 d (nr S a bud k).2 < i ∧ i ≤ (nr S a bud k).2 := by omega
                rw [if_pos c3, if_pos c3, if_neg c2]
                exact i3 (i - 1) (by omega)
        · have e : nr S a bud (k + 1) = nr S a bud k := if_neg (by unfold nrO; rw [hcj]; simpa using hbd)
          rw [if_pos (nI_lt (by omega) (by omega)), nm_e1, nI_1, e]
          exact ⟨s, rfl, i1, i2, i3⟩
    · intro s ⟨i1, i2, i3⟩
      have hs := hc.frC i1
      refine ⟨s, ?_, i1, i2, i3⟩
      show bd_X3_reach_35 fu (nI bud) (nI (n_J S)) s = _
      unfold bd_X3_reach_35
      rw [nm_e1, hs.1, if_pos (nI_le (Nat.le_refl _) (by omega))]
  obtain ⟨w', e, k1, k2, k3⟩ := key
  exact ⟨w', e, k1, k2, fun i hi => (k3 i hi).1⟩
theorem L_22 (hR : Ra S w v) (hf : 2 ^ 80 ≤ fu) (x1 x2 : Int32) : GI fu (f_L_reach fu w o x1 x2) (f_X4_reach fu v x1 x2) od := by
  have hR0 := hR
  have hm0 := hR.2.1
  have hm := (hR.thr 0).2.1
  obtain ⟨hn, _, hc, hz, hp, hl, hpl, hpt, hne⟩ := hR
  have hJ := hn.1
  rcases hp with ⟨a, b, _⟩ | ⟨a, b, c, d, e0⟩
  · refine GI.n (S := S) (o := o) (c := 1) (w1 := w) (x := 0) (v1 := wI v 0 0 1) ?_ ?_ (t0 _ _) (by decide) (hR0.thr 1)
    · unfold f_L_reach f_X3_reach
      rw [reqH_n a, bx_r, bx_r, ex_y]
    · unfold f_X4_reach
      rw [looked_0 b, bn_e, nm_e1, nm_e1, t0, if_neg (by decide)]
  · rcases jn_ix hn x1 with h | ⟨p, hp, rfl⟩
    · refine GI.n (S := S) (o := o) (c := 2) (w1 := w) (x := 0) (v1 := wI v 0 0 2) ?_ ?_ (t0 _ _) (by decide) (hR0.thr 2)
      · unfold f_L_reach f_X3_reach
        rw [reqH_y a, bx_l, reqJ_n hc fu h, bx_r, bx_r, ex_n (by decide), ex_y]
      · unfold f_X4_reach
        rw [looked_n hm0 hn b fu (Or.inl h), bn_e, nm_e1, nm_e1, t0, if_neg (by decide)]
    · by_cases h0 : 0 ≤ x2
      · obtain ⟨bud, hb, rfl⟩ := nI_of (x := x2) (Int32.not_lt.mpr h0)
        obtain ⟨v', eM, fM, m0, m26, m27, m18, m29, m19⟩ := reach_ok hm0 hn b hf hp hb
        obtain ⟨w1, e1, f1, hB⟩ := searchFrom_ok hc c hn (show 64 < fu by omega) hp
        have f2 : ∀ c, c ≠ 0 → (wI w1 0 10 0).1 c = w1.1 c := fun c hc => wI_n hc
        have hc1 : RCn S (wI w1 0 10 0) := (hc.frQ f1).frC (FrC.i0 w1 0)
        obtain ⟨w', e2, f3, n1, n2⟩ := keepLoop hc1 hn (show 64 < fu by omega) hp hb (hB.same (wI_n (by decide))) (by rw [wI_at, if_pos ⟨rfl, rfl⟩])
        have fW : ∀ c, c ≠ 0 → (c ≠ 5 ∧ c ≠ 17) → c ≠ 7 → c ≠ 8 → w'.1 c = w.1 c := fun c c0 c5 c7 c8 => by rw [f3.1 c c0 c7 c8, wI_n c0, f1.1 c c5]
        have fW0 : ∀ j, j ≠ 10 → w'.1 0 j = w.1 0 j := fun j hj => by rw [f3.2.1 j hj, wI_at, if_neg (fun hh => hj hh.2), f1.1 0 (by decide)]
        have fW2 : w'.2 = w.2 := by rw [f3.2.2, wI_2, f1.2]
        have hnr := nr_le S p bud (n_J S)
        refine GI.y (S := S) (o := o) (x := nI (nr S p bud (n_J S)).2) (w1 := w') (v1 := v') ?_ eM m0 ⟨hn, hm0.frR fM, hc.same (fW 1 (by decide) (by decide) (by decide) (by decide)) (fW 9 (by decide) (by decide) (by decide) (by decide)) (fW 10 (by decide) (by decide) (by decide) (by decide)) (fW 11 (by decide) (by decide) (by decide) (by decide)) (fW 12 (by decide) (by decide) (by decide) (by decide)) (by rw [fW2]) (by rw [fW2]) (by rw [fW2]), hz.same (by rw [fW2]) (by rw [fW2]), Or.inr ⟨by rw [fW 2 (by decide) (by decide) (by decide) (by decide)]; exact a, by rw [fM.2.1 9 (by decide) (by decide) (by decide) (by decide)]; exact b, c.same (fW 2 (by decide) (by decide) (by decide) (by decide)) (fW 15 (by decide) (by decide) (by decide) (by decide)) (fW 16 (by decide) (by decide) (by decide) (by decide)) (fW 20 (by decide) (by decide) (by decide) (by decide)) (fW 21 (by decide) (by decide) (by decide) (by decide)) (by rw [fW2]) (by rw [fW2]) (by rw [fW2]), d.same (fM.1 6 (by decide) (by decide) (by decide) (by decide)) (fM.1 7 (by decide) (by decide) (by decide) (by decide)) (fM.1 8 (by decide) (by decide) (by decide) (by decide)) (fM.2.2 9 (by decide)) (fM.2.1 13 (by decide) (by decide) (by decide) (by decide)) (fM.2.1 14 (by decide) (by decide) (by decide) (by decide)), e0⟩, hl.same (Nat.le_refl _) (by rw [fW 3 (by decide) (by decide) (by decide) (by decide)]) (fW 24 (by decide) (by decide) (by decide) (by decide)) (fW 25 (by decide) (by decide) (by decide) (by decide)) (fW 26 (by decide) (by decide) (by decide) (by decide)) (by rw [fW2]) (fW 28 (by decide) (by decide) (by decide) (by decide)) (fM.2.1 19 (by decide) (by decide) (by decide) (by decide)) (fM.1 13 (by decide) (by decide) (by decide) (by decide)) (fM.1 14 (by decide) (by decide) (by decide) (by decide)) (fM.1 15 (by decide) (by decide) (by decide) (by decide)) (fM.1 16 (by decide) (by decide) (by decide) (by decide)) (fM.1 17 (by decide) (by decide) (by decide) (by decide)), hpl.same (fW 4 (by decide) (by decide) (by decide) (by decide)) (fM.1 12 (by decide) (by decide) (by decide) (by decide)), hpt.same (fW0 6 (by decide)) (fW0 7 (by decide)) (fW 6 (by decide) (by decide) (by decide) (by decide)) m26 m27 m18, ⟨_, by omega, n1, m29, fun i hi => by rw [n2 i hi, m19 i hi]⟩⟩
        unfold f_L_reach f_X3_reach
        rw [reqH_y a, bx_l, reqJ_y hc hn fu hp, bx_l, if_pos h0, e1, bn_e, nm_e1, e2, bn_e, nm_e1, n1, bx_l]
      · refine GI.n (S := S) (o := o) (c := 3) (w1 := w) (x := 0) (v1 := wI (wI v 0 0 0) 0 0 3) ?_ ?_ (t0 _ _) (by decide) (hR0.thr2 0 3)
        · unfold f_L_reach f_X3_reach
          rw [reqH_y a, bx_l, reqJ_y hc hn fu hp, bx_l, if_neg h0, bx_r, ex_n (by decide), ex_n (by decide), ex_y]
        · unfold f_X4_reach
          rw [looked_y hm0 hn b fu hp hp, bn_e, nm_e1, nm_e1, t0, if_pos rfl, if_neg h0, fail_ok, bn2_e]
theorem avLoopC (hc : RCn S w) (hn : NtOK S) (hf : 64 < fu) {a : Nat} (ha : a < n_J S) (hB : JR S a w) : iter (fun q : Int32 × Int32 × Int32 => bd_X3_averageDistance_21 fu w (nI a) q.1 q.2.1 q.2.2) fu ((0 : Int32), (0 : Int32), (0 : Int32)) = some (nI (av S a (n_J S)).1, nI (av S a (n_J S)).2) := by
  have hJ := hn.1
  have key : ∃ r : Int32 × Int32, iter (fun q : Int32 × Int32 × Int32 => bd_X3_averageDistance_21 fu w (nI a) q.1 q.2.1 q.2.2) fu ((0 : Int32), (0 : Int32), (0 : Int32)) = some r ∧ r = (nI (av S a (n_J S)).1, nI (av S a (n_J S)).2) := by
    refine iter_for0 (fun k (_ : Unit) => (nI (av S a k).1, nI (av S a k).2, nI k)) (n_J S) (fun _ _ => True) (fun (r : Int32 × Int32) => r = (nI (av S a (n_J S)).1, nI (av S a (n_J S)).2)) ?_ ?_ (by omega) () trivial
    · intro k s hk _
      have efc := found_ok hn fu hk hB
      refine ⟨(), ?_, trivial⟩
      show bd_X3_averageDistance_21 fu w (nI a) (nI (av S a k).1) (nI (av S a k).2) (nI k) = some (Sum.inl (nI (av S a (k + 1)).1, nI (av S a (k + 1)).2, nI (k + 1)))
      unfold bd_X3_averageDistance_21
      rw [nm_e1, hc.1, if_neg (nI_ge hk (by omega)), efc, bn_e]
      by_cases c1 : k = a
      · have ea : av S a (k + 1) = av S a k := if_pos c1
        rw [if_pos (by rw [c1]), nm_e1, nI_1, ea]
      · rw [if_neg (fun e2 => c1 ((nI_eq (by omega) (by omega)).mp e2))]
        cases hcj : n_c S a k with
        | none =>
          have ea : av S a (k + 1) = av S a k := by
            conv => lhs; unfold av
            rw [if_neg c1, hcj]
          rw [if_pos (show oI none < 0 by decide), nm_e1, nI_1, ea]
        | some d =>
          have ea : av S a (k + 1) = ((av S a k).1 + d, (av S a k).2 + 1) := by
            conv => lhs; unfold av
            rw [if_neg c1, hcj]
          have hd := n_c_le hn (show k < 2 ^ 31 by omega) hcj
          rw [show oI (some d) = nI d from rfl, if_neg (nI_pos (by omega)), ea]
          simp only [nm_e1]
          rw [nI_add, nI_1, nI_1]
    · intro s _
      refine ⟨_, ?_, rfl⟩
      show bd_X3_averageDistance_21 fu w (nI a) (nI (av S a (n_J S)).1) (nI (av S a (n_J S)).2) (nI (n_J S)) = _
      unfold bd_X3_averageDistance_21
      rw [nm_e1, hc.1, if_pos (nI_le (Nat.le_refl _) (by omega))]
  obtain ⟨r, e, rfl⟩ := key
  exact e
theorem L_24 (hR : Ra S w v) (hf : 2 ^ 80 ≤ fu) (x1 : Int32) : ∃ w1 v1 o1 od1, (∃ (c6 : Int32) (r7 : UInt64), f_L_averageDistance fu w od x1 = some (c6, w1, od1) ∧ f_X4_averageDistance fu v x1 = some (r7, v1) ∧ f_X4_thrown fu v1 = some c6 ∧ (c6 = 0 → od1 0 = r7) ∧ o1 = o) ∧ Rel w1 v1 := by
  have hm0 := hR.2.1
  have hm := (hR.thr 0).2.1
  have hn := hR.1
  have hc := hR.2.2.1
  have hJ := hn.1
  rcases hR.2.2.2.2.1 with ⟨a, b, _⟩ | ⟨a, b, c, d, e0⟩
  · refine ⟨w, wI v 0 0 1, o, od, ⟨1, FP.dconst0, ?_, ?_, thr_ok fu v 1, z_of (by decide), rfl⟩, S, hR.thr 1⟩
    · unfold f_L_averageDistance f_X3_averageDistance
      rw [reqH_n a, bx_r, bx_r, ex_y]
    · unfold f_X4_averageDistance
      rw [looked_0 b, bn_e, nm_e1, nm_e1, t0, if_neg (by decide)]
  · rcases jn_ix hn x1 with h | ⟨p, hp, rfl⟩
    · refine ⟨w, wI v 0 0 2, o, od, ⟨2, FP.dconst0, ?_, ?_, thr_ok fu v 2, z_of (by decide), rfl⟩, S, hR.thr 2⟩
      · unfold f_L_averageDistance f_X3_averageDistance
        rw [reqH_y a, bx_l, reqJ_n hc fu h, bx_r, bx_r, ex_n (by decide), ex_y]
      · unfold f_X4_averageDistance
        rw [looked_n hm0 hn b fu (Or.inl h), bn_e, nm_e1, nm_e1, t0, if_neg (by decide)]
    · obtain ⟨r, e1, r1, r2, r3⟩ := avLoop hm hn hf hp
      obtain ⟨w1, e2, f1, hB⟩ := searchFrom_ok hc c hn (show 64 < fu by omega) hp
      have eL := avLoopC (hc.frQ f1) hn (show 64 < fu by omega) hp hB
      have hle := av_le hn (a := p) (n_J S) (Nat.le_refl _)
      have k := hR.srch f1 r3
      by_cases hz : (av S p (n_J S)).2 = 0
      · refine ⟨w1, r.2.2, o, vf_upd od 0 FP.dconst0, ⟨0, FP.dconst0, ?_, ?_, thr_of fu k.2, fun _ => if_pos rfl, rfl⟩, S, k.1⟩
        · unfold f_L_averageDistance f_X3_averageDistance
          rw [reqH_y a, bx_l, reqJ_y hc hn fu hp, bx_l, e2, bn_e, eL, bn2_e, hz, if_pos nI_0, bx_l]
        · unfold f_X4_averageDistance
          rw [looked_y hm0 hn b fu hp hp, bn_e, nm_e1, nm_e1, t0, if_pos rfl, e1]
          show (if r.2.1 = 0 then some (FP.dconst0, r.2.2) else _) = _
          rw [r2, hz, if_pos nI_0]
      · have hck := fp_avg (s := (av S p (n_J S)).1) (c := (av S p (n_J S)).2) (by omega) (by omega)
        refine ⟨w1, r.2.2, o, vf_upd od 0 (FP.ddiv (FP.i2d (nI (av S p (n_J S)).1)) (FP.i2d (nI (av S p (n_J S)).2))), ⟨0, FP.ddiv (FP.i2d (nI (av S p (n_J S)).1)) (FP.i2d (nI (av S p (n_J S)).2)), ?_, ?_, thr_of fu k.2, fun _ => if_pos rfl, rfl⟩, S, k.1⟩
        · unfold f_L_averageDistance f_X3_averageDistance
          rw [reqH_y a, bx_l, reqJ_y hc hn fu hp, bx_l, e2, bn_e, eL, bn2_e, if_neg (nI_ne0 (by omega) (by omega)), ck_t hck, nm_e1, bx_l]
        · unfold f_X4_averageDistance
          rw [looked_y hm0 hn b fu hp hp, bn_e, nm_e1, nm_e1, t0, if_pos rfl, e1]
          show (if r.2.1 = 0 then some (FP.dconst0, r.2.2) else ck (vf_n64 (FP.ddiv (FP.l2d r.1) (FP.i2d r.2.1))) (nm (FP.ddiv (FP.l2d r.1) (FP.i2d r.2.1)) fun x8 => some (x8, r.2.2))) = _
          rw [r2, r1, if_neg (nI_ne0 (by omega) (by omega)), fp_l2d (by omega), ck_t hck, nm_e1]
theorem nstLoopC (hc : RCn S w) (hn : NtOK S) (hf : 64 < fu) {a c : Nat} (ha : a < n_J S) (h4 : c < 4) (hB : JR S a w) {pl : Nat → Bool} (hpl : ∀ j, j < n_J S → w.1 4 (4 * j + c) = if pl j = true then 1 else 0) : iter (fun q : Int32 × Int32 × Int32 => bd_X3_nearest_28 fu w (nI c) q.1 q.2.1 q.2.2) fu (((-1) : Int32), (536870912 : Int32), (0 : Int32)) = some (oI (nst S a pl (n_J S))) := by
  have hJ := hn.1
  have key : ∃ r : Int32, iter (fun q : Int32 × Int32 × Int32 => bd_X3_nearest_28 fu w (nI c) q.1 q.2.1 q.2.2) fu (((-1) : Int32), (536870912 : Int32), (0 : Int32)) = some r ∧ r = oI (nst S a pl (n_J S)) := by
    refine iter_for0 (fun k (s : Int32 × Int32) => (s.1, s.2, nI k)) (n_J S) (fun k s => s = bstL (dN S a) (fun j => pl j && (n_c S a j).isSome) k) (fun (r : Int32) => r = oI (nst S a pl (n_J S))) ?_ ?_ (by omega) ((-1), 536870912) rfl
    · intro k s hk hI
      have efc := found_ok hn fu hk hB
      refine ⟨bstL (dN S a) (fun j => pl j && (n_c S a j).isSome) (k + 1), ?_, rfl⟩
      show bd_X3_nearest_28 fu w (nI c) s.1 s.2 (nI k) = _
      unfold bd_X3_nearest_28 f_X3_place
      rw [nm_e1, hc.1, if_neg (nI_ge hk (by omega)), efc, bn_e, bn_e, ck_t (pl_in (by omega) h4), nm_e1, pl_cl (by omega) h4, hpl k hk, if_zo]
      unfold bstL at hI ⊢
      by_cases cp : pl k = true
      · rw [if_pos cp]
        cases hcj : n_c S a k with
        | none =>
          rw [if_pos (show oI none < 0 by decide), nm_e1, nI_1, bst_sF (by simp [hcj]), hI]
        | some d =>
          have hd := n_c_le hn (show k < 2 ^ 31 by omega) hcj
          have edN : dN S a k = d := by unfold dN; rw [hcj]; rfl
          have hq : ((fun j => pl j && (n_c S a j).isSome) k) = true := by simp [hcj, cp]
          rw [show oI (some d) = nI d from rfl, if_neg (nI_pos (by omega))]
          cases hb : bst (dN S a) (fun j => pl j && (n_c S a j).isSome) k with
          | none =>
            rw [hb] at hI
            rw [hI, bst_sN hb hq]
            show (if (536870912 : Int32) ≤ nI d then _ else _) = some (Sum.inl (nI k, nI (dN S a k), nI (k + 1)))
            rw [if_neg (show ¬ (536870912 : Int32) ≤ nI d from nI_ge (b := 536870912) (by omega) (by decide)), nm_e1, nI_1, edN]
          | some b =>
            rw [hb] at hI
            have hbo := bst_ok hb
            have hdb := dN_le hn (a := a) (show b < 2 ^ 31 by omega)
            rw [hI]
            show (if nI (dN S a b) ≤ nI d then _ else _) = _
            by_cases hlt : d < dN S a b
            · rw [if_neg (nI_ge hlt (by omega)), bst_sL hb hq (by rw [edN]; exact hlt), nm_e1, nI_1, ← edN]
            · rw [if_pos (nI_le (by omega) (by omega)), bst_sG hb (by rw [edN]; exact hlt), nm_e1, nI_1]
      · rw [if_neg cp, nm_e1, nI_1, bst_sF (by simp [cp]), hI]
    · intro s hI
      refine ⟨s.1, ?_, ?_⟩
      · show bd_X3_nearest_28 fu w (nI c) s.1 s.2 (nI (n_J S)) = _
        unfold bd_X3_nearest_28
        rw [nm_e1, hc.1, if_pos (nI_le (Nat.le_refl _) (by omega))]
      · rw [hI]
        unfold bstL nst
        cases bst (dN S a) (fun j => pl j && (n_c S a j).isSome) (n_J S) <;> rfl
  obtain ⟨r, e, rfl⟩ := key
  exact e
theorem L_27 (hR : Ra S w v) (hf : 2 ^ 80 ≤ fu) (x1 x2 : Int32) : GI fu (f_L_nearest fu w o x1 x2) (f_X4_nearest fu v x1 x2) od := by
  have hm0 := hR.2.1
  have hm := (hR.thr 0).2.1
  have hn := hR.1
  have hc := hR.2.2.1
  have hpl := hR.2.2.2.2.2.2.1
  have hJ := hn.1
  rcases hR.2.2.2.2.1 with ⟨a, b, _⟩ | ⟨a, b, c, d, e0⟩
  · refine GI.n (S := S) (o := o) (c := 1) (w1 := w) (x := 0) (v1 := wI v 0 0 1) ?_ ?_ (t0 _ _) (by decide) (hR.thr 1)
    · unfold f_L_nearest f_X3_nearest
      rw [reqH_n a, bx_r, bx_r, ex_y]
    · unfold f_X4_nearest
      rw [nm_e1, b, if_pos rfl, nm_e1, nm_e1, t0, if_neg (by decide)]
  · rcases jn_ix hn x1 with h | ⟨p, hp, rfl⟩
    · refine GI.n (S := S) (o := o) (c := 2) (w1 := w) (x := 0) (v1 := wI v 0 0 2) ?_ ?_ (t0 _ _) (by decide) (hR.thr 2)
      · unfold f_L_nearest f_X3_nearest
        rw [reqH_y a, bx_l, reqJ_n hc fu h, bx_r, bx_r, ex_n (by decide), ex_y]
      · unfold f_X4_nearest
        rw [nm_e1, b, if_neg (by decide), isJ_n hm0 fu h, bn_e, if_pos rfl, nm_e1, nm_e1, t0, if_neg (by decide)]
    · rcases ix_ix x2 (show 4 ≤ 64 by decide) with h | ⟨q, h4, rfl⟩
      · refine GI.n (S := S) (o := o) (c := 2) (w1 := w) (x := 0) (v1 := wI v 0 0 2) ?_ ?_ (t0 _ _) (by decide) (hR.thr 2)
        · unfold f_L_nearest f_X3_nearest
          rw [reqH_y a, bx_l, reqJ_y hc hn fu hp, bx_l, reqK_n h, bx_r, bx_r, ex_n (by decide), ex_y]
        · unfold f_X4_nearest
          rw [nm_e1, b, if_neg (by decide), isJ_y hm0 hn fu hp, bn_e, if_neg (by decide)]
          rcases h with h | ⟨h0, h⟩
          · rw [if_pos h, nm_e1, nm_e1, t0, if_neg (by decide)]
          · rw [if_neg h0, if_neg (show ¬ x2 < (4 : Int32) from Int32.not_lt.mpr h), nm_e1, nm_e1, t0, if_neg (by decide)]
      · have hW : ∀ j, j < n_J S → w.1 4 (4 * j + q) = if (fun j => decide (w.1 4 (4 * j + q) = 1)) j = true then 1 else 0 := fun j hj => by
          show w.1 4 (4 * j + q) = if decide (w.1 4 (4 * j + q) = 1) = true then 1 else 0
          rcases (hpl j q (by omega) h4).1 with e | e
          · rw [e]
            decide
          · rw [e]
            decide
        have hV : ∀ j, j < n_J S → (wI v 0 0 0).1 12 (4 * j + q) = if (fun j => decide (w.1 4 (4 * j + q) = 1)) j = true then 1 else 0 := fun j hj => by
          rw [wI_n (by decide), (hpl j q (by omega) h4).2]
          exact hW j hj
        obtain ⟨r, e1, r1, r2⟩ := nstLoop hm hn hf hp h4 hV
        obtain ⟨w1, e2, f1, hB⟩ := searchFrom_ok hc c hn (show 64 < fu by omega) hp
        have eL := nstLoopC (hc.frQ f1) hn (show 64 < fu by omega) hp h4 hB (pl := fun j => decide (w.1 4 (4 * j + q) = 1)) (fun j hj => by rw [f1.1 4 (by decide)]; exact hW j hj)
        have k := hR.srch f1 r2
        have eC : f_X3_nearest fu w (nI p) (nI q) = if 0 ≤ oI (nst S p (fun j => decide (w.1 4 (4 * j + q) = 1)) (n_J S)) then some (.inl (oI (nst S p (fun j => decide (w.1 4 (4 * j + q) = 1)) (n_J S)), w1)) else some (.inr ("java/util/NoSuchElementException", w1)) := by
          unfold f_X3_nearest
          rw [reqH_y a, bx_l, reqJ_y hc hn fu hp, bx_l, reqK_y h4, bx_l, e2, bn_e, eL, bn_e]
        have eM : f_X4_nearest fu v (nI p) (nI q) = if r.1 = -1 then some (0, wI r.2 0 0 3) else some (r.1, r.2) := by
          unfold f_X4_nearest
          rw [nm_e1, b, if_neg (by decide), isJ_y hm0 hn fu hp, bn_e, if_neg (by decide), if_neg (nI_pos (by omega)), if_pos (show nI q < (4 : Int32) from nI_lt (b := 4) h4 (by decide)), nm_e1, nm_e1, t0, if_pos rfl, e1]
          rfl
        rw [r1] at eM
        cases hb : nst S p (fun j => decide (w.1 4 (4 * j + q) = 1)) (n_J S) with
        | none =>
          rw [hb] at eC eM
          rw [if_neg (show ¬ (0 : Int32) ≤ oI none by decide)] at eC
          rw [if_pos (show oI none = -1 from rfl)] at eM
          refine GI.n (S := S) (o := o) (c := 3) (w1 := w1) (x := 0) (v1 := wI r.2 0 0 3) ?_ eM (t0 _ _) (by decide) (k.1.thr 3)
          unfold f_L_nearest
          rw [eC, bx_r, ex_n (by decide), ex_n (by decide), ex_y]
        | some y =>
          have hy := bst_ok hb
          rw [hb] at eC eM
          rw [if_pos (show (0 : Int32) ≤ oI (some y) from nI_pos' (by omega))] at eC
          rw [if_neg (show ¬ oI (some y) = -1 from m1_ne (by omega))] at eM
          refine GI.y (S := S) (o := o) (x := oI (some y)) (w1 := w1) (v1 := r.2) ?_ eM k.2 k.1
          unfold f_L_nearest
          rw [eC, bx_l]
end S5
