/-! steps: addRoad, prepare, the hierarchy's looks, the kept path, places -/
section S1
variable {S : Nt} {w v : WS} {fu : Nat} {o : Nat → Int64} {od : Nat → UInt64}
theorem append_ok (h : RCn S w) (hn : NtOK S) {f t x : Nat} (h64 : n_R S < 64) (hf : f < n_J S) (ht : t < n_J S) : ∃ W, f_X2_append fu w (nI f) (nI t) (nI x) = some (nI (n_R S), W) ∧ RCn (n_ar S f t x) W ∧ (∀ c, c ≠ 1 → c ≠ 9 → c ≠ 10 → c ≠ 11 → W.1 c = w.1 c) ∧ ∀ c, c ≠ 1 → c ≠ 13 → c ≠ 14 → W.2 c = w.2 c := by
  have hJ := hn.1
  have mk : ∀ W : WS, W = wI (wL (wL (wL (wI (wI (wI w 9 (n_R S) (nI f)) 10 (n_R S) (nI t)) 11 (n_R S) (nI x)) 13 f (w.2 13 f ||| ((1 : Int64) <<< ((nI (n_R S)).toInt64 &&& 63)))) 14 t (w.2 14 t ||| ((1 : Int64) <<< ((nI (n_R S)).toInt64 &&& 63)))) 1 8 (w.2 1 8 ||| ((1 : Int64) <<< ((nI (n_R S)).toInt64 &&& 63)))) 1 1 (nI (n_R S + 1)) → f_X2_append fu w (nI f) (nI t) (nI x) = some (nI (n_R S), W) ∧ RCn (n_ar S f t x) W ∧ (∀ c, c ≠ 1 → c ≠ 9 → c ≠ 10 → c ≠ 11 → W.1 c = w.1 c) ∧ ∀ c, c ≠ 1 → c ≠ 13 → c ≠ 14 → W.2 c = w.2 c := by
    intro W eW
    have w2 : W.2 = (wL (wL (wL w 13 f (w.2 13 f ||| ((1 : Int64) <<< ((nI (n_R S)).toInt64 &&& 63)))) 14 t (w.2 14 t ||| ((1 : Int64) <<< ((nI (n_R S)).toInt64 &&& 63)))) 1 8 (w.2 1 8 ||| ((1 : Int64) <<< ((nI (n_R S)).toInt64 &&& 63)))).2 := by rw [eW]; rfl
    have w1 : W.1 = (wI (wI (wI (wI w 9 (n_R S) (nI f)) 10 (n_R S) (nI t)) 11 (n_R S) (nI x)) 1 1 (nI (n_R S + 1))).1 := by rw [eW]; rfl
    refine ⟨?_, ⟨?_, ?_, fun r hr => ?_, fun a b ha hb => ?_, fun j i hj hi => ?_, fun j i hj hi => ?_, fun i hi => ?_, ?_⟩, fun c c1 c9 c10 c11 => ?_, fun c c1 c13 c14 => ?_⟩
    · unfold f_X2_append
      simp only [nm_e1]
      rw [h.2.1]
      simp only [only_ok, bn_e, ck_t (in64 h64), cl64 h64, ck_t (vp_in_nI (show f < 32 by omega) (show 32 < 2 ^ 31 by decide)), ck_t (vp_in_nI (show t < 32 by omega) (show 32 < 2 ^ 31 by decide)), nI_clamp (show f < 2 ^ 31 by omega), nI_clamp (show t < 2 ^ 31 by omega), wL_1, wI_2]
      rw [wI_n (show (1 : Nat) ≠ 11 by decide), wI_n (show (1 : Nat) ≠ 10 by decide), wI_n (show (1 : Nat) ≠ 9 by decide), h.2.1, nI_1, wL_n (show (14 : Nat) ≠ 13 by decide), wL_n (show (1 : Nat) ≠ 14 by decide), wL_n (show (1 : Nat) ≠ 13 by decide), eW]
      rfl
    · rw [w1, wI_at, if_neg (by decide), wI_n (by decide), wI_n (by decide), wI_n (by decide)]; exact h.1
    · rw [w1, wI_at, if_pos ⟨rfl, rfl⟩]; rfl
    · have hr : r < n_R S + 1 := hr
      show W.1 9 r = nI (updN (n_f S) (n_R S) f r) ∧ W.1 10 r = nI (updN (n_t S) (n_R S) t r) ∧ W.1 11 r = nI (updN (n_w S) (n_R S) x r)
      have a9 : W.1 9 r = if r = n_R S then nI f else w.1 9 r := by
        rw [w1, wI_n (by decide), wI_n (by decide), wI_n (by decide), wI_at]
        simp only [true_and]
      have a10 : W.1 10 r = if r = n_R S then nI t else w.1 10 r := by
        rw [w1, wI_n (by decide), wI_n (by decide), wI_at, wI_n (by decide)]
        simp only [true_and]
      have a11 : W.1 11 r = if r = n_R S then nI x else w.1 11 r := by
        rw [w1, wI_n (by decide), wI_at, wI_n (by decide), wI_n (by decide)]
        simp only [true_and]
      rw [a9, a10, a11]
      by_cases e : r = n_R S
      · rw [if_pos e, if_pos e, if_pos e, e, updN_s, updN_s, updN_s]
        exact ⟨rfl, rfl, rfl⟩
      · rw [if_neg e, if_neg e, if_neg e, updN_n e, updN_n e, updN_n e]
        exact h.2.2.1 r (by omega)
    · rw [w1, wI_n (by decide), wI_n (by decide), wI_n (by decide), wI_n (by decide)]
      exact h.2.2.2.1 a b ha hb
    · show bL (W.2 13 j) i = (decide (i < n_R S + 1) && (updN (n_f S) (n_R S) f i == j))
      rw [w2, wL_n (show (13 : Nat) ≠ 1 by decide), wL_n (show (13 : Nat) ≠ 14 by decide), wL_s2]
      have k := h.2.2.2.2.1 j i hj hi
      by_cases e : i = n_R S
      · rw [e, updN_s, decide_eq_true (Nat.lt_succ_self (n_R S)), Bool.true_and]
        have k0 := h.2.2.2.2.1 j (n_R S) hj (by omega)
        rw [decide_eq_false (Nat.lt_irrefl _), Bool.false_and] at k0
        by_cases ej : j = f
        · rw [if_pos ej, bL_or, bL_one h64, decide_eq_true rfl, Bool.or_true, ej]
          simp
        · rw [if_neg ej, k0]
          have : ¬ f = j := fun h => ej h.symm
          simp [this]
      · have ed : decide (i < n_R S + 1) = decide (i < n_R S) := by
          by_cases d : i < n_R S
          · rw [decide_eq_true d, decide_eq_true (by omega)]
          · rw [decide_eq_false d, decide_eq_false (by omega)]
        rw [updN_n e, ed]
        by_cases ej : j = f
        · rw [if_pos ej, bL_or, bL_one h64, decide_eq_false e, Bool.or_false, ← ej]
          exact k
        · rw [if_neg ej]
          exact k
    · show bL (W.2 14 j) i = (decide (i < n_R S + 1) && (updN (n_t S) (n_R S) t i == j))
      rw [w2, wL_n (show (14 : Nat) ≠ 1 by decide), wL_s2]
      have k := h.2.2.2.2.2.1 j i hj hi
      by_cases e : i = n_R S
      · rw [e, updN_s, decide_eq_true (Nat.lt_succ_self (n_R S)), Bool.true_and]
        have k0 := h.2.2.2.2.2.1 j (n_R S) hj (by omega)
        rw [decide_eq_false (Nat.lt_irrefl _), Bool.false_and] at k0
        by_cases ej : j = t
        · rw [if_pos ej, bL_or, bL_one h64, decide_eq_true rfl, Bool.or_true, ej]
          simp
        · rw [if_neg ej, wL_n (by decide), k0]
          have : ¬ t = j := fun h => ej h.symm
          simp [this]
      · have ed : decide (i < n_R S + 1) = decide (i < n_R S) := by
          by_cases d : i < n_R S
          · rw [decide_eq_true d, decide_eq_true (by omega)]
          · rw [decide_eq_false d, decide_eq_false (by omega)]
        rw [updN_n e, ed]
        by_cases ej : j = t
        · rw [if_pos ej, bL_or, bL_one h64, decide_eq_false e, Bool.or_false, ← ej]
          exact k
        · rw [if_neg ej, wL_n (by decide)]
          exact k
    · show bL (W.2 1 8) i = (decide (i < n_R S + 1) && if i = n_R S then true else n_o S i)
      rw [w2, wL_s2, if_pos rfl, bL_or, bL_one h64, h.2.2.2.2.2.2.1 i hi]
      by_cases e : i = n_R S
      · rw [if_pos e, decide_eq_true e, Bool.or_true, decide_eq_true (by omega)]
        rfl
      · rw [if_neg e, decide_eq_false e, Bool.or_false]
        congr 1
        by_cases d : i < n_R S
        · rw [decide_eq_true d, decide_eq_true (by omega)]
        · rw [decide_eq_false d, decide_eq_false (by omega)]
    · rw [w1, wI_at, if_neg (by decide), wI_n (by decide), wI_n (by decide), wI_n (by decide)]; exact h.2.2.2.2.2.2.2
    · rw [w1, wI_n c1, wI_n c11, wI_n c10, wI_n c9]
    · rw [w2, wL_n c1, wL_n c14, wL_n c13]
  exact ⟨_, mk _ rfl⟩
/-- both are junctions, or not -/
theorem jn2_ix (hn : NtOK S) (x y : Int32) : ((x < 0 ∨ nI (n_J S) ≤ x) ∨ (∃ a, a < n_J S ∧ x = nI a) ∧ (y < 0 ∨ nI (n_J S) ≤ y)) ∨ ∃ a b, a < n_J S ∧ b < n_J S ∧ x = nI a ∧ y = nI b := by
  rcases jn_ix hn x with h | ⟨a, ha, rfl⟩
  · exact Or.inl (Or.inl h)
  · rcases jn_ix hn y with h | ⟨b, hb, rfl⟩
    · exact Or.inl (Or.inr ⟨⟨a, ha, rfl⟩, h⟩)
    · exact Or.inr ⟨a, b, ha, hb, rfl, rfl⟩
theorem L_1 (hR : Ra S w v) (x1 x2 x3 : Int32) : GI fu (f_L_addRoad fu w o x1 x2 x3) (f_X4_addRoad fu v x1 x2 x3) od := by
  have hR0 := hR
  have hm := (hR.thr 0).2.1
  obtain ⟨hn, hm0, hc, hz, hp, hl, hpl, hpt, hne⟩ := hR
  have hJ := hn.1
  have hR64 := hn.2.1
  rcases jn2_ix hn x1 x2 with h | ⟨a, b, ha, hb, rfl, rfl⟩
  · refine GI.n (S := S) (o := o) (c := 1) (w1 := w) (x := 0) (v1 := wI (wI v 0 0 0) 0 0 1) ?_ ?_ (t0 _ _) (by decide) (hR0.thr2 0 1)
    · unfold f_L_addRoad f_X3_addRoad
      rcases h with h | ⟨⟨a, ha, rfl⟩, h⟩
      · rw [reqJ_n hc fu h, bx_r, bx_r, ex_y]
      · rw [reqJ_y hc hn fu ha, bx_l, reqJ_n hc fu h, bx_r, bx_r, ex_y]
    · unfold f_X4_addRoad
      rcases h with h | ⟨⟨a, ha, rfl⟩, h⟩
      · rw [nm_e1, isJ_n hm fu h, bn_e, if_pos rfl, fail_ok, bn2_e]
      · rw [nm_e1, isJ_y hm hn fu ha, bn_e, if_neg (by decide), isJ_n hm fu h, bn_e, if_pos rfl, fail_ok, bn2_e]
  · by_cases hab : a = b
    · refine GI.n (S := S) (o := o) (c := 2) (w1 := w) (x := 0) (v1 := wI (wI v 0 0 0) 0 0 2) ?_ ?_ (t0 _ _) (by decide) (hR0.thr2 0 2)
      · unfold f_L_addRoad f_X3_addRoad
        rw [reqJ_y hc hn fu ha, bx_l, reqJ_y hc hn fu hb, bx_l, if_pos (by rw [hab]), bx_r, ex_n (by decide), ex_y]
      · unfold f_X4_addRoad
        rw [nm_e1, isJ_y hm hn fu ha, bn_e, if_neg (by decide), isJ_y hm hn fu hb, bn_e, if_neg (by decide), if_pos (by rw [hab]), fail_ok, bn2_e]
    · have hab2 : ¬ nI a = nI b := fun e => hab ((nI_eq (by omega) (by omega)).mp e)
      rcases wt_ix x3 with h | ⟨x, hx1, hx2, rfl⟩
      · refine GI.n (S := S) (o := o) (c := 2) (w1 := w) (x := 0) (v1 := wI (wI v 0 0 0) 0 0 2) ?_ ?_ (t0 _ _) (by decide) (hR0.thr2 0 2)
        · unfold f_L_addRoad f_X3_addRoad
          rw [reqJ_y hc hn fu ha, bx_l, reqJ_y hc hn fu hb, bx_l, if_neg hab2, reqW_n fu h, bx_r, bx_r, ex_n (by decide), ex_y]
        · unfold f_X4_addRoad
          rw [nm_e1, isJ_y hm hn fu ha, bn_e, if_neg (by decide), isJ_y hm hn fu hb, bn_e, if_neg (by decide), if_neg hab2]
          by_cases h1 : x3 < 1
          · rw [if_pos h1, fail_ok, bn2_e]
          · rw [if_neg h1, if_neg (h.resolve_left h1), fail_ok, bn2_e]
      · have w1 : ¬ nI x < (1 : Int32) := nI_nlt (b := 1) hx1 (by omega)
        have w2 : nI x ≤ (10000 : Int32) := nI_le (b := 10000) hx2 (by decide)
        by_cases h64 : n_R S < 64
        · obtain ⟨W, eW, cW, f1, f2⟩ := append_ok (fu := fu) (w := wI w 2 1 0) (x := x) (f := a) (t := b) (hc.same (wI_n (by decide)) (wI_n (by decide)) (wI_n (by decide)) (wI_n (by decide)) (wI_n (by decide)) rfl rfl rfl) hn h64 ha hb
          have hv : ∃ V, V = wI (wI (wI (wI (wI (wI (wI (wI (wI v 0 0 0) 1 (n_R S) (nI a)) 2 (n_R S) (nI b)) 3 (n_R S) (nI x)) 4 (n_R S) 1) 0 2 (nI (n_R S + 1))) 0 9 0) 0 14 0) 0 13 0 := ⟨_, rfl⟩
          obtain ⟨V, eV⟩ := hv
          have v0 : ∀ j, V.1 0 j = if j = 13 then 0 else if j = 14 then 0 else if j = 9 then 0 else if j = 2 then nI (n_R S + 1) else if j = 0 then 0 else v.1 0 j := fun j => by
            rw [eV, wI_at, wI_at, wI_at, wI_at, wI_n (by decide), wI_n (by decide), wI_n (by decide), wI_n (by decide), wI_at]
            simp only [true_and]
          have vd : ∀ c, c ≠ 0 → c ≠ 1 → c ≠ 2 → c ≠ 3 → c ≠ 4 → V.1 c = v.1 c := fun c c0 c1 c2 c3 c4 => by rw [eV, wI_n c0, wI_n c0, wI_n c0, wI_n c0, wI_n c4, wI_n c3, wI_n c2, wI_n c1, wI_n c0]
          have v1 : ∀ r, V.1 1 r = if r = n_R S then nI a else v.1 1 r := fun r => by
            rw [eV, wI_n (by decide), wI_n (by decide), wI_n (by decide), wI_n (by decide), wI_n (by decide), wI_n (by decide), wI_n (by decide), wI_at, wI_n (by decide)]
            simp only [true_and]
          have v2 : ∀ r, V.1 2 r = if r = n_R S then nI b else v.1 2 r := fun r => by
            rw [eV, wI_n (by decide), wI_n (by decide), wI_n (by decide), wI_n (by decide), wI_n (by decide), wI_n (by decide), wI_at, wI_n (by decide), wI_n (by decide)]
            simp only [true_and]
          have v3 : ∀ r, V.1 3 r = if r = n_R S then nI x else v.1 3 r := fun r => by
            rw [eV, wI_n (by decide), wI_n (by decide), wI_n (by decide), wI_n (by decide), wI_n (by decide), wI_at, wI_n (by decide), wI_n (by decide), wI_n (by decide)]
            simp only [true_and]
          have v4 : ∀ r, V.1 4 r = if r = n_R S then 1 else v.1 4 r := fun r => by
            rw [eV, wI_n (by decide), wI_n (by decide), wI_n (by decide), wI_n (by decide), wI_at, wI_n (by decide), wI_n (by decide), wI_n (by decide), wI_n (by decide)]
            simp only [true_and]
          have g1 : ∀ c, c ≠ 1 → c ≠ 2 → c ≠ 9 → c ≠ 10 → c ≠ 11 → W.1 c = w.1 c := fun c c1 c2 c9 c10 c11 => by rw [f1 c c1 c9 c10 c11, wI_n c2]
          refine GI.y (S := n_ar S a b x) (o := o) (x := nI (n_R S)) (w1 := W) (v1 := V) ?_ ?_ (by rw [v0]; rfl) ⟨hn.ar h64 ha hb hab hx1 hx2, ?_, cW, hz.same (f2 22 (by decide) (by decide) (by decide)) (f2 23 (by decide) (by decide) (by decide)), Or.inl ⟨?_, by rw [v0]; rfl, by rw [v0]; rfl, by rw [v0]; rfl⟩, hl.same (Nat.le_succ _) (by rw [g1 3 (by decide) (by decide) (by decide) (by decide) (by decide)]) (g1 24 (by decide) (by decide) (by decide) (by decide) (by decide)) (g1 25 (by decide) (by decide) (by decide) (by decide) (by decide)) (g1 26 (by decide) (by decide) (by decide) (by decide) (by decide)) (f2 27 (by decide) (by decide) (by decide)) (g1 28 (by decide) (by decide) (by decide) (by decide) (by decide)) (by rw [v0]; rfl) (vd 13 (by decide) (by decide) (by decide) (by decide) (by decide)) (vd 14 (by decide) (by decide) (by decide) (by decide) (by decide)) (vd 15 (by decide) (by decide) (by decide) (by decide) (by decide)) (vd 16 (by decide) (by decide) (by decide) (by decide) (by decide)) (vd 17 (by decide) (by decide) (by decide) (by decide) (by decide)), hpl.same (g1 4 (by decide) (by decide) (by decide) (by decide) (by decide)) (vd 12 (by decide) (by decide) (by decide) (by decide) (by decide)), hpt.same (by rw [g1 0 (by decide) (by decide) (by decide) (by decide) (by decide)]) (by rw [g1 0 (by decide) (by decide) (by decide) (by decide) (by decide)]) (g1 6 (by decide) (by decide) (by decide) (by decide) (by decide)) (by rw [v0]; rfl) (by rw [v0]; rfl) (vd 18 (by decide) (by decide) (by decide) (by decide) (by decide)), hne.same (by rw [g1 0 (by decide) (by decide) (by decide) (by decide) (by decide)]) (g1 7 (by decide) (by decide) (by decide) (by decide) (by decide)) (by rw [v0]; rfl) (vd 19 (by decide) (by decide) (by decide) (by decide) (by decide))⟩
          · unfold f_L_addRoad f_X3_addRoad
            rw [reqJ_y hc hn fu ha, bx_l, reqJ_y hc hn fu hb, bx_l, if_neg hab2, reqW_y fu hx1 hx2, bx_l, nm_e1, hc.2.1, if_pos (show nI (n_R S) < (64 : Int32) from nI_lt (b := 64) h64 (by decide)), nm_e1, eW, bn2_e, bx_l]
          · unfold f_X4_addRoad
            rw [nm_e1, isJ_y hm hn fu ha, bn_e, if_neg (by decide), isJ_y hm hn fu hb, bn_e, if_neg (by decide), if_neg hab2, if_neg w1, if_pos w2]
            have e02 : (wI v 0 0 0).1 0 2 = nI (n_R S) := hm.2.1
            simp only [nm_e1]
            rw [e02, if_neg (fun e => by have := (nI_eq (b := 64) (by omega) (by decide)).mp e; omega), ck_t (in64 h64), cl64 h64, wI_n (show (0 : Nat) ≠ 1 by decide), e02, ck_t (in64 h64), cl64 h64, wI_n (show (0 : Nat) ≠ 2 by decide), wI_n (show (0 : Nat) ≠ 1 by decide), e02, ck_t (in64 h64), cl64 h64, wI_n (show (0 : Nat) ≠ 3 by decide), wI_n (show (0 : Nat) ≠ 2 by decide), wI_n (show (0 : Nat) ≠ 1 by decide), e02, ck_t (in64 h64), cl64 h64, vnb1, wI_n (show (0 : Nat) ≠ 4 by decide), wI_n (show (0 : Nat) ≠ 3 by decide), wI_n (show (0 : Nat) ≠ 2 by decide), wI_n (show (0 : Nat) ≠ 1 by decide), e02, nI_1, ← eV, v0, if_neg (by decide), if_neg (by decide), if_neg (by decide), if_pos rfl, nI_pred]
          · refine ⟨by rw [v0]; exact hm0.1, by rw [v0]; rfl, fun r hr => ?_, fun p q hp hq => ?_, by rw [v0]; exact hm0.2.2.2.2⟩
            · have hr : r < n_R S + 1 := hr
              show V.1 1 r = nI (updN (n_f S) (n_R S) a r) ∧ V.1 2 r = nI (updN (n_t S) (n_R S) b r) ∧ V.1 3 r = nI (updN (n_w S) (n_R S) x r) ∧ V.1 4 r = if (if r = n_R S then true else n_o S r) = true then 1 else 0
              rw [v1, v2, v3, v4]
              by_cases e : r = n_R S
              · rw [if_pos e, if_pos e, if_pos e, if_pos e, e, updN_s, updN_s, updN_s, if_pos rfl, if_pos rfl]
                exact ⟨rfl, rfl, rfl, rfl⟩
              · rw [if_neg e, if_neg e, if_neg e, if_neg e, updN_n e, updN_n e, updN_n e, if_neg e]
                exact hm0.2.2.1 r (by omega)
            · rw [vd 5 (by decide) (by decide) (by decide) (by decide) (by decide)]
              exact hm0.2.2.2.1 p q hp hq
          · rw [f1 2 (by decide) (by decide) (by decide) (by decide), wI_at, if_pos ⟨rfl, rfl⟩]
        · have e64 : n_R S = 64 := by omega
          refine GI.n (S := S) (o := o) (c := 3) (w1 := w) (x := 0) (v1 := wI (wI v 0 0 0) 0 0 3) ?_ ?_ (t0 _ _) (by decide) (hR0.thr2 0 3)
          · unfold f_L_addRoad f_X3_addRoad
            rw [reqJ_y hc hn fu ha, bx_l, reqJ_y hc hn fu hb, bx_l, if_neg hab2, reqW_y fu hx1 hx2, bx_l, nm_e1, hc.2.1, e64, if_neg (by decide), bx_r, ex_n (by decide), ex_n (by decide), ex_y]
          · unfold f_X4_addRoad
            rw [nm_e1, isJ_y hm hn fu ha, bn_e, if_neg (by decide), isJ_y hm hn fu hb, bn_e, if_neg (by decide), if_neg hab2, if_neg w1, if_pos w2, nm_e1, show (wI v 0 0 0).1 0 2 = nI (n_R S) from hm.2.1, e64, if_pos (by decide), fail_ok, bn2_e]
end S1
