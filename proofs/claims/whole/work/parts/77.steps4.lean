/-! steps: distance, distanceBehind, route -/
section S4
variable {S : Nt} {w v : WS} {fu : Nat} {o : Nat → Int64} {od : Nat → UInt64}
/-- behind a search of both -/
theorem Ra.srch (h : Ra S w v) {w' r : WS} (fw : FrQ w' w) (fb : FrB r (wI v 0 0 0)) : Ra S w' r ∧ r.1 0 0 = 0 := by
  have c0 : ∀ j, j ≠ 0 → r.1 0 j = v.1 0 j := fun j hj => by rw [fb.1 0 (by decide), w0n v 0 hj]
  exact ⟨h.search fw (fb.toR.trans (FrR.f0 v 0 0 (by decide))) (c0 26 (by decide)) (c0 27 (by decide)) (c0 29 (by decide)) (by rw [fb.1 18 (by decide), wI_n (by decide)]) (by rw [fb.1 19 (by decide), wI_n (by decide)]), by rw [fb.1 0 (by decide), t0]⟩
theorem L_17 (hR : Ra S w v) (hf : 2 ^ 80 ≤ fu) (x1 x2 : Int32) : GI fu (f_L_distance fu w o x1 x2) (f_X4_distance fu v x1 x2) od := by
  have hn := hR.1
  have hc := hR.2.2.1
  have hm0 := hR.2.1
  have hm := (hR.thr 0).2.1
  rcases hR.2.2.2.2.1 with ⟨a, b, _⟩ | ⟨a, b, c, d, _⟩
  · refine GI.n (S := S) (o := o) (c := 1) (w1 := w) (x := 0) (v1 := wI v 0 0 1) ?_ ?_ (t0 _ _) (by decide) (hR.thr 1)
    · unfold f_L_distance f_X3_distance
      rw [reqH_n a, bx_r, bx_r, ex_y]
    · unfold f_X4_distance
      rw [looked_0 b, bn_e, nm_e1, nm_e1, t0, if_neg (by decide)]
  · rcases jn2_ix hn x1 x2 with h | ⟨p, q, hp, hq, rfl, rfl⟩
    · refine GI.n (S := S) (o := o) (c := 2) (w1 := w) (x := 0) (v1 := wI v 0 0 2) ?_ ?_ (t0 _ _) (by decide) (hR.thr 2)
      · unfold f_L_distance f_X3_distance
        rcases h with h | ⟨⟨p, hp, rfl⟩, h⟩
        · rw [reqH_y a, bx_l, reqJ_n hc fu h, bx_r, bx_r, ex_n (by decide), ex_y]
        · rw [reqH_y a, bx_l, reqJ_y hc hn fu hp, bx_l, reqJ_n hc fu h, bx_r, bx_r, ex_n (by decide), ex_y]
      · unfold f_X4_distance
        rw [looked_n hm0 hn b fu h, bn_e, nm_e1, nm_e1, t0, if_neg (by decide)]
    · obtain ⟨w', e1, f1⟩ := costBetween_ok hc c hn (show 64 < fu by omega) hp hq
      obtain ⟨r, e2, f2, _⟩ := between_ok hm hn hf hp hq
      have k := hR.srch f1 f2
      refine GI.y (S := S) (o := o) (x := oI (n_c S p q)) (w1 := w') (v1 := r) ?_ ?_ k.2 k.1
      · unfold f_L_distance f_X3_distance
        rw [reqH_y a, bx_l, reqJ_y hc hn fu hp, bx_l, reqJ_y hc hn fu hq, bx_l, e1, bn2_e, bx_l]
      · unfold f_X4_distance
        rw [looked_y hm0 hn b fu hp hq, bn_e, nm_e1, nm_e1, t0, if_pos rfl, e2, bn2_e]
theorem L_18 (hR : Ra S w v) (hf : 2 ^ 80 ≤ fu) (x1 x2 : Int32) : GI fu (f_L_distanceBehind fu w o x1 x2) (f_X4_distanceBehind fu v x1 x2) od := by
  have hn := hR.1
  have hc := hR.2.2.1
  have hm0 := hR.2.1
  have hm := (hR.thr 0).2.1
  have hR64 := hn.2.1
  have hJ := hn.1
  rcases hR.2.2.2.2.1 with ⟨a, b, _⟩ | ⟨a, b, c, d, _⟩
  · refine GI.n (S := S) (o := o) (c := 1) (w1 := w) (x := 0) (v1 := wI v 0 0 1) ?_ ?_ (t0 _ _) (by decide) (hR.thr 1)
    · unfold f_L_distanceBehind f_X3_distanceBehind
      rw [reqH_n a, bx_r, bx_r, ex_y]
    · unfold f_X4_distanceBehind
      rw [nm_e1, b, if_pos rfl, nm_e1, nm_e1, t0, if_neg (by decide)]
  · rcases rd_ix hn x1 with h | ⟨r, hr, rfl⟩
    · refine GI.n (S := S) (o := o) (c := 2) (w1 := w) (x := 0) (v1 := wI v 0 0 2) ?_ ?_ (t0 _ _) (by decide) (hR.thr 2)
      · unfold f_L_distanceBehind f_X3_distanceBehind
        rw [reqH_y a, bx_l, reqR_n hc fu h, bx_r, bx_r, ex_n (by decide), ex_y]
      · unfold f_X4_distanceBehind
        rw [nm_e1, b, if_neg (by decide), isRoad_n hm0 fu h, bn_e, if_pos rfl, nm_e1, nm_e1, t0, if_neg (by decide)]
    · rcases jn_ix hn x2 with h | ⟨g, hg, rfl⟩
      · refine GI.n (S := S) (o := o) (c := 2) (w1 := w) (x := 0) (v1 := wI v 0 0 2) ?_ ?_ (t0 _ _) (by decide) (hR.thr 2)
        · unfold f_L_distanceBehind f_X3_distanceBehind
          rw [reqH_y a, bx_l, reqR_y hc hn fu hr, bx_l, reqJ_n hc fu h, bx_r, bx_r, ex_n (by decide), ex_y]
        · unfold f_X4_distanceBehind
          rw [nm_e1, b, if_neg (by decide), isRoad_y hm0 hn fu hr, bn_e, if_neg (by decide), isJ_n hm0 fu h, bn_e, if_pos rfl, nm_e1, nm_e1, t0, if_neg (by decide)]
      · obtain ⟨r', be, co, eM, f2, rb, hE⟩ := findBehind_ok hm hn hf (show g < 2 ^ 31 by omega)
        have hr' := hm.frB f2
        have fr := fillRow w
        have hZI : n_Z S g r ≤ 536870912 := Nat.le_trans ((Z_ok hn (show g < 2 ^ 31 by omega)).1.1 r hr) (goalB_le g r)
        have eO : f_X3_has fu ((wF w 5 (fillF 64 536870912 (w.1 5))).2 1 8) (nI r) = some (if n_o S r = true then 1 else 0) := open_ok hc hn fu hr
        have main : ∃ w', FrQ w' w ∧ f_X3_distanceBehind fu w (nI r) (nI g) = some (.inl (cI (n_Z S g r), w')) := by
          by_cases ho : n_o S r = true
          · obtain ⟨w', e1, f1, e2⟩ := behind_ok hc c hn (show 64 < fu by omega) hr hg (u := wI (wF w 5 (fillF 64 536870912 (w.1 5))) 5 r 0) ((FrQ.i5 _ _ _).trans fr.1) (fun t ht => by
              show (wI (wF w 5 (fillF 64 536870912 (w.1 5))) 5 r 0).1 5 t = nI (if t = r ∧ n_o S r = true then 0 else 536870912) ∧ (if t = r ∧ n_o S r = true then 0 else 536870912) ≤ 536870912
              rw [wI_at]
              by_cases e : t = r
              · rw [if_pos ⟨rfl, e⟩, if_pos ⟨e, ho⟩]
                exact ⟨nI_0.symm, by omega⟩
              · rw [if_neg (fun hh => e hh.2), if_neg (fun hh => e hh.1), fr.2 t (by omega)]
                exact ⟨rfl, Nat.le_refl _⟩)
            refine ⟨w', f1, ?_⟩
            unfold f_X3_distanceBehind
            rw [reqH_y a, bx_l, reqR_y hc hn fu hr, bx_l, reqJ_y hc hn fu hg, bx_l, nm_e1, nm_e1, eO, bn_e, if_zo, if_pos ho, ck_t (in64 (by omega)), nm_e1, cl64 (by omega), e1, bn_e, e2, bn_e]
          · obtain ⟨w', e1, f1, e2⟩ := behind_ok hc c hn (show 64 < fu by omega) hr hg (u := wF w 5 (fillF 64 536870912 (w.1 5))) fr.1 (fun t ht => by
              show (wF w 5 (fillF 64 536870912 (w.1 5))).1 5 t = nI (if t = r ∧ n_o S r = true then 0 else 536870912) ∧ (if t = r ∧ n_o S r = true then 0 else 536870912) ≤ 536870912
              rw [if_neg (fun hh => ho hh.2), fr.2 t (by omega)]
              exact ⟨rfl, Nat.le_refl _⟩)
            refine ⟨w', f1, ?_⟩
            unfold f_X3_distanceBehind
            rw [reqH_y a, bx_l, reqR_y hc hn fu hr, bx_l, reqJ_y hc hn fu hg, bx_l, nm_e1, nm_e1, eO, bn_e, if_zo, if_neg ho, e1, bn_e, e2, bn_e]
        obtain ⟨w', f1, eC⟩ := main
        have k := hR.srch f1 f2
        refine GI.y (S := S) (o := o) (x := cI (n_Z S g r)) (w1 := w') (v1 := r') ?_ ?_ k.2 k.1
        · unfold f_L_distanceBehind
          rw [eC, bx_l]
        · have z := fb_Z hn hE hr
          unfold f_X4_distanceBehind
          rw [nm_e1, b, if_neg (by decide), isRoad_y hm0 hn fu hr, bn_e, if_neg (by decide), isJ_y hm0 hn fu hg, bn_e, if_neg (by decide), nm_e1, nm_e1, t0, if_pos rfl, eM, bn_e]
          simp only [nm_e1, ck_t (in64 (show r < 64 by omega)), cl64 (show r < 64 by omega)]
          rw [(rb r hr).1]
          by_cases hl : be r < 1000000000000
          · have z2 := z.2 hl
            have hco := fb_co hn hE hr hl
            have h0 := hE.1 r hr
            have e : n_Z S g r / 128 = be r - n_w S r := by omega
            rw [if_neg (fun e => by have := (lg_cmp_eq _ _).mp e; rw [lN_far] at this; have := (pk_lEQ (by omega) (by decide)).mp this; omega), lN_i, (hr'.2.2.1 r hr).2.2.1, pk_sub (by omega), ← e]
            unfold cI
            rw [if_pos (z.1.mp hl)]
          · have h0 := hE.1 r hr
            have e : be r = 1000000000000 := by omega
            rw [e, if_pos ((lg_cmp_eq _ _).mpr lN_far.symm)]
            unfold cI
            rw [if_neg (fun hh => hl (z.1.mpr hh))]
theorem L_19 (hR : Ra S w v) (hf : 2 ^ 80 ≤ fu) (x1 x2 : Int32) : GI fu (f_L_route fu w o x1 x2) (f_X4_route fu v x1 x2) od := by
  have hR0 := hR
  have hn := hR.1
  have hc := hR.2.2.1
  have hm0 := hR.2.1
  have hR64 := hn.2.1
  have hJ := hn.1
  rcases hR.2.2.2.2.1 with ⟨a, b, _⟩ | ⟨a, b, c, d, _⟩
  · refine GI.n (S := S) (o := o) (c := 1) (w1 := w) (x := 0) (v1 := wI v 0 0 1) ?_ ?_ (t0 _ _) (by decide) (hR.thr 1)
    · unfold f_L_route f_X3_route
      rw [reqH_n a, bx_r, bx_r, ex_y]
    · unfold f_X4_route
      rw [looked_0 b, bn_e, nm_e1, nm_e1, t0, if_neg (by decide)]
  · rcases jn2_ix hn x1 x2 with h | ⟨p, q, hp, hq, rfl, rfl⟩
    · refine GI.n (S := S) (o := o) (c := 2) (w1 := w) (x := 0) (v1 := wI v 0 0 2) ?_ ?_ (t0 _ _) (by decide) (hR.thr 2)
      · unfold f_L_route f_X3_route
        rcases h with h | ⟨⟨p, hp, rfl⟩, h⟩
        · rw [reqH_y a, bx_l, reqJ_n hc fu h, bx_r, bx_r, ex_n (by decide), ex_y]
        · rw [reqH_y a, bx_l, reqJ_y hc hn fu hp, bx_l, reqJ_n hc fu h, bx_r, bx_r, ex_n (by decide), ex_y]
      · unfold f_X4_route
        rw [looked_n hm0 hn b fu h, bn_e, nm_e1, nm_e1, t0, if_neg (by decide)]
    · obtain ⟨v', x, eM, fM, m29, m19, cases⟩ := route_ok hm0 hn b hf hp hq
      have hl := hR.2.2.2.2.2.1
      have hpl := hR.2.2.2.2.2.2.1
      have hpt := hR.2.2.2.2.2.2.2.1
      have hne := hR.2.2.2.2.2.2.2.2
      by_cases hpq : p = q
      · rcases cases with ⟨k1, _⟩ | ⟨_, k2, k3, k4, k5⟩ | ⟨k1, _⟩
        · have : n_c S p q = some 0 := if_pos hpq
          rw [this] at k1; cases k1
        · subst k2
          have fW : ∀ c, c ≠ 0 → (wI (wI w 0 6 0) 0 7 0).1 c = w.1 c := fun c hc => by rw [wI_n hc, wI_n hc]
          have base := hR.search (FrQ.rf w) fM
          refine GI.y (S := S) (o := o) (x := 0) (w1 := wI (wI w 0 6 0) 0 7 0) (v1 := v') ?_ eM k3 ⟨hn, hm0.frR fM, hc.same (fW 1 (by decide)) (fW 9 (by decide)) (fW 10 (by decide)) (fW 11 (by decide)) (fW 12 (by decide)) rfl rfl rfl, hR.2.2.2.1, Or.inr ⟨by rw [fW 2 (by decide)]; exact a, by rw [fM.2.1 9 (by decide) (by decide) (by decide) (by decide)]; exact b, c.same (fW 2 (by decide)) (fW 15 (by decide)) (fW 16 (by decide)) (fW 20 (by decide)) (fW 21 (by decide)) rfl rfl rfl, d.same (fM.1 6 (by decide) (by decide) (by decide) (by decide)) (fM.1 7 (by decide) (by decide) (by decide) (by decide)) (fM.1 8 (by decide) (by decide) (by decide) (by decide)) (fM.2.2 9 (by decide)) (fM.2.1 13 (by decide) (by decide) (by decide) (by decide)) (fM.2.1 14 (by decide) (by decide) (by decide) (by decide)), by assumption⟩, hl.same (Nat.le_refl _) (by rw [fW 3 (by decide)]) (fW 24 (by decide)) (fW 25 (by decide)) (fW 26 (by decide)) rfl (fW 28 (by decide)) (fM.2.1 19 (by decide) (by decide) (by decide) (by decide)) (fM.1 13 (by decide) (by decide) (by decide) (by decide)) (fM.1 14 (by decide) (by decide) (by decide) (by decide)) (fM.1 15 (by decide) (by decide) (by decide) (by decide)) (fM.1 16 (by decide) (by decide) (by decide) (by decide)) (fM.1 17 (by decide) (by decide) (by decide) (by decide)), hpl.same (fW 4 (by decide)) (fM.1 12 (by decide) (by decide) (by decide) (by decide)), ⟨0, by decide, ?_, by rw [k4]; exact nI_0.symm, ?_, fun i hi => absurd hi (Nat.not_lt_zero i)⟩, hne.same (by rw [wI_at, if_neg (by decide), wI_at, if_neg (by decide)]) (fW 7 (by decide)) m29 m19⟩
          · unfold f_L_route f_X3_route
            rw [reqH_y a, bx_l, reqJ_y hc hn fu hp, bx_l, reqJ_y hc hn fu hq, bx_l, if_pos (by rw [hpq]), nm_e1, nm_e1, bx_l]
          · rw [wI_at, if_neg (by decide), wI_at, if_pos ⟨rfl, rfl⟩]; exact nI_0.symm
          · rw [wI_at, if_pos ⟨rfl, rfl⟩, k5]
        · exact absurd hpq k1
      · have hpq2 : ¬ nI p = nI q := fun e => hpq ((nI_eq (by omega) (by omega)).mp e)
        obtain ⟨w', e1, f1, r1⟩ := searchTo_ok hc c hn (show 64 < fu by omega) hq
        have hc' := hc.frQ f1
        have eB := bestFirst_ok hc' hn (show 64 < fu by omega) hp (show q < 2 ^ 31 by omega) r1
        rcases cases with ⟨k1, k2, k3, k4, k5⟩ | ⟨k1, _⟩ | ⟨_, x0, N, k1, k2, k3, k4, k5, k6, k7, k8, k9⟩
        · have hnone : n_fst S p q = none := by
            cases hb : n_fst S p q with
            | none => rfl
            | some y =>
              have : n_c S p q = some ((128 * n_w S y + 1 + n_Z S q y) / 128) := by
                unfold n_c
                rw [if_neg hpq, hb]
                rfl
              rw [this] at k1
              cases k1
          refine GI.n (S := S) (o := o) (c := 3) (w1 := w') (x := x) (v1 := v') ?_ eM k2 (by decide) (hR.search f1 fM k3 k4 m29 k5 m19)
          unfold f_L_route f_X3_route
          rw [reqH_y a, bx_l, reqJ_y hc hn fu hp, bx_l, reqJ_y hc hn fu hq, bx_l, if_neg hpq2, e1, bn_e, eB, bn_e, hnone, if_neg (show ¬ (0 : Int32) ≤ oI none by decide), bx_r, ex_n (by decide), ex_n (by decide), ex_y]
        · exact absurd k1 hpq
        · subst k5
          have h1 := fst_ok k1
          have hw := (hn.2.2.1 x0 h1.1).2.2.2
          have hz := (Z_ok hn (show q < 2 ^ 31 by omega)).2 x0 h1.1 h1.2.2.2
          have hcost : n_c S p q = some ((128 * n_w S x0 + 1 + n_Z S q x0) / 128) := by
            unfold n_c
            rw [if_neg hpq, k1]
            rfl
          have r2 : RowI S (n_Z S q) (wI w' 0 7 (oI (n_c S p q))) := fun t ht => by rw [wI_n (by decide)]; exact r1 t ht
          have c2' : RCn S (wI w' 0 7 (oI (n_c S p q))) := hc'.same (wI_n (by decide)) (wI_n (by decide)) (wI_n (by decide)) (wI_n (by decide)) (wI_n (by decide)) rfl rfl rfl
          obtain ⟨w2, e2, f2, f3, r3⟩ := writePath_ok c2' hn (show 64 < fu by omega) (show q < 2 ^ 31 by omega) r2 k2 k3 k4
          have fW : ∀ c, c ≠ 0 → (c ≠ 5 ∧ c ≠ 17) → c ≠ 6 → (wI w2 0 6 (nI N)).1 c = w.1 c := fun c c0 c5 c6 => by rw [wI_n c0, f2 c c6, wI_n c0, f1.1 c c5]
          have fW2 : (wI w2 0 6 (nI N)).2 = w.2 := by rw [wI_2, f3, wI_2, f1.2]
          refine GI.y (S := S) (o := o) (x := nI N) (w1 := wI w2 0 6 (nI N)) (v1 := v') ?_ eM k6 ⟨hn, hm0.frR fM, hc.same (fW 1 (by decide) (by decide) (by decide)) (fW 9 (by decide) (by decide) (by decide)) (fW 10 (by decide) (by decide) (by decide)) (fW 11 (by decide) (by decide) (by decide)) (fW 12 (by decide) (by decide) (by decide)) (by rw [fW2]) (by rw [fW2]) (by rw [fW2]), hR.2.2.2.1.same (by rw [fW2]) (by rw [fW2]), Or.inr ⟨by rw [fW 2 (by decide) (by decide) (by decide)]; exact a, by rw [fM.2.1 9 (by decide) (by decide) (by decide) (by decide)]; exact b, c.same (fW 2 (by decide) (by decide) (by decide)) (fW 15 (by decide) (by decide) (by decide)) (fW 16 (by decide) (by decide) (by decide)) (fW 20 (by decide) (by decide) (by decide)) (fW 21 (by decide) (by decide) (by decide)) (by rw [fW2]) (by rw [fW2]) (by rw [fW2]), d.same (fM.1 6 (by decide) (by decide) (by decide) (by decide)) (fM.1 7 (by decide) (by decide) (by decide) (by decide)) (fM.1 8 (by decide) (by decide) (by decide) (by decide)) (fM.2.2 9 (by decide)) (fM.2.1 13 (by decide) (by decide) (by decide) (by decide)) (fM.2.1 14 (by decide) (by decide) (by decide) (by decide)), by assumption⟩, hl.same (Nat.le_refl _) (by rw [fW 3 (by decide) (by decide) (by decide)]) (fW 24 (by decide) (by decide) (by decide)) (fW 25 (by decide) (by decide) (by decide)) (fW 26 (by decide) (by decide) (by decide)) (by rw [fW2]) (fW 28 (by decide) (by decide) (by decide)) (fM.2.1 19 (by decide) (by decide) (by decide) (by decide)) (fM.1 13 (by decide) (by decide) (by decide) (by decide)) (fM.1 14 (by decide) (by decide) (by decide) (by decide)) (fM.1 15 (by decide) (by decide) (by decide) (by decide)) (fM.1 16 (by decide) (by decide) (by decide) (by decide)) (fM.1 17 (by decide) (by decide) (by decide) (by decide)), hpl.same (fW 4 (by decide) (by decide) (by decide)) (fM.1 12 (by decide) (by decide) (by decide) (by decide)), ⟨N, k3, by rw [wI_at, if_pos ⟨rfl, rfl⟩], k7, ?_, fun i hi => ?_⟩, hne.same ?_ (fW 7 (by decide) (by decide) (by decide)) m29 m19⟩
          · unfold f_L_route f_X3_route
            rw [reqH_y a, bx_l, reqJ_y hc hn fu hp, bx_l, reqJ_y hc hn fu hq, bx_l, if_neg hpq2, e1, bn_e, eB, bn_e, k1, show oI (some x0) = nI x0 from rfl, if_pos (nI_pos' (by omega)), road_ok hc' hn fu h1.1, bn_e, ck_t (in64 (by omega)), nm_e1, cl64 (by omega), (r1 x0 h1.1).1, nI_add, costOf_ok fu (by omega), bn_e, nm_e1, show cI (128 * n_w S x0 + 1 + n_Z S q x0) = oI (n_c S p q) by rw [hcost]; exact if_pos (by omega), e2, bn2_e, nm_e1, nm_e1, wI_at, if_pos ⟨rfl, rfl⟩, bx_l]
          · rw [wI_at, if_neg (by decide), f2 0 (by decide), wI_at, if_pos ⟨rfl, rfl⟩, k8]
          · rw [wI_n (by decide), r3 i hi, k9 i hi]
          · rw [wI_at, if_neg (by decide), f2 0 (by decide), wI_at, if_neg (by decide), f1.1 0 (by decide)]
end S4
