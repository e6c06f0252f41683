/-! steps: prepare, looks at the hierarchy, the kept path, places -/
theorem w0n (v : WS) (x : Int32) {j : Nat} (h : j ≠ 0) : (wI v 0 0 x).1 0 j = v.1 0 j := by rw [wI_at, if_neg (fun hh => h hh.2)]
section S2
variable {S : Nt} {w v : WS} {fu : Nat} {o : Nat → Int64} {od : Nat → UInt64}
theorem L_11 (hR : Ra S w v) (hf : 64 < fu) : GI fu (f_L_prepare fu w o) (f_X4_prepare fu v) od := by
  have hR0 := hR
  have hm := (hR.thr 0).2.1
  obtain ⟨hn, hm0, hc, hz, hp, hl, hpl, hpt, hne⟩ := hR
  have hR64 := hn.2.1
  by_cases h0 : n_R S = 0
  · refine GI.n (S := S) (o := o) (c := 1) (w1 := w) (x := 0) (v1 := wI (wI v 0 0 0) 0 0 1) ?_ ?_ (t0 _ _) (by decide) (hR0.thr2 0 1)
    · unfold f_L_prepare f_X3_prepare
      rw [nm_e1, hc.2.1, h0, if_pos nI_0, bx_r, ex_y]
    · unfold f_X4_prepare
      rw [nm_e1, nm_e1, hm.2.1, h0, if_pos nI_0, fail_ok, bn2_e]
  · have hpos : 0 < n_R S := by omega
    rcases hp with ⟨a, b, c, d⟩ | ⟨a, b, c, d, e⟩
    · obtain ⟨w', eW, fW, cW, bW, zW⟩ := build_ok hc hn hz hf
      obtain ⟨k, r, eM, hk, m1, m2, m3, m4, m5, m6, m7⟩ := prep_ok hm0 hn hf hpos b
      obtain ⟨k', k1, k2, k3⟩ := cW.2.2.2
      have ek : k' = k := by omega
      subst ek
      have wc : ∀ c, c ≠ 2 → c ≠ 15 → c ≠ 16 → c ≠ 20 → c ≠ 21 → w'.1 c = w.1 c := fW.1
      refine GI.y (S := S) (o := o) (x := nI k') (w1 := w') (v1 := r) ?_ eM m4 ⟨hn, m1, hc.frBd fW, zW, Or.inr ⟨bW, m3, cW, m2, hpos⟩, hl.same (Nat.le_refl _) (by rw [wc 3 (by decide) (by decide) (by decide) (by decide) (by decide)]) (wc 24 (by decide) (by decide) (by decide) (by decide) (by decide)) (wc 25 (by decide) (by decide) (by decide) (by decide) (by decide)) (wc 26 (by decide) (by decide) (by decide) (by decide) (by decide)) (fW.2.2 27 (by decide) (by decide) (by decide) (by decide) (by decide)) (wc 28 (by decide) (by decide) (by decide) (by decide) (by decide)) (m6 19 (by decide) (by decide) (by decide) (by decide)) (m5 13 (by decide) (by decide) (by decide) (by decide)) (m5 14 (by decide) (by decide) (by decide) (by decide)) (m5 15 (by decide) (by decide) (by decide) (by decide)) (m5 16 (by decide) (by decide) (by decide) (by decide)) (m5 17 (by decide) (by decide) (by decide) (by decide)), hpl.same (wc 4 (by decide) (by decide) (by decide) (by decide) (by decide)) (m5 12 (by decide) (by decide) (by decide) (by decide)), hpt.same (by rw [wc 0 (by decide) (by decide) (by decide) (by decide) (by decide)]) (by rw [wc 0 (by decide) (by decide) (by decide) (by decide) (by decide)]) (wc 6 (by decide) (by decide) (by decide) (by decide) (by decide)) (m6 26 (by decide) (by decide) (by decide) (by decide)) (m6 27 (by decide) (by decide) (by decide) (by decide)) (m5 18 (by decide) (by decide) (by decide) (by decide)), hne.same (by rw [wc 0 (by decide) (by decide) (by decide) (by decide) (by decide)]) (wc 7 (by decide) (by decide) (by decide) (by decide) (by decide)) (m6 29 (by decide) (by decide) (by decide) (by decide)) (m5 19 (by decide) (by decide) (by decide) (by decide))⟩
      unfold f_L_prepare f_X3_prepare
      rw [nm_e1, hc.2.1, if_neg (nI_ne0 hpos (by omega)), nm_e1, a, if_pos rfl, eW, bn_e, nm_e1, k2, bx_l]
    · obtain ⟨k, k1, k2, k3⟩ := c.2.2.2
      obtain ⟨k', j1, j2, j3⟩ := d.2.2.2
      have ek : k' = k := by omega
      subst ek
      refine GI.y (S := S) (o := o) (x := nI k') (w1 := w) (v1 := wI v 0 0 0) ?_ ?_ (t0 _ _) (hR0.thr 0)
      · unfold f_L_prepare f_X3_prepare
        rw [nm_e1, hc.2.1, if_neg (nI_ne0 hpos (by omega)), nm_e1, a, if_neg (by decide), nm_e1, k2, bx_l]
      · unfold f_X4_prepare
        rw [nm_e1, nm_e1, hm.2.1, if_neg (nI_ne0 hpos (by omega)), nm_e1, w0n v 0 (show (9 : Nat) ≠ 0 by decide), b, if_neg (by decide), nm_e1, w0n v 0 (show (13 : Nat) ≠ 0 by decide), j2]
theorem L_12 (hR : Ra S w v) : ∃ w1 v1 o1 od1, (∃ r : Int32, f_X3_isPrepared fu w = some r ∧ f_X4_isPrepared fu v = some (r, v1) ∧ w1 = w ∧ o1 = o ∧ od1 = od) ∧ Rel w1 v1 := by
  have hp := hR.2.2.2.2.1
  have e : w.1 2 1 = v.1 0 9 ∧ (w.1 2 1 = 0 ∨ w.1 2 1 = 1) := by
    rcases hp with ⟨a, b, _⟩ | ⟨a, b, _⟩
    · rw [a, b]; exact ⟨rfl, Or.inl rfl⟩
    · rw [a, b]; exact ⟨rfl, Or.inr rfl⟩
  refine ⟨w, wI v 0 0 0, o, od, ⟨w.1 2 1, ?_, ?_, rfl, rfl, rfl⟩, S, hR.thr 0⟩
  · unfold f_X3_isPrepared
    rw [nm_e1, ck_t e.2]
  · unfold f_X4_isPrepared
    rw [nm_e1, nm_e1, w0n v 0 (show (9 : Nat) ≠ 0 by decide), ← e.1, ck_t e.2]
theorem L_13 (hR : Ra S w v) (x1 : Int32) : GI fu (f_L_position fu w o x1) (f_X4_position fu v x1) od := by
  have hn := hR.1
  have hc := hR.2.2.1
  have hm := (hR.thr 0).2.1
  have hR64 := hn.2.1
  rcases hR.2.2.2.2.1 with ⟨a, b, _⟩ | ⟨a, b, c, d, _⟩
  · refine GI.n (S := S) (o := o) (c := 1) (w1 := w) (x := 0) (v1 := wI (wI v 0 0 0) 0 0 1) ?_ ?_ (t0 _ _) (by decide) (hR.thr2 0 1)
    · unfold f_L_position f_X3_position
      rw [reqH_n a, bx_r, bx_r, ex_y]
    · unfold f_X4_position
      rw [nm_e1, nm_e1, w0n v 0 (show (9 : Nat) ≠ 0 by decide), b, if_pos rfl, fail_ok, bn2_e]
  · rcases rd_ix hn x1 with h | ⟨r, hr, rfl⟩
    · refine GI.n (S := S) (o := o) (c := 2) (w1 := w) (x := 0) (v1 := wI (wI v 0 0 0) 0 0 2) ?_ ?_ (t0 _ _) (by decide) (hR.thr2 0 2)
      · unfold f_L_position f_X3_position
        rw [reqH_y a, bx_l, reqR_n hc fu h, bx_r, bx_r, ex_n (by decide), ex_y]
      · unfold f_X4_position
        rw [nm_e1, nm_e1, w0n v 0 (show (9 : Nat) ≠ 0 by decide), b, if_neg (by decide), isRoad_n hm fu h, bn_e, if_pos rfl, fail_ok, bn2_e]
    · refine GI.y (S := S) (o := o) (x := nI (n_pos S r)) (w1 := w) (v1 := wI v 0 0 0) ?_ ?_ (t0 _ _) (hR.thr 0)
      · unfold f_L_position f_X3_position
        rw [reqH_y a, bx_l, reqR_y hc hn fu hr, bx_l, ck_t (in64 (by omega)), nm_e1, cl64 (by omega), c.1.2.1 r hr, bx_l]
      · unfold f_X4_position
        rw [nm_e1, nm_e1, w0n v 0 (show (9 : Nat) ≠ 0 by decide), b, if_neg (by decide), isRoad_y hm hn fu hr, bn_e, if_neg (by decide), ck_t (in64 (by omega)), nm_e1, cl64 (by omega), wI_n (by decide), d.1.1 r hr]
theorem L_14 (hR : Ra S w v) : ∃ w1 v1 o1 od1, (∃ r : Int32, f_X3_arcCount fu w = some r ∧ f_X4_arcCount fu v = some (r, v1) ∧ w1 = w ∧ o1 = o ∧ od1 = od) ∧ Rel w1 v1 := by
  refine ⟨w, wI v 0 0 0, o, od, ⟨v.1 0 14, ?_, ?_, rfl, rfl, rfl⟩, S, hR.thr 0⟩
  · unfold f_X3_arcCount
    rcases hR.2.2.2.2.1 with ⟨a, b, c, _⟩ | ⟨a, b, c, d, _⟩
    · rw [nm_e1, a, if_pos rfl, c]
    · obtain ⟨k, k1, k2, k3⟩ := c.2.2.2
      obtain ⟨k', j1, j2, j3⟩ := d.2.2.2
      rw [nm_e1, a, if_neg (by decide), nm_e1, k1, j1, j3]
  · unfold f_X4_arcCount
    rw [nm_e1, nm_e1, wI_at, if_neg (by decide)]
theorem L_15 (hR : Ra S w v) (x1 x2 : Int32) : GB fu (f_L_hasArc fu w o x1 x2) (f_X4_hasArc fu v x1 x2) od := by
  have hn := hR.1
  have hc := hR.2.2.1
  have hm := (hR.thr 0).2.1
  have hR64 := hn.2.1
  rcases hR.2.2.2.2.1 with ⟨a, b, _⟩ | ⟨a, b, c, d, _⟩
  · refine GB.n (S := S) (o := o) (c := 1) (w1 := w) (x := 0) (v1 := wI (wI v 0 0 0) 0 0 1) ?_ ?_ (t0 _ _) (by decide) (hR.thr2 0 1)
    · unfold f_L_hasArc f_X3_hasArc
      rw [reqH_n a, bx_r, bx_r, ex_y]
    · unfold f_X4_hasArc
      rw [nm_e1, nm_e1, w0n v 0 (show (9 : Nat) ≠ 0 by decide), b, if_pos rfl, fail_ok, bn2_e, if_pos rfl]
  · rcases rd2_ix hn x1 x2 with h | ⟨p, q, hp, hq, rfl, rfl⟩
    · refine GB.n (S := S) (o := o) (c := 2) (w1 := w) (x := 0) (v1 := wI (wI v 0 0 0) 0 0 2) ?_ ?_ (t0 _ _) (by decide) (hR.thr2 0 2)
      · unfold f_L_hasArc f_X3_hasArc
        rcases h with h | ⟨⟨p, hp, rfl⟩, h⟩
        · rw [reqH_y a, bx_l, reqR_n hc fu h, bx_r, bx_r, ex_n (by decide), ex_y]
        · rw [reqH_y a, bx_l, reqR_y hc hn fu hp, bx_l, reqR_n hc fu h, bx_r, bx_r, ex_n (by decide), ex_y]
      · unfold f_X4_hasArc
        rcases h with h | ⟨⟨p, hp, rfl⟩, h⟩
        · rw [nm_e1, nm_e1, w0n v 0 (show (9 : Nat) ≠ 0 by decide), b, if_neg (by decide), isRoad_n hm fu h, bn_e, if_pos rfl, fail_ok, bn2_e, if_pos rfl]
        · rw [nm_e1, nm_e1, w0n v 0 (show (9 : Nat) ≠ 0 by decide), b, if_neg (by decide), isRoad_y hm hn fu hp, bn_e, if_neg (by decide), isRoad_n hm fu h, bn_e, if_pos rfl, fail_ok, bn2_e, if_pos rfl]
    · have h01 : (if n_arc S p q = true then (1 : Int32) else 0) = 0 ∨ (if n_arc S p q = true then (1 : Int32) else 0) = 1 := by
        split
        · exact Or.inr rfl
        · exact Or.inl rfl
      refine GB.y (S := S) (o := o) (x := if n_arc S p q = true then 1 else 0) (w1 := w) (v1 := wI v 0 0 0) ?_ ?_ (t0 _ _) (hR.thr 0)
      · unfold f_L_hasArc f_X3_hasArc
        rw [reqH_y a, bx_l, reqR_y hc hn fu hp, bx_l, reqR_y hc hn fu hq, bx_l, ck_t (in64 (by omega)), nm_e1, cl64 (by omega), has_ok fu _ (show q < 64 by omega), bn_e, c.1.2.2.2.2.1 p q hp (by omega), decide_eq_true hq, Bool.true_and, ck_t h01, bx_l]
      · unfold f_X4_hasArc
        rw [nm_e1, nm_e1, w0n v 0 (show (9 : Nat) ≠ 0 by decide), b, if_neg (by decide), isRoad_y hm hn fu hp, bn_e, if_neg (by decide), isRoad_y hm hn fu hq, bn_e, if_neg (by decide), ck_t (px_in (by omega) (by omega)), nm_e1, px_cl (by omega) (by omega), wI_n (by decide), d.2.1 p q hp hq, ck_t h01]
/-- the cost of an arc, both ways -/
theorem cost_eq (hn : NtOK S) {a b : Nat} (ha : a < n_R S) (hb : b < n_R S) : cI (n_L S a b) = if n_A S a b < 1000000000000 then nI (n_A S a b) else -1 := by
  have k := n_LA hn ha hb
  unfold cI
  by_cases h : n_L S a b < 536870912
  · rw [if_pos h, if_pos (k.1.mp h), (k.2 h).1]
  · rw [if_neg h, if_neg (fun hh => h (k.1.mpr hh))]
theorem costOfM (hm : RMc S v) (hn : NtOK S) {a b : Nat} (ha : a < n_R S) (hb : b < n_R S) (hne : a ≠ b) : f_X4_costOf fu v (nI a) (nI b) = some (cI (n_L S a b)) := by
  have hR64 := hn.2.1
  have hle := FW_I (c2_le hn) (o := n_ord S) (min (n_pos S a) (n_pos S b)) a b
  have hle : n_A S a b ≤ 1000000000000 := hle
  unfold f_X4_costOf
  simp only [nm_e1]
  rw [ck_t (px_in (by omega) (by omega)), px_cl (by omega) (by omega), ck_t (px_in (by omega) (by omega)), hm a b ha hb hne, cost_eq hn ha hb]
  by_cases h : n_A S a b < 1000000000000
  · rw [if_pos h, if_neg, lN_i]
    intro hh
    have hh := (lg_cmp_ge _ _).mp hh
    rw [lN_far] at hh
    exact absurd ((pk_lLT (show n_A S a b < 2 ^ 63 by omega) (by decide)).mpr h) (Int64.not_lt.mpr hh)
  · have e : n_A S a b = 1000000000000 := by omega
    rw [if_neg h, if_pos]
    refine (lg_cmp_ge _ _).mpr ?_
    rw [e, ← lN_far]
    exact Int64.le_refl _
theorem L_16 (hR : Ra S w v) (x1 x2 : Int32) : GI fu (f_L_arcCost fu w o x1 x2) (f_X4_arcCost fu v x1 x2) od := by
  have hn := hR.1
  have hc := hR.2.2.1
  have hm := (hR.thr 0).2.1
  have hR64 := hn.2.1
  rcases hR.2.2.2.2.1 with ⟨a, b, _⟩ | ⟨a, b, c, d, _⟩
  · refine GI.n (S := S) (o := o) (c := 1) (w1 := w) (x := 0) (v1 := wI (wI v 0 0 0) 0 0 1) ?_ ?_ (t0 _ _) (by decide) (hR.thr2 0 1)
    · unfold f_L_arcCost f_X3_arcCost
      rw [reqH_n a, bx_r, bx_r, ex_y]
    · unfold f_X4_arcCost
      rw [nm_e1, nm_e1, w0n v 0 (show (9 : Nat) ≠ 0 by decide), b, if_pos rfl, fail_ok, bn2_e]
  · rcases rd2_ix hn x1 x2 with h | ⟨p, q, hp, hq, rfl, rfl⟩
    · refine GI.n (S := S) (o := o) (c := 2) (w1 := w) (x := 0) (v1 := wI (wI v 0 0 0) 0 0 2) ?_ ?_ (t0 _ _) (by decide) (hR.thr2 0 2)
      · unfold f_L_arcCost f_X3_arcCost
        rcases h with h | ⟨⟨p, hp, rfl⟩, h⟩
        · rw [reqH_y a, bx_l, reqR_n hc fu h, bx_r, bx_r, ex_n (by decide), ex_y]
        · rw [reqH_y a, bx_l, reqR_y hc hn fu hp, bx_l, reqR_n hc fu h, bx_r, bx_r, ex_n (by decide), ex_y]
      · unfold f_X4_arcCost
        rcases h with h | ⟨⟨p, hp, rfl⟩, h⟩
        · rw [nm_e1, nm_e1, w0n v 0 (show (9 : Nat) ≠ 0 by decide), b, if_neg (by decide), isRoad_n hm fu h, bn_e, if_pos rfl, fail_ok, bn2_e]
        · rw [nm_e1, nm_e1, w0n v 0 (show (9 : Nat) ≠ 0 by decide), b, if_neg (by decide), isRoad_y hm hn fu hp, bn_e, if_neg (by decide), isRoad_n hm fu h, bn_e, if_pos rfl, fail_ok, bn2_e]
    · by_cases harc : n_arc S p q = true
      · have hne := arc_ne hn hp hq harc
        have hle := n_L_le hn p q
        have d9 : RMc S (wI v 0 0 0) := d.2.2.1
        refine GI.y (S := S) (o := o) (x := cI (n_L S p q)) (w1 := w) (v1 := wI v 0 0 0) ?_ ?_ (t0 _ _) (hR.thr 0)
        · unfold f_L_arcCost f_X3_arcCost f_X3_pair
          rw [reqH_y a, bx_l, reqR_y hc hn fu hp, bx_l, reqR_y hc hn fu hq, bx_l, ck_t (in64 (by omega)), nm_e1, cl64 (by omega), has_ok fu _ (show q < 64 by omega), bn_e, c.1.2.2.2.2.1 p q hp (by omega), decide_eq_true hq, Bool.true_and, if_zo, if_pos harc, bn_e, ck_t (pr_in (by omega) (by omega)), nm_e1, pr_cl (by omega) (by omega), (c.2.2.1 p q hp hq harc).1, costOf_ok fu (by omega), bn_e, bx_l]
        · unfold f_X4_arcCost
          rw [nm_e1, nm_e1, w0n v 0 (show (9 : Nat) ≠ 0 by decide), b, if_neg (by decide), isRoad_y hm hn fu hp, bn_e, if_neg (by decide), isRoad_y hm hn fu hq, bn_e, if_neg (by decide), ck_t (px_in (by omega) (by omega)), nm_e1, px_cl (by omega) (by omega), wI_n (by decide), d.2.1 p q hp hq, if_zo, if_pos harc, costOfM d9 hn hp hq hne, bn_e]
      · refine GI.n (S := S) (o := o) (c := 3) (w1 := w) (x := 0) (v1 := wI (wI v 0 0 0) 0 0 3) ?_ ?_ (t0 _ _) (by decide) (hR.thr2 0 3)
        · unfold f_L_arcCost f_X3_arcCost
          rw [reqH_y a, bx_l, reqR_y hc hn fu hp, bx_l, reqR_y hc hn fu hq, bx_l, ck_t (in64 (by omega)), nm_e1, cl64 (by omega), has_ok fu _ (show q < 64 by omega), bn_e, c.1.2.2.2.2.1 p q hp (by omega), decide_eq_true hq, Bool.true_and, if_zo, if_neg harc, bx_r, ex_n (by decide), ex_n (by decide), ex_y]
        · unfold f_X4_arcCost
          rw [nm_e1, nm_e1, w0n v 0 (show (9 : Nat) ≠ 0 by decide), b, if_neg (by decide), isRoad_y hm hn fu hp, bn_e, if_neg (by decide), isRoad_y hm hn fu hq, bn_e, if_neg (by decide), ck_t (px_in (by omega) (by omega)), nm_e1, px_cl (by omega) (by omega), wI_n (by decide), d.2.1 p q hp hq, if_zo, if_neg harc, fail_ok, bn2_e]
/-- an index below n, or none -/
theorem ix_ix (x : Int32) {n : Nat} (hn : n ≤ 64) : (x < 0 ∨ (¬ x < 0 ∧ nI n ≤ x)) ∨ ∃ i, i < n ∧ x = nI i := by
  by_cases h0 : x < 0
  · exact Or.inl (Or.inl h0)
  · rcases pk_ix x (n := n) (by omega) with h | h | h
    · exact absurd h h0
    · exact Or.inl (Or.inr ⟨h0, h⟩)
    · exact Or.inr h
theorem L_20 (hR : Ra S w v) (x1 : Int32) : GI fu (f_L_routeRoad fu w o x1) (f_X4_routeRoad fu v x1) od := by
  obtain ⟨n, n1, n2, n3, n4, n5⟩ := hR.2.2.2.2.2.2.2.1
  have e26 : (wI v 0 0 0).1 0 26 = nI n := by rw [wI_at, if_neg (by decide)]; exact n3
  rcases ix_ix x1 n1 with h | ⟨i, hi, rfl⟩
  · refine GI.n (S := S) (o := o) (c := 1) (w1 := w) (x := 0) (v1 := wI (wI v 0 0 0) 0 0 1) ?_ ?_ (t0 _ _) (by decide) (hR.thr2 0 1)
    · unfold f_L_routeRoad f_X3_routeRoad
      rcases h with h | ⟨h0, h⟩
      · rw [if_pos h, bx_r, ex_y]
      · rw [if_neg h0, nm_e1, n2, if_neg (Int32.not_lt.mpr h), bx_r, ex_y]
    · unfold f_X4_routeRoad
      rcases h with h | ⟨h0, h⟩
      · rw [nm_e1, if_pos h, fail_ok, bn2_e]
      · rw [nm_e1, if_neg h0, nm_e1, e26, if_pos h, fail_ok, bn2_e]
  · refine GI.y (S := S) (o := o) (x := v.1 18 i) (w1 := w) (v1 := wI v 0 0 0) ?_ ?_ (t0 _ _) (hR.thr 0)
    · unfold f_L_routeRoad f_X3_routeRoad
      rw [if_neg (nI_pos (by omega)), nm_e1, n2, if_pos (nI_lt hi (by omega)), ck_t (in64 (by omega)), nm_e1, cl64 (by omega), n5 i hi, bx_l]
    · unfold f_X4_routeRoad
      rw [nm_e1, if_neg (nI_pos (by omega)), nm_e1, e26, if_neg (nI_ge hi (by omega)), ck_t (vp_in_nI (by omega) (by decide)), nm_e1, nI_clamp (by omega), wI_n (by decide)]
theorem L_21 (hR : Ra S w v) : ∃ w1 v1 o1 od1, (∃ r : Int32, f_X3_routeCost fu w = some r ∧ f_X4_routeCost fu v = some (r, v1) ∧ w1 = w ∧ o1 = o ∧ od1 = od) ∧ Rel w1 v1 := by
  obtain ⟨n, n1, n2, n3, n4, n5⟩ := hR.2.2.2.2.2.2.2.1
  refine ⟨w, wI v 0 0 0, o, od, ⟨v.1 0 27, ?_, ?_, rfl, rfl, rfl⟩, S, hR.thr 0⟩
  · unfold f_X3_routeCost
    rw [nm_e1, n4]
  · unfold f_X4_routeCost
    rw [nm_e1, nm_e1, wI_at, if_neg (by decide)]
theorem L_23 (hR : Ra S w v) (x1 : Int32) : GI fu (f_L_reached fu w o x1) (f_X4_reached fu v x1) od := by
  obtain ⟨n, n1, n2, n3, n5⟩ := hR.2.2.2.2.2.2.2.2
  have e29 : (wI v 0 0 0).1 0 29 = nI n := by rw [wI_at, if_neg (by decide)]; exact n3
  rcases ix_ix x1 (show n ≤ 64 by omega) with h | ⟨i, hi, rfl⟩
  · refine GI.n (S := S) (o := o) (c := 1) (w1 := w) (x := 0) (v1 := wI (wI v 0 0 0) 0 0 1) ?_ ?_ (t0 _ _) (by decide) (hR.thr2 0 1)
    · unfold f_L_reached f_X3_reached
      rcases h with h | ⟨h0, h⟩
      · rw [if_pos h, bx_r, ex_y]
      · rw [if_neg h0, nm_e1, n2, if_neg (Int32.not_lt.mpr h), bx_r, ex_y]
    · unfold f_X4_reached
      rcases h with h | ⟨h0, h⟩
      · rw [nm_e1, if_pos h, fail_ok, bn2_e]
      · rw [nm_e1, if_neg h0, nm_e1, e29, if_pos h, fail_ok, bn2_e]
  · refine GI.y (S := S) (o := o) (x := v.1 19 i) (w1 := w) (v1 := wI v 0 0 0) ?_ ?_ (t0 _ _) (hR.thr 0)
    · unfold f_L_reached f_X3_reached
      rw [if_neg (nI_pos (by omega)), nm_e1, n2, if_pos (nI_lt hi (by omega)), ck_t (vp_in_nI (by omega) (by decide)), nm_e1, nI_clamp (by omega), n5 i hi, bx_l]
    · unfold f_X4_reached
      rw [nm_e1, if_neg (nI_pos (by omega)), nm_e1, e29, if_neg (nI_ge hi (by omega)), ck_t (vp_in_nI (by omega) (by decide)), nm_e1, nI_clamp (by omega), wI_n (by decide)]
theorem reqK_y {c : Nat} (hc : c < 4) : f_X3_requireKind fu w (nI c) = some (.inl w) := by
  unfold f_X3_requireKind
  rw [if_neg (nI_pos (by omega)), if_pos (show nI c < (4 : Int32) from nI_lt (b := 4) hc (by decide))]
theorem reqK_n {x : Int32} (hx : x < 0 ∨ (¬ x < 0 ∧ nI 4 ≤ x)) : f_X3_requireKind fu w x = some (.inr ("java/lang/IndexOutOfBoundsException", w)) := by
  unfold f_X3_requireKind
  rcases hx with h | ⟨h0, h⟩
  · rw [if_pos h]
  · rw [if_neg h0, if_neg (show ¬ x < (4 : Int32) from Int32.not_lt.mpr h)]
theorem pl_cl {j c : Nat} (hj : j < 32) (hc : c < 4) : Int32.toNatClampNeg (nI j * 4 + nI c) = 4 * j + c := by
  rw [show (4 : Int32) = nI 4 from rfl, pk_mul, nI_add, Nat.mul_comm]
  exact nI_clamp (by omega)
theorem pl_in {j c : Nat} (hj : j < 32) (hc : c < 4) : vp_in (nI j * 4 + nI c) 128 := by
  rw [show (4 : Int32) = nI 4 from rfl, pk_mul, nI_add]
  exact vp_in_nI (by omega) (by decide)
theorem pm_cl {j c : Nat} (hj : j < 32) (hc : c < 4) : Int32.toNatClampNeg ((4 : Int32) * nI j + nI c) = 4 * j + c := by
  rw [show (4 : Int32) = nI 4 from rfl, pk_mul, nI_add]
  exact nI_clamp (by omega)
theorem pm_in {j c : Nat} (hj : j < 32) (hc : c < 4) : vp_in ((4 : Int32) * nI j + nI c) 128 := by
  rw [show (4 : Int32) = nI 4 from rfl, pk_mul, nI_add]
  exact vp_in_nI (by omega) (by decide)
theorem L_26 (hR : Ra S w v) (x1 x2 x3 : Int32) (h3 : x3 = 0 ∨ x3 = 1) : GB fu (f_L_setPlace fu w o x1 x2 x3) (f_X4_setPlace fu v x1 x2 x3) od := by
  have hR0 := hR
  have hm := (hR.thr 0).2.1
  obtain ⟨hn, hm0, hc, hz, hp, hl, hpl, hpt, hne⟩ := hR
  have hJ := hn.1
  rcases jn_ix hn x1 with h | ⟨j, hj, rfl⟩
  · refine GB.n (S := S) (o := o) (c := 1) (w1 := w) (x := 0) (v1 := wI (wI v 0 0 0) 0 0 1) ?_ ?_ (t0 _ _) (by decide) (hR0.thr2 0 1)
    · unfold f_L_setPlace f_X3_setPlace
      rw [reqJ_n hc fu h, bx_r, bx_r, ex_y]
    · unfold f_X4_setPlace
      rw [nm_e1, isJ_n hm fu h, bn_e, if_pos rfl, fail_ok, bn2_e, if_pos rfl]
  · rcases ix_ix x2 (show 4 ≤ 64 by decide) with h | ⟨c, h4, rfl⟩
    · refine GB.n (S := S) (o := o) (c := 1) (w1 := w) (x := 0) (v1 := wI (wI v 0 0 0) 0 0 1) ?_ ?_ (t0 _ _) (by decide) (hR0.thr2 0 1)
      · unfold f_L_setPlace f_X3_setPlace
        rw [reqJ_y hc hn fu hj, bx_l, reqK_n h, bx_r, bx_r, ex_y]
      · unfold f_X4_setPlace
        rw [nm_e1, isJ_y hm hn fu hj, bn_e, if_neg (by decide)]
        rcases h with h | ⟨h0, h⟩
        · rw [if_pos h, fail_ok, bn2_e, if_pos rfl]
        · rw [if_neg h0, if_neg (show ¬ x2 < (4 : Int32) from Int32.not_lt.mpr h), fail_ok, bn2_e, if_pos rfl]
    · have k := hpl j c (by omega) h4
      refine GB.y (S := S) (o := o) (x := w.1 4 (4 * j + c)) (w1 := wI w 4 (4 * j + c) x3) (v1 := wI (wI v 0 0 0) 12 (4 * j + c) x3) ?_ ?_ (by rw [wI_n (by decide), t0]) ⟨hn, ?_, hc.same (wI_n (by decide)) (wI_n (by decide)) (wI_n (by decide)) (wI_n (by decide)) (wI_n (by decide)) rfl rfl rfl, hz, ?_, hl.same (Nat.le_refl _) (by rw [wI_n (by decide)]) (wI_n (by decide)) (wI_n (by decide)) (wI_n (by decide)) rfl (wI_n (by decide)) (by rw [wI_n (by decide), wI_at, if_neg (by decide)]) (by rw [wI_n (by decide), wI_n (by decide)]) (by rw [wI_n (by decide), wI_n (by decide)]) (by rw [wI_n (by decide), wI_n (by decide)]) (by rw [wI_n (by decide), wI_n (by decide)]) (by rw [wI_n (by decide), wI_n (by decide)]), fun j' c' hj' hc' => ?_, hpt.same (by rw [wI_n (by decide)]) (by rw [wI_n (by decide)]) (wI_n (by decide)) (by rw [wI_n (by decide), wI_at, if_neg (by decide)]) (by rw [wI_n (by decide), wI_at, if_neg (by decide)]) (by rw [wI_n (by decide), wI_n (by decide)]), hne.same (by rw [wI_n (by decide)]) (wI_n (by decide)) (by rw [wI_n (by decide), wI_at, if_neg (by decide)]) (by rw [wI_n (by decide), wI_n (by decide)])⟩
      · unfold f_L_setPlace f_X3_setPlace f_X3_place
        rw [reqJ_y hc hn fu hj, bx_l, reqK_y h4, bx_l, bn_e, ck_t (pl_in (by omega) h4), nm_e1, pl_cl (by omega) h4, bn_e, ck_t (pl_in (by omega) h4), nm_e1, vnb h3, ck_t k.1, bx_l, pl_cl (by omega) h4]
      · unfold f_X4_setPlace
        rw [nm_e1, isJ_y hm hn fu hj, bn_e, if_neg (by decide), if_neg (nI_pos (by omega)), if_pos (show nI c < (4 : Int32) from nI_lt (b := 4) h4 (by decide)), ck_t (pm_in (by omega) h4), nm_e1, pm_cl (by omega) h4, wI_n (by decide), k.2, ck_t (pm_in (by omega) h4), nm_e1, vnb h3, ck_t k.1]
      · have f : FrR (wI v 0 0 0) v := FrR.f0 v 0 0 (by decide)
        refine ⟨by rw [wI_n (by decide)]; exact hm.1, by rw [wI_n (by decide)]; exact hm.2.1, fun r hr => ?_, fun a b ha hb => ?_, by rw [wI_n (by decide)]; exact hm.2.2.2.2⟩
        · rw [wI_n (by decide), wI_n (show (2 : Nat) ≠ 12 by decide), wI_n (show (3 : Nat) ≠ 12 by decide), wI_n (show (4 : Nat) ≠ 12 by decide)]
          exact hm.2.2.1 r hr
        · rw [wI_n (by decide)]
          exact hm.2.2.2.1 a b ha hb
      · have v0 : ∀ j', j' ≠ 0 → (wI (wI v 0 0 0) 12 (4 * j + c) x3).1 0 j' = v.1 0 j' := fun j' h0 => by rw [wI_n (by decide), wI_at, if_neg (fun hh => h0 hh.2)]
        have vc : ∀ c', c' ≠ 0 → c' ≠ 12 → (wI (wI v 0 0 0) 12 (4 * j + c) x3).1 c' = v.1 c' := fun c' a b => by rw [wI_n b, wI_n a]
        unfold Pr
        rw [wI_n (show (2 : Nat) ≠ 4 by decide), v0 9 (by decide), v0 14 (by decide), v0 13 (by decide)]
        rcases hp with hp | ⟨a, b, c2', d, e⟩
        · exact Or.inl hp
        · exact Or.inr ⟨a, b, c2'.same (wI_n (by decide)) (wI_n (by decide)) (wI_n (by decide)) (wI_n (by decide)) (wI_n (by decide)) rfl rfl rfl, d.same (vc 6 (by decide) (by decide)) (vc 7 (by decide) (by decide)) (vc 8 (by decide) (by decide)) rfl (v0 13 (by decide)) (v0 14 (by decide)), e⟩
      · have k2 := hpl j' c' hj' hc'
        rw [wI_at, wI_at]
        by_cases e : 4 * j' + c' = 4 * j + c
        · rw [if_pos ⟨rfl, e⟩, if_pos ⟨rfl, e⟩]
          exact ⟨h3, rfl⟩
        · rw [if_neg (fun hh => e hh.2), if_neg (fun hh => e hh.2), wI_n (by decide)]
          exact k2
end S2
