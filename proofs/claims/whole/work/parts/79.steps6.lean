/-! steps that change weights, closures, turns -/
section S6
variable {S S' : Nt} {w v : WS} {fu : Nat} {o : Nat → Int64} {od : Nat → UInt64}
theorem chg_eq (hn : NtOK S) (hn' : NtOK S') (e1 : n_R S' = n_R S) : cn2 (chg S' (n_A S)) (n_R S') (n_R S') = cn2 (chL S' (n_L S)) (n_R S') (n_R S') := by
  refine cn2_congr (n_R S') fun a b ha hb => ?_
  unfold chg chL
  congr 1
  congr 1
  have k := n_LA hn' ha hb
  have k2 := n_LA hn (show a < n_R S by omega) (show b < n_R S by omega)
  have l1 : n_A S' a b ≤ 1000000000000 := FW_I (c2_le hn') (o := n_ord S') (min (n_pos S' a) (n_pos S' b)) a b
  have l2 : n_A S a b ≤ 1000000000000 := FW_I (c2_le hn) (o := n_ord S) (min (n_pos S a) (n_pos S b)) a b
  have e : n_A S' a b = n_A S a b ↔ kc (n_L S' a b) = kc (n_L S a b) := by
    unfold kc
    by_cases h1 : n_L S' a b < 536870912
    · have p1 := k.2 h1
      by_cases h2 : n_L S a b < 536870912
      · have p2 := k2.2 h2
        rw [if_pos h1, if_pos h2]
        omega
      · have p2 : ¬ n_A S a b < 1000000000000 := fun h => h2 (k2.1.mpr h)
        rw [if_pos h1, if_neg h2]
        omega
    · have p1 : ¬ n_A S' a b < 1000000000000 := fun h => h1 (k.1.mpr h)
      by_cases h2 : n_L S a b < 536870912
      · have p2 := k2.2 h2
        rw [if_neg h1, if_pos h2]
        omega
      · have p2 : ¬ n_A S a b < 1000000000000 := fun h => h2 (k2.1.mpr h)
        rw [if_neg h1, if_neg h2]
        omega
  refine bdec (c := n_A S' a b = n_A S a b) (by rw [beq_iff_eq]) (by rw [beq_iff_eq, e])
theorem ref_renew (hp : RMp S v) (hn : NtOK S) (hn' : NtOK S') (e1 : n_R S' = n_R S) (e2 : n_fol S' = n_fol S) {v5 : WS} (hm : RMn S' v5) (h9 : v5.1 0 9 = 1) (f6 : v5.1 6 = v.1 6) (f7 : v5.1 7 = v.1 7) (f8 : v5.1 8 = v.1 8) (f13 : v5.1 0 13 = v.1 0 13) (f14 : v5.1 0 14 = v.1 0 14) (fl : v5.2 9 = v.2 9) (hf : 2 ^ 80 ≤ fu) : ∃ r, f_X4_renewed fu v5 = some (nI (cn2 (chL S' (n_L S)) (n_R S') (n_R S')), r) ∧ RMp S' r ∧ r.1 = v5.1 ∧ ∀ c, c ≠ 9 → c ≠ 10 → c ≠ 11 → r.2 c = v5.2 c := by
  have ho : RMo S' v5 := by
    have k : RMo S v5 := by unfold RMo; rw [f6, f7]; exact hp.1
    unfold RMo n_pos n_ord at *
    rw [e1, e2]
    exact k
  have ha : RMa S' v5 := by
    have k : RMa S v5 := by unfold RMa; rw [f8]; exact hp.2.1
    unfold RMa n_arc at *
    rw [e1, e2]
    exact k
  obtain ⟨r, e, r1, r2, r3⟩ := renewed_ok hm ho ha hn' h9 (o := n_A S) (fun a b ha hb hne => ⟨by rw [fl]; exact hp.2.2.1 a b (by omega) (by omega) hne, FW_I (c2_le hn) (o := n_ord S) (min (n_pos S a) (n_pos S b)) a b⟩) (show 4096 < fu by omega)
  refine ⟨r, by rw [e, chg_eq hn hn' e1], ⟨?_, ?_, r3, ?_⟩, r1, r2⟩
  · unfold RMo; rw [r1]; exact ho
  · unfold RMa; rw [r1]; exact ha
  · obtain ⟨k, k1, k2, k3⟩ := hp.2.2.2
    refine ⟨k, ?_, ?_, ?_⟩
    · rw [r1, f14, e1, e2]; exact k1
    · rw [r1, f13]; exact k2
    · unfold n_arc at *
      rw [e1, e2]
      exact k3
/-- the class before a renewal -/
theorem cls_pre (hp : RCp S w) (hn : NtOK S) (e1 : n_R S' = n_R S) (e2 : n_fol S' = n_fol S) {w5 : WS} (f2 : w5.1 2 = w.1 2) (f15 : w5.1 15 = w.1 15) (f16 : w5.1 16 = w.1 16) (f20 : w5.1 20 = w.1 20) (f21 : w5.1 21 = w.1 21) (f17 : w5.2 17 = w.2 17) (f18 : w5.2 18 = w.2 18) (f19 : w5.2 19 = w.2 19) : RCg S' w5 ∧ SpI S' (s1 S) w5 ∧ LnI S' (n_L S) w5 ∧ ArcsS S' (s1 S) (n_L S) := by
  have k := hp.1.same f2 f15 f16 f17 f18 f19
  refine ⟨?_, ?_, ?_, ?_⟩
  · unfold RCg n_pos n_ord n_arc at *
    rw [e1, e2]
    exact k
  · intro a b ha hb
    rw [f21]
    exact hp.2.1 a b (by omega) (by omega)
  · have kl := hp.2.2.1.same f20
    unfold LnI n_arc at *
    rw [e1, e2]
    exact kl
  · have ka := arcs_ok hn
    unfold ArcsS n_pos n_arc at *
    rw [e1, e2]
    exact ka
theorem cls_post (hp : RCp S w) (e1 : n_R S' = n_R S) (e2 : n_fol S' = n_fol S) {w5 w' : WS} (hg : RCg S' w5) (f2 : w5.1 2 = w.1 2) (hN : Nw S' w' w5) : RCp S' w' ∧ StZ w' := by
  refine ⟨⟨hg.frN hN.1, hN.2.1, hN.2.2.2, ?_⟩, hN.2.2.1.stZ⟩
  obtain ⟨k, k1, k2, k3⟩ := hp.2.2.2
  refine ⟨k, ?_, ?_, ?_⟩
  · rw [hN.1.1 2 (by decide) (by decide), f2]
    unfold n_arc at *
    rw [e1, e2]
    exact k1
  · rw [hN.1.1 2 (by decide) (by decide), f2]
    exact k2
  · unfold n_arc at *
    rw [e1, e2]
    exact k3
/-- class and reference behind a change of the network -/
theorem set_gen (hR : Ra S w v) (hn' : NtOK S') (e1 : n_R S' = n_R S) (e2 : n_fol S' = n_fol S) {w5 v5 : WS} (hc5 : RCn S' w5) (hm5 : RMn S' v5) (fw1 : ∀ c, c ≠ 1 → c ≠ 3 → c ≠ 11 → c ≠ 12 → w5.1 c = w.1 c) (fw2 : ∀ c, c ≠ 1 → w5.2 c = w.2 c) (fv1 : ∀ c, c ≠ 0 → c ≠ 3 → c ≠ 4 → c ≠ 5 → v5.1 c = v.1 c) (fv0 : ∀ j, j ≠ 0 → j ≠ 8 → j ≠ 19 → v5.1 0 j = v.1 0 j) (fv2 : v5.2 = v.2) (ft : v5.1 0 0 = 0) (hl : Lv (n_R S') w5 v5) (hf : 2 ^ 80 ≤ fu) {fC : Option (Int32 × WS)} (hno : w5.1 2 1 = 0 → fC = some (0, w5)) (hyes : w5.1 2 1 = 1 → RCg S' w5 → SpI S' (s1 S) w5 → LnI S' (n_L S) w5 → ArcsS S' (s1 S) (n_L S) → StI S' (fun _ _ => false) w5 → ∃ w', fC = some (nI (cn2 (chL S' (n_L S)) (n_R S') (n_R S')), w') ∧ Nw S' w' w5) : ∃ x w' v', fC = some (x, w') ∧ f_X4_renewed fu v5 = some (x, v') ∧ v'.1 0 0 = 0 ∧ Ra S' w' v' := by
  obtain ⟨hn, hm, hc, hz, hp, _, hpl, hpt, hne⟩ := hR
  have hz5 : StZ w5 := hz.same (fw2 22 (by decide)) (fw2 23 (by decide))
  have pl5 : Pl w5 v5 := hpl.same (fw1 4 (by decide) (by decide) (by decide) (by decide)) (fv1 12 (by decide) (by decide) (by decide) (by decide))
  have w50 : w5.1 0 = w.1 0 := fw1 0 (by decide) (by decide) (by decide) (by decide)
  have pt5 : Pt w5 v5 := hpt.same (by rw [w50]) (by rw [w50]) (fw1 6 (by decide) (by decide) (by decide) (by decide)) (fv0 26 (by decide) (by decide) (by decide)) (fv0 27 (by decide) (by decide) (by decide)) (fv1 18 (by decide) (by decide) (by decide) (by decide))
  have ne5 : Ne w5 v5 := hne.same (by rw [w50]) (fw1 7 (by decide) (by decide) (by decide) (by decide)) (fv0 29 (by decide) (by decide) (by decide)) (fv1 19 (by decide) (by decide) (by decide) (by decide))
  have f2 := fw1 2 (by decide) (by decide) (by decide) (by decide)
  rcases hp with ⟨a, b, c, d⟩ | ⟨a, b, c, d, e0⟩
  · refine ⟨0, w5, v5, hno (by rw [f2]; exact a), renewed_no (by rw [fv0 9 (by decide) (by decide) (by decide)]; exact b) fu, ft, hn', hm5, hc5, hz5, Or.inl ⟨by rw [f2]; exact a, by rw [fv0 9 (by decide) (by decide) (by decide)]; exact b, by rw [fv0 14 (by decide) (by decide) (by decide)]; exact c, by rw [fv0 13 (by decide) (by decide) (by decide)]; exact d⟩, hl, pl5, pt5, ne5⟩
  · obtain ⟨g1, g2, g3, g4⟩ := cls_pre c hn e1 e2 f2 (fw1 15 (by decide) (by decide) (by decide) (by decide)) (fw1 16 (by decide) (by decide) (by decide) (by decide)) (fw1 20 (by decide) (by decide) (by decide) (by decide)) (fw1 21 (by decide) (by decide) (by decide) (by decide)) (fw2 17 (by decide)) (fw2 18 (by decide)) (fw2 19 (by decide))
    have h21 : w5.1 2 1 = 1 := by rw [f2]; exact a
    obtain ⟨w', eC, hN⟩ := hyes h21 g1 g2 g3 g4 (hz5.stI S')
    obtain ⟨r, eM, m1, m2, m3⟩ := ref_renew d hn hn' e1 e2 hm5 (by rw [fv0 9 (by decide) (by decide) (by decide)]; exact b) (fv1 6 (by decide) (by decide) (by decide) (by decide)) (fv1 7 (by decide) (by decide) (by decide) (by decide)) (fv1 8 (by decide) (by decide) (by decide) (by decide)) (fv0 13 (by decide) (by decide) (by decide)) (fv0 14 (by decide) (by decide) (by decide)) (by rw [fv2]) hf
    have q := cls_post c e1 e2 g1 f2 hN
    have wn : ∀ c, c ≠ 20 → c ≠ 21 → w'.1 c = w5.1 c := hN.1.1
    refine ⟨_, w', r, eC, eM, by rw [m2]; exact ft, hn', hm5.same m2, hc5.frN hN.1, q.2, Or.inr ⟨by rw [wn 2 (by decide) (by decide)]; exact h21, by rw [m2, fv0 9 (by decide) (by decide) (by decide)]; exact b, q.1, m1, by omega⟩, hl.same (Nat.le_refl _) (by rw [wn 3 (by decide) (by decide)]) (wn 24 (by decide) (by decide)) (wn 25 (by decide) (by decide)) (wn 26 (by decide) (by decide)) (hN.1.2 27 (by decide) (by decide)) (wn 28 (by decide) (by decide)) (by rw [m2]) (by rw [m2]) (by rw [m2]) (by rw [m2]) (by rw [m2]) (by rw [m2]), pl5.same (wn 4 (by decide) (by decide)) (by rw [m2]), pt5.same (by rw [wn 0 (by decide) (by decide)]) (by rw [wn 0 (by decide) (by decide)]) (wn 6 (by decide) (by decide)) (by rw [m2]) (by rw [m2]) (by rw [m2]), ne5.same (by rw [wn 0 (by decide) (by decide)]) (wn 7 (by decide) (by decide)) (by rw [m2]) (by rw [m2])⟩
theorem s1_nofol {a b : Nat} (h : ¬ n_fol S a b = true) : s1 S a b = 536870912 := by
  have : c2 S a b = 1000000000000 := if_neg (fun hh => h hh.2.2.2.2.1)
  exact if_neg (by omega)
theorem L_2 (hR : Ra S w v) (hf : 2 ^ 80 ≤ fu) (x1 x2 : Int32) : GI fu (f_L_setWeight fu w o x1 x2) (f_X4_setWeight fu v x1 x2) od := by
  have hn := hR.1
  have hc := hR.2.2.1
  have hm0 := hR.2.1
  have hm := (hR.thr 0).2.1
  have hR64 := hn.2.1
  have hl := hR.2.2.2.2.2.1
  rcases rd_ix hn x1 with h | ⟨r, hr, rfl⟩
  · refine GI.n (S := S) (o := o) (c := 1) (w1 := w) (x := 0) (v1 := wI (wI v 0 0 0) 0 0 1) ?_ ?_ (t0 _ _) (by decide) (hR.thr2 0 1)
    · unfold f_L_setWeight f_X3_setWeight
      rw [reqR_n hc fu h, bx_r, bx_r, ex_y]
    · unfold f_X4_setWeight
      rw [nm_e1, isRoad_n hm fu h, bn_e, if_pos rfl, fail_ok, bn2_e]
  · rcases wt_ix x2 with h | ⟨x, h1, h2, rfl⟩
    · refine GI.n (S := S) (o := o) (c := 2) (w1 := w) (x := 0) (v1 := wI (wI v 0 0 0) 0 0 2) ?_ ?_ (t0 _ _) (by decide) (hR.thr2 0 2)
      · unfold f_L_setWeight f_X3_setWeight
        rw [reqR_y hc hn fu hr, bx_l, reqW_n fu h, bx_r, bx_r, ex_n (by decide), ex_y]
      · unfold f_X4_setWeight
        rw [nm_e1, isRoad_y hm hn fu hr, bn_e, if_neg (by decide)]
        by_cases h1 : x2 < 1
        · rw [if_pos h1, fail_ok, bn2_e]
        · rw [if_neg h1, if_neg (h.resolve_left h1), fail_ok, bn2_e]
    · have c1 : ¬ nI x < (1 : Int32) := nI_nlt (b := 1) h1 (by omega)
      have c2' : nI x ≤ (10000 : Int32) := nI_le (b := 10000) h2 (by decide)
      have hd : ∀ a b, a < n_R S → b < n_R S → s1 (n_sw S r x) a b ≠ s1 S a b → n_fol (n_sw S r x) a b = true ∧ (a = r ∨ b = r) := fun a b ha hb hne => by
        refine ⟨?_, Or.inr ?_⟩
        · apply Decidable.byContradiction
          intro h
          have e1 := s1_nofol (S := n_sw S r x) h
          have e2 := s1_nofol (S := S) (a := a) (b := b) h
          rw [e1, e2] at hne
          exact hne rfl
        · apply Decidable.byContradiction
          intro h
          apply hne
          have e : c2 (n_sw S r x) a b = c2 S a b := by
            show (if _ then (n_p S a b).toInt.toNat + updN (n_w S) r x b else _) = _
            rw [updN_n h]
            rfl
          unfold s1
          rw [e]
      have hc5 : RCn (n_sw S r x) (wI w 11 r (nI x)) := by
        refine ⟨by rw [wI_n (by decide)]; exact hc.1, by rw [wI_n (by decide)]; exact hc.2.1, fun i hi => ?_, fun a b ha hb => by rw [wI_n (by decide)]; exact hc.2.2.2.1 a b ha hb, hc.2.2.2.2.1, hc.2.2.2.2.2.1, hc.2.2.2.2.2.2.1, by rw [wI_n (by decide)]; exact hc.2.2.2.2.2.2.2⟩
        have k := hc.2.2.1 i hi
        refine ⟨by rw [wI_n (by decide)]; exact k.1, by rw [wI_n (by decide)]; exact k.2.1, ?_⟩
        show (wI w 11 r (nI x)).1 11 i = nI (updN (n_w S) r x i)
        rw [wI_at]
        by_cases e : i = r
        · rw [if_pos ⟨rfl, e⟩, e, updN_s]
        · rw [if_neg (fun hh => e hh.2), updN_n e]; exact k.2.2
      have hm5 : RMn (n_sw S r x) (wI (wI v 0 0 0) 3 r (nI x)) := by
        refine ⟨by rw [wI_n (by decide)]; exact hm.1, by rw [wI_n (by decide)]; exact hm.2.1, fun i hi => ?_, fun a b ha hb => by rw [wI_n (by decide)]; exact hm.2.2.2.1 a b ha hb, by rw [wI_n (by decide)]; exact hm.2.2.2.2⟩
        have k := hm.2.2.1 i hi
        refine ⟨by rw [wI_n (by decide)]; exact k.1, by rw [wI_n (by decide)]; exact k.2.1, ?_, by rw [wI_n (by decide)]; exact k.2.2.2⟩
        show (wI (wI v 0 0 0) 3 r (nI x)).1 3 i = nI (updN (n_w S) r x i)
        rw [wI_at]
        by_cases e : i = r
        · rw [if_pos ⟨rfl, e⟩, e, updN_s]
        · rw [if_neg (fun hh => e hh.2), updN_n e]; exact k.2.2.1
      have vc : ∀ c, c ≠ 0 → c ≠ 3 → (wI (wI v 0 0 0) 3 r (nI x)).1 c = v.1 c := fun c a b => by rw [wI_n b, wI_n a]
      have v0 : ∀ j, j ≠ 0 → (wI (wI v 0 0 0) 3 r (nI x)).1 0 j = v.1 0 j := fun j h0 => by rw [wI_n (by decide), w0n v 0 h0]
      obtain ⟨y, w', v', eC, eM, ht, hR'⟩ := set_gen (S' := n_sw S r x) (fC := f_X0_renewRoad fu (wI w 11 r (nI x)) (nI r)) hR (hn.sw h1 h2) rfl rfl hc5 hm5 (fun c _ _ c11 _ => wI_n c11) (fun _ _ => rfl) (fun c c0 c3 _ _ => vc c c0 c3) (fun j h0 _ _ => v0 j h0) rfl (by rw [wI_n (by decide), t0]) (hl.same (Nat.le_refl _) (by rw [wI_n (by decide)]) (wI_n (by decide)) (wI_n (by decide)) (wI_n (by decide)) rfl (wI_n (by decide)) (v0 19 (by decide)) (vc 13 (by decide) (by decide)) (vc 14 (by decide) (by decide)) (vc 15 (by decide) (by decide)) (vc 16 (by decide) (by decide)) (vc 17 (by decide) (by decide))) hf (fun h => renewRoad_no h fu (nI r)) (fun hb g1 g2 g3 g4 g5 => renewRoad_ok hc5 g1 (hn.sw h1 h2) hb g2 g4 (fun a b => n_L_le hn a b) g5 g3 (show 64 < fu by omega) hr hd)
      refine GI.y (o := o) (x := y) (w1 := w') (v1 := v') ?_ ?_ ht hR'
      · unfold f_L_setWeight f_X3_setWeight
        rw [reqR_y hc hn fu hr, bx_l, reqW_y fu h1 h2, bx_l, ck_t (in64 (by omega)), nm_e1, cl64 (by omega), eC, bn2_e, bx_l]
      · unfold f_X4_setWeight
        rw [nm_e1, isRoad_y hm hn fu hr, bn_e, if_neg (by decide), if_neg c1, if_pos c2', ck_t (in64 (by omega)), nm_e1, cl64 (by omega), eM, bn2_e]
/-- the set of the open roads behind a change -/
theorem open_bits (hc : RCn S w) {r : Nat} (hr : r < 64) (hrn : r < n_R S) (b : Bool) : ∃ X : Int64, (∀ (x : Int32), x = (if b = true then 1 else 0) → f_X2_openOrClose fu w (nI r) x = some (wL w 1 8 X)) ∧ RCn (n_so S r b) (wL w 1 8 X) := by
  have mk : ∀ X : Int64, (∀ i, i < 64 → bL X i = (decide (i < n_R S) && if i = r then b else n_o S i)) → RCn (n_so S r b) (wL w 1 8 X) := fun X hX => by
    refine ⟨hc.1, hc.2.1, hc.2.2.1, hc.2.2.2.1, fun j i hj hi => ?_, fun j i hj hi => ?_, fun i hi => ?_, hc.2.2.2.2.2.2.2⟩
    · rw [wL_n (by decide)]; exact hc.2.2.2.2.1 j i hj hi
    · rw [wL_n (by decide)]; exact hc.2.2.2.2.2.1 j i hj hi
    · rw [wL_s2, if_pos rfl]; exact hX i hi
  have base : ∀ i, i < 64 → bL (w.2 1 8 &&& (((1 : Int64) <<< ((nI r).toInt64 &&& 63)) ^^^ (-1))) i = (decide (i < n_R S) && n_o S i && !decide (i = r)) := fun i hi => by
    rw [bL_and, bL_not _ hi, bL_one hr, hc.2.2.2.2.2.2.1 i hi]
  cases b with
  | false =>
    refine ⟨w.2 1 8 &&& (((1 : Int64) <<< ((nI r).toInt64 &&& 63)) ^^^ (-1)), fun x hx => ?_, mk _ fun i hi => ?_⟩
    · have hx : x = 0 := hx
      unfold f_X2_openOrClose
      rw [nm_e1, only_ok, bn_e, nm_e1, if_pos hx, nm_e1]
    · rw [base i hi]
      by_cases e : i = r
      · rw [if_pos e, decide_eq_true e]; simp
      · rw [if_neg e, decide_eq_false e]; simp
  | true =>
    refine ⟨(w.2 1 8 &&& (((1 : Int64) <<< ((nI r).toInt64 &&& 63)) ^^^ (-1))) ||| ((1 : Int64) <<< ((nI r).toInt64 &&& 63)), fun x hx => ?_, mk _ fun i hi => ?_⟩
    · have hx : x = 1 := hx
      unfold f_X2_openOrClose
      rw [nm_e1, only_ok, bn_e, nm_e1, if_neg (by rw [hx]; decide), bn_e, nm_e1]
    · rw [bL_or, base i hi, bL_one hr]
      by_cases e : i = r
      · rw [if_pos e, decide_eq_true e, decide_eq_true (show i < n_R S by omega)]; simp
      · rw [if_neg e, decide_eq_false e]; simp
theorem so_hd (r : Nat) (b : Bool) : ∀ x y, x < n_R S → y < n_R S → s1 (n_so S r b) x y ≠ s1 S x y → n_fol (n_so S r b) x y = true ∧ (x = r ∨ y = r) := fun x y hx hy hne => by
  refine ⟨?_, ?_⟩
  · apply Decidable.byContradiction
    intro h
    have e1 := s1_nofol (S := n_so S r b) h
    have e2 := s1_nofol (S := S) (a := x) (b := y) h
    rw [e1, e2] at hne
    exact hne rfl
  · apply Decidable.byContradiction
    intro h
    apply hne
    have h1 : x ≠ r := fun e => h (Or.inl e)
    have h2 : y ≠ r := fun e => h (Or.inr e)
    have o1 : n_o (n_so S r b) x = n_o S x := if_neg h1
    have o2 : n_o (n_so S r b) y = n_o S y := if_neg h2
    have e : c2 (n_so S r b) x y = c2 S x y := by
      unfold c2
      rw [o1, o2]
      rfl
    unfold s1
    rw [e]
theorem L_3 (hR : Ra S w v) (hf : 2 ^ 80 ≤ fu) (x1 x2 : Int32) (h2 : x2 = 0 ∨ x2 = 1) : GI fu (f_L_setOpen fu w o x1 x2) (f_X4_setOpen fu v x1 x2) od := by
  have hn := hR.1
  have hc := hR.2.2.1
  have hm := (hR.thr 0).2.1
  have hR64 := hn.2.1
  have hl := hR.2.2.2.2.2.1
  rcases rd_ix hn x1 with h | ⟨r, hr, rfl⟩
  · refine GI.n (S := S) (o := o) (c := 1) (w1 := w) (x := 0) (v1 := wI (wI v 0 0 0) 0 0 1) ?_ ?_ (t0 _ _) (by decide) (hR.thr2 0 1)
    · unfold f_L_setOpen f_X3_setOpen
      rw [reqR_n hc fu h, bx_r, bx_r, ex_y]
    · unfold f_X4_setOpen
      rw [nm_e1, isRoad_n hm fu h, bn_e, if_pos rfl, fail_ok, bn2_e]
  · obtain ⟨b, hb⟩ : ∃ b : Bool, x2 = if b = true then 1 else 0 := by
      rcases h2 with h | h
      · exact ⟨false, h⟩
      · exact ⟨true, h⟩
    obtain ⟨X, eX, hc5⟩ := open_bits (fu := fu) hc (show r < 64 by omega) hr b
    have hm5 := hm.so (r := r) b hb
    have vc : ∀ c, c ≠ 0 → c ≠ 4 → (wI (wI v 0 0 0) 4 r x2).1 c = v.1 c := fun c a b => by rw [wI_n b, wI_n a]
    have v0 : ∀ j, j ≠ 0 → (wI (wI v 0 0 0) 4 r x2).1 0 j = v.1 0 j := fun j h0 => by rw [wI_n (by decide), w0n v 0 h0]
    obtain ⟨y, w', v', eC, eM, ht, hR'⟩ := set_gen (S' := n_so S r b) (fC := f_X0_renewRoad fu (wL w 1 8 X) (nI r)) hR (hn.so r b) rfl rfl hc5 hm5 (fun c _ _ _ _ => rfl) (fun c h1 => wL_n h1) (fun c c0 _ c4 _ => vc c c0 c4) (fun j h0 _ _ => v0 j h0) rfl (by rw [wI_n (by decide), t0]) (hl.same (Nat.le_refl _) rfl rfl rfl rfl (wL_n (by decide)) rfl (v0 19 (by decide)) (vc 13 (by decide) (by decide)) (vc 14 (by decide) (by decide)) (vc 15 (by decide) (by decide)) (vc 16 (by decide) (by decide)) (vc 17 (by decide) (by decide))) hf (fun h => renewRoad_no h fu (nI r)) (fun hb g1 g2 g3 g4 g5 => renewRoad_ok hc5 g1 (hn.so r b) hb g2 g4 (fun a b => n_L_le hn a b) g5 g3 (show 64 < fu by omega) hr (so_hd (S := S) r b))
    refine GI.y (o := o) (x := y) (w1 := w') (v1 := v') ?_ ?_ ht hR'
    · unfold f_L_setOpen f_X3_setOpen
      rw [reqR_y hc hn fu hr, bx_l, eX x2 hb, bn_e, eC, bn2_e, bx_l]
    · unfold f_X4_setOpen
      rw [nm_e1, isRoad_y hm hn fu hr, bn_e, if_neg (by decide), ck_t (in64 (by omega)), nm_e1, cl64 (by omega), vnb h2, eM, bn2_e]
theorem i_ge {x : Int32} {n : Int} (h : ¬ x < (Int32.ofInt n)) (hn : (Int32.ofInt n).toInt = n) : n ≤ x.toInt := by
  have := Int32.lt_iff_toInt_lt (x := x) (y := Int32.ofInt n)
  rw [hn] at this
  exact Int.not_lt.mp (fun hh => h (this.mpr hh))
theorem i_le {x : Int32} {n : Int} (h : x ≤ (Int32.ofInt n)) (hn : (Int32.ofInt n).toInt = n) : x.toInt ≤ n := by
  have := Int32.le_iff_toInt_le (x := x) (y := Int32.ofInt n)
  rw [hn] at this
  exact this.mp h
theorem L_4 (hR : Ra S w v) (hf : 2 ^ 80 ≤ fu) (x1 x2 x3 : Int32) : GI fu (f_L_setTurn fu w o x1 x2 x3) (f_X4_setTurn fu v x1 x2 x3) od := by
  have hn := hR.1
  have hc := hR.2.2.1
  have hm := (hR.thr 0).2.1
  have hR64 := hn.2.1
  have hl := hR.2.2.2.2.2.1
  rcases rd2_ix hn x1 x2 with h | ⟨a, b, ha, hb, rfl, rfl⟩
  · refine GI.n (S := S) (o := o) (c := 1) (w1 := w) (x := 0) (v1 := wI (wI v 0 0 0) 0 0 1) ?_ ?_ (t0 _ _) (by decide) (hR.thr2 0 1)
    · unfold f_L_setTurn f_X3_setTurn
      rw [reqT_1 hc hn h, bx_r, bx_r, ex_y]
    · unfold f_X4_setTurn
      rcases h with h | ⟨⟨a, ha, rfl⟩, h⟩
      · rw [nm_e1, isRoad_n hm fu h, bn_e, if_pos rfl, fail_ok, bn2_e]
      · rw [nm_e1, isRoad_y hm hn fu ha, bn_e, if_neg (by decide), isRoad_n hm fu h, bn_e, if_pos rfl, fail_ok, bn2_e]
  · by_cases hfol : n_fol S a b = true
    · by_cases l1 : x3 < (-2)
      · refine GI.n (S := S) (o := o) (c := 2) (w1 := w) (x := 0) (v1 := wI (wI v 0 0 0) 0 0 2) ?_ ?_ (t0 _ _) (by decide) (hR.thr2 0 2)
        · unfold f_L_setTurn f_X3_setTurn
          rw [reqT_y hc hn ha hb hfol, bx_l, if_pos l1, bx_r, ex_n (by decide), ex_y]
        · unfold f_X4_setTurn
          rw [nm_e1, isRoad_y hm hn fu ha, bn_e, if_neg (by decide), isRoad_y hm hn fu hb, bn_e, if_neg (by decide), follows_ok hm hn fu ha hb, bn_e, if_zo, if_pos hfol, if_pos l1, fail_ok, bn2_e]
      · by_cases l2 : x3 ≤ 1000
        · have b1 : (-2) ≤ x3.toInt := i_ge (n := -2) l1 (by decide)
          have b2 : x3.toInt ≤ 1000 := i_le (n := 1000) l2 (by decide)
          have hn' := hn.ss a b b1 b2
          have hd : ∀ p q, p < n_R S → q < n_R S → s1 (n_ss S a b x3) p q ≠ s1 S p q → n_fol (n_ss S a b x3) p q = true ∧ p = a ∧ q = b := fun p q hp hq hne => by
            refine ⟨?_, ?_⟩
            · apply Decidable.byContradiction
              intro h
              have e1 := s1_nofol (S := n_ss S a b x3) h
              have e2 := s1_nofol (S := S) (a := p) (b := q) h
              rw [e1, e2] at hne
              exact hne rfl
            · apply Decidable.byContradiction
              intro h
              apply hne
              have e0 : n_s (n_ss S a b x3) p q = n_s S p q := if_neg h
              have ep : n_p (n_ss S a b x3) p q = n_p S p q := by
                unfold n_p
                rw [e0]
                rfl
              have e : c2 (n_ss S a b x3) p q = c2 S p q := by
                unfold c2
                rw [ep]
                rfl
              unfold s1
              rw [e]
          have hc5 : RCn (n_ss S a b x3) (wI w 12 (64 * a + b) x3) := by
            refine ⟨by rw [wI_n (by decide)]; exact hc.1, by rw [wI_n (by decide)]; exact hc.2.1, fun i hi => by rw [wI_n (by decide), wI_n (show (10 : Nat) ≠ 12 by decide), wI_n (show (11 : Nat) ≠ 12 by decide)]; exact hc.2.2.1 i hi, fun p q hp hq => ?_, hc.2.2.2.2.1, hc.2.2.2.2.2.1, hc.2.2.2.2.2.2.1, by rw [wI_n (by decide)]; exact hc.2.2.2.2.2.2.2⟩
            show (wI w 12 (64 * a + b) x3).1 12 (64 * p + q) = if p = a ∧ q = b then x3 else n_s S p q
            rw [wI_at]
            by_cases e : p = a ∧ q = b
            · rw [if_pos ⟨rfl, by rw [e.1, e.2]⟩, if_pos e]
            · rw [if_neg (fun hh => e (ix_inj hq (by omega) hh.2)), if_neg e]; exact hc.2.2.2.1 p q hp hq
          have hm5 : RMn (n_ss S a b x3) (wI (wI v 0 0 0) 5 (64 * a + b) x3) := by
            refine ⟨by rw [wI_n (by decide)]; exact hm.1, by rw [wI_n (by decide)]; exact hm.2.1, fun i hi => by rw [wI_n (show (1 : Nat) ≠ 5 by decide), wI_n (show (2 : Nat) ≠ 5 by decide), wI_n (show (3 : Nat) ≠ 5 by decide), wI_n (show (4 : Nat) ≠ 5 by decide)]; exact hm.2.2.1 i hi, fun p q hp hq => ?_, by rw [wI_n (by decide)]; exact hm.2.2.2.2⟩
            show (wI (wI v 0 0 0) 5 (64 * a + b) x3).1 5 (64 * p + q) = if p = a ∧ q = b then x3 else n_s S p q
            rw [wI_at]
            by_cases e : p = a ∧ q = b
            · rw [if_pos ⟨rfl, by rw [e.1, e.2]⟩, if_pos e]
            · rw [if_neg (fun hh => e (ix_inj hq (by omega) hh.2)), if_neg e]; exact hm.2.2.2.1 p q hp hq
          have vc : ∀ c, c ≠ 0 → c ≠ 5 → (wI (wI v 0 0 0) 5 (64 * a + b) x3).1 c = v.1 c := fun c a b => by rw [wI_n b, wI_n a]
          have v0 : ∀ j, j ≠ 0 → (wI (wI v 0 0 0) 5 (64 * a + b) x3).1 0 j = v.1 0 j := fun j h0 => by rw [wI_n (by decide), w0n v 0 h0]
          obtain ⟨y, w', v', eC, eM, ht, hR'⟩ := set_gen (S' := n_ss S a b x3) (fC := f_X0_renewTurn fu (wI w 12 (64 * a + b) x3) (nI a) (nI b)) hR hn' rfl rfl hc5 hm5 (fun c _ _ _ c12 => wI_n c12) (fun c h1 => rfl) (fun c c0 _ _ c5 => vc c c0 c5) (fun j h0 _ _ => v0 j h0) rfl (by rw [wI_n (by decide), t0]) (hl.same (Nat.le_refl _) (by rw [wI_n (by decide)]) (wI_n (by decide)) (wI_n (by decide)) (wI_n (by decide)) rfl (wI_n (by decide)) (v0 19 (by decide)) (vc 13 (by decide) (by decide)) (vc 14 (by decide) (by decide)) (vc 15 (by decide) (by decide)) (vc 16 (by decide) (by decide)) (vc 17 (by decide) (by decide))) hf (fun h => renewTurn_no h fu (nI a) (nI b)) (fun hb0 g1 g2 g3 g4 g5 => renewTurn_ok hc5 g1 hn' hb0 g2 g4 (fun a b => n_L_le hn a b) g5 g3 (show 64 < fu by omega) ha hb hd)
          refine GI.y (o := o) (x := y) (w1 := w') (v1 := v') ?_ ?_ ht hR'
          · unfold f_L_setTurn f_X3_setTurn f_X3_pair
            rw [reqT_y hc hn ha hb hfol, bx_l, if_neg l1, if_pos l2, bn_e, ck_t (pr_in (by omega) (by omega)), nm_e1, pr_cl (by omega) (by omega), eC, bn2_e, bx_l]
          · unfold f_X4_setTurn
            rw [nm_e1, isRoad_y hm hn fu ha, bn_e, if_neg (by decide), isRoad_y hm hn fu hb, bn_e, if_neg (by decide), follows_ok hm hn fu ha hb, bn_e, if_zo, if_pos hfol, if_neg l1, if_pos l2, ck_t (px_in (by omega) (by omega)), nm_e1, px_cl (by omega) (by omega), eM, bn2_e]
        · refine GI.n (S := S) (o := o) (c := 2) (w1 := w) (x := 0) (v1 := wI (wI v 0 0 0) 0 0 2) ?_ ?_ (t0 _ _) (by decide) (hR.thr2 0 2)
          · unfold f_L_setTurn f_X3_setTurn
            rw [reqT_y hc hn ha hb hfol, bx_l, if_neg l1, if_neg l2, bx_r, ex_n (by decide), ex_y]
          · unfold f_X4_setTurn
            rw [nm_e1, isRoad_y hm hn fu ha, bn_e, if_neg (by decide), isRoad_y hm hn fu hb, bn_e, if_neg (by decide), follows_ok hm hn fu ha hb, bn_e, if_zo, if_pos hfol, if_neg l1, if_neg l2, fail_ok, bn2_e]
    · refine GI.n (S := S) (o := o) (c := 2) (w1 := w) (x := 0) (v1 := wI (wI v 0 0 0) 0 0 2) ?_ ?_ (t0 _ _) (by decide) (hR.thr2 0 2)
      · unfold f_L_setTurn f_X3_setTurn
        rw [reqT_2 hc hn ha hb hfol, bx_r, bx_r, ex_n (by decide), ex_y]
      · unfold f_X4_setTurn
        rw [nm_e1, isRoad_y hm hn fu ha, bn_e, if_neg (by decide), isRoad_y hm hn fu hb, bn_e, if_neg (by decide), follows_ok hm hn fu ha hb, bn_e, if_zo, if_neg hfol, fail_ok, bn2_e]
theorem su_hd (x : Int32) : ∀ p q, p < n_R S → q < n_R S → s1 (n_su S x) p q ≠ s1 S p q → n_fol (n_su S x) p q = true := fun p q hp hq hne => by
  apply Decidable.byContradiction
  intro h
  have e1 := s1_nofol (S := n_su S x) h
  have e2 := s1_nofol (S := S) (a := p) (b := q) h
  rw [e1, e2] at hne
  exact hne rfl
theorem L_5 (hR : Ra S w v) (hf : 2 ^ 80 ≤ fu) (x1 : Int32) : GI fu (f_L_setUTurn fu w o x1) (f_X4_setUTurn fu v x1) od := by
  have hn := hR.1
  have hc := hR.2.2.1
  have hm := (hR.thr 0).2.1
  have hR64 := hn.2.1
  have hl := hR.2.2.2.2.2.1
  by_cases l1 : x1 < (-1)
  · refine GI.n (S := S) (o := o) (c := 1) (w1 := w) (x := 0) (v1 := wI (wI v 0 0 0) 0 0 1) ?_ ?_ (t0 _ _) (by decide) (hR.thr2 0 1)
    · unfold f_L_setUTurn f_X3_setUTurn
      rw [if_pos l1, bx_r, ex_y]
    · unfold f_X4_setUTurn
      rw [nm_e1, if_pos l1, fail_ok, bn2_e]
  · by_cases l2 : x1 ≤ 1000
    · have b1 : (-1) ≤ x1.toInt := i_ge (n := -1) l1 (by decide)
      have b2 : x1.toInt ≤ 1000 := i_le (n := 1000) l2 (by decide)
      have hn' := hn.su b1 b2
      have hc5 : RCn (n_su S x1) (wI w 1 9 x1) := by
        refine ⟨by rw [wI_at, if_neg (by decide)]; exact hc.1, by rw [wI_at, if_neg (by decide)]; exact hc.2.1, fun i hi => by rw [wI_n (show (9 : Nat) ≠ 1 by decide), wI_n (show (10 : Nat) ≠ 1 by decide), wI_n (show (11 : Nat) ≠ 1 by decide)]; exact hc.2.2.1 i hi, fun p q hp hq => by rw [wI_n (by decide)]; exact hc.2.2.2.1 p q hp hq, hc.2.2.2.2.1, hc.2.2.2.2.2.1, hc.2.2.2.2.2.2.1, by rw [wI_at, if_pos ⟨rfl, rfl⟩]; rfl⟩
      have hm5 : RMn (n_su S x1) (wI (wI v 0 0 0) 0 8 x1) := by
        refine ⟨by rw [wI_at, if_neg (by decide)]; exact hm.1, by rw [wI_at, if_neg (by decide)]; exact hm.2.1, fun i hi => by rw [wI_n (show (1 : Nat) ≠ 0 by decide), wI_n (show (2 : Nat) ≠ 0 by decide), wI_n (show (3 : Nat) ≠ 0 by decide), wI_n (show (4 : Nat) ≠ 0 by decide)]; exact hm.2.2.1 i hi, fun p q hp hq => by rw [wI_n (by decide)]; exact hm.2.2.2.1 p q hp hq, by rw [wI_at, if_pos ⟨rfl, rfl⟩]; rfl⟩
      have vc : ∀ c, c ≠ 0 → (wI (wI v 0 0 0) 0 8 x1).1 c = v.1 c := fun c a => by rw [wI_n a, wI_n a]
      have v0 : ∀ j, j ≠ 0 → j ≠ 8 → (wI (wI v 0 0 0) 0 8 x1).1 0 j = v.1 0 j := fun j h0 h8 => by rw [wI_at, if_neg (fun hh => h8 hh.2), w0n v 0 h0]
      obtain ⟨y, w', v', eC, eM, ht, hR'⟩ := set_gen (S' := n_su S x1) (fC := f_X0_renewAll fu (wI w 1 9 x1)) hR hn' rfl rfl hc5 hm5 (fun c c1 _ _ _ => wI_n c1) (fun c h1 => rfl) (fun c c0 _ _ _ => vc c c0) (fun j h0 h8 _ => v0 j h0 h8) rfl (by rw [wI_at, if_neg (by decide), t0]) (hl.same (Nat.le_refl _) (by rw [wI_n (by decide)]) (wI_n (by decide)) (wI_n (by decide)) (wI_n (by decide)) rfl (wI_n (by decide)) (v0 19 (by decide) (by decide)) (vc 13 (by decide)) (vc 14 (by decide)) (vc 15 (by decide)) (vc 16 (by decide)) (vc 17 (by decide))) hf (fun h => renewAll_no h fu) (fun hb0 g1 g2 g3 g4 g5 => renewAll_ok hc5 g1 hn' hb0 g2 g4 (fun a b => n_L_le hn a b) g5 g3 (show 64 < fu by omega) (su_hd (S := S) x1))
      refine GI.y (o := o) (x := y) (w1 := w') (v1 := v') ?_ ?_ ht hR'
      · unfold f_L_setUTurn f_X3_setUTurn
        rw [if_neg l1, if_pos l2, nm_e1, eC, bn2_e, bx_l]
      · unfold f_X4_setUTurn
        rw [nm_e1, if_neg l1, if_pos l2, nm_e1, eM, bn2_e]
    · refine GI.n (S := S) (o := o) (c := 1) (w1 := w) (x := 0) (v1 := wI (wI v 0 0 0) 0 0 1) ?_ ?_ (t0 _ _) (by decide) (hR.thr2 0 1)
      · unfold f_L_setUTurn f_X3_setUTurn
        rw [if_neg l1, if_neg l2, bx_r, ex_y]
      · unfold f_X4_setUTurn
        rw [nm_e1, if_neg l1, if_neg l2, fail_ok, bn2_e]
end S6
