/-! one step of the law, method by method -/
def LInt (fu : Nat) (fL : Option (Int32 × WS × (Nat → Int64))) (fM : Option (Int32 × WS)) (od : Nat → UInt64) (w1 v1 : WS) (o1 : Nat → Int64) (od1 : Nat → UInt64) : Prop := ∃ (c6 : Int32) (r7 : Int32), fL = some (c6, w1, o1) ∧ fM = some (r7, v1) ∧ f_X4_thrown fu v1 = some c6 ∧ (c6 = 0 → o1 0 = Int32.toInt64 r7) ∧ od1 = od
def LBool (fu : Nat) (fL : Option (Int32 × WS × (Nat → Int64))) (fM : Option (Int32 × WS)) (od : Nat → UInt64) (w1 v1 : WS) (o1 : Nat → Int64) (od1 : Nat → UInt64) : Prop := ∃ (c6 : Int32) (r7 : Int32), fL = some (c6, w1, o1) ∧ fM = some (r7, v1) ∧ f_X4_thrown fu v1 = some c6 ∧ (c6 = 0 → o1 0 = if r7 = 0 then 0 else 1) ∧ od1 = od
def GI (fu : Nat) (fL : Option (Int32 × WS × (Nat → Int64))) (fM : Option (Int32 × WS)) (od : Nat → UInt64) : Prop := ∃ w1 v1 o1 od1, LInt fu fL fM od w1 v1 o1 od1 ∧ Rel w1 v1
def GB (fu : Nat) (fL : Option (Int32 × WS × (Nat → Int64))) (fM : Option (Int32 × WS)) (od : Nat → UInt64) : Prop := ∃ w1 v1 o1 od1, LBool fu fL fM od w1 v1 o1 od1 ∧ Rel w1 v1
section ST
variable {fu : Nat} {fL : Option (Int32 × WS × (Nat → Int64))} {fM : Option (Int32 × WS)} {od : Nat → UInt64} {o : Nat → Int64} {w1 v1 : WS} {S : Nt}
theorem GI.y {x : Int32} (hL : fL = some (0, w1, vp_updL o 0 (Int32.toInt64 x))) (hM : fM = some (x, v1)) (ht : v1.1 0 0 = 0) (hR : Ra S w1 v1) : GI fu fL fM od := ⟨w1, v1, _, od, ⟨0, x, hL, hM, thr_of fu ht, fun _ => pk_uLs, rfl⟩, S, hR⟩
theorem GI.n {c x : Int32} (hL : fL = some (c, w1, o)) (hM : fM = some (x, v1)) (ht : v1.1 0 0 = c) (hc : c ≠ 0) (hR : Ra S w1 v1) : GI fu fL fM od := ⟨w1, v1, _, od, ⟨c, x, hL, hM, thr_of fu ht, z_of hc, rfl⟩, S, hR⟩
theorem GB.y {x : Int32} (hL : fL = some (0, w1, vp_updL o 0 (if x = 0 then 0 else 1))) (hM : fM = some (x, v1)) (ht : v1.1 0 0 = 0) (hR : Ra S w1 v1) : GB fu fL fM od := ⟨w1, v1, _, od, ⟨0, x, hL, hM, thr_of fu ht, fun _ => pk_uLs, rfl⟩, S, hR⟩
theorem GB.n {c x : Int32} (hL : fL = some (c, w1, o)) (hM : fM = some (x, v1)) (ht : v1.1 0 0 = c) (hc : c ≠ 0) (hR : Ra S w1 v1) : GB fu fL fM od := ⟨w1, v1, _, od, ⟨c, x, hL, hM, thr_of fu ht, z_of hc, rfl⟩, S, hR⟩
end ST
theorem RMp.top {S S' : Nt} {v : WS} (h : RMp S v) (e1 : n_R S' = n_R S) (e2 : n_fol S' = n_fol S) (e3 : c2 S' = c2 S) : RMp S' v := by
  unfold RMp RMo RMa RMc n_A n_pos n_ord n_arc at *
  rw [e1, e2, e3]
  exact h
theorem RCp.top {S S' : Nt} {w : WS} (h : RCp S w) (e1 : n_R S' = n_R S) (e2 : n_fol S' = n_fol S) (e3 : s1 S' = s1 S) : RCp S' w := by
  unfold RCp RCg SpI LnI n_L n_pos n_ord n_arc at *
  rw [e1, e2, e3]
  exact h
section S0
variable {S : Nt} {w v : WS} {fu : Nat} {o : Nat → Int64} {od : Nat → UInt64}
theorem L_0 (hR : Ra S w v) : GI fu (f_L_addJunction fu w o) (f_X4_addJunction fu v) od := by
  have hR0 := hR
  obtain ⟨hn, hm, hc, hz, hp, hl, hpl, hpt, hne⟩ := hR
  have hJ := hn.1
  by_cases h32 : n_J S < 32
  · have eC : f_X3_addJunction fu w = some (.inl (nI (n_J S), wI w 1 0 (nI (n_J S + 1)))) := by
      unfold f_X3_addJunction
      simp only [nm_e1]
      rw [hc.1, if_pos (show nI (n_J S) < (32 : Int32) from nI_lt (b := 32) h32 (by decide)), nI_1, wI_at, if_pos ⟨rfl, rfl⟩, nI_pred]
    have eM : f_X4_addJunction fu v = some (nI (n_J S), wI (wI v 0 0 0) 0 1 (nI (n_J S + 1))) := by
      unfold f_X4_addJunction
      simp only [nm_e1]
      rw [show (wI v 0 0 0).1 0 1 = nI (n_J S) by rw [wI_at, if_neg (by decide)]; exact hm.1, if_neg (fun e => by have := (nI_eq (b := 32) (by omega) (by decide)).mp e; omega), nI_1, wI_at, if_pos ⟨rfl, rfl⟩, nI_pred]
    have hm' := (hR0.thr 0).2.1
    refine GI.y (S := n_aj S) (w1 := wI w 1 0 (nI (n_J S + 1))) (v1 := wI (wI v 0 0 0) 0 1 (nI (n_J S + 1))) (o := o) (by unfold f_L_addJunction; rw [eC, bx_l]) eM (by rw [wI_at, if_neg (by decide), t0]) ⟨hn.aj h32, ?_, ?_, hz, ?_, ?_, hpl.same (wI_n (by decide)) (by rw [wI_n (by decide), wI_n (by decide)]), hpt.same (by rw [wI_n (by decide)]) (by rw [wI_n (by decide)]) (wI_n (by decide)) (by rw [wI_at, if_neg (by decide), wI_at, if_neg (by decide)]) (by rw [wI_at, if_neg (by decide), wI_at, if_neg (by decide)]) (by rw [wI_n (by decide), wI_n (by decide)]), hne.same (by rw [wI_n (by decide)]) (wI_n (by decide)) (by rw [wI_at, if_neg (by decide), wI_at, if_neg (by decide)]) (by rw [wI_n (by decide), wI_n (by decide)])⟩
    · refine ⟨by rw [wI_at, if_pos ⟨rfl, rfl⟩]; rfl, ?_, fun r hr => ?_, fun a b ha hb => ?_, ?_⟩
      · rw [wI_at, if_neg (by decide), wI_at, if_neg (by decide)]; exact hm.2.1
      · rw [wI_n (by decide), wI_n (by decide), wI_n (by decide), wI_n (by decide), wI_n (by decide), wI_n (by decide), wI_n (by decide), wI_n (by decide)]
        exact hm.2.2.1 r hr
      · rw [wI_n (by decide), wI_n (by decide)]
        exact hm.2.2.2.1 a b ha hb
      · rw [wI_at, if_neg (by decide), wI_at, if_neg (by decide)]; exact hm.2.2.2.2
    · refine ⟨by rw [wI_at, if_pos ⟨rfl, rfl⟩]; rfl, ?_, fun r hr => ?_, fun a b ha hb => ?_, hc.2.2.2.2.1, hc.2.2.2.2.2.1, hc.2.2.2.2.2.2.1, ?_⟩
      · rw [wI_at, if_neg (by decide)]; exact hc.2.1
      · rw [wI_n (by decide), wI_n (by decide), wI_n (by decide)]
        exact hc.2.2.1 r hr
      · rw [wI_n (by decide)]
        exact hc.2.2.2.1 a b ha hb
      · rw [wI_at, if_neg (by decide)]; exact hc.2.2.2.2.2.2.2
    · have f0 : ∀ j, j ≠ 0 → j ≠ 1 → (wI (wI v 0 0 0) 0 1 (nI (n_J S + 1))).1 0 j = v.1 0 j := fun j h0 h1 => by rw [wI_at, if_neg (fun hh => h1 hh.2), wI_at, if_neg (fun hh => h0 hh.2)]
      have fc : ∀ c, c ≠ 0 → (wI (wI v 0 0 0) 0 1 (nI (n_J S + 1))).1 c = v.1 c := fun c hc => by rw [wI_n hc, wI_n hc]
      unfold Pr
      rw [f0 9 (by decide) (by decide), f0 14 (by decide) (by decide), f0 13 (by decide) (by decide), wI_n (show (2 : Nat) ≠ 1 by decide)]
      rcases hp with hp | ⟨a, b, c, d, e⟩
      · exact Or.inl hp
      · exact Or.inr ⟨a, b, (c.same (wI_n (by decide)) (wI_n (by decide)) (wI_n (by decide)) (wI_n (by decide)) (wI_n (by decide)) rfl rfl rfl).top rfl rfl rfl, (d.same (fc 6 (by decide)) (fc 7 (by decide)) (fc 8 (by decide)) rfl (f0 13 (by decide) (by decide)) (f0 14 (by decide) (by decide))).top rfl rfl rfl, e⟩
    · exact hl.same (Nat.le_refl _) (by rw [wI_n (by decide)]) (wI_n (by decide)) (wI_n (by decide)) (wI_n (by decide)) rfl (wI_n (by decide)) (by rw [wI_at, if_neg (by decide), wI_at, if_neg (by decide)]) (by rw [wI_n (by decide), wI_n (by decide)]) (by rw [wI_n (by decide), wI_n (by decide)]) (by rw [wI_n (by decide), wI_n (by decide)]) (by rw [wI_n (by decide), wI_n (by decide)]) (by rw [wI_n (by decide), wI_n (by decide)])
  · have e32 : n_J S = 32 := by omega
    have eC : f_X3_addJunction fu w = some (.inr ("java/lang/IllegalStateException", w)) := by
      unfold f_X3_addJunction
      simp only [nm_e1]
      rw [hc.1, if_neg (show ¬ nI (n_J S) < (32 : Int32) from nI_nlt (b := 32) (by omega) (by omega))]
    have eM : f_X4_addJunction fu v = some (0, wI (wI v 0 0 0) 0 0 1) := by
      unfold f_X4_addJunction
      simp only [nm_e1]
      rw [show (wI v 0 0 0).1 0 1 = nI (n_J S) by rw [wI_at, if_neg (by decide)]; exact hm.1, e32, if_pos (by decide), fail_ok, bn2_e]
    exact GI.n (S := S) (by unfold f_L_addJunction; rw [eC, bx_r, ex_y]) eM (t0 _ _) (by decide) (hR0.thr2 0 1)
theorem L_6 (hR : Ra S w v) : ∃ w1 v1 o1 od1, (∃ r : Int32, f_X3_junctionCount fu w = some r ∧ f_X4_junctionCount fu v = some (r, v1) ∧ w1 = w ∧ o1 = o ∧ od1 = od) ∧ Rel w1 v1 := by
  have hc := hR.2.2.1
  have hm := hR.2.1
  refine ⟨w, wI v 0 0 0, o, od, ⟨nI (n_J S), ?_, ?_, rfl, rfl, rfl⟩, S, hR.thr 0⟩
  · unfold f_X3_junctionCount
    rw [nm_e1, hc.1]
  · unfold f_X4_junctionCount
    rw [nm_e1, nm_e1, (hR.thr 0).2.1.1]
theorem L_7 (hR : Ra S w v) : ∃ w1 v1 o1 od1, (∃ r : Int32, f_X3_roadCount fu w = some r ∧ f_X4_roadCount fu v = some (r, v1) ∧ w1 = w ∧ o1 = o ∧ od1 = od) ∧ Rel w1 v1 := by
  have hc := hR.2.2.1
  refine ⟨w, wI v 0 0 0, o, od, ⟨nI (n_R S), ?_, ?_, rfl, rfl, rfl⟩, S, hR.thr 0⟩
  · unfold f_X3_roadCount
    rw [nm_e1, hc.2.1]
  · unfold f_X4_roadCount
    rw [nm_e1, nm_e1, (hR.thr 0).2.1.2.1]
/-- a road that there is, or none -/
theorem rd_ix (hn : NtOK S) (x : Int32) : (x < 0 ∨ nI (n_R S) ≤ x) ∨ ∃ r, r < n_R S ∧ x = nI r := by
  have := hn.2.1
  rcases pk_ix x (n := n_R S) (by omega) with h | h | h
  · exact Or.inl (Or.inl h)
  · exact Or.inl (Or.inr h)
  · exact Or.inr h
theorem jn_ix (hn : NtOK S) (x : Int32) : (x < 0 ∨ nI (n_J S) ≤ x) ∨ ∃ r, r < n_J S ∧ x = nI r := by
  have := hn.1
  rcases pk_ix x (n := n_J S) (by omega) with h | h | h
  · exact Or.inl (Or.inl h)
  · exact Or.inl (Or.inr h)
  · exact Or.inr h
theorem L_8 (hR : Ra S w v) (x1 : Int32) : GI fu (f_L_weight fu w o x1) (f_X4_weight fu v x1) od := by
  have hn := hR.1
  have hc := hR.2.2.1
  have hm := (hR.thr 0).2.1
  have hR64 := hn.2.1
  rcases rd_ix hn x1 with h | ⟨r, hr, rfl⟩
  · refine GI.n (S := S) (o := o) (c := 1) (w1 := w) (x := 0) (v1 := wI (wI v 0 0 0) 0 0 1) ?_ ?_ (t0 _ _) (by decide) (hR.thr2 0 1)
    · unfold f_L_weight f_X3_weight
      rw [reqR_n hc fu h, bx_r, bx_r, ex_y]
    · unfold f_X4_weight
      rw [nm_e1, isRoad_n hm fu h, bn_e, if_pos rfl, fail_ok, bn2_e]
  · refine GI.y (S := S) (o := o) (x := nI (n_w S r)) (w1 := w) (v1 := wI v 0 0 0) ?_ ?_ (t0 _ _) (hR.thr 0)
    · unfold f_L_weight f_X3_weight
      rw [reqR_y hc hn fu hr, bx_l, ck_t (in64 (by omega)), nm_e1, cl64 (by omega), (hc.2.2.1 r hr).2.2, bx_l]
    · unfold f_X4_weight
      rw [nm_e1, isRoad_y hm hn fu hr, bn_e, if_neg (by decide), ck_t (in64 (by omega)), nm_e1, cl64 (by omega), (hm.2.2.1 r hr).2.2.1]
theorem L_9 (hR : Ra S w v) (x1 : Int32) : GB fu (f_L_isOpen fu w o x1) (f_X4_isOpen fu v x1) od := by
  have hn := hR.1
  have hc := hR.2.2.1
  have hm := (hR.thr 0).2.1
  have hR64 := hn.2.1
  rcases rd_ix hn x1 with h | ⟨r, hr, rfl⟩
  · refine GB.n (S := S) (o := o) (c := 1) (w1 := w) (x := 0) (v1 := wI (wI v 0 0 0) 0 0 1) ?_ ?_ (t0 _ _) (by decide) (hR.thr2 0 1)
    · unfold f_L_isOpen f_X3_isOpen
      rw [reqR_n hc fu h, bx_r, bx_r, ex_y]
    · unfold f_X4_isOpen
      rw [nm_e1, isRoad_n hm fu h, bn_e, if_pos rfl, fail_ok, bn2_e, if_pos rfl]
  · have h01 : (if n_o S r = true then (1 : Int32) else 0) = 0 ∨ (if n_o S r = true then (1 : Int32) else 0) = 1 := by
      split
      · exact Or.inr rfl
      · exact Or.inl rfl
    refine GB.y (S := S) (o := o) (x := if n_o S r = true then 1 else 0) (w1 := w) (v1 := wI v 0 0 0) ?_ ?_ (t0 _ _) (hR.thr 0)
    · unfold f_L_isOpen f_X3_isOpen
      rw [reqR_y hc hn fu hr, bx_l, nm_e1, open_ok hc hn fu hr, bn_e, ck_t h01, bx_l]
    · unfold f_X4_isOpen
      rw [nm_e1, isRoad_y hm hn fu hr, bn_e, if_neg (by decide), ck_t (in64 (by omega)), nm_e1, cl64 (by omega), (hm.2.2.1 r hr).2.2.2, ck_t h01]
theorem reqT_y (hc : RCn S w) (hn : NtOK S) {a b : Nat} (ha : a < n_R S) (hb : b < n_R S) (hf : n_fol S a b = true) : f_X3_requireTurn fu w (nI a) (nI b) = some (.inl w) := by
  have hR64 := hn.2.1
  have hJ := hn.1
  have h1 := hn.2.2.1 a ha
  have h2 := hn.2.2.1 b hb
  unfold f_X3_requireTurn
  rw [reqR_y hc hn fu ha, bx_l, reqR_y hc hn fu hb, bx_l, ck_t (in64 (by omega)), nm_e1, cl64 (by omega), ck_t (in64 (by omega)), nm_e1, cl64 (by omega), (hc.2.2.1 a ha).2.1, (hc.2.2.1 b hb).1, if_pos]
  have e : n_t S a = n_f S b := by simpa [n_fol] using hf
  rw [e]
theorem reqT_2 (hc : RCn S w) (hn : NtOK S) {a b : Nat} (ha : a < n_R S) (hb : b < n_R S) (hf : ¬ n_fol S a b = true) : f_X3_requireTurn fu w (nI a) (nI b) = some (.inr ("java/lang/IllegalArgumentException", w)) := by
  have hR64 := hn.2.1
  have hJ := hn.1
  have h1 := hn.2.2.1 a ha
  have h2 := hn.2.2.1 b hb
  unfold f_X3_requireTurn
  rw [reqR_y hc hn fu ha, bx_l, reqR_y hc hn fu hb, bx_l, ck_t (in64 (by omega)), nm_e1, cl64 (by omega), ck_t (in64 (by omega)), nm_e1, cl64 (by omega), (hc.2.2.1 a ha).2.1, (hc.2.2.1 b hb).1, if_neg]
  intro e
  apply hf
  have e := (nI_eq (by omega) (by omega)).mp e
  simp [n_fol, e]
theorem reqT_1 (hc : RCn S w) (hn : NtOK S) {x y : Int32} (h : (x < 0 ∨ nI (n_R S) ≤ x) ∨ (∃ a, a < n_R S ∧ x = nI a) ∧ (y < 0 ∨ nI (n_R S) ≤ y)) : f_X3_requireTurn fu w x y = some (.inr ("java/lang/IndexOutOfBoundsException", w)) := by
  unfold f_X3_requireTurn
  rcases h with h | ⟨⟨a, ha, rfl⟩, h⟩
  · rw [reqR_n hc fu h, bx_r]
  · rw [reqR_y hc hn fu ha, bx_l, reqR_n hc fu h, bx_r]
/-- both are roads, or not -/
theorem rd2_ix (hn : NtOK S) (x y : Int32) : ((x < 0 ∨ nI (n_R S) ≤ x) ∨ (∃ a, a < n_R S ∧ x = nI a) ∧ (y < 0 ∨ nI (n_R S) ≤ y)) ∨ ∃ a b, a < n_R S ∧ b < n_R S ∧ x = nI a ∧ y = nI b := by
  rcases rd_ix hn x with h | ⟨a, ha, rfl⟩
  · exact Or.inl (Or.inl h)
  · rcases rd_ix hn y with h | ⟨b, hb, rfl⟩
    · exact Or.inl (Or.inr ⟨⟨a, ha, rfl⟩, h⟩)
    · exact Or.inr ⟨a, b, ha, hb, rfl, rfl⟩
theorem L_10 (hR : Ra S w v) (x1 x2 : Int32) : GI fu (f_L_turnPenalty fu w o x1 x2) (f_X4_turnPenalty fu v x1 x2) od := by
  have hn := hR.1
  have hc := hR.2.2.1
  have hm := (hR.thr 0).2.1
  rcases rd2_ix hn x1 x2 with h | ⟨a, b, ha, hb, rfl, rfl⟩
  · refine GI.n (S := S) (o := o) (c := 1) (w1 := w) (x := 0) (v1 := wI (wI v 0 0 0) 0 0 1) ?_ ?_ (t0 _ _) (by decide) (hR.thr2 0 1)
    · unfold f_L_turnPenalty f_X3_turnPenalty
      rw [reqT_1 hc hn h, bx_r, bx_r, ex_y]
    · unfold f_X4_turnPenalty
      rcases h with h | ⟨⟨a, ha, rfl⟩, h⟩
      · rw [nm_e1, isRoad_n hm fu h, bn_e, if_pos rfl, fail_ok, bn2_e]
      · rw [nm_e1, isRoad_y hm hn fu ha, bn_e, if_neg (by decide), isRoad_n hm fu h, bn_e, if_pos rfl, fail_ok, bn2_e]
  · by_cases hf : n_fol S a b = true
    · refine GI.y (S := S) (o := o) (x := n_p S a b) (w1 := w) (v1 := wI v 0 0 0) ?_ ?_ (t0 _ _) (hR.thr 0)
      · unfold f_L_turnPenalty f_X3_turnPenalty
        rw [reqT_y hc hn ha hb hf, bx_l, pen_ok hc hn fu ha hb, bn_e, bx_l]
      · unfold f_X4_turnPenalty
        rw [nm_e1, isRoad_y hm hn fu ha, bn_e, if_neg (by decide), isRoad_y hm hn fu hb, bn_e, if_neg (by decide), follows_ok hm hn fu ha hb, bn_e, if_zo, if_pos hf, penalty_ok hm hn fu ha hb, bn_e]
    · refine GI.n (S := S) (o := o) (c := 2) (w1 := w) (x := 0) (v1 := wI (wI v 0 0 0) 0 0 2) ?_ ?_ (t0 _ _) (by decide) (hR.thr2 0 2)
      · unfold f_L_turnPenalty f_X3_turnPenalty
        rw [reqT_2 hc hn ha hb hf, bx_r, bx_r, ex_n (by decide), ex_y]
      · unfold f_X4_turnPenalty
        rw [nm_e1, isRoad_y hm hn fu ha, bn_e, if_neg (by decide), isRoad_y hm hn fu hb, bn_e, if_neg (by decide), follows_ok hm hn fu ha hb, bn_e, if_zo, if_neg hf, fail_ok, bn2_e]
end S0
