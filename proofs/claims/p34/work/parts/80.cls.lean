/-! the class's methods, where all is in order -/
/-- a class with a hierarchy over the network S -/
def RP (S : Nt) (w : WS) : Prop := NtOK S ∧ RCn S w ∧ StZ w ∧ w.1 2 1 = 1 ∧ RCp S w
theorem cn2_le (P : Nat → Nat → Bool) (n : Nat) : ∀ m, cn2 P n m ≤ m * n
  | 0 => by simp [cn2]
  | m + 1 => by
    have h1 := cn2_le P n m
    have h2 := cn_le (P m) n
    unfold cn2
    rw [Nat.succ_mul]
    omega
section CM
variable {S S' : Nt} {w : WS} {fu : Nat}
theorem addJ_ok (hn : NtOK S) (hc : RCn S w) (h32 : n_J S < 32) : f_X3_addJunction fu w = some (.inl (nI (n_J S), wI w 1 0 (nI (n_J S + 1)))) ∧ RCn (n_aj S) (wI w 1 0 (nI (n_J S + 1))) := by
  constructor
  · unfold f_X3_addJunction
    simp only [nm_e1]
    rw [hc.1, if_pos (show nI (n_J S) < (32 : Int32) from nI_lt (b := 32) h32 (by decide)), nI_1, wI_at, if_pos ⟨rfl, rfl⟩, nI_pred]
  · refine ⟨by rw [wI_at, if_pos ⟨rfl, rfl⟩]; rfl, ?_, fun r hr => ?_, fun a b ha hb => ?_, hc.2.2.2.2.1, hc.2.2.2.2.2.1, hc.2.2.2.2.2.2.1, ?_⟩
    · rw [wI_at, if_neg (by decide)]; exact hc.2.1
    · rw [wI_n (by decide), wI_n (by decide), wI_n (by decide)]
      exact hc.2.2.1 r hr
    · rw [wI_n (by decide)]
      exact hc.2.2.2.1 a b ha hb
    · rw [wI_at, if_neg (by decide)]; exact hc.2.2.2.2.2.2.2
theorem addR_ok (hn : NtOK S) (hc : RCn S w) (hz : StZ w) {a b x : Nat} (h64 : n_R S < 64) (ha : a < n_J S) (hb : b < n_J S) (hne : a ≠ b) (h1 : 1 ≤ x) (h2 : x ≤ 10000) : ∃ W, f_X3_addRoad fu w (nI a) (nI b) (nI x) = some (.inl (nI (n_R S), W)) ∧ RCn (n_ar S a b x) W ∧ StZ W ∧ W.1 2 1 = 0 := by
  have hJ := hn.1
  obtain ⟨W, eW, cW, f1, f2⟩ := append_ok (fu := fu) (w := wI w 2 1 0) (x := x) (f := a) (t := b) (hc.same (wI_n (by decide)) (wI_n (by decide)) (wI_n (by decide)) (wI_n (by decide)) (wI_n (by decide)) rfl rfl rfl) hn h64 ha hb
  refine ⟨W, ?_, cW, hz.same (by rw [f2 22 (by decide) (by decide) (by decide)]; rfl) (by rw [f2 23 (by decide) (by decide) (by decide)]; rfl), by rw [f1 2 (by decide) (by decide) (by decide) (by decide), wI_at, if_pos ⟨rfl, rfl⟩]⟩
  unfold f_X3_addRoad
  rw [reqJ_y hc hn fu ha, bx_l, reqJ_y hc hn fu hb, bx_l, if_neg (fun e => hne ((nI_eq (by omega) (by omega)).mp e)), reqW_y fu h1 h2, bx_l, nm_e1, hc.2.1, if_pos (show nI (n_R S) < (64 : Int32) from nI_lt (b := 64) h64 (by decide)), nm_e1, eW, bn2_e]
theorem prep34 (hn : NtOK S) (hc : RCn S w) (hz : StZ w) (h0 : w.1 2 1 = 0) (hpos : 0 < n_R S) (hf : 64 < fu) : ∃ (k : Nat) (w' : WS), f_X3_prepare fu w = some (.inl (nI k, w')) ∧ k < 2 ^ 31 ∧ RP S w' := by
  have hR64 := hn.2.1
  obtain ⟨w', eW, fW, cW, bW, zW⟩ := build_ok hc hn hz hf
  obtain ⟨k, k1, k2, k3⟩ := cW.2.2.2
  have hle := cn2_le (n_arc S) (n_R S) (n_R S)
  have hm : n_R S * n_R S ≤ 64 * 64 := Nat.mul_le_mul hR64 hR64
  refine ⟨k, w', ?_, by omega, hn, hc.frBd fW, zW, bW, cW⟩
  unfold f_X3_prepare
  rw [nm_e1, hc.2.1, if_neg (nI_ne0 hpos (by omega)), nm_e1, h0, if_pos rfl, eW, bn_e, nm_e1, k2]
/-- behind a change of the network -/
theorem setG (h : RP S w) (hn' : NtOK S') (e1 : n_R S' = n_R S) (e2 : n_fol S' = n_fol S) {w5 : WS} (hc5 : RCn S' w5) (fw1 : ∀ c, c ≠ 1 → c ≠ 11 → c ≠ 12 → w5.1 c = w.1 c) (fw2 : ∀ c, c ≠ 1 → w5.2 c = w.2 c) {fC : Option (Int32 × WS)} (hyes : w5.1 2 1 = 1 → RCg S' w5 → SpI S' (s1 S) w5 → LnI S' (n_L S) w5 → ArcsS S' (s1 S) (n_L S) → StI S' (fun _ _ => false) w5 → ∃ w', fC = some (nI (cn2 (chL S' (n_L S)) (n_R S') (n_R S')), w') ∧ Nw S' w' w5) : ∃ w', fC = some (nI (cn2 (chL S' (n_L S)) (n_R S') (n_R S')), w') ∧ RP S' w' := by
  obtain ⟨hn, hc, hz, hb, hp⟩ := h
  have hz5 : StZ w5 := hz.same (fw2 22 (by decide)) (fw2 23 (by decide))
  have f2 := fw1 2 (by decide) (by decide) (by decide)
  obtain ⟨g1, g2, g3, g4⟩ := cls_pre hp hn e1 e2 f2 (fw1 15 (by decide) (by decide) (by decide)) (fw1 16 (by decide) (by decide) (by decide)) (fw1 20 (by decide) (by decide) (by decide)) (fw1 21 (by decide) (by decide) (by decide)) (fw2 17 (by decide)) (fw2 18 (by decide)) (fw2 19 (by decide))
  have h21 : w5.1 2 1 = 1 := by rw [f2]; exact hb
  obtain ⟨w', eC, hN⟩ := hyes h21 g1 g2 g3 g4 (hz5.stI S')
  have q := cls_post hp e1 e2 g1 f2 hN
  exact ⟨w', eC, hn', hc5.frN hN.1, q.2, by rw [hN.1.1 2 (by decide) (by decide)]; exact h21, q.1⟩
theorem setWeight34 (h : RP S w) (hf : 64 < fu) {r x : Nat} (hr : r < n_R S) (h1 : 1 ≤ x) (h2 : x ≤ 10000) : ∃ w', f_X3_setWeight fu w (nI r) (nI x) = some (.inl (nI (cn2 (chL (n_sw S r x) (n_L S)) (n_R S) (n_R S)), w')) ∧ RP (n_sw S r x) w' := by
  have hn := h.1
  have hc := h.2.1
  have hR64 := hn.2.1
  have hd : ∀ a b, a < n_R S → b < n_R S → s1 (n_sw S r x) a b ≠ s1 S a b → n_fol (n_sw S r x) a b = true ∧ (a = r ∨ b = r) := fun a b ha hb hne => by
    refine ⟨?_, Or.inr ?_⟩
    · apply Decidable.byContradiction
      intro h
      have e1 := s1_nofol (S := n_sw S r x) h
      have e2 := s1_nofol (S := S) (a := a) (b := b) h
      rw [e1, e2] at hne
      exact hne rfl
    · apply Decidable.byContradiction
      intro h
      apply hne
      have e : c2 (n_sw S r x) a b = c2 S a b := by
        show (if _ then (n_p S a b).toInt.toNat + updN (n_w S) r x b else _) = _
        rw [updN_n h]
        rfl
      unfold s1
      rw [e]
  have hc5 : RCn (n_sw S r x) (wI w 11 r (nI x)) := by
    refine ⟨by rw [wI_n (by decide)]; exact hc.1, by rw [wI_n (by decide)]; exact hc.2.1, fun i hi => ?_, fun a b ha hb => by rw [wI_n (by decide)]; exact hc.2.2.2.1 a b ha hb, hc.2.2.2.2.1, hc.2.2.2.2.2.1, hc.2.2.2.2.2.2.1, by rw [wI_n (by decide)]; exact hc.2.2.2.2.2.2.2⟩
    have k := hc.2.2.1 i hi
    refine ⟨by rw [wI_n (by decide)]; exact k.1, by rw [wI_n (by decide)]; exact k.2.1, ?_⟩
    show (wI w 11 r (nI x)).1 11 i = nI (updN (n_w S) r x i)
    rw [wI_at]
    by_cases e : i = r
    · rw [if_pos ⟨rfl, e⟩, e, updN_s]
    · rw [if_neg (fun hh => e hh.2), updN_n e]; exact k.2.2
  obtain ⟨w', eC, k⟩ := setG (S' := n_sw S r x) (fC := f_X0_renewRoad fu (wI w 11 r (nI x)) (nI r)) h (hn.sw h1 h2) rfl rfl hc5 (fun c _ c11 _ => wI_n c11) (fun _ _ => rfl) (fun hb g1 g2 g3 g4 g5 => renewRoad_ok hc5 g1 (hn.sw h1 h2) hb g2 g4 (fun a b => n_L_le hn a b) g5 g3 hf hr hd)
  refine ⟨w', ?_, k⟩
  unfold f_X3_setWeight
  rw [reqR_y hc hn fu hr, bx_l, reqW_y fu h1 h2, bx_l, ck_t (in64 (by omega)), nm_e1, cl64 (by omega), eC, bn2_e]
  rfl
theorem setOpen34 (h : RP S w) (hf : 64 < fu) {r : Nat} (hr : r < n_R S) (b : Bool) {x : Int32} (hx : x = if b = true then 1 else 0) : ∃ w', f_X3_setOpen fu w (nI r) x = some (.inl (nI (cn2 (chL (n_so S r b) (n_L S)) (n_R S) (n_R S)), w')) ∧ RP (n_so S r b) w' := by
  have hn := h.1
  have hc := h.2.1
  have hR64 := hn.2.1
  obtain ⟨X, eX, hc5⟩ := open_bits (fu := fu) hc (show r < 64 by omega) hr b
  obtain ⟨w', eC, k⟩ := setG (S' := n_so S r b) (fC := f_X0_renewRoad fu (wL w 1 8 X) (nI r)) h (hn.so r b) rfl rfl hc5 (fun c _ _ _ => rfl) (fun c h1 => wL_n h1) (fun hb g1 g2 g3 g4 g5 => renewRoad_ok hc5 g1 (hn.so r b) hb g2 g4 (fun a b => n_L_le hn a b) g5 g3 hf hr (so_hd (S := S) r b))
  refine ⟨w', ?_, k⟩
  unfold f_X3_setOpen
  rw [reqR_y hc hn fu hr, bx_l, eX x hx, bn_e, eC, bn2_e]
  rfl
theorem setTurn34 (h : RP S w) (hf : 64 < fu) {a b : Nat} (ha : a < n_R S) (hb : b < n_R S) (hfol : n_fol S a b = true) {x : Int32} (l1 : ¬ x < (-2)) (l2 : x ≤ 1000) : ∃ w', f_X3_setTurn fu w (nI a) (nI b) x = some (.inl (nI (cn2 (chL (n_ss S a b x) (n_L S)) (n_R S) (n_R S)), w')) ∧ RP (n_ss S a b x) w' := by
  have hn := h.1
  have hc := h.2.1
  have hR64 := hn.2.1
  have b1 : (-2) ≤ x.toInt := i_ge (n := -2) l1 (by decide)
  have b2 : x.toInt ≤ 1000 := i_le (n := 1000) l2 (by decide)
  have hn' := hn.ss a b b1 b2
  have hd : ∀ p q, p < n_R S → q < n_R S → s1 (n_ss S a b x) p q ≠ s1 S p q → n_fol (n_ss S a b x) p q = true ∧ p = a ∧ q = b := fun p q hp hq hne => by
    refine ⟨?_, ?_⟩
    · apply Decidable.byContradiction
      intro h
      have e1 := s1_nofol (S := n_ss S a b x) h
      have e2 := s1_nofol (S := S) (a := p) (b := q) h
      rw [e1, e2] at hne
      exact hne rfl
    · apply Decidable.byContradiction
      intro h
      apply hne
      have e0 : n_s (n_ss S a b x) p q = n_s S p q := if_neg h
      have ep : n_p (n_ss S a b x) p q = n_p S p q := by
        unfold n_p
        rw [e0]
        rfl
      have e : c2 (n_ss S a b x) p q = c2 S p q := by
        unfold c2
        rw [ep]
        rfl
      unfold s1
      rw [e]
  have hc5 : RCn (n_ss S a b x) (wI w 12 (64 * a + b) x) := by
    refine ⟨by rw [wI_n (by decide)]; exact hc.1, by rw [wI_n (by decide)]; exact hc.2.1, fun i hi => by rw [wI_n (by decide), wI_n (show (10 : Nat) ≠ 12 by decide), wI_n (show (11 : Nat) ≠ 12 by decide)]; exact hc.2.2.1 i hi, fun p q hp hq => ?_, hc.2.2.2.2.1, hc.2.2.2.2.2.1, hc.2.2.2.2.2.2.1, by rw [wI_n (by decide)]; exact hc.2.2.2.2.2.2.2⟩
    show (wI w 12 (64 * a + b) x).1 12 (64 * p + q) = if p = a ∧ q = b then x else n_s S p q
    rw [wI_at]
    by_cases e : p = a ∧ q = b
    · rw [if_pos ⟨rfl, by rw [e.1, e.2]⟩, if_pos e]
    · rw [if_neg (fun hh => e (ix_inj hq (by omega) hh.2)), if_neg e]; exact hc.2.2.2.1 p q hp hq
  obtain ⟨w', eC, k⟩ := setG (S' := n_ss S a b x) (fC := f_X0_renewTurn fu (wI w 12 (64 * a + b) x) (nI a) (nI b)) h hn' rfl rfl hc5 (fun c _ _ c12 => wI_n c12) (fun c h1 => rfl) (fun hb0 g1 g2 g3 g4 g5 => renewTurn_ok hc5 g1 hn' hb0 g2 g4 (fun a b => n_L_le hn a b) g5 g3 hf ha hb hd)
  refine ⟨w', ?_, k⟩
  unfold f_X3_setTurn f_X3_pair
  rw [reqT_y hc hn ha hb hfol, bx_l, if_neg l1, if_pos l2, bn_e, ck_t (pr_in (by omega) (by omega)), nm_e1, pr_cl (by omega) (by omega), eC, bn2_e]
  rfl
theorem setU34 (h : RP S w) (hf : 64 < fu) {x : Int32} (l1 : ¬ x < (-1)) (l2 : x ≤ 1000) : ∃ w', f_X3_setUTurn fu w x = some (.inl (nI (cn2 (chL (n_su S x) (n_L S)) (n_R S) (n_R S)), w')) ∧ RP (n_su S x) w' := by
  have hn := h.1
  have hc := h.2.1
  have hR64 := hn.2.1
  have b1 : (-1) ≤ x.toInt := i_ge (n := -1) l1 (by decide)
  have b2 : x.toInt ≤ 1000 := i_le (n := 1000) l2 (by decide)
  have hn' := hn.su b1 b2
  have hc5 : RCn (n_su S x) (wI w 1 9 x) := by
    refine ⟨by rw [wI_at, if_neg (by decide)]; exact hc.1, by rw [wI_at, if_neg (by decide)]; exact hc.2.1, fun i hi => by rw [wI_n (show (9 : Nat) ≠ 1 by decide), wI_n (show (10 : Nat) ≠ 1 by decide), wI_n (show (11 : Nat) ≠ 1 by decide)]; exact hc.2.2.1 i hi, fun p q hp hq => by rw [wI_n (by decide)]; exact hc.2.2.2.1 p q hp hq, hc.2.2.2.2.1, hc.2.2.2.2.2.1, hc.2.2.2.2.2.2.1, by rw [wI_at, if_pos ⟨rfl, rfl⟩]; rfl⟩
  obtain ⟨w', eC, k⟩ := setG (S' := n_su S x) (fC := f_X0_renewAll fu (wI w 1 9 x)) h hn' rfl rfl hc5 (fun c c1 _ _ => wI_n c1) (fun c h1 => rfl) (fun hb0 g1 g2 g3 g4 g5 => renewAll_ok hc5 g1 hn' hb0 g2 g4 (fun a b => n_L_le hn a b) g5 g3 hf (su_hd (S := S) x))
  refine ⟨w', ?_, k⟩
  unfold f_X3_setUTurn
  rw [if_neg l1, if_pos l2, nm_e1, eC, bn2_e]
  rfl
theorem hasArc34 (h : RP S w) {p q : Nat} (hp : p < n_R S) (hq : q < n_R S) : f_X3_hasArc fu w (nI p) (nI q) = some (.inl (if n_arc S p q = true then 1 else 0, w)) := by
  obtain ⟨hn, hc, hz, hb, c⟩ := h
  have hR64 := hn.2.1
  have h01 : (if n_arc S p q = true then (1 : Int32) else 0) = 0 ∨ (if n_arc S p q = true then (1 : Int32) else 0) = 1 := by
    split
    · exact Or.inr rfl
    · exact Or.inl rfl
  unfold f_X3_hasArc
  rw [reqH_y hb, bx_l, reqR_y hc hn fu hp, bx_l, reqR_y hc hn fu hq, bx_l, ck_t (in64 (by omega)), nm_e1, cl64 (by omega), has_ok fu _ (show q < 64 by omega), bn_e, c.1.2.2.2.2.1 p q hp (by omega), decide_eq_true hq, Bool.true_and, ck_t h01]
theorem arcCost34 (h : RP S w) {p q : Nat} (hp : p < n_R S) (hq : q < n_R S) (harc : n_arc S p q = true) : f_X3_arcCost fu w (nI p) (nI q) = some (.inl (cI (n_L S p q), w)) := by
  obtain ⟨hn, hc, hz, hb, c⟩ := h
  have hR64 := hn.2.1
  have hle := n_L_le hn p q
  unfold f_X3_arcCost f_X3_pair
  rw [reqH_y hb, bx_l, reqR_y hc hn fu hp, bx_l, reqR_y hc hn fu hq, bx_l, ck_t (in64 (by omega)), nm_e1, cl64 (by omega), has_ok fu _ (show q < 64 by omega), bn_e, c.1.2.2.2.2.1 p q hp (by omega), decide_eq_true hq, Bool.true_and, if_zo, if_pos harc, bn_e, ck_t (pr_in (by omega) (by omega)), nm_e1, pr_cl (by omega) (by omega), (c.2.2.1 p q hp hq harc).1, costOf_ok fu (by omega), bn_e]
theorem distance34 (h : RP S w) (hf : 64 < fu) {p q : Nat} (hp : p < n_J S) (hq : q < n_J S) : ∃ w', f_X3_distance fu w (nI p) (nI q) = some (.inl (oI (n_c S p q), w')) ∧ RP S w' := by
  obtain ⟨hn, hc, hz, hb, c⟩ := h
  obtain ⟨w', e1, f1⟩ := costBetween_ok hc c hn hf hp hq
  refine ⟨w', ?_, hn, hc.frQ f1, hz.same (by rw [f1.2]) (by rw [f1.2]), by rw [f1.1 2 (by decide)]; exact hb, c.frQ f1⟩
  unfold f_X3_distance
  rw [reqH_y hb, bx_l, reqJ_y hc hn fu hp, bx_l, reqJ_y hc hn fu hq, bx_l, e1, bn2_e]
end CM
