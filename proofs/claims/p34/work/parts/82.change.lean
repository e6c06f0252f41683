/-! the law: its arrays, a change, the tables of costs -/
/-- the law's arrays say the network -/
def LR (S : Nt) (f : WS) : Prop := n_J S = 5 ∧ n_R S = 9 ∧ LA S f ∧ (∀ a b, a < 9 → b < 9 → f.1 3 (9 * a + b) = n_s S a b) ∧ (∀ r, r < 9 → f.1 4 r = if n_o S r = true then 1 else 0) ∧ f.1 5 0 = n_u S
theorem LR.same {S : Nt} {f f' : WS} (h : LR S f) (e0 : f'.1 0 = f.1 0) (e1 : f'.1 1 = f.1 1) (e2 : f'.1 2 = f.1 2) (e3 : f'.1 3 = f.1 3) (e4 : f'.1 4 = f.1 4) (e5 : f'.1 5 = f.1 5) : LR S f' := by
  unfold LR LA
  rw [e0, e1, e2, e3, e4, e5]
  exact h
theorem in81 {k : Nat} (h : k < 81) : vp_in (nI k) 81 := vp_in_nI h (by decide)
theorem cl81 {k : Nat} (h : k < 81) : Int32.toNatClampNeg (nI k) = k := nI_clamp (by omega)
theorem p9 (a b : Nat) : (9 : Int32) * nI a + nI b = nI (9 * a + b) := by
  show nI 9 * nI a + nI b = _
  rw [pk_mul, nI_add]
theorem ix9 {a b a' b' : Nat} (hb : b < 9) (hb' : b' < 9) (h : 9 * a + b = 9 * a' + b') : a = a' ∧ b = b' := by omega
theorem vb0 : vp_nar .boolean 0 = 0 := rfl
theorem vb1 : vp_nar .boolean 1 = 1 := rfl
section LC
variable {S : Nt} {w f : WS} {fu L : Nat} {xs : Nat → Int32}
theorem set_ok (w f : WS) (hf : 81 < fu) : ∃ f', iter (fun q : Int32 × WS => bd_L_law_88 fu L xs w q.1 q.2) fu ((0 : Int32), f) = some f' ∧ (∀ c, c ≠ 3 → f'.1 c = f.1 c) ∧ ∀ i, i < 81 → f'.1 3 i = -2 := by
  refine iter_for0 (fun k (s : WS) => (nI k, s)) 81 (fun k s => (∀ c, c ≠ 3 → s.1 c = f.1 c) ∧ ∀ i, i < k → s.1 3 i = -2) (fun (f' : WS) => (∀ c, c ≠ 3 → f'.1 c = f.1 c) ∧ ∀ i, i < 81 → f'.1 3 i = -2) ?_ ?_ hf _ ⟨fun c _ => rfl, fun i h => absurd h (Nat.not_lt_zero i)⟩
  · intro k s hk ⟨i1, i2⟩
    refine ⟨wI s 3 k (-2), ?_, fun c hc => by rw [wI_n hc]; exact i1 c hc, fun i hi => ?_⟩
    · show bd_L_law_88 fu L xs w (nI k) s = _
      unfold bd_L_law_88
      rw [if_neg (show ¬ (81 : Int32) ≤ nI k from nI_ge (b := 81) hk (by decide)), ck_t (in81 hk), nm_e1, cl81 hk, nm_e1, nI_1]
    · rw [wI_at]
      by_cases e : i = k
      · rw [if_pos ⟨rfl, e⟩]
      · rw [if_neg (fun h => e h.2)]
        exact i2 i (by omega)
  · intro s hs
    refine ⟨s, ?_, hs⟩
    show bd_L_law_88 fu L xs w (nI 81) s = _
    unfold bd_L_law_88
    rw [if_pos (show (81 : Int32) ≤ nI 81 from nI_le (a := 81) (Nat.le_refl _) (by decide))]
theorem opn_ok (w f : WS) (hf : 81 < fu) : ∃ f', iter (fun q : Int32 × WS => bd_L_law_111 fu L xs w q.1 q.2) fu ((0 : Int32), f) = some f' ∧ (∀ c, c ≠ 4 → f'.1 c = f.1 c) ∧ ∀ i, i < 9 → f'.1 4 i = 1 := by
  refine iter_for0 (fun k (s : WS) => (nI k, s)) 9 (fun k s => (∀ c, c ≠ 4 → s.1 c = f.1 c) ∧ ∀ i, i < k → s.1 4 i = 1) (fun (f' : WS) => (∀ c, c ≠ 4 → f'.1 c = f.1 c) ∧ ∀ i, i < 9 → f'.1 4 i = 1) ?_ ?_ (by omega) _ ⟨fun c _ => rfl, fun i h => absurd h (Nat.not_lt_zero i)⟩
  · intro k s hk ⟨i1, i2⟩
    refine ⟨wI s 4 k 1, ?_, fun c hc => by rw [wI_n hc]; exact i1 c hc, fun i hi => ?_⟩
    · show bd_L_law_111 fu L xs w (nI k) s = _
      unfold bd_L_law_111
      rw [if_neg (show ¬ (9 : Int32) ≤ nI k from nI_ge (b := 9) hk (by decide)), ck_t (in9 hk), nm_e1, cl9 hk, nm_e1, nI_1, vb1]
    · rw [wI_at]
      by_cases e : i = k
      · rw [if_pos ⟨rfl, e⟩]
      · rw [if_neg (fun h => e h.2)]
        exact i2 i (by omega)
  · intro s hs
    refine ⟨s, ?_, hs⟩
    show bd_L_law_111 fu L xs w (nI 9) s = _
    unfold bd_L_law_111
    rw [if_pos (show (9 : Int32) ≤ nI 9 from nI_le (a := 9) (Nat.le_refl _) (by decide))]
/-- what a change leaves -/
def Chg (S : Nt) (f : WS) (o : Option (Int32 × WS × WS)) : Prop := ∃ (S' : Nt) (w' f' : WS), o = some (nI (cn2 (chL S' (n_L S)) 9 9), w', f') ∧ RP S' w' ∧ LR S' f' ∧ n_fol S' = n_fol S ∧ f'.1 6 = f.1 6
theorem chg_u (h : RP S w) (hl : LR S f) (hf : 81 < fu) {x : Int32} (l1 : ¬ x < (-1)) (l2 : x ≤ 1000) : Chg S f (ck (vp_in 0 1) <| nm (wI f 5 (Int32.toNatClampNeg 0) x) fun f4 => bxn2 (f_X3_setUTurn fu w x) fun x5 w6 => some (x5, w6, f4)) := by
  obtain ⟨w', e, h'⟩ := setU34 (fu := fu) h (by omega) l1 l2
  refine ⟨n_su S x, w', wI f 5 0 x, ?_, h', ⟨hl.1, hl.2.1, hl.2.2.1, hl.2.2.2.1, hl.2.2.2.2.1, ?_⟩, rfl, by rw [wI_n (by decide)]⟩
  · rw [ck_t (show vp_in 0 1 by rw [← nI_0]; exact vp_in_nI (by decide) (by decide)), nm_e1, e, bxn2_e, hl.2.1]
    rfl
  · rw [wI_at, if_pos ⟨rfl, rfl⟩]
    rfl
theorem chg_o (h : RP S w) (hl : LR S f) (hf : 81 < fu) {r : Nat} (hr : r < 9) (b : Bool) {x : Int32} (hx : x = if b = true then 1 else 0) : Chg S f (ck (vp_in (nI r) 9) <| nm (wI f 4 (Int32.toNatClampNeg (nI r)) (vp_nar .boolean x)) fun f15 => bxn2 (f_X3_setOpen fu w (nI r) x) fun x16 w17 => some (x16, w17, f15)) := by
  obtain ⟨w', e, h'⟩ := setOpen34 (fu := fu) h (by omega) (by rw [hl.2.1]; exact hr) b hx
  have hv : vp_nar .boolean x = x := by
    rw [hx]
    cases b <;> rfl
  refine ⟨n_so S r b, w', wI f 4 r x, ?_, h', ⟨hl.1, hl.2.1, ?_, ?_, ?_, ?_⟩, rfl, by rw [wI_n (by decide)]⟩
  · rw [ck_t (in9 hr), nm_e1, e, bxn2_e, hl.2.1, hv, cl9 hr]
  · intro i hi
    rw [wI_n (by decide), wI_n (by decide), wI_n (by decide)]
    exact hl.2.2.1 i hi
  · intro a c ha hc
    rw [wI_n (by decide)]
    exact hl.2.2.2.1 a c ha hc
  · intro i hi
    show _ = if (if i = r then b else n_o S i) = true then (1 : Int32) else 0
    rw [wI_at]
    by_cases e : i = r
    · rw [if_pos ⟨rfl, e⟩, if_pos e, hx]
    · rw [if_neg (fun hh => e hh.2), if_neg e]
      exact hl.2.2.2.2.1 i hi
  · rw [wI_n (by decide)]
    exact hl.2.2.2.2.2
theorem chg_w (h : RP S w) (hl : LR S f) (hf : 81 < fu) {r x : Nat} (hr : r < 9) (h1 : 1 ≤ x) (h2 : x ≤ 10000) : Chg S f (ck (vp_in (nI r) 9) <| nm (wI f 2 (Int32.toNatClampNeg (nI r)) (nI x)) fun f25 => bxn2 (f_X3_setWeight fu w (nI r) (nI x)) fun x26 w27 => some (x26, w27, f25)) := by
  obtain ⟨w', e, h'⟩ := setWeight34 (fu := fu) h (by omega) (by rw [hl.2.1]; exact hr) h1 h2
  refine ⟨n_sw S r x, w', wI f 2 r (nI x), ?_, h', ⟨hl.1, hl.2.1, ?_, ?_, ?_, ?_⟩, rfl, by rw [wI_n (by decide)]⟩
  · rw [ck_t (in9 hr), nm_e1, e, bxn2_e, hl.2.1, cl9 hr]
  · intro i hi
    have k := hl.2.2.1 i hi
    show _ ∧ _ ∧ _ = nI (updN (n_w S) r x i)
    rw [wI_n (show (0 : Nat) ≠ 2 by decide), wI_n (show (1 : Nat) ≠ 2 by decide), wI_at]
    refine ⟨k.1, k.2.1, ?_⟩
    by_cases e : i = r
    · rw [if_pos ⟨rfl, e⟩, e, updN_s]
    · rw [if_neg (fun hh => e hh.2), updN_n e]
      exact k.2.2
  · intro a c ha hc
    rw [wI_n (by decide)]
    exact hl.2.2.2.1 a c ha hc
  · intro i hi
    rw [wI_n (by decide)]
    exact hl.2.2.2.2.1 i hi
  · rw [wI_n (by decide)]
    exact hl.2.2.2.2.2
theorem chg_t (h : RP S w) (hl : LR S f) (hf : 81 < fu) {a b : Nat} (ha : a < 9) (hb : b < 9) (hfol : n_fol S a b = true) {x : Int32} (l1 : ¬ x < (-2)) (l2 : x ≤ 1000) : Chg S f (ck (vp_in (((9 : Int32) * nI a) + nI b) 81) <| nm (wI f 3 (Int32.toNatClampNeg (((9 : Int32) * nI a) + nI b)) x) fun f12 => bxn2 (f_X3_setTurn fu w (nI a) (nI b) x) fun x13 w14 => some (x13, w14, f12)) := by
  obtain ⟨w', e, h'⟩ := setTurn34 (fu := fu) h (by omega) (by rw [hl.2.1]; exact ha) (by rw [hl.2.1]; exact hb) hfol l1 l2
  refine ⟨n_ss S a b x, w', wI f 3 (9 * a + b) x, ?_, h', ⟨hl.1, hl.2.1, ?_, ?_, ?_, ?_⟩, rfl, by rw [wI_n (by decide)]⟩
  · rw [p9, ck_t (in81 (by omega)), nm_e1, e, bxn2_e, hl.2.1, cl81 (by omega)]
  · intro i hi
    rw [wI_n (by decide), wI_n (by decide), wI_n (by decide)]
    exact hl.2.2.1 i hi
  · intro p q hp hq
    show _ = if p = a ∧ q = b then x else n_s S p q
    rw [wI_at]
    by_cases e : p = a ∧ q = b
    · rw [if_pos ⟨rfl, by rw [e.1, e.2]⟩, if_pos e]
    · rw [if_neg (fun hh => e (ix9 hq hb hh.2)), if_neg e]
      exact hl.2.2.2.1 p q hp hq
  · intro i hi
    rw [wI_n (by decide)]
    exact hl.2.2.2.2.1 i hi
  · rw [wI_n (by decide)]
    exact hl.2.2.2.2.2
theorem v_lo : ∀ d, d < 8 → (¬ nI d - 1 < (-1) ∧ nI d - 1 ≤ 1000) ∧ (¬ nI d - 2 < (-2) ∧ nI d - 2 ≤ 1000) := by decide +kernel
theorem change_ok (h : RP S w) (hl : LR S f) (hf : 81 < fu) (x : Int32) : Chg S f (f_L_change fu w f x) := by
  obtain ⟨a, ha, ea⟩ : ∃ a, a < 9 ∧ f_L_below fu (x >>> ((3 : Int32) &&& 31)) (9 : Int32) = some (nI a) := below_ok fu _ (by decide) (by decide)
  obtain ⟨b, hb, eb⟩ : ∃ b, b < 9 ∧ f_L_below fu (x >>> ((10 : Int32) &&& 31)) (9 : Int32) = some (nI b) := below_ok fu _ (by decide) (by decide)
  obtain ⟨d, hd, ed⟩ : ∃ d, d < 8 ∧ f_L_below fu (x >>> ((16 : Int32) &&& 31)) (8 : Int32) = some (nI d) := below_ok fu _ (by decide) (by decide)
  have hv := v_lo d hd
  unfold f_L_change
  rw [ea, bn_e, eb, bn_e, ed, bn_e]
  by_cases c3 : (3 : Int32) ≤ x &&& 7
  · rw [if_pos c3]
    by_cases c5 : (5 : Int32) ≤ x &&& 7
    · rw [if_pos c5]
      by_cases c7 : (7 : Int32) ≤ x &&& 7
      · rw [if_pos c7]
        exact chg_u h hl hf hv.1.1 hv.1.2
      · rw [if_neg c7, ck_t (in9 ha), nm_e1, ck_t (in9 hb), nm_e1, cl9 ha, cl9 hb]
        have ka := hl.2.2.1 a (by rw [hl.2.1]; exact ha)
        have kb := hl.2.2.1 b (by rw [hl.2.1]; exact hb)
        rw [ka.2.1, kb.1]
        have j1 := h.1.2.2.1 a (by rw [hl.2.1]; exact ha)
        have j2 := h.1.2.2.1 b (by rw [hl.2.1]; exact hb)
        have j3 := h.1.1
        by_cases e : nI (n_t S a) = nI (n_f S b)
        · rw [if_pos e]
          exact chg_t h hl hf ha hb (by
            have := (nI_eq (by omega) (by omega)).mp e
            unfold n_fol
            rw [this]
            exact beq_self_eq_true _) hv.2.1 hv.2.2
        · rw [if_neg e]
          exact chg_u h hl hf hv.1.1 hv.1.2
    · rw [if_neg c5]
      by_cases c : nI d ≤ 2
      · simp only [if_pos c]
        exact chg_o h hl hf ha false rfl
      · simp only [if_neg c]
        exact chg_o h hl hf ha true rfl
  · rw [if_neg c3, show (1 : Int32) + nI d = nI (1 + d) from nI_add 1 d]
    exact chg_w h hl hf ha (by omega) (by omega)
/-- a cell of a table of costs -/
def cA (S : Nt) (a b : Nat) : Int32 := if n_arc S a b = true then cI (n_L S a b) else -2
theorem read6_row (h : RP S w) (hR : n_R S = 9) (f : WS) (hf : 81 < fu) {a : Nat} (ha : a < 9) : ∃ (r : WS × WS), iter (fun q : Int32 × WS × WS => bd_L_read6_10 fu (nI a) q.1 q.2.1 q.2.2) fu ((0 : Int32), w, f) = some r ∧ r.1 = w ∧ (∀ c, c ≠ 6 → r.2.1 c = f.1 c) ∧ ∀ p q, q < 9 → r.2.1 6 (9 * p + q) = if p = a then cA S a q else f.1 6 (9 * p + q) := by
  refine iter_for0 (fun k (s : WS × WS) => (nI k, s)) 9 (fun k s => s.1 = w ∧ (∀ c, c ≠ 6 → s.2.1 c = f.1 c) ∧ ∀ p q, q < 9 → s.2.1 6 (9 * p + q) = if p = a ∧ q < k then cA S a q else f.1 6 (9 * p + q)) (fun (r : WS × WS) => r.1 = w ∧ (∀ c, c ≠ 6 → r.2.1 c = f.1 c) ∧ ∀ p q, q < 9 → r.2.1 6 (9 * p + q) = if p = a then cA S a q else f.1 6 (9 * p + q)) ?_ ?_ (by omega) _ ⟨rfl, fun c _ => rfl, fun p q hq => (if_neg (fun hh => Nat.not_lt_zero _ hh.2)).symm⟩
  · intro k s hk ⟨i1, i2, i3⟩
    obtain ⟨u, g⟩ := s
    dsimp only at i1 i2 i3
    subst i1
    refine ⟨(u, wI g 6 (9 * a + k) (cA S a k)), ?_, rfl, fun c hc => ?_, fun p q hq => ?_⟩
    · show bd_L_read6_10 fu (nI a) (nI k) u g = _
      unfold bd_L_read6_10
      rw [if_neg (show ¬ (9 : Int32) ≤ nI k from nI_ge (b := 9) hk (by decide)), hasArc34 h (by omega) (by omega), bxn2_e, if_zo]
      unfold cA
      by_cases hc : n_arc S a k = true
      · rw [if_pos hc, if_pos hc, arcCost34 h (by omega) (by omega) hc, bxn2_e, p9, ck_t (in81 (by omega)), nm_e1, cl81 (by omega), nm_e1, nI_1]
      · rw [if_neg hc, if_neg hc, p9, ck_t (in81 (by omega)), nm_e1, cl81 (by omega), nm_e1, nI_1]
    · show (wI g 6 (9 * a + k) (cA S a k)).1 c = _
      rw [wI_n hc]
      exact i2 c hc
    · show (wI g 6 (9 * a + k) (cA S a k)).1 6 (9 * p + q) = _
      rw [wI_at]
      by_cases e : p = a ∧ q = k
      · rw [if_pos ⟨rfl, by rw [e.1, e.2]⟩, if_pos ⟨e.1, by omega⟩, e.2]
      · rw [if_neg (fun hh => e (ix9 hq hk hh.2)), i3 p q hq]
        by_cases e2 : p = a ∧ q < k
        · rw [if_pos e2, if_pos ⟨e2.1, by omega⟩]
        · rw [if_neg e2, if_neg (fun hh => by
            have h1 : q ≠ k := fun e3 => e ⟨hh.1, e3⟩
            have h2 := hh.2
            exact e2 ⟨hh.1, by omega⟩)]
  · intro s ⟨i1, i2, i3⟩
    refine ⟨s, ?_, i1, i2, fun p q hq => ?_⟩
    · show bd_L_read6_10 fu (nI a) (nI 9) s.1 s.2 = _
      unfold bd_L_read6_10
      rw [if_pos (show (9 : Int32) ≤ nI 9 from nI_le (a := 9) (Nat.le_refl _) (by decide))]
    · rw [i3 p q hq]
      by_cases e : p = a
      · rw [if_pos ⟨e, hq⟩, if_pos e]
      · rw [if_neg (fun hh => e hh.1), if_neg e]
theorem read6_ok (h : RP S w) (hR : n_R S = 9) (f : WS) (hf : 81 < fu) : ∃ f', f_L_read6 fu w f = some (w, f') ∧ (∀ c, c ≠ 6 → f'.1 c = f.1 c) ∧ ∀ p q, p < 9 → q < 9 → f'.1 6 (9 * p + q) = cA S p q := by
  have l : ∃ (r : WS × WS), iter (fun q : Int32 × WS × WS => bd_L_read6_2 fu q.1 q.2.1 q.2.2) fu ((0 : Int32), w, f) = some r ∧ r.1 = w ∧ (∀ c, c ≠ 6 → r.2.1 c = f.1 c) ∧ ∀ p q, p < 9 → q < 9 → r.2.1 6 (9 * p + q) = cA S p q := by
    refine iter_for0 (fun k (s : WS × WS) => (nI k, s)) 9 (fun k s => s.1 = w ∧ (∀ c, c ≠ 6 → s.2.1 c = f.1 c) ∧ ∀ p q, p < k → q < 9 → s.2.1 6 (9 * p + q) = cA S p q) (fun (r : WS × WS) => r.1 = w ∧ (∀ c, c ≠ 6 → r.2.1 c = f.1 c) ∧ ∀ p q, p < 9 → q < 9 → r.2.1 6 (9 * p + q) = cA S p q) ?_ ?_ (by omega) _ ⟨rfl, fun c _ => rfl, fun p q hp => absurd hp (Nat.not_lt_zero p)⟩
    · intro k s hk ⟨i1, i2, i3⟩
      obtain ⟨u, g⟩ := s
      dsimp only at i1 i2 i3
      subst i1
      obtain ⟨r, e, r1, r2, r3⟩ := read6_row (fu := fu) h hR g hf hk
      obtain ⟨u', g'⟩ := r
      dsimp only at r1 r2 r3
      subst r1
      refine ⟨(u', g'), ?_, rfl, fun c hc => (r2 c hc).trans (i2 c hc), fun p q hp hq => ?_⟩
      · show bd_L_read6_2 fu (nI k) u' g = _
        unfold bd_L_read6_2
        rw [if_neg (show ¬ (9 : Int32) ≤ nI k from nI_ge (b := 9) hk (by decide)), e, bn2_e, nm_e1, nI_1]
      · show g'.1 6 (9 * p + q) = _
        rw [r3 p q hq]
        by_cases e2 : p = k
        · rw [if_pos e2, e2]
        · rw [if_neg e2]
          exact i3 p q (by omega) hq
    · intro s hs
      refine ⟨s, ?_, hs⟩
      show bd_L_read6_2 fu (nI 9) s.1 s.2 = _
      unfold bd_L_read6_2
      rw [if_pos (show (9 : Int32) ≤ nI 9 from nI_le (a := 9) (Nat.le_refl _) (by decide))]
  obtain ⟨r, e, r1, r2, r3⟩ := l
  obtain ⟨u', g'⟩ := r
  dsimp only at r1 r2 r3
  subst r1
  refine ⟨g', ?_, r2, r3⟩
  unfold f_L_read6
  rw [e, bn2_e]
theorem read7_row (h : RP S w) (hR : n_R S = 9) (f : WS) (hf : 81 < fu) {a : Nat} (ha : a < 9) : ∃ (r : WS × WS), iter (fun q : Int32 × WS × WS => bd_L_read7_10 fu (nI a) q.1 q.2.1 q.2.2) fu ((0 : Int32), w, f) = some r ∧ r.1 = w ∧ (∀ c, c ≠ 7 → r.2.1 c = f.1 c) ∧ ∀ p q, q < 9 → r.2.1 7 (9 * p + q) = if p = a then cA S a q else f.1 7 (9 * p + q) := by
  refine iter_for0 (fun k (s : WS × WS) => (nI k, s)) 9 (fun k s => s.1 = w ∧ (∀ c, c ≠ 7 → s.2.1 c = f.1 c) ∧ ∀ p q, q < 9 → s.2.1 7 (9 * p + q) = if p = a ∧ q < k then cA S a q else f.1 7 (9 * p + q)) (fun (r : WS × WS) => r.1 = w ∧ (∀ c, c ≠ 7 → r.2.1 c = f.1 c) ∧ ∀ p q, q < 9 → r.2.1 7 (9 * p + q) = if p = a then cA S a q else f.1 7 (9 * p + q)) ?_ ?_ (by omega) _ ⟨rfl, fun c _ => rfl, fun p q hq => (if_neg (fun hh => Nat.not_lt_zero _ hh.2)).symm⟩
  · intro k s hk ⟨i1, i2, i3⟩
    obtain ⟨u, g⟩ := s
    dsimp only at i1 i2 i3
    subst i1
    refine ⟨(u, wI g 7 (9 * a + k) (cA S a k)), ?_, rfl, fun c hc => ?_, fun p q hq => ?_⟩
    · show bd_L_read7_10 fu (nI a) (nI k) u g = _
      unfold bd_L_read7_10
      rw [if_neg (show ¬ (9 : Int32) ≤ nI k from nI_ge (b := 9) hk (by decide)), hasArc34 h (by omega) (by omega), bxn2_e, if_zo]
      unfold cA
      by_cases hc : n_arc S a k = true
      · rw [if_pos hc, if_pos hc, arcCost34 h (by omega) (by omega) hc, bxn2_e, p9, ck_t (in81 (by omega)), nm_e1, cl81 (by omega), nm_e1, nI_1]
      · rw [if_neg hc, if_neg hc, p9, ck_t (in81 (by omega)), nm_e1, cl81 (by omega), nm_e1, nI_1]
    · show (wI g 7 (9 * a + k) (cA S a k)).1 c = _
      rw [wI_n hc]
      exact i2 c hc
    · show (wI g 7 (9 * a + k) (cA S a k)).1 7 (9 * p + q) = _
      rw [wI_at]
      by_cases e : p = a ∧ q = k
      · rw [if_pos ⟨rfl, by rw [e.1, e.2]⟩, if_pos ⟨e.1, by omega⟩, e.2]
      · rw [if_neg (fun hh => e (ix9 hq hk hh.2)), i3 p q hq]
        by_cases e2 : p = a ∧ q < k
        · rw [if_pos e2, if_pos ⟨e2.1, by omega⟩]
        · rw [if_neg e2, if_neg (fun hh => by
            have h1 : q ≠ k := fun e3 => e ⟨hh.1, e3⟩
            have h2 := hh.2
            exact e2 ⟨hh.1, by omega⟩)]
  · intro s ⟨i1, i2, i3⟩
    refine ⟨s, ?_, i1, i2, fun p q hq => ?_⟩
    · show bd_L_read7_10 fu (nI a) (nI 9) s.1 s.2 = _
      unfold bd_L_read7_10
      rw [if_pos (show (9 : Int32) ≤ nI 9 from nI_le (a := 9) (Nat.le_refl _) (by decide))]
    · rw [i3 p q hq]
      by_cases e : p = a
      · rw [if_pos ⟨e, hq⟩, if_pos e]
      · rw [if_neg (fun hh => e hh.1), if_neg e]
theorem read7_ok (h : RP S w) (hR : n_R S = 9) (f : WS) (hf : 81 < fu) : ∃ f', f_L_read7 fu w f = some (w, f') ∧ (∀ c, c ≠ 7 → f'.1 c = f.1 c) ∧ ∀ p q, p < 9 → q < 9 → f'.1 7 (9 * p + q) = cA S p q := by
  have l : ∃ (r : WS × WS), iter (fun q : Int32 × WS × WS => bd_L_read7_2 fu q.1 q.2.1 q.2.2) fu ((0 : Int32), w, f) = some r ∧ r.1 = w ∧ (∀ c, c ≠ 7 → r.2.1 c = f.1 c) ∧ ∀ p q, p < 9 → q < 9 → r.2.1 7 (9 * p + q) = cA S p q := by
    refine iter_for0 (fun k (s : WS × WS) => (nI k, s)) 9 (fun k s => s.1 = w ∧ (∀ c, c ≠ 7 → s.2.1 c = f.1 c) ∧ ∀ p q, p < k → q < 9 → s.2.1 7 (9 * p + q) = cA S p q) (fun (r : WS × WS) => r.1 = w ∧ (∀ c, c ≠ 7 → r.2.1 c = f.1 c) ∧ ∀ p q, p < 9 → q < 9 → r.2.1 7 (9 * p + q) = cA S p q) ?_ ?_ (by omega) _ ⟨rfl, fun c _ => rfl, fun p q hp => absurd hp (Nat.not_lt_zero p)⟩
    · intro k s hk ⟨i1, i2, i3⟩
      obtain ⟨u, g⟩ := s
      dsimp only at i1 i2 i3
      subst i1
      obtain ⟨r, e, r1, r2, r3⟩ := read7_row (fu := fu) h hR g hf hk
      obtain ⟨u', g'⟩ := r
      dsimp only at r1 r2 r3
      subst r1
      refine ⟨(u', g'), ?_, rfl, fun c hc => (r2 c hc).trans (i2 c hc), fun p q hp hq => ?_⟩
      · show bd_L_read7_2 fu (nI k) u' g = _
        unfold bd_L_read7_2
        rw [if_neg (show ¬ (9 : Int32) ≤ nI k from nI_ge (b := 9) hk (by decide)), e, bn2_e, nm_e1, nI_1]
      · show g'.1 7 (9 * p + q) = _
        rw [r3 p q hq]
        by_cases e2 : p = k
        · rw [if_pos e2, e2]
        · rw [if_neg e2]
          exact i3 p q (by omega) hq
    · intro s hs
      refine ⟨s, ?_, hs⟩
      show bd_L_read7_2 fu (nI 9) s.1 s.2 = _
      unfold bd_L_read7_2
      rw [if_pos (show (9 : Int32) ≤ nI 9 from nI_le (a := 9) (Nat.le_refl _) (by decide))]
  obtain ⟨r, e, r1, r2, r3⟩ := l
  obtain ⟨u', g'⟩ := r
  dsimp only at r1 r2 r3
  subst r1
  refine ⟨g', ?_, r2, r3⟩
  unfold f_L_read7
  rw [e, bn2_e]
end LC
