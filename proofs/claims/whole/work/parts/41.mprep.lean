/-! the reference: the order is built -/
def FrP (u v : WS) : Prop := (∀ c, c ≠ 0 → c ≠ 6 → c ≠ 7 → c ≠ 8 → u.1 c = v.1 c) ∧ (∀ j, j ≠ 13 → j ≠ 14 → u.1 0 j = v.1 0 j) ∧ u.2 = v.2
theorem FrP.rf (v : WS) : FrP v v := ⟨fun _ _ _ _ _ => rfl, fun _ _ _ => rfl, rfl⟩
theorem FrP.trans {u v w : WS} (h : FrP u v) (h2 : FrP v w) : FrP u w := ⟨fun c h0 h6 h7 h8 => (h.1 c h0 h6 h7 h8).trans (h2.1 c h0 h6 h7 h8), fun j h0 h8 => (h.2.1 j h0 h8).trans (h2.2.1 j h0 h8), h.2.2.trans h2.2.2⟩
theorem FrT.toP {u v : WS} (h : FrT u v) : FrP u v := ⟨fun c h0 _ _ h8 => h.1 c h0 h8, h.2.1, h.2.2⟩
theorem RMn.frP {S : Nt} {u v : WS} (h : RMn S v) (f : FrP u v) : RMn S u := by
  refine ⟨(f.2.1 1 (by decide) (by decide)).trans h.1, (f.2.1 2 (by decide) (by decide)).trans h.2.1, fun r hr => ?_, fun a b ha hb => ?_, (f.2.1 8 (by decide) (by decide)).trans h.2.2.2.2⟩
  · rw [f.1 1 (by decide) (by decide) (by decide) (by decide), f.1 2 (by decide) (by decide) (by decide) (by decide), f.1 3 (by decide) (by decide) (by decide) (by decide), f.1 4 (by decide) (by decide) (by decide) (by decide)]
    exact h.2.2.1 r hr
  · rw [f.1 5 (by decide) (by decide) (by decide) (by decide)]
    exact h.2.2.2.1 a b ha hb
section MP
variable {S : Nt} {v : WS} {p : Nat}
theorem take_ok (h : RMn S v) (hs : RMs S p v) (hn : NtOK S) {fu : Nat} (hf : 64 < fu) (hp : p < n_R S) : ∃ r, f_X4_take fu v (nI (n_ord S p)) (nI p) = some r ∧ FrP r v ∧ RMs S (p + 1) r := by
  have hR := hn.2.1
  have hx : n_ord S p < n_R S := ctO_lt hp
  have f2 : FrP (wI (wI v 6 (n_ord S p) (nI p)) 7 p (nI (n_ord S p))) v := ⟨fun c h0 h6 h7 h8 => by rw [wI_n h7, wI_n h6], fun j _ _ => by rw [wI_n (by decide), wI_n (by decide)], rfl⟩
  have p6 : ∀ r, (wI (wI v 6 (n_ord S p) (nI p)) 7 p (nI (n_ord S p))).1 6 r = if r = n_ord S p then nI p else v.1 6 r := fun r => by
    rw [wI_at, if_neg (fun hh => absurd hh.1 (by decide)), wI_at]
    by_cases e : r = n_ord S p
    · rw [if_pos ⟨rfl, e⟩, if_pos e]
    · rw [if_neg (fun hh => e hh.2), if_neg e]
  have h6' : ∀ r, r < n_R S → (wI (wI v 6 (n_ord S p) (nI p)) 7 p (nI (n_ord S p))).1 6 r = if ctL (n_R S) (n_fol S) (p + 1) r = true then (-1) else nI (n_pos S r) := fun r hr => by
    rw [p6 r]
    by_cases e : r = n_ord S p
    · rw [if_pos e, e, if_neg (by rw [ctL_out (Nat.lt_succ_self p)]; decide), n_pos_ord hp]
    · rw [if_neg e, hs.1 r hr, ctL_s]
      have : (r == ctO (n_R S) (n_fol S) p) = false := by simp; exact e
      rw [this]
      simp
  have h6 : ∀ r, r < n_R S → ((wI (wI v 6 (n_ord S p) (nI p)) 7 p (nI (n_ord S p))).1 6 r = (-1) ↔ ctL (n_R S) (n_fol S) (p + 1) r = true) := fun r hr => by
    have := n_pos_lt hr
    rw [h6' r hr]
    by_cases e : ctL (n_R S) (n_fol S) (p + 1) r = true
    · rw [if_pos e]; exact ⟨fun _ => e, fun _ => rfl⟩
    · rw [if_neg e]; exact ⟨fun h2 => absurd h2 (m1_ne (by omega)), fun h2 => absurd h2 e⟩
  have hu := h.frP f2
  have t0 : TkI S (mixA S p 0 0) (wI (wI v 6 (n_ord S p) (nI p)) 7 p (nI (n_ord S p))) := by
    have e : ∀ a b, mixA S p 0 0 a b = ctA (n_R S) (n_fol S) p a b := fun a b => if_neg (by omega)
    refine ⟨fun a b ha hb => ?_, ?_⟩
    · rw [wI_n (by decide), wI_n (by decide), e a b]
      exact hs.2.2.1 a b ha hb
    · rw [cn2_congr (n_R S) (fun a b _ _ => e a b), wI_n (by decide), wI_n (by decide)]
      exact hs.2.2.2
  have hl : ∃ r, iter (fun q : Int32 × WS => bd_X4_take_16 fu (nI (n_ord S p)) q.1 q.2) fu ((0 : Int32), wI (wI v 6 (n_ord S p) (nI p)) 7 p (nI (n_ord S p))) = some r ∧ FrP r v ∧ RMs S (p + 1) r := by
    refine iter_for0 (fun k (s : WS) => (nI k, s)) (n_R S) (fun a s => FrT s (wI (wI v 6 (n_ord S p) (nI p)) 7 p (nI (n_ord S p))) ∧ TkI S (mixA S p a 0) s) (fun (r : WS) => FrP r v ∧ RMs S (p + 1) r) ?_ ?_ (by omega) _ ⟨FrT.rf _, t0⟩
    · intro a s ha ⟨i1, i2⟩
      have hss := hu.frT i1
      obtain ⟨r, e, j1, j2⟩ := takeRow hu hn h6 hp hf ha s i1 i2
      refine ⟨r, ?_, j1, j2⟩
      show bd_X4_take_16 fu (nI (n_ord S p)) (nI a) s = _
      unfold bd_X4_take_16
      rw [nm_e1, hss.2.1, if_neg (nI_ge ha (by omega)), e, bn_e, nm_e1, nI_1]
    · intro s ⟨i1, i2⟩
      have hss := hu.frT i1
      refine ⟨s, ?_, i1.toP.trans f2, fun r hr => by rw [i1.1 6 (by decide) (by decide)]; exact h6' r hr, fun j hj => ?_, fun a b ha hb => ?_, ?_⟩
      · show bd_X4_take_16 fu (nI (n_ord S p)) (nI (n_R S)) s = _
        unfold bd_X4_take_16
        rw [nm_e1, hss.2.1, if_pos (nI_le (Nat.le_refl _) (by omega))]
      · rw [i1.1 7 (by decide) (by decide), wI_at]
        by_cases e : j = p
        · rw [if_pos ⟨rfl, e⟩, e]
        · rw [if_neg (fun hh => e hh.2), wI_n (by decide)]
          exact hs.2.1 j (by omega)
      · rw [i2.1 a b ha hb]
        unfold mixA
        rw [if_pos (Or.inl ha)]
      · obtain ⟨k, k1, k2, k3⟩ := i2.2
        refine ⟨k, k1, k2, k3.trans (cn2_congr (n_R S) fun a b ha hb => ?_)⟩
        unfold mixA
        rw [if_pos (Or.inl ha)]
  obtain ⟨r, e, k⟩ := hl
  refine ⟨r, ?_, k⟩
  unfold f_X4_take
  rw [ck_t (in64 (by omega)), nm_e1, cl64 (by omega), ck_t (in64 (by omega)), nm_e1, cl64 (by omega), e, bn_e]
theorem takeAll (h : RMn S v) (hs : RMs S 0 v) (hn : NtOK S) {fu : Nat} (hf : 64 < fu) : ∃ r, iter (fun q : Int32 × WS => bd_X4_prepare_121 fu q.1 q.2) fu ((0 : Int32), v) = some r ∧ FrP r v ∧ RMs S (n_R S) r := by
  have hR := hn.2.1
  refine iter_for0 (fun k (s : WS) => (nI k, s)) (n_R S) (fun p s => FrP s v ∧ RMs S p s) (fun (r : WS) => FrP r v ∧ RMs S (n_R S) r) ?_ ?_ (by omega) v ⟨FrP.rf v, hs⟩
  · intro p s hp ⟨i1, i2⟩
    have hss := h.frP i1
    obtain ⟨r, e, j1, j2⟩ := take_ok hss i2 hn hf hp
    refine ⟨r, ?_, j1.trans i1, j2⟩
    show bd_X4_prepare_121 fu (nI p) s = _
    unfold bd_X4_prepare_121
    rw [nm_e1, hss.2.1, if_neg (nI_ge hp (by omega)), next_ord hss i2 hn hf hp, bn_e, e, bn_e, nm_e1, nI_1]
  · intro s ⟨i1, i2⟩
    have hss := h.frP i1
    refine ⟨s, ?_, i1, i2⟩
    show bd_X4_prepare_121 fu (nI (n_R S)) s = _
    unfold bd_X4_prepare_121
    rw [nm_e1, hss.2.1, if_pos (nI_le (Nat.le_refl _) (by omega))]
/-- the turns, as arcs -/
theorem initRow (h : RMn S v) (hn : NtOK S) {fu : Nat} (hf : 64 < fu) {a : Nat} (ha : a < n_R S) (n0 : Nat) (hc : v.1 0 14 = nI n0) :
    ∃ r, iter (fun q : Int32 × WS => bd_X4_prepare_59 fu (nI a) q.1 q.2) fu ((0 : Int32), v) = some r ∧ (∀ c, c ≠ 0 → c ≠ 8 → r.1 c = v.1 c) ∧ (∀ j, j ≠ 14 → r.1 0 j = v.1 0 j) ∧ r.2 = v.2 ∧ r.1 0 14 = nI (n0 + cn (n_fol S a) (n_R S)) ∧ ∀ a' b', b' < n_R S → r.1 8 (64 * a' + b') = if a' = a then (if n_fol S a b' = true then 1 else 0) else v.1 8 (64 * a' + b') := by
  have hR := hn.2.1
  refine iter_for0 (fun k (s : WS) => (nI k, s)) (n_R S) (fun b s => (∀ c, c ≠ 0 → c ≠ 8 → s.1 c = v.1 c) ∧ (∀ j, j ≠ 14 → s.1 0 j = v.1 0 j) ∧ s.2 = v.2 ∧ s.1 0 14 = nI (n0 + cn (n_fol S a) b) ∧ ∀ a' b', b' < n_R S → s.1 8 (64 * a' + b') = if a' = a ∧ b' < b then (if n_fol S a b' = true then 1 else 0) else v.1 8 (64 * a' + b')) (fun (r : WS) => (∀ c, c ≠ 0 → c ≠ 8 → r.1 c = v.1 c) ∧ (∀ j, j ≠ 14 → r.1 0 j = v.1 0 j) ∧ r.2 = v.2 ∧ r.1 0 14 = nI (n0 + cn (n_fol S a) (n_R S)) ∧ ∀ a' b', b' < n_R S → r.1 8 (64 * a' + b') = if a' = a then (if n_fol S a b' = true then 1 else 0) else v.1 8 (64 * a' + b')) ?_ ?_ (by omega) v ⟨fun c _ _ => rfl, fun j _ => rfl, rfl, hc, fun a' b' _ => by rw [if_neg (by omega)]⟩
  · intro b s hb ⟨i1, i2, i3, i4, i5⟩
    have hs : RMn S s := h.frT ⟨i1, fun j _ h14 => i2 j h14, i3⟩
    have hs8 : RMn S (wI s 8 (64 * a + b) (if n_fol S a b = true then 1 else 0)) := hs.frT ⟨fun c _ h8 => wI_n h8, fun j _ _ => by rw [wI_n (by decide)], rfl⟩
    have evn : vp_nar .boolean (if n_fol S a b = true then 1 else 0) = if n_fol S a b = true then 1 else 0 := by
      split
      · exact vnb1
      · exact vnb0
    refine ⟨wI (wI s 8 (64 * a + b) (if n_fol S a b = true then 1 else 0)) 0 14 (nI (n0 + cn (n_fol S a) (b + 1))), ?_, fun c h0 h8 => ?_, fun j h14 => ?_, i3, ?_, fun a' b' hb' => ?_⟩
    · show bd_X4_prepare_59 fu (nI a) (nI b) s = _
      unfold bd_X4_prepare_59
      rw [nm_e1, hs.2.1, if_neg (nI_ge hb (by omega)), follows_ok hs hn fu ha hb, bn_e, ck_t (px_in (by omega) (by omega)), nm_e1, px_cl (by omega) (by omega), evn, nm_e1, follows_ok hs8 hn fu ha hb, bn_e, if_zo]
      simp only [nm_e1]
      rw [wI_n (show (0 : Nat) ≠ 8 by decide), i4, nI_1, nI_1, Int32.add_zero]
      show _ = some (Sum.inl (nI (b + 1), wI _ 0 14 (nI (n0 + (cn (n_fol S a) b + if n_fol S a b = true then 1 else 0)))))
      by_cases e : n_fol S a b = true
      · rw [if_pos e, if_pos e, if_pos e]
        rfl
      · rw [if_neg e, if_neg e, if_neg e]
        rfl
    · rw [wI_n h0, wI_n h8]; exact i1 c h0 h8
    · rw [wI_at, if_neg (fun hh => h14 hh.2), wI_n (by decide)]; exact i2 j h14
    · rw [wI_at, if_pos ⟨rfl, rfl⟩]
    · rw [wI_n (by decide), wI_at]
      by_cases e : 64 * a' + b' = 64 * a + b
      · have e2 := ix_inj (by omega) (by omega) e
        rw [if_pos ⟨rfl, e⟩, if_pos (show a' = a ∧ b' < b + 1 by omega), e2.2]
      · rw [if_neg (fun hh => e hh.2), i5 a' b' hb']
        by_cases e3 : a' = a ∧ b' < b
        · rw [if_pos e3, if_pos (show a' = a ∧ b' < b + 1 by omega)]
        · rw [if_neg e3, if_neg (fun hh => e3 ⟨hh.1, by
            have : b' ≠ b := fun hb2 => e (by rw [hh.1, hb2])
            omega⟩)]
  · intro s ⟨i1, i2, i3, i4, i5⟩
    have hs : RMn S s := h.frT ⟨i1, fun j _ h14 => i2 j h14, i3⟩
    refine ⟨s, ?_, i1, i2, i3, i4, fun a' b' hb' => ?_⟩
    · show bd_X4_prepare_59 fu (nI a) (nI (n_R S)) s = _
      unfold bd_X4_prepare_59
      rw [nm_e1, hs.2.1, if_pos (nI_le (Nat.le_refl _) (by omega))]
    · rw [i5 a' b' hb']
      by_cases e : a' = a
      · rw [if_pos e, if_pos ⟨e, hb'⟩]
      · rw [if_neg e, if_neg (fun hh => e hh.1)]
end MP
