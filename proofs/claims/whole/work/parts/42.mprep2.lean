/-! the reference: prepare -/
/-- all that holds of a prepared reference -/
def RMp (S : Nt) (v : WS) : Prop := RMo S v ∧ RMa S v ∧ RMc S v ∧ ∃ k, v.1 0 14 = nI (k + cn2 (n_fol S) (n_R S) (n_R S)) ∧ v.1 0 13 = nI k ∧ k + cn2 (n_fol S) (n_R S) (n_R S) = cn2 (n_arc S) (n_R S) (n_R S)
section MQ
variable {S : Nt} {v : WS}
theorem initAll (h : RMn S v) (hn : NtOK S) {fu : Nat} (hf : 64 < fu) (h14 : v.1 0 14 = 0) (h13 : v.1 0 13 = 0) :
    ∃ r, iter (fun q : Int32 × WS => bd_X4_prepare_42 fu q.1 q.2) fu ((0 : Int32), v) = some r ∧ FrP r v ∧ RMs S 0 r := by
  have hR := hn.2.1
  refine iter_for0 (fun k (s : WS) => (nI k, s)) (n_R S) (fun a s => (∀ c, c ≠ 0 → c ≠ 6 → c ≠ 8 → s.1 c = v.1 c) ∧ (∀ j, j ≠ 14 → s.1 0 j = v.1 0 j) ∧ s.2 = v.2 ∧ s.1 0 14 = nI (cn2 (n_fol S) (n_R S) a) ∧ (∀ r, r < a → s.1 6 r = (-1)) ∧ ∀ a' b', a' < a → b' < n_R S → s.1 8 (64 * a' + b') = if n_fol S a' b' = true then 1 else 0) (fun (r : WS) => FrP r v ∧ RMs S 0 r) ?_ ?_ (by omega) v ⟨fun c _ _ _ => rfl, fun j _ => rfl, rfl, h14, fun r hr => absurd hr (Nat.not_lt_zero _), fun a' b' ha' => absurd ha' (Nat.not_lt_zero _)⟩
  · intro a s ha ⟨i1, i2, i3, i4, i5, i6⟩
    have fs : FrP s v := ⟨fun c h0 h6 _ h8 => i1 c h0 h6 h8, fun j _ h => i2 j h, i3⟩
    have hs := h.frP fs
    have f2 : FrP (wI s 6 a (-1)) s := ⟨fun c _ h6 _ _ => wI_n h6, fun j _ _ => by rw [wI_n (by decide)], rfl⟩
    obtain ⟨r, e, j1, j2, j3, j4, j5⟩ := initRow (hs.frP f2) hn hf ha (cn2 (n_fol S) (n_R S) a) (by rw [wI_n (by decide)]; exact i4)
    refine ⟨r, ?_, fun c h0 h6 h8 => by rw [j1 c h0 h8, wI_n h6]; exact i1 c h0 h6 h8, fun j hj => by rw [j2 j hj, wI_n (by decide)]; exact i2 j hj, j3.trans i3, j4, fun x hx => ?_, fun a' b' ha' hb' => ?_⟩
    · show bd_X4_prepare_42 fu (nI a) s = _
      unfold bd_X4_prepare_42
      rw [nm_e1, hs.2.1, if_neg (nI_ge ha (by omega)), ck_t (in64 (by omega)), nm_e1, cl64 (by omega), e, bn_e, nm_e1, nI_1]
    · rw [j1 6 (by decide) (by decide), wI_at]
      by_cases e2 : x = a
      · rw [if_pos ⟨rfl, e2⟩]
      · rw [if_neg (fun hh => e2 hh.2)]; exact i5 x (by omega)
    · rw [j5 a' b' hb']
      by_cases e2 : a' = a
      · rw [if_pos e2, e2]
      · rw [if_neg e2, wI_n (by decide)]; exact i6 a' b' (by omega) hb'
  · intro s ⟨i1, i2, i3, i4, i5, i6⟩
    have fs : FrP s v := ⟨fun c h0 h6 _ h8 => i1 c h0 h6 h8, fun j _ h => i2 j h, i3⟩
    have hs := h.frP fs
    refine ⟨s, ?_, fs, fun r hr => ?_, fun j hj => absurd hj (Nat.not_lt_zero _), i6, 0, ?_, ?_, ?_⟩
    · show bd_X4_prepare_42 fu (nI (n_R S)) s = _
      unfold bd_X4_prepare_42
      rw [nm_e1, hs.2.1, if_pos (nI_le (Nat.le_refl _) (by omega))]
    · rw [i5 r hr, if_pos (show ctL (n_R S) (n_fol S) 0 r = true from decide_eq_true hr)]
    · rw [i4, Nat.zero_add]
    · rw [i2 13 (by decide), h13]; rfl
    · rw [Nat.zero_add]; rfl
theorem RMs.done (h : RMs S (n_R S) v) : RMo S v ∧ RMa S v := by
  refine ⟨⟨fun r hr => ?_, h.2.1⟩, h.2.2.1⟩
  rw [h.1 r hr, if_neg]
  rw [ctL_R hr, decide_eq_false (by have := n_pos_lt hr; have e : ctR (n_R S) (n_fol S) r = n_pos S r := rfl; omega)]
  decide
/-- prepare, where there is no hierarchy yet -/
theorem prep_ok (h : RMn S v) (hn : NtOK S) {fu : Nat} (hf : 64 < fu) (h0 : 0 < n_R S) (hp : v.1 0 9 = 0) :
    ∃ k r, f_X4_prepare fu v = some (nI k, r) ∧ k + cn2 (n_fol S) (n_R S) (n_R S) = cn2 (n_arc S) (n_R S) (n_R S) ∧ RMn S r ∧ RMp S r ∧ r.1 0 9 = 1 ∧ r.1 0 0 = 0 ∧ (∀ c, c ≠ 0 → c ≠ 6 → c ≠ 7 → c ≠ 8 → r.1 c = v.1 c) ∧ (∀ j, j ≠ 0 → j ≠ 9 → j ≠ 13 → j ≠ 14 → r.1 0 j = v.1 0 j) ∧ ∀ c, c ≠ 9 → c ≠ 11 → r.2 c = v.2 c := by
  have hR := hn.2.1
  have f0 : ∀ (u : WS) (i : Nat) (x : Int32), (i = 0 ∨ i = 9 ∨ i = 13 ∨ i = 14) → (∀ c, c ≠ 0 → c ≠ 6 → c ≠ 7 → c ≠ 8 → (wI u 0 i x).1 c = u.1 c) ∧ (∀ j, j ≠ 0 → j ≠ 9 → j ≠ 13 → j ≠ 14 → (wI u 0 i x).1 0 j = u.1 0 j) := fun u i x hi => ⟨fun c h0 _ _ _ => wI_n h0, fun j a b c d => by rw [wI_at, if_neg (fun hh => by omega)]⟩
  have keep : ∀ {u w : WS}, RMn S w → (∀ c, c ≠ 0 → c ≠ 6 → c ≠ 7 → c ≠ 8 → u.1 c = w.1 c) → (∀ j, j ≠ 0 → j ≠ 9 → j ≠ 13 → j ≠ 14 → u.1 0 j = w.1 0 j) → RMn S u := by
    intro u w h a b
    refine ⟨(b 1 (by decide) (by decide) (by decide) (by decide)).trans h.1, (b 2 (by decide) (by decide) (by decide) (by decide)).trans h.2.1, fun r hr => ?_, fun x y hx hy => ?_, (b 8 (by decide) (by decide) (by decide) (by decide)).trans h.2.2.2.2⟩
    · rw [a 1 (by decide) (by decide) (by decide) (by decide), a 2 (by decide) (by decide) (by decide) (by decide), a 3 (by decide) (by decide) (by decide) (by decide), a 4 (by decide) (by decide) (by decide) (by decide)]
      exact h.2.2.1 r hr
    · rw [a 5 (by decide) (by decide) (by decide) (by decide)]
      exact h.2.2.2.1 x y hx hy
  -- the start
  have g1 := keep h (f0 v 0 0 (by decide)).1 (f0 v 0 0 (by decide)).2
  have g2 := keep g1 (f0 _ 14 0 (by decide)).1 (f0 _ 14 0 (by decide)).2
  have g3 := keep g2 (f0 _ 13 0 (by decide)).1 (f0 _ 13 0 (by decide)).2
  obtain ⟨r1, e1, p1, s1⟩ := initAll g3 hn hf (by rw [wI_at, if_neg (fun hh => absurd hh.2 (by decide)), wI_at, if_pos ⟨rfl, rfl⟩]) (by rw [wI_at, if_pos ⟨rfl, rfl⟩])
  obtain ⟨r2, e2, p2, s2⟩ := takeAll (g3.frP p1) s1 hn hf
  have d2 := s2.done
  have g4 := keep ((g3.frP p1).frP p2) (f0 r2 9 1 (by decide)).1 (f0 r2 9 1 (by decide)).2
  obtain ⟨r3, e3, q1, q2, q3⟩ := findCosts_ok g4 (show RMo S (wI r2 0 9 1) by unfold RMo; rw [wI_n (by decide), wI_n (by decide)]; exact d2.1) hn hf
  obtain ⟨k, k1, k2, k3⟩ := s2.2.2.2
  have c0 : ∀ j, r3.1 0 j = if j = 9 then 1 else r2.1 0 j := fun j => by
    rw [q1, wI_at]
    by_cases e : j = 9
    · rw [if_pos ⟨rfl, e⟩, if_pos e]
    · rw [if_neg (fun hh => e hh.2), if_neg e]
  have p12 := p2.trans p1
  refine ⟨k, r3, ?_, k3, g4.same q1, ⟨?_, ?_, q3, k, ?_, ?_, k3⟩, ?_, ?_, fun c h0 h6 h7 h8 => ?_, fun j h0 h9 h13 h14 => ?_, fun c h9 h11 => ?_⟩
  · unfold f_X4_prepare
    rw [nm_e1, nm_e1, g1.2.1, if_neg (nI_ne0 h0 (by omega)), nm_e1, show (wI v 0 0 0).1 0 9 = 0 by rw [wI_at, if_neg (fun hh => absurd hh.2 (by decide))]; exact hp, if_pos rfl, nm_e1, nm_e1, e1, bn_e, e2, bn_e, nm_e1, e3, bn_e, nm_e1, c0, if_neg (by decide), k2]
  · unfold RMo; rw [q1, wI_n (by decide), wI_n (by decide)]; exact d2.1
  · unfold RMa; rw [q1, wI_n (by decide)]; exact d2.2
  · rw [c0, if_neg (by decide)]; exact k1
  · rw [c0, if_neg (by decide)]; exact k2
  · rw [c0, if_pos rfl]
  · rw [c0, if_neg (by decide), p12.2.1 0 (by decide) (by decide), wI_at, if_neg (fun hh => absurd hh.2 (by decide)), wI_at, if_neg (fun hh => absurd hh.2 (by decide)), wI_at, if_pos ⟨rfl, rfl⟩]
  · rw [q1, wI_n h0, p12.1 c h0 h6 h7 h8, wI_n h0, wI_n h0, wI_n h0]
  · rw [c0, if_neg h9, p12.2.1 j h13 h14, wI_at, if_neg (fun hh => h13 hh.2), wI_at, if_neg (fun hh => h14 hh.2), wI_at, if_neg (fun hh => h0 hh.2)]
  · rw [q2 c h9 h11, wI_2, p12.2.2]
    rfl
end MQ
