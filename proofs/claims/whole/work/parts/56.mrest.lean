/-! the reference: route -/
def FrR (u v : WS) : Prop := (∀ c, c ≠ 0 → c ≠ 18 → c ≠ 19 → c ≠ 21 → u.1 c = v.1 c) ∧ (∀ j, j ≠ 0 → j ≠ 26 → j ≠ 27 → j ≠ 29 → u.1 0 j = v.1 0 j) ∧ ∀ c, c ≠ 20 → u.2 c = v.2 c
theorem FrR.rf (v : WS) : FrR v v := ⟨fun _ _ _ _ _ => rfl, fun _ _ _ _ _ => rfl, fun _ _ => rfl⟩
theorem FrR.trans {u v w : WS} (h : FrR u v) (h2 : FrR v w) : FrR u w := ⟨fun c a b d e => (h.1 c a b d e).trans (h2.1 c a b d e), fun c a b d e => (h.2.1 c a b d e).trans (h2.2.1 c a b d e), fun c a => (h.2.2 c a).trans (h2.2.2 c a)⟩
theorem FrB.toR {u v : WS} (h : FrB u v) : FrR u v := ⟨fun c _ _ _ h21 => h.1 c h21, fun j _ _ _ _ => by rw [h.1 0 (by decide)], fun c h20 => h.2 c h20⟩
theorem FrR.f0 (v : WS) (j : Nat) (x : Int32) (hj : j = 0 ∨ j = 26 ∨ j = 27 ∨ j = 29) : FrR (wI v 0 j x) v := ⟨fun c h0 _ _ _ => wI_n h0, fun i a b c d => by rw [wI_at, if_neg (fun hh => by omega)], fun _ _ => rfl⟩
theorem FrR.f18 (v : WS) (i : Nat) (x : Int32) : FrR (wI v 18 i x) v := ⟨fun c _ h _ _ => wI_n h, fun j _ _ _ _ => by rw [wI_n (by decide)], fun _ _ => rfl⟩
theorem FrR.f19 (v : WS) (i : Nat) (x : Int32) : FrR (wI v 19 i x) v := ⟨fun c _ _ h _ => wI_n h, fun j _ _ _ _ => by rw [wI_n (by decide)], fun _ _ => rfl⟩
theorem RMn.frR {S : Nt} {u v : WS} (h : RMn S v) (f : FrR u v) : RMn S u := by
  refine ⟨(f.2.1 1 (by decide) (by decide) (by decide) (by decide)).trans h.1, (f.2.1 2 (by decide) (by decide) (by decide) (by decide)).trans h.2.1, fun r hr => ?_, fun a b ha hb => ?_, (f.2.1 8 (by decide) (by decide) (by decide) (by decide)).trans h.2.2.2.2⟩
  · rw [f.1 1 (by decide) (by decide) (by decide) (by decide), f.1 2 (by decide) (by decide) (by decide) (by decide), f.1 3 (by decide) (by decide) (by decide) (by decide), f.1 4 (by decide) (by decide) (by decide) (by decide)]
    exact h.2.2.1 r hr
  · rw [f.1 5 (by decide) (by decide) (by decide) (by decide)]
    exact h.2.2.2.1 a b ha hb
section MR
variable {S : Nt} {v : WS} {g : Nat} {be co : Nat → Nat}
theorem looked_y (h : RMn S v) (hn : NtOK S) (hp : v.1 0 9 = 1) (fu : Nat) {a b : Nat} (ha : a < n_J S) (hb : b < n_J S) : f_X4_lookedAt fu v (nI a) (nI b) = some 0 := by
  unfold f_X4_lookedAt
  rw [nm_e1, hp, if_neg (by decide), isJ_y h hn fu ha, bn_e, if_neg (by decide), isJ_y h hn fu hb, bn_e, if_neg (by decide)]
theorem looked_0 (hp : v.1 0 9 = 0) (fu : Nat) (x y : Int32) : f_X4_lookedAt fu v x y = some 1 := by
  unfold f_X4_lookedAt
  rw [nm_e1, hp, if_pos rfl]
theorem looked_n (h : RMn S v) (hn : NtOK S) (hp : v.1 0 9 = 1) (fu : Nat) {x y : Int32} (hx : (x < 0 ∨ nI (n_J S) ≤ x) ∨ (∃ a, a < n_J S ∧ x = nI a) ∧ (y < 0 ∨ nI (n_J S) ≤ y)) : f_X4_lookedAt fu v x y = some 2 := by
  unfold f_X4_lookedAt
  rw [nm_e1, hp, if_neg (by decide)]
  rcases hx with hx | ⟨⟨a, ha, rfl⟩, hy⟩
  · rw [isJ_n h fu hx, bn_e, if_pos rfl]
  · rw [isJ_y h hn fu ha, bn_e, if_neg (by decide), isJ_n h fu hy, bn_e, if_pos rfl]
theorem RB.same {u : WS} (h : RB S be co v) (e2 : u.2 20 = v.2 20) (e1 : u.1 21 = v.1 21) : RB S be co u := by
  unfold RB
  rw [e2, e1]
  exact h
/-- the roads behind the first one -/
theorem routeLoop (h : RMn S v) (hn : NtOK S) (rb : RB S be co v) (hE : FbEnd S g be co) (hg : g < 2 ^ 31) {fu : Nat} (hf : 64 < fu) {r N : Nat} (hN : 1 ≤ N) (hN2 : N ≤ 64) (hP : PathOK S g r N) (h26 : v.1 0 26 = nI 1) (h18 : v.1 18 0 = nI r) :
    ∃ v', iter (fun q : Int32 × WS => bd_X4_route_74 fu (nI g) q.1 q.2) fu (nI r, v) = some v' ∧ v'.1 0 26 = nI N ∧ (∀ i, i < N → v'.1 18 i = nI (pq S g r i)) ∧ FrR v' v ∧ v'.1 0 27 = v.1 0 27 ∧ v'.1 0 0 = v.1 0 0 ∧ v'.1 0 29 = v.1 0 29 ∧ v'.1 19 = v.1 19 := by
  have hR := hn.2.1
  have hJ := hn.1
  have bb := (hn.2.2.1)
  refine iter_for0 (fun k (s : WS) => (nI (pq S g r k), s)) (N - 1) (fun k s => FrR s v ∧ (∀ j, j ≠ 26 → s.1 0 j = v.1 0 j) ∧ s.1 0 26 = nI (k + 1) ∧ (∀ i, i ≤ k → s.1 18 i = nI (pq S g r i)) ∧ s.2 20 = v.2 20 ∧ s.1 21 = v.1 21 ∧ s.1 19 = v.1 19) (fun (v' : WS) => v'.1 0 26 = nI N ∧ (∀ i, i < N → v'.1 18 i = nI (pq S g r i)) ∧ FrR v' v ∧ v'.1 0 27 = v.1 0 27 ∧ v'.1 0 0 = v.1 0 0 ∧ v'.1 0 29 = v.1 0 29 ∧ v'.1 19 = v.1 19) ?_ ?_ (by omega) v ⟨FrR.rf v, fun _ _ => rfl, h26, fun i hi => by rw [show i = 0 by omega]; exact h18, rfl, rfl, rfl⟩
  · intro k s hk ⟨i1, i2, i3, i4, i5, i6, i7⟩
    have hs := h.frR i1
    have rbs : RB S be co s := rb.same i5 i6
    have hp := hP k (by omega)
    have hz : n_Z S g (pq S g r k) ≠ 0 := fun e => by have := hp.2.2.mp e; omega
    have hgoal := Z_goal hn hg hp.1 hp.2.1
    have ht := (bb _ hp.1).2.1
    refine ⟨wI (wI s 18 (k + 1) (nI (pq S g r (k + 1)))) 0 26 (nI (k + 2)), ?_, (FrR.f0 _ 26 _ (by decide)).trans ((FrR.f18 s _ _).trans i1), fun j hj => ?_, ?_, fun i hi => ?_, i5, ?_, ?_⟩
    · show bd_X4_route_74 fu (nI g) (nI (pq S g r k)) s = _
      unfold bd_X4_route_74
      rw [ck_t (in64 (by omega)), nm_e1, cl64 (by omega), (hs.2.2.1 _ hp.1).2.1, if_neg (fun e => hz (hgoal.mpr ((nI_eq (by omega) (by omega)).mp e))), nextRoad_ok hs hn rbs hE hg hf hp.1 hp.2.1 hz, bn_e, nm_e1, i3, ck_t (vp_in_nI (by omega) (by decide)), nm_e1, nm_e1, nm_e1, wI_n (show (0 : Nat) ≠ 18 by decide), i3, nI_1, nI_clamp (by omega)]
      rfl
    · rw [wI_at, if_neg (fun hh => hj hh.2), wI_n (by decide)]; exact i2 j hj
    · rw [wI_at, if_pos ⟨rfl, rfl⟩]
    · rw [wI_n (by decide), wI_at]
      by_cases e : i = k + 1
      · rw [if_pos ⟨rfl, e⟩, e]
      · rw [if_neg (fun hh => e hh.2)]; exact i4 i (by omega)
    · rw [wI_n (by decide), wI_n (by decide)]; exact i6
    · rw [wI_n (by decide), wI_n (by decide)]; exact i7
  · intro s ⟨i1, i2, i3, i4, i5, i6, i7⟩
    have hs := h.frR i1
    have hp := hP (N - 1) (by omega)
    have hz : n_Z S g (pq S g r (N - 1)) = 0 := hp.2.2.mpr (by omega)
    have hgoal := (Z_goal hn hg hp.1 hp.2.1).mp hz
    refine ⟨s, ?_, ?_, fun i hi => i4 i (by omega), i1, i2 27 (by decide), i2 0 (by decide), i2 29 (by decide), i7⟩
    · show bd_X4_route_74 fu (nI g) (nI (pq S g r (N - 1))) s = _
      unfold bd_X4_route_74
      rw [ck_t (in64 (by omega)), nm_e1, cl64 (by omega), (hs.2.2.1 _ hp.1).2.1, if_pos (by rw [hgoal])]
    · rw [i3, show N - 1 + 1 = N by omega]
/-- what route does to the reference -/
theorem route_ok (h : RMn S v) (hn : NtOK S) (hp : v.1 0 9 = 1) {fu : Nat} (hf : 2 ^ 80 ≤ fu) {a : Nat} (ha : a < n_J S) (hg : g < n_J S) :
    ∃ v' x, f_X4_route fu v (nI a) (nI g) = some (x, v') ∧ FrR v' v ∧ v'.1 0 29 = v.1 0 29 ∧ v'.1 19 = v.1 19 ∧
      ((n_c S a g = none ∧ v'.1 0 0 = 3 ∧ v'.1 0 26 = v.1 0 26 ∧ v'.1 0 27 = v.1 0 27 ∧ v'.1 18 = v.1 18) ∨
       (a = g ∧ x = 0 ∧ v'.1 0 0 = 0 ∧ v'.1 0 26 = 0 ∧ v'.1 0 27 = 0) ∨
       (a ≠ g ∧ ∃ r N, n_fst S a g = some r ∧ 1 ≤ N ∧ N ≤ 64 ∧ PathOK S g r N ∧ x = nI N ∧ v'.1 0 0 = 0 ∧ v'.1 0 26 = nI N ∧ v'.1 0 27 = oI (n_c S a g) ∧ ∀ i, i < N → v'.1 18 i = nI (pq S g r i))) := by
  have hR := hn.2.1
  have hJ := hn.1
  have h2 := h.frR (FrR.f0 v 0 0 (by decide))
  obtain ⟨u, e, f1, k⟩ := between_ok h2 hn hf ha hg
  have f2 : FrR u v := f1.toR.trans (FrR.f0 v 0 0 (by decide))
  have u0 : ∀ j, u.1 0 j = if j = 0 then 0 else v.1 0 j := fun j => by
    rw [f1.1 0 (by decide), wI_at]
    by_cases e : j = 0
    · rw [if_pos ⟨rfl, e⟩, if_pos e]
    · rw [if_neg (fun hh => e hh.2), if_neg e]
  have u18 : u.1 18 = v.1 18 := by rw [f1.1 18 (by decide), wI_n (by decide)]
  have u19 : u.1 19 = v.1 19 := by rw [f1.1 19 (by decide), wI_n (by decide)]
  unfold f_X4_route
  rw [looked_y h hn hp fu ha hg, bn_e]
  simp only [nm_e1]
  rw [show (wI v 0 0 0).1 0 0 = 0 by rw [wI_at, if_pos ⟨rfl, rfl⟩], if_pos rfl, e, bn2_e]
  by_cases hag : a = g
  · have hc : n_c S a g = some 0 := if_pos hag
    rw [hc, show oI (some 0) = 0 from nI_0, if_neg (by decide), if_pos (by rw [hag])]
    refine ⟨_, _, rfl, (FrR.f0 _ 26 _ (by decide)).trans ((FrR.f0 _ 27 _ (by decide)).trans f2), ?_, ?_, Or.inr (Or.inl ⟨hag, rfl, ?_, ?_, ?_⟩)⟩
    · rw [wI_at, if_neg (by decide), wI_at, if_neg (by decide), u0, if_neg (by decide)]
    · rw [wI_n (by decide), wI_n (by decide), u19]
    · rw [wI_at, if_neg (by decide), wI_at, if_neg (by decide), u0, if_pos rfl]
    · rw [wI_at, if_pos ⟨rfl, rfl⟩]
    · rw [wI_at, if_neg (by decide), wI_at, if_pos ⟨rfl, rfl⟩]
  · obtain ⟨be, co, rb, hE⟩ := k hag
    have hc : n_c S a g = (n_fst S a g).map (fun r => (128 * n_w S r + 1 + n_Z S g r) / 128) := if_neg hag
    cases hb : n_fst S a g with
    | none =>
      rw [hb] at hc
      have hc : n_c S a g = none := hc
      rw [hc, show oI none = -1 from rfl, if_pos rfl]
      refine ⟨_, _, rfl, (FrR.f0 u 0 _ (by decide)).trans f2, ?_, ?_, Or.inl ⟨rfl, ?_, ?_, ?_, ?_⟩⟩
      · rw [wI_at, if_neg (by decide), u0, if_neg (by decide)]
      · rw [wI_n (by decide), u19]
      · rw [wI_at, if_pos ⟨rfl, rfl⟩]
      · rw [wI_at, if_neg (by decide), u0, if_neg (by decide)]
      · rw [wI_at, if_neg (by decide), u0, if_neg (by decide)]
      · rw [wI_n (by decide), u18]
    | some r =>
      rw [hb] at hc
      have hc : n_c S a g = some ((128 * n_w S r + 1 + n_Z S g r) / 128) := hc
      have hle := n_c_le hn (show g < 2 ^ 31 by omega) hc
      have h1 := fst_ok hb
      obtain ⟨N, n1, n2, n3⟩ := path_ok hn (show g < 2 ^ 31 by omega) h1.1 h1.2.2.2
      have hne : oI (n_c S a g) ≠ -1 := by rw [hc]; exact m1_ne (by omega)
      have f3 : FrR (wI (wI u 0 27 (oI (n_c S a g))) 0 26 0) v := (FrR.f0 _ 26 _ (by decide)).trans ((FrR.f0 _ 27 _ (by decide)).trans f2)
      have f4 : FrR (wI (wI (wI (wI u 0 27 (oI (n_c S a g))) 0 26 0) 18 0 (nI r)) 0 26 1) v := (FrR.f0 _ 26 _ (by decide)).trans ((FrR.f18 _ _ _).trans f3)
      obtain ⟨v', e2, p1, p2, p3, p4, p5, p6, p7⟩ := routeLoop (h.frR f4) hn (rb.same (by rfl) (by rw [wI_n (by decide), wI_n (by decide), wI_n (by decide), wI_n (by decide)])) hE (show g < 2 ^ 31 by omega) (show 64 < fu by omega) n1 n2 n3 (by rw [wI_at, if_pos ⟨rfl, rfl⟩]; rfl) (by rw [wI_n (by decide), wI_at, if_pos ⟨rfl, rfl⟩])
      rw [if_neg hne, if_neg (fun e2 => hag ((nI_eq (by omega) (by omega)).mp e2)), first_ok (h.frR f3) hn (rb.same (by rfl) (by rw [wI_n (by decide), wI_n (by decide)])) hE (show 64 < fu by omega) (show a < 2 ^ 31 by omega), bn_e, hb, show oI (some r) = nI r from rfl, ck_t (show vp_in 0 128 from vp_in_nI (n := 0) (by decide) (by decide)), show Int32.toNatClampNeg 0 = 0 by decide, e2, bn_e]
      refine ⟨_, _, rfl, p3.trans f4, ?_, ?_, Or.inr (Or.inr ⟨hag, r, N, rfl, n1, n2, n3, p1, ?_, p1, ?_, p2⟩)⟩
      · rw [p6, wI_at, if_neg (by decide), wI_n (by decide), wI_at, if_neg (by decide), wI_at, if_neg (by decide), u0, if_neg (by decide)]
      · rw [p7, wI_n (by decide), wI_n (by decide), wI_n (by decide), wI_n (by decide), u19]
      · rw [p5, wI_at, if_neg (by decide), wI_n (by decide), wI_at, if_neg (by decide), wI_at, if_neg (by decide), u0, if_pos rfl]
      · rw [p4, wI_at, if_neg (by decide), wI_n (by decide), wI_at, if_neg (by decide), wI_at, if_pos ⟨rfl, rfl⟩]
end MR
