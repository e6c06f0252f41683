/-! the law: its network -/
theorem mod_nI {a b : Nat} (ha : a < 2 ^ 31) (hb : b < 2 ^ 31) : nI a % nI b = nI (a % b) := by
  apply Int32.toInt_inj.mp
  have h : a % b < 2 ^ 31 := Nat.lt_of_le_of_lt (Nat.mod_le a b) ha
  rw [Int32.toInt_mod, nI_toInt ha, nI_toInt hb, nI_toInt h]
  exact (Int.ofNat_tmod a b).symm
theorem below_ok (fu : Nat) (x : Int32) {n : Nat} (h0 : 0 < n) (hn : n < 2 ^ 31) : ∃ k, k < n ∧ f_L_below fu x (nI n) = some (nI k) := by
  refine ⟨x.toBitVec.toNat % 2 ^ 31 % n, Nat.mod_lt _ h0, ?_⟩
  unfold f_L_below
  rw [ck_t (nI_ne0 h0 hn), nm_e1, pk_and x 31 (by decide), mod_nI (Nat.mod_lt _ (by decide)) hn]
theorem in9 {k : Nat} (h : k < 9) : vp_in (nI k) 9 := vp_in_nI h (by decide)
theorem cl9 {k : Nat} (h : k < 9) : Int32.toNatClampNeg (nI k) = k := nI_clamp (by omega)
/-- the law's arrays of roads -/
def LA (S : Nt) (f : WS) : Prop := ∀ r, r < n_R S → f.1 0 r = nI (n_f S r) ∧ f.1 1 r = nI (n_t S r) ∧ f.1 2 r = nI (n_w S r)
/-- while the network is built -/
def LB (S : Nt) (w f : WS) (j k : Nat) : Prop := NtOK S ∧ RCn S w ∧ StZ w ∧ w.1 2 1 = 0 ∧ n_J S = j ∧ n_R S = k ∧ LA S f ∧ (∀ r, r < k → n_o S r = true) ∧ (∀ a b, n_s S a b = -2) ∧ n_u S = 100
section BL
variable {S : Nt} {w f : WS} {fu L : Nat} {xs : Nat → Int32}
theorem LB_0 (f : WS) : LB S_0 wC0 f 0 0 := by
  refine ⟨S_0_ok, ?_, fun r _ => ⟨rfl, rfl⟩, rfl, rfl, rfl, fun r h => absurd h (Nat.not_lt_zero r), fun r h => absurd h (Nat.not_lt_zero r), fun a b => rfl, rfl⟩
  exact ⟨nI_0.symm, nI_0.symm, fun r h => absurd h (Nat.not_lt_zero r), fun a b ha hb => fill_in (n := 4096) (by omega) (-2) (fun _ => 0), fun j i _ _ => bL_0 i, fun j i _ _ => bL_0 i, fun i _ => bL_0 i, rfl⟩
theorem LB_aj {j : Nat} (h : LB S w f j 0) (hj : j < 5) : f_X3_addJunction fu w = some (.inl (nI j, wI w 1 0 (nI (j + 1)))) ∧ LB (n_aj S) (wI w 1 0 (nI (j + 1))) f (j + 1) 0 := by
  obtain ⟨h1, h2, h3, h4, h5, h6, h7, h8, h9, h10⟩ := h
  have k := addJ_ok (fu := fu) h1 h2 (by omega)
  rw [h5] at k
  refine ⟨k.1, h1.aj (by omega), k.2, h3.same rfl rfl, by rw [wI_n (by decide)]; exact h4, ?_, h6, h7, h8, h9, h10⟩
  show n_J S + 1 = j + 1
  rw [h5]
theorem build_J (f : WS) (hf : 81 < fu) : ∃ (r : WS ⊕ WS), iter (fun q : Int32 × WS => bd_L_build_3 fu L xs f q.1 q.2) fu ((0 : Int32), wC0) = some r ∧ ∃ (S : Nt) (w : WS), r = .inr w ∧ LB S w f 5 0 := by
  refine iter_for0 (fun k (s : WS) => (nI k, s)) 5 (fun k s => ∃ S, LB S s f k 0) (fun (r : WS ⊕ WS) => ∃ (S : Nt) (w : WS), r = .inr w ∧ LB S w f 5 0) ?_ ?_ (by omega) _ ⟨S_0, LB_0 f⟩
  · intro k s hk ⟨S, h⟩
    obtain ⟨e, h'⟩ := LB_aj (fu := fu) h hk
    refine ⟨wI s 1 0 (nI (k + 1)), ?_, n_aj S, h'⟩
    show bd_L_build_3 fu L xs f (nI k) s = _
    unfold bd_L_build_3
    rw [if_neg (show ¬ (5 : Int32) ≤ nI k from nI_ge (b := 5) hk (by decide)), e, bxn2_e, if_pos rfl, nm_e1, nI_1]
  · intro s ⟨S, h⟩
    refine ⟨.inr s, ?_, S, s, rfl, h⟩
    show bd_L_build_3 fu L xs f (nI 5) s = _
    unfold bd_L_build_3
    rw [if_pos (show (5 : Int32) ≤ nI 5 from nI_le (a := 5) (Nat.le_refl _) (by decide))]
theorem LB_ar {k : Nat} (h : LB S w f 5 k) (hk : k < 9) {a b x : Nat} (ha : a < 5) (hb : b < 5) (hne : a ≠ b) (h1 : 1 ≤ x) (h2 : x ≤ 10000) {f9 : WS} (e0 : f9.1 0 k = nI a) (e1 : f9.1 1 k = nI b) (e2 : f9.1 2 k = nI x) (ho : ∀ r, r < k → f9.1 0 r = f.1 0 r ∧ f9.1 1 r = f.1 1 r ∧ f9.1 2 r = f.1 2 r) : ∃ (S' : Nt) (W : WS), f_X3_addRoad fu w (nI a) (nI b) (nI x) = some (.inl (nI k, W)) ∧ LB S' W f9 5 (k + 1) := by
  obtain ⟨q1, q2, q3, q4, q5, q6, q7, q8, q9, q10⟩ := h
  obtain ⟨W, eW, cW, zW, bW⟩ := addR_ok (fu := fu) q1 q2 q3 (a := a) (b := b) (x := x) (by omega) (by omega) (by omega) hne h1 h2
  rw [q6] at eW
  refine ⟨n_ar S a b x, W, eW, q1.ar (by omega) (by omega) (by omega) hne h1 h2, cW, zW, bW, q5, ?_, fun r hr => ?_, fun r hr => ?_, q9, q10⟩
  · show n_R S + 1 = k + 1
    rw [q6]
  · have hr : r < n_R S + 1 := hr
    show f9.1 0 r = nI (updN (n_f S) (n_R S) a r) ∧ f9.1 1 r = nI (updN (n_t S) (n_R S) b r) ∧ f9.1 2 r = nI (updN (n_w S) (n_R S) x r)
    by_cases e : r = n_R S
    · rw [e, updN_s, updN_s, updN_s, q6]
      exact ⟨e0, e1, e2⟩
    · rw [updN_n e, updN_n e, updN_n e]
      have k1 := ho r (by omega)
      have k2 := q7 r (by omega)
      rw [k1.1, k1.2.1, k1.2.2]
      exact k2
  · show (if r = n_R S then true else n_o S r) = true
    by_cases e : r = n_R S
    · rw [if_pos e]
    · rw [if_neg e]
      exact q8 r (by omega)
theorem w3_0 {k r : Nat} {x y z : Int32} : (wI (wI (wI f 0 k x) 1 k y) 2 k z).1 0 r = if r = k then x else f.1 0 r := by
  rw [wI_n (by decide), wI_n (by decide), wI_at]
  by_cases e : r = k
  · rw [if_pos ⟨rfl, e⟩, if_pos e]
  · rw [if_neg (fun h => e h.2), if_neg e]
theorem w3_1 {k r : Nat} {x y z : Int32} : (wI (wI (wI f 0 k x) 1 k y) 2 k z).1 1 r = if r = k then y else f.1 1 r := by
  rw [wI_n (by decide), wI_at, wI_n (show (1 : Nat) ≠ 0 by decide)]
  by_cases e : r = k
  · rw [if_pos ⟨rfl, e⟩, if_pos e]
  · rw [if_neg (fun h => e h.2), if_neg e]
theorem w3_2 {k r : Nat} {x y z : Int32} : (wI (wI (wI f 0 k x) 1 k y) 2 k z).1 2 r = if r = k then z else f.1 2 r := by
  rw [wI_at, wI_n (show (2 : Nat) ≠ 1 by decide), wI_n (show (2 : Nat) ≠ 0 by decide)]
  by_cases e : r = k
  · rw [if_pos ⟨rfl, e⟩, if_pos e]
  · rw [if_neg (fun h => e h.2), if_neg e]
theorem LB_step {k : Nat} (h : LB S w f 5 k) (hk : k < 9) {a b x : Nat} (ha : a < 5) (hb : b < 5) (hne : a ≠ b) (h1 : 1 ≤ x) (h2 : x ≤ 10000) : ∃ (S' : Nt) (W : WS), f_X3_addRoad fu w (nI a) (nI b) (nI x) = some (.inl (nI k, W)) ∧ LB S' W (wI (wI (wI f 0 k (nI a)) 1 k (nI b)) 2 k (nI x)) 5 (k + 1) :=
  LB_ar h hk ha hb hne h1 h2 (by rw [w3_0, if_pos rfl]) (by rw [w3_1, if_pos rfl]) (by rw [w3_2, if_pos rfl]) (fun r hr => by
    have e : r ≠ k := by omega
    rw [w3_0, w3_1, w3_2, if_neg e, if_neg e, if_neg e]
    exact ⟨rfl, rfl, rfl⟩)
theorem build_R {S0 : Nt} {w0 f0 : WS} (hf : 81 < fu) (h0 : LB S0 w0 f0 5 0) : ∃ (r : (WS × WS) ⊕ (WS × WS)), iter (fun q : Int32 × WS × WS => bd_L_build_29 fu L xs q.1 q.2.1 q.2.2) fu ((0 : Int32), w0, f0) = some r ∧ ∃ (S : Nt) (w f : WS), r = .inr (w, f) ∧ LB S w f 5 9 := by
  refine iter_for0 (fun k (s : WS × WS) => (nI k, s)) 9 (fun k s => ∃ S, LB S s.1 s.2 5 k) (fun (r : (WS × WS) ⊕ (WS × WS)) => ∃ (S : Nt) (w f : WS), r = .inr (w, f) ∧ LB S w f 5 9) ?_ ?_ (by omega) _ ⟨S0, h0⟩
  · intro k s hk ⟨S, h⟩
    obtain ⟨w, f⟩ := s
    dsimp only at h
    obtain ⟨a, ha, ea⟩ : ∃ a, a < 5 ∧ f_L_below fu (cellV L xs (nI k)) (5 : Int32) = some (nI a) := below_ok fu _ (by decide) (by decide)
    obtain ⟨d, hd, ed⟩ : ∃ d, d < 4 ∧ f_L_below fu ((cellV L xs (nI k)) >>> ((4 : Int32) &&& 31)) (4 : Int32) = some (nI d) := below_ok fu _ (by decide) (by decide)
    obtain ⟨x, hx, ex⟩ : ∃ x, x < 6 ∧ f_L_below fu ((cellV L xs (nI k)) >>> ((8 : Int32) &&& 31)) (6 : Int32) = some (nI x) := below_ok fu _ (by decide) (by decide)
    have e1x : (1 : Int32) + nI x = nI (1 + x) := nI_add 1 x
    show ∃ s', bd_L_build_29 fu L xs (nI k) w f = some (.inl (nI (k + 1), s')) ∧ _
    unfold bd_L_build_29
    rw [if_neg (show ¬ (9 : Int32) ≤ nI k from nI_ge (b := 9) hk (by decide)), ck_t (nI_pos (by omega)), nm_e1]
    by_cases h5 : 5 ≤ k
    · have h5' : (5 : Int32) ≤ nI k := nI_le (a := 5) h5 (by omega)
      have em : nI (a + 1 + d) % (5 : Int32) = nI ((a + 1 + d) % 5) := mod_nI (by omega) (by decide)
      obtain ⟨S', W, eW, hW⟩ := LB_step (fu := fu) h hk (a := a) (b := (a + 1 + d) % 5) (x := 1 + x) ha (by omega) (by omega) (by omega) (by omega)
      refine ⟨(W, wI (wI (wI f 0 k (nI a)) 1 k (nI ((a + 1 + d) % 5))) 2 k (nI (1 + x))), ?_, S', hW⟩
      rw [if_pos h5', ea, bn_e, ck_t (in9 hk), nm_e1, cl9 hk, if_pos h5', ck_t (in9 hk), nm_e1, wI_at, if_pos ⟨rfl, rfl⟩, ed, bn_e, ck_t (show ¬ (5 : Int32) = 0 by decide), nm_e1, nI_1, nI_add, em, ck_t (in9 hk), nm_e1, ex, bn_e, ck_t (in9 hk), nm_e1, e1x, ck_t (in9 hk), nm_e1, w3_0, if_pos rfl, ck_t (in9 hk), nm_e1, w3_1, if_pos rfl, ck_t (in9 hk), nm_e1, w3_2, if_pos rfl, eW, bxn2_e, if_pos rfl, nm_e1, nI_1]
    · have h5' : ¬ (5 : Int32) ≤ nI k := nI_ge (b := 5) (by omega) (by decide)
      have em : nI (k + 1) % (5 : Int32) = nI ((k + 1) % 5) := mod_nI (by omega) (by decide)
      obtain ⟨S', W, eW, hW⟩ := LB_step (fu := fu) h hk (a := k) (b := (k + 1) % 5) (x := 1 + x) (by omega) (by omega) (by omega) (by omega) (by omega)
      refine ⟨(W, wI (wI (wI f 0 k (nI k)) 1 k (nI ((k + 1) % 5))) 2 k (nI (1 + x))), ?_, S', hW⟩
      rw [if_neg h5', ck_t (in9 hk), nm_e1, cl9 hk, if_neg h5', ck_t (show ¬ (5 : Int32) = 0 by decide), nm_e1, nI_1, em, ck_t (in9 hk), nm_e1, ex, bn_e, ck_t (in9 hk), nm_e1, e1x, ck_t (in9 hk), nm_e1, w3_0, if_pos rfl, ck_t (in9 hk), nm_e1, w3_1, if_pos rfl, ck_t (in9 hk), nm_e1, w3_2, if_pos rfl, eW, bxn2_e, if_pos rfl, nm_e1]
  · intro s ⟨S, h⟩
    refine ⟨.inr s, ?_, S, s.1, s.2, rfl, h⟩
    show bd_L_build_29 fu L xs (nI 9) s.1 s.2 = _
    unfold bd_L_build_29
    rw [if_pos (show (9 : Int32) ≤ nI 9 from nI_le (a := 9) (Nat.le_refl _) (by decide))]
theorem build_law (hf : 81 < fu) : ∃ (S : Nt) (w v : WS), f_L_build fu L xs wC0 vL0 = some (1, w, v) ∧ LB S w v 5 9 := by
  obtain ⟨r1, e1, S1, w1, hr1, h1⟩ := build_J (fu := fu) (L := L) (xs := xs) vL0 hf
  obtain ⟨r2, e2, S2, w2, f2, hr2, h2⟩ := build_R (fu := fu) (L := L) (xs := xs) hf h1
  refine ⟨S2, w2, f2, ?_, h2⟩
  unfold f_L_build
  rw [e1, hr1, bx_r, e2, hr2, bx_r]
end BL
