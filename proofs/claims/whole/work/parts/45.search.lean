/-! the reference's search -/
def be0 (S : Nt) (g r : Nat) : Nat := if n_o S r = true ∧ n_t S r = g then n_w S r else 1000000000000
section FS
variable {S : Nt} {g : Nat} {v : WS}
theorem fb_init (h : RMn S v) (hn : NtOK S) {fu : Nat} (hf : 64 < fu) (hg : g < 2 ^ 31) : ∃ r, iter (fun q : Int32 × WS => bd_X4_findBehind_2 fu (nI g) q.1 q.2) fu ((0 : Int32), v) = some r ∧ FrB r v ∧ RB S (be0 S g) (fun _ => 1) r := by
  have hR := hn.2.1
  have hJ := hn.1
  refine iter_for0 (fun k (s : WS) => (nI k, s)) (n_R S) (fun k s => FrB s v ∧ ∀ r, r < k → s.2 20 r = lN (be0 S g r) ∧ s.1 21 r = nI 1) (fun (r : WS) => FrB r v ∧ RB S (be0 S g) (fun _ => 1) r) ?_ ?_ (by omega) v ⟨FrB.rf v, fun r hr => absurd hr (Nat.not_lt_zero _)⟩
  · intro k s hk ⟨i1, i2⟩
    have hs := h.frB i1
    have hw := (hn.2.2.1 k hk)
    have fin : ∀ x, x = be0 S g k → FrB (wI (wL s 20 k (lN x)) 21 k 1) v ∧ ∀ r, r < k + 1 → (wI (wL s 20 k (lN x)) 21 k 1).2 20 r = lN (be0 S g r) ∧ (wI (wL s 20 k (lN x)) 21 k 1).1 21 r = nI 1 := by
      intro x hx
      refine ⟨(FrB.upd s k _ _).trans i1, fun r hr => ?_⟩
      rw [wI_2, wL_at, wI_at]
      by_cases e : r = k
      · rw [if_pos ⟨rfl, e⟩, if_pos ⟨rfl, e⟩, e, hx]
        exact ⟨rfl, rfl⟩
      · rw [if_neg (fun hh => e hh.2), if_neg (fun hh => e hh.2)]
        exact i2 r (by omega)
    have main : ∃ s', bd_X4_findBehind_2 fu (nI g) (nI k) s = some (.inl (nI (k + 1), s')) ∧ FrB s' v ∧ ∀ r, r < k + 1 → s'.2 20 r = lN (be0 S g r) ∧ s'.1 21 r = nI 1 := by
      unfold bd_X4_findBehind_2
      simp only [nm_e1, ck_t (in64 (show k < 64 by omega)), cl64 (show k < 64 by omega)]
      rw [hs.2.1, if_neg (nI_ge hk (by omega)), (hs.2.2.1 k hk).2.2.2, (hs.2.2.1 k hk).2.1, (hs.2.2.1 k hk).2.2.1, nI_1, if_zo]
      by_cases e1 : n_o S k = true
      · rw [if_pos e1]
        by_cases e2 : n_t S k = g
        · rw [if_pos (by rw [e2]), nI_l (by omega)]
          exact ⟨_, rfl, fin _ (by unfold be0; rw [if_pos ⟨e1, e2⟩])⟩
        · rw [if_neg (fun e => e2 ((nI_eq (by omega) (by omega)).mp e)), lN_far]
          exact ⟨_, rfl, fin _ (by unfold be0; rw [if_neg (fun hh => e2 hh.2)])⟩
      · rw [if_neg e1, lN_far]
        exact ⟨_, rfl, fin _ (by unfold be0; rw [if_neg (fun hh => e1 hh.1)])⟩
    exact main
  · intro s ⟨i1, i2⟩
    have hs := h.frB i1
    refine ⟨s, ?_, i1, i2⟩
    show bd_X4_findBehind_2 fu (nI g) (nI (n_R S)) s = _
    unfold bd_X4_findBehind_2
    rw [nm_e1, hs.2.1, if_pos (nI_le (Nat.le_refl _) (by omega))]
theorem fb_inv0 (hn : NtOK S) : FbInv S g (be0 S g) (fun _ => 1) := by
  refine ⟨fun r hr => ?_, fun r hr ho ht => ?_, fun r hr hf => ?_⟩
  · have hw := (hn.2.2.1 r hr).2.2.2
    unfold be0
    by_cases e : n_o S r = true ∧ n_t S r = g
    · rw [if_pos e]; right; exact ⟨Nat.le_refl _, hw.1, Nat.le_refl _, by omega⟩
    · rw [if_neg e]; exact Or.inl ⟨rfl, rfl⟩
  · unfold be0
    rw [if_pos ⟨ho, ht⟩]
    exact ⟨rfl, rfl⟩
  · unfold be0 at hf ⊢
    by_cases e : n_o S r = true ∧ n_t S r = g
    · rw [if_pos e]; exact Or.inl ⟨e.1, e.2, rfl, rfl⟩
    · rw [if_neg e] at hf; omega
/-- a pass: nothing has changed and all so far is closed, or the measure has fallen -/
def PsI (S : Nt) (g : Nat) (v : WS) (b0 c0 : Nat → Nat) (a b : Nat) (s : Int32 × WS) : Prop := FrB s.2 v ∧ ∃ be co, RB S be co s.2 ∧ FbInv S g be co ∧ ((s.1 = 0 ∧ be = b0 ∧ co = c0 ∧ ∀ a' b', (a' < a ∨ (a' = a ∧ b' < b)) → a' < n_R S → b' < n_R S → fbCl S be co a' b') ∨ (s.1 = 1 ∧ fbMu S be co < fbMu S b0 c0))
theorem passRow (h : RMn S v) (hn : NtOK S) {fu : Nat} (hf : 64 < fu) {b0 c0 : Nat → Nat} {a : Nat} (ha : a < n_R S) (s0 : Int32 × WS) (h0 : PsI S g v b0 c0 a 0 s0) : ∃ r, iter (fun q : Int32 × Int32 × WS => bd_X4_findBehind_82 fu (nI a) q.1 q.2.1 q.2.2) fu (s0.1, (0 : Int32), s0.2) = some r ∧ PsI S g v b0 c0 (a + 1) 0 r := by
  have hR := hn.2.1
  refine iter_for0 (fun k (s : Int32 × WS) => (s.1, nI k, s.2)) (n_R S) (fun b s => PsI S g v b0 c0 a b s) (fun (r : Int32 × WS) => PsI S g v b0 c0 (a + 1) 0 r) ?_ ?_ (by omega) s0 h0
  · intro b s hb ⟨i1, be, co, i2, i3, i4⟩
    have hs := h.frB i1
    have main : ∃ s' : Int32 × WS, bd_X4_findBehind_82 fu (nI a) s.1 (nI b) s.2 = some (.inl (s'.1, nI (b + 1), s'.2)) ∧ PsI S g v b0 c0 a (b + 1) s' := by
      unfold bd_X4_findBehind_82
      rw [nm_e1, hs.2.1, if_neg (nI_ge hb (by omega))]
      rcases improves_ok hs hn fu ha hb i2 i3 with ⟨e, ecl⟩ | ⟨w', be', co', e, f1, f2, f3, f4⟩
      · rw [e, bn2_e, if_pos rfl]
        rcases i4 with ⟨k1, k2, k3, k4⟩ | ⟨k1, k2⟩
        · rw [if_pos k1, nm_e1, nI_1]
          refine ⟨(0, s.2), rfl, i1, be, co, i2, i3, Or.inl ⟨rfl, k2, k3, fun a' b' hab ha' hb' => ?_⟩⟩
          by_cases e2 : a' = a ∧ b' = b
          · rw [e2.1, e2.2]; exact ecl
          · exact k4 a' b' (by omega) ha' hb'
        · rw [if_neg (by rw [k1]; decide), nm_e1, nI_1]
          exact ⟨(1, s.2), rfl, i1, be, co, i2, i3, Or.inr ⟨rfl, k2⟩⟩
      · rw [e, bn2_e, if_neg (by decide), nm_e1, nI_1]
        refine ⟨(1, w'), rfl, f1.trans i1, be', co', f2, f3, Or.inr ⟨rfl, ?_⟩⟩
        rcases i4 with ⟨k1, k2, k3, k4⟩ | ⟨k1, k2⟩
        · rw [← k2, ← k3]; exact f4
        · omega
    exact main
  · intro s ⟨i1, be, co, i2, i3, i4⟩
    have hs := h.frB i1
    refine ⟨(s.1, s.2), ?_, i1, be, co, i2, i3, ?_⟩
    · show bd_X4_findBehind_82 fu (nI a) s.1 (nI (n_R S)) s.2 = _
      unfold bd_X4_findBehind_82
      rw [nm_e1, hs.2.1, if_pos (nI_le (Nat.le_refl _) (by omega))]
    · rcases i4 with ⟨k1, k2, k3, k4⟩ | k
      · exact Or.inl ⟨k1, k2, k3, fun a' b' hab ha' hb' => k4 a' b' (by omega) ha' hb'⟩
      · exact Or.inr k
theorem passAll (h : RMn S v) (hn : NtOK S) {fu : Nat} (hf : 64 < fu) {b0 c0 : Nat → Nat} (w : WS) (f0 : FrB w v) (rb : RB S b0 c0 w) (J : FbInv S g b0 c0) : ∃ r, iter (fun q : Int32 × Int32 × WS => bd_X4_findBehind_71 fu q.1 q.2.1 q.2.2) fu ((0 : Int32), (0 : Int32), w) = some r ∧ PsI S g v b0 c0 (n_R S) 0 r := by
  have hR := hn.2.1
  refine iter_for0 (fun k (s : Int32 × WS) => (s.1, nI k, s.2)) (n_R S) (fun a s => PsI S g v b0 c0 a 0 s) (fun (r : Int32 × WS) => PsI S g v b0 c0 (n_R S) 0 r) ?_ ?_ (by omega) (0, w) ⟨f0, b0, c0, rb, J, Or.inl ⟨rfl, rfl, rfl, fun a' b' hab => by omega⟩⟩
  · intro a s ha hI
    obtain ⟨r, e, k⟩ := passRow h hn hf ha s hI
    have hs := h.frB hI.1
    refine ⟨r, ?_, k⟩
    show bd_X4_findBehind_71 fu s.1 (nI a) s.2 = _
    unfold bd_X4_findBehind_71
    rw [nm_e1, hs.2.1, if_neg (nI_ge ha (by omega)), e]
    show some (Sum.inl (r.1, nI a + 1, r.2)) = _
    rw [nI_1]
  · intro s hI
    have hs := h.frB hI.1
    refine ⟨(s.1, s.2), ?_, hI⟩
    show bd_X4_findBehind_71 fu s.1 (nI (n_R S)) s.2 = _
    unfold bd_X4_findBehind_71
    rw [nm_e1, hs.2.1, if_pos (nI_le (Nat.le_refl _) (by omega))]
theorem fb_while (h : RMn S v) (hn : NtOK S) {fu : Nat} (hf : 64 < fu) : ∀ (M n : Nat) (w : WS) (be co : Nat → Nat), fbMu S be co < M → M + 2 ≤ n → FrB w v → RB S be co w → FbInv S g be co → ∃ r, iter (fun q : Int32 × WS => bd_X4_findBehind_63 fu q.1 q.2) n ((1 : Int32), w) = some r ∧ FrB r v ∧ ∃ be co, RB S be co r ∧ FbInv S g be co ∧ ∀ a b, a < n_R S → b < n_R S → fbCl S be co a b := by
  intro M
  induction M with
  | zero => intro n w be co hm; omega
  | succ M ih =>
    intro n w be co hm hn2 f0 rb J
    obtain ⟨n1, rfl⟩ : ∃ n1, n = n1 + 1 := ⟨n - 1, by omega⟩
    obtain ⟨r, e, i1, be', co', i2, i3, i4⟩ := passAll h hn hf w f0 rb J
    have e1 : bd_X4_findBehind_63 fu 1 w = some (.inl (r.1, r.2)) := by
      unfold bd_X4_findBehind_63
      rw [if_neg (by decide), e]
      rfl
    rw [iter_inl (f := fun q : Int32 × WS => bd_X4_findBehind_63 fu q.1 q.2) (x := ((1 : Int32), w)) e1]
    rcases i4 with ⟨k1, k2, k3, k4⟩ | ⟨k1, k2⟩
    · obtain ⟨n2, rfl⟩ : ∃ n2, n1 = n2 + 1 := ⟨n1 - 1, by omega⟩
      rw [k1, iter_inr (f := fun q : Int32 × WS => bd_X4_findBehind_63 fu q.1 q.2) (x := ((0 : Int32), r.2)) (r := r.2) (if_pos rfl)]
      exact ⟨r.2, rfl, i1, be', co', i2, i3, fun a b ha hb => k4 a b (Or.inl ha) ha hb⟩
    · rw [k1]
      exact ih n1 r.2 be' co' (by omega) (by omega) i1 i2 i3
theorem sm_le {f : Nat → Nat} {C : Nat} : ∀ n, (∀ r, r < n → f r ≤ C) → sm f n ≤ n * C
  | 0, _ => by simp [sm]
  | n + 1, h => by
    have h1 := sm_le n (fun r hr => h r (by omega))
    have h2 := h n (by omega)
    unfold sm
    rw [Nat.succ_mul]
    omega
theorem FbInv.end_ (hn : NtOK S) {be co : Nat → Nat} (J : FbInv S g be co) (hc : ∀ a b, a < n_R S → b < n_R S → fbCl S be co a b) : FbEnd S g be co := by
  refine ⟨fun r hr => ?_, J.2.1, fun a b ha hb h1 h2 => hc a b ha hb h1 h2, J.2.2⟩
  rcases J.1 r hr with e | e
  · exact Or.inl e.1
  · right
    have k := cn_lt (P := fun x => decide (be x < be r)) (Q := fun _ => true) (k0 := r) (by simp) rfl (n_R S) (fun _ _ _ => rfl) hr
    have k2 := cn_le (fun _ => true) (n_R S)
    have := hn.2.1
    exact ⟨e.1, e.2.1, by omega, e.2.2.1⟩
theorem findBehind_ok (h : RMn S v) (hn : NtOK S) {fu : Nat} (hf : 2 ^ 80 ≤ fu) (hg : g < 2 ^ 31) : ∃ r be co, f_X4_findBehind fu v (nI g) = some r ∧ FrB r v ∧ RB S be co r ∧ FbEnd S g be co := by
  have hR := hn.2.1
  obtain ⟨w, e, f0, rb⟩ := fb_init h hn (show 64 < fu by omega) hg
  have J := fb_inv0 (g := g) hn
  have hmu : fbMu S (be0 S g) (fun _ => 1) ≤ n_R S * 1048577000000000000 := by
    refine sm_le (n_R S) fun r hr => ?_
    rcases J.1 r hr with e2 | e2
    · omega
    · have hw := (hn.2.2.1 r hr).2.2.2
      have : be0 S g r ≤ 1000000000000 := by
        unfold be0
        split <;> omega
      show 1048576 * be0 S g r + 1 ≤ _
      omega
  have hmu2 : n_R S * 1048577000000000000 ≤ 64 * 1048577000000000000 := Nat.mul_le_mul_right _ hR
  obtain ⟨r, e2, f1, be, co, rb2, J2, hc⟩ := fb_while h hn (show 64 < fu by omega) (fbMu S (be0 S g) (fun _ => 1) + 1) fu w _ _ (Nat.lt_succ_self _) (by omega) f0 rb J
  refine ⟨r, be, co, ?_, f1, rb2, J2.end_ hn hc⟩
  unfold f_X4_findBehind
  rw [e, bn_e, e2, bn_e]
end FS
