/-! the law: the costs to a goal -/
/-- the cost of a road and of what is behind it, to the goal g -/
noncomputable def tT (S : Nt) (g r : Nat) : Nat := if n_Z S g r < 536870912 then n_w S r + n_Z S g r / 128 else 1000000
def pN (S : Nt) (a b : Nat) : Nat := (n_p S a b).toInt.toNat
def stp (S : Nt) (a b : Nat) : Prop := n_o S a = true ∧ n_fol S a b = true ∧ 0 ≤ (n_p S a b).toInt
section LF
variable {S : Nt} {w f : WS} {fu g : Nat}
theorem np_cases (hn : NtOK S) (a b : Nat) : (0 ≤ (n_p S a b).toInt ∧ n_p S a b = nI (pN S a b) ∧ pN S a b ≤ 1000 ∧ (0 : Int32) ≤ n_p S a b) ∨ (¬ 0 ≤ (n_p S a b).toInt ∧ ¬ (0 : Int32) ≤ n_p S a b) := by
  have h := n_p_le hn a b
  unfold pN
  by_cases c : 0 ≤ (n_p S a b).toInt
  · left
    refine ⟨c, ?_, by omega, Int32.le_iff_toInt_le.mpr c⟩
    apply Int32.toInt_inj.mp
    rw [nI_toInt (by omega)]
    omega
  · exact Or.inr ⟨c, fun h2 => c (Int32.le_iff_toInt_le.mp h2)⟩
theorem tT_le (hn : NtOK S) (hR : n_R S = 9) (hg : g < 5) {r : Nat} (hr : r < 9) : tT S g r ≤ 1000000 := by
  have hB := (Z_ok hn (show g < 2 ^ 31 by omega)).1
  have hw := (hn.2.2.1 r (by omega)).2.2.2.2
  unfold tT
  by_cases h : n_Z S g r < 536870912
  · rw [if_pos h]
    obtain ⟨c, k, k1, k2, k3, _⟩ := Z_k hn hB (by omega) h
    omega
  · rw [if_neg h]
    exact Nat.le_refl _
theorem tT_step (hn : NtOK S) (hR : n_R S = 9) (hg : g < 5) {a b : Nat} (ha : a < 9) (hb : b < 9) (h : stp S a b) : tT S g a ≤ n_w S a + pN S a b + tT S g b := by
  have hB := (Z_ok hn (show g < 2 ^ 31 by omega)).1
  have hle := tT_le hn hR hg ha
  by_cases hl : n_Z S g b < 536870912
  · obtain ⟨c, k, k1, k2, k3, k4⟩ := Z_k hn hB (by omega) hl
    have up := hB.2.1 a (by omega) b (by omega)
    rcases c2_cases hn a b with ⟨_, e2⟩ | ⟨_, e3, e4, e5⟩
    · exact absurd ⟨by omega, by omega, h.1, k4, h.2.1, h.2.2⟩ e2
    · have e1 := s1_eq (S := S) (a := a) (b := b) (by omega)
      have e3 : c2 S a b = pN S a b + n_w S b := e3
      unfold ta at up
      unfold tT
      rw [if_pos hl, if_pos (by omega)]
      omega
  · have e : tT S g b = 1000000 := if_neg hl
    omega
theorem tT_ach (hn : NtOK S) (hR : n_R S = 9) (hg : g < 5) {r : Nat} (hr : r < 9) (hl : n_Z S g r < 536870912) : (n_o S r = true ∧ n_t S r = g ∧ n_Z S g r = 0) ∨ ∃ b, b < 9 ∧ stp S r b ∧ n_Z S g b < 536870912 ∧ n_Z S g r % 128 = n_Z S g b % 128 + 1 ∧ tT S g r = n_w S r + pN S r b + tT S g b := by
  have hB := (Z_ok hn (show g < 2 ^ 31 by omega)).1
  rcases hB.2.2 r (by omega) with e | ⟨b, hb, e⟩
  · left
    by_cases c : n_o S r = true ∧ n_t S r = g
    · have e2 : goalB S g r = 0 := if_pos c
      exact ⟨c.1, c.2, by omega⟩
    · have e2 : goalB S g r = 536870912 := if_neg c
      omega
  · right
    have h0 := ta_lt (show ta 536870912 (s1 S r b) (n_Z S g b) < 536870912 by omega)
    have hs : s1 S r b < 536870912 := by omega
    have hc := (s1_lt hn r b).mp hs
    have e1 := s1_eq hc
    have up := hB.2.1 r (by omega) b hb
    obtain ⟨c, k, k1, k2, k3, k4⟩ := Z_k hn hB hb (show n_Z S g b < 536870912 by omega)
    rcases c2_cases hn r b with ⟨e2, _⟩ | ⟨e2, e3, e4, e5⟩
    · omega
    · have e3 : c2 S r b = pN S r b + n_w S b := e3
      refine ⟨b, by omega, ⟨e2.2.2.1, e2.2.2.2.2.1, e2.2.2.2.2.2⟩, by omega, by omega, ?_⟩
      unfold tT
      rw [if_pos hl, if_pos (by omega)]
      omega
theorem penL_ok (hn : NtOK S) (hl : LR S f) (fu : Nat) (w : WS) {a b : Nat} (ha : a < 9) (hb : b < 9) : f_L_penalty fu w f (n_u S) (nI a) (nI b) = some (n_p S a b) := by
  have hR := hl.2.1
  have j1 := hn.2.2.1 a (by omega)
  have j2 := hn.2.2.1 b (by omega)
  have j3 := hn.1
  have ka := hl.2.2.1 a (by omega)
  have kb := hl.2.2.1 b (by omega)
  unfold f_L_penalty n_p
  rw [p9, ck_t (in81 (by omega)), nm_e1, cl81 (by omega), hl.2.2.2.1 a b ha hb]
  by_cases c : n_s S a b = (-2)
  · rw [if_pos c, if_pos c, ck_t (in9 hb), nm_e1, ck_t (in9 ha), nm_e1, cl9 hb, cl9 ha, kb.2.1, ka.1]
    by_cases e : n_t S b = n_f S a
    · rw [if_pos e, e, if_pos rfl]
    · rw [if_neg e, if_neg (fun h => e ((nI_eq (by omega) (by omega)).mp h))]
  · rw [if_neg c, if_neg c]
theorem find_0 (hn : NtOK S) (hl : LR S f) (hg : g < 5) (hf : 81 < fu) (w : WS) (u : Int32) : ∃ f', iter (fun q : Int32 × WS => bd_L_find_3 fu w u (nI g) q.1 q.2) fu ((0 : Int32), f) = some f' ∧ (∀ c, c ≠ 8 → f'.1 c = f.1 c) ∧ ∀ r, r < 9 → f'.1 8 r = nI (if n_o S r = true ∧ n_t S r = g then n_w S r else 1000000) := by
  have hR := hl.2.1
  have hJ := hn.1
  refine iter_for0 (fun k (s : WS) => (nI k, s)) 9 (fun k s => (∀ c, c ≠ 8 → s.1 c = f.1 c) ∧ ∀ r, r < k → s.1 8 r = nI (if n_o S r = true ∧ n_t S r = g then n_w S r else 1000000)) (fun (f' : WS) => (∀ c, c ≠ 8 → f'.1 c = f.1 c) ∧ ∀ r, r < 9 → f'.1 8 r = nI (if n_o S r = true ∧ n_t S r = g then n_w S r else 1000000)) ?_ ?_ (by omega) _ ⟨fun c _ => rfl, fun i h => absurd h (Nat.not_lt_zero i)⟩
  · intro k s hk ⟨i1, i2⟩
    have hs : LR S s := hl.same (i1 0 (by decide)) (i1 1 (by decide)) (i1 2 (by decide)) (i1 3 (by decide)) (i1 4 (by decide)) (i1 5 (by decide))
    have kk := hs.2.2.1 k (by omega)
    have j1 := hn.2.2.1 k (by omega)
    refine ⟨wI s 8 k (nI (if n_o S k = true ∧ n_t S k = g then n_w S k else 1000000)), ?_, fun c hc => by rw [wI_n hc]; exact i1 c hc, fun i hi => ?_⟩
    · show bd_L_find_3 fu w u (nI g) (nI k) s = _
      unfold bd_L_find_3
      rw [if_neg (show ¬ (9 : Int32) ≤ nI k from nI_ge (b := 9) hk (by decide)), ck_t (in9 hk), nm_e1, cl9 hk, hs.2.2.2.2.1 k hk, if_zo]
      by_cases c : n_o S k = true
      · rw [if_pos c, ck_t (in9 hk), nm_e1, kk.2.1]
        by_cases e : n_t S k = g
        · rw [if_pos (by rw [e]), ck_t (in9 hk), nm_e1, kk.2.2, ck_t (in9 hk), nm_e1, nm_e1, nI_1, if_pos ⟨c, e⟩]
        · rw [if_neg (fun h => e ((nI_eq (by omega) (by omega)).mp h)), ck_t (in9 hk), nm_e1, nm_e1, nI_1, if_neg (fun h => e h.2)]
          rfl
      · rw [if_neg c, ck_t (in9 hk), nm_e1, nm_e1, nI_1, if_neg (fun h => c h.1)]
        rfl
    · rw [wI_at]
      by_cases e : i = k
      · rw [if_pos ⟨rfl, e⟩, e]
      · rw [if_neg (fun h => e h.2)]
        exact i2 i (by omega)
  · intro s hs
    refine ⟨s, ?_, hs⟩
    show bd_L_find_3 fu w u (nI g) (nI 9) s = _
    unfold bd_L_find_3
    rw [if_pos (show (9 : Int32) ≤ nI 9 from nI_le (a := 9) (Nat.le_refl _) (by decide))]
/-- in round t, the roads before a are done -/
def KI (S : Nt) (g t a : Nat) (f0 f : WS) (K : Nat → Nat) : Prop := (∀ c, c ≠ 8 → f.1 c = f0.1 c) ∧ ∀ r, r < 9 → f.1 8 r = nI (K r) ∧ tT S g r ≤ K r ∧ K r ≤ 1000000 ∧ (n_Z S g r < 536870912 → n_Z S g r % 128 ≤ t → K r = tT S g r) ∧ (r < a → n_Z S g r < 536870912 → n_Z S g r % 128 ≤ t + 1 → K r = tT S g r)
def KJ (S : Nt) (g t a b : Nat) (K : Nat → Nat) : Prop := ∀ b', b' < b → b' < 9 → stp S a b' → n_Z S g b' < 536870912 → n_Z S g b' % 128 ≤ t → K a ≤ n_w S a + pN S a b' + tT S g b'
theorem KJ_skip {t a b : Nat} {K : Nat → Nat} (h : KJ S g t a b K) (hs : ¬ stp S a b) : KJ S g t a (b + 1) K := fun b' h1 h2 h3 h4 h5 => by
  by_cases e : b' = b
  · rw [e] at h3
    exact absurd h3 hs
  · exact h b' (by omega) h2 h3 h4 h5
theorem find_b (hn : NtOK S) (hl : LR S f) (hg : g < 5) (hf : 81 < fu) (w : WS) (y : Int32) {t a : Nat} (ha : a < 9) {s0 : WS} {K0 : Nat → Nat} (h0 : KI S g t a f s0 K0) : ∃ f', iter (fun q : Int32 × WS => bd_L_find_69 fu w (n_u S) y (nI a) q.1 q.2) fu ((0 : Int32), s0) = some f' ∧ ∃ K, KI S g t a f f' K ∧ KJ S g t a 9 K := by
  have hR := hl.2.1
  have hJ := hn.1
  refine iter_for0 (fun k (s : WS) => (nI k, s)) 9 (fun k s => ∃ K, KI S g t a f s K ∧ KJ S g t a k K) (fun (f' : WS) => ∃ K, KI S g t a f f' K ∧ KJ S g t a 9 K) ?_ ?_ (by omega) _ ⟨K0, h0, fun b' h => absurd h (Nat.not_lt_zero b')⟩
  · intro b s hb ⟨K, i1, i2⟩
    have hs : LR S s := hl.same (i1.1 0 (by decide)) (i1.1 1 (by decide)) (i1.1 2 (by decide)) (i1.1 3 (by decide)) (i1.1 4 (by decide)) (i1.1 5 (by decide))
    have ka := hs.2.2.1 a (by omega)
    have kb := hs.2.2.1 b (by omega)
    have j1 := hn.2.2.1 a (by omega)
    have j2 := hn.2.2.1 b (by omega)
    have Ka := i1.2 a ha
    have Kb := i1.2 b hb
    show ∃ s', bd_L_find_69 fu w (n_u S) y (nI a) (nI b) s = some (.inl (nI (b + 1), s')) ∧ _
    unfold bd_L_find_69
    rw [if_neg (show ¬ (9 : Int32) ≤ nI b from nI_ge (b := 9) hb (by decide)), ck_t (in9 ha), nm_e1, cl9 ha, hs.2.2.2.2.1 a ha, if_zo]
    by_cases c1 : n_o S a = true
    · rw [if_pos c1, ck_t (in9 ha), nm_e1, ck_t (in9 hb), nm_e1, cl9 hb, ka.2.1, kb.1]
      by_cases c2 : n_t S a = n_f S b
      · rw [if_pos (by rw [c2]), penL_ok hn hs fu w ha hb, bn_e]
        rcases np_cases hn a b with ⟨c3, e3, e4, e5⟩ | ⟨c3, e5⟩
        · rw [if_pos e5, ck_t (in9 ha), nm_e1, ck_t (in9 ha), nm_e1, bn_e, ck_t (in9 hb), nm_e1, ck_t (in9 ha), nm_e1, nm_e1, nI_1, ka.2.2, Ka.1, Kb.1, e3, nI_add, nI_add, min_nI (by omega) (by omega)]
          have hst : stp S a b := ⟨c1, by unfold n_fol; rw [c2]; exact beq_self_eq_true _, c3⟩
          have hT := tT_step hn hR hg ha hb hst
          refine ⟨_, rfl, updN K a (min (K a) (n_w S a + pN S a b + K b)), ⟨fun c hc => by rw [wI_n hc]; exact i1.1 c hc, fun r hr => ?_⟩, fun b' q1 q2 q3 q4 q5 => ?_⟩
          · rw [wI_at]
            by_cases e : r = a
            · rw [if_pos ⟨rfl, e⟩, e, updN_s]
              refine ⟨rfl, by omega, by omega, fun z1 z2 => ?_, fun z0 z1 z2 => ?_⟩
              · have := Ka.2.2.2.1 z1 z2
                omega
              · have := Ka.2.2.2.2 z0 z1 z2
                omega
            · rw [if_neg (fun h => e h.2), updN_n e]
              exact i1.2 r hr
          · rw [updN_s]
            by_cases e : b' = b
            · rw [e] at q4 q5 ⊢
              have := Kb.2.2.2.1 q4 q5
              omega
            · have := i2 b' (by omega) q2 q3 q4 q5
              omega
        · rw [if_neg e5, nm_e1, nI_1]
          exact ⟨s, rfl, K, i1, KJ_skip i2 (fun h => c3 h.2.2)⟩
      · rw [if_neg (fun h => c2 ((nI_eq (by omega) (by omega)).mp h)), nm_e1, nI_1]
        exact ⟨s, rfl, K, i1, KJ_skip i2 (fun h => c2 (by have := h.2.1; unfold n_fol at this; exact beq_iff_eq.mp this))⟩
    · rw [if_neg c1, nm_e1, nI_1]
      exact ⟨s, rfl, K, i1, KJ_skip i2 (fun h => c1 h.1)⟩
  · intro s hs
    refine ⟨s, ?_, hs⟩
    show bd_L_find_69 fu w (n_u S) y (nI a) (nI 9) s = _
    unfold bd_L_find_69
    rw [if_pos (show (9 : Int32) ≤ nI 9 from nI_le (a := 9) (Nat.le_refl _) (by decide))]
theorem find_a (hn : NtOK S) (hl : LR S f) (hg : g < 5) (hf : 81 < fu) (w : WS) (y : Int32) {t : Nat} {s0 : WS} {K0 : Nat → Nat} (h0 : KI S g t 0 f s0 K0) : ∃ f', iter (fun q : Int32 × WS => bd_L_find_59 fu w (n_u S) y q.1 q.2) fu ((0 : Int32), s0) = some f' ∧ ∃ K, KI S g (t + 1) 0 f f' K := by
  have hR := hl.2.1
  refine iter_for0 (fun k (s : WS) => (nI k, s)) 9 (fun k s => ∃ K, KI S g t k f s K) (fun (f' : WS) => ∃ K, KI S g (t + 1) 0 f f' K) ?_ ?_ (by omega) _ ⟨K0, h0⟩
  · intro a s ha ⟨K, i1⟩
    obtain ⟨f', e, K', k1, k2⟩ := find_b (fu := fu) hn hl hg hf w y ha i1
    refine ⟨f', ?_, K', k1.1, fun r hr => ?_⟩
    · show bd_L_find_59 fu w (n_u S) y (nI a) s = _
      unfold bd_L_find_59
      rw [if_neg (show ¬ (9 : Int32) ≤ nI a from nI_ge (b := 9) ha (by decide)), e, bn_e, nm_e1, nI_1]
    · have k := k1.2 r hr
      refine ⟨k.1, k.2.1, k.2.2.1, k.2.2.2.1, fun z0 z1 z2 => ?_⟩
      by_cases e : r = a
      · rcases tT_ach hn hR hg hr z1 with ⟨_, _, z3⟩ | ⟨b, hb, hst, z3, z4, z5⟩
        · exact k.2.2.2.1 z1 (by omega)
        · rw [e] at hst z4 z5 k ⊢
          have q := k2 b hb hb hst z3 (by rw [e] at z2; omega)
          have q2 := k.2.1
          omega
      · exact k.2.2.2.2 (by omega) z1 z2
  · intro s ⟨K, i1⟩
    refine ⟨s, ?_, K, i1.1, fun r hr => ?_⟩
    · show bd_L_find_59 fu w (n_u S) y (nI 9) s = _
      unfold bd_L_find_59
      rw [if_pos (show (9 : Int32) ≤ nI 9 from nI_le (a := 9) (Nat.le_refl _) (by decide))]
    · have k := i1.2 r hr
      exact ⟨k.1, k.2.1, k.2.2.1, fun z1 z2 => k.2.2.2.2 hr z1 z2, fun z0 => absurd z0 (Nat.not_lt_zero r)⟩
theorem find_ok (hn : NtOK S) (hl : LR S f) (hg : g < 5) (hf : 81 < fu) (w : WS) : ∃ f', f_L_find fu w f (n_u S) (nI g) = some f' ∧ (∀ c, c ≠ 8 → f'.1 c = f.1 c) ∧ ∀ r, r < 9 → f'.1 8 r = nI (tT S g r) := by
  have hR := hl.2.1
  have hB := (Z_ok hn (show g < 2 ^ 31 by omega)).1
  obtain ⟨f1, e1, q1, q2⟩ := find_0 (fu := fu) hn hl hg hf w (n_u S)
  have h0 : KI S g 0 0 f f1 (fun r => if n_o S r = true ∧ n_t S r = g then n_w S r else 1000000) := by
    refine ⟨q1, fun r hr => ⟨q2 r hr, ?_, ?_, fun z1 z2 => ?_, fun z0 => absurd z0 (Nat.not_lt_zero r)⟩⟩
    · dsimp only
      by_cases c : n_o S r = true ∧ n_t S r = g
      · rw [if_pos c]
        have e2 : goalB S g r = 0 := if_pos c
        have k := hB.1 r (by omega)
        unfold tT
        rw [if_pos (by omega)]
        omega
      · rw [if_neg c]
        exact tT_le hn hR hg hr
    · dsimp only
      have hw := (hn.2.2.1 r (by omega)).2.2.2.2
      split <;> omega
    · dsimp only
      rcases tT_ach hn hR hg hr z1 with ⟨c1, c2, z3⟩ | ⟨b, hb, hst, z3, z4, z5⟩
      · rw [if_pos ⟨c1, c2⟩]
        unfold tT
        rw [if_pos z1, z3]
        omega
      · omega
  have l : ∃ f', iter (fun q : Int32 × WS => bd_L_find_49 fu w (n_u S) q.1 q.2) fu ((0 : Int32), f1) = some f' ∧ ∃ K, KI S g 9 0 f f' K := by
    refine iter_for0 (fun k (s : WS) => (nI k, s)) 9 (fun k s => ∃ K, KI S g k 0 f s K) (fun (f' : WS) => ∃ K, KI S g 9 0 f f' K) ?_ ?_ (by omega) _ ⟨_, h0⟩
    · intro t s ht ⟨K, i1⟩
      obtain ⟨f', e, K', k1⟩ := find_a (fu := fu) hn hl hg hf w (nI t) i1
      refine ⟨f', ?_, K', k1⟩
      show bd_L_find_49 fu w (n_u S) (nI t) s = _
      unfold bd_L_find_49
      rw [if_neg (show ¬ (9 : Int32) ≤ nI t from nI_ge (b := 9) ht (by decide)), e, bn_e, nm_e1, nI_1]
    · intro s hs
      refine ⟨s, ?_, hs⟩
      show bd_L_find_49 fu w (n_u S) (nI 9) s = _
      unfold bd_L_find_49
      rw [if_pos (show (9 : Int32) ≤ nI 9 from nI_le (a := 9) (Nat.le_refl _) (by decide))]
  obtain ⟨f', e, K, k1, k2⟩ := l
  refine ⟨f', ?_, k1, fun r hr => ?_⟩
  · unfold f_L_find
    rw [e1, bn_e, e, bn_e]
  · have k := k2 r hr
    have hle := tT_le hn hR hg hr
    rw [k.1]
    by_cases hl : n_Z S g r < 536870912
    · obtain ⟨c, j, j1, j2, j3, _⟩ := Z_k hn hB (by omega) hl
      rw [k.2.2.2.1 hl (by omega)]
    · have e : tT S g r = 1000000 := if_neg hl
      have := k.2.1
      have := k.2.2.1
      rw [show K r = tT S g r by omega]
end LF
