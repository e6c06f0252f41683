/-! lengths with a bound I that stands for 'none': the theory of tables and sweeps, no machine in it -/
def ta (I x y : Nat) : Nat := min I (x + y)
theorem ta_le (I x y : Nat) : ta I x y ≤ I := Nat.min_le_left _ _
theorem ta_mono {I x y x1 y1 : Nat} (h1 : x ≤ x1) (h2 : y ≤ y1) : ta I x y ≤ ta I x1 y1 := by unfold ta; omega
theorem ta_assoc (I x y z : Nat) : ta I (ta I x y) z = ta I x (ta I y z) := by unfold ta; omega
theorem ta_comm (I x y : Nat) : ta I x y = ta I y x := by unfold ta; omega
theorem ta_lt {I x y : Nat} (h : ta I x y < I) : x + y < I ∧ ta I x y = x + y := by unfold ta at h ⊢; omega
/-- how many below n -/
def cn (P : Nat → Bool) : Nat → Nat
  | 0 => 0
  | n + 1 => cn P n + if P n then 1 else 0
theorem cn_le (P : Nat → Bool) : ∀ n, cn P n ≤ n
  | 0 => Nat.le_refl 0
  | n + 1 => by
    have := cn_le P n
    unfold cn
    split <;> omega
theorem cn_mono {P Q : Nat → Bool} : ∀ n, (∀ k, k < n → P k = true → Q k = true) → cn P n ≤ cn Q n
  | 0, _ => Nat.le_refl 0
  | n + 1, h => by
    have ih := cn_mono n (fun k hk => h k (by omega))
    have h1 := h n (by omega)
    unfold cn
    by_cases hp : P n = true
    · rw [if_pos hp, if_pos (h1 hp)]; omega
    · rw [if_neg hp]; omega
theorem cn_lt {P Q : Nat → Bool} {k0 : Nat} (hP : P k0 = false) (hQ : Q k0 = true) : ∀ n, (∀ k, k < n → P k = true → Q k = true) → k0 < n → cn P n + 1 ≤ cn Q n
  | 0, _, hk => absurd hk (Nat.not_lt_zero _)
  | n + 1, h, hk => by
    by_cases he : k0 = n
    · subst he
      have := cn_mono k0 (fun k hk => h k (by omega))
      unfold cn
      rw [if_pos hQ, hP]
      simp only [Bool.false_eq_true, if_false]
      omega
    · have ih := cn_lt hP hQ n (fun k hk => h k (by omega)) (by omega)
      have h1 := h n (by omega)
      unfold cn
      by_cases hp : P n = true
      · rw [if_pos hp, if_pos (h1 hp)]; omega
      · rw [if_neg hp]; omega
theorem cn_congr {P Q : Nat → Bool} : ∀ n, (∀ k, k < n → P k = Q k) → cn P n = cn Q n
  | 0, _ => rfl
  | n + 1, h => by
    unfold cn
    rw [cn_congr n (fun k hk => h k (by omega)), h n (by omega)]
/-! the table of all pairs, with stops o 0, o 1, .. added one by one -/
def FW (I : Nat) (s : Nat → Nat → Nat) (o : Nat → Nat) : Nat → Nat → Nat → Nat
  | 0, a, b => s a b
  | p + 1, a, b => min (FW I s o p a b) (ta I (FW I s o p a (o p)) (FW I s o p (o p) b))
section FWT
variable {I : Nat} {s : Nat → Nat → Nat} {o : Nat → Nat}
theorem FW_I (hs : ∀ a b, s a b ≤ I) : ∀ p a b, FW I s o p a b ≤ I
  | 0, a, b => hs a b
  | p + 1, a, b => Nat.le_trans (Nat.min_le_left _ _) (FW_I hs p a b)
theorem FW_s1 (p a b : Nat) : FW I s o (p + 1) a b ≤ FW I s o p a b := Nat.min_le_left _ _
theorem FW_anti {p : Nat} (a b : Nat) : ∀ d, FW I s o (p + d) a b ≤ FW I s o p a b
  | 0 => Nat.le_refl _
  | d + 1 => Nat.le_trans (FW_s1 (p + d) a b) (FW_anti a b d)
theorem FW_le {p q : Nat} (h : p ≤ q) (a b : Nat) : FW I s o q a b ≤ FW I s o p a b := by
  have := FW_anti (I := I) (s := s) (o := o) (p := p) a b (q - p)
  rwa [show p + (q - p) = q by omega] at this
theorem FW_les (p a b : Nat) : FW I s o p a b ≤ s a b := FW_le (p := 0) (Nat.zero_le p) a b
theorem FW_stopL (hs : ∀ a b, s a b ≤ I) (p a : Nat) : FW I s o (p + 1) a (o p) = FW I s o p a (o p) := by
  have h1 := FW_I (o := o) hs p a (o p)
  show min _ (ta I _ _) = _
  unfold ta
  omega
theorem FW_stopR (hs : ∀ a b, s a b ≤ I) (p b : Nat) : FW I s o (p + 1) (o p) b = FW I s o p (o p) b := by
  have h1 := FW_I (o := o) hs p (o p) b
  show min _ (ta I _ _) = _
  unfold ta
  omega
theorem FW_tri (hs : ∀ a b, s a b ≤ I) : ∀ p k, k < p → ∀ a b, FW I s o p a b ≤ ta I (FW I s o p a (o k)) (FW I s o p (o k) b)
  | 0, k, hk, _, _ => absurd hk (Nat.not_lt_zero k)
  | p + 1, k, hk, a, b => by
    by_cases he : k = p
    · subst he
      rw [FW_stopL hs k a, FW_stopR hs k b]
      exact Nat.min_le_right _ _
    · have ih := FW_tri hs p k (by omega)
      have i1 := ih a b
      have i2 := ih (o p) b
      have i3 := ih a (o p)
      have i4 := ih (o p) (o p)
      show min (FW I s o p a b) (ta I (FW I s o p a (o p)) (FW I s o p (o p) b)) ≤ ta I (min (FW I s o p a (o k)) (ta I (FW I s o p a (o p)) (FW I s o p (o p) (o k)))) (min (FW I s o p (o k) b) (ta I (FW I s o p (o k) (o p)) (FW I s o p (o p) b)))
      unfold ta at *
      omega
theorem FW_ach (hs : ∀ a b, s a b ≤ I) : ∀ p a b, FW I s o p a b = s a b ∨ ∃ k, k < p ∧ ta I (s a (o k)) (FW I s o p (o k) b) ≤ FW I s o p a b
  | 0, a, b => Or.inl rfl
  | p + 1, a, b => by
    have e : FW I s o (p + 1) a b = min (FW I s o p a b) (ta I (FW I s o p a (o p)) (FW I s o p (o p) b)) := rfl
    by_cases hc : FW I s o p a b ≤ ta I (FW I s o p a (o p)) (FW I s o p (o p) b)
    · rw [Nat.min_eq_left hc] at e
      rcases FW_ach hs p a b with h | ⟨k, hk, h⟩
      · exact Or.inl (e.trans h)
      · refine Or.inr ⟨k, by omega, Nat.le_trans (ta_mono (Nat.le_refl _) (FW_s1 p (o k) b)) (by rw [e]; exact h)⟩
    · rw [Nat.min_eq_right (by omega)] at e
      rw [e]
      rcases FW_ach hs p a (o p) with h | ⟨k, hk, h⟩
      · refine Or.inr ⟨p, by omega, ?_⟩
        rw [h]
        exact ta_mono (Nat.le_refl _) (FW_s1 p (o p) b)
      · refine Or.inr ⟨k, by omega, ?_⟩
        have h2 : FW I s o (p + 1) (o k) b ≤ ta I (FW I s o p (o k) (o p)) (FW I s o p (o p) b) := Nat.min_le_right _ _
        refine Nat.le_trans (ta_mono (Nat.le_refl _) h2) ?_
        rw [← ta_assoc]
        exact ta_mono h (Nat.le_refl _)
/-- the table unrolled: the last stop of all decides -/
theorem FW_unr : ∀ p a b, FW I s o p a b = s a b ∨ ∃ k, k < p ∧ FW I s o p a b = ta I (FW I s o k a (o k)) (FW I s o k (o k) b)
  | 0, a, b => Or.inl rfl
  | p + 1, a, b => by
    have e : FW I s o (p + 1) a b = min (FW I s o p a b) (ta I (FW I s o p a (o p)) (FW I s o p (o p) b)) := rfl
    by_cases hc : FW I s o p a b ≤ ta I (FW I s o p a (o p)) (FW I s o p (o p) b)
    · rw [Nat.min_eq_left hc] at e
      rcases FW_unr p a b with h | ⟨k, hk, h⟩
      · exact Or.inl (e.trans h)
      · exact Or.inr ⟨k, by omega, e.trans h⟩
    · rw [Nat.min_eq_right (by omega)] at e
      exact Or.inr ⟨p, by omega, e⟩
theorem FW_unr2 {p k : Nat} (hk : k < p) (a b : Nat) : FW I s o p a b ≤ ta I (FW I s o k a (o k)) (FW I s o k (o k) b) :=
  Nat.le_trans (FW_le (show k + 1 ≤ p from hk) a b) (Nat.min_le_right _ _)
theorem FW_bound (hs : ∀ a b, s a b ≤ I) (hp : ∀ a b, 0 < s a b) {M : Nat} (hM : ∀ a b, s a b < I → s a b ≤ M) (p b : Nat) : ∀ (N x : Nat), FW I s o p x b = N → N < I → N ≤ M * (1 + cn (fun k => decide (FW I s o p (o k) b < N)) p) := by
  intro N
  induction N using Nat.strongRecOn with
  | ind N ih =>
    intro x hx hN
    rcases FW_ach (o := o) hs p x b with h | ⟨k, hk, h⟩
    · have := hM x b (by omega)
      have h2 : M * 1 ≤ M * (1 + cn (fun k => decide (FW I s o p (o k) b < N)) p) := Nat.mul_le_mul_left M (by omega)
      omega
    · have h0 := ta_lt (show ta I (s x (o k)) (FW I s o p (o k) b) < I by omega)
      have hpos := hp x (o k)
      have hlt : FW I s o p (o k) b < N := by omega
      have i1 := ih _ hlt (o k) rfl (by omega)
      have i2 := hM x (o k) (by omega)
      have i3 := Nat.le_trans (FW_tri (o := o) hs p k hk x b) (ta_mono (FW_les p x (o k)) (Nat.le_refl (FW I s o p (o k) b)))
      have i4 := cn_lt (P := fun j => decide (FW I s o p (o j) b < FW I s o p (o k) b)) (Q := fun j => decide (FW I s o p (o j) b < N)) (k0 := k) (by simp) (by simp [hlt]) p (fun j _ hj => by simp at hj ⊢; omega) hk
      have i5 : M * (1 + (1 + cn (fun j => decide (FW I s o p (o j) b < FW I s o p (o k) b)) p)) ≤ M * (1 + cn (fun j => decide (FW I s o p (o j) b < N)) p) := Nat.mul_le_mul_left M (by omega)
      rw [Nat.mul_add, Nat.mul_one] at i5
      omega
theorem FW_bound2 (hs : ∀ a b, s a b ≤ I) (hp : ∀ a b, 0 < s a b) {M : Nat} (hM : ∀ a b, s a b < I → s a b ≤ M) (p x b : Nat) (h : FW I s o p x b < I) : FW I s o p x b ≤ M * (1 + p) :=
  Nat.le_trans (FW_bound hs hp hM p b _ x rfl h) (Nat.mul_le_mul_left M (by have := cn_le (fun k => decide (FW I s o p (o k) b < FW I s o p x b)) p; omega))
end FWT
/-- costs alone, and costs packed with the number of steps: below -/
theorem FW_packL {I1 I2 : Nat} {s1 s2 : Nat → Nat → Nat} {o : Nat → Nat} (h1 : ∀ a b, s1 a b ≤ I1) (h : ∀ a b, s1 a b < I1 → s2 a b < I2 ∧ 128 * s2 a b + 1 ≤ s1 a b) (hI : I1 < 128 * I2) : ∀ p a b, FW I1 s1 o p a b < I1 → FW I2 s2 o p a b < I2 ∧ 128 * FW I2 s2 o p a b + 1 ≤ FW I1 s1 o p a b
  | 0, a, b, hl => h a b hl
  | p + 1, a, b, hl => by
    have e1 : FW I1 s1 o (p + 1) a b = min (FW I1 s1 o p a b) (ta I1 (FW I1 s1 o p a (o p)) (FW I1 s1 o p (o p) b)) := rfl
    have e2 : FW I2 s2 o (p + 1) a b = min (FW I2 s2 o p a b) (ta I2 (FW I2 s2 o p a (o p)) (FW I2 s2 o p (o p) b)) := rfl
    by_cases hc : FW I1 s1 o p a b ≤ ta I1 (FW I1 s1 o p a (o p)) (FW I1 s1 o p (o p) b)
    · have := FW_packL (o := o) h1 h hI p a b (by omega)
      omega
    · have h0 := ta_lt (show ta I1 (FW I1 s1 o p a (o p)) (FW I1 s1 o p (o p) b) < I1 by omega)
      have i1 := FW_packL (o := o) h1 h hI p a (o p) (by omega)
      have i2 := FW_packL (o := o) h1 h hI p (o p) b (by omega)
      unfold ta at *
      omega
/-- .. and above -/
theorem FW_packU {I1 I2 : Nat} {s1 s2 : Nat → Nat → Nat} {o : Nat → Nat} (h1 : ∀ a b, s1 a b ≤ I1) (h2 : ∀ a b, s2 a b ≤ I2) (hp : ∀ a b, 0 < s2 a b) (h : ∀ a b, s2 a b < I2 → s1 a b ≤ 128 * s2 a b + 1) (p b : Nat) : ∀ (N x : Nat), FW I2 s2 o p x b = N → N < I2 → FW I1 s1 o p x b ≤ 128 * N + 1 + cn (fun k => decide (FW I2 s2 o p (o k) b < N)) p := by
  intro N
  induction N using Nat.strongRecOn with
  | ind N ih =>
    intro x hx hN
    rcases FW_ach (o := o) h2 p x b with h0 | ⟨k, hk, h0⟩
    · have := h x b (by omega)
      have := FW_les (I := I1) (s := s1) (o := o) p x b
      omega
    · have hl := ta_lt (show ta I2 (s2 x (o k)) (FW I2 s2 o p (o k) b) < I2 by omega)
      have hpos := hp x (o k)
      have hlt : FW I2 s2 o p (o k) b < N := by omega
      have i1 := ih _ hlt (o k) rfl (by omega)
      have i2 := h x (o k) (by omega)
      have i3 := Nat.le_trans (FW_tri (o := o) h1 p k hk x b) (ta_mono (FW_les p x (o k)) (Nat.le_refl (FW I1 s1 o p (o k) b)))
      have i4 := cn_lt (P := fun j => decide (FW I2 s2 o p (o j) b < FW I2 s2 o p (o k) b)) (Q := fun j => decide (FW I2 s2 o p (o j) b < N)) (k0 := k) (by simp) (by simp [hlt]) p (fun j _ hj => by simp at hj ⊢; omega) hk
      unfold ta at i3 h0
      omega
/-! a system of lengths towards goals -/
def Bell (I n : Nat) (s : Nat → Nat → Nat) (base Z : Nat → Nat) : Prop := (∀ r, r < n → Z r ≤ base r) ∧ (∀ r, r < n → ∀ b, b < n → Z r ≤ ta I (s r b) (Z b)) ∧ ∀ r, r < n → Z r = base r ∨ ∃ b, b < n ∧ ta I (s r b) (Z b) ≤ Z r
theorem Bell.le {I n : Nat} {s : Nat → Nat → Nat} {base Z Z1 : Nat → Nat} (hp : ∀ a b, 0 < s a b) (hb : ∀ r, r < n → base r ≤ I) (h : Bell I n s base Z) (h1 : Bell I n s base Z1) : ∀ (N r : Nat), r < n → Z r = N → Z1 r ≤ N := by
  intro N
  induction N using Nat.strongRecOn with
  | ind N ih =>
    intro r hr hN
    rcases h.2.2 r hr with h0 | ⟨b, hbn, h0⟩
    · have := h1.1 r hr; omega
    · have k1 := h1.2.1 r hr b hbn
      have k2 := hp r b
      by_cases hI : ta I (s r b) (Z b) < I
      · have hl := ta_lt hI
        have i1 := ih (Z b) (by omega) b hbn rfl
        unfold ta at *
        omega
      · have := hb r hr
        have := h1.1 r hr
        have := ta_le I (s r b) (Z b)
        omega
theorem Bell.uniq {I n : Nat} {s : Nat → Nat → Nat} {base Z Z1 : Nat → Nat} (hp : ∀ a b, 0 < s a b) (hb : ∀ r, r < n → base r ≤ I) (h : Bell I n s base Z) (h1 : Bell I n s base Z1) (r : Nat) (hr : r < n) : Z r = Z1 r :=
  Nat.le_antisymm (h1.le hp hb h _ r hr rfl) (h.le hp hb h1 _ r hr rfl)
/-- the least over starts of base and way on, and the least over goals: forwards and backwards are the same -/
theorem Bell.dual {I n : Nat} {s : Nat → Nat → Nat} {bF bB Y Z : Nat → Nat} (hp : ∀ a b, 0 < s a b) (hF : ∀ r, r < n → bF r ≤ I) (hB : ∀ r, r < n → bB r ≤ I) (hY : Bell I n (fun a b => s b a) bF Y) (hZ : Bell I n s bB Z) {m : Nat} (hm : m ≤ I) :
    (∀ r, r < n → m ≤ ta I (bF r) (Z r)) ↔ ∀ r, r < n → m ≤ ta I (Y r) (bB r) := by
  constructor
  · intro h
    have key : ∀ (N x : Nat), x < n → Y x = N → m ≤ ta I (Y x) (Z x) := by
      intro N
      induction N using Nat.strongRecOn with
      | ind N ih =>
        intro x hx hN
        rcases hY.2.2 x hx with h0 | ⟨a, ha, h0⟩
        · rw [h0]; exact h x hx
        · have h0 : ta I (s a x) (Y a) ≤ Y x := h0
          have k1 := hZ.2.1 a ha x hx
          have k2 := hp a x
          by_cases hI : ta I (s a x) (Y a) < I
          · have hl := ta_lt hI
            have i1 := ih (Y a) (by omega) a ha rfl
            unfold ta at *
            omega
          · unfold ta at *
            omega
    intro r hr
    exact Nat.le_trans (key _ r hr rfl) (ta_mono (Nat.le_refl _) (hZ.1 r hr))
  · intro h
    have key : ∀ (N x : Nat), x < n → Z x = N → m ≤ ta I (Y x) (Z x) := by
      intro N
      induction N using Nat.strongRecOn with
      | ind N ih =>
        intro x hx hN
        rcases hZ.2.2 x hx with h0 | ⟨a, ha, h0⟩
        · rw [h0]; exact h x hx
        · have k1 : Y a ≤ ta I (s x a) (Y x) := hY.2.1 a ha x hx
          have k2 := hp x a
          by_cases hI : ta I (s x a) (Z a) < I
          · have hl := ta_lt hI
            have i1 := ih (Z a) (by omega) a ha rfl
            unfold ta at *
            omega
          · unfold ta at *
            omega
    intro r hr
    exact Nat.le_trans (key _ r hr rfl) (ta_mono (hY.1 r hr) (Nat.le_refl _))
/-! lengths of arcs over an order, and the two sweeps -/
def Arcs (I n : Nat) (s : Nat → Nat → Nat) (pos : Nat → Nat) (arc : Nat → Nat → Prop) (L : Nat → Nat → Nat) : Prop :=
  (∀ a b, a < n → b < n → ¬ arc a b → s a b = I) ∧
  (∀ a b, a < n → b < n → arc a b → L a b ≤ s a b) ∧
  (∀ a x b, a < n → x < n → b < n → arc a x → arc x b → pos x < pos a → pos x < pos b → a ≠ b → arc a b ∧ L a b ≤ ta I (L a x) (L x b)) ∧
  (∀ a b, a < n → b < n → arc a b → L a b = s a b ∨ ∃ x, x < n ∧ arc a x ∧ arc x b ∧ pos x < pos a ∧ pos x < pos b ∧ ta I (L a x) (L x b) ≤ L a b) ∧
  (∀ a b, a < n → b < n → arc a b → a ≠ b) ∧ (∀ a b, a < n → b < n → pos a = pos b → a = b) ∧ ∀ a, a < n → pos a < n
def Sweep (I n : Nat) (pos : Nat → Nat) (arc : Nat → Nat → Prop) (L : Nat → Nat → Nat) (base U Z : Nat → Nat) : Prop :=
  (∀ r, r < n → U r ≤ base r) ∧ (∀ r v, r < n → v < n → arc r v → pos v < pos r → U r ≤ ta I (L r v) (U v)) ∧
  (∀ r, r < n → U r = base r ∨ ∃ v, v < n ∧ arc r v ∧ pos v < pos r ∧ ta I (L r v) (U v) ≤ U r) ∧
  (∀ r, r < n → Z r ≤ U r) ∧ (∀ r u, r < n → u < n → arc r u → pos r < pos u → Z r ≤ ta I (L r u) (Z u)) ∧
  ∀ r, r < n → Z r = U r ∨ ∃ u, u < n ∧ arc r u ∧ pos r < pos u ∧ ta I (L r u) (Z u) ≤ Z r
theorem sweep_closed {I n : Nat} {s : Nat → Nat → Nat} {pos : Nat → Nat} {arc : Nat → Nat → Prop} {L : Nat → Nat → Nat} {base U Z : Nat → Nat} (hA : Arcs I n s pos arc L) (hS : Sweep I n pos arc L base U Z) (hb : ∀ r, r < n → base r ≤ I) :
    ∀ (d r b : Nat), r < n → b < n → arc r b → n ≤ min (pos r) (pos b) + d → Z r ≤ ta I (L r b) (Z b) := by
  obtain ⟨a1, a2, a3, a4, a5, a6, a7⟩ := hA
  obtain ⟨s1, s2, s3, s4, s5, s6⟩ := hS
  intro d
  induction d with
  | zero =>
    intro r b hr hb _ h
    have := a7 r hr
    omega
  | succ d ih =>
    intro r b hr hbn harc h
    have hne := a5 r b hr hbn harc
    by_cases hp : pos r < pos b
    · exact s5 r b hr hbn harc hp
    · have hp2 : pos b < pos r := by
        have : pos r ≠ pos b := fun e => hne (a6 r b hr hbn e)
        omega
      rcases s6 b hbn with h0 | ⟨u, hu, hau, hpu, h0⟩
      · rw [h0]
        exact Nat.le_trans (s4 r hr) (s2 r b hr hbn harc hp2)
      · by_cases hru : r = u
        · subst hru
          have := s4 r hr
          have := s1 r hr
          have := hb r hr
          unfold ta at *
          omega
        · obtain ⟨c1, c2⟩ := a3 r b u hr hbn hu harc hau hp2 hpu hru
          have i1 := ih r u hr hu c1 (by omega)
          refine Nat.le_trans i1 (Nat.le_trans (ta_mono c2 (Nat.le_refl _)) ?_)
          rw [ta_assoc]
          exact ta_mono (Nat.le_refl _) h0
theorem sweep_ach {I n : Nat} {s : Nat → Nat → Nat} {pos : Nat → Nat} {arc : Nat → Nat → Prop} {L : Nat → Nat → Nat} {base U Z : Nat → Nat} (hA : Arcs I n s pos arc L) (hS : Sweep I n pos arc L base U Z) (hb : ∀ r, r < n → base r ≤ I) :
    ∀ (d r v : Nat), r < n → v < n → arc r v → min (pos r) (pos v) < d → ∃ b, b < n ∧ ta I (s r b) (Z b) ≤ ta I (L r v) (Z v) := by
  have hc := sweep_closed hA hS hb
  obtain ⟨a1, a2, a3, a4, a5, a6, a7⟩ := hA
  intro d
  induction d with
  | zero => intro r v _ _ _ h; omega
  | succ d ih =>
    intro r v hr hv harc h
    rcases a4 r v hr hv harc with h0 | ⟨x, hx, h1, h2, h3, h4, h5⟩
    · exact ⟨v, hv, by rw [h0]; exact Nat.le_refl _⟩
    · obtain ⟨b, hbn, i1⟩ := ih r x hr hx h1 (by omega)
      refine ⟨b, hbn, Nat.le_trans i1 ?_⟩
      refine Nat.le_trans (ta_mono (Nat.le_refl _) (hc n x v hx hv h2 (by omega))) ?_
      rw [← ta_assoc]
      exact ta_mono h5 (Nat.le_refl _)
theorem sweep_bell {I n : Nat} {s : Nat → Nat → Nat} {pos : Nat → Nat} {arc : Nat → Nat → Prop} {L : Nat → Nat → Nat} {base U Z : Nat → Nat} (hA : Arcs I n s pos arc L) (hS : Sweep I n pos arc L base U Z) (hb : ∀ r, r < n → base r ≤ I) : Bell I n s base Z := by
  have hc := sweep_closed hA hS hb
  have hx := sweep_ach hA hS hb
  obtain ⟨a1, a2, a3, a4, a5, a6, a7⟩ := hA
  obtain ⟨s1, s2, s3, s4, s5, s6⟩ := hS
  refine ⟨fun r hr => Nat.le_trans (s4 r hr) (s1 r hr), fun r hr b hbn => ?_, fun r hr => ?_⟩
  · by_cases harc : arc r b
    · exact Nat.le_trans (hc n r b hr hbn harc (by omega)) (ta_mono (a2 r b hr hbn harc) (Nat.le_refl _))
    · rw [a1 r b hr hbn harc]
      have := s4 r hr
      have := s1 r hr
      have := hb r hr
      unfold ta
      omega
  · rcases s6 r hr with h0 | ⟨u, hu, hau, hpu, h0⟩
    · rcases s3 r hr with h1 | ⟨v, hv, hav, hpv, h1⟩
      · exact Or.inl (h0.trans h1)
      · obtain ⟨b, hbn, i1⟩ := hx n r v hr hv hav (by have := a7 r hr; omega)
        exact Or.inr ⟨b, hbn, Nat.le_trans i1 (Nat.le_trans (ta_mono (Nat.le_refl _) (s4 v hv)) (by rw [h0]; exact h1))⟩
    · obtain ⟨b, hbn, i1⟩ := hx n r u hr hu hau (by have := a7 r hr; omega)
      exact Or.inr ⟨b, hbn, Nat.le_trans i1 h0⟩
