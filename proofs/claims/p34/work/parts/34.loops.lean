/-! the helpers on sets, and rules for loops -/
theorem shr_bv (x : Int64) {s : UInt64} {j : Nat} (hj : j < 64) (hs : s.toNat = j) : (x.toUInt64 >>> s).toInt64.toBitVec = x.toBitVec >>> j := by
  apply BitVec.eq_of_toNat_eq
  show (x.toUInt64 >>> s).toNat = _
  rw [UInt64.toNat_shiftRight, hs, Nat.mod_eq_of_lt hj, BitVec.toNat_ushiftRight]
  rfl
/-- the next member from a on; 64 if there is none -/
def nx1 (p : Nat → Bool) : Nat → Nat → Nat
  | 0, a => a
  | d + 1, a => if p a = true then a else nx1 p d (a + 1)
def nxt (p : Nat → Bool) (a : Nat) : Nat := nx1 p (64 - a) a
theorem nxt_64 (p : Nat → Bool) : nxt p 64 = 64 := rfl
theorem nxt_y {p : Nat → Bool} {a : Nat} (ha : a < 64) (h : p a = true) : nxt p a = a := by
  unfold nxt
  rw [show 64 - a = (63 - a) + 1 by omega]
  exact if_pos h
theorem nxt_n {p : Nat → Bool} {a : Nat} (ha : a < 64) (h : p a = false) : nxt p a = nxt p (a + 1) := by
  unfold nxt
  rw [show 64 - a = (63 - a) + 1 by omega, show 64 - (a + 1) = 63 - a by omega]
  exact if_neg (by rw [h]; decide)
theorem nxt_ok (p : Nat → Bool) : ∀ d a, a + d = 64 → a ≤ nxt p a ∧ nxt p a ≤ 64 ∧ (∀ i, a ≤ i → i < nxt p a → p i = false) ∧ (nxt p a < 64 → p (nxt p a) = true)
  | 0, a, h => by
    have e : a = 64 := by omega
    subst e
    rw [nxt_64]
    exact ⟨Nat.le_refl _, Nat.le_refl _, fun i h1 h2 => absurd h1 (by omega), fun h => absurd h (by omega)⟩
  | d + 1, a, h => by
    by_cases hp : p a = true
    · rw [nxt_y (by omega) hp]
      exact ⟨Nat.le_refl _, by omega, fun i h1 h2 => absurd h1 (by omega), fun _ => hp⟩
    · have hp := Bool.eq_false_iff.mpr hp
      rw [nxt_n (by omega) hp]
      obtain ⟨h1, h2, h3, h4⟩ := nxt_ok p d (a + 1) (by omega)
      refine ⟨by omega, h2, fun i hi1 hi2 => ?_, h4⟩
      by_cases he : i = a
      · rw [he]; exact hp
      · exact h3 i (by omega) hi2
theorem iter_inl {σ ρ : Type} {f : σ → Option (σ ⊕ ρ)} {x y : σ} (h : f x = some (.inl y)) (n : Nat) : iter f (n + 1) x = iter f n y := by
  show (match f x with
    | none => none
    | some (.inl y) => iter f n y
    | some (.inr r) => some r) = _
  rw [h]
theorem iter_inr {σ ρ : Type} {f : σ → Option (σ ⊕ ρ)} {x : σ} {r : ρ} (h : f x = some (.inr r)) (n : Nat) : iter f (n + 1) x = some r := by
  show (match f x with
    | none => none
    | some (.inl y) => iter f n y
    | some (.inr r) => some r) = _
  rw [h]
/-- over the members of a set -/
theorem iter_set {τ σ ρ : Type} {f : τ → Option (τ ⊕ ρ)} (mk : Nat → σ → τ) (p : Nat → Bool) (Inv : Nat → σ → Prop) (Post : ρ → Prop)
    (hstep : ∀ k s, k < 64 → p k = true → Inv k s → ∃ s', f (mk k s) = some (.inl (mk (nxt p (k + 1)) s')) ∧ Inv (k + 1) s')
    (hskip : ∀ k s, k < 64 → p k = false → Inv k s → Inv (k + 1) s)
    (hend : ∀ s, Inv 64 s → ∃ r, f (mk 64 s) = some (.inr r) ∧ Post r) :
    ∀ (d a fu : Nat) (s : σ), a + d = 64 → d < fu → Inv a s → ∃ r, iter f fu (mk (nxt p a) s) = some r ∧ Post r := by
  intro d
  induction d with
  | zero =>
    intro a fu s ha hf hI
    have e : a = 64 := by omega
    subst e
    obtain ⟨n, rfl⟩ : ∃ n, fu = n + 1 := ⟨fu - 1, by omega⟩
    obtain ⟨r, h1, h2⟩ := hend s hI
    rw [nxt_64, iter_inr h1]
    exact ⟨r, rfl, h2⟩
  | succ d ih =>
    intro a fu s ha hf hI
    by_cases hp : p a = true
    · obtain ⟨n, rfl⟩ : ∃ n, fu = n + 1 := ⟨fu - 1, by omega⟩
      obtain ⟨s', h1, h2⟩ := hstep a s (by omega) hp hI
      rw [nxt_y (by omega) hp, iter_inl h1]
      exact ih (a + 1) n s' (by omega) (by omega) h2
    · have hp := Bool.eq_false_iff.mpr hp
      rw [nxt_n (by omega) hp]
      exact ih (a + 1) fu s (by omega) (by omega) (hskip a s (by omega) hp hI)
theorem iter_set0 {τ σ ρ : Type} {f : τ → Option (τ ⊕ ρ)} (mk : Nat → σ → τ) (p : Nat → Bool) (Inv : Nat → σ → Prop) (Post : ρ → Prop)
    (hstep : ∀ k s, k < 64 → p k = true → Inv k s → ∃ s', f (mk k s) = some (.inl (mk (nxt p (k + 1)) s')) ∧ Inv (k + 1) s')
    (hskip : ∀ k s, k < 64 → p k = false → Inv k s → Inv (k + 1) s)
    (hend : ∀ s, Inv 64 s → ∃ r, f (mk 64 s) = some (.inr r) ∧ Post r) {fu : Nat} (hf : 64 < fu) (s : σ) (h0 : Inv 0 s) : ∃ r, iter f fu (mk (nxt p 0) s) = some r ∧ Post r :=
  iter_set mk p Inv Post hstep hskip hend 64 0 fu s (by omega) hf h0
/-- a counted loop -/
theorem iter_for {τ σ ρ : Type} {f : τ → Option (τ ⊕ ρ)} (mk : Nat → σ → τ) (N : Nat) (Inv : Nat → σ → Prop) (Post : ρ → Prop)
    (hstep : ∀ k s, k < N → Inv k s → ∃ s', f (mk k s) = some (.inl (mk (k + 1) s')) ∧ Inv (k + 1) s')
    (hend : ∀ s, Inv N s → ∃ r, f (mk N s) = some (.inr r) ∧ Post r) :
    ∀ (d a fu : Nat) (s : σ), a + d = N → d < fu → Inv a s → ∃ r, iter f fu (mk a s) = some r ∧ Post r := by
  intro d
  induction d with
  | zero =>
    intro a fu s ha hf hI
    have e : a = N := by omega
    subst e
    obtain ⟨n, rfl⟩ : ∃ n, fu = n + 1 := ⟨fu - 1, by omega⟩
    obtain ⟨r, h1, h2⟩ := hend s hI
    rw [iter_inr h1]
    exact ⟨r, rfl, h2⟩
  | succ d ih =>
    intro a fu s ha hf hI
    obtain ⟨n, rfl⟩ : ∃ n, fu = n + 1 := ⟨fu - 1, by omega⟩
    obtain ⟨s', h1, h2⟩ := hstep a s (by omega) hI
    rw [iter_inl h1]
    exact ih (a + 1) n s' (by omega) (by omega) h2
theorem iter_for0 {τ σ ρ : Type} {f : τ → Option (τ ⊕ ρ)} (mk : Nat → σ → τ) (N : Nat) (Inv : Nat → σ → Prop) (Post : ρ → Prop)
    (hstep : ∀ k s, k < N → Inv k s → ∃ s', f (mk k s) = some (.inl (mk (k + 1) s')) ∧ Inv (k + 1) s')
    (hend : ∀ s, Inv N s → ∃ r, f (mk N s) = some (.inr r) ∧ Post r) {fu : Nat} (hf : N < fu) (s : σ) (h0 : Inv 0 s) : ∃ r, iter f fu (mk 0 s) = some r ∧ Post r :=
  iter_for mk N Inv Post hstep hend N 0 fu s (by omega) hf h0
/-- a loop with a measure -/
theorem iter_mu {τ ρ : Type} {f : τ → Option (τ ⊕ ρ)} (Inv : τ → Prop) (mu : τ → Nat) (Post : ρ → Prop)
    (hstep : ∀ x, Inv x → (∃ y, f x = some (.inl y) ∧ Inv y ∧ mu y < mu x) ∨ ∃ r, f x = some (.inr r) ∧ Post r) :
    ∀ (fu : Nat) (x : τ), mu x < fu → Inv x → ∃ r, iter f fu x = some r ∧ Post r := by
  intro fu
  induction fu with
  | zero => intro x h; omega
  | succ n ih =>
    intro x h hI
    rcases hstep x hI with ⟨y, h1, h2, h3⟩ | ⟨r, h1, h2⟩
    · rw [iter_inl h1]
      exact ih y (by omega) h2
    · rw [iter_inr h1]
      exact ⟨r, rfl, h2⟩
theorem nm_e1 {α β : Type} (x : α) (k : α → β) : nm x k = k x := rfl
theorem bn_e {α β : Type} (a : α) (k : α → Option β) : bn (some a) k = k a := rfl
theorem bn2_e {α β γ : Type} (a : α) (b : β) (k : α → β → Option γ) : bn2 (some (a, b)) k = k a b := rfl
theorem bn3_e {α0 α1 α2 γ : Type} (a : α0) (b : α1) (c : α2) (k : α0 → α1 → α2 → Option γ) : bn3 (some (a, b, c)) k = k a b c := rfl
theorem bx_l {α ε γ : Type} (a : α) (g : ε → Option γ) (k : α → Option γ) : bx (some (.inl a)) g k = k a := rfl
theorem bx_r {α ε γ : Type} (a : ε) (g : ε → Option γ) (k : α → Option γ) : bx (some (.inr a)) g k = g a := rfl
theorem if_zo {α : Type} {c : Prop} [Decidable c] {A B : α} : (if (if c then (1 : Int32) else 0) = 0 then A else B) = if c then B else A := by
  by_cases h : c
  · rw [if_pos h, if_pos h, if_neg (by decide)]
  · rw [if_neg h, if_neg h, if_pos rfl]
