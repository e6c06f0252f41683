/-! the reference's search at its end solves the system of lengths -/
def n_q (S : Nt) (a b : Nat) : Nat := (n_p S a b).toInt.toNat
def goalB (S : Nt) (g r : Nat) : Nat := if n_o S r = true ∧ n_t S r = g then 0 else 536870912
def FbEnd (S : Nt) (g : Nat) (be co : Nat → Nat) : Prop :=
  (∀ r, r < n_R S → be r = 1000000000000 ∨ (1 ≤ co r ∧ co r ≤ be r ∧ be r ≤ 704000 ∧ n_w S r ≤ be r)) ∧
  (∀ r, r < n_R S → n_o S r = true → n_t S r = g → be r = n_w S r ∧ co r = 1) ∧
  (∀ a b, a < n_R S → b < n_R S → c2 S a b < 1000000000000 → be b < 1000000000000 → be a < n_w S a + n_q S a b + be b ∨ (be a = n_w S a + n_q S a b + be b ∧ co a ≤ co b + 1)) ∧
  ∀ r, r < n_R S → be r < 1000000000000 → (n_o S r = true ∧ n_t S r = g ∧ be r = n_w S r ∧ co r = 1) ∨ ∃ b, b < n_R S ∧ c2 S r b < 1000000000000 ∧ be b < 1000000000000 ∧ (n_w S r + n_q S r b + be b < be r ∨ (n_w S r + n_q S r b + be b = be r ∧ co b + 1 ≤ co r))
def fbG (S : Nt) (be co : Nat → Nat) (r : Nat) : Nat := if be r = 1000000000000 then 536870912 else 128 * (be r - n_w S r) + (co r - 1)
section FB
variable {S : Nt} {g : Nat} {be co : Nat → Nat}
theorem c2_q (hn : NtOK S) {a b : Nat} (h : c2 S a b < 1000000000000) : c2 S a b = n_q S a b + n_w S b := by
  rcases c2_cases hn a b with ⟨e, _⟩ | ⟨_, e, _⟩
  · omega
  · exact e
theorem fb_cnt (hn : NtOK S) (h : FbEnd S g be co) : ∀ (N r : Nat), r < n_R S → be r < 1000000000000 → 1048576 * be r + co r = N → co r ≤ 1 + cn (fun x => decide (1048576 * be x + co x < N)) (n_R S) := by
  obtain ⟨e0, e1, e2, e3⟩ := h
  intro N
  induction N using Nat.strongRecOn with
  | ind N ih =>
    intro r hr hf hN
    rcases e3 r hr hf with ⟨_, _, _, h4⟩ | ⟨b, hb, h1, h2, h3⟩
    · omega
    · have c := e2 r b hr hb h1 h2
      have hw := (hn.2.2.1 r hr).2.2.2.1
      have z := e0 b hb
      have hV : 1048576 * be b + co b < N := by omega
      have i1 := ih _ hV b hb h2 rfl
      have i2 := cn_lt (P := fun x => decide (1048576 * be x + co x < 1048576 * be b + co b)) (Q := fun x => decide (1048576 * be x + co x < N)) (k0 := b) (by simp) (by simp; omega) (n_R S) (fun x _ hx => by simp at hx ⊢; omega) hb
      omega
theorem fb_co (hn : NtOK S) (h : FbEnd S g be co) {r : Nat} (hr : r < n_R S) (hf : be r < 1000000000000) : co r ≤ 65 := by
  have h1 := fb_cnt hn h _ r hr hf rfl
  have h2 := cn_le (fun x => decide (1048576 * be x + co x < 1048576 * be r + co r)) (n_R S)
  have := hn.2.1
  omega
theorem fbG_lt (hn : NtOK S) (h : FbEnd S g be co) {r : Nat} (hr : r < n_R S) (hf : be r < 1000000000000) : fbG S be co r = 128 * (be r - n_w S r) + (co r - 1) ∧ fbG S be co r < 536870912 := by
  have h1 := fb_co hn h hr hf
  have h2 := h.1 r hr
  have e : fbG S be co r = 128 * (be r - n_w S r) + (co r - 1) := if_neg (by omega)
  exact ⟨e, by omega⟩
theorem fb_bell (hn : NtOK S) (h : FbEnd S g be co) : Bell 536870912 (n_R S) (s1 S) (goalB S g) (fbG S be co) := by
  have hlt := fun r hr hf => fbG_lt hn h (r := r) hr hf
  have hco := fun r hr hf => fb_co hn h (r := r) hr hf
  obtain ⟨e0, e1, e2, e3⟩ := h
  have hI : ∀ r, r < n_R S → fbG S be co r ≤ 536870912 := fun r hr => by
    by_cases hf : be r < 1000000000000
    · have := hlt r hr hf; omega
    · have := e0 r hr
      unfold fbG
      rw [if_pos (by omega)]
      exact Nat.le_refl _
  refine ⟨fun r hr => ?_, fun r hr b hb => ?_, fun r hr => ?_⟩
  · unfold goalB
    by_cases hg : n_o S r = true ∧ n_t S r = g
    · rw [if_pos hg]
      have e := e1 r hr hg.1 hg.2
      have hw := (hn.2.2.1 r hr).2.2.2
      have := hlt r hr (by omega)
      omega
    · rw [if_neg hg]
      exact hI r hr
  · by_cases hs : c2 S r b < 1000000000000
    · by_cases hb2 : be b < 1000000000000
      · have c := e2 r b hr hb hs hb2
        have q := c2_q hn hs
        have es := s1_eq hs
        have z := e0 b hb
        have gb := hlt b hb hb2
        have zr := e0 r hr
        have hrf : be r < 1000000000000 := by
          have hw := (hn.2.2.1 r hr).2.2.2
          have := c2_M hn r b hs
          omega
        have gr := hlt r hr hrf
        have cr := hco r hr hrf
        have := hI r hr
        unfold ta
        omega
      · have := e0 b hb
        have e : fbG S be co b = 536870912 := if_pos (by omega)
        have := hI r hr
        rw [e]
        unfold ta
        omega
    · have e : s1 S r b = 536870912 := if_neg hs
      have := hI r hr
      rw [e]
      unfold ta
      omega
  · by_cases hf : be r < 1000000000000
    · rcases e3 r hr hf with ⟨h1, h2, h3, h4⟩ | ⟨b, hb, h1, h2, h3⟩
      · left
        have := hlt r hr hf
        unfold goalB
        rw [if_pos ⟨h1, h2⟩]
        omega
      · right
        refine ⟨b, hb, ?_⟩
        have q := c2_q hn h1
        have es := s1_eq h1
        have z := e0 b hb
        have gb := hlt b hb h2
        have zr := e0 r hr
        have gr := hlt r hr hf
        have c := e2 r b hr hb h1 h2
        unfold ta
        omega
    · left
      have z := e0 r hr
      have e : fbG S be co r = 536870912 := if_pos (by omega)
      rw [e]
      unfold goalB
      rw [if_neg]
      intro hg
      have e := e1 r hr hg.1 hg.2
      have hw := (hn.2.2.1 r hr).2.2.2
      omega
end FB
