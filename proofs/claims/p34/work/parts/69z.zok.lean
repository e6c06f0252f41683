/-! the lengths to a goal: there are some, and how large they are -/
section ZK
variable {S : Nt} {g : Nat}
theorem Z_ex (hn : NtOK S) (g : Nat) : ∃ Z, Bell 536870912 (n_R S) (s1 S) (goalB S g) Z :=
  ⟨_, sweep_bell (arcs_ok hn) (two_sweeps (base := goalB S g) (A := fun a b => n_arc S b a) (E := fun a b => n_L S b a) hn (fun a b ha hb h => (arc_ne hn hb ha h).symm)) (fun r _ => goalB_le g r)⟩
theorem Z_dec (hn : NtOK S) {Z : Nat → Nat} (hZ : Bell 536870912 (n_R S) (s1 S) (goalB S g) Z) : ∀ N r, r < n_R S → Z r = N → N < 536870912 → ∃ c k, N = 128 * c + k ∧ k ≤ cn (fun x => decide (Z x < N)) (n_R S) ∧ c ≤ 11000 * k ∧ n_o S r = true := by
  intro N
  induction N using Nat.strongRecOn with
  | ind N ih =>
    intro r hr hN hl
    have hR := hn.2.1
    rcases hZ.2.2 r hr with e | ⟨b, hb, e⟩
    · by_cases c : n_o S r = true ∧ n_t S r = g
      · have e2 : goalB S g r = 0 := if_pos c
        exact ⟨0, 0, by omega, Nat.zero_le _, by omega, c.1⟩
      · have e2 : goalB S g r = 536870912 := if_neg c
        omega
    · have h0 := ta_lt (show ta 536870912 (s1 S r b) (Z b) < 536870912 by omega)
      have hs : s1 S r b < 536870912 := by omega
      have hc := (s1_lt hn r b).mp hs
      have e1 := s1_eq hc
      have up := hZ.2.1 r hr b hb
      rcases c2_cases hn r b with ⟨e2, _⟩ | ⟨e2, e3, e4, e5⟩
      · omega
      · have hlt : Z b < N := by omega
        obtain ⟨c, k, k1, k2, k3, _⟩ := ih (Z b) hlt b hb rfl (by omega)
        have i4 := cn_lt (P := fun j => decide (Z j < Z b)) (Q := fun j => decide (Z j < N)) (k0 := b) (by simp) (by simp [hlt]) (n_R S) (fun j _ hj => by simp at hj ⊢; omega) hb
        exact ⟨c2 S r b + c, k + 1, by omega, by omega, by omega, e2.2.2.1⟩
theorem Z_k (hn : NtOK S) {Z : Nat → Nat} (hZ : Bell 536870912 (n_R S) (s1 S) (goalB S g) Z) {r : Nat} (hr : r < n_R S) (hl : Z r < 536870912) : ∃ c k, Z r = 128 * c + k ∧ k + 1 ≤ n_R S ∧ c ≤ 11000 * k ∧ n_o S r = true := by
  obtain ⟨c, k, k1, k2, k3, k4⟩ := Z_dec hn hZ (Z r) r hr rfl hl
  have i4 := cn_lt (P := fun x => decide (Z x < Z r)) (Q := fun _ => true) (k0 := r) (by simp) rfl (n_R S) (fun _ _ _ => rfl) hr
  have i5 := cn_le (fun _ : Nat => true) (n_R S)
  exact ⟨c, k, k1, by omega, k3, k4⟩
theorem Z_ok (hn : NtOK S) (_ : g < 2 ^ 31) : Bell 536870912 (n_R S) (s1 S) (goalB S g) (n_Z S g) ∧ ∀ r, r < n_R S → n_Z S g r < 536870912 → n_Z S g r ≤ 90112064 ∧ n_Z S g r % 128 ≤ 64 ∧ n_o S r = true := by
  have hR := hn.2.1
  obtain ⟨Z, hZ⟩ := Z_ex hn g
  have hB := n_Z_bell hZ
  refine ⟨hB, fun r hr hl => ?_⟩
  obtain ⟨c, k, k1, k2, k3, k4⟩ := Z_k hn hB hr hl
  exact ⟨by omega, by omega, k4⟩
end ZK
