/-! the lengths towards a goal, one function; the road to begin with -/
noncomputable def n_Z (S : Nt) (g : Nat) : Nat → Nat := Classical.epsilon (fun Z : Nat → Nat => Bell 536870912 (n_R S) (s1 S) (goalB S g) Z)
theorem goalB_le {S : Nt} (g r : Nat) : goalB S g r ≤ 536870912 := by
  unfold goalB
  split <;> omega
theorem n_Z_eq {S : Nt} (hn : NtOK S) {g : Nat} {Z : Nat → Nat} (h : Bell 536870912 (n_R S) (s1 S) (goalB S g) Z) : ∀ r, r < n_R S → n_Z S g r = Z r := by
  have h1 : Bell 536870912 (n_R S) (s1 S) (goalB S g) (n_Z S g) := Classical.epsilon_spec (p := fun Z : Nat → Nat => Bell 536870912 (n_R S) (s1 S) (goalB S g) Z) ⟨Z, h⟩
  exact fun r hr => h1.uniq (s1_pos hn) (fun r _ => goalB_le g r) h r hr
theorem n_Z_bell {S : Nt} {g : Nat} {Z : Nat → Nat} (h : Bell 536870912 (n_R S) (s1 S) (goalB S g) Z) : Bell 536870912 (n_R S) (s1 S) (goalB S g) (n_Z S g) :=
  Classical.epsilon_spec (p := fun Z : Nat → Nat => Bell 536870912 (n_R S) (s1 S) (goalB S g) Z) ⟨Z, h⟩
theorem bst_sN {w : Nat → Nat} {q : Nat → Bool} {k : Nat} (h : bst w q k = none) (hq : q k = true) : bst w q (k + 1) = some k := by
  unfold bst
  rw [h]
  exact if_pos hq
theorem bst_sF {w : Nat → Nat} {q : Nat → Bool} {k : Nat} (hq : q k = false) : bst w q (k + 1) = bst w q k := by
  conv => lhs; unfold bst
  cases bst w q k with
  | none => exact if_neg (by rw [hq]; decide)
  | some b => exact if_neg (fun hh => by rw [hq] at hh; exact absurd hh.1 (by decide))
theorem bst_sL {w : Nat → Nat} {q : Nat → Bool} {k b : Nat} (h : bst w q k = some b) (hq : q k = true) (hl : w k < w b) : bst w q (k + 1) = some k := by
  unfold bst
  rw [h]
  exact if_pos ⟨hq, hl⟩
theorem bst_sG {w : Nat → Nat} {q : Nat → Bool} {k b : Nat} (h : bst w q k = some b) (hl : ¬ w k < w b) : bst w q (k + 1) = some b := by
  unfold bst
  rw [h]
  exact if_neg (fun hh => hl hh.2)
/-- a number, or -1 -/
def oI (o : Option Nat) : Int32 := match o with
  | none => -1
  | some b => nI b
noncomputable def n_fst (S : Nt) (a g : Nat) : Option Nat := bst (fun r => 128 * n_w S r + 1 + n_Z S g r) (fun r => (n_f S r == a) && n_o S r && decide (n_Z S g r < 536870912)) (n_R S)
/-- the distance, if there is a path -/
noncomputable def n_c (S : Nt) (a g : Nat) : Option Nat := if a = g then some 0 else (n_fst S a g).map (fun r => (128 * n_w S r + 1 + n_Z S g r) / 128)
section MF
variable {S : Nt} {v : WS} {g : Nat} {be co : Nat → Nat}
theorem fst_ok {a r : Nat} (h : n_fst S a g = some r) : r < n_R S ∧ n_f S r = a ∧ n_o S r = true ∧ n_Z S g r < 536870912 := by
  have := bst_ok h
  simp only [Bool.and_eq_true, beq_iff_eq, decide_eq_true_eq] at this
  exact ⟨this.1, this.2.1.1, this.2.1.2, this.2.2⟩
end MF
