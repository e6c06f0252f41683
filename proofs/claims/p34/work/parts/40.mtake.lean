/-! the reference: a road is taken -/
/-- cells 8 and two fields may change -/
def FrT (u v : WS) : Prop := (∀ c, c ≠ 0 → c ≠ 8 → u.1 c = v.1 c) ∧ (∀ j, j ≠ 13 → j ≠ 14 → u.1 0 j = v.1 0 j) ∧ u.2 = v.2
theorem FrT.rf (v : WS) : FrT v v := ⟨fun _ _ _ => rfl, fun _ _ _ => rfl, rfl⟩
theorem FrT.trans {u v w : WS} (h : FrT u v) (h2 : FrT v w) : FrT u w := ⟨fun c h0 h8 => (h.1 c h0 h8).trans (h2.1 c h0 h8), fun j h0 h8 => (h.2.1 j h0 h8).trans (h2.2.1 j h0 h8), h.2.2.trans h2.2.2⟩
/-- arcs and their number, as mixed -/
def TkI (S : Nt) (P : Nat → Nat → Bool) (s : WS) : Prop := (∀ a b, a < n_R S → b < n_R S → s.1 8 (64 * a + b) = if P a b = true then 1 else 0) ∧ ∃ k, s.1 0 14 = nI (k + cn2 (n_fol S) (n_R S) (n_R S)) ∧ s.1 0 13 = nI k ∧ k + cn2 (n_fol S) (n_R S) (n_R S) = cn2 P (n_R S) (n_R S)
theorem TkI.congr {S : Nt} {P Q : Nat → Nat → Bool} {s : WS} (h : TkI S P s) (e : ∀ a b, a < n_R S → b < n_R S → Q a b = P a b) : TkI S Q s := by
  refine ⟨fun a b ha hb => by rw [e a b ha hb]; exact h.1 a b ha hb, ?_⟩
  rw [cn2_congr (n_R S) (fun a b ha hb => e a b ha hb)]
  exact h.2
theorem vnb1 : vp_nar .boolean 1 = 1 := by decide +kernel
theorem vnb0 : vp_nar .boolean 0 = 0 := by decide +kernel
section MT
variable {S : Nt} {u : WS} {p : Nat}
end MT
