/-! the reference: the order is built -/
def FrP (u v : WS) : Prop := (∀ c, c ≠ 0 → c ≠ 6 → c ≠ 7 → c ≠ 8 → u.1 c = v.1 c) ∧ (∀ j, j ≠ 13 → j ≠ 14 → u.1 0 j = v.1 0 j) ∧ u.2 = v.2
theorem FrP.rf (v : WS) : FrP v v := ⟨fun _ _ _ _ _ => rfl, fun _ _ _ => rfl, rfl⟩
theorem FrP.trans {u v w : WS} (h : FrP u v) (h2 : FrP v w) : FrP u w := ⟨fun c h0 h6 h7 h8 => (h.1 c h0 h6 h7 h8).trans (h2.1 c h0 h6 h7 h8), fun j h0 h8 => (h.2.1 j h0 h8).trans (h2.2.1 j h0 h8), h.2.2.trans h2.2.2⟩
section MP
variable {S : Nt} {v : WS} {p : Nat}
end MP
