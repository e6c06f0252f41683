/-! the reference: the costs of all arcs -/
def RMo (S : Nt) (v : WS) : Prop := (∀ r, r < n_R S → v.1 6 r = nI (n_pos S r)) ∧ ∀ p, p < n_R S → v.1 7 p = nI (n_ord S p)
def RMa (S : Nt) (v : WS) : Prop := ∀ a b, a < n_R S → b < n_R S → v.1 8 (64 * a + b) = if n_arc S a b = true then 1 else 0
def RMc (S : Nt) (v : WS) : Prop := ∀ a b, a < n_R S → b < n_R S → a ≠ b → v.2 9 (64 * a + b) = lN (n_A S a b)
theorem ix_inj {a b c d : Nat} (hb : b < 64) (hd : d < 64) (h : 64 * a + b = 64 * c + d) : a = c ∧ b = d := by omega
section MC
variable {S : Nt} {v : WS}
end MC
