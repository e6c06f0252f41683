/-! the reference's search at its end solves the system of lengths -/
def n_q (S : Nt) (a b : Nat) : Nat := (n_p S a b).toInt.toNat
def goalB (S : Nt) (g r : Nat) : Nat := if n_o S r = true ∧ n_t S r = g then 0 else 536870912
section FB
variable {S : Nt} {g : Nat} {be co : Nat → Nat}
end FB
