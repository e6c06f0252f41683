/-! the reference: prepare -/
/-- all that holds of a prepared reference -/
def RMp (S : Nt) (v : WS) : Prop := RMo S v ∧ RMa S v ∧ RMc S v ∧ ∃ k, v.1 0 14 = nI (k + cn2 (n_fol S) (n_R S) (n_R S)) ∧ v.1 0 13 = nI k ∧ k + cn2 (n_fol S) (n_R S) (n_R S) = cn2 (n_arc S) (n_R S) (n_R S)
section MQ
variable {S : Nt} {v : WS}
end MQ
