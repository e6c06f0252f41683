/-! one step of the law, method by method -/
section ST
variable {fu : Nat} {fL : Option (Int32 × WS × (Nat → Int64))} {fM : Option (Int32 × WS)} {od : Nat → UInt64} {o : Nat → Int64} {w1 v1 : WS} {S : Nt}
end ST
section S0
variable {S : Nt} {w v : WS} {fu : Nat} {o : Nat → Int64} {od : Nat → UInt64}
theorem reqT_y (hc : RCn S w) (hn : NtOK S) {a b : Nat} (ha : a < n_R S) (hb : b < n_R S) (hf : n_fol S a b = true) : f_X3_requireTurn fu w (nI a) (nI b) = some (.inl w) := by
  have hR64 := hn.2.1
  have hJ := hn.1
  have h1 := hn.2.2.1 a ha
  have h2 := hn.2.2.1 b hb
  unfold f_X3_requireTurn
  rw [reqR_y hc hn fu ha, bx_l, reqR_y hc hn fu hb, bx_l, ck_t (in64 (by omega)), nm_e1, cl64 (by omega), ck_t (in64 (by omega)), nm_e1, cl64 (by omega), (hc.2.2.1 a ha).2.1, (hc.2.2.1 b hb).1, if_pos]
  have e : n_t S a = n_f S b := by simpa [n_fol] using hf
  rw [e]
end S0
