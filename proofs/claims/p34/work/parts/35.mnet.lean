/-! the reference: network, table of costs -/
theorem wI_s {w : WS} {c i : Nat} {x : Int32} : (wI w c i x).1 c = upd (w.1 c) i x := if_pos rfl
theorem wI_n {w : WS} {c i a : Nat} {x : Int32} (h : a ≠ c) : (wI w c i x).1 a = w.1 a := if_neg h
theorem wI_2 {w : WS} {c i : Nat} {x : Int32} : (wI w c i x).2 = w.2 := rfl
theorem wL_s {w : WS} {c i : Nat} {x : Int64} : (wL w c i x).2 c = vp_updL (w.2 c) i x := if_pos rfl
theorem wL_n {w : WS} {c i a : Nat} {x : Int64} (h : a ≠ c) : (wL w c i x).2 a = w.2 a := if_neg h
theorem wL_1 {w : WS} {c i : Nat} {x : Int64} : (wL w c i x).1 = w.1 := rfl
theorem wI_at {w : WS} {c i a j : Nat} {x : Int32} : (wI w c i x).1 a j = if a = c ∧ j = i then x else w.1 a j := by
  by_cases h : a = c
  · subst h
    rw [wI_s]
    unfold upd
    by_cases h2 : j = i
    · rw [if_pos h2, if_pos ⟨rfl, h2⟩]
    · rw [if_neg h2, if_neg (fun h => h2 h.2)]
  · rw [wI_n h, if_neg (fun h2 => h h2.1)]
theorem wL_at {w : WS} {c i a j : Nat} {x : Int64} : (wL w c i x).2 a j = if a = c ∧ j = i then x else w.2 a j := by
  by_cases h : a = c
  · subst h
    rw [wL_s]
    unfold vp_updL
    by_cases h2 : j = i
    · rw [if_pos h2, if_pos ⟨rfl, h2⟩]
    · rw [if_neg h2, if_neg (fun h => h2 h.2)]
  · rw [wL_n h, if_neg (fun h2 => h h2.1)]
def RMn (S : Nt) (v : WS) : Prop := v.1 0 1 = nI (n_J S) ∧ v.1 0 2 = nI (n_R S) ∧ (∀ r, r < n_R S → v.1 1 r = nI (n_f S r) ∧ v.1 2 r = nI (n_t S r) ∧ v.1 3 r = nI (n_w S r) ∧ v.1 4 r = if n_o S r = true then 1 else 0) ∧ (∀ a b, a < 64 → b < 64 → v.1 5 (64 * a + b) = n_s S a b) ∧ v.1 0 8 = n_u S
theorem RMn.same {S : Nt} {u v : WS} (h : RMn S v) (e : u.1 = v.1) : RMn S u := by
  unfold RMn
  rw [e]
  exact h
section MN
variable {S : Nt} {v : WS}
theorem in64 {r : Nat} (h : r < 64) : vp_in (nI r) 64 := vp_in_nI h (by decide)
theorem cl64 {r : Nat} (h : r < 64) : Int32.toNatClampNeg (nI r) = r := nI_clamp (by omega)
theorem i_nn {x : Int32} (h : 0 ≤ x.toInt) : x = nI x.toInt.toNat := by
  have : x.toInt < 2 ^ 31 := Int32.toInt_lt x
  apply Int32.toInt_inj.mp
  rw [nI_toInt (by omega)]
  omega
end MN
