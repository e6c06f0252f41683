/-! changes of the network -/
def n_sw (S : Nt) (r x : Nat) : Nt := (S.1, (n_f S, n_t S, updN (n_w S) r x), S.2.2)
def n_so (S : Nt) (r : Nat) (b : Bool) : Nt := (S.1, S.2.1, fun i => if i = r then b else n_o S i, S.2.2.2)
def n_ss (S : Nt) (a b : Nat) (x : Int32) : Nt := (S.1, S.2.1, S.2.2.1, fun i j => if i = a ∧ j = b then x else n_s S i j, n_u S)
def n_su (S : Nt) (x : Int32) : Nt := (S.1, S.2.1, S.2.2.1, n_s S, x)
def n_aj (S : Nt) : Nt := ((n_J S + 1, n_R S), S.2)
def n_ar (S : Nt) (f t w : Nat) : Nt := ((n_J S, n_R S + 1), (updN (n_f S) (n_R S) f, updN (n_t S) (n_R S) t, updN (n_w S) (n_R S) w), fun i => if i = n_R S then true else n_o S i, S.2.2.2)
theorem NtOK.sw {S : Nt} (h : NtOK S) {r x : Nat} (h1 : 1 ≤ x) (h2 : x ≤ 10000) : NtOK (n_sw S r x) := by
  refine ⟨h.1, h.2.1, fun i hi => ?_, h.2.2.2⟩
  have k := h.2.2.1 i hi
  refine ⟨k.1, k.2.1, k.2.2.1, ?_⟩
  show 1 ≤ updN (n_w S) r x i ∧ updN (n_w S) r x i ≤ 10000
  unfold updN
  split
  · exact ⟨h1, h2⟩
  · exact k.2.2.2
theorem NtOK.so {S : Nt} (h : NtOK S) (r : Nat) (b : Bool) : NtOK (n_so S r b) := h
theorem NtOK.ss {S : Nt} (h : NtOK S) (a b : Nat) {x : Int32} (h1 : (-2) ≤ x.toInt) (h2 : x.toInt ≤ 1000) : NtOK (n_ss S a b x) := by
  refine ⟨h.1, h.2.1, h.2.2.1, fun i j => ?_, h.2.2.2.2⟩
  show (-2) ≤ (if i = a ∧ j = b then x else n_s S i j).toInt ∧ (if i = a ∧ j = b then x else n_s S i j).toInt ≤ 1000
  split
  · exact ⟨h1, h2⟩
  · exact h.2.2.2.1 i j
theorem NtOK.su {S : Nt} (h : NtOK S) {x : Int32} (h1 : (-1) ≤ x.toInt) (h2 : x.toInt ≤ 1000) : NtOK (n_su S x) := ⟨h.1, h.2.1, h.2.2.1, h.2.2.2.1, h1, h2⟩
theorem NtOK.aj {S : Nt} (h : NtOK S) (h1 : n_J S < 32) : NtOK (n_aj S) := by
  refine ⟨h1, h.2.1, fun i hi => ?_, h.2.2.2⟩
  have k := h.2.2.1 i hi
  exact ⟨Nat.lt_succ_of_lt k.1, Nat.lt_succ_of_lt k.2.1, k.2.2⟩
theorem NtOK.ar {S : Nt} (h : NtOK S) {f t w : Nat} (h1 : n_R S < 64) (hf : f < n_J S) (ht : t < n_J S) (hne : f ≠ t) (hw : 1 ≤ w) (hw2 : w ≤ 10000) : NtOK (n_ar S f t w) := by
  refine ⟨h.1, h1, fun i hi => ?_, h.2.2.2⟩
  have hi : i < n_R S + 1 := hi
  show updN (n_f S) (n_R S) f i < n_J S ∧ updN (n_t S) (n_R S) t i < n_J S ∧ updN (n_f S) (n_R S) f i ≠ updN (n_t S) (n_R S) t i ∧ 1 ≤ updN (n_w S) (n_R S) w i ∧ updN (n_w S) (n_R S) w i ≤ 10000
  by_cases e : i = n_R S
  · rw [e, updN_s, updN_s, updN_s]
    exact ⟨hf, ht, hne, hw, hw2⟩
  · rw [updN_n e, updN_n e, updN_n e]
    exact h.2.2.1 i (by omega)
theorem RMn.so {S : Nt} {v : WS} (h : RMn S v) {r : Nat} (b : Bool) {x : Int32} (hx : x = if b = true then 1 else 0) : RMn (n_so S r b) (wI v 4 r x) := by
  refine ⟨h.1, h.2.1, fun i hi => ?_, h.2.2.2.1, h.2.2.2.2⟩
  have k := h.2.2.1 i hi
  refine ⟨k.1, k.2.1, k.2.2.1, ?_⟩
  show (wI v 4 r x).1 4 i = if (if i = r then b else n_o S i) = true then 1 else 0
  rw [wI_at]
  by_cases e : i = r
  · rw [if_pos ⟨rfl, e⟩, if_pos e, hx]
  · rw [if_neg (fun hh => e hh.2), if_neg e]
    exact k.2.2.2
theorem vnb {x : Int32} (h : x = 0 ∨ x = 1) : vp_nar .boolean x = x := by
  rcases h with rfl | rfl
  · exact vnb0
  · exact vnb1
/-! the reference: reach -/
section ME
variable {S : Nt} {v : WS}
end ME
