/-! changes of the network -/
def n_so (S : Nt) (r : Nat) (b : Bool) : Nt := (S.1, S.2.1, fun i => if i = r then b else n_o S i, S.2.2.2)
theorem NtOK.so {S : Nt} (h : NtOK S) (r : Nat) (b : Bool) : NtOK (n_so S r b) := h
theorem RMn.so {S : Nt} {v : WS} (h : RMn S v) {r : Nat} (b : Bool) {x : Int32} (hx : x = if b = true then 1 else 0) : RMn (n_so S r b) (wI v 4 r x) := by
  refine ⟨h.1, h.2.1, fun i hi => ?_, h.2.2.2.1, h.2.2.2.2⟩
  have k := h.2.2.1 i hi
  refine ⟨k.1, k.2.1, k.2.2.1, ?_⟩
  show (wI v 4 r x).1 4 i = if (if i = r then b else n_o S i) = true then 1 else 0
  rw [wI_at]
  by_cases e : i = r
  · rw [if_pos ⟨rfl, e⟩, if_pos e, hx]
  · rw [if_neg (fun hh => e hh.2), if_neg e]
    exact k.2.2.2
/-! the reference: reach -/
section ME
variable {S : Nt} {v : WS}
end ME
