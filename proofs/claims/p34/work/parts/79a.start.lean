/-! the start, and every step -/
section EN
def S_0 : Nt := ((0, 0), (fun _ => 0, fun _ => 0, fun _ => 0), fun _ => false, (fun _ _ => -2, 100))
theorem S_0_ok : NtOK S_0 := by
  refine ⟨Nat.zero_le _, Nat.zero_le _, fun r h => absurd h (Nat.not_lt_zero r), fun a b => ?_, ?_, ?_⟩
  · show (-2 : Int) ≤ (-2 : Int32).toInt ∧ (-2 : Int32).toInt ≤ 1000
    decide
  · show (-1 : Int) ≤ (100 : Int32).toInt
    decide
  · show (100 : Int32).toInt ≤ 1000
    decide
theorem fill_in {n j : Nat} (h : j < n) (v : Int32) (f : Nat → Int32) : fillF n v f j = v := by
  unfold fillF
  exact if_pos h
end EN
