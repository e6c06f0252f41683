/-! the start, and every step -/
section EN
def S_0 : Nt := ((0, 0), (fun _ => 0, fun _ => 0, fun _ => 0), fun _ => false, (fun _ _ => -2, 100))
theorem S_0_ok : NtOK S_0 := by
  refine ⟨Nat.zero_le _, Nat.zero_le _, fun r h => absurd h (Nat.not_lt_zero r), fun a b => ?_, ?_, ?_⟩
  · show (-2 : Int) ≤ (-2 : Int32).toInt ∧ (-2 : Int32).toInt ≤ 1000
    decide
  · show (-1 : Int) ≤ (100 : Int32).toInt
    decide
  · show (100 : Int32).toInt ≤ 1000
    decide
theorem fill_in {n j : Nat} (h : j < n) (v : Int32) (f : Nat → Int32) : fillF n v f j = v := by
  unfold fillF
  exact if_pos h
theorem rel_0 : Rel wC0 wM0 := by
  refine ⟨S_0, S_0_ok, ?_, ?_, fun r _ => ⟨rfl, rfl⟩, Or.inl ⟨rfl, rfl, rfl, rfl⟩, ?_, fun j c _ _ => ⟨Or.inl rfl, rfl⟩, ?_, ?_⟩
  · exact ⟨nI_0.symm, nI_0.symm, fun r h => absurd h (Nat.not_lt_zero r), fun a b ha hb => fill_in (n := 4096) (by omega) (-2) (fun _ => 0), rfl⟩
  · exact ⟨nI_0.symm, nI_0.symm, fun r h => absurd h (Nat.not_lt_zero r), fun a b ha hb => fill_in (n := 4096) (by omega) (-2) (fun _ => 0), fun j i _ _ => bL_0 i, fun j i _ _ => bL_0 i, fun i _ => bL_0 i, rfl⟩
  · exact ⟨0, fun _ => (0, fun _ => 0, fun _ => false, fun _ _ => 0, 0), Nat.zero_le _, nI_0.symm, nI_0.symm, fun l h => absurd h (Nat.not_lt_zero l)⟩
  · exact ⟨0, Nat.zero_le _, nI_0.symm, nI_0.symm, rfl, fun i h => absurd h (Nat.not_lt_zero i)⟩
  · exact ⟨0, Nat.zero_le _, nI_0.symm, nI_0.symm, fun i h => absurd h (Nat.not_lt_zero i)⟩
theorem b01 (x : Int32) : (if x = 0 then (0 : Int32) else 1) = 0 ∨ (if x = 0 then (0 : Int32) else 1) = 1 := by
  by_cases h : x = 0
  · exact Or.inl (if_pos h)
  · exact Or.inr (if_neg h)
theorem rel_step (fu : Nat) (hf : 2 ^ 80 ≤ fu) (k : Nat) (x1 x2 x3 : Int32) (w v : WS) (o : Nat → Int64) (od : Nat → UInt64) (h : Rel w v) : ∃ w1 v1 o1 od1, LStep fu k x1 x2 x3 w v o od w1 v1 o1 od1 ∧ Rel w1 v1 := by
  obtain ⟨S, hR⟩ := h
  have f6 : 64 < fu := Nat.lt_of_lt_of_le (by decide) hf
  have f12 : 4096 < fu := Nat.lt_of_lt_of_le (by decide) hf
  match k with
  | 0 => exact L_0 hR
  | 1 => exact L_1 hR x1 x2 x3
  | 2 => exact L_2 hR hf x1 x2
  | 3 => exact L_3 hR hf x1 _ (b01 x2)
  | 4 => exact L_4 hR hf x1 x2 x3
  | 5 => exact L_5 hR hf x1
  | 6 => exact L_6 hR
  | 7 => exact L_7 hR
  | 8 => exact L_8 hR x1
  | 9 => exact L_9 hR x1
  | 10 => exact L_10 hR x1 x2
  | 11 => exact L_11 hR f6
  | 12 => exact L_12 hR
  | 13 => exact L_13 hR x1
  | 14 => exact L_14 hR
  | 15 => exact L_15 hR x1 x2
  | 16 => exact L_16 hR x1 x2
  | 17 => exact L_17 hR hf x1 x2
  | 18 => exact L_18 hR hf x1 x2
  | 19 => exact L_19 hR hf x1 x2
  | 20 => exact L_20 hR x1
  | 21 => exact L_21 hR
  | 22 => exact L_22 hR hf x1 x2
  | 23 => exact L_23 hR x1
  | 24 => exact L_24 hR hf x1
  | 25 => exact L_25 hR hf x1 x2 x3
  | 26 => exact L_26 hR x1 x2 _ (b01 x3)
  | 27 => exact L_27 hR hf x1 x2
  | 28 => exact L_28 hR f12
  | 29 => exact L_29 hR hf
  | 30 => exact L_30 hR f6
  | n + 31 => exact ⟨w, v, o, od, ⟨rfl, rfl, rfl, rfl⟩, S, hR⟩
end EN
