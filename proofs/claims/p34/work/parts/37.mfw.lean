/-! the reference: the table, all of findCosts, and how many costs change -/
/-- how many pairs -/
def cn2 (P : Nat → Nat → Bool) (n : Nat) : Nat → Nat
  | 0 => 0
  | a + 1 => cn2 P n a + cn (P a) n
theorem cn2_congr {P Q : Nat → Nat → Bool} {n : Nat} : ∀ m, (∀ a b, a < m → b < n → P a b = Q a b) → cn2 P n m = cn2 Q n m
  | 0, _ => rfl
  | m + 1, h => by
    unfold cn2
    rw [cn2_congr m (fun a b ha hb => h a b (by omega) hb), cn_congr n (fun b hb => h m b (by omega) hb)]
section MC
variable {S : Nt} {v : WS}
end MC
