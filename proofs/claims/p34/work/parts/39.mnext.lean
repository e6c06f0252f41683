/-! the reference: the road to take next -/
theorem cn2_one {P Q : Nat → Nat → Bool} {n a0 b0 : Nat} (hb0 : b0 < n) (hP : P a0 b0 = false) (hQ : Q a0 b0 = true) (h : ∀ a b, ¬ (a = a0 ∧ b = b0) → Q a b = P a b) : ∀ m, cn2 Q n m = cn2 P n m + if a0 < m then 1 else 0
  | 0 => by simp [cn2]
  | m + 1 => by
    have ih := cn2_one hb0 hP hQ h m
    unfold cn2
    rw [ih]
    by_cases e : m = a0
    · subst e
      have h1 := cn_one (P := Q m) (Q := P m) (v := b0) hQ (fun r => by
        by_cases e2 : r = b0
        · rw [e2, hP]; simp
        · rw [h m r (fun hh => e2 hh.2)]; simp [e2]) n
      rw [if_pos hb0] at h1
      rw [if_neg (Nat.lt_irrefl m), if_pos (Nat.lt_succ_self m)]
      omega
    · have h1 := cn_congr (P := Q m) (Q := P m) n (fun b _ => h m b (fun hh => e hh.1))
      rw [h1]
      by_cases h2 : a0 < m
      · rw [if_pos h2, if_pos (show a0 < m + 1 by omega)]; omega
      · rw [if_neg h2, if_neg (show ¬ a0 < m + 1 by omega)]; omega
theorem m1_ne {n : Nat} (h : n < 2 ^ 31) : nI n ≠ (-1) := fun e => by
  have := congrArg Int32.toInt e
  rw [nI_toInt h] at this
  have h1 : (-1 : Int32).toInt = -1 := by decide
  omega
section MX
variable {S : Nt} {v : WS} {p : Nat}
theorem ctW_le (st : (Nat → Nat → Bool) × (Nat → Bool)) {n : Nat} (hn : n ≤ 64) (k : Nat) : ctW n st k ≤ 4096 := by
  unfold ctW
  have h1 := cn_le (fun u => st.2 u && st.1 u k) n
  have h2 := cn_le (fun u => st.2 u && st.1 k u) n
  exact Nat.le_trans (Nat.mul_le_mul (Nat.le_trans h1 hn) (Nat.le_trans h2 hn)) (by decide)
end MX
