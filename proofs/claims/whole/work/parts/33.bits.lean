/-! sets of roads as bits of a long -/
def bL (x : Int64) (i : Nat) : Bool := x.toBitVec.getLsbD i
theorem bL_ext {x y : Int64} (h : ∀ i, i < 64 → bL x i = bL y i) : x = y := Int64.toBitVec_inj.mp (BitVec.eq_of_getLsbD_eq h)
theorem bL_big {x : Int64} {i : Nat} (h : 64 ≤ i) : bL x i = false := BitVec.getLsbD_of_ge _ _ h
theorem bL_and (x y : Int64) (i : Nat) : bL (x &&& y) i = (bL x i && bL y i) := by
  unfold bL
  rw [Int64.toBitVec_and, BitVec.getLsbD_and]
theorem bL_or (x y : Int64) (i : Nat) : bL (x ||| y) i = (bL x i || bL y i) := by
  unfold bL
  rw [Int64.toBitVec_or, BitVec.getLsbD_or]
theorem bL_not (x : Int64) {i : Nat} (hi : i < 64) : bL (x ^^^ (-1)) i = !bL x i := by
  have ha : (-1 : Int64).toBitVec = BitVec.allOnes 64 := by decide
  unfold bL
  rw [Int64.toBitVec_xor, ha, BitVec.getLsbD_xor, BitVec.getLsbD_allOnes, decide_eq_true hi]
  simp
theorem bL_0 (i : Nat) : bL 0 i = false := by
  show (0#64).getLsbD i = false
  exact BitVec.getLsbD_zero
theorem bL_m1 {i : Nat} (hi : i < 64) : bL (-1) i = true := by
  have ha : (-1 : Int64).toBitVec = BitVec.allOnes 64 := by decide
  unfold bL
  rw [ha, BitVec.getLsbD_allOnes, decide_eq_true hi]
theorem bL_oneV : ∀ r, r < 64 → ((1 : Int64) <<< ((nI r).toInt64 &&& 63)).toBitVec = BitVec.twoPow 64 r := by decide +kernel
theorem bL_one {r : Nat} (hr : r < 64) (i : Nat) : bL ((1 : Int64) <<< ((nI r).toInt64 &&& 63)) i = decide (i = r) := by
  unfold bL
  rw [bL_oneV r hr, BitVec.getLsbD_twoPow, decide_eq_true hr, Bool.true_and]
  by_cases h : i = r
  · rw [decide_eq_true h, decide_eq_true h.symm]
  · rw [decide_eq_false h, decide_eq_false (fun e => h e.symm)]
theorem bL_upV : ∀ a, a < 64 → ((-1 : Int64) <<< ((nI a).toInt64 &&& 63)).toBitVec = BitVec.allOnes 64 <<< a := by decide +kernel
theorem bL_up {a : Nat} (ha : a < 64) {i : Nat} (hi : i < 64) : bL ((-1 : Int64) <<< ((nI a).toInt64 &&& 63)) i = decide (a ≤ i) := by
  unfold bL
  rw [bL_upV a ha, BitVec.getLsbD_shiftLeft, decide_eq_true hi, BitVec.getLsbD_allOnes, decide_eq_true (show i - a < 64 by omega), Bool.true_and, Bool.and_true]
  by_cases h : i < a
  · rw [decide_eq_true h, decide_eq_false (by omega)]; rfl
  · rw [decide_eq_false h, decide_eq_true (by omega)]; rfl
theorem bL_lowV : ∀ n, n < 64 → ((1 : Int64) <<< ((nI n).toInt64 &&& 63) - 1).toBitVec = BitVec.ofNat 64 (2 ^ n - 1) := by decide +kernel
theorem bL_low {n : Nat} (hn : n < 64) {i : Nat} (hi : i < 64) : bL ((1 : Int64) <<< ((nI n).toInt64 &&& 63) - 1) i = decide (i < n) := by
  unfold bL
  rw [bL_lowV n hn, BitVec.getLsbD_ofNat, decide_eq_true hi, Bool.true_and, Nat.testBit_two_pow_sub_one]
theorem bL_amt : ∀ k, k < 64 → ((nI k).toInt64 &&& 63).toBitVec.smod 64 = BitVec.ofNat 64 k := by decide +kernel
theorem bL_sar (x : Int64) {r : Nat} (hr : r < 64) : bL (x >>> ((nI r).toInt64 &&& 63)) 0 = bL x r := by
  unfold bL
  rw [Int64.toBitVec_shiftRight, bL_amt r hr, BitVec.getLsbD_sshiftRight', BitVec.toNat_ofNat, Nat.mod_eq_of_lt (show r < 2 ^ 64 by omega)]
  simp [hr]
theorem bL_1 (i : Nat) : bL 1 i = decide (i = 0) := by
  by_cases hi : i < 64
  · unfold bL
    rw [show (1 : Int64).toBitVec = BitVec.twoPow 64 0 by decide, BitVec.getLsbD_twoPow]
    by_cases h : i = 0
    · simp [h]
    · simp [h, show ¬ 0 = i by omega]
  · rw [bL_big (by omega), decide_eq_false (by omega)]
theorem has_ok (fu : Nat) (x : Int64) {r : Nat} (hr : r < 64) : f_X3_has fu x (nI r) = some (if bL x r = true then 1 else 0) := by
  unfold f_X3_has
  by_cases h : bL x r = true
  · rw [if_pos h, if_neg]
    intro e
    have e := (lg_cmp_eq _ _).mp e
    have e2 := congrArg (fun y => bL y 0) e
    simp only [bL_and, bL_sar x hr, bL_1, bL_0, h] at e2
    simp at e2
  · rw [if_neg h, if_pos]
    refine (lg_cmp_eq _ _).mpr (bL_ext fun i hi => ?_)
    rw [bL_and, bL_1, bL_0]
    by_cases h0 : i = 0
    · subst h0
      rw [bL_sar x hr, Bool.eq_false_iff.mpr h]
      rfl
    · rw [decide_eq_false h0, Bool.and_false]
theorem only_ok (fu r : Nat) : f_X3_only fu (nI r) = some ((1 : Int64) <<< ((nI r).toInt64 &&& 63)) := rfl
/-- the lowest bit -/
def Tz (p : Nat → Bool) (n k : Nat) : Prop := k ≤ n ∧ (∀ i, i < k → p i = false) ∧ (k < n → p k = true)
theorem Tz_ex (p : Nat → Bool) : ∀ n, ∃ k, Tz p n k
  | 0 => ⟨0, Nat.le_refl 0, fun i h => absurd h (Nat.not_lt_zero i), fun h => absurd h (Nat.lt_irrefl 0)⟩
  | n + 1 => by
    obtain ⟨k, h1, h2, h3⟩ := Tz_ex p n
    by_cases hk : k < n
    · exact ⟨k, by omega, h2, fun _ => h3 hk⟩
    · have : k = n := by omega
      subst this
      by_cases hp : p k = true
      · exact ⟨k, by omega, h2, fun _ => hp⟩
      · refine ⟨k + 1, by omega, fun i hi => ?_, fun h => absurd h (by omega)⟩
        by_cases he : i = k
        · rw [he]; exact Bool.eq_false_iff.mpr hp
        · exact h2 i (by omega)
def bI (x : Int32) (i : Nat) : Bool := x.toBitVec.getLsbD i
theorem tz_tab : ∀ k, k < 32 → f_J6_numberOfTrailingZeros_0f7a4 0 (Int32.ofInt (2 ^ k)) = some (nI k) := by decide +kernel
theorem tz_fu (fu : Nat) (x : Int32) : f_J6_numberOfTrailingZeros_0f7a4 fu x = f_J6_numberOfTrailingZeros_0f7a4 0 x := rfl
theorem tz_same {x y : Int32} (h : ((x ^^^ (-1)) &&& (x - 1)) = ((y ^^^ (-1)) &&& (y - 1))) : f_J6_numberOfTrailingZeros_0f7a4 0 x = f_J6_numberOfTrailingZeros_0f7a4 0 y := by
  unfold f_J6_numberOfTrailingZeros_0f7a4
  rw [h]
/-- below the lowest bit: ones -/
theorem tz_mask {x : Int32} {k : Nat} (hk : k < 32) (h : Tz (bI x) 32 k) : ((x ^^^ (-1)) &&& (x - 1)).toBitVec = BitVec.ofNat 32 (2 ^ k - 1) := by
  obtain ⟨-, h2, h3⟩ := h
  have h3 := h3 hk
  have hx : x.toBitVec.toNat < 2 ^ 32 := x.toBitVec.isLt
  have hb : ∀ i, x.toBitVec.toNat.testBit i = bI x i := fun i => BitVec.testBit_toNat _
  -- x = 2^k (2 q + 1)
  have hm : x.toBitVec.toNat % 2 ^ k = 0 := by
    apply Nat.eq_of_testBit_eq
    intro i
    rw [Nat.testBit_mod_two_pow, Nat.zero_testBit, hb]
    by_cases hi : i < k
    · rw [h2 i hi, Bool.and_false]
    · rw [decide_eq_false hi, Bool.false_and]
  have hd : x.toBitVec.toNat / 2 ^ k % 2 = 1 := by
    have := hb k
    rw [h3, Nat.testBit_eq_decide_div_mod_eq] at this
    simpa using this
  have hp : 0 < 2 ^ k := Nat.two_pow_pos k
  have hdm := Nat.div_add_mod x.toBitVec.toNat (2 ^ k)
  have hq := Nat.div_add_mod (x.toBitVec.toNat / 2 ^ k) 2
  have hx1 : x.toBitVec.toNat = 2 ^ k * (2 * (x.toBitVec.toNat / 2 ^ k / 2) + 1) + 0 := by
    rw [hd] at hq
    rw [hm] at hdm
    rw [hq]
    exact hdm.symm
  have hs : (x - 1).toBitVec.toNat = 2 ^ k * (2 * (x.toBitVec.toNat / 2 ^ k / 2)) + (2 ^ k - 1) := by
    show (x.toBitVec - 1#32).toNat = _
    have e : 2 ^ k * (2 * (x.toBitVec.toNat / 2 ^ k / 2) + 1) = 2 ^ k * (2 * (x.toBitVec.toNat / 2 ^ k / 2)) + 2 ^ k := Nat.mul_succ _ _
    rw [BitVec.toNat_sub, show (1#32).toNat = 1 from rfl]
    generalize x.toBitVec.toNat / 2 ^ k / 2 = q at *
    generalize x.toBitVec.toNat = X at *
    generalize 2 ^ k * (2 * q) = Y at *
    generalize 2 ^ k = P at *
    omega
  have ha : (-1 : Int32).toBitVec = BitVec.allOnes 32 := by decide
  apply BitVec.eq_of_getLsbD_eq
  intro i hi
  have hbs : (x - 1).toBitVec.getLsbD i = if i < k then true else (2 * (x.toBitVec.toNat / 2 ^ k / 2)).testBit (i - k) := by
    rw [← BitVec.testBit_toNat, hs, Nat.testBit_two_pow_mul_add _ (by omega)]
    by_cases h : i < k
    · rw [if_pos h, if_pos h, Nat.testBit_two_pow_sub_one, decide_eq_true h]
    · rw [if_neg h, if_neg h]
  have hbx : x.toBitVec.getLsbD i = if i < k then false else (2 * (x.toBitVec.toNat / 2 ^ k / 2) + 1).testBit (i - k) := by
    rw [← BitVec.testBit_toNat]
    conv => lhs; rw [hx1]
    rw [Nat.testBit_two_pow_mul_add _ hp]
    by_cases h : i < k
    · rw [if_pos h, if_pos h, Nat.zero_testBit]
    · rw [if_neg h, if_neg h]
  rw [Int32.toBitVec_and, Int32.toBitVec_xor, ha, BitVec.getLsbD_and, BitVec.getLsbD_xor, BitVec.getLsbD_allOnes, decide_eq_true hi, hbs, hbx, BitVec.getLsbD_ofNat, decide_eq_true hi, Nat.testBit_two_pow_sub_one]
  by_cases h : i < k
  · rw [if_pos h, if_pos h, decide_eq_true h]; rfl
  · rw [if_neg h, if_neg h, decide_eq_false h]
    cases hj : i - k with
    | zero => simp
    | succ j =>
      rw [Nat.testBit_succ, Nat.testBit_succ, show 2 * (x.toBitVec.toNat / 2 ^ k / 2) / 2 = x.toBitVec.toNat / 2 ^ k / 2 by omega, show (2 * (x.toBitVec.toNat / 2 ^ k / 2) + 1) / 2 = x.toBitVec.toNat / 2 ^ k / 2 by omega]
      cases (x.toBitVec.toNat / 2 ^ k / 2).testBit j <;> rfl
theorem tz_pw : ∀ k, k < 32 → ((Int32.ofInt (2 ^ k) ^^^ (-1)) &&& (Int32.ofInt (2 ^ k) - 1)).toBitVec = BitVec.ofNat 32 (2 ^ k - 1) := by decide +kernel
theorem tz_ok (fu : Nat) {x : Int32} {k : Nat} (h : Tz (bI x) 32 k) : f_J6_numberOfTrailingZeros_0f7a4 fu x = some (nI k) := by
  rw [tz_fu]
  by_cases hk : k < 32
  · rw [← tz_tab k hk]
    exact tz_same (Int32.toBitVec_inj.mp ((tz_mask hk h).trans (tz_pw k hk).symm))
  · have e : k = 32 := by have := h.1; omega
    subst e
    have hx : x = 0 := Int32.toBitVec_inj.mp (BitVec.eq_of_getLsbD_eq fun i hi => by
      have := h.2.1 i hi
      unfold bI at this
      rw [this]
      exact BitVec.getLsbD_zero.symm)
    subst hx
    decide +kernel
