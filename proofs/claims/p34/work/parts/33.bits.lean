/-! sets of roads as bits of a long -/
def bL (x : Int64) (i : Nat) : Bool := x.toBitVec.getLsbD i
theorem bL_ext {x y : Int64} (h : ∀ i, i < 64 → bL x i = bL y i) : x = y := Int64.toBitVec_inj.mp (BitVec.eq_of_getLsbD_eq h)
theorem bL_big {x : Int64} {i : Nat} (h : 64 ≤ i) : bL x i = false := BitVec.getLsbD_of_ge _ _ h
theorem bL_and (x y : Int64) (i : Nat) : bL (x &&& y) i = (bL x i && bL y i) := by
  unfold bL
  rw [Int64.toBitVec_and, BitVec.getLsbD_and]
theorem bL_or (x y : Int64) (i : Nat) : bL (x ||| y) i = (bL x i || bL y i) := by
  unfold bL
  rw [Int64.toBitVec_or, BitVec.getLsbD_or]
theorem bL_not (x : Int64) {i : Nat} (hi : i < 64) : bL (x ^^^ (-1)) i = !bL x i := by
  have ha : (-1 : Int64).toBitVec = BitVec.allOnes 64 := by decide
  unfold bL
  rw [Int64.toBitVec_xor, ha, BitVec.getLsbD_xor, BitVec.getLsbD_allOnes, decide_eq_true hi]
  simp
theorem bL_0 (i : Nat) : bL 0 i = false := by
  show (0#64).getLsbD i = false
  exact BitVec.getLsbD_zero
theorem bL_m1 {i : Nat} (hi : i < 64) : bL (-1) i = true := by
  have ha : (-1 : Int64).toBitVec = BitVec.allOnes 64 := by decide
  unfold bL
  rw [ha, BitVec.getLsbD_allOnes, decide_eq_true hi]
theorem bL_oneV : ∀ r, r < 64 → ((1 : Int64) <<< ((nI r).toInt64 &&& 63)).toBitVec = BitVec.twoPow 64 r := by decide +kernel
theorem bL_one {r : Nat} (hr : r < 64) (i : Nat) : bL ((1 : Int64) <<< ((nI r).toInt64 &&& 63)) i = decide (i = r) := by
  unfold bL
  rw [bL_oneV r hr, BitVec.getLsbD_twoPow, decide_eq_true hr, Bool.true_and]
  by_cases h : i = r
  · rw [decide_eq_true h, decide_eq_true h.symm]
  · rw [decide_eq_false h, decide_eq_false (fun e => h e.symm)]
theorem bL_upV : ∀ a, a < 64 → ((-1 : Int64) <<< ((nI a).toInt64 &&& 63)).toBitVec = BitVec.allOnes 64 <<< a := by decide +kernel
theorem bL_up {a : Nat} (ha : a < 64) {i : Nat} (hi : i < 64) : bL ((-1 : Int64) <<< ((nI a).toInt64 &&& 63)) i = decide (a ≤ i) := by
  unfold bL
  rw [bL_upV a ha, BitVec.getLsbD_shiftLeft, decide_eq_true hi, BitVec.getLsbD_allOnes, decide_eq_true (show i - a < 64 by omega), Bool.true_and, Bool.and_true]
  by_cases h : i < a
  · rw [decide_eq_true h, decide_eq_false (by omega)]; rfl
  · rw [decide_eq_false h, decide_eq_true (by omega)]; rfl
theorem bL_lowV : ∀ n, n < 64 → ((1 : Int64) <<< ((nI n).toInt64 &&& 63) - 1).toBitVec = BitVec.ofNat 64 (2 ^ n - 1) := by decide +kernel
theorem bL_low {n : Nat} (hn : n < 64) {i : Nat} (hi : i < 64) : bL ((1 : Int64) <<< ((nI n).toInt64 &&& 63) - 1) i = decide (i < n) := by
  unfold bL
  rw [bL_lowV n hn, BitVec.getLsbD_ofNat, decide_eq_true hi, Bool.true_and, Nat.testBit_two_pow_sub_one]
theorem bL_amt : ∀ k, k < 64 → ((nI k).toInt64 &&& 63).toBitVec.smod 64 = BitVec.ofNat 64 k := by decide +kernel
theorem bL_sar (x : Int64) {r : Nat} (hr : r < 64) : bL (x >>> ((nI r).toInt64 &&& 63)) 0 = bL x r := by
  unfold bL
  rw [Int64.toBitVec_shiftRight, bL_amt r hr, BitVec.getLsbD_sshiftRight', BitVec.toNat_ofNat, Nat.mod_eq_of_lt (show r < 2 ^ 64 by omega)]
  simp [hr]
theorem bL_1 (i : Nat) : bL 1 i = decide (i = 0) := by
  by_cases hi : i < 64
  · unfold bL
    rw [show (1 : Int64).toBitVec = BitVec.twoPow 64 0 by decide, BitVec.getLsbD_twoPow]
    by_cases h : i = 0
    · simp [h]
    · simp [h, show ¬ 0 = i by omega]
  · rw [bL_big (by omega), decide_eq_false (by omega)]
theorem has_ok (fu : Nat) (x : Int64) {r : Nat} (hr : r < 64) : f_X3_has fu x (nI r) = some (if bL x r = true then 1 else 0) := by
  unfold f_X3_has
  by_cases h : bL x r = true
  · rw [if_pos h, if_neg]
    intro e
    have e := (lg_cmp_eq _ _).mp e
    have e2 := congrArg (fun y => bL y 0) e
    simp only [bL_and, bL_sar x hr, bL_1, bL_0, h] at e2
    simp at e2
  · rw [if_neg h, if_pos]
    refine (lg_cmp_eq _ _).mpr (bL_ext fun i hi => ?_)
    rw [bL_and, bL_1, bL_0]
    by_cases h0 : i = 0
    · subst h0
      rw [bL_sar x hr, Bool.eq_false_iff.mpr h]
      rfl
    · rw [decide_eq_false h0, Bool.and_false]
theorem only_ok (fu r : Nat) : f_X3_only fu (nI r) = some ((1 : Int64) <<< ((nI r).toInt64 &&& 63)) := rfl
