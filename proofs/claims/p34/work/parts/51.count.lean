/-! Long.bitCount -/
def nb (b : Nat → Nat) : Nat → Nat → Nat
  | 0, _ => 0
  | k + 1, i => b i + 256 * nb b k (i + 1)
theorem and_byte {a m A M : Nat} (ha : a < 256) (hm : m < 256) : (a + 256 * A) &&& (m + 256 * M) = (a &&& m) + 256 * (A &&& M) := by
  apply Nat.eq_of_testBit_eq
  intro j
  have h3 : (a &&& m) < 2 ^ 8 := Nat.and_lt_two_pow _ hm
  rw [Nat.testBit_and, show a + 256 * A = 2 ^ 8 * A + a by omega, show m + 256 * M = 2 ^ 8 * M + m by omega, show (a &&& m) + 256 * (A &&& M) = 2 ^ 8 * (A &&& M) + (a &&& m) by omega, Nat.testBit_two_pow_mul_add _ (show a < 2 ^ 8 from ha), Nat.testBit_two_pow_mul_add _ (show m < 2 ^ 8 from hm), Nat.testBit_two_pow_mul_add _ h3]
  by_cases h : j < 8
  · rw [if_pos h, if_pos h, if_pos h, Nat.testBit_and]
  · rw [if_neg h, if_neg h, if_neg h, Nat.testBit_and]
theorem and_nb {b m : Nat → Nat} (hb : ∀ i, b i < 256) (hm : ∀ i, m i < 256) : ∀ k i, nb b k i &&& nb m k i = nb (fun j => b j &&& m j) k i
  | 0, i => by
    show (0 &&& 0 : Nat) = 0
    decide
  | k + 1, i => by
    show (b i + 256 * nb b k (i + 1)) &&& (m i + 256 * nb m k (i + 1)) = (b i &&& m i) + 256 * nb (fun j => b j &&& m j) k (i + 1)
    rw [and_byte (hb i) (hm i), and_nb hb hm k (i + 1)]
theorem nb8 (b : Nat → Nat) : nb b 8 0 = b 0 + 256 * (b 1 + 256 * (b 2 + 256 * (b 3 + 256 * (b 4 + 256 * (b 5 + 256 * (b 6 + 256 * b 7)))))) := by
  show b 0 + 256 * (b 1 + 256 * (b 2 + 256 * (b 3 + 256 * (b 4 + 256 * (b 5 + 256 * (b 6 + 256 * (b 7 + 256 * 0))))))) = _
  omega
theorem bytes8 {n : Nat} (h : n < 18446744073709551616) : ∃ b : Nat → Nat, (∀ i, b i < 256) ∧ n = nb b 8 0 := by
  refine ⟨fun i => match i with
    | 0 => n % 256
    | 1 => n / 256 % 256
    | 2 => n / 65536 % 256
    | 3 => n / 16777216 % 256
    | 4 => n / 4294967296 % 256
    | 5 => n / 1099511627776 % 256
    | 6 => n / 281474976710656 % 256
    | 7 => n / 72057594037927936 % 256
    | _ => 0, fun i => ?_, ?_⟩
  · dsimp only
    split <;> omega
  · rw [nb8]
    show n = n % 256 + 256 * (n / 256 % 256 + 256 * (n / 65536 % 256 + 256 * (n / 16777216 % 256 + 256 * (n / 4294967296 % 256 + 256 * (n / 1099511627776 % 256 + 256 * (n / 281474976710656 % 256 + 256 * (n / 72057594037927936 % 256)))))))
    omega
/-- the bits of a byte -/
def pc8 (b : Nat) : Nat := b % 2 + b / 2 % 2 + b / 4 % 2 + b / 8 % 2 + b / 16 % 2 + b / 32 % 2 + b / 64 % 2 + b / 128 % 2
theorem pc_1 : ∀ b, b < 256 → ∀ e, e < 2 → (b / 2 + 128 * e &&& 85) = (b / 2 &&& 85) ∧ (b / 2 &&& 85) ≤ b := by decide +kernel
def pcB1 (b : Nat) : Nat := b - (b / 2 &&& 85)
theorem pc_2 : ∀ b, b < 256 → ∀ e, e < 4 → (pcB1 b / 4 + 64 * e &&& 51) = (pcB1 b / 4 &&& 51) ∧ pcB1 b < 256 := by decide +kernel
def pcB2 (b : Nat) : Nat := (pcB1 b &&& 51) + (pcB1 b / 4 &&& 51)
theorem pc_3 : ∀ b, b < 256 → pcB2 b % 16 ≤ 4 ∧ pcB2 b / 16 ≤ 4 ∧ pcB2 b % 16 + pcB2 b / 16 = pc8 b := by decide +kernel
theorem pc_4 : ∀ l, l < 9 → ∀ h, h < 9 → (l + 16 * h &&& 15) = l := by decide +kernel
theorem tn_and (x y : Int64) : (x &&& y).toBitVec.toNat = x.toBitVec.toNat &&& y.toBitVec.toNat := by rw [Int64.toBitVec_and, BitVec.toNat_and]
theorem tn_add (x y : Int64) : (x + y).toBitVec.toNat = (x.toBitVec.toNat + y.toBitVec.toNat) % 18446744073709551616 := by rw [Int64.toBitVec_add, BitVec.toNat_add]
theorem tn_shr (x : Int64) {s : UInt64} {j : Nat} (hj : j < 64) (hs : s.toNat = j) : (x.toUInt64 >>> s).toInt64.toBitVec.toNat = x.toBitVec.toNat / 2 ^ j := by
  rw [shr_bv x hj hs, BitVec.toNat_ushiftRight, Nat.shiftRight_eq_div_pow]
/-- the first step, on bytes -/
theorem sw_1 {b : Nat → Nat} (hb : ∀ i, b i < 256) : nb b 8 0 - (nb b 8 0 / 2 &&& 6148914691236517205) = nb (fun i => pcB1 (b i)) 8 0 := by
  have e1 : nb b 8 0 / 2 = nb (fun i => b i / 2 + 128 * (if i < 7 then b (i + 1) % 2 else 0)) 8 0 := by
    rw [nb8, nb8]
    have := hb 0
    have := hb 1
    have := hb 2
    have := hb 3
    have := hb 4
    have := hb 5
    have := hb 6
    have := hb 7
    simp only [Nat.reduceLT, Nat.reduceAdd, if_true, if_false, Nat.lt_irrefl]
    omega
  have e2 : (6148914691236517205 : Nat) = nb (fun _ => 85) 8 0 := by decide
  have h2 : ∀ i, (if i < 7 then b (i + 1) % 2 else 0) < 2 := fun i => by split <;> omega
  rw [e1, e2, and_nb (fun i => by have := hb i; have := h2 i; omega) (fun _ => by decide), nb8, nb8, nb8]
  have k : ∀ i, (b i / 2 + 128 * (if i < 7 then b (i + 1) % 2 else 0) &&& 85) = (b i / 2 &&& 85) ∧ (b i / 2 &&& 85) ≤ b i := fun i => pc_1 (b i) (hb i) _ (h2 i)
  rw [(k 0).1, (k 1).1, (k 2).1, (k 3).1, (k 4).1, (k 5).1, (k 6).1, (k 7).1]
  have := (k 0).2
  have := (k 1).2
  have := (k 2).2
  have := (k 3).2
  have := (k 4).2
  have := (k 5).2
  have := (k 6).2
  have := (k 7).2
  unfold pcB1
  omega
