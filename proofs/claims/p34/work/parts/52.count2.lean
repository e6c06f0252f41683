/-! Long.bitCount, the rest -/
theorem sw_2 {b : Nat → Nat} (hb : ∀ i, b i < 256) : (nb (fun i => pcB1 (b i)) 8 0 &&& 3689348814741910323) + (nb (fun i => pcB1 (b i)) 8 0 / 4 &&& 3689348814741910323) = nb (fun i => pcB2 (b i)) 8 0 := by
  have hc : ∀ i, pcB1 (b i) < 256 := fun i => (pc_2 (b i) (hb i) 0 (by decide)).2
  have e1 : nb (fun i => pcB1 (b i)) 8 0 / 4 = nb (fun i => pcB1 (b i) / 4 + 64 * (if i < 7 then pcB1 (b (i + 1)) % 4 else 0)) 8 0 := by
    rw [nb8, nb8]
    have := hc 0
    have := hc 1
    have := hc 2
    have := hc 3
    have := hc 4
    have := hc 5
    have := hc 6
    have := hc 7
    simp only [Nat.reduceLT, Nat.reduceAdd, if_true, if_false, Nat.lt_irrefl]
    omega
  have e2 : (3689348814741910323 : Nat) = nb (fun _ => 51) 8 0 := by decide
  have h2 : ∀ i, (if i < 7 then pcB1 (b (i + 1)) % 4 else 0) < 4 := fun i => by split <;> omega
  rw [e1, e2, and_nb hc (fun _ => by decide), and_nb (fun i => by have := hc i; have := h2 i; omega) (fun _ => by decide), nb8, nb8, nb8]
  have k : ∀ i, (pcB1 (b i) / 4 + 64 * (if i < 7 then pcB1 (b (i + 1)) % 4 else 0) &&& 51) = (pcB1 (b i) / 4 &&& 51) := fun i => (pc_2 (b i) (hb i) _ (h2 i)).1
  rw [k 0, k 1, k 2, k 3, k 4, k 5, k 6, k 7]
  unfold pcB2
  omega
theorem sw_3 {b : Nat → Nat} (hb : ∀ i, b i < 256) : (nb (fun i => pcB2 (b i)) 8 0 + nb (fun i => pcB2 (b i)) 8 0 / 16 &&& 1085102592571150095) = nb (fun i => pc8 (b i)) 8 0 := by
  have hd := fun i => pc_3 (b i) (hb i)
  have e1 : nb (fun i => pcB2 (b i)) 8 0 + nb (fun i => pcB2 (b i)) 8 0 / 16 = nb (fun i => pc8 (b i) + 16 * (pcB2 (b i) / 16 + (if i < 7 then pcB2 (b (i + 1)) % 16 else 0))) 8 0 := by
    rw [nb8, nb8]
    have := hd 0
    have := hd 1
    have := hd 2
    have := hd 3
    have := hd 4
    have := hd 5
    have := hd 6
    have := hd 7
    simp only [Nat.reduceLT, Nat.reduceAdd, if_true, if_false, Nat.lt_irrefl]
    omega
  have e2 : (1085102592571150095 : Nat) = nb (fun _ => 15) 8 0 := by decide
  have h2 : ∀ i, pcB2 (b i) / 16 + (if i < 7 then pcB2 (b (i + 1)) % 16 else 0) < 9 := fun i => by
    have := hd i
    have := hd (i + 1)
    split <;> omega
  have h3 : ∀ i, pc8 (b i) < 9 := fun i => by have := hd i; omega
  rw [e1, e2, and_nb (fun i => by have := h3 i; have := h2 i; omega) (fun _ => by decide), nb8, nb8]
  have k : ∀ i, (pc8 (b i) + 16 * (pcB2 (b i) / 16 + (if i < 7 then pcB2 (b (i + 1)) % 16 else 0)) &&& 15) = pc8 (b i) := fun i => pc_4 _ (h3 i) _ (h2 i)
  rw [k 0, k 1, k 2, k 3, k 4, k 5, k 6, k 7]
theorem cn_add (P : Nat → Bool) (m : Nat) : ∀ n, cn P (m + n) = cn P m + cn (fun j => P (m + j)) n
  | 0 => rfl
  | n + 1 => by
    show cn P (m + n) + (if P (m + n) = true then 1 else 0) = cn P m + (cn (fun j => P (m + j)) n + if P (m + n) = true then 1 else 0)
    rw [cn_add P m n]
    omega
theorem pc_5 : ∀ b, b < 256 → cn (fun j => b.testBit j) 8 = pc8 b := by decide +kernel
def pcS (b : Nat → Nat) : Nat → Nat → Nat
  | 0, _ => 0
  | k + 1, i => pc8 (b i) + pcS b k (i + 1)
theorem pc_6 {b : Nat → Nat} (hb : ∀ i, b i < 256) : ∀ k i, cn (fun j => (nb b k i).testBit j) (8 * k) = pcS b k i
  | 0, i => rfl
  | k + 1, i => by
    have e : ∀ j, (nb b (k + 1) i).testBit j = if j < 8 then (b i).testBit j else (nb b k (i + 1)).testBit (j - 8) := fun j => by
      show (b i + 256 * nb b k (i + 1)).testBit j = _
      rw [show b i + 256 * nb b k (i + 1) = 2 ^ 8 * nb b k (i + 1) + b i by omega, Nat.testBit_two_pow_mul_add _ (show b i < 2 ^ 8 from hb i)]
    rw [show 8 * (k + 1) = 8 + 8 * k by omega, cn_add, cn_congr (Q := fun j => (b i).testBit j) 8 (fun j hj => by rw [e j, if_pos hj]), pc_5 (b i) (hb i), cn_congr (Q := fun j => (nb b k (i + 1)).testBit j) (8 * k) (fun j _ => by rw [e (8 + j), if_neg (by omega), show 8 + j - 8 = j by omega]), pc_6 hb k (i + 1)]
    rfl
