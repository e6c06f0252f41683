/-! Long.bitCount: what it answers -/
def bI (x : Int32) (i : Nat) : Bool := x.toBitVec.getLsbD i
theorem bI_lo (x : Int64) {i : Nat} (hi : i < 32) : bI x.toInt32 i = bL x i := by
  unfold bI bL
  rw [Int64.toBitVec_toInt32, BitVec.getLsbD_signExtend, decide_eq_true hi, if_pos (show i < 64 by omega), Bool.true_and]
theorem nb_lt {b : Nat → Nat} (hb : ∀ i, b i < 256) : nb b 8 0 < 18446744073709551616 := by
  rw [nb8]
  have := hb 0
  have := hb 1
  have := hb 2
  have := hb 3
  have := hb 4
  have := hb 5
  have := hb 6
  have := hb 7
  omega
theorem tn_sub {x y : Int64} (h : y.toBitVec.toNat ≤ x.toBitVec.toNat) : (x - y).toBitVec.toNat = x.toBitVec.toNat - y.toBitVec.toNat := by
  have h1 : x.toBitVec.toNat < 2 ^ 64 := x.toBitVec.isLt
  show (x.toBitVec - y.toBitVec).toNat = _
  rw [BitVec.toNat_sub]
  omega
theorem cnt_end {x : Int64} {k : Nat} (hk : k < 128) (h : x.toBitVec.toNat % 128 = k) : Int64.toInt32 x &&& 127 = nI k := by
  rw [pk_and (Int64.toInt32 x) (m := 127) 7 (by decide)]
  congr 1
  rw [← h]
  apply Nat.eq_of_testBit_eq
  intro j
  rw [show (128 : Nat) = 2 ^ 7 from rfl, Nat.testBit_mod_two_pow, Nat.testBit_mod_two_pow]
  by_cases hj : j < 7
  · rw [decide_eq_true hj, Bool.true_and, Bool.true_and]
    exact bI_lo x (by omega)
  · rw [decide_eq_false hj, Bool.false_and, Bool.false_and]
theorem nb_add (c d : Nat → Nat) : ∀ k i, nb c k i + nb d k i = nb (fun j => c j + d j) k i
  | 0, i => rfl
  | k + 1, i => by
    have ih := nb_add c d k (i + 1)
    show (c i + 256 * nb c k (i + 1)) + (d i + 256 * nb d k (i + 1)) = (c i + d i) + 256 * nb (fun j => c j + d j) k (i + 1)
    omega
theorem nb_sh8 {c : Nat → Nat} (hc : ∀ i, c i < 256) : nb c 8 0 / 256 = nb (fun i => if i < 7 then c (i + 1) else 0) 8 0 := by
  rw [nb8, nb8]
  have := hc 0
  simp only [Nat.reduceLT, Nat.reduceAdd, if_true, if_false, Nat.lt_irrefl]
  omega
theorem nb_sh16 {c : Nat → Nat} (hc : ∀ i, c i < 256) : nb c 8 0 / 65536 = nb (fun i => if i < 6 then c (i + 2) else 0) 8 0 := by
  rw [nb8, nb8]
  have := hc 0
  have := hc 1
  simp only [Nat.reduceLT, Nat.reduceAdd, if_true, if_false, Nat.lt_irrefl]
  omega
theorem nb_sh32 {c : Nat → Nat} (hc : ∀ i, c i < 256) : nb c 8 0 / 4294967296 = nb (fun i => if i < 4 then c (i + 4) else 0) 8 0 := by
  rw [nb8, nb8]
  have := hc 0
  have := hc 1
  have := hc 2
  have := hc 3
  simp only [Nat.reduceLT, Nat.reduceAdd, if_true, if_false, Nat.lt_irrefl]
  omega
theorem nb_mod (c : Nat → Nat) : nb c 8 0 % 128 = c 0 % 128 := by
  show (c 0 + 256 * nb c 7 1) % 128 = c 0 % 128
  omega
theorem bitCount_ok (fu : Nat) (x : Int64) : f_J13_bitCount_95d88 fu x = some (nI (cn (bL x) 64)) := by
  obtain ⟨b, hb, hn⟩ := bytes8 (n := x.toBitVec.toNat) x.toBitVec.isLt
  have hd := fun i => pc_3 (b i) (hb i)
  have hP : ∀ i, pc8 (b i) ≤ 8 := fun i => by have := hd i; omega
  have eC : cn (bL x) 64 = pcS b 8 0 := by
    rw [← pc_6 hb 8 0]
    refine cn_congr 64 fun j _ => ?_
    rw [← hn]
    rfl
  have eS : pcS b 8 0 = pc8 (b 0) + (pc8 (b 1) + (pc8 (b 2) + (pc8 (b 3) + (pc8 (b 4) + (pc8 (b 5) + (pc8 (b 6) + (pc8 (b 7) + 0))))))) := rfl
  unfold f_J13_bitCount_95d88
  simp only [nm_e1]
  rw [eC]
  congr 1
  generalize h1 : x - ((Int64.toUInt64 x >>> (Int64.toUInt64 (Int32.toInt64 1) &&& Int64.toUInt64 63)).toInt64 &&& 6148914691236517205) = x1
  have t1 : x1.toBitVec.toNat = nb (fun i => pcB1 (b i)) 8 0 := by
    have e := tn_and (Int64.toUInt64 x >>> (Int64.toUInt64 (Int32.toInt64 1) &&& Int64.toUInt64 63)).toInt64 6148914691236517205
    rw [tn_shr x (j := 1) (by decide) (by decide), show (6148914691236517205 : Int64).toBitVec.toNat = 6148914691236517205 by decide, hn] at e
    rw [← h1, tn_sub, e, hn, Nat.pow_one, sw_1 hb]
    rw [e, hn, Nat.pow_one]
    exact Nat.le_trans Nat.and_le_left (Nat.div_le_self _ _)
  generalize h2 : (x1 &&& 3689348814741910323) + ((Int64.toUInt64 x1 >>> (Int64.toUInt64 (Int32.toInt64 2) &&& Int64.toUInt64 63)).toInt64 &&& 3689348814741910323) = x2
  have t2 : x2.toBitVec.toNat = nb (fun i => pcB2 (b i)) 8 0 := by
    rw [← h2, tn_add, tn_and, tn_and, tn_shr x1 (j := 2) (by decide) (by decide), show (3689348814741910323 : Int64).toBitVec.toNat = 3689348814741910323 by decide, t1, show (2 : Nat) ^ 2 = 4 from rfl, sw_2 hb]
    exact Nat.mod_eq_of_lt (nb_lt fun i => by have := hd i; omega)
  generalize h3 : (x2 + (Int64.toUInt64 x2 >>> (Int64.toUInt64 (Int32.toInt64 4) &&& Int64.toUInt64 63)).toInt64) &&& 1085102592571150095 = x3
  have t3 : x3.toBitVec.toNat = nb (fun i => pc8 (b i)) 8 0 := by
    rw [← h3, tn_and, tn_add, tn_shr x2 (j := 4) (by decide) (by decide), show (1085102592571150095 : Int64).toBitVec.toNat = 1085102592571150095 by decide, t2, show (2 : Nat) ^ 4 = 16 from rfl, Nat.mod_eq_of_lt, sw_3 hb]
    rw [nb8]
    have := hd 0
    have := hd 1
    have := hd 2
    have := hd 3
    have := hd 4
    have := hd 5
    have := hd 6
    have := hd 7
    omega
  generalize h4 : x3 + (Int64.toUInt64 x3 >>> (Int64.toUInt64 (Int32.toInt64 8) &&& Int64.toUInt64 63)).toInt64 = x4
  have l4 : ∀ i, (fun i => pc8 (b i) + if i < 7 then pc8 (b (i + 1)) else 0) i ≤ 16 := fun i => by
    have := hP i
    have := hP (i + 1)
    show (pc8 (b i) + if i < 7 then pc8 (b (i + 1)) else 0) ≤ 16
    split <;> omega
  have t4 : x4.toBitVec.toNat = nb (fun i => pc8 (b i) + if i < 7 then pc8 (b (i + 1)) else 0) 8 0 := by
    rw [← h4, tn_add, tn_shr x3 (j := 8) (by decide) (by decide), t3, show (2 : Nat) ^ 8 = 256 from rfl, nb_sh8 (fun i => by have := hP i; omega), nb_add]
    exact Nat.mod_eq_of_lt (nb_lt fun i => Nat.lt_of_le_of_lt (l4 i) (by decide))
  have e4 : ∀ i, i < 7 → (fun i => pc8 (b i) + if i < 7 then pc8 (b (i + 1)) else 0) i = pc8 (b i) + pc8 (b (i + 1)) := fun i hi => by
    show (pc8 (b i) + if i < 7 then pc8 (b (i + 1)) else 0) = _
    rw [if_pos hi]
  generalize (fun i => pc8 (b i) + if i < 7 then pc8 (b (i + 1)) else 0) = c4 at l4 t4 e4
  generalize h5 : x4 + (Int64.toUInt64 x4 >>> (Int64.toUInt64 (Int32.toInt64 16) &&& Int64.toUInt64 63)).toInt64 = x5
  have l5 : ∀ i, (fun i => c4 i + if i < 6 then c4 (i + 2) else 0) i ≤ 32 := fun i => by
    have := l4 i
    have := l4 (i + 2)
    show (c4 i + if i < 6 then c4 (i + 2) else 0) ≤ 32
    split <;> omega
  have t5 : x5.toBitVec.toNat = nb (fun i => c4 i + if i < 6 then c4 (i + 2) else 0) 8 0 := by
    rw [← h5, tn_add, tn_shr x4 (j := 16) (by decide) (by decide), t4, show (2 : Nat) ^ 16 = 65536 from rfl, nb_sh16 (fun i => Nat.lt_of_le_of_lt (l4 i) (by decide)), nb_add]
    exact Nat.mod_eq_of_lt (nb_lt fun i => Nat.lt_of_le_of_lt (l5 i) (by decide))
  have e5 : ∀ i, i < 6 → (fun i => c4 i + if i < 6 then c4 (i + 2) else 0) i = c4 i + c4 (i + 2) := fun i hi => by
    show (c4 i + if i < 6 then c4 (i + 2) else 0) = _
    rw [if_pos hi]
  generalize (fun i => c4 i + if i < 6 then c4 (i + 2) else 0) = c5 at l5 t5 e5
  generalize h6 : x5 + (Int64.toUInt64 x5 >>> (Int64.toUInt64 (Int32.toInt64 32) &&& Int64.toUInt64 63)).toInt64 = x6
  have l6 : ∀ i, (fun i => c5 i + if i < 4 then c5 (i + 4) else 0) i ≤ 64 := fun i => by
    have := l5 i
    have := l5 (i + 4)
    show (c5 i + if i < 4 then c5 (i + 4) else 0) ≤ 64
    split <;> omega
  have t6 : x6.toBitVec.toNat = nb (fun i => c5 i + if i < 4 then c5 (i + 4) else 0) 8 0 := by
    rw [← h6, tn_add, tn_shr x5 (j := 32) (by decide) (by decide), t5, show (2 : Nat) ^ 32 = 4294967296 from rfl, nb_sh32 (fun i => Nat.lt_of_le_of_lt (l5 i) (by decide)), nb_add]
    exact Nat.mod_eq_of_lt (nb_lt fun i => Nat.lt_of_le_of_lt (l6 i) (by decide))
  have k0 := e4 0 (by decide)
  have k2 := e4 2 (by decide)
  have k4 := e4 4 (by decide)
  have k6 := e4 6 (by decide)
  have m0 := e5 0 (by decide)
  have m4 := e5 4 (by decide)
  have z0 := l6 0
  have s0 : (fun i => c5 i + if i < 4 then c5 (i + 4) else 0) 0 = c5 0 + c5 4 := rfl
  simp only [Nat.zero_add, Nat.reduceAdd] at k0 k2 k4 k6 m0 m4
  rw [s0] at z0
  have es : c5 0 + c5 4 = pcS b 8 0 := by omega
  refine cnt_end (by omega) ?_
  rw [t6, nb_mod]
  show (c5 0 + c5 4) % 128 = pcS b 8 0
  rw [es]
  omega
