/-! a quotient of a sum by a count is a number -/
def fpOK (d : FP.Core.Datum) : Prop := (∃ s, d = .inf s) ∨ ∃ s c q, d = .fin s c q ∧ c < 9007199254740992 ∧ q ≤ 971
theorem fp_ratio (s : Bool) (a b : Nat) (e : Int) : fpOK (FP.Core.roundRatio FP.Core.b64 s a b e) := by
  have hp : (2 : Nat) ^ FP.Core.b64.p = 9007199254740992 := by decide
  have hq : FP.Core.b64.qmax = 971 := by decide
  have ht : FP.Core.b64.tails = 4503599627370496 := by decide
  unfold FP.Core.roundRatio
  by_cases h : a = 0
  · rw [if_pos h]
    exact Or.inr ⟨s, 0, _, rfl, by decide, by decide⟩
  · rw [if_neg h]
    unfold FP.Core.roundAt FP.Core.settle FP.Core.bound
    rw [hp, hq, ht]
    split
    · rename_i hc
      split
      · rename_i hq2
        exact Or.inr ⟨s, _, _, rfl, hc, hq2⟩
      · exact Or.inl ⟨s, rfl⟩
    · split
      · rename_i hq2
        exact Or.inr ⟨s, _, _, rfl, by decide, hq2⟩
      · exact Or.inl ⟨s, rfl⟩
theorem fp_enc {d : FP.Core.Datum} (h : fpOK d) : FP.Core.encode FP.Core.b64 d < 18446744073709551616 ∧ FP.Core.encode FP.Core.b64 d % 9223372036854775808 ≤ 9218868437227405312 := by
  have hm : FP.Core.b64.qmin = -1074 := by decide
  have he : FP.Core.b64.exps = 2048 := by decide
  have ht : FP.Core.b64.tails = 4503599627370496 := by decide
  have hb : ∀ s : Bool, s.toNat ≤ 1 := fun s => by cases s <;> decide
  rcases h with ⟨s, rfl⟩ | ⟨s, c, q, rfl, hc, hq⟩
  · have := hb s
    show FP.Core.assemble FP.Core.b64 s (FP.Core.b64.exps - 1) 0 < _ ∧ FP.Core.assemble FP.Core.b64 s (FP.Core.b64.exps - 1) 0 % _ ≤ _
    unfold FP.Core.assemble
    rw [he, ht]
    generalize s.toNat = b at *
    omega
  · have := hb s
    show (if c < FP.Core.b64.tails then FP.Core.assemble FP.Core.b64 s 0 c else FP.Core.assemble FP.Core.b64 s ((q - FP.Core.b64.qmin).toNat + 1) (c - FP.Core.b64.tails)) < _ ∧ (if c < FP.Core.b64.tails then FP.Core.assemble FP.Core.b64 s 0 c else FP.Core.assemble FP.Core.b64 s ((q - FP.Core.b64.qmin).toNat + 1) (c - FP.Core.b64.tails)) % _ ≤ _
    unfold FP.Core.assemble
    rw [he, ht, hm]
    have hq2 : (q - -1074).toNat ≤ 2045 := by omega
    generalize (q - -1074).toNat = k at *
    generalize s.toNat = b at *
    by_cases h1 : c < 4503599627370496
    · rw [if_pos h1]
      omega
    · rw [if_neg h1]
      omega
theorem fp_dec {n : Nat} (h : n % 9223372036854775808 ≤ 9218868437227405312) : FP.Core.decode FP.Core.b64 n ≠ .nan := by
  have he : FP.Core.b64.exps = 2048 := by decide
  have ht : FP.Core.b64.tails = 4503599627370496 := by decide
  intro hh
  unfold FP.Core.decode FP.Core.fieldE FP.Core.fieldT at hh
  rw [he, ht] at hh
  by_cases c : n / 4503599627370496 % 2048 = 2048 - 1
  · rw [if_pos c] at hh
    by_cases c2 : n % 4503599627370496 = 0
    · rw [if_pos c2] at hh
      cases hh
    · omega
  · rw [if_neg c] at hh
    by_cases c2 : n / 4503599627370496 % 2048 = 0
    · rw [if_pos c2] at hh
      cases hh
    · rw [if_neg c2] at hh
      cases hh
theorem fp_of {d : FP.Core.Datum} (h : fpOK d) : (UInt64.ofNat (FP.Core.encode FP.Core.b64 d)).toNat = FP.Core.encode FP.Core.b64 d := by
  have := (fp_enc h).1
  exact Nat.mod_eq_of_lt this
def fpNZ (d : FP.Core.Datum) : Bool := match d with
  | .fin _ c _ => !(c == 0)
  | _ => false
theorem fp_cnt : ∀ c : Nat, c < 33 → 0 < c → fpNZ (FP.Core.decode FP.Core.b64 (FP.Core.i2d (nI c)).toNat) = true := by decide +kernel
theorem fp_quot {x y : FP.Core.Datum} (hx : x ≠ .nan) (hy : fpNZ y = true) : fpOK (FP.Core.quotient FP.Core.b64 x y) := by
  cases y with
  | nan => cases hy
  | inf s => cases hy
  | fin t d r =>
    have hd : d ≠ 0 := by
      intro h
      subst h
      cases hy
    cases x with
    | nan => exact absurd rfl hx
    | inf s => exact Or.inl ⟨_, rfl⟩
    | fin s c q =>
      show fpOK (if d = 0 then (if c = 0 then FP.Core.Datum.nan else .inf (s != t)) else FP.Core.roundRatio FP.Core.b64 (s != t) c d (q - r))
      rw [if_neg hd]
      exact fp_ratio _ _ _ _
theorem fp_avg {s c : Nat} (hc : c < 33) (h0 : 0 < c) : vf_n64 (FP.ddiv (FP.i2d (nI s)) (FP.i2d (nI c))) := by
  have h1 : fpOK (FP.Core.round FP.Core.b64 (FP.Core.ofInt (nI s).toInt)) := fp_ratio _ _ 1 _
  have h2 : (FP.Core.i2d (nI s)).toNat = FP.Core.encode FP.Core.b64 (FP.Core.round FP.Core.b64 (FP.Core.ofInt (nI s).toInt)) := fp_of h1
  have h3 : FP.Core.decode FP.Core.b64 (FP.Core.i2d (nI s)).toNat ≠ .nan := fp_dec (by rw [h2]; exact (fp_enc h1).2)
  have h4 := fp_quot h3 (fp_cnt c hc h0)
  have h5 : (FP.Core.ddiv (FP.Core.i2d (nI s)) (FP.Core.i2d (nI c))).toNat = FP.Core.encode FP.Core.b64 (FP.Core.quotient FP.Core.b64 (FP.Core.decode FP.Core.b64 (FP.Core.i2d (nI s)).toNat) (FP.Core.decode FP.Core.b64 (FP.Core.i2d (nI c)).toNat)) := fp_of h4
  show FP.Core.ddiv (FP.Core.i2d (nI s)) (FP.Core.i2d (nI c)) &&& 0x7fffffffffffffff ≤ 0x7ff0000000000000
  rw [UInt64.le_iff_toNat_le, UInt64.toNat_and, show (0x7fffffffffffffff : UInt64).toNat = 2 ^ 63 - 1 from rfl, Nat.and_two_pow_sub_one_eq_mod, h5]
  exact (fp_enc h4).2
theorem fp_l2d {s : Nat} (hs : s < 2 ^ 31) : FP.l2d (lN s) = FP.i2d (nI s) := by
  show FP.Core.l2d (lN s) = FP.Core.i2d (nI s)
  unfold FP.Core.l2d FP.Core.i2d
  rw [lN_toInt hs, nI_toInt hs]
