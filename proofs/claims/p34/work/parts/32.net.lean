/-! the network, costs and lengths of its steps and arcs -/
/-- junctions, roads; from, to, weight of a road; open; settings, U-turn -/
abbrev Nt : Type := (Nat × Nat) × ((Nat → Nat) × (Nat → Nat) × (Nat → Nat)) × (Nat → Bool) × ((Nat → Nat → Int32) × Int32)
def n_J (S : Nt) : Nat := S.1.1
def n_R (S : Nt) : Nat := S.1.2
def n_f (S : Nt) : Nat → Nat := S.2.1.1
def n_t (S : Nt) : Nat → Nat := S.2.1.2.1
def n_w (S : Nt) : Nat → Nat := S.2.1.2.2
def n_o (S : Nt) : Nat → Bool := S.2.2.1
def n_s (S : Nt) : Nat → Nat → Int32 := S.2.2.2.1
def n_u (S : Nt) : Int32 := S.2.2.2.2
def NtOK (S : Nt) : Prop := n_J S ≤ 32 ∧ n_R S ≤ 64 ∧ (∀ r, r < n_R S → n_f S r < n_J S ∧ n_t S r < n_J S ∧ n_f S r ≠ n_t S r ∧ 1 ≤ n_w S r ∧ n_w S r ≤ 10000) ∧ (∀ a b, (-2) ≤ (n_s S a b).toInt ∧ (n_s S a b).toInt ≤ 1000) ∧ (-1) ≤ (n_u S).toInt ∧ (n_u S).toInt ≤ 1000
def n_p (S : Nt) (a b : Nat) : Int32 := if n_s S a b = (-2) then (if n_t S b = n_f S a then n_u S else 0) else n_s S a b
def n_fol (S : Nt) (a b : Nat) : Bool := n_t S a == n_f S b
def c2 (S : Nt) (a b : Nat) : Nat := if a < n_R S ∧ b < n_R S ∧ n_o S a = true ∧ n_o S b = true ∧ n_fol S a b = true ∧ 0 ≤ (n_p S a b).toInt then (n_p S a b).toInt.toNat + n_w S b else 1000000000000
def s1 (S : Nt) (a b : Nat) : Nat := if c2 S a b < 1000000000000 then 128 * c2 S a b + 1 else 536870912
section NT
variable {S : Nt}
theorem n_p_le (h : NtOK S) (a b : Nat) : (-1) ≤ (n_p S a b).toInt ∧ (n_p S a b).toInt ≤ 1000 := by
  obtain ⟨-, -, -, h4, h5, h6⟩ := h
  unfold n_p
  by_cases h1 : n_s S a b = (-2)
  · rw [if_pos h1]
    by_cases h2 : n_t S b = n_f S a
    · rw [if_pos h2]; exact ⟨h5, h6⟩
    · rw [if_neg h2]; decide
  · rw [if_neg h1]
    have := h4 a b
    have h7 : (n_s S a b).toInt ≠ -2 := fun e => h1 (Int32.toInt_inj.mp (e.trans (by decide)))
    omega
theorem c2_cases (h : NtOK S) (a b : Nat) : (c2 S a b = 1000000000000 ∧ ¬ (a < n_R S ∧ b < n_R S ∧ n_o S a = true ∧ n_o S b = true ∧ n_fol S a b = true ∧ 0 ≤ (n_p S a b).toInt)) ∨ ((a < n_R S ∧ b < n_R S ∧ n_o S a = true ∧ n_o S b = true ∧ n_fol S a b = true ∧ 0 ≤ (n_p S a b).toInt) ∧ c2 S a b = (n_p S a b).toInt.toNat + n_w S b ∧ 1 ≤ c2 S a b ∧ c2 S a b ≤ 11000) := by
  unfold c2
  by_cases hc : a < n_R S ∧ b < n_R S ∧ n_o S a = true ∧ n_o S b = true ∧ n_fol S a b = true ∧ 0 ≤ (n_p S a b).toInt
  · rw [if_pos hc]
    have h1 := n_p_le h a b
    have h2 := h.2.2.1 b hc.2.1
    exact Or.inr ⟨hc, rfl, by omega, by omega⟩
  · rw [if_neg hc]
    exact Or.inl ⟨rfl, hc⟩
theorem c2_le (h : NtOK S) (a b : Nat) : c2 S a b ≤ 1000000000000 := by rcases c2_cases h a b with ⟨e, _⟩ | ⟨_, _, _, _⟩ <;> omega
theorem c2_pos (h : NtOK S) (a b : Nat) : 0 < c2 S a b := by rcases c2_cases h a b with ⟨e, _⟩ | ⟨_, _, _, _⟩ <;> omega
theorem c2_M (h : NtOK S) (a b : Nat) (hl : c2 S a b < 1000000000000) : c2 S a b ≤ 11000 := by rcases c2_cases h a b with ⟨e, _⟩ | ⟨_, _, _, _⟩ <;> omega
theorem s1_le (h : NtOK S) (a b : Nat) : s1 S a b ≤ 536870912 := by
  have := c2_M h a b
  unfold s1
  split <;> omega
theorem s1_pos (h : NtOK S) (a b : Nat) : 0 < s1 S a b := by
  unfold s1
  split <;> omega
theorem s1_lt (h : NtOK S) (a b : Nat) : s1 S a b < 536870912 ↔ c2 S a b < 1000000000000 := by
  have := c2_M h a b
  unfold s1
  split <;> omega
theorem s1_eq {a b : Nat} (h : c2 S a b < 1000000000000) : s1 S a b = 128 * c2 S a b + 1 := if_pos h
theorem n_fol_ne (h : NtOK S) : ∀ a b, a < n_R S → b < n_R S → n_fol S a b = true → a ≠ b := by
  intro a b ha hb hf e
  subst e
  have := (h.2.2.1 a ha).2.2.1
  simp [n_fol] at hf
  exact this hf.symm
abbrev n_ord (S : Nt) : Nat → Nat := ctO (n_R S) (n_fol S)
abbrev n_pos (S : Nt) : Nat → Nat := ctR (n_R S) (n_fol S)
abbrev n_arc (S : Nt) (a b : Nat) : Bool := ctF (n_R S) (n_fol S) a b
/-- the cost of an arc; its length -/
def n_A (S : Nt) (a b : Nat) : Nat := FW 1000000000000 (c2 S) (n_ord S) (min (n_pos S a) (n_pos S b)) a b
def n_L (S : Nt) (a b : Nat) : Nat := FW 536870912 (s1 S) (n_ord S) (min (n_pos S a) (n_pos S b)) a b
theorem n_pos_lt {a : Nat} (ha : a < n_R S) : n_pos S a < n_R S := (ctO_R (fol := n_fol S) ha).1
theorem n_ord_pos {a : Nat} (ha : a < n_R S) : n_ord S (n_pos S a) = a := (ctO_R (fol := n_fol S) ha).2
theorem n_pos_ord {j : Nat} (hj : j < n_R S) : n_pos S (n_ord S j) = j := ctR_o hj
theorem n_close {a x b : Nat} (ha : a < n_R S) (hx : x < n_R S) (hb : b < n_R S) (h1 : n_arc S a x = true) (h2 : n_arc S x b = true) (h3 : n_pos S x < n_pos S a) (h4 : n_pos S x < n_pos S b) (hne : a ≠ b) : n_arc S a b = true := ctF_close ha hx hb h1 h2 h3 h4 hne
theorem fin_arc (h : NtOK S) : ∀ k a b, a < n_R S → b < n_R S → k ≤ n_pos S a → k ≤ n_pos S b → a ≠ b → FW 536870912 (s1 S) (n_ord S) k a b < 536870912 → n_arc S a b = true := by
  intro k
  induction k using Nat.strongRecOn with
  | ind k ih =>
    intro a b ha hb h1 h2 hne hl
    rcases FW_unr (I := 536870912) (s := s1 S) (o := n_ord S) k a b with e | ⟨j, hj, e⟩
    · rw [e] at hl
      have := (s1_lt h a b).mp hl
      rcases c2_cases h a b with ⟨e2, _⟩ | ⟨e2, _⟩
      · omega
      · exact ctF_fol e2.2.2.2.2.1
    · have hp := ta_lt (show ta 536870912 (FW 536870912 (s1 S) (n_ord S) j a (n_ord S j)) (FW 536870912 (s1 S) (n_ord S) j (n_ord S j) b) < 536870912 by omega)
      have hRn := n_pos_lt ha
      have hjn : j < n_R S := by omega
      have hx : n_ord S j < n_R S := ctO_lt hjn
      have hR : n_pos S (n_ord S j) = j := n_pos_ord hjn
      have n1 : a ≠ n_ord S j := fun e3 => by rw [e3, hR] at h1; omega
      have n2 : n_ord S j ≠ b := fun e3 => by rw [← e3, hR] at h2; omega
      have i1 := ih j hj a (n_ord S j) ha hx (by omega) (by omega) n1 (by omega)
      have i2 := ih j hj (n_ord S j) b hx hb (by omega) (by omega) n2 (by omega)
      exact n_close ha hx hb i1 i2 (by rw [hR]; omega) (by rw [hR]; omega) hne
theorem arcs_ok (h : NtOK S) : Arcs 536870912 (n_R S) (s1 S) (n_pos S) (fun a b => n_arc S a b = true) (n_L S) := by
  refine ⟨fun a b ha hb hn => ?_, fun a b ha hb _ => FW_les _ a b, fun a x b ha hx hb h1 h2 h3 h4 hne => ⟨ctF_close ha hx hb h1 h2 h3 h4 hne, ?_⟩, fun a b ha hb harc => ?_, fun a b ha hb harc => ctA_ne (n_fol_ne h) _ a b ha hb harc, fun a b ha hb => ctR_inj ha hb, fun a ha => (ctO_R ha).1⟩
  · rcases c2_cases h a b with ⟨e2, _⟩ | ⟨e2, _⟩
    · unfold s1; rw [if_neg (by omega)]
    · exact absurd (ctF_fol e2.2.2.2.2.1) hn
  · have e := FW_unr2 (I := 536870912) (s := s1 S) (o := n_ord S) (show n_pos S x < min (n_pos S a) (n_pos S b) by omega) a b
    rw [n_ord_pos hx] at e
    unfold n_L
    rw [show min (n_pos S a) (n_pos S x) = n_pos S x by omega, show min (n_pos S x) (n_pos S b) = n_pos S x by omega]
    exact e
  · rcases FW_unr (I := 536870912) (s := s1 S) (o := n_ord S) (min (n_pos S a) (n_pos S b)) a b with e | ⟨j, hj, e⟩
    · exact Or.inl e
    · by_cases hl : n_L S a b < 536870912
      · right
        have hl2 : FW 536870912 (s1 S) (n_ord S) (min (n_pos S a) (n_pos S b)) a b < 536870912 := hl
        have hp := ta_lt (show ta 536870912 (FW 536870912 (s1 S) (n_ord S) j a (n_ord S j)) (FW 536870912 (s1 S) (n_ord S) j (n_ord S j) b) < 536870912 by omega)
        have hRn := n_pos_lt ha
        have hjn : j < n_R S := by omega
        have hx : n_ord S j < n_R S := ctO_lt hjn
        have hR : n_pos S (n_ord S j) = j := n_pos_ord hjn
        have n1 : a ≠ n_ord S j := fun e3 => by
          have : n_pos S a = j := by rw [e3, hR]
          omega
        have n2 : n_ord S j ≠ b := fun e3 => by
          have : n_pos S b = j := by rw [← e3, hR]
          omega
        refine ⟨n_ord S j, hx, fin_arc h j a _ ha hx (by omega) (by omega) n1 (by omega), fin_arc h j _ b hx hb (by omega) (by omega) n2 (by omega), by omega, by omega, ?_⟩
        unfold n_L
        rw [e, hR, show min (n_pos S a) j = j by omega, show min j (n_pos S b) = j by omega]
        exact Nat.le_refl _
      · left
        have h1 := FW_les (I := 536870912) (s := s1 S) (o := n_ord S) (min (n_pos S a) (n_pos S b)) a b
        have h2 := s1_le h a b
        unfold n_L at hl ⊢
        omega
theorem n_L_le (h : NtOK S) (a b : Nat) : n_L S a b ≤ 536870912 := FW_I (s1_le h) _ a b
/-- lengths and costs -/
theorem n_LA (h : NtOK S) {a b : Nat} (ha : a < n_R S) (hb : b < n_R S) : (n_L S a b < 536870912 ↔ n_A S a b < 1000000000000) ∧ (n_L S a b < 536870912 → n_L S a b / 128 = n_A S a b ∧ n_A S a b ≤ 715000) := by
  have hR := n_pos_lt ha
  have hn := h.2.1
  have hL := FW_packL (o := n_ord S) (s1_le h) (fun a b hl => ⟨(s1_lt h a b).mp hl, by rw [s1_eq ((s1_lt h a b).mp hl)]; exact Nat.le_refl _⟩) (show 536870912 < 128 * 1000000000000 by decide) (min (n_pos S a) (n_pos S b)) a b
  have hU := FW_packU (o := n_ord S) (s1_le h) (c2_le h) (c2_pos h) (fun a b hl => by rw [s1_eq hl]; exact Nat.le_refl _) (min (n_pos S a) (n_pos S b)) b (n_A S a b) a rfl
  have hB := FW_bound2 (o := n_ord S) (c2_le h) (c2_pos h) (c2_M h) (min (n_pos S a) (n_pos S b)) a b
  have hc := cn_le (fun k => decide (FW 1000000000000 (c2 S) (n_ord S) (min (n_pos S a) (n_pos S b)) (n_ord S k) b < n_A S a b)) (min (n_pos S a) (n_pos S b))
  have hp : min (n_pos S a) (n_pos S b) ≤ 63 := by omega
  have hm : 11000 * (1 + min (n_pos S a) (n_pos S b)) ≤ 715000 := by omega
  unfold n_L n_A at *
  constructor
  · constructor
    · intro hl; exact (hL hl).1
    · intro hl
      have := hU hl
      have := hB hl
      omega
  · intro hl
    have h1 := hL hl
    have := hU h1.1
    have := hB h1.1
    omega
end NT
