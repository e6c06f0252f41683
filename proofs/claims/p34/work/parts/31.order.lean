/-! the order of the roads and the arcs -/
/-- the first of the least, among those below k with q -/
def bst (w : Nat → Nat) (q : Nat → Bool) : Nat → Option Nat
  | 0 => none
  | k + 1 => match bst w q k with
    | none => if q k = true then some k else none
    | some b => if q k = true ∧ w k < w b then some k else some b
theorem bst_ok {w : Nat → Nat} {q : Nat → Bool} : ∀ {k b : Nat}, bst w q k = some b → b < k ∧ q b = true
  | 0, b, h => by cases h
  | k + 1, b, h => by
    unfold bst at h
    cases hb : bst w q k with
    | none =>
      rw [hb] at h
      by_cases hq : q k = true
      · simp only [hq, if_true] at h; cases h; exact ⟨by omega, hq⟩
      · simp only [hq] at h; cases h
    | some b1 =>
      rw [hb] at h
      have ih := bst_ok hb
      by_cases hq : q k = true ∧ w k < w b1
      · simp only [hq, and_self, if_true] at h; cases h; exact ⟨by omega, hq.1⟩
      · simp only [if_neg hq] at h; cases h; exact ⟨by omega, ih.2⟩
theorem bst_none {w : Nat → Nat} {q : Nat → Bool} : ∀ {k : Nat}, bst w q k = none → ∀ r, r < k → q r = false
  | 0, _, r, hr => absurd hr (Nat.not_lt_zero r)
  | k + 1, h, r, hr => by
    unfold bst at h
    cases hb : bst w q k with
    | none =>
      rw [hb] at h
      by_cases hq : q k = true
      · simp only [hq, if_true] at h; cases h
      · by_cases he : r = k
        · rw [he]; exact Bool.eq_false_iff.mpr hq
        · exact bst_none hb r (by omega)
    | some b1 =>
      rw [hb] at h
      by_cases hq : q k = true ∧ w k < w b1
      · simp only [if_pos hq] at h; cases h
      · simp only [if_neg hq] at h; cases h
def ctW (n : Nat) (st : (Nat → Nat → Bool) × (Nat → Bool)) (v : Nat) : Nat := cn (fun u => st.2 u && st.1 u v) n * cn (fun u => st.2 u && st.1 v u) n
def ctP (n : Nat) (st : (Nat → Nat → Bool) × (Nat → Bool)) : Nat := (bst (ctW n st) st.2 n).getD 0
def ctN (st : (Nat → Nat → Bool) × (Nat → Bool)) (v : Nat) : (Nat → Nat → Bool) × (Nat → Bool) :=
  (fun a b => st.1 a b || (!(a == b) && (st.2 a && !(a == v)) && (st.2 b && !(b == v)) && st.1 a v && st.1 v b), fun r => st.2 r && !(r == v))
def ct (n : Nat) (fol : Nat → Nat → Bool) : Nat → (Nat → Nat → Bool) × (Nat → Bool)
  | 0 => (fol, fun r => decide (r < n))
  | p + 1 => ctN (ct n fol p) (ctP n (ct n fol p))
abbrev ctO (n : Nat) (fol : Nat → Nat → Bool) (p : Nat) : Nat := ctP n (ct n fol p)
abbrev ctL (n : Nat) (fol : Nat → Nat → Bool) (p : Nat) : Nat → Bool := (ct n fol p).2
abbrev ctA (n : Nat) (fol : Nat → Nat → Bool) (p : Nat) : Nat → Nat → Bool := (ct n fol p).1
/-- the position of a road: the stages behind which it is still left -/
def ctR (n : Nat) (fol : Nat → Nat → Bool) (r : Nat) : Nat := cn (fun p => ctL n fol (p + 1) r) n
section CT
variable {n : Nat} {fol : Nat → Nat → Bool}
theorem ctL_s (p r : Nat) : ctL n fol (p + 1) r = (ctL n fol p r && !(r == ctO n fol p)) := rfl
theorem ctL_lt : ∀ p r, ctL n fol p r = true → r < n
  | 0, r, h => by simpa [ctL, ct] using h
  | p + 1, r, h => by
    rw [ctL_s] at h
    exact ctL_lt p r (by simp at h; exact h.1)
theorem cn_one {P Q : Nat → Bool} {v : Nat} (hv : P v = true) (h : ∀ r, Q r = (P r && !(r == v))) : ∀ n, cn P n = cn Q n + if v < n then 1 else 0
  | 0 => by simp [cn]
  | n + 1 => by
    have ih := cn_one hv h n
    unfold cn
    rw [ih, h n]
    by_cases he : n = v
    · subst he
      simp [hv]
    · have e2 : (n == v) = false := by simp [he]
      rw [e2]
      simp only [Bool.not_false, Bool.and_true]
      have e3 : (if v < n + 1 then 1 else 0 : Nat) = if v < n then 1 else 0 := by
        by_cases h1 : v < n
        · rw [if_pos h1, if_pos (show v < n + 1 by omega)]
        · rw [if_neg h1, if_neg (show ¬ v < n + 1 by omega)]
      rw [e3]
      omega
theorem cn_all : ∀ n m, n ≤ m → cn (fun r => decide (r < m)) n = n
  | 0, _, _ => rfl
  | n + 1, m, h => by
    unfold cn
    rw [cn_all n m (by omega)]
    simp
    omega
theorem cn_0 {P : Nat → Bool} : ∀ {n : Nat}, cn P n = 0 → ∀ r, r < n → P r = false
  | 0, _, r, hr => absurd hr (Nat.not_lt_zero r)
  | n + 1, h, r, hr => by
    unfold cn at h
    by_cases he : r = n
    · subst he
      by_cases hp : P r = true
      · rw [if_pos hp] at h; omega
      · exact Bool.eq_false_iff.mpr hp
    · exact cn_0 (n := n) (by omega) r (by omega)
theorem cn_f {P : Nat → Bool} : ∀ {n : Nat}, (∀ r, r < n → P r = false) → cn P n = 0
  | 0, _ => rfl
  | n + 1, h => by
    unfold cn
    rw [cn_f (fun r hr => h r (by omega)), h n (by omega)]
    rfl
theorem ct_left : ∀ p, p ≤ n → cn (ctL n fol p) n + p = n ∧ (p < n → ctL n fol p (ctO n fol p) = true ∧ ctO n fol p < n) := by
  have key : ∀ p, cn (ctL n fol p) n + p = n → p < n → ctL n fol p (ctO n fol p) = true ∧ ctO n fol p < n := by
    intro p h hp
    show ctL n fol p ((bst (ctW n (ct n fol p)) (ct n fol p).2 n).getD 0) = true ∧ (bst (ctW n (ct n fol p)) (ct n fol p).2 n).getD 0 < n
    cases hb : bst (ctW n (ct n fol p)) (ct n fol p).2 n with
    | none =>
      have := cn_f (bst_none hb)
      have h : cn (ct n fol p).2 n + p = n := h
      omega
    | some b =>
      have := bst_ok hb
      exact ⟨this.2, this.1⟩
  intro p
  induction p with
  | zero =>
    intro _
    have e : cn (ctL n fol 0) n + 0 = n := by
      show cn (fun r => decide (r < n)) n + 0 = n
      rw [cn_all n n (Nat.le_refl n)]
      rfl
    exact ⟨e, key 0 e⟩
  | succ p ih =>
    intro hp
    obtain ⟨h1, h2⟩ := ih (by omega)
    obtain ⟨h3, h4⟩ := h2 (by omega)
    have e := cn_one (P := ctL n fol p) (Q := ctL n fol (p + 1)) h3 (fun r => ctL_s p r) n
    rw [if_pos h4] at e
    have e1 : cn (ctL n fol (p + 1)) n + (p + 1) = n := by omega
    exact ⟨e1, key (p + 1) e1⟩
theorem ctO_lt {p : Nat} (hp : p < n) : ctO n fol p < n := ((ct_left p (by omega)).2 hp).2
theorem ctO_left {p : Nat} (hp : p < n) : ctL n fol p (ctO n fol p) = true := ((ct_left p (by omega)).2 hp).1
theorem ctL_anti (p r : Nat) : ∀ d, ctL n fol (p + d) r = true → ctL n fol p r = true
  | 0, h => h
  | d + 1, h => ctL_anti p r d (by
    have h : ctL n fol (p + d + 1) r = true := h
    rw [ctL_s] at h
    simp at h
    exact h.1)
theorem ctL_le {p q r : Nat} (hpq : p ≤ q) (h : ctL n fol q r = true) : ctL n fol p r = true := ctL_anti p r (q - p) (by rwa [show p + (q - p) = q by omega])
theorem ctL_out {p q : Nat} (hpq : p < q) : ctL n fol q (ctO n fol p) = false := by
  apply Bool.eq_false_iff.mpr
  intro h
  have h := ctL_le (show p + 1 ≤ q from hpq) h
  rw [ctL_s] at h
  simp at h
theorem ctR_o {p : Nat} (hp : p < n) : ctR n fol (ctO n fol p) = p := by
  unfold ctR
  rw [cn_congr (Q := fun j => decide (j < p)) n (fun j hj => ?_)]
  · have key : ∀ m, p ≤ m → cn (fun j => decide (j < p)) m = p := by
      intro m
      induction m with
      | zero => intro h; simp [cn]; omega
      | succ m ih =>
        intro h
        unfold cn
        by_cases h2 : p ≤ m
        · rw [ih h2]; simp; omega
        · have : p = m + 1 := by omega
          subst this
          rw [cn_all m (m + 1) (by omega)]
          simp
    exact key n (by omega)
  · by_cases h : j < p
    · rw [decide_eq_true h]
      exact ctL_le (show j + 1 ≤ p from h) (ctO_left hp)
    · rw [decide_eq_false h]
      exact ctL_out (by omega)
/-- every road has its place in the order -/
theorem ct_onto {r : Nat} (hr : r < n) : ∃ p, p < n ∧ ctO n fol p = r := by
  have h0 : ctL n fol n r = false := cn_0 (by have := (ct_left (n := n) (fol := fol) n (Nat.le_refl n)).1; omega) r hr
  have key : ∀ m, ctL n fol m r = false → ∃ p, p < m ∧ ctO n fol p = r := by
    intro m
    induction m with
    | zero => intro h; simp [ctL, ct] at h; omega
    | succ m ih =>
      intro h
      rw [ctL_s] at h
      by_cases hm : ctL n fol m r = true
      · rw [hm] at h
        simp at h
        exact ⟨m, by omega, h.symm⟩
      · obtain ⟨p, h1, h2⟩ := ih (Bool.eq_false_iff.mpr hm)
        exact ⟨p, by omega, h2⟩
  exact key n h0
theorem ctO_R {r : Nat} (hr : r < n) : ctR n fol r < n ∧ ctO n fol (ctR n fol r) = r := by
  obtain ⟨p, hp, rfl⟩ := ct_onto (fol := fol) hr
  rw [ctR_o hp]
  exact ⟨hp, rfl⟩
theorem ctR_inj {a b : Nat} (ha : a < n) (hb : b < n) (h : ctR n fol a = ctR n fol b) : a = b := by
  rw [← (ctO_R (fol := fol) ha).2, ← (ctO_R (fol := fol) hb).2, h]
theorem ctL_R {p r : Nat} (hr : r < n) : ctL n fol p r = decide (p ≤ ctR n fol r) := by
  obtain ⟨j, hj, rfl⟩ := ct_onto (fol := fol) hr
  rw [ctR_o hj]
  by_cases h : p ≤ j
  · rw [decide_eq_true h]; exact ctL_le h (ctO_left hj)
  · rw [decide_eq_false h]; exact ctL_out (by omega)
theorem ctA_s (p a b : Nat) : ctA n fol (p + 1) a b = (ctA n fol p a b || (!(a == b) && ctL n fol (p + 1) a && ctL n fol (p + 1) b && ctA n fol p a (ctO n fol p) && ctA n fol p (ctO n fol p) b)) := rfl
theorem ctA_up (p a b : Nat) : ∀ d, ctA n fol p a b = true → ctA n fol (p + d) a b = true
  | 0, h => h
  | d + 1, h => by
    show ctA n fol (p + d + 1) a b = true
    rw [ctA_s, ctA_up p a b d h]
    rfl
theorem ctA_le {p q a b : Nat} (hpq : p ≤ q) (h : ctA n fol p a b = true) : ctA n fol q a b = true := by
  have := ctA_up p a b (q - p) h
  rwa [show p + (q - p) = q by omega] at this
/-- arcs of a road stand from the stage at which it is taken -/
theorem ctA_fix (p a b : Nat) (h : ctL n fol (p + 1) a = false ∨ ctL n fol (p + 1) b = false) : ∀ d, ctA n fol (p + d) a b = ctA n fol p a b
  | 0 => rfl
  | d + 1 => by
    show ctA n fol (p + d + 1) a b = _
    rw [ctA_s, ctA_fix p a b h d]
    have e : ctL n fol (p + d + 1) a = false ∨ ctL n fol (p + d + 1) b = false := by
      rcases h with h | h
      · exact Or.inl (Bool.eq_false_iff.mpr fun h2 => by rw [ctL_le (show p + 1 ≤ p + d + 1 by omega) h2] at h; cases h)
      · exact Or.inr (Bool.eq_false_iff.mpr fun h2 => by rw [ctL_le (show p + 1 ≤ p + d + 1 by omega) h2] at h; cases h)
    rcases e with e | e <;> rw [e] <;> simp
theorem ctA_fixQ {p q a b : Nat} (hpq : p ≤ q) (h : ctL n fol (p + 1) a = false ∨ ctL n fol (p + 1) b = false) : ctA n fol q a b = ctA n fol p a b := by
  have := ctA_fix p a b h (q - p)
  rwa [show p + (q - p) = q by omega] at this
abbrev ctF (n : Nat) (fol : Nat → Nat → Bool) : Nat → Nat → Bool := ctA n fol n
theorem ctF_close {a x b : Nat} (ha : a < n) (hx : x < n) (hb : b < n) (h1 : ctF n fol a x = true) (h2 : ctF n fol x b = true) (h3 : ctR n fol x < ctR n fol a) (h4 : ctR n fol x < ctR n fol b) (hne : a ≠ b) : ctF n fol a b = true := by
  obtain ⟨p, hp, rfl⟩ := ct_onto (fol := fol) hx
  rw [ctR_o hp] at h3 h4
  have e1 : ctA n fol p a (ctO n fol p) = true := by
    rw [← ctA_fixQ (show p ≤ n by omega) (Or.inr (ctL_out (Nat.lt_succ_self p)))]; exact h1
  have e2 : ctA n fol p (ctO n fol p) b = true := by
    rw [← ctA_fixQ (show p ≤ n by omega) (Or.inl (ctL_out (Nat.lt_succ_self p)))]; exact h2
  refine ctA_le (show p + 1 ≤ n from hp) ?_
  rw [ctA_s, e1, e2, ctL_R ha, ctL_R hb, decide_eq_true (show p + 1 ≤ ctR n fol a from h3), decide_eq_true (show p + 1 ≤ ctR n fol b from h4)]
  simp [hne]
theorem ctA_ne (hf : ∀ a b, a < n → b < n → fol a b = true → a ≠ b) : ∀ p a b, a < n → b < n → ctA n fol p a b = true → a ≠ b
  | 0, a, b, ha, hb, h => hf a b ha hb h
  | p + 1, a, b, ha, hb, h => by
    rw [ctA_s] at h
    intro e
    subst e
    have := ctA_ne hf p a a ha hb
    simp at h
    exact this h rfl
theorem ctF_fol {a b : Nat} (h : fol a b = true) : ctF n fol a b = true := ctA_le (p := 0) (Nat.zero_le n) h
end CT
