/-! the class: order and arcs, arcs that are stale -/
def RCg (S : Nt) (w : WS) : Prop := w.1 2 2 = nI (n_R S) ∧ (∀ r, r < n_R S → w.1 15 r = nI (n_pos S r)) ∧ (∀ p, p < n_R S → w.1 16 p = nI (n_ord S p)) ∧ True ∧ (∀ r i, r < n_R S → i < 64 → bL (w.2 18 r) i = (decide (i < n_R S) && n_arc S r i)) ∧ ∀ r i, r < n_R S → i < 64 → bL (w.2 19 r) i = (decide (i < n_R S) && n_arc S i r)
theorem RCg.same {S : Nt} {u w : WS} (h : RCg S w) (e2 : u.1 2 = w.1 2) (e15 : u.1 15 = w.1 15) (e16 : u.1 16 = w.1 16) (_ : u.2 17 = w.2 17) (e18 : u.2 18 = w.2 18) (e19 : u.2 19 = w.2 19) : RCg S u := by
  unfold RCg
  rw [e2, e15, e16, e18, e19]
  exact h
/-- each stale arc stands at its lower road: Q tells which arcs are stale -/
def StI (S : Nt) (Q : Nat → Nat → Bool) (w : WS) : Prop := ∀ r i, r < 64 → i < 64 → bL (w.2 22 r) i = (decide (r < n_R S) && decide (i < n_R S) && decide (n_pos S r < n_pos S i) && Q r i) ∧ bL (w.2 23 r) i = (decide (r < n_R S) && decide (i < n_R S) && decide (n_pos S r < n_pos S i) && Q i r)
theorem StI.same {S : Nt} {Q : Nat → Nat → Bool} {u w : WS} (h : StI S Q w) (e1 : u.2 22 = w.2 22) (e2 : u.2 23 = w.2 23) : StI S Q u := by
  unfold StI
  rw [e1, e2]
  exact h
theorem StI.congr {S : Nt} {Q Q2 : Nat → Nat → Bool} {w : WS} (h : StI S Q w) (e : ∀ a b, a < n_R S → b < n_R S → Q2 a b = Q a b) : StI S Q2 w := by
  intro r i hr hi
  have k := h r i hr hi
  by_cases h1 : r < n_R S
  · by_cases h2 : i < n_R S
    · rw [e r i h1 h2, e i r h2 h1]; exact k
    · simp only [h2, decide_false, Bool.and_false, Bool.false_and] at k ⊢; exact k
  · simp only [h1, decide_false, Bool.false_and] at k ⊢; exact k
/-- two cells of masks may change -/
def FrK (u v : WS) : Prop := u.1 = v.1 ∧ ∀ c, c ≠ 22 → c ≠ 23 → u.2 c = v.2 c
theorem FrK.rf (v : WS) : FrK v v := ⟨rfl, fun _ _ _ => rfl⟩
theorem FrK.trans {u v w : WS} (h : FrK u v) (h2 : FrK v w) : FrK u w := ⟨h.1.trans h2.1, fun c a b => (h.2 c a b).trans (h2.2 c a b)⟩
theorem RCg.frK {S : Nt} {u w : WS} (h : RCg S w) (f : FrK u w) : RCg S u := h.same (by rw [f.1]) (by rw [f.1]) (by rw [f.1]) (f.2 17 (by decide) (by decide)) (f.2 18 (by decide) (by decide)) (f.2 19 (by decide) (by decide))
theorem wL_s2 {w : WS} {c i j : Nat} {x : Int64} : (wL w c i x).2 c j = if j = i then x else w.2 c j := by
  rw [wL_s]
  rfl
theorem min_nI {x y : Nat} (hx : x < 2 ^ 31) (hy : y < 2 ^ 31) : (if nI x < nI y then nI x else nI y) = nI (min y x) := by
  by_cases c : x < y
  · rw [if_pos (nI_lt c hy), Nat.min_eq_right (by omega)]
  · rw [if_neg (nI_nlt (by omega) hx), Nat.min_eq_left (by omega)]
theorem bdec {b : Bool} {c : Prop} (h : b = true ↔ c) {d : Bool} (h2 : d = true ↔ c) : b = d := by
  cases b <;> cases d <;> simp_all
def addP (P : Nat → Nat → Bool) (a0 b0 : Nat) : Nat → Nat → Bool := fun a b => P a b || ((a == a0) && (b == b0))
theorem addP_iff {P : Nat → Nat → Bool} {a0 b0 a b : Nat} : addP P a0 b0 a b = true ↔ P a b = true ∨ (a = a0 ∧ b = b0) := by
  unfold addP
  simp only [Bool.or_eq_true, Bool.and_eq_true, beq_iff_eq]
theorem StI_iff {S : Nt} {Q : Nat → Nat → Bool} {w : WS} (h : StI S Q w) {r i : Nat} (hr : r < 64) (hi : i < 64) : (bL (w.2 22 r) i = true ↔ r < n_R S ∧ i < n_R S ∧ n_pos S r < n_pos S i ∧ Q r i = true) ∧ (bL (w.2 23 r) i = true ↔ r < n_R S ∧ i < n_R S ∧ n_pos S r < n_pos S i ∧ Q i r = true) := by
  have k := h r i hr hi
  rw [k.1, k.2]
  simp only [Bool.and_eq_true, decide_eq_true_eq, and_assoc, and_self]
theorem StI_of {S : Nt} {Q : Nat → Nat → Bool} {w : WS} (h : ∀ r i, r < 64 → i < 64 → (bL (w.2 22 r) i = true ↔ r < n_R S ∧ i < n_R S ∧ n_pos S r < n_pos S i ∧ Q r i = true) ∧ (bL (w.2 23 r) i = true ↔ r < n_R S ∧ i < n_R S ∧ n_pos S r < n_pos S i ∧ Q i r = true)) : StI S Q w := by
  intro r i hr hi
  have k := h r i hr hi
  refine ⟨bdec k.1 ?_, bdec k.2 ?_⟩
  · simp only [Bool.and_eq_true, decide_eq_true_eq, and_assoc]
  · simp only [Bool.and_eq_true, decide_eq_true_eq, and_assoc]
section CK
variable {S : Nt} {w : WS} {Q : Nat → Nat → Bool}
theorem pos_ne (hn : NtOK S) {a b : Nat} (ha : a < n_R S) (hb : b < n_R S) (h : a ≠ b) : n_pos S a ≠ n_pos S b := fun e => h (ctR_inj ha hb e)
/-- one arc is marked, at its lower road -/
theorem markArc_ok (hg : RCg S w) (hn : NtOK S) (hq : StI S Q w) (fu : Nat) {a b : Nat} (ha : a < n_R S) (hb : b < n_R S) (hne : a ≠ b) : ∃ w', f_X0_markArc fu w (nI a) (nI b) = some w' ∧ FrK w' w ∧ StI S (addP Q a b) w' := by
  have hR := hn.2.1
  have hp := pos_ne hn ha hb hne
  have hpa := n_pos_lt ha
  have hpb := n_pos_lt hb
  unfold f_X0_markArc
  simp only [nm_e1, ck_t (in64 (show a < 64 by omega)), ck_t (in64 (show b < 64 by omega)), cl64 (show a < 64 by omega), cl64 (show b < 64 by omega), only_ok, bn_e]
  rw [hg.2.1 a ha, hg.2.1 b hb]
  by_cases c : n_pos S b ≤ n_pos S a
  · rw [if_pos (nI_le c (by omega))]
    refine ⟨_, rfl, ⟨rfl, fun c _ h23 => wL_n h23⟩, StI_of fun r i hr hi => ?_⟩
    have k := StI_iff hq hr hi
    rw [wL_n (show (22 : Nat) ≠ 23 by decide), wL_s2, k.1, addP_iff, addP_iff]
    constructor
    · constructor
      · rintro ⟨h1, h2, h3, h4⟩
        exact ⟨h1, h2, h3, Or.inl h4⟩
      · rintro ⟨h1, h2, h3, h4 | ⟨h4, h5⟩⟩
        · exact ⟨h1, h2, h3, h4⟩
        · rw [h4, h5] at h3
          omega
    · by_cases e : r = b
      · rw [if_pos e, bL_or, Bool.or_eq_true, bL_one (by omega), decide_eq_true_eq]
        subst e
        rw [k.2]
        constructor
        · rintro (⟨h1, h2, h3, h4⟩ | h)
          · exact ⟨h1, h2, h3, Or.inl h4⟩
          · rw [h]
            exact ⟨hb, ha, by omega, Or.inr ⟨rfl, rfl⟩⟩
        · rintro ⟨h1, h2, h3, h4 | ⟨h4, h5⟩⟩
          · exact Or.inl ⟨h1, h2, h3, h4⟩
          · exact Or.inr h4
      · rw [if_neg e, k.2]
        constructor
        · rintro ⟨h1, h2, h3, h4⟩
          exact ⟨h1, h2, h3, Or.inl h4⟩
        · rintro ⟨h1, h2, h3, h4 | ⟨h4, h5⟩⟩
          · exact ⟨h1, h2, h3, h4⟩
          · exact absurd h5 e
  · rw [if_neg (nI_ge (by omega) (by omega))]
    refine ⟨_, rfl, ⟨rfl, fun c h22 _ => wL_n h22⟩, StI_of fun r i hr hi => ?_⟩
    have k := StI_iff hq hr hi
    rw [wL_n (show (23 : Nat) ≠ 22 by decide), wL_s2, k.2, addP_iff, addP_iff]
    constructor
    · by_cases e : r = a
      · rw [if_pos e, bL_or, Bool.or_eq_true, bL_one (by omega), decide_eq_true_eq]
        subst e
        rw [k.1]
        constructor
        · rintro (⟨h1, h2, h3, h4⟩ | h)
          · exact ⟨h1, h2, h3, Or.inl h4⟩
          · rw [h]
            exact ⟨ha, hb, by omega, Or.inr ⟨rfl, rfl⟩⟩
        · rintro ⟨h1, h2, h3, h4 | ⟨h4, h5⟩⟩
          · exact Or.inl ⟨h1, h2, h3, h4⟩
          · exact Or.inr h5
      · rw [if_neg e, k.1]
        constructor
        · rintro ⟨h1, h2, h3, h4⟩
          exact ⟨h1, h2, h3, Or.inl h4⟩
        · rintro ⟨h1, h2, h3, h4 | ⟨h4, h5⟩⟩
          · exact ⟨h1, h2, h3, h4⟩
          · exact absurd h4 e
    · constructor
      · rintro ⟨h1, h2, h3, h4⟩
        exact ⟨h1, h2, h3, Or.inl h4⟩
      · rintro ⟨h1, h2, h3, h4 | ⟨h4, h5⟩⟩
        · exact ⟨h1, h2, h3, h4⟩
        · rw [h4, h5] at h3
          omega
end CK
