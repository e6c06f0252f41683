/-! steps that change weights, closures, turns -/
section S6
variable {S S' : Nt} {w v : WS} {fu : Nat} {o : Nat → Int64} {od : Nat → UInt64}
/-- the class before a renewal -/
theorem cls_pre (hp : RCp S w) (hn : NtOK S) (e1 : n_R S' = n_R S) (e2 : n_fol S' = n_fol S) {w5 : WS} (f2 : w5.1 2 = w.1 2) (f15 : w5.1 15 = w.1 15) (f16 : w5.1 16 = w.1 16) (f20 : w5.1 20 = w.1 20) (f21 : w5.1 21 = w.1 21) (f17 : w5.2 17 = w.2 17) (f18 : w5.2 18 = w.2 18) (f19 : w5.2 19 = w.2 19) : RCg S' w5 ∧ SpI S' (s1 S) w5 ∧ LnI S' (n_L S) w5 ∧ ArcsS S' (s1 S) (n_L S) := by
  have k := hp.1.same f2 f15 f16 f17 f18 f19
  refine ⟨?_, ?_, ?_, ?_⟩
  · unfold RCg n_pos n_ord n_arc at *
    rw [e1, e2]
    exact k
  · intro a b ha hb
    rw [f21]
    exact hp.2.1 a b (by omega) (by omega)
  · have kl := hp.2.2.1.same f20
    unfold LnI n_arc at *
    rw [e1, e2]
    exact kl
  · have ka := arcs_ok hn
    unfold ArcsS n_pos n_arc at *
    rw [e1, e2]
    exact ka
theorem cls_post (hp : RCp S w) (e1 : n_R S' = n_R S) (e2 : n_fol S' = n_fol S) {w5 w' : WS} (hg : RCg S' w5) (f2 : w5.1 2 = w.1 2) (hN : Nw S' w' w5) : RCp S' w' ∧ StZ w' := by
  refine ⟨⟨hg.frN hN.1, hN.2.1, hN.2.2.2, ?_⟩, hN.2.2.1.stZ⟩
  obtain ⟨k, k1, k2, k3⟩ := hp.2.2.2
  refine ⟨k, ?_, ?_, ?_⟩
  · rw [hN.1.1 2 (by decide) (by decide), f2]
    unfold n_arc at *
    rw [e1, e2]
    exact k1
  · rw [hN.1.1 2 (by decide) (by decide), f2]
    exact k2
  · unfold n_arc at *
    rw [e1, e2]
    exact k3
theorem s1_nofol {a b : Nat} (h : ¬ n_fol S a b = true) : s1 S a b = 536870912 := by
  have : c2 S a b = 1000000000000 := if_neg (fun hh => h hh.2.2.2.2.1)
  exact if_neg (by omega)
/-- the set of the open roads behind a change -/
theorem open_bits (hc : RCn S w) {r : Nat} (hr : r < 64) (hrn : r < n_R S) (b : Bool) : ∃ X : Int64, (∀ (x : Int32), x = (if b = true then 1 else 0) → f_X2_openOrClose fu w (nI r) x = some (wL w 1 8 X)) ∧ RCn (n_so S r b) (wL w 1 8 X) := by
  have mk : ∀ X : Int64, (∀ i, i < 64 → bL X i = (decide (i < n_R S) && if i = r then b else n_o S i)) → RCn (n_so S r b) (wL w 1 8 X) := fun X hX => by
    refine ⟨hc.1, hc.2.1, hc.2.2.1, hc.2.2.2.1, fun j i hj hi => ?_, fun j i hj hi => ?_, fun i hi => ?_, hc.2.2.2.2.2.2.2⟩
    · rw [wL_n (by decide)]; exact hc.2.2.2.2.1 j i hj hi
    · rw [wL_n (by decide)]; exact hc.2.2.2.2.2.1 j i hj hi
    · rw [wL_s2, if_pos rfl]; exact hX i hi
  have base : ∀ i, i < 64 → bL (w.2 1 8 &&& (((1 : Int64) <<< ((nI r).toInt64 &&& 63)) ^^^ (-1))) i = (decide (i < n_R S) && n_o S i && !decide (i = r)) := fun i hi => by
    rw [bL_and, bL_not _ hi, bL_one hr, hc.2.2.2.2.2.2.1 i hi]
  cases b with
  | false =>
    refine ⟨w.2 1 8 &&& (((1 : Int64) <<< ((nI r).toInt64 &&& 63)) ^^^ (-1)), fun x hx => ?_, mk _ fun i hi => ?_⟩
    · have hx : x = 0 := hx
      unfold f_X2_openOrClose
      rw [nm_e1, only_ok, bn_e, nm_e1, if_pos hx, nm_e1]
    · rw [base i hi]
      by_cases e : i = r
      · rw [if_pos e, decide_eq_true e]; simp
      · rw [if_neg e, decide_eq_false e]; simp
  | true =>
    refine ⟨(w.2 1 8 &&& (((1 : Int64) <<< ((nI r).toInt64 &&& 63)) ^^^ (-1))) ||| ((1 : Int64) <<< ((nI r).toInt64 &&& 63)), fun x hx => ?_, mk _ fun i hi => ?_⟩
    · have hx : x = 1 := hx
      unfold f_X2_openOrClose
      rw [nm_e1, only_ok, bn_e, nm_e1, if_neg (by rw [hx]; decide), bn_e, nm_e1]
    · rw [bL_or, base i hi, bL_one hr]
      by_cases e : i = r
      · rw [if_pos e, decide_eq_true e, decide_eq_true (show i < n_R S by omega)]; simp
      · rw [if_neg e, decide_eq_false e]; simp
theorem so_hd (r : Nat) (b : Bool) : ∀ x y, x < n_R S → y < n_R S → s1 (n_so S r b) x y ≠ s1 S x y → n_fol (n_so S r b) x y = true ∧ (x = r ∨ y = r) := fun x y hx hy hne => by
  refine ⟨?_, ?_⟩
  · apply Decidable.byContradiction
    intro h
    have e1 := s1_nofol (S := n_so S r b) h
    have e2 := s1_nofol (S := S) (a := x) (b := y) h
    rw [e1, e2] at hne
    exact hne rfl
  · apply Decidable.byContradiction
    intro h
    apply hne
    have h1 : x ≠ r := fun e => h (Or.inl e)
    have h2 : y ≠ r := fun e => h (Or.inr e)
    have o1 : n_o (n_so S r b) x = n_o S x := if_neg h1
    have o2 : n_o (n_so S r b) y = n_o S y := if_neg h2
    have e : c2 (n_so S r b) x y = c2 S x y := by
      unfold c2
      rw [o1, o2]
      rfl
    unfold s1
    rw [e]
theorem i_ge {x : Int32} {n : Int} (h : ¬ x < (Int32.ofInt n)) (hn : (Int32.ofInt n).toInt = n) : n ≤ x.toInt := by
  have := Int32.lt_iff_toInt_lt (x := x) (y := Int32.ofInt n)
  rw [hn] at this
  exact Int.not_lt.mp (fun hh => h (this.mpr hh))
theorem i_le {x : Int32} {n : Int} (h : x ≤ (Int32.ofInt n)) (hn : (Int32.ofInt n).toInt = n) : x.toInt ≤ n := by
  have := Int32.le_iff_toInt_le (x := x) (y := Int32.ofInt n)
  rw [hn] at this
  exact this.mp h
theorem su_hd (x : Int32) : ∀ p q, p < n_R S → q < n_R S → s1 (n_su S x) p q ≠ s1 S p q → n_fol (n_su S x) p q = true := fun p q hp hq hne => by
  apply Decidable.byContradiction
  intro h
  have e1 := s1_nofol (S := n_su S x) h
  have e2 := s1_nofol (S := S) (a := p) (b := q) h
  rw [e1, e2] at hne
  exact hne rfl
end S6
