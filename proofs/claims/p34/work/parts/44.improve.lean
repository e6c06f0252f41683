/-! the reference's search: one improvement -/
def updN (f : Nat → Nat) (a x : Nat) : Nat → Nat := fun r => if r = a then x else f r
theorem updN_s {f : Nat → Nat} {a x : Nat} : updN f a x a = x := if_pos rfl
theorem updN_n {f : Nat → Nat} {a x r : Nat} (h : r ≠ a) : updN f a x r = f r := if_neg h
def fbC (S : Nt) (be : Nat → Nat) (a b : Nat) : Nat := n_w S a + n_q S a b + be b
def FbInv (S : Nt) (g : Nat) (be co : Nat → Nat) : Prop :=
  (∀ r, r < n_R S → (be r = 1000000000000 ∧ co r = 1) ∨ (1 ≤ co r ∧ co r ≤ be r ∧ n_w S r ≤ be r ∧ be r ≤ 11000 * (1 + cn (fun x => decide (be x < be r)) (n_R S)))) ∧
  (∀ r, r < n_R S → n_o S r = true → n_t S r = g → be r = n_w S r ∧ co r = 1) ∧
  ∀ r, r < n_R S → be r < 1000000000000 → (n_o S r = true ∧ n_t S r = g ∧ be r = n_w S r ∧ co r = 1) ∨ ∃ b, b < n_R S ∧ c2 S r b < 1000000000000 ∧ be b < 1000000000000 ∧ (fbC S be r b < be r ∨ (fbC S be r b = be r ∧ co b + 1 ≤ co r))
def RB (S : Nt) (be co : Nat → Nat) (v : WS) : Prop := ∀ r, r < n_R S → v.2 20 r = lN (be r) ∧ v.1 21 r = nI (co r)
def FrB (u v : WS) : Prop := (∀ c, c ≠ 21 → u.1 c = v.1 c) ∧ ∀ c, c ≠ 20 → u.2 c = v.2 c
theorem FrB.rf (v : WS) : FrB v v := ⟨fun _ _ => rfl, fun _ _ => rfl⟩
theorem FrB.trans {u v w : WS} (h : FrB u v) (h2 : FrB v w) : FrB u w := ⟨fun c hc => (h.1 c hc).trans (h2.1 c hc), fun c hc => (h.2 c hc).trans (h2.2 c hc)⟩
section FI
variable {S : Nt} {g : Nat} {be co : Nat → Nat} {v : WS}
theorem FbInv.fin (hn : NtOK S) (h : FbInv S g be co) {r : Nat} (hr : r < n_R S) (hf : be r < 1000000000000) : 1 ≤ co r ∧ co r ≤ be r ∧ n_w S r ≤ be r ∧ be r ≤ 715000 := by
  rcases h.1 r hr with e | e
  · omega
  · have := cn_le (fun x => decide (be x < be r)) (n_R S)
    have := hn.2.1
    omega
theorem RB.upd (h : RB S be co v) {a x y : Nat} : RB S (updN be a x) (updN co a y) (wI (wL v 20 a (lN x)) 21 a (nI y)) := by
  intro r hr
  rw [wI_2, wL_at, wI_at]
  by_cases e : r = a
  · rw [if_pos ⟨rfl, e⟩, if_pos ⟨rfl, e⟩, e, updN_s, updN_s]
    exact ⟨rfl, rfl⟩
  · rw [if_neg (fun hh => e hh.2), if_neg (fun hh => e hh.2), updN_n e, updN_n e]
    exact h r hr
theorem FrB.upd (v : WS) (a : Nat) (x : Int64) (y : Int32) : FrB (wI (wL v 20 a x) 21 a y) v := ⟨fun c hc => by rw [wI_n hc]; rfl, fun c hc => by rw [wI_2, wL_n hc]⟩
end FI
