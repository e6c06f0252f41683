/-! the reference: route -/
def FrR (u v : WS) : Prop := (∀ c, c ≠ 0 → c ≠ 18 → c ≠ 19 → c ≠ 21 → u.1 c = v.1 c) ∧ (∀ j, j ≠ 0 → j ≠ 26 → j ≠ 27 → j ≠ 29 → u.1 0 j = v.1 0 j) ∧ ∀ c, c ≠ 20 → u.2 c = v.2 c
theorem FrR.rf (v : WS) : FrR v v := ⟨fun _ _ _ _ _ => rfl, fun _ _ _ _ _ => rfl, fun _ _ => rfl⟩
theorem FrR.trans {u v w : WS} (h : FrR u v) (h2 : FrR v w) : FrR u w := ⟨fun c a b d e => (h.1 c a b d e).trans (h2.1 c a b d e), fun c a b d e => (h.2.1 c a b d e).trans (h2.2.1 c a b d e), fun c a => (h.2.2 c a).trans (h2.2.2 c a)⟩
theorem FrR.f0 (v : WS) (j : Nat) (x : Int32) (hj : j = 0 ∨ j = 26 ∨ j = 27 ∨ j = 29) : FrR (wI v 0 j x) v := ⟨fun c h0 _ _ _ => wI_n h0, fun i a b c d => by rw [wI_at, if_neg (fun hh => by omega)], fun _ _ => rfl⟩
theorem FrR.f18 (v : WS) (i : Nat) (x : Int32) : FrR (wI v 18 i x) v := ⟨fun c _ h _ _ => wI_n h, fun j _ _ _ _ => by rw [wI_n (by decide)], fun _ _ => rfl⟩
theorem FrR.f19 (v : WS) (i : Nat) (x : Int32) : FrR (wI v 19 i x) v := ⟨fun c _ _ h _ => wI_n h, fun j _ _ _ _ => by rw [wI_n (by decide)], fun _ _ => rfl⟩
theorem RMn.frR {S : Nt} {u v : WS} (h : RMn S v) (f : FrR u v) : RMn S u := by
  refine ⟨(f.2.1 1 (by decide) (by decide) (by decide) (by decide)).trans h.1, (f.2.1 2 (by decide) (by decide) (by decide) (by decide)).trans h.2.1, fun r hr => ?_, fun a b ha hb => ?_, (f.2.1 8 (by decide) (by decide) (by decide) (by decide)).trans h.2.2.2.2⟩
  · rw [f.1 1 (by decide) (by decide) (by decide) (by decide), f.1 2 (by decide) (by decide) (by decide) (by decide), f.1 3 (by decide) (by decide) (by decide) (by decide), f.1 4 (by decide) (by decide) (by decide) (by decide)]
    exact h.2.2.1 r hr
  · rw [f.1 5 (by decide) (by decide) (by decide) (by decide)]
    exact h.2.2.2.1 a b ha hb
section MR
variable {S : Nt} {v : WS} {g : Nat} {be co : Nat → Nat}
theorem RB.same {u : WS} (h : RB S be co v) (e2 : u.2 20 = v.2 20) (e1 : u.1 21 = v.1 21) : RB S be co u := by
  unfold RB
  rw [e2, e1]
  exact h
end MR
