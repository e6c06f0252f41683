/-! the reference: a road is taken -/
def mixA (S : Nt) (p a b : Nat) : Nat → Nat → Bool := fun a' b' => if a' < a ∨ (a' = a ∧ b' < b) then ctA (n_R S) (n_fol S) (p + 1) a' b' else ctA (n_R S) (n_fol S) p a' b'
theorem mixA_same {S : Nt} {p a b : Nat} (h : ctA (n_R S) (n_fol S) (p + 1) a b = ctA (n_R S) (n_fol S) p a b) (a' b' : Nat) : mixA S p a (b + 1) a' b' = mixA S p a b a' b' := by
  unfold mixA
  by_cases h1 : a' < a ∨ (a' = a ∧ b' < b)
  · rw [if_pos h1, if_pos (by omega)]
  · rw [if_neg h1]
    by_cases h2 : a' = a ∧ b' = b
    · rw [if_pos (by omega), h2.1, h2.2, h]
    · rw [if_neg (by omega)]
theorem mixA_diff {S : Nt} {p a b a' b' : Nat} (h : ¬ (a' = a ∧ b' = b)) : mixA S p a (b + 1) a' b' = mixA S p a b a' b' := by
  unfold mixA
  by_cases h1 : a' < a ∨ (a' = a ∧ b' < b)
  · rw [if_pos h1, if_pos (by omega)]
  · rw [if_neg h1, if_neg (by omega)]
theorem mixA_at {S : Nt} {p a b : Nat} : mixA S p a b a b = ctA (n_R S) (n_fol S) p a b := if_neg (by omega)
theorem mixA_at1 {S : Nt} {p a b : Nat} : mixA S p a (b + 1) a b = ctA (n_R S) (n_fol S) (p + 1) a b := if_pos (Or.inr ⟨rfl, Nat.lt_succ_self b⟩)
theorem mixA_fix {S : Nt} {p a b a' b' : Nat} (h : ctA (n_R S) (n_fol S) (p + 1) a' b' = ctA (n_R S) (n_fol S) p a' b') : mixA S p a b a' b' = ctA (n_R S) (n_fol S) p a' b' := by
  unfold mixA
  split
  · exact h
  · rfl
/-- cells 8 and two fields may change -/
def FrT (u v : WS) : Prop := (∀ c, c ≠ 0 → c ≠ 8 → u.1 c = v.1 c) ∧ (∀ j, j ≠ 13 → j ≠ 14 → u.1 0 j = v.1 0 j) ∧ u.2 = v.2
theorem FrT.rf (v : WS) : FrT v v := ⟨fun _ _ _ => rfl, fun _ _ _ => rfl, rfl⟩
theorem FrT.trans {u v w : WS} (h : FrT u v) (h2 : FrT v w) : FrT u w := ⟨fun c h0 h8 => (h.1 c h0 h8).trans (h2.1 c h0 h8), fun j h0 h8 => (h.2.1 j h0 h8).trans (h2.2.1 j h0 h8), h.2.2.trans h2.2.2⟩
theorem RMn.frT {S : Nt} {u v : WS} (h : RMn S v) (f : FrT u v) : RMn S u := by
  refine ⟨(f.2.1 1 (by decide) (by decide)).trans h.1, (f.2.1 2 (by decide) (by decide)).trans h.2.1, fun r hr => ?_, fun a b ha hb => ?_, (f.2.1 8 (by decide) (by decide)).trans h.2.2.2.2⟩
  · rw [f.1 1 (by decide) (by decide), f.1 2 (by decide) (by decide), f.1 3 (by decide) (by decide), f.1 4 (by decide) (by decide)]
    exact h.2.2.1 r hr
  · rw [f.1 5 (by decide) (by decide)]
    exact h.2.2.2.1 a b ha hb
/-- arcs and their number, as mixed -/
def TkI (S : Nt) (P : Nat → Nat → Bool) (s : WS) : Prop := (∀ a b, a < n_R S → b < n_R S → s.1 8 (64 * a + b) = if P a b = true then 1 else 0) ∧ ∃ k, s.1 0 14 = nI (k + cn2 (n_fol S) (n_R S) (n_R S)) ∧ s.1 0 13 = nI k ∧ k + cn2 (n_fol S) (n_R S) (n_R S) = cn2 P (n_R S) (n_R S)
theorem TkI.congr {S : Nt} {P Q : Nat → Nat → Bool} {s : WS} (h : TkI S P s) (e : ∀ a b, a < n_R S → b < n_R S → Q a b = P a b) : TkI S Q s := by
  refine ⟨fun a b ha hb => by rw [e a b ha hb]; exact h.1 a b ha hb, ?_⟩
  rw [cn2_congr (n_R S) (fun a b ha hb => e a b ha hb)]
  exact h.2
theorem vnb1 : vp_nar .boolean 1 = 1 := by decide +kernel
theorem vnb0 : vp_nar .boolean 0 = 0 := by decide +kernel
section MT
variable {S : Nt} {u : WS} {p : Nat}
theorem takeRow (h : RMn S u) (hn : NtOK S) (h6 : ∀ r, r < n_R S → (u.1 6 r = (-1) ↔ ctL (n_R S) (n_fol S) (p + 1) r = true)) (hp : p < n_R S) {fu : Nat} (hf : 64 < fu) {a : Nat} (ha : a < n_R S) (s0 : WS) (f0 : FrT s0 u) (t0 : TkI S (mixA S p a 0) s0) :
    ∃ r, iter (fun q : Int32 × WS => bd_X4_take_27 fu (nI (n_ord S p)) (nI a) q.1 q.2) fu ((0 : Int32), s0) = some r ∧ FrT r u ∧ TkI S (mixA S p (a + 1) 0) r := by
  have hR := hn.2.1
  have hx : n_ord S p < n_R S := ctO_lt hp
  have hout : ctL (n_R S) (n_fol S) (p + 1) (n_ord S p) = false := ctL_out (Nat.lt_succ_self p)
  have fxL : ∀ c, ctA (n_R S) (n_fol S) (p + 1) c (n_ord S p) = ctA (n_R S) (n_fol S) p c (n_ord S p) := fun c => by rw [ctA_s, hout]; simp
  have fxR : ∀ c, ctA (n_R S) (n_fol S) (p + 1) (n_ord S p) c = ctA (n_R S) (n_fol S) p (n_ord S p) c := fun c => by rw [ctA_s, hout]; simp
  refine iter_for0 (fun k (s : WS) => (nI k, s)) (n_R S) (fun b s => FrT s u ∧ TkI S (mixA S p a b) s) (fun (r : WS) => FrT r u ∧ TkI S (mixA S p (a + 1) 0) r) ?_ ?_ (by omega) s0 ⟨f0, t0⟩
  · intro b s hb ⟨i1, i2⟩
    have hs := h.frT i1
    have skip : ctA (n_R S) (n_fol S) (p + 1) a b = ctA (n_R S) (n_fol S) p a b → FrT s u ∧ TkI S (mixA S p a (b + 1)) s := fun e => ⟨i1, i2.congr fun a' b' _ _ => mixA_same e a' b'⟩
    have e6 : s.1 6 = u.1 6 := i1.1 6 (by decide) (by decide)
    have es : ctA (n_R S) (n_fol S) (p + 1) a b = (ctA (n_R S) (n_fol S) p a b || (!(a == b) && ctL (n_R S) (n_fol S) (p + 1) a && ctL (n_R S) (n_fol S) (p + 1) b && ctA (n_R S) (n_fol S) p a (n_ord S p) && ctA (n_R S) (n_fol S) p (n_ord S p) b)) := ctA_s p a b
    have main : ∃ s', bd_X4_take_27 fu (nI (n_ord S p)) (nI a) (nI b) s = some (.inl (nI (b + 1), s')) ∧ FrT s' u ∧ TkI S (mixA S p a (b + 1)) s' := by
      unfold bd_X4_take_27
      rw [nm_e1, hs.2.1, if_neg (nI_ge hb (by omega))]
      by_cases hab : a = b
      · rw [if_pos (by rw [hab]), nm_e1, nI_1]
        refine ⟨s, rfl, skip ?_⟩
        rw [es, hab]
        simp
      · rw [if_neg (fun e => hab ((nI_eq (by omega) (by omega)).mp e)), ck_t (in64 (by omega)), nm_e1, cl64 (by omega), e6]
        by_cases hla : ctL (n_R S) (n_fol S) (p + 1) a = true
        · rw [if_pos ((h6 a ha).mpr hla), ck_t (in64 (by omega)), nm_e1, cl64 (by omega)]
          by_cases hlb : ctL (n_R S) (n_fol S) (p + 1) b = true
          · rw [if_pos ((h6 b hb).mpr hlb), ck_t (px_in (by omega) (by omega)), nm_e1, px_cl (by omega) (by omega), i2.1 a b ha hb, mixA_at, if_zo]
            by_cases hab2 : ctA (n_R S) (n_fol S) p a b = true
            · rw [if_pos hab2, nm_e1, nI_1]
              refine ⟨s, rfl, skip ?_⟩
              rw [es, hab2]
              rfl
            · rw [if_neg hab2, ck_t (px_in (by omega) (by omega)), nm_e1, px_cl (by omega) (by omega), i2.1 a _ ha hx, mixA_fix (fxL a), if_zo]
              by_cases hav : ctA (n_R S) (n_fol S) p a (n_ord S p) = true
              · rw [if_pos hav, ck_t (px_in (by omega) (by omega)), nm_e1, px_cl (by omega) (by omega), i2.1 _ b hx hb, mixA_fix (fxR b), if_zo]
                by_cases hvb : ctA (n_R S) (n_fol S) p (n_ord S p) b = true
                · rw [if_pos hvb]
                  simp only [nm_e1]
                  rw [ck_t (px_in (by omega) (by omega)), vnb1, nI_1]
                  obtain ⟨k, k1, k2, k3⟩ := i2.2
                  have hnew : ctA (n_R S) (n_fol S) (p + 1) a b = true := by
                    rw [es, hla, hlb, hav, hvb]
                    simp [hab]
                  refine ⟨_, rfl, ⟨fun c h0 h8 => ?_, fun j h13 h14 => ?_, ?_⟩, fun a' b' ha' hb' => ?_, k + 1, ?_, ?_, ?_⟩
                  · rw [wI_n h0, wI_n h0, wI_n h8]; exact i1.1 c h0 h8
                  · rw [wI_at, if_neg (fun hh => h13 hh.2), wI_at, if_neg (fun hh => h14 hh.2), wI_at, if_neg (fun hh => absurd hh.1 (by decide))]
                    exact i1.2.1 j h13 h14
                  · exact i1.2.2
                  · rw [wI_at, if_neg (fun hh => absurd hh.1 (by decide)), wI_at, if_neg (fun hh => absurd hh.1 (by decide)), wI_at]
                    by_cases e : 64 * a' + b' = 64 * a + b
                    · rw [if_pos ⟨rfl, e⟩]
                      have e := ix_inj (by omega) (by omega) e
                      rw [e.1, e.2, mixA_at1, if_pos hnew]
                    · rw [if_neg (fun hh => e hh.2)]
                      rw [mixA_diff (fun hh => e (by rw [hh.1, hh.2]))]
                      exact i2.1 a' b' ha' hb'
                  · rw [wI_at, if_neg (fun hh => absurd hh.2 (by decide)), wI_at, if_pos ⟨rfl, rfl⟩, wI_at, if_neg (fun hh => absurd hh.1 (by decide)), k1, nI_1]
                    congr 1
                    omega
                  · rw [wI_at, if_pos ⟨rfl, rfl⟩, wI_at, if_neg (fun hh => absurd hh.2 (by decide)), wI_at, if_neg (fun hh => absurd hh.1 (by decide)), k2, nI_1]
                  · have e := cn2_one (P := mixA S p a b) (Q := mixA S p a (b + 1)) (n := n_R S) (a0 := a) (b0 := b) hb (by rw [mixA_at]; exact Bool.eq_false_iff.mpr hab2) (by rw [mixA_at1]; exact hnew) (fun a' b' hh => mixA_diff hh) (n_R S)
                    rw [if_pos ha] at e
                    omega
                · rw [if_neg hvb, nm_e1, nI_1]
                  refine ⟨s, rfl, skip ?_⟩
                  rw [es, Bool.eq_false_iff.mpr hvb]
                  simp
              · rw [if_neg hav, nm_e1, nI_1]
                refine ⟨s, rfl, skip ?_⟩
                rw [es, Bool.eq_false_iff.mpr hav]
                simp
          · rw [if_neg (fun hh => hlb ((h6 b hb).mp hh)), nm_e1, nI_1]
            refine ⟨s, rfl, skip ?_⟩
            rw [es, Bool.eq_false_iff.mpr hlb]
            simp
        · rw [if_neg (fun hh => hla ((h6 a ha).mp hh)), nm_e1, nI_1]
          refine ⟨s, rfl, skip ?_⟩
          rw [es, Bool.eq_false_iff.mpr hla]
          simp
    exact main
  · intro s ⟨i1, i2⟩
    have hs := h.frT i1
    refine ⟨s, ?_, i1, i2.congr fun a' b' ha' hb' => ?_⟩
    · show bd_X4_take_27 fu (nI (n_ord S p)) (nI a) (nI (n_R S)) s = _
      unfold bd_X4_take_27
      rw [nm_e1, hs.2.1, if_pos (nI_le (Nat.le_refl _) (by omega))]
    · unfold mixA
      by_cases e : a' < a + 1
      · rw [if_pos (Or.inl e), if_pos (by omega)]
      · rw [if_neg (by omega), if_neg (by omega)]
end MT
