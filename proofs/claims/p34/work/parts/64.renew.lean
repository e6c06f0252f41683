/-! the class: steps are renewed -/
def FrN (u v : WS) : Prop := (∀ c, c ≠ 20 → c ≠ 21 → u.1 c = v.1 c) ∧ ∀ c, c ≠ 22 → c ≠ 23 → u.2 c = v.2 c
theorem FrN.rf (v : WS) : FrN v v := ⟨fun _ _ _ => rfl, fun _ _ _ => rfl⟩
theorem FrN.trans {u v w : WS} (h : FrN u v) (h2 : FrN v w) : FrN u w := ⟨fun c a b => (h.1 c a b).trans (h2.1 c a b), fun c a b => (h.2 c a b).trans (h2.2 c a b)⟩
theorem FrK.toN {u v : WS} (h : FrK u v) : FrN u v := ⟨fun c _ _ => by rw [h.1], h.2⟩
theorem FrS.toN {u v : WS} (h : FrS u v) : FrN u v := ⟨fun c h20 _ => h.1 c h20, h.2⟩
theorem RCg.frN {S : Nt} {u w : WS} (h : RCg S w) (f : FrN u w) : RCg S u := h.same (f.1 2 (by decide) (by decide)) (f.1 15 (by decide) (by decide)) (f.1 16 (by decide) (by decide)) (f.2 17 (by decide) (by decide)) (f.2 18 (by decide) (by decide)) (f.2 19 (by decide) (by decide))
theorem RCn.frN {S : Nt} {u w : WS} (h : RCn S w) (f : FrN u w) : RCn S u := h.same (f.1 1 (by decide) (by decide)) (f.1 9 (by decide) (by decide)) (f.1 10 (by decide) (by decide)) (f.1 11 (by decide) (by decide)) (f.1 12 (by decide) (by decide)) (f.2 13 (by decide) (by decide)) (f.2 14 (by decide) (by decide)) (f.2 1 (by decide) (by decide))
theorem SpI.congr {S : Nt} {st st2 : Nat → Nat → Nat} {w : WS} (h : SpI S st w) (e : ∀ a b, a < n_R S → b < n_R S → st2 a b = st a b) : SpI S st2 w := fun a b ha hb => by
  rw [e a b ha hb]
  exact h a b ha hb
section RS
variable {S : Nt} {w0 : WS} {st : Nat → Nat → Nat} {Q : Nat → Nat → Bool}
def rsT (S : Nt) (st : Nat → Nat → Nat) (a : Nat) (Y : Int64) (k : Nat) : Nat → Nat → Nat := fun i j => if i = a ∧ j < k ∧ bL Y j = true then s1 S i j else st i j
def rsQ (S : Nt) (st : Nat → Nat → Nat) (Q : Nat → Nat → Bool) (a : Nat) (Y : Int64) (k : Nat) : Nat → Nat → Bool := fun i j => Q i j || (decide (i = a) && decide (j < k) && bL Y j && !(s1 S i j == st i j))
theorem rsQ_iff {a : Nat} {Y : Int64} {k i j : Nat} : rsQ S st Q a Y k i j = true ↔ Q i j = true ∨ (i = a ∧ j < k ∧ bL Y j = true ∧ s1 S i j ≠ st i j) := by
  unfold rsQ
  simp only [Bool.or_eq_true, Bool.and_eq_true, decide_eq_true_eq, Bool.not_eq_true', beq_eq_false_iff_ne, and_assoc, ne_eq]
theorem renewRow (h : RCn S w0) (hg : RCg S w0) (hn : NtOK S) (hs : SpI S st w0) (hq : StI S Q w0) {fu : Nat} (hf : 64 < fu) {a : Nat} (ha : a < n_R S) (Y : Int64) (hY : ∀ i, i < 64 → bL Y i = true → i < n_R S ∧ n_fol S a i = true) :
    ∃ w', f_X0_renewStepsFrom fu w0 (nI a) Y = some w' ∧ FrN w' w0 ∧ w'.1 20 = w0.1 20 ∧ SpI S (rsT S st a Y 64) w' ∧ StI S (rsQ S st Q a Y 64) w' := by
  have hR := hn.2.1
  have key : ∃ w', iter (fun q : Int32 × WS => bd_X0_renewStepsFrom_3 fu (nI a) Y q.1 q.2) fu ((0 : Int32), w0) = some w' ∧ FrN w' w0 ∧ w'.1 20 = w0.1 20 ∧ SpI S (rsT S st a Y (n_R S)) w' ∧ StI S (rsQ S st Q a Y (n_R S)) w' := by
    refine iter_for0 (fun k (s : WS) => (nI k, s)) (n_R S) (fun k s => FrN s w0 ∧ s.1 20 = w0.1 20 ∧ SpI S (rsT S st a Y k) s ∧ StI S (rsQ S st Q a Y k) s) (fun (w' : WS) => FrN w' w0 ∧ w'.1 20 = w0.1 20 ∧ SpI S (rsT S st a Y (n_R S)) w' ∧ StI S (rsQ S st Q a Y (n_R S)) w') ?_ ?_ (by omega) w0 ⟨FrN.rf _, rfl, hs.congr fun i j _ _ => if_neg (by omega), hq.congr fun i j _ _ => ?_⟩
    · intro k s hk ⟨i1, i2, i3, i4⟩
      have hs1 := h.frN i1
      have hg1 := hg.frN i1
      show ∃ s', bd_X0_renewStepsFrom_3 fu (nI a) Y (nI k) s = some (.inl (nI (k + 1), s')) ∧ FrN s' w0 ∧ s'.1 20 = w0.1 20 ∧ SpI S (rsT S st a Y (k + 1)) s' ∧ StI S (rsQ S st Q a Y (k + 1)) s'
      unfold bd_X0_renewStepsFrom_3 f_X3_pair
      rw [nm_e1, hg1.1, if_neg (nI_ge hk (by omega)), has_ok fu Y (show k < 64 by omega), bn_e, if_zo]
      by_cases hbit : bL Y k = true
      · have hk2 := hY k (by omega) hbit
        have e3 : s.1 21 (64 * a + k) = nI (st a k) := by
          rw [(i3 a k ha hk2.1).1]
          unfold rsT
          rw [if_neg (by omega)]
        have hst : st a k ≤ 536870912 := (hs a k ha hk2.1).2
        have hs1le := s1_le hn a k
        rw [if_pos hbit, stepL_ok hs1 hn fu ha hk2.1 hk2.2, bn_e, bn_e, ck_t (pr_in (by omega) (by omega)), nm_e1, pr_cl (by omega) (by omega), e3]
        by_cases e : s1 S a k = st a k
        · rw [if_pos (by rw [e]), nm_e1, nI_1]
          refine ⟨s, rfl, i1, i2, i3.congr fun i j hi hj => ?_, i4.congr fun i j hi hj => ?_⟩
          · unfold rsT
            by_cases c : i = a ∧ j < k ∧ bL Y j = true
            · rw [if_pos c, if_pos ⟨c.1, by omega, c.2.2⟩]
            · rw [if_neg c]
              by_cases c2 : i = a ∧ j < k + 1 ∧ bL Y j = true
              · have : j = k := by
                  apply Decidable.byContradiction
                  intro hne
                  exact c ⟨c2.1, by omega, c2.2.2⟩
                rw [if_pos c2, c2.1, this, e]
              · rw [if_neg c2]
          · refine bdec rsQ_iff (rsQ_iff.trans ?_)
            constructor
            · rintro (c | c)
              · exact Or.inl c
              · exact Or.inr ⟨c.1, by omega, c.2.2⟩
            · rintro (c | c)
              · exact Or.inl c
              · by_cases c2 : j = k
                · exact absurd (by rw [c.1, c2]; exact e) c.2.2.2
                · exact Or.inr ⟨c.1, by omega, c.2.2⟩
        · rw [if_neg (fun hh => e ((nI_eq (by omega) (by omega)).mp hh)), bn_e, ck_t (pr_in (by omega) (by omega)), nm_e1, pr_cl (by omega) (by omega)]
          have f2 : FrN (wI s 21 (64 * a + k) (nI (s1 S a k))) s := ⟨fun c _ h21 => wI_n h21, fun _ _ _ => rfl⟩
          obtain ⟨w', e1, f3, q1⟩ := markArc_ok (hg1.frN f2) hn (i4.same (by rfl) (by rfl)) fu ha hk2.1 (n_fol_ne hn a k ha hk2.1 hk2.2)
          rw [e1, bn_e, nm_e1, nI_1]
          refine ⟨w', rfl, f3.toN.trans (f2.trans i1), by rw [f3.1, wI_n (by decide)]; exact i2, fun i j hi hj => ?_, q1.congr fun i j hi hj => ?_⟩
          · rw [f3.1, wI_at]
            unfold rsT
            by_cases c : i = a ∧ j = k
            · rw [if_pos ⟨rfl, by rw [c.1, c.2]⟩, if_pos ⟨c.1, by omega, by rw [c.2]; exact hbit⟩, c.1, c.2]
              exact ⟨rfl, hs1le⟩
            · rw [if_neg (fun hh => c (ix_inj (by omega) (by omega) hh.2))]
              have k3 := i3 i j hi hj
              unfold rsT at k3
              by_cases c2 : i = a ∧ j < k ∧ bL Y j = true
              · rw [if_pos c2] at k3
                rw [if_pos ⟨c2.1, by omega, c2.2.2⟩]
                exact k3
              · rw [if_neg c2] at k3
                rw [if_neg (fun hh => c2 ⟨hh.1, by have : j ≠ k := fun e2 => c ⟨hh.1, e2⟩; omega, hh.2.2⟩)]
                exact k3
          · refine bdec rsQ_iff (addP_iff.trans ?_)
            rw [rsQ_iff]
            constructor
            · rintro ((c | c) | c)
              · exact Or.inl c
              · exact Or.inr ⟨c.1, by omega, c.2.2⟩
              · exact Or.inr ⟨c.1, by omega, by rw [c.2]; exact hbit, by rw [c.1, c.2]; exact e⟩
            · rintro (c | c)
              · exact Or.inl (Or.inl c)
              · by_cases c2 : j = k
                · exact Or.inr ⟨c.1, c2⟩
                · exact Or.inl (Or.inr ⟨c.1, by omega, c.2.2⟩)
      · rw [if_neg hbit, nm_e1, nI_1]
        refine ⟨s, rfl, i1, i2, i3.congr fun i j hi hj => ?_, i4.congr fun i j hi hj => ?_⟩
        · unfold rsT
          by_cases c : i = a ∧ j < k ∧ bL Y j = true
          · rw [if_pos c, if_pos ⟨c.1, by omega, c.2.2⟩]
          · rw [if_neg c, if_neg]
            rintro ⟨c1, c2, c3⟩
            by_cases e : j = k
            · rw [e] at c3; exact hbit c3
            · exact c ⟨c1, by omega, c3⟩
        · refine bdec rsQ_iff (rsQ_iff.trans ?_)
          constructor
          · rintro (c | c)
            · exact Or.inl c
            · exact Or.inr ⟨c.1, by omega, c.2.2⟩
          · rintro (c | c)
            · exact Or.inl c
            · by_cases e : j = k
              · have := c.2.2.1
                rw [e] at this
                exact absurd this hbit
              · exact Or.inr ⟨c.1, by omega, c.2.2⟩
    · intro s hI
      refine ⟨s, ?_, hI⟩
      show bd_X0_renewStepsFrom_3 fu (nI a) Y (nI (n_R S)) s = _
      unfold bd_X0_renewStepsFrom_3
      rw [nm_e1, (hg.frN hI.1).1, if_pos (nI_le (Nat.le_refl _) (by omega))]
    · refine bdec (c := Q i j = true) ?_ Iff.rfl
      rw [rsQ_iff]
      exact ⟨fun c => c.resolve_right (fun c => by omega), fun c => Or.inl c⟩
  obtain ⟨w', e, f, f20, s2, q2⟩ := key
  refine ⟨w', ?_, f, f20, s2.congr fun i j hi hj => ?_, q2.congr fun i j hi hj => ?_⟩
  · unfold f_X0_renewStepsFrom
    rw [e, bn_e]
  · unfold rsT
    by_cases c : i = a ∧ j < 64 ∧ bL Y j = true
    · rw [if_pos c, if_pos ⟨c.1, hj, c.2.2⟩]
    · rw [if_neg c, if_neg (fun hh => c ⟨hh.1, by omega, hh.2.2⟩)]
  · refine bdec rsQ_iff (rsQ_iff.trans ?_)
    constructor
    · rintro (c | c)
      · exact Or.inl c
      · exact Or.inr ⟨c.1, by omega, c.2.2⟩
    · rintro (c | c)
      · exact Or.inl c
      · exact Or.inr ⟨c.1, hj, c.2.2⟩
def rsT2 (S : Nt) (st : Nat → Nat → Nat) (F G : Int64) (k : Nat) : Nat → Nat → Nat := fun i j => if i < k ∧ bL F i = true ∧ bL G j = true ∧ n_fol S i j = true then s1 S i j else st i j
theorem renewSteps_ok (h : RCn S w0) (hg : RCg S w0) (hn : NtOK S) (hs : SpI S st w0) (hq : StI S Q w0) {fu : Nat} (hf : 64 < fu) (F G : Int64) (hF : ∀ i, i < 64 → bL F i = true → i < n_R S) :
    ∃ w' Q2, f_X0_renewSteps fu w0 F G = some w' ∧ FrN w' w0 ∧ w'.1 20 = w0.1 20 ∧ SpI S (rsT2 S st F G 64) w' ∧ StI S Q2 w' ∧ (∀ i j, Q2 i j = true → Q i j = true ∨ (i < n_R S ∧ j < n_R S ∧ n_fol S i j = true)) ∧ ∀ i j, i < n_R S → j < n_R S → Q2 i j = false → Q i j = false ∧ rsT2 S st F G 64 i j = st i j := by
  have hR := hn.2.1
  have key : ∃ w', iter (fun q : Int32 × WS => bd_X0_renewSteps_3 fu F G q.1 q.2) fu ((0 : Int32), w0) = some w' ∧ FrN w' w0 ∧ w'.1 20 = w0.1 20 ∧ SpI S (rsT2 S st F G (n_R S)) w' ∧ ∃ Q2, StI S Q2 w' ∧ (∀ i j, Q2 i j = true → Q i j = true ∨ (i < n_R S ∧ j < n_R S ∧ n_fol S i j = true)) ∧ ∀ i j, i < n_R S → j < n_R S → Q2 i j = false → Q i j = false ∧ rsT2 S st F G (n_R S) i j = st i j := by
    refine iter_for0 (fun k (s : WS) => (nI k, s)) (n_R S) (fun k s => FrN s w0 ∧ s.1 20 = w0.1 20 ∧ SpI S (rsT2 S st F G k) s ∧ ∃ Q2, StI S Q2 s ∧ (∀ i j, Q2 i j = true → Q i j = true ∨ (i < n_R S ∧ j < n_R S ∧ n_fol S i j = true)) ∧ ∀ i j, i < n_R S → j < n_R S → Q2 i j = false → Q i j = false ∧ rsT2 S st F G k i j = st i j) (fun (w' : WS) => FrN w' w0 ∧ w'.1 20 = w0.1 20 ∧ SpI S (rsT2 S st F G (n_R S)) w' ∧ ∃ Q2, StI S Q2 w' ∧ (∀ i j, Q2 i j = true → Q i j = true ∨ (i < n_R S ∧ j < n_R S ∧ n_fol S i j = true)) ∧ ∀ i j, i < n_R S → j < n_R S → Q2 i j = false → Q i j = false ∧ rsT2 S st F G (n_R S) i j = st i j) ?_ ?_ (by omega) w0 ⟨FrN.rf _, rfl, hs.congr fun i j _ _ => if_neg (by omega), Q, hq, fun _ _ hh => Or.inl hh, fun i j _ _ hh => ⟨hh, if_neg (by omega)⟩⟩
    · intro k s hk ⟨i1, i2, i3, Q2, i4, i5, i6⟩
      have hgs := hg.frN i1
      by_cases hbit : bL F k = true
      · have hs1 := h.frN i1
        have hg1 := hg.frN i1
        have hkn := hk
        obtain ⟨Y0, eY, bY⟩ := folSet hs1 hn fu hkn
        have bits : ∀ i, i < 64 → (bL (Y0 &&& G) i = true ↔ i < n_R S ∧ n_fol S k i = true ∧ bL G i = true) := fun i hi => by
          rw [bL_and, bY i hi]
          simp only [Bool.and_eq_true, decide_eq_true_eq, and_assoc]
        obtain ⟨w', e, f, f20, s2, q2⟩ := renewRow hs1 hg1 hn i3 i4 hf hkn (Y0 &&& G) (fun i hi hx => ⟨((bits i hi).mp hx).1, ((bits i hi).mp hx).2.1⟩)
        have eT : ∀ i j, i < n_R S → j < n_R S → rsT2 S st F G (k + 1) i j = rsT S (rsT2 S st F G k) k (Y0 &&& G) 64 i j := fun i j hi hj => by
          unfold rsT
          by_cases c : i = k ∧ j < 64 ∧ bL (Y0 &&& G) j = true
          · have b := (bits j (by omega)).mp c.2.2
            rw [if_pos c]
            unfold rsT2
            rw [if_pos ⟨by omega, by rw [c.1]; exact hbit, b.2.2, by rw [c.1]; exact b.2.1⟩]
          · rw [if_neg c]
            unfold rsT2
            by_cases c2 : i < k ∧ bL F i = true ∧ bL G j = true ∧ n_fol S i j = true
            · rw [if_pos c2, if_pos ⟨by omega, c2.2⟩]
            · rw [if_neg c2, if_neg]
              rintro ⟨d1, d2, d3, d4⟩
              by_cases e2 : i = k
              · exact c ⟨e2, by omega, (bits j (by omega)).mpr ⟨hj, by rw [← e2]; exact d4, d3⟩⟩
              · exact c2 ⟨by omega, d2, d3, d4⟩
        refine ⟨w', ?_, f.trans i1, f20.trans i2, s2.congr eT, _, q2, fun i j hh => ?_, fun i j hi hj hh => ?_⟩
        · show bd_X0_renewSteps_3 fu F G (nI k) s = some (.inl (nI (k + 1), w'))
          unfold bd_X0_renewSteps_3
          rw [nm_e1, hgs.1, if_neg (nI_ge hk (by omega)), has_ok fu F (show k < 64 by omega), bn_e, if_zo, if_pos hbit, eY, bn_e, e, bn_e, nm_e1, nI_1]
        · rcases rsQ_iff.mp hh with hh | hh
          · exact i5 i j hh
          · have b := (bits j hh.2.1).mp hh.2.2.1
            exact Or.inr ⟨by rw [hh.1]; exact hkn, b.1, by rw [hh.1]; exact b.2.1⟩
        · have hno : ¬ (Q2 i j = true ∨ (i = k ∧ j < 64 ∧ bL (Y0 &&& G) j = true ∧ s1 S i j ≠ rsT2 S st F G k i j)) := fun h2 => by
            rw [rsQ_iff.mpr h2] at hh
            cases hh
          have k1 := i6 i j hi hj (Bool.eq_false_iff.mpr fun h2 => hno (Or.inl h2))
          refine ⟨k1.1, ?_⟩
          rw [eT i j hi hj]
          unfold rsT
          by_cases c : i = k ∧ j < 64 ∧ bL (Y0 &&& G) j = true
          · rw [if_pos c]
            have e2 : s1 S i j = rsT2 S st F G k i j := Decidable.byContradiction fun hne => hno (Or.inr ⟨c.1, c.2.1, c.2.2, hne⟩)
            rw [e2]
            exact k1.2
          · rw [if_neg c]
            exact k1.2
      · have eT : ∀ i j, rsT2 S st F G (k + 1) i j = rsT2 S st F G k i j := fun i j => by
          unfold rsT2
          by_cases c2 : i < k ∧ bL F i = true ∧ bL G j = true ∧ n_fol S i j = true
          · rw [if_pos c2, if_pos ⟨by omega, c2.2⟩]
          · rw [if_neg c2, if_neg]
            rintro ⟨d1, d2, d3, d4⟩
            by_cases e2 : i = k
            · rw [e2] at d2; exact absurd d2 hbit
            · exact c2 ⟨by omega, d2, d3, d4⟩
        refine ⟨s, ?_, i1, i2, i3.congr fun i j _ _ => eT i j, Q2, i4, i5, fun i j hi hj hh => by rw [eT]; exact i6 i j hi hj hh⟩
        show bd_X0_renewSteps_3 fu F G (nI k) s = some (.inl (nI (k + 1), s))
        unfold bd_X0_renewSteps_3
        rw [nm_e1, hgs.1, if_neg (nI_ge hk (by omega)), has_ok fu F (show k < 64 by omega), bn_e, if_zo, if_neg hbit, nm_e1, nI_1]
    · intro s hI
      refine ⟨s, ?_, hI⟩
      show bd_X0_renewSteps_3 fu F G (nI (n_R S)) s = _
      unfold bd_X0_renewSteps_3
      rw [nm_e1, (hg.frN hI.1).1, if_pos (nI_le (Nat.le_refl _) (by omega))]
  have e64 : ∀ i j, i < n_R S → rsT2 S st F G 64 i j = rsT2 S st F G (n_R S) i j := fun i j hi => by
    unfold rsT2
    by_cases c : i < n_R S ∧ bL F i = true ∧ bL G j = true ∧ n_fol S i j = true
    · rw [if_pos c, if_pos ⟨by omega, c.2⟩]
    · rw [if_neg c, if_neg (fun hh => c ⟨hi, hh.2⟩)]
  obtain ⟨w', e, k1, k2, k3, Q2, k4, k5, k6⟩ := key
  refine ⟨w', Q2, ?_, k1, k2, k3.congr fun i j hi _ => e64 i j hi, k4, k5, fun i j hi hj hh => by rw [e64 i j hi]; exact k6 i j hi hj hh⟩
  unfold f_X0_renewSteps
  rw [e, bn_e]
end RS
/-! the class: a change is followed -/
section RA
variable {S : Nt} {w : WS} {so ol : Nat → Nat → Nat}
def Nw (S : Nt) (w' w : WS) : Prop := FrN w' w ∧ SpI S (s1 S) w' ∧ StI S (fun _ _ => false) w' ∧ LnI S (n_L S) w'
theorem fol_arc {a b : Nat} (h : n_fol S a b = true) : n_arc S a b = true := ctF_fol h
theorem settleN (hg : RCg S w) (hn : NtOK S) (hs : SpI S (s1 S) w) (hA : ArcsS S so ol) (hol : ∀ a b, ol a b ≤ 536870912) {Q : Nat → Nat → Bool} (hq : StI S Q w) (hl : LnI S ol w) (h4 : ∀ a b, Q a b = true → a < n_R S ∧ b < n_R S ∧ n_fol S a b = true) (h3 : ∀ a b, a < n_R S → b < n_R S → Q a b = false → s1 S a b = so a b) {fu : Nat} (hf : 64 < fu) {w0 : WS} (f : FrN w w0) : ∃ w', f_X0_settle fu w = some (nI (cn2 (chL S ol) (n_R S) (n_R S)), w') ∧ Nw S w' w0 := by
  obtain ⟨w', e, f1, q, l⟩ := settle_ok hg hn hs hA hol hq hl (fun a b hh => ⟨(h4 a b hh).1, (h4 a b hh).2.1, fol_arc (h4 a b hh).2.2⟩) (fun a b ha hb _ hh => h3 a b ha hb hh) hf
  exact ⟨w', e, f1.toN.trans f, hs.frS f1, q, l⟩
theorem renewRoad_ok (h : RCn S w) (hg : RCg S w) (hn : NtOK S) (hb : w.1 2 1 = 1) (hs : SpI S so w) (hA : ArcsS S so ol) (hol : ∀ a b, ol a b ≤ 536870912) (hq : StI S (fun _ _ => false) w) (hl : LnI S ol w) {fu : Nat} (hf : 64 < fu) {r : Nat} (hr : r < n_R S) (hd : ∀ a b, a < n_R S → b < n_R S → s1 S a b ≠ so a b → n_fol S a b = true ∧ (a = r ∨ b = r)) : ∃ w', f_X0_renewRoad fu w (nI r) = some (nI (cn2 (chL S ol) (n_R S) (n_R S)), w') ∧ Nw S w' w := by
  have hR := hn.2.1
  obtain ⟨X1, e1, b1⟩ := forSet h hn fu hr
  obtain ⟨w1, Q1, e2, f1, g1, s2, q1, u1, v1⟩ := renewSteps_ok h hg hn hs hq hf X1 ((1 : Int64) <<< ((nI r).toInt64 &&& 63)) (fun i hi hx => by
    rw [b1 i hi, Bool.and_eq_true, decide_eq_true_eq] at hx
    exact hx.1)
  obtain ⟨X2, e3, b2⟩ := folSet (h.frN f1) hn fu hr
  obtain ⟨w2, Q2, e4, f2, g2, s3, q2, u2, v2⟩ := renewSteps_ok (h.frN f1) (hg.frN f1) hn s2 q1 hf ((1 : Int64) <<< ((nI r).toInt64 &&& 63)) X2 (fun i hi hx => by
    rw [bL_one (by omega), decide_eq_true_eq] at hx
    rw [hx]
    exact hr)
  have hT : ∀ a b, a < n_R S → b < n_R S → s1 S a b = rsT2 S (rsT2 S so X1 ((1 : Int64) <<< ((nI r).toInt64 &&& 63)) 64) ((1 : Int64) <<< ((nI r).toInt64 &&& 63)) X2 64 a b := fun a b ha hb => by
    apply Decidable.byContradiction
    intro hne
    have c2 : ¬ (a < 64 ∧ bL ((1 : Int64) <<< ((nI r).toInt64 &&& 63)) a = true ∧ bL X2 b = true ∧ n_fol S a b = true) := fun c => by
      apply hne
      unfold rsT2
      rw [if_pos c]
    have c1 : ¬ (a < 64 ∧ bL X1 a = true ∧ bL ((1 : Int64) <<< ((nI r).toInt64 &&& 63)) b = true ∧ n_fol S a b = true) := fun c => by
      apply hne
      unfold rsT2
      rw [if_neg c2, if_pos c]
    have hso : s1 S a b ≠ so a b := fun e => by
      apply hne
      unfold rsT2
      rw [if_neg c2, if_neg c1, e]
    have k := hd a b ha hb hso
    rcases k.2 with rfl | rfl
    · apply c2
      refine ⟨by omega, by rw [bL_one (by omega)]; simp, ?_, k.1⟩
      rw [b2 b (by omega), decide_eq_true hb, k.1]
      rfl
    · apply c1
      refine ⟨by omega, ?_, by rw [bL_one (by omega)]; simp, k.1⟩
      rw [b1 a (by omega), decide_eq_true ha, k.1]
      rfl
  have s4 : SpI S (s1 S) w2 := s3.congr hT
  obtain ⟨w', e5, k⟩ := settleN ((hg.frN f1).frN f2) hn s4 hA hol q2 (hl.same (g2.trans g1)) (fun a b hh => by
    rcases u2 a b hh with hh | hh
    · rcases u1 a b hh with hh | hh
      · cases hh
      · exact hh
    · exact hh) (fun a b ha hb hh => by
    have k2 := v2 a b ha hb hh
    have k1 := v1 a b ha hb k2.1
    rw [hT a b ha hb, k2.2, k1.2]) hf (f2.trans f1)
  refine ⟨w', ?_, k⟩
  unfold f_X0_renewRoad
  rw [nm_e1, hb, if_neg (by decide), e1, bn_e, only_ok, bn_e, e2, bn_e, bn_e, e3, bn_e, e4, bn_e, e5, bn2_e]
theorem renewTurn_ok (h : RCn S w) (hg : RCg S w) (hn : NtOK S) (hb : w.1 2 1 = 1) (hs : SpI S so w) (hA : ArcsS S so ol) (hol : ∀ a b, ol a b ≤ 536870912) (hq : StI S (fun _ _ => false) w) (hl : LnI S ol w) {fu : Nat} (hf : 64 < fu) {r t : Nat} (hr : r < n_R S) (ht : t < n_R S) (hd : ∀ a b, a < n_R S → b < n_R S → s1 S a b ≠ so a b → n_fol S a b = true ∧ a = r ∧ b = t) : ∃ w', f_X0_renewTurn fu w (nI r) (nI t) = some (nI (cn2 (chL S ol) (n_R S) (n_R S)), w') ∧ Nw S w' w := by
  have hR := hn.2.1
  obtain ⟨w1, Q1, e2, f1, g1, s2, q1, u1, v1⟩ := renewSteps_ok h hg hn hs hq hf ((1 : Int64) <<< ((nI r).toInt64 &&& 63)) ((1 : Int64) <<< ((nI t).toInt64 &&& 63)) (fun i hi hx => by
    rw [bL_one (by omega), decide_eq_true_eq] at hx
    rw [hx]
    exact hr)
  have hT : ∀ a b, a < n_R S → b < n_R S → s1 S a b = rsT2 S so ((1 : Int64) <<< ((nI r).toInt64 &&& 63)) ((1 : Int64) <<< ((nI t).toInt64 &&& 63)) 64 a b := fun a b ha hb => by
    apply Decidable.byContradiction
    intro hne
    have c1 : ¬ (a < 64 ∧ bL ((1 : Int64) <<< ((nI r).toInt64 &&& 63)) a = true ∧ bL ((1 : Int64) <<< ((nI t).toInt64 &&& 63)) b = true ∧ n_fol S a b = true) := fun c => by
      apply hne
      unfold rsT2
      rw [if_pos c]
    have hso : s1 S a b ≠ so a b := fun e => by
      apply hne
      unfold rsT2
      rw [if_neg c1, e]
    have k := hd a b ha hb hso
    apply c1
    refine ⟨by omega, ?_, ?_, k.1⟩
    · rw [bL_one (by omega), k.2.1]; simp
    · rw [bL_one (by omega), k.2.2]; simp
  obtain ⟨w', e5, k⟩ := settleN (hg.frN f1) hn (s2.congr hT) hA hol q1 (hl.same g1) (fun a b hh => by
    rcases u1 a b hh with hh | hh
    · cases hh
    · exact hh) (fun a b ha hb hh => by
    have k1 := v1 a b ha hb hh
    rw [hT a b ha hb, k1.2]) hf f1
  refine ⟨w', ?_, k⟩
  unfold f_X0_renewTurn
  rw [nm_e1, hb, if_neg (by decide), only_ok, bn_e, only_ok, bn_e, e2, bn_e, e5, bn2_e]
/-- all steps are looked at, without the test whether a hierarchy stands -/
theorem renewAll_core (h : RCn S w) (hg : RCg S w) (hn : NtOK S) (hs : SpI S so w) (hA : ArcsS S so ol) (hol : ∀ a b, ol a b ≤ 536870912) (hq : StI S (fun _ _ => false) w) (hl : LnI S ol w) {fu : Nat} (hf : 64 < fu) (hd : ∀ a b, a < n_R S → b < n_R S → s1 S a b ≠ so a b → n_fol S a b = true) : ∃ X w1 w', f_X2_allRoads fu w = some X ∧ f_X0_renewSteps fu w X X = some w1 ∧ f_X0_settle fu w1 = some (nI (cn2 (chL S ol) (n_R S) (n_R S)), w') ∧ Nw S w' w := by
  have hR := hn.2.1
  obtain ⟨X, e1, b1⟩ := allSet h hn fu
  obtain ⟨w1, Q1, e2, f1, g1, s2, q1, u1, v1⟩ := renewSteps_ok h hg hn hs hq hf X X (fun i hi hx => by
    rw [b1 i hi, decide_eq_true_eq] at hx
    exact hx)
  have hT : ∀ a b, a < n_R S → b < n_R S → s1 S a b = rsT2 S so X X 64 a b := fun a b ha hb => by
    apply Decidable.byContradiction
    intro hne
    have c1 : ¬ (a < 64 ∧ bL X a = true ∧ bL X b = true ∧ n_fol S a b = true) := fun c => by
      apply hne
      unfold rsT2
      rw [if_pos c]
    have hso : s1 S a b ≠ so a b := fun e => by
      apply hne
      unfold rsT2
      rw [if_neg c1, e]
    exact c1 ⟨by omega, by rw [b1 a (by omega)]; exact decide_eq_true ha, by rw [b1 b (by omega)]; exact decide_eq_true hb, hd a b ha hb hso⟩
  obtain ⟨w', e5, k⟩ := settleN (hg.frN f1) hn (s2.congr hT) hA hol q1 (hl.same g1) (fun a b hh => by
    rcases u1 a b hh with hh | hh
    · cases hh
    · exact hh) (fun a b ha hb hh => by
    have k1 := v1 a b ha hb hh
    rw [hT a b ha hb, k1.2]) hf f1
  exact ⟨X, w1, w', e1, e2, e5, k⟩
theorem renewAll_ok (h : RCn S w) (hg : RCg S w) (hn : NtOK S) (hb : w.1 2 1 = 1) (hs : SpI S so w) (hA : ArcsS S so ol) (hol : ∀ a b, ol a b ≤ 536870912) (hq : StI S (fun _ _ => false) w) (hl : LnI S ol w) {fu : Nat} (hf : 64 < fu) (hd : ∀ a b, a < n_R S → b < n_R S → s1 S a b ≠ so a b → n_fol S a b = true) : ∃ w', f_X0_renewAll fu w = some (nI (cn2 (chL S ol) (n_R S) (n_R S)), w') ∧ Nw S w' w := by
  obtain ⟨X, w1, w', e1, e2, e5, k⟩ := renewAll_core h hg hn hs hA hol hq hl hf hd
  refine ⟨w', ?_, k⟩
  unfold f_X0_renewAll
  rw [nm_e1, hb, if_neg (by decide), e1, bn_e, bn_e, e2, bn_e, e5, bn2_e]
theorem renewRoad_no (hb : w.1 2 1 = 0) (fu : Nat) (x : Int32) : f_X0_renewRoad fu w x = some (0, w) := by
  unfold f_X0_renewRoad
  rw [nm_e1, hb, if_pos rfl]
theorem renewTurn_no (hb : w.1 2 1 = 0) (fu : Nat) (x y : Int32) : f_X0_renewTurn fu w x y = some (0, w) := by
  unfold f_X0_renewTurn
  rw [nm_e1, hb, if_pos rfl]
theorem renewAll_no (hb : w.1 2 1 = 0) (fu : Nat) : f_X0_renewAll fu w = some (0, w) := by
  unfold f_X0_renewAll
  rw [nm_e1, hb, if_pos rfl]
end RA
