/-! the class: all of settle -/
def chL (S : Nt) (ol : Nat → Nat → Nat) (a b : Nat) : Bool := n_arc S a b && !(kc (n_L S a b) == kc (ol a b))
theorem bn2_s {α β γ : Type} (q : α × β) (k : α → β → Option γ) : bn2 (some q) k = k q.1 q.2 := rfl
section SO
variable {S : Nt} {w0 : WS} {so ol : Nat → Nat → Nat} {p : Nat}
def cl22 (S : Nt) (p : Nat) (Q : Nat → Nat → Bool) : Nat → Nat → Bool := fun a b => Q a b && !(decide (n_pos S a = p) && decide (p < n_pos S b))
def cl23 (S : Nt) (p : Nat) (Q : Nat → Nat → Bool) : Nat → Nat → Bool := fun a b => Q a b && !(decide (n_pos S b = p) && decide (p < n_pos S a))
theorem cl22_iff {Q : Nat → Nat → Bool} {a b : Nat} : cl22 S p Q a b = true ↔ Q a b = true ∧ ¬ (n_pos S a = p ∧ p < n_pos S b) := by
  unfold cl22
  simp only [Bool.and_eq_true, Bool.not_eq_true', Bool.and_eq_false_imp, decide_eq_true_eq, decide_eq_false_iff_not, not_and]
theorem cl23_iff {Q : Nat → Nat → Bool} {a b : Nat} : cl23 S p Q a b = true ↔ Q a b = true ∧ ¬ (n_pos S b = p ∧ p < n_pos S a) := by
  unfold cl23
  simp only [Bool.and_eq_true, Bool.not_eq_true', Bool.and_eq_false_imp, decide_eq_true_eq, decide_eq_false_iff_not, not_and]
theorem StI_iff {Q : Nat → Nat → Bool} {w : WS} (h : StI S Q w) {r i : Nat} (hr : r < 64) (hi : i < 64) : (bL (w.2 22 r) i = true ↔ r < n_R S ∧ i < n_R S ∧ n_pos S r < n_pos S i ∧ Q r i = true) ∧ (bL (w.2 23 r) i = true ↔ r < n_R S ∧ i < n_R S ∧ n_pos S r < n_pos S i ∧ Q i r = true) := by
  have k := h r i hr hi
  rw [k.1, k.2]
  simp only [Bool.and_eq_true, decide_eq_true_eq, and_assoc, and_self]
theorem StI_of {Q : Nat → Nat → Bool} {w : WS} (h : ∀ r i, r < 64 → i < 64 → (bL (w.2 22 r) i = true ↔ r < n_R S ∧ i < n_R S ∧ n_pos S r < n_pos S i ∧ Q r i = true) ∧ (bL (w.2 23 r) i = true ↔ r < n_R S ∧ i < n_R S ∧ n_pos S r < n_pos S i ∧ Q i r = true)) : StI S Q w := by
  intro r i hr hi
  have k := h r i hr hi
  refine ⟨bdec k.1 ?_, bdec k.2 ?_⟩
  · simp only [Bool.and_eq_true, decide_eq_true_eq, and_assoc]
  · simp only [Bool.and_eq_true, decide_eq_true_eq, and_assoc]
theorem StI.clear22 {Q : Nat → Nat → Bool} {w : WS} (h : StI S Q w) (hp : p < n_R S) : StI S (cl22 S p Q) (wL w 22 (n_ord S p) 0) := by
  have hx : n_ord S p < n_R S := ctO_lt hp
  have hxp : n_pos S (n_ord S p) = p := n_pos_ord hp
  refine StI_of fun r i hr hi => ?_
  have k := StI_iff h hr hi
  rw [wL_s2, wL_n (show (23 : Nat) ≠ 22 by decide), k.2, cl22_iff, cl22_iff]
  constructor
  · by_cases e : r = n_ord S p
    · rw [if_pos e, bL_0, e, hxp]
      constructor
      · intro h; cases h
      · rintro ⟨_, _, h1, _, h2⟩
        exact absurd ⟨rfl, h1⟩ h2
    · rw [if_neg e, k.1]
      constructor
      · rintro ⟨h1, h2, h3, h4⟩
        exact ⟨h1, h2, h3, h4, fun hh => e (ctR_inj h1 hx (hh.1.trans hxp.symm))⟩
      · rintro ⟨h1, h2, h3, h4, _⟩
        exact ⟨h1, h2, h3, h4⟩
  · constructor
    · rintro ⟨h1, h2, h3, h4⟩
      exact ⟨h1, h2, h3, h4, fun hh => by omega⟩
    · rintro ⟨h1, h2, h3, h4, _⟩
      exact ⟨h1, h2, h3, h4⟩
theorem StI.clear23 {Q : Nat → Nat → Bool} {w : WS} (h : StI S Q w) (hp : p < n_R S) : StI S (cl23 S p Q) (wL w 23 (n_ord S p) 0) := by
  have hx : n_ord S p < n_R S := ctO_lt hp
  have hxp : n_pos S (n_ord S p) = p := n_pos_ord hp
  refine StI_of fun r i hr hi => ?_
  have k := StI_iff h hr hi
  rw [wL_s2, wL_n (show (22 : Nat) ≠ 23 by decide), k.1, cl23_iff, cl23_iff]
  constructor
  · constructor
    · rintro ⟨h1, h2, h3, h4⟩
      exact ⟨h1, h2, h3, h4, fun hh => by omega⟩
    · rintro ⟨h1, h2, h3, h4, _⟩
      exact ⟨h1, h2, h3, h4⟩
  · by_cases e : r = n_ord S p
    · rw [if_pos e, bL_0, e, hxp]
      constructor
      · intro h; cases h
      · rintro ⟨_, _, h1, _, h2⟩
        exact absurd ⟨rfl, h1⟩ h2
    · rw [if_neg e, k.2]
      constructor
      · rintro ⟨h1, h2, h3, h4⟩
        exact ⟨h1, h2, h3, h4, fun hh => e (ctR_inj h1 hx (hh.1.trans hxp.symm))⟩
      · rintro ⟨h1, h2, h3, h4, _⟩
        exact ⟨h1, h2, h3, h4⟩
/-- between two roads -/
def OI (S : Nt) (so ol : Nat → Nat → Nat) (w0 : WS) (p : Nat) (s : Nat × WS) : Prop := FrS s.2 w0 ∧ ∃ Q ln, StI S Q s.2 ∧ LnI S ln s.2 ∧ SI S so ol p (PP S p) Q ln ∧ s.1 = cn2 (chP S ol (PP S p)) (n_R S) (n_R S)
theorem OI.step (hg : RCg S w0) (hn : NtOK S) (hs : SpI S (s1 S) w0) (hA : ArcsS S so ol) (hol : ∀ a b, ol a b ≤ 536870912) {fu : Nat} (hf : 64 < fu) (hp : p < n_R S) {s : Nat × WS} (h : OI S so ol w0 p s) : ∃ s', bd_X0_settle_4 fu (nI s.1) (nI p) s.2 = some (.inl (nI s'.1, nI (p + 1), s'.2)) ∧ OI S so ol w0 (p + 1) s' := by
  have hR := hn.2.1
  have hx : n_ord S p < n_R S := ctO_lt hp
  have hxp : n_pos S (n_ord S p) = p := n_pos_ord hp
  obtain ⟨f, Q, ln, k1, k2, k3, k4⟩ := h
  have hgs := hg.frS f
  have hss := hs.frS f
  obtain ⟨r1, e1, c1, ec1, L1⟩ := headLoop (Q0 := Q) hgs hn hss hA hol hf hp (nI p) (s.2.2 22 (n_ord S p)) (fun i hi => by
    rw [(StI_iff k1 (show n_ord S p < 64 by omega) hi).1, hxp]
    constructor
    · rintro ⟨_, h2, h3, h4⟩
      exact ⟨h2, (k3.2.2.2 _ _ h4).2.2.1, h3, h4⟩
    · rintro ⟨h2, _, h3, h4⟩
      exact ⟨hx, h2, h3, h4⟩) s ⟨FrS.rf _, Q, ln, k1, k2, k3, fun _ _ hh => hh, fun _ _ hh => Or.inl hh, k4⟩
  obtain ⟨f1, Q1, ln1, a1, a2, a3, a4, a5, a6⟩ := L1
  have fw8 : FrS (wL r1.2 22 (n_ord S p) 0) s.2 := FrS.trans (v := r1.2) ⟨fun _ _ => rfl, fun c h22 _ => wL_n h22⟩ f1
  have L2 : LI S so ol p s.2 (cl22 S p Q) (P2 S p 0) (c1, wL r1.2 22 (n_ord S p) 0) := by
    refine ⟨fw8, cl22 S p Q1, ln1, a1.clear22 hp, a2.same rfl, a3.less (fun a b hh => (cl22_iff.mp hh).1) (fun a b ha hb harc hP hq => ?_), fun a b hh => ?_, fun a b hh => ?_, a6⟩
    · apply Bool.eq_false_iff.mpr
      intro hq1
      have hno : ¬ ¬ (n_pos S a = p ∧ p < n_pos S b) := fun hno => by
        rw [cl22_iff.mpr ⟨hq1, hno⟩] at hq
        cases hq
      have := Decidable.of_not_not hno
      rw [P2_iff.mpr (Or.inr (Or.inl this))] at hP
      cases hP
    · have := cl22_iff.mp hh
      exact cl22_iff.mpr ⟨a4 a b this.1, this.2⟩
    · have := cl22_iff.mp hh
      rcases a5 a b this.1 with h2 | h2
      · exact Or.inl (cl22_iff.mpr ⟨h2, this.2⟩)
      · exact Or.inr h2
  obtain ⟨r2, e2, c2, ec2, L3⟩ := tailLoop (Q0 := cl22 S p Q) hgs hn hss hA hol hf hp (nI p) ((wL r1.2 22 (n_ord S p) 0).2 23 (n_ord S p)) (fun i hi => by
    rw [(StI_iff (a1.clear22 hp) (show n_ord S p < 64 by omega) hi).2, hxp]
    constructor
    · rintro ⟨_, h2, h3, h4⟩
      have h5 := cl22_iff.mp h4
      refine ⟨h2, (a3.2.2.2 _ _ h5.1).2.2.1, h3, ?_⟩
      rcases a5 _ _ h5.1 with h6 | h6
      · exact cl22_iff.mpr ⟨h6, h5.2⟩
      · rw [hxp] at h6; omega
    · rintro ⟨h2, _, h3, h4⟩
      have h5 := cl22_iff.mp h4
      exact ⟨hx, h2, h3, cl22_iff.mpr ⟨a4 _ _ h5.1, h5.2⟩⟩) (c1, wL r1.2 22 (n_ord S p) 0) L2
  obtain ⟨f3, Q3, ln3, b1, b2, b3, b4, b5, b6⟩ := L3
  refine ⟨(c2, wL r2.2 23 (n_ord S p) 0), ?_, FrS.trans (v := r2.2) ⟨fun _ _ => rfl, fun c _ h23 => wL_n h23⟩ (f3.trans f), cl23 S p Q3, ln3, b1.clear23 hp, b2.same rfl, ?_, b6⟩
  · unfold bd_X0_settle_4
    rw [nm_e1, hgs.1, if_neg (nI_ge hp (by omega)), ck_t (in64 (by omega)), nm_e1, cl64 (by omega), hgs.2.2.1 p hp, ck_t (in64 (by omega)), nm_e1, cl64 (by omega), next0_ok, bn_e, e1]
    rw [bn2_s, ck_t (in64 (by omega)), nm_e1, ck_t (in64 (by omega)), nm_e1, next0_ok, bn_e, ec1, e2, bn2_s, ck_t (in64 (by omega)), nm_e1, nm_e1, ec2, nI_1]
  · have k := b3.less (Q2 := cl23 S p Q3) (fun a b hh => (cl23_iff.mp hh).1) (fun a b ha hb harc hP hq => by
      apply Bool.eq_false_iff.mpr
      intro hq1
      have hno : ¬ ¬ (n_pos S b = p ∧ p < n_pos S a) := fun hno => by
        rw [cl23_iff.mpr ⟨hq1, hno⟩] at hq
        cases hq
      have h1 := Decidable.of_not_not hno
      have h2 : PP S (p + 1) a b = true := decide_eq_true (by omega)
      rw [h2] at hP
      cases hP)
    refine ⟨k.1, k.2.1, k.2.2.1, fun a b hh => ?_⟩
    have h0 := cl23_iff.mp hh
    have h1 := b3.2.2.2 a b h0.1
    refine ⟨h1.1, h1.2.1, h1.2.2.1, ?_⟩
    have hne := pos_ne hn h1.1 h1.2.1 (arc_ne hn h1.1 h1.2.1 h1.2.2.1)
    rcases b5 a b h0.1 with h2 | h2
    · have h3 := (cl22_iff.mp h2).2
      have h4 := h0.2
      by_cases c1 : n_pos S a = p
      · exact absurd ⟨c1, by omega⟩ h3
      · by_cases c2 : n_pos S b = p
        · exact absurd ⟨c2, by omega⟩ h4
        · omega
    · omega
theorem settle_ok (hg : RCg S w0) (hn : NtOK S) (hs : SpI S (s1 S) w0) (hA : ArcsS S so ol) (hol : ∀ a b, ol a b ≤ 536870912) {Q : Nat → Nat → Bool} (hq : StI S Q w0) (hl : LnI S ol w0) (h4 : ∀ a b, Q a b = true → a < n_R S ∧ b < n_R S ∧ n_arc S a b = true) (h3 : ∀ a b, a < n_R S → b < n_R S → n_arc S a b = true → Q a b = false → s1 S a b = so a b) {fu : Nat} (hf : 64 < fu) : ∃ w', f_X0_settle fu w0 = some (nI (cn2 (chL S ol) (n_R S) (n_R S)), w') ∧ FrS w' w0 ∧ StI S (fun _ _ => false) w' ∧ LnI S (n_L S) w' := by
  have hR := hn.2.1
  have key : ∃ r : Int32 × WS, iter (fun q : Int32 × Int32 × WS => bd_X0_settle_4 fu q.1 q.2.1 q.2.2) fu ((0 : Int32), (0 : Int32), w0) = some r ∧ r.1 = nI (cn2 (chL S ol) (n_R S) (n_R S)) ∧ FrS r.2 w0 ∧ StI S (fun _ _ => false) r.2 ∧ LnI S (n_L S) r.2 := by
    refine iter_for0 (fun k (s : Nat × WS) => (nI s.1, nI k, s.2)) (n_R S) (fun p s => OI S so ol w0 p s) (fun (r : Int32 × WS) => r.1 = nI (cn2 (chL S ol) (n_R S) (n_R S)) ∧ FrS r.2 w0 ∧ StI S (fun _ _ => false) r.2 ∧ LnI S (n_L S) r.2) ?_ ?_ (by omega) (0, w0) ?_
    · intro p s hp hI
      exact hI.step hg hn hs hA hol hf hp
    · intro s ⟨f, Q, ln, k1, k2, k3, k4⟩
      have hPP : ∀ a b, a < n_R S → b < n_R S → PP S (n_R S) a b = true := fun a b ha hb => decide_eq_true (by have := n_pos_lt ha; omega)
      refine ⟨(nI s.1, s.2), ?_, ?_, f, k1.congr fun a b ha hb => ?_, fun a b ha hb harc => ?_⟩
      · show bd_X0_settle_4 fu (nI s.1) (nI (n_R S)) s.2 = _
        unfold bd_X0_settle_4
        rw [nm_e1, (hg.frS f).1, if_pos (nI_le (Nat.le_refl _) (by omega))]
      · show nI s.1 = _
        rw [k4]
        congr 1
        refine cn2_congr (n_R S) fun a b ha hb => ?_
        unfold chP chL
        rw [hPP a b ha hb, Bool.and_true]
      · symm
        apply Bool.eq_false_iff.mpr
        intro hh
        have := (k3.2.2.2 a b hh).2.2.2
        have := n_pos_lt ha
        omega
      · rw [← k3.1 a b ha hb harc (hPP a b ha hb)]
        exact k2 a b ha hb harc
    · have hP0 : ∀ a b, PP S 0 a b = false := fun a b => decide_eq_false (Nat.not_lt_zero _)
      refine ⟨FrS.rf _, Q, ol, hq, hl, ⟨fun a b _ _ _ hp => ?_, fun _ _ _ _ _ _ => rfl, fun a b ha hb harc _ hqf => ⟨h3 a b ha hb harc hqf, fun x _ => ⟨fun hp => ?_, fun hp => ?_⟩⟩, fun a b hh => ?_⟩, ?_⟩
      · rw [hP0] at hp; cases hp
      · rw [hP0] at hp; cases hp
      · rw [hP0] at hp; cases hp
      · have := h4 a b hh
        exact ⟨this.1, this.2.1, this.2.2, Nat.zero_le _⟩
      · have : ∀ m, cn2 (chP S ol (PP S 0)) (n_R S) m = 0 := fun m => by
          induction m with
          | zero => rfl
          | succ m ih =>
            show cn2 (chP S ol (PP S 0)) (n_R S) m + cn (chP S ol (PP S 0) m) (n_R S) = 0
            rw [ih, cn_f fun r _ => by unfold chP; rw [hP0]; simp]
        exact (this _).symm
  obtain ⟨r, e, r1, r2⟩ := key
  refine ⟨r.2, ?_, r2⟩
  unfold f_X0_settle
  rw [e]
  show some (r.1, r.2) = _
  rw [r1]
end SO
