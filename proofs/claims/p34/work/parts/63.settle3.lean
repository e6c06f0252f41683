/-! the class: all of settle -/
def chL (S : Nt) (ol : Nat → Nat → Nat) (a b : Nat) : Bool := n_arc S a b && !(kc (n_L S a b) == kc (ol a b))
theorem bn2_s {α β γ : Type} (q : α × β) (k : α → β → Option γ) : bn2 (some q) k = k q.1 q.2 := rfl
section SO
variable {S : Nt} {w0 : WS} {so ol : Nat → Nat → Nat} {p : Nat}
def cl22 (S : Nt) (p : Nat) (Q : Nat → Nat → Bool) : Nat → Nat → Bool := fun a b => Q a b && !(decide (n_pos S a = p) && decide (p < n_pos S b))
def cl23 (S : Nt) (p : Nat) (Q : Nat → Nat → Bool) : Nat → Nat → Bool := fun a b => Q a b && !(decide (n_pos S b = p) && decide (p < n_pos S a))
theorem cl22_iff {Q : Nat → Nat → Bool} {a b : Nat} : cl22 S p Q a b = true ↔ Q a b = true ∧ ¬ (n_pos S a = p ∧ p < n_pos S b) := by
  unfold cl22
  simp only [Bool.and_eq_true, Bool.not_eq_true', Bool.and_eq_false_imp, decide_eq_true_eq, decide_eq_false_iff_not, not_and]
theorem cl23_iff {Q : Nat → Nat → Bool} {a b : Nat} : cl23 S p Q a b = true ↔ Q a b = true ∧ ¬ (n_pos S b = p ∧ p < n_pos S a) := by
  unfold cl23
  simp only [Bool.and_eq_true, Bool.not_eq_true', Bool.and_eq_false_imp, decide_eq_true_eq, decide_eq_false_iff_not, not_and]
theorem StI.clear22 {Q : Nat → Nat → Bool} {w : WS} (h : StI S Q w) (hp : p < n_R S) : StI S (cl22 S p Q) (wL w 22 (n_ord S p) 0) := by
  have hx : n_ord S p < n_R S := ctO_lt hp
  have hxp : n_pos S (n_ord S p) = p := n_pos_ord hp
  refine StI_of fun r i hr hi => ?_
  have k := StI_iff h hr hi
  rw [wL_s2, wL_n (show (23 : Nat) ≠ 22 by decide), k.2, cl22_iff, cl22_iff]
  constructor
  · by_cases e : r = n_ord S p
    · rw [if_pos e, bL_0, e, hxp]
      constructor
      · intro h; cases h
      · rintro ⟨_, _, h1, _, h2⟩
        exact absurd ⟨rfl, h1⟩ h2
    · rw [if_neg e, k.1]
      constructor
      · rintro ⟨h1, h2, h3, h4⟩
        exact ⟨h1, h2, h3, h4, fun hh => e (ctR_inj h1 hx (hh.1.trans hxp.symm))⟩
      · rintro ⟨h1, h2, h3, h4, _⟩
        exact ⟨h1, h2, h3, h4⟩
  · constructor
    · rintro ⟨h1, h2, h3, h4⟩
      exact ⟨h1, h2, h3, h4, fun hh => by omega⟩
    · rintro ⟨h1, h2, h3, h4, _⟩
      exact ⟨h1, h2, h3, h4⟩
theorem StI.clear23 {Q : Nat → Nat → Bool} {w : WS} (h : StI S Q w) (hp : p < n_R S) : StI S (cl23 S p Q) (wL w 23 (n_ord S p) 0) := by
  have hx : n_ord S p < n_R S := ctO_lt hp
  have hxp : n_pos S (n_ord S p) = p := n_pos_ord hp
  refine StI_of fun r i hr hi => ?_
  have k := StI_iff h hr hi
  rw [wL_s2, wL_n (show (22 : Nat) ≠ 23 by decide), k.1, cl23_iff, cl23_iff]
  constructor
  · constructor
    · rintro ⟨h1, h2, h3, h4⟩
      exact ⟨h1, h2, h3, h4, fun hh => by omega⟩
    · rintro ⟨h1, h2, h3, h4, _⟩
      exact ⟨h1, h2, h3, h4⟩
  · by_cases e : r = n_ord S p
    · rw [if_pos e, bL_0, e, hxp]
      constructor
      · intro h; cases h
      · rintro ⟨_, _, h1, _, h2⟩
        exact absurd ⟨rfl, h1⟩ h2
    · rw [if_neg e, k.2]
      constructor
      · rintro ⟨h1, h2, h3, h4⟩
        exact ⟨h1, h2, h3, h4, fun hh => e (ctR_inj h1 hx (hh.1.trans hxp.symm))⟩
      · rintro ⟨h1, h2, h3, h4, _⟩
        exact ⟨h1, h2, h3, h4⟩
/-- between two roads -/
def OI (S : Nt) (so ol : Nat → Nat → Nat) (w0 : WS) (p : Nat) (s : Nat × WS) : Prop := FrS s.2 w0 ∧ ∃ Q ln, StI S Q s.2 ∧ LnI S ln s.2 ∧ SI S so ol p (PP S p) Q ln ∧ s.1 = cn2 (chP S ol (PP S p)) (n_R S) (n_R S)
/-- no arc of p is stale: all of them are through as they stand -/
theorem OI.none (hn : NtOK S) (hA : ArcsS S so ol) (hp : p < n_R S) {s : Nat × WS} (h : OI S so ol w0 p s) (z1 : s.2.2 22 (n_ord S p) = 0) (z2 : s.2.2 23 (n_ord S p) = 0) : OI S so ol w0 (p + 1) s := by
  have hR := hn.2.1
  have hx : n_ord S p < n_R S := ctO_lt hp
  have hxp : n_pos S (n_ord S p) = p := n_pos_ord hp
  obtain ⟨f, Q, ln, k1, k2, k3, k4⟩ := h
  have hq0 : ∀ a b, a < n_R S → b < n_R S → a ≠ b → min (n_pos S a) (n_pos S b) = p → Q a b = false := fun a b ha hb hne hm => by
    have hpn := pos_ne hn ha hb hne
    rw [← mkB_Q hn k1 ha hb hne]
    unfold mkB
    by_cases c : n_pos S a < n_pos S b
    · rw [if_pos c, show a = n_ord S p from ctR_inj ha hx (show n_pos S a = n_pos S (n_ord S p) by omega), z1, bL_0]
    · rw [if_neg c, show b = n_ord S p from ctR_inj hb hx (show n_pos S b = n_pos S (n_ord S p) by omega), z2, bL_0]
  have hPf : ∀ a b, min (n_pos S a) (n_pos S b) = p → PP S p a b = false := fun a b hm => decide_eq_false (by omega)
  have heq : ∀ a b, a < n_R S → b < n_R S → n_arc S a b = true → min (n_pos S a) (n_pos S b) = p → n_L S a b = ol a b := fun a b ha hb harc hm => by
    have k := k3.2.2.1 a b ha hb harc (hPf a b hm) (hq0 a b ha hb (arc_ne hn ha hb harc) hm)
    refine arcs_eq (arcs_ok hn) hA ha hb harc k.1 fun x hx => ⟨(k.2 x hx).1 (PP_iff.mpr ?_), (k.2 x hx).2 (PP_iff.mpr ?_)⟩
    · have h1 := hx.2.2.2.1
      have h2 := hx.2.2.2.2
      omega
    · have h1 := hx.2.2.2.1
      have h2 := hx.2.2.2.2
      omega
  have hcase : ∀ a b, PP S (p + 1) a b = true → PP S p a b = true ∨ min (n_pos S a) (n_pos S b) = p := fun a b h => by
    have h := PP_iff.mp h
    by_cases c : min (n_pos S a) (n_pos S b) = p
    · exact Or.inr c
    · exact Or.inl (PP_iff.mpr (by omega))
  have hless : ∀ a b, PP S (p + 1) a b = false → PP S p a b = false := fun a b h => Bool.eq_false_iff.mpr fun hh => by
    have := PP_iff.mp hh
    rw [PP_iff.mpr (show min (n_pos S a) (n_pos S b) < p + 1 by omega)] at h
    cases h
  refine ⟨f, Q, ln, k1, k2, ⟨fun a b ha hb harc hP => ?_, fun a b ha hb harc hP => k3.2.1 a b ha hb harc (hless a b hP), fun a b ha hb harc hP hq => ?_, fun a b hq => ?_⟩, ?_⟩
  · rcases hcase a b hP with h | h
    · exact k3.1 a b ha hb harc h
    · rw [k3.2.1 a b ha hb harc (hPf a b h), heq a b ha hb harc h]
  · have k := k3.2.2.1 a b ha hb harc (hless a b hP) hq
    refine ⟨k.1, fun x hx => ⟨fun h => ?_, fun h => ?_⟩⟩
    · rcases hcase a x h with h | h
      · exact (k.2 x hx).1 h
      · exact heq a x ha hx.1 hx.2.1 h
    · rcases hcase x b h with h | h
      · exact (k.2 x hx).2 h
      · exact heq x b hx.1 hb hx.2.2.1 h
  · have k := k3.2.2.2 a b hq
    refine ⟨k.1, k.2.1, k.2.2.1, ?_⟩
    by_cases c : min (n_pos S a) (n_pos S b) = p
    · rw [hq0 a b k.1 k.2.1 (arc_ne hn k.1 k.2.1 k.2.2.1) c] at hq
      cases hq
    · have := k.2.2.2
      omega
  · rw [k4]
    refine cn2_congr (n_R S) fun a b ha hb => ?_
    unfold chP
    by_cases harc : n_arc S a b = true
    · by_cases c : min (n_pos S a) (n_pos S b) = p
      · rw [hPf a b c, heq a b ha hb harc c]
        simp
      · congr 2
        refine bdec (PP_iff (p := p)) (PP_iff.trans ?_)
        omega
    · rw [Bool.eq_false_iff.mpr harc]
      simp
theorem OI.step (hg : RCg S w0) (hn : NtOK S) (hs : SpI S (s1 S) w0) (hA : ArcsS S so ol) (hol : ∀ a b, ol a b ≤ 536870912) {fu : Nat} (hf : 64 < fu) (hp : p < n_R S) {s : Nat × WS} (h : OI S so ol w0 p s) : ∃ s', bd_X0_settle_4 fu (nI s.1) (nI p) s.2 = some (.inl (nI s'.1, nI (p + 1), s'.2)) ∧ OI S so ol w0 (p + 1) s' := by
  have hR := hn.2.1
  have hx : n_ord S p < n_R S := ctO_lt hp
  have hxp : n_pos S (n_ord S p) = p := n_pos_ord hp
  have hgs := hg.frS h.1
  have go : ∃ s' : Nat × WS, (nm (nI p + 1) fun x4 => bn2 (iter (fun q => bd_X0_settle_49 fu (nI p) (nI (n_ord S p)) q.1 q.2.1 q.2.2) fu (nI s.1, x4, s.2)) fun x5 w6 => ck (vp_in (nI (n_ord S p)) 64) <| nm (wL w6 22 (n_ord S p) 0) fun w8 => ck (vp_in (nI (n_ord S p)) 64) <| nm (wL w8 23 (n_ord S p) 0) fun w9 => nm (nI p + 1) fun x10 => some (.inl (x5, x10, w9)) : Option ((Int32 × Int32 × WS) ⊕ (Int32 × WS))) = some (.inl (nI s'.1, nI (p + 1), s'.2)) ∧ OI S so ol w0 (p + 1) s' := by
    obtain ⟨r, e, c, ec, f, Q, ln, k1, k2, k3, k4⟩ := highLoop hg hn hs hA hol hf hp (nI p) s h
    have fr : FrS (wL (wL r.2 22 (n_ord S p) 0) 23 (n_ord S p) 0) w0 := FrS.trans (v := r.2) ⟨fun _ _ => rfl, fun c h22 h23 => by rw [wL_n h23, wL_n h22]⟩ f
    refine ⟨(c, wL (wL r.2 22 (n_ord S p) 0) 23 (n_ord S p) 0), ?_, fr, cl23 S p (cl22 S p Q), ln, (k1.clear22 hp).clear23 hp, k2.same rfl, ?_, k4⟩
    · rw [nm_e1, nI_1, e, bn2_s, ck_t (in64 (by omega)), nm_e1, ck_t (in64 (by omega)), nm_e1, nm_e1, ec]
    · have k := k3.less (Q2 := cl23 S p (cl22 S p Q)) (fun a b hh => (cl22_iff.mp (cl23_iff.mp hh).1).1) (fun a b ha hb harc hP hq => by
        apply Bool.eq_false_iff.mpr
        intro hq1
        have hm : ¬ min (n_pos S a) (n_pos S b) < p + 1 := fun hh => by
          rw [PP_iff.mpr hh] at hP
          cases hP
        rw [cl23_iff.mpr ⟨cl22_iff.mpr ⟨hq1, fun hh => by omega⟩, fun hh => by omega⟩] at hq
        cases hq)
      refine ⟨k.1, k.2.1, k.2.2.1, fun a b hh => ?_⟩
      have h0 := cl23_iff.mp hh
      have h1 := cl22_iff.mp h0.1
      have h2 := k3.2.2.2 a b h1.1
      have hne := pos_ne hn h2.1 h2.2.1 (arc_ne hn h2.1 h2.2.1 h2.2.2.1)
      refine ⟨h2.1, h2.2.1, h2.2.2.1, ?_⟩
      have h3 := h2.2.2.2
      by_cases c1 : n_pos S a = p
      · exact absurd ⟨c1, by omega⟩ h1.2
      · by_cases c2 : n_pos S b = p
        · exact absurd ⟨c2, by omega⟩ h0.2
        · omega
  unfold bd_X0_settle_4
  rw [nm_e1, hgs.1, if_neg (nI_ge hp (by omega)), ck_t (in64 (by omega)), nm_e1, cl64 (by omega), hgs.2.2.1 p hp, ck_t (in64 (by omega)), nm_e1, cl64 (by omega)]
  by_cases z1 : lg_cmp (s.2.2 22 (n_ord S p)) 0 = 0
  · rw [if_pos z1, ck_t (in64 (by omega)), nm_e1]
    by_cases z2 : lg_cmp (s.2.2 23 (n_ord S p)) 0 = 0
    · rw [if_pos z2, nm_e1, nI_1]
      exact ⟨s, rfl, h.none hn hA hp ((lg_cmp_eq _ _).mp z1) ((lg_cmp_eq _ _).mp z2)⟩
    · rw [if_neg z2]
      exact go
  · rw [if_neg z1]
    exact go
theorem settle_ok (hg : RCg S w0) (hn : NtOK S) (hs : SpI S (s1 S) w0) (hA : ArcsS S so ol) (hol : ∀ a b, ol a b ≤ 536870912) {Q : Nat → Nat → Bool} (hq : StI S Q w0) (hl : LnI S ol w0) (h4 : ∀ a b, Q a b = true → a < n_R S ∧ b < n_R S ∧ n_arc S a b = true) (h3 : ∀ a b, a < n_R S → b < n_R S → n_arc S a b = true → Q a b = false → s1 S a b = so a b) {fu : Nat} (hf : 64 < fu) : ∃ w', f_X0_settle fu w0 = some (nI (cn2 (chL S ol) (n_R S) (n_R S)), w') ∧ FrS w' w0 ∧ StI S (fun _ _ => false) w' ∧ LnI S (n_L S) w' := by
  have hR := hn.2.1
  have key : ∃ r : Int32 × WS, iter (fun q : Int32 × Int32 × WS => bd_X0_settle_4 fu q.1 q.2.1 q.2.2) fu ((0 : Int32), (0 : Int32), w0) = some r ∧ r.1 = nI (cn2 (chL S ol) (n_R S) (n_R S)) ∧ FrS r.2 w0 ∧ StI S (fun _ _ => false) r.2 ∧ LnI S (n_L S) r.2 := by
    refine iter_for0 (fun k (s : Nat × WS) => (nI s.1, nI k, s.2)) (n_R S) (fun p s => OI S so ol w0 p s) (fun (r : Int32 × WS) => r.1 = nI (cn2 (chL S ol) (n_R S) (n_R S)) ∧ FrS r.2 w0 ∧ StI S (fun _ _ => false) r.2 ∧ LnI S (n_L S) r.2) ?_ ?_ (by omega) (0, w0) ?_
    · intro p s hp hI
      exact hI.step hg hn hs hA hol hf hp
    · intro s ⟨f, Q, ln, k1, k2, k3, k4⟩
      have hPP : ∀ a b, a < n_R S → b < n_R S → PP S (n_R S) a b = true := fun a b ha hb => decide_eq_true (by have := n_pos_lt ha; omega)
      refine ⟨(nI s.1, s.2), ?_, ?_, f, k1.congr fun a b ha hb => ?_, fun a b ha hb harc => ?_⟩
      · show bd_X0_settle_4 fu (nI s.1) (nI (n_R S)) s.2 = _
        unfold bd_X0_settle_4
        rw [nm_e1, (hg.frS f).1, if_pos (nI_le (Nat.le_refl _) (by omega))]
      · show nI s.1 = _
        rw [k4]
        congr 1
        refine cn2_congr (n_R S) fun a b ha hb => ?_
        unfold chP chL
        rw [hPP a b ha hb, Bool.and_true]
      · symm
        apply Bool.eq_false_iff.mpr
        intro hh
        have := (k3.2.2.2 a b hh).2.2.2
        have := n_pos_lt ha
        omega
      · rw [← k3.1 a b ha hb harc (hPP a b ha hb)]
        exact k2 a b ha hb harc
    · have hP0 : ∀ a b, PP S 0 a b = false := fun a b => decide_eq_false (Nat.not_lt_zero _)
      refine ⟨FrS.rf _, Q, ol, hq, hl, ⟨fun a b _ _ _ hp => ?_, fun _ _ _ _ _ _ => rfl, fun a b ha hb harc _ hqf => ⟨h3 a b ha hb harc hqf, fun x _ => ⟨fun hp => ?_, fun hp => ?_⟩⟩, fun a b hh => ?_⟩, ?_⟩
      · rw [hP0] at hp; cases hp
      · rw [hP0] at hp; cases hp
      · rw [hP0] at hp; cases hp
      · have := h4 a b hh
        exact ⟨this.1, this.2.1, this.2.2, Nat.zero_le _⟩
      · have : ∀ m, cn2 (chP S ol (PP S 0)) (n_R S) m = 0 := fun m => by
          induction m with
          | zero => rfl
          | succ m ih =>
            show cn2 (chP S ol (PP S 0)) (n_R S) m + cn (chP S ol (PP S 0) m) (n_R S) = 0
            rw [ih, cn_f fun r _ => by unfold chP; rw [hP0]; simp]
        exact (this _).symm
  obtain ⟨r, e, r1, r2⟩ := key
  refine ⟨r.2, ?_, r2⟩
  unfold f_X0_settle
  rw [e]
  show some (r.1, r.2) = _
  rw [r1]
end SO
