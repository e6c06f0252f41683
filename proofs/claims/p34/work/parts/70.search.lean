/-! the class: searches -/
def bF (S : Nt) (a r : Nat) : Nat := if n_f S r = a ∧ n_o S r = true then 128 * n_w S r + 1 else 536870912
theorem bst_min {w : Nat → Nat} {q : Nat → Bool} : ∀ {k b : Nat}, bst w q k = some b → ∀ r, r < k → q r = true → w b ≤ w r
  | 0, b, h, r, hr, _ => absurd hr (Nat.not_lt_zero r)
  | k + 1, b, h, r, hr, hq => by
    cases hb : bst w q k with
    | none =>
      have hn := bst_none hb
      by_cases e : r = k
      · subst e
        rw [bst_sN hb hq] at h
        cases h
        exact Nat.le_refl _
      · have := hn r (by omega)
        rw [hq] at this
        cases this
    | some b1 =>
      by_cases c : q k = true ∧ w k < w b1
      · rw [bst_sL hb c.1 c.2] at h
        cases h
        by_cases e : r = k
        · rw [e]; exact Nat.le_refl _
        · have := bst_min hb r (by omega) hq
          omega
      · by_cases c2 : q k = true
        · rw [bst_sG hb (fun h2 => c ⟨c2, h2⟩)] at h
          cases h
          by_cases e : r = k
          · rw [e]
            exact Nat.le_of_not_lt (fun h2 => c ⟨c2, h2⟩)
          · exact bst_min hb r (by omega) hq
        · rw [bst_sF (Bool.eq_false_iff.mpr c2), hb] at h
          cases h
          by_cases e : r = k
          · rw [e] at hq; exact absurd hq c2
          · exact bst_min hb r (by omega) hq
section SE
variable {S : Nt} {w : WS} {R : Nat → Nat} {g : Nat}
/-- the least length by goal -/
def JB (S : Nt) (Y : Nat → Nat) (k j m : Nat) : Prop := m ≤ 536870912 ∧ (∀ t, t < k → n_t S t = j → m ≤ Y t) ∧ (m = 536870912 ∨ ∃ t, t < n_R S ∧ n_t S t = j ∧ m = Y t)
/-- lengths are gathered by goal -/
theorem gather_ok (h : RCn S w) (hn : NtOK S) (hr : RowI S R w) {fu : Nat} (hf : 64 < fu) : ∃ w', iter (fun q : Int32 × WS => bd_X3_spreadToJunctions_22 fu q.1 q.2) fu ((0 : Int32), wF w 17 (fillF 32 536870912 (w.1 17))) = some w' ∧ FrQ w' w ∧ RowI S R w' ∧ ∀ j, j < 32 → ∃ m, w'.1 17 j = nI m ∧ JB S R (n_R S) j m := by
  have hR := hn.2.1
  have hJ := hn.1
  have f0 : FrQ (wF w 17 (fillF 32 536870912 (w.1 17))) w := ⟨fun c hc => wF_n hc.2, rfl⟩
  have r0 : RowI S R (wF w 17 (fillF 32 536870912 (w.1 17))) := fun r h2 => by rw [wF_n (show (5 : Nat) ≠ 17 by decide)]; exact hr r h2
  refine iter_for0 (fun k (s : WS) => (nI k, s)) (n_R S) (fun k s => FrQ s w ∧ RowI S R s ∧ ∀ j, j < 32 → ∃ m, s.1 17 j = nI m ∧ JB S R k j m) (fun (w' : WS) => FrQ w' w ∧ RowI S R w' ∧ ∀ j, j < 32 → ∃ m, w'.1 17 j = nI m ∧ JB S R (n_R S) j m) ?_ ?_ (by omega) _ ⟨f0, r0, fun j hj => ⟨536870912, by rw [wF_s, fill_at hj]; rfl, Nat.le_refl _, fun t ht => absurd ht (Nat.not_lt_zero t), Or.inl rfl⟩⟩
  · intro k s hk ⟨i1, i2, i3⟩
    have hs := h.frQ i1
    have hb := hn.2.2.1 k hk
    have hg : n_t S k < 32 := by omega
    have hrk := i2 k hk
    obtain ⟨m0, e0, m1, m2, m3⟩ := i3 (n_t S k) hg
    refine ⟨wI s 17 (n_t S k) (nI (min m0 (R k))), ?_, (FrQ.i17 s _ _).trans i1, fun r h2 => by rw [wI_n (show (5 : Nat) ≠ 17 by decide)]; exact i2 r h2, fun j hj => ?_⟩
    · show bd_X3_spreadToJunctions_22 fu (nI k) s = _
      unfold bd_X3_spreadToJunctions_22
      rw [nm_e1, hs.2.1, if_neg (nI_ge hk (by omega)), ck_t (in64 (by omega)), nm_e1, cl64 (by omega), (hs.2.2.1 k hk).2.1, ck_t (vp_in_nI hg (by decide)), nm_e1, nI_clamp (by omega), ck_t (in64 (by omega)), nm_e1, ck_t (vp_in_nI hg (by decide)), nm_e1, nm_e1, e0, hrk.1, min_nI (by omega) (by omega), nI_1]
    · rw [wI_at]
      by_cases e : j = n_t S k
      · rw [if_pos ⟨rfl, e⟩, e]
        refine ⟨_, rfl, by omega, fun t ht he => ?_, ?_⟩
        · by_cases e2 : t = k
          · rw [e2]; exact Nat.min_le_right _ _
          · exact Nat.le_trans (Nat.min_le_left _ _) (m2 t (by omega) he)
        · by_cases c : R k < m0
          · rw [Nat.min_eq_right (by omega)]
            exact Or.inr ⟨k, hk, rfl, rfl⟩
          · rw [Nat.min_eq_left (by omega)]
            exact m3
      · rw [if_neg (fun hh => e hh.2)]
        obtain ⟨m, em, q1, q2, q3⟩ := i3 j hj
        refine ⟨m, em, q1, fun t ht he => q2 t ?_ he, q3⟩
        have : t ≠ k := fun e2 => e (by rw [← he, e2])
        omega
  · intro s ⟨i1, i2, i3⟩
    refine ⟨s, ?_, i1, i2, i3⟩
    show bd_X3_spreadToJunctions_22 fu (nI (n_R S)) s = _
    unfold bd_X3_spreadToJunctions_22
    rw [nm_e1, (h.frQ i1).2.1, if_pos (nI_le (Nat.le_refl _) (by omega))]
theorem spreadTo_ok (h : RCn S w) (hp : RCp S w) (hn : NtOK S) {base : Nat → Nat} (hr : RowI S base w) {fu : Nat} (hf : 64 < fu) : ∃ w' Y, f_X3_spreadToJunctions fu w = some w' ∧ FrQ w' w ∧ RowI S Y w' ∧ Bell 536870912 (n_R S) (fun a b => s1 S b a) base Y ∧ ∀ j, j < 32 → ∃ m, w'.1 17 j = nI m ∧ JB S Y (n_R S) j m := by
  obtain ⟨w1, Y, e, f, r, hB⟩ := forward_ok hp.1 hn hp.2.2.1 hr hf
  obtain ⟨w', e2, f2, r2, hJ⟩ := gather_ok (h.frQ f) hn r hf
  refine ⟨w', Y, ?_, f2.trans f, r2, hB, hJ⟩
  unfold f_X3_spreadToJunctions
  rw [e, bn_e, nm_e1, e2, bn_e]
theorem RCp.frQ (h : RCp S w) {u : WS} (f : FrQ u w) : RCp S u := by
  refine ⟨h.1.frQ f, ?_, h.2.2.1.same (f.1 20 (by decide)), ?_⟩
  · unfold SpI
    rw [f.1 21 (by decide)]
    exact h.2.1
  · rw [f.1 2 (by decide)]
    exact h.2.2.2
/-- forwards and backwards: the least over the goals is the least over the starts -/
theorem least_dual (hn : NtOK S) (hg : g < 2 ^ 31) {bB Y : Nat → Nat} {m : Nat} (hY : Bell 536870912 (n_R S) (fun a b => s1 S b a) bB Y) (hbI : ∀ r, r < n_R S → bB r ≤ 536870912) (hcl : ∀ r, r < n_R S → n_o S r = false → bB r = 536870912) (hm : m ≤ 536870912) (h1 : ∀ t, t < n_R S → n_t S t = g → m ≤ Y t) (h2 : m = 536870912 ∨ ∃ t, t < n_R S ∧ n_t S t = g ∧ m = Y t) : (∀ r, r < n_R S → m ≤ ta 536870912 (bB r) (n_Z S g r)) ∧ ∀ m', m' ≤ 536870912 → (∀ r, r < n_R S → m' ≤ ta 536870912 (bB r) (n_Z S g r)) → m' ≤ m := by
  have hZ := (Z_ok hn hg).1
  have dual := fun m' (h : m' ≤ 536870912) => Bell.dual (s := s1 S) (s1_pos hn) hbI (fun r _ => goalB_le g r) hY hZ h
  have hc : ∀ r, r < n_R S → n_o S r = false → 536870912 ≤ Y r := fun r hr ho => by
    rcases hY.2.2 r hr with e | ⟨b, hb, e⟩
    · rw [e, hcl r hr ho]; exact Nat.le_refl _
    · have e : ta 536870912 (s1 S b r) (Y b) ≤ Y r := e
      have hc : c2 S b r = 1000000000000 := if_neg (fun hh => by rw [ho] at hh; exact absurd hh.2.2.2.1 (by decide))
      have hs : s1 S b r = 536870912 := if_neg (by omega)
      rw [hs] at e
      unfold ta at e
      omega
  constructor
  · refine (dual m hm).mpr fun r hr => ?_
    unfold goalB
    by_cases c : n_o S r = true ∧ n_t S r = g
    · rw [if_pos c]
      have := h1 r hr c.2
      unfold ta
      omega
    · rw [if_neg c]
      unfold ta
      omega
  · intro m' hm' hh
    have k := (dual m' hm').mp hh
    rcases h2 with e | ⟨t, ht, hg2, e⟩
    · omega
    · rw [e]
      by_cases ho : n_o S t = true
      · have := k t ht
        have e2 : goalB S g t = 0 := if_pos ⟨ho, hg2⟩
        rw [e2] at this
        unfold ta at this
        omega
      · have := hc t ht (Bool.eq_false_iff.mpr ho)
        omega
theorem least_start (hn : NtOK S) (hg : g < 2 ^ 31) {a m : Nat} (hm : m ≤ 536870912) (h1 : ∀ r, r < n_R S → m ≤ ta 536870912 (bF S a r) (n_Z S g r)) (h2 : ∀ m', m' ≤ 536870912 → (∀ r, r < n_R S → m' ≤ ta 536870912 (bF S a r) (n_Z S g r)) → m' ≤ m) : cI m = oI ((n_fst S a g).map (fun r => (128 * n_w S r + 1 + n_Z S g r) / 128)) := by
  have hz := (Z_ok hn hg).2
  have fin : ∀ r, r < n_R S → n_Z S g r < 536870912 → 128 * n_w S r + 1 + n_Z S g r < 536870912 := fun r hr hl => by
    have := (hz r hr hl).1
    have := (hn.2.2.1 r hr).2.2.2
    omega
  cases hb : n_fst S a g with
  | none =>
    have hno := bst_none hb
    have k := h2 536870912 (Nat.le_refl _) (fun r hr => by
      have q := hno r hr
      unfold bF
      by_cases c : n_f S r = a ∧ n_o S r = true
      · rw [if_pos c]
        have : ¬ n_Z S g r < 536870912 := fun hl => by
          simp [c.1, c.2, hl] at q
        unfold ta
        omega
      · rw [if_neg c]
        unfold ta
        omega)
    have e : m = 536870912 := by omega
    rw [e]
    rfl
  | some b =>
    have hbo := fst_ok hb
    have hmin := bst_min hb
    have k := h2 (128 * n_w S b + 1 + n_Z S g b) (by have := fin b hbo.1 hbo.2.2.2; omega) (fun r hr => by
      have := fin b hbo.1 hbo.2.2.2
      unfold bF
      by_cases c : n_f S r = a ∧ n_o S r = true
      · rw [if_pos c]
        by_cases hl : n_Z S g r < 536870912
        · have k := hmin r hr (by simp [c.1, c.2, hl])
          unfold ta
          omega
        · unfold ta
          omega
      · rw [if_neg c]
        unfold ta
        omega)
    have k2 := h1 b hbo.1
    have e : bF S a b = 128 * n_w S b + 1 := if_pos ⟨hbo.2.1, hbo.2.2.1⟩
    rw [e] at k2
    have hf := fin b hbo.1 hbo.2.2.2
    have e : m = 128 * n_w S b + 1 + n_Z S g b := by
      unfold ta at k2
      omega
    rw [e]
    exact if_pos hf
def stR (S : Nt) (X : Int64) (k : Nat) : Nat → Nat := fun r => if r < k ∧ bL X r = true then 128 * n_w S r + 1 else 536870912
theorem fillRow (w : WS) : FrQ (wF w 5 (fillF 64 536870912 (w.1 5))) w ∧ ∀ r, r < 64 → (wF w 5 (fillF 64 536870912 (w.1 5))).1 5 r = 536870912 := ⟨⟨fun c hc => wF_n hc.1, rfl⟩, fun r hr => by rw [wF_s, fill_at hr]⟩
theorem bF_le (hn : NtOK S) {a r : Nat} (hr : r < n_R S) : bF S a r ≤ 536870912 := by
  have := (hn.2.2.1 r hr).2.2.2
  unfold bF
  split <;> omega
/-- what a search from a leaves: the costs by goal -/
def JR (S : Nt) (a : Nat) (w : WS) : Prop := ∀ g, g < n_J S → ∃ m, m ≤ 536870912 ∧ w.1 17 g = nI m ∧ cI m = oI (n_c S a g)
theorem JR.same {a : Nat} {u : WS} (h : JR S a w) (e : u.1 17 = w.1 17) : JR S a u := by
  unfold JR
  rw [e]
  exact h
theorem searchFrom_ok (h : RCn S w) (hp : RCp S w) (hn : NtOK S) {fu : Nat} (hf : 64 < fu) {a : Nat} (ha : a < n_J S) : ∃ w', f_X3_searchFrom fu w (nI a) = some w' ∧ FrQ w' w ∧ JR S a w' := by
  have hR := hn.2.1
  have hJ := hn.1
  have fr := fillRow w
  have bits : ∀ r, r < 64 → (bL (w.2 13 a &&& w.2 1 8) r = true ↔ r < n_R S ∧ n_f S r = a ∧ n_o S r = true) := fun r hr => by
    rw [bL_and, h.2.2.2.2.1 a r (by omega) hr, h.2.2.2.2.2.2.1 r hr]
    simp only [Bool.and_eq_true, decide_eq_true_eq, beq_iff_eq]
    exact ⟨fun h => ⟨h.1.1, h.1.2, h.2.2⟩, fun h => ⟨⟨h.1, h.2.1⟩, h.1, h.2.2⟩⟩
  have l1 : ∃ w1, iter (fun q : Int32 × WS => bd_X3_searchFrom_30 fu (nI a) (w.2 13 a &&& w.2 1 8) q.1 q.2) fu ((0 : Int32), wF w 5 (fillF 64 536870912 (w.1 5))) = some w1 ∧ FrQ w1 w ∧ RowI S (stR S (w.2 13 a &&& w.2 1 8) (n_R S)) w1 := by
    refine iter_for0 (fun k (s : WS) => (nI k, s)) (n_R S) (fun k s => FrQ s w ∧ RowI S (stR S (w.2 13 a &&& w.2 1 8) k) s) (fun (w1 : WS) => FrQ w1 w ∧ RowI S (stR S (w.2 13 a &&& w.2 1 8) (n_R S)) w1) ?_ ?_ (by omega) _ ⟨fr.1, fun r hr => ?_⟩
    · intro k s hk ⟨i1, i2⟩
      have hs := h.frQ i1
      have hw := (hn.2.2.1 k hk).2.2.2
      show ∃ s', bd_X3_searchFrom_30 fu (nI a) (w.2 13 a &&& w.2 1 8) (nI k) s = some (.inl (nI (k + 1), s')) ∧ _
      unfold bd_X3_searchFrom_30
      rw [nm_e1, hs.2.1, if_neg (nI_ge hk (by omega)), has_ok fu _ (show k < 64 by omega), bn_e, if_zo]
      by_cases hbit : bL (w.2 13 a &&& w.2 1 8) k = true
      · rw [if_pos hbit, road_ok hs hn fu hk, bn_e, ck_t (in64 (by omega)), nm_e1, cl64 (by omega), nm_e1, nI_1]
        refine ⟨wI s 5 k (nI (128 * n_w S k + 1)), rfl, (FrQ.i5 s _ _).trans i1, fun r hr => ?_⟩
        rw [wI_at]
        unfold stR
        by_cases e : r = k
        · rw [if_pos ⟨rfl, e⟩, if_pos ⟨by omega, by rw [e]; exact hbit⟩, e]
          exact ⟨rfl, by omega⟩
        · rw [if_neg (fun hh => e hh.2)]
          have k2 := i2 r hr
          unfold stR at k2
          by_cases c : r < k ∧ bL (w.2 13 a &&& w.2 1 8) r = true
          · rw [if_pos c] at k2
            rw [if_pos ⟨by omega, c.2⟩]
            exact k2
          · rw [if_neg c] at k2
            rw [if_neg (fun hh => c ⟨by omega, hh.2⟩)]
            exact k2
      · rw [if_neg hbit, nm_e1, nI_1]
        refine ⟨s, rfl, i1, i2.congr fun r hr => ?_⟩
        unfold stR
        by_cases c : r < k ∧ bL (w.2 13 a &&& w.2 1 8) r = true
        · rw [if_pos c, if_pos ⟨by omega, c.2⟩]
        · rw [if_neg c, if_neg (fun hh => c ⟨by
            have : r ≠ k := fun e => hbit (by rw [← e]; exact hh.2)
            omega, hh.2⟩)]
    · intro s hI
      refine ⟨s, ?_, hI⟩
      show bd_X3_searchFrom_30 fu (nI a) _ (nI (n_R S)) s = _
      unfold bd_X3_searchFrom_30
      rw [nm_e1, (h.frQ hI.1).2.1, if_pos (nI_le (Nat.le_refl _) (by omega))]
    · unfold stR
      rw [if_neg (by omega), fr.2 r (by omega)]
      exact ⟨rfl, Nat.le_refl _⟩
  obtain ⟨w1, e1, f1, r1⟩ := l1
  obtain ⟨w2, Y, e2, f2, r2, hB, hJB⟩ := spreadTo_ok (h.frQ f1) (hp.frQ f1) hn (r1.congr (R2 := bF S a) fun r hr => by
    unfold bF stR
    by_cases c : n_f S r = a ∧ n_o S r = true
    · rw [if_pos c, if_pos ⟨hr, (bits r (by omega)).mpr ⟨hr, c⟩⟩]
    · rw [if_neg c, if_neg (fun hh => c ((bits r (by omega)).mp hh.2).2)]) hf
  refine ⟨wI w2 17 a 0, ?_, (FrQ.i17 w2 a 0).trans (f2.trans f1), fun g hg => ?_⟩
  · unfold f_X3_searchFrom
    rw [nm_e1, ck_t (vp_in_nI (by omega) (by decide)), nm_e1, nI_clamp (by omega), nm_e1, nm_e1]
    show bn (iter (fun q : Int32 × WS => bd_X3_searchFrom_30 fu (nI a) (w.2 13 a &&& w.2 1 8) q.1 q.2) fu ((0 : Int32), wF w 5 (fillF 64 536870912 (w.1 5)))) _ = _
    rw [e1, bn_e, e2, bn_e, ck_t (vp_in_nI (by omega) (by decide)), nm_e1]
  · rw [wI_at]
    by_cases e : g = a
    · rw [if_pos ⟨rfl, e⟩]
      refine ⟨0, by omega, nI_0.symm, ?_⟩
      unfold n_c
      rw [if_pos e.symm]
      rfl
    · rw [if_neg (fun hh => e hh.2)]
      obtain ⟨m, em, m1, m2, m3⟩ := hJB g (by omega)
      have ld := least_dual hn (show g < 2 ^ 31 by omega) hB (fun r hr => bF_le hn hr) (fun r hr ho => by
        unfold bF
        rw [if_neg (fun hh => by rw [ho] at hh; exact absurd hh.2 (by decide))]) m1 m2 m3
      refine ⟨m, m1, em, ?_⟩
      unfold n_c
      rw [if_neg (fun h => e h.symm), least_start hn (by omega) m1 ld.1 ld.2]
theorem found_ok (hn : NtOK S) (fu : Nat) {a : Nat} (hg : g < n_J S) (hJ : JR S a w) : f_X3_foundCost fu w (nI g) = some (oI (n_c S a g)) := by
  have := hn.1
  obtain ⟨m, m1, e, hc⟩ := hJ g hg
  unfold f_X3_foundCost
  rw [ck_t (vp_in_nI (by omega) (by decide)), nm_e1, nI_clamp (by omega), e, costOf_ok fu (by omega), bn_e, hc]
theorem costBetween_ok (h : RCn S w) (hp : RCp S w) (hn : NtOK S) {fu : Nat} (hf : 64 < fu) {a : Nat} (ha : a < n_J S) (hg : g < n_J S) : ∃ w', f_X3_costBetween fu w (nI a) (nI g) = some (oI (n_c S a g), w') ∧ FrQ w' w := by
  obtain ⟨w', e, f, hJ⟩ := searchFrom_ok h hp hn hf ha
  refine ⟨w', ?_, f⟩
  unfold f_X3_costBetween
  rw [e, bn_e, found_ok hn fu hg hJ, bn_e]
/-- behind a road: the sweep from this road alone -/
theorem behind_ok (h : RCn S w) (hp : RCp S w) (hn : NtOK S) {fu : Nat} (hf : 64 < fu) {x : Nat} (hx : x < n_R S) (hg : g < n_J S) {u : WS} (fu0 : FrQ u w) (hu : RowI S (fun r => if r = x ∧ n_o S x = true then 0 else 536870912) u) : ∃ w', f_X3_spreadToJunctions fu u = some w' ∧ FrQ w' w ∧ f_X3_foundCost fu w' (nI g) = some (cI (n_Z S g x)) := by
  have hR := hn.2.1
  have hJ := hn.1
  obtain ⟨w', Y, e, f, r, hB, hJB⟩ := spreadTo_ok (h.frQ fu0) (hp.frQ fu0) hn hu hf
  obtain ⟨m, em, m1, m2, m3⟩ := hJB g (by omega)
  have ld := least_dual hn (show g < 2 ^ 31 by omega) hB (fun r hr => (hu r hr).2) (fun r hr ho => by
    show (if r = x ∧ n_o S x = true then 0 else 536870912) = 536870912
    rw [if_neg (fun hh => by rw [← hh.1, ho] at hh; exact absurd hh.2 (by decide))]) m1 m2 m3
  have hZ := Z_ok hn (show g < 2 ^ 31 by omega)
  have hZI : n_Z S g x ≤ 536870912 := Nat.le_trans (hZ.1.1 x hx) (goalB_le g x)
  have hzero : n_o S x = true ∨ n_Z S g x = 536870912 := by
    by_cases hl : n_Z S g x < 536870912
    · exact Or.inl (hZ.2 x hx hl).2.2
    · exact Or.inr (by omega)
  have hm : m = n_Z S g x := by
    apply Nat.le_antisymm
    · have k : m ≤ ta 536870912 (if x = x ∧ n_o S x = true then 0 else 536870912) (n_Z S g x) := ld.1 x hx
      rcases hzero with ho | hz
      · rw [if_pos ⟨rfl, ho⟩] at k
        unfold ta at k
        omega
      · omega
    · refine ld.2 _ hZI fun r hr => ?_
      show n_Z S g x ≤ ta 536870912 (if r = x ∧ n_o S x = true then 0 else 536870912) (n_Z S g r)
      by_cases c : r = x ∧ n_o S x = true
      · rw [if_pos c, c.1]
        unfold ta
        omega
      · rw [if_neg c]
        unfold ta
        omega
  refine ⟨w', e, f.trans fu0, ?_⟩
  unfold f_X3_foundCost
  rw [ck_t (vp_in_nI (by omega) (by decide)), nm_e1, nI_clamp (by omega), em, costOf_ok fu (by omega), bn_e, hm]
end SE
