/-! the class: the best path -/
def goR (X : Int64) (k : Nat) : Nat → Nat := fun r => if r < k ∧ bL X r = true then 0 else 536870912
section RO
variable {S : Nt} {w : WS} {g : Nat}
theorem searchTo_ok (h : RCn S w) (hp : RCp S w) (hn : NtOK S) {fu : Nat} (hf : 64 < fu) (hg : g < n_J S) : ∃ w', f_X3_searchTo fu w (nI g) = some w' ∧ FrQ w' w ∧ RowI S (n_Z S g) w' := by
  have hR := hn.2.1
  have hJ := hn.1
  have fr := fillRow w
  have bits : ∀ r, r < 64 → (bL (w.2 14 g &&& w.2 1 8) r = true ↔ r < n_R S ∧ n_t S r = g ∧ n_o S r = true) := fun r hr => by
    rw [bL_and, h.2.2.2.2.2.1 g r (by omega) hr, h.2.2.2.2.2.2.1 r hr]
    simp only [Bool.and_eq_true, decide_eq_true_eq, beq_iff_eq]
    exact ⟨fun h => ⟨h.1.1, h.1.2, h.2.2⟩, fun h => ⟨⟨h.1, h.2.1⟩, h.1, h.2.2⟩⟩
  have l1 : ∃ w1, iter (fun q : Int32 × WS => bd_X3_searchTo_30 fu (w.2 14 g &&& w.2 1 8) q.1 q.2) fu ((0 : Int32), wF w 5 (fillF 64 536870912 (w.1 5))) = some w1 ∧ FrQ w1 w ∧ RowI S (goR (w.2 14 g &&& w.2 1 8) (n_R S)) w1 := by
    refine iter_for0 (fun k (s : WS) => (nI k, s)) (n_R S) (fun k s => FrQ s w ∧ RowI S (goR (w.2 14 g &&& w.2 1 8) k) s) (fun (w1 : WS) => FrQ w1 w ∧ RowI S (goR (w.2 14 g &&& w.2 1 8) (n_R S)) w1) ?_ ?_ (by omega) _ ⟨fr.1, fun r hr => ?_⟩
    · intro k s hk ⟨i1, i2⟩
      show ∃ s', bd_X3_searchTo_30 fu (w.2 14 g &&& w.2 1 8) (nI k) s = some (.inl (nI (k + 1), s')) ∧ _
      unfold bd_X3_searchTo_30
      rw [nm_e1, (h.frQ i1).2.1, if_neg (nI_ge hk (by omega)), has_ok fu _ (show k < 64 by omega), bn_e, if_zo]
      by_cases hbit : bL (w.2 14 g &&& w.2 1 8) k = true
      · rw [if_pos hbit, ck_t (in64 (by omega)), nm_e1, cl64 (by omega), nm_e1, nI_1]
        refine ⟨wI s 5 k 0, rfl, (FrQ.i5 s _ _).trans i1, fun r hr => ?_⟩
        rw [wI_at]
        unfold goR
        by_cases e : r = k
        · rw [if_pos ⟨rfl, e⟩, if_pos ⟨by omega, by rw [e]; exact hbit⟩]
          exact ⟨nI_0.symm, by omega⟩
        · rw [if_neg (fun hh => e hh.2)]
          have k2 := i2 r hr
          unfold goR at k2
          by_cases c : r < k ∧ bL (w.2 14 g &&& w.2 1 8) r = true
          · rw [if_pos c] at k2
            rw [if_pos ⟨by omega, c.2⟩]
            exact k2
          · rw [if_neg c] at k2
            rw [if_neg (fun hh => c ⟨by omega, hh.2⟩)]
            exact k2
      · rw [if_neg hbit, nm_e1, nI_1]
        refine ⟨s, rfl, i1, i2.congr fun r hr => ?_⟩
        unfold goR
        by_cases c : r < k ∧ bL (w.2 14 g &&& w.2 1 8) r = true
        · rw [if_pos c, if_pos ⟨by omega, c.2⟩]
        · rw [if_neg c, if_neg (fun hh => c ⟨by
            have : r ≠ k := fun e => hbit (by rw [← e]; exact hh.2)
            omega, hh.2⟩)]
    · intro s hI
      refine ⟨s, ?_, hI⟩
      show bd_X3_searchTo_30 fu _ (nI (n_R S)) s = _
      unfold bd_X3_searchTo_30
      rw [nm_e1, (h.frQ hI.1).2.1, if_pos (nI_le (Nat.le_refl _) (by omega))]
    · unfold goR
      rw [if_neg (by omega), fr.2 r (by omega)]
      exact ⟨rfl, Nat.le_refl _⟩
  obtain ⟨w1, e1, f1, r1⟩ := l1
  obtain ⟨w', Z, e2, f2, r2, hB⟩ := backward_ok (hp.1.frQ f1) hn (hp.2.2.1.same (f1.1 20 (by decide))) (r1.congr (R2 := goalB S g) fun r hr => by
    unfold goalB goR
    by_cases c : n_o S r = true ∧ n_t S r = g
    · rw [if_pos c, if_pos ⟨hr, (bits r (by omega)).mpr ⟨hr, c.2, c.1⟩⟩]
    · rw [if_neg c, if_neg (fun hh => c ⟨((bits r (by omega)).mp hh.2).2.2, ((bits r (by omega)).mp hh.2).2.1⟩)]) hf
  refine ⟨w', ?_, f2.trans f1, r2.congr fun r hr => n_Z_eq hn hB r hr⟩
  unfold f_X3_searchTo
  rw [nm_e1, ck_t (vp_in_nI (by omega) (by decide)), nm_e1, nI_clamp (by omega), nm_e1, nm_e1]
  show bn (iter (fun q : Int32 × WS => bd_X3_searchTo_30 fu (w.2 14 g &&& w.2 1 8) q.1 q.2) fu ((0 : Int32), wF w 5 (fillF 64 536870912 (w.1 5)))) _ = _
  rw [e1, bn_e, e2, bn_e]
def bstL (w : Nat → Nat) (q : Nat → Bool) (k : Nat) : Int32 × Int32 := match bst w q k with
  | none => (-1, 536870912)
  | some b => (nI b, nI (w b))
theorem bestFirst_ok (h : RCn S w) (hn : NtOK S) {fu : Nat} (hf : 64 < fu) {a : Nat} (ha : a < n_J S) (hg : g < 2 ^ 31) (hr : RowI S (n_Z S g) w) : f_X3_bestFirstRoad fu w (nI a) = some (oI (n_fst S a g)) := by
  have hR := hn.2.1
  have hJ := hn.1
  have hz := (Z_ok hn hg).2
  have bits : ∀ r, r < 64 → (bL (w.2 13 a &&& w.2 1 8) r = true ↔ r < n_R S ∧ n_f S r = a ∧ n_o S r = true) := fun r hr => by
    rw [bL_and, h.2.2.2.2.1 a r (by omega) hr, h.2.2.2.2.2.2.1 r hr]
    simp only [Bool.and_eq_true, decide_eq_true_eq, beq_iff_eq]
    exact ⟨fun h => ⟨h.1.1, h.1.2, h.2.2⟩, fun h => ⟨⟨h.1, h.2.1⟩, h.1, h.2.2⟩⟩
  have key : ∃ r, iter (fun q : Int32 × Int32 × Int32 => bd_X3_bestFirstRoad_28 fu w (w.2 13 a &&& w.2 1 8) q.1 q.2.1 q.2.2) fu (((-1) : Int32), (536870912 : Int32), (0 : Int32)) = some r ∧ r = (bstL (fun r => 128 * n_w S r + 1 + n_Z S g r) (fun r => bL (w.2 13 a &&& w.2 1 8) r && decide (n_Z S g r < 536870912)) (n_R S)).1 := by
    refine iter_for0 (fun k (s : Int32 × Int32) => (s.1, s.2, nI k)) (n_R S) (fun k s => s = bstL (fun r => 128 * n_w S r + 1 + n_Z S g r) (fun r => bL (w.2 13 a &&& w.2 1 8) r && decide (n_Z S g r < 536870912)) k) (fun (r : Int32) => r = (bstL (fun r => 128 * n_w S r + 1 + n_Z S g r) (fun r => bL (w.2 13 a &&& w.2 1 8) r && decide (n_Z S g r < 536870912)) (n_R S)).1) ?_ ?_ (by omega) ((-1), 536870912) rfl
    · intro k s hk hI
      have hw := (hn.2.2.1 k hk).2.2.2
      have hrk := hr k hk
      refine ⟨bstL (fun r => 128 * n_w S r + 1 + n_Z S g r) (fun r => bL (w.2 13 a &&& w.2 1 8) r && decide (n_Z S g r < 536870912)) (k + 1), ?_, rfl⟩
      show bd_X3_bestFirstRoad_28 fu w _ s.1 s.2 (nI k) = _
      unfold bd_X3_bestFirstRoad_28
      rw [nm_e1, h.2.1, if_neg (nI_ge hk (by omega)), road_ok h hn fu hk, bn_e, ck_t (in64 (by omega)), nm_e1, cl64 (by omega), hrk.1, nI_add, nm_e1, has_ok fu _ (show k < 64 by omega), bn_e, if_zo]
      by_cases hbit : bL (w.2 13 a &&& w.2 1 8) k = true
      · rw [if_pos hbit]
        have hb := (bits k (by omega)).mp hbit
        unfold bstL at hI ⊢
        by_cases hl : n_Z S g k < 536870912
        · have hq : ((fun r => bL (w.2 13 a &&& w.2 1 8) r && decide (n_Z S g r < 536870912)) k) = true := by
            show (bL (w.2 13 a &&& w.2 1 8) k && decide (n_Z S g k < 536870912)) = true
            rw [hbit, decide_eq_true hl]
            rfl
          have hz2 := (hz k hb.1 hl).1
          cases hbs : bst (fun r => 128 * n_w S r + 1 + n_Z S g r) (fun r => bL (w.2 13 a &&& w.2 1 8) r && decide (n_Z S g r < 536870912)) k with
          | none =>
            rw [hbs] at hI
            rw [hI, bst_sN hbs hq]
            show (if (536870912 : Int32) ≤ nI (128 * n_w S k + 1 + n_Z S g k) then _ else _) = _
            rw [if_neg (show ¬ (536870912 : Int32) ≤ nI (128 * n_w S k + 1 + n_Z S g k) from nI_ge (b := 536870912) (by omega) (by decide)), nm_e1, nI_1]
          | some b =>
            rw [hbs] at hI
            have hbo := bst_ok hbs
            have hbq := hbo.2
            simp only [Bool.and_eq_true, decide_eq_true_eq] at hbq
            have hbb := (bits b (by omega)).mp hbq.1
            have hwb := (hn.2.2.1 b hbb.1).2.2.2
            have hzb := (hz b hbb.1 hbq.2).1
            rw [hI]
            show (if nI (128 * n_w S b + 1 + n_Z S g b) ≤ nI (128 * n_w S k + 1 + n_Z S g k) then _ else _) = _
            by_cases hlt : 128 * n_w S k + 1 + n_Z S g k < 128 * n_w S b + 1 + n_Z S g b
            · rw [if_neg (nI_ge hlt (by omega)), bst_sL hbs hq hlt, nm_e1, nI_1]
            · rw [if_pos (nI_le (by omega) (by omega)), bst_sG hbs hlt, nm_e1, nI_1]
        · have hq : ((fun r => bL (w.2 13 a &&& w.2 1 8) r && decide (n_Z S g r < 536870912)) k) = false := by
            show (bL (w.2 13 a &&& w.2 1 8) k && decide (n_Z S g k < 536870912)) = false
            rw [decide_eq_false hl, Bool.and_false]
          rw [bst_sF hq, ← hI]
          have hle : s.2 ≤ nI (128 * n_w S k + 1 + n_Z S g k) := by
            rw [hI]
            cases hbs : bst (fun r => 128 * n_w S r + 1 + n_Z S g r) (fun r => bL (w.2 13 a &&& w.2 1 8) r && decide (n_Z S g r < 536870912)) k with
            | none => exact nI_le (a := 536870912) (by omega) (by omega)
            | some b =>
              have hbo := bst_ok hbs
              have hbq := hbo.2
              simp only [Bool.and_eq_true, decide_eq_true_eq] at hbq
              have hbb := (bits b (by omega)).mp hbq.1
              have hwb := (hn.2.2.1 b hbb.1).2.2.2
              have hzb := (hz b hbb.1 hbq.2).1
              show nI (128 * n_w S b + 1 + n_Z S g b) ≤ nI (128 * n_w S k + 1 + n_Z S g k)
              exact nI_le (by omega) (by omega)
          rw [if_pos hle, nm_e1, nI_1]
      · have hq : ((fun r => bL (w.2 13 a &&& w.2 1 8) r && decide (n_Z S g r < 536870912)) k) = false := by
          show (bL (w.2 13 a &&& w.2 1 8) k && decide (n_Z S g k < 536870912)) = false
          rw [Bool.eq_false_iff.mpr hbit, Bool.false_and]
        rw [if_neg hbit, nm_e1, nI_1, hI]
        unfold bstL
        rw [bst_sF hq]
    · intro s hI
      refine ⟨s.1, ?_, by rw [hI]⟩
      show bd_X3_bestFirstRoad_28 fu w _ s.1 s.2 (nI (n_R S)) = _
      unfold bd_X3_bestFirstRoad_28
      rw [nm_e1, h.2.1, if_pos (nI_le (Nat.le_refl _) (by omega))]
  obtain ⟨r, e, rfl⟩ := key
  unfold f_X3_bestFirstRoad
  rw [ck_t (vp_in_nI (by omega) (by decide)), nm_e1, nI_clamp (by omega), nm_e1, nm_e1, e, bn_e]
  have eb : n_fst S a g = bst (fun r => 128 * n_w S r + 1 + n_Z S g r) (fun r => bL (w.2 13 a &&& w.2 1 8) r && decide (n_Z S g r < 536870912)) (n_R S) := by
    unfold n_fst
    refine bst_congr (n_R S) fun r hr => ⟨?_, fun _ => rfl⟩
    congr 1
    refine bdec (c := n_f S r = a ∧ n_o S r = true) (by simp) ?_
    rw [bits r (by omega)]
    exact ⟨fun h => h.2, fun h => ⟨hr, h⟩⟩
  rw [eb]
  unfold bstL
  cases bst (fun r => 128 * n_w S r + 1 + n_Z S g r) (fun r => bL (w.2 13 a &&& w.2 1 8) r && decide (n_Z S g r < 536870912)) (n_R S) <;> rfl
/-- one look at a follower -/
theorem nextBody (h : RCn S w) (hn : NtOK S) (fu : Nat) (hr : RowI S (n_Z S g) w) {r : Nat} (hrn : r < n_R S) {F : Int64} (bF : ∀ i, i < 64 → bL F i = (decide (i < n_R S) && n_fol S r i)) {k : Nat} (hk : k < n_R S) : bd_X3_bestNextRoad_12 fu w (nI r) F (nI k) = if nxP S g r k = true then some (.inr (.inl (nI k))) else some (.inl (nI (k + 1))) := by
  have hR := hn.2.1
  have hzr := hr r hrn
  have hsl := s1_le hn r k
  have hzk := hr k hk
  unfold bd_X3_bestNextRoad_12 nxP
  rw [nm_e1, h.2.1, if_neg (nI_ge hk (by omega)), has_ok fu F (show k < 64 by omega), bn_e, if_zo, bF k (by omega), decide_eq_true hk, Bool.true_and]
  by_cases hfol : n_fol S r k = true
  · rw [if_pos hfol, hfol, Bool.true_and, stepL_ok h hn fu hrn hk hfol, bn_e, ck_t (in64 (by omega)), nm_e1, cl64 (by omega), ck_t (in64 (by omega)), nm_e1, cl64 (by omega), hzk.1, hzr.1, nI_add, nm_e1, nI_1]
    by_cases c : s1 S r k + n_Z S g k = n_Z S g r
    · rw [if_pos (by rw [c]), if_pos (decide_eq_true c)]
    · rw [if_neg (fun e => c ((nI_eq (by omega) (by omega)).mp e)), if_neg (by rw [decide_eq_false c]; decide)]
  · rw [if_neg hfol, Bool.eq_false_iff.mpr hfol, Bool.false_and, if_neg (by decide), nm_e1, nI_1]
theorem bestNext_ok (h : RCn S w) (hn : NtOK S) {fu : Nat} (hf : 64 < fu) (hg : g < 2 ^ 31) (hr : RowI S (n_Z S g) w) {r : Nat} (hrn : r < n_R S) (hl : n_Z S g r < 536870912) (h0 : n_Z S g r ≠ 0) : f_X3_bestNextRoad fu w (nI r) = some (nI (n_nx S g r)) := by
  have hR := hn.2.1
  obtain ⟨x1, x2, x3, x4⟩ := nx_ok hn hg hrn hl h0
  obtain ⟨F, eF, bF⟩ := folSet h hn fu hrn
  have key : ∀ d k n, k + d = n_nx S g r → d < n → iter (fun q : Int32 => bd_X3_bestNextRoad_12 fu w (nI r) F q) n (nI k) = some (.inl (nI (n_nx S g r))) := by
    intro d
    induction d with
    | zero =>
      intro k n hk hn2
      obtain ⟨n, rfl⟩ : ∃ m, n = m + 1 := ⟨n - 1, by omega⟩
      have e : k = n_nx S g r := by omega
      subst e
      refine iter_inr ?_ n
      show bd_X3_bestNextRoad_12 fu w (nI r) F (nI (n_nx S g r)) = _
      rw [nextBody h hn fu hr hrn bF x1, if_pos]
      unfold nxP
      rw [decide_eq_true x1, x2, decide_eq_true x3]
      rfl
    | succ d ih =>
      intro k n hk hn2
      obtain ⟨n, rfl⟩ : ∃ m, n = m + 1 := ⟨n - 1, by omega⟩
      rw [iter_inl (y := nI (k + 1)) (by
        show bd_X3_bestNextRoad_12 fu w (nI r) F (nI k) = _
        rw [nextBody h hn fu hr hrn bF (by omega), x4 k (by omega), if_neg (by decide)])]
      exact ih (k + 1) n (by omega) (by omega)
  unfold f_X3_bestNextRoad
  rw [eF, bn_e]
  have k0 := key (n_nx S g r) 0 fu (by omega) (by omega)
  rw [nI_0] at k0
  rw [k0, bx_l]
/-- at the goal there is no next road -/
theorem bestNext_end (h : RCn S w) (hn : NtOK S) {fu : Nat} (hf : 64 < fu) (hr : RowI S (n_Z S g) w) {r : Nat} (hrn : r < n_R S) (h0 : n_Z S g r = 0) : f_X3_bestNextRoad fu w (nI r) = some (-1) := by
  have hR := hn.2.1
  obtain ⟨F, eF, bF⟩ := folSet h hn fu hrn
  have key : ∃ q : Int32 ⊕ Unit, iter (fun q : Int32 => bd_X3_bestNextRoad_12 fu w (nI r) F q) fu (0 : Int32) = some q ∧ q = .inr () := by
    refine iter_for0 (fun k (_ : Unit) => nI k) (n_R S) (fun _ _ => True) (fun (q : Int32 ⊕ Unit) => q = .inr ()) ?_ ?_ (by omega) () trivial
    · intro k _ hk _
      have hs := s1_pos hn r k
      refine ⟨(), ?_, trivial⟩
      show bd_X3_bestNextRoad_12 fu w (nI r) F (nI k) = _
      rw [nextBody h hn fu hr hrn bF hk, if_neg]
      unfold nxP
      rw [decide_eq_false (show ¬ s1 S r k + n_Z S g k = n_Z S g r by omega), Bool.and_false]
      decide
    · intro _ _
      refine ⟨.inr (), ?_, rfl⟩
      show bd_X3_bestNextRoad_12 fu w (nI r) F (nI (n_R S)) = _
      unfold bd_X3_bestNextRoad_12
      rw [nm_e1, h.2.1, if_pos (nI_le (Nat.le_refl _) (by omega))]
  obtain ⟨q, e, rfl⟩ := key
  unfold f_X3_bestNextRoad
  rw [eF, bn_e, e]
  rfl
/-- the path is written down -/
theorem writePath_ok (h : RCn S w) (hn : NtOK S) {fu : Nat} (hf : 64 < fu) (hg : g < 2 ^ 31) (hr : RowI S (n_Z S g) w) {r N : Nat} (hN : 1 ≤ N) (hN2 : N ≤ 64) (hP : PathOK S g r N) : ∃ w', f_X3_writePath fu w (nI r) = some (nI N, w') ∧ (∀ c, c ≠ 6 → w'.1 c = w.1 c) ∧ w'.2 = w.2 ∧ ∀ i, i < N → w'.1 6 i = nI (pq S g r i) := by
  have hR := hn.2.1
  have key : ∃ q : Int32 × WS, iter (fun q : Int32 × Int32 × WS => bd_X3_writePath_4 fu q.1 q.2.1 q.2.2) fu ((0 : Int32), nI r, w) = some q ∧ q.1 = nI N ∧ (∀ c, c ≠ 6 → q.2.1 c = w.1 c) ∧ q.2.2 = w.2 ∧ ∀ i, i < N → q.2.1 6 i = nI (pq S g r i) := by
    have start : ((0 : Int32), nI r, w) = (fun k (s : WS) => (nI k, (if k < N then nI (pq S g r k) else -1), s)) 0 w := by
      show ((0 : Int32), nI r, w) = (nI 0, (if 0 < N then nI (pq S g r 0) else -1), w)
      rw [if_pos (by omega)]
      rfl
    rw [start]
    refine iter_for0 (fun k (s : WS) => (nI k, (if k < N then nI (pq S g r k) else -1), s)) N (fun k s => (∀ c, c ≠ 6 → s.1 c = w.1 c) ∧ s.2 = w.2 ∧ ∀ i, i < k → s.1 6 i = nI (pq S g r i)) (fun (q : Int32 × WS) => q.1 = nI N ∧ (∀ c, c ≠ 6 → q.2.1 c = w.1 c) ∧ q.2.2 = w.2 ∧ ∀ i, i < N → q.2.1 6 i = nI (pq S g r i)) ?_ ?_ (by omega) w ⟨fun _ _ => rfl, rfl, fun i hi => absurd hi (Nat.not_lt_zero i)⟩
    · intro k s hk ⟨i1, i2, i3⟩
      have hp := hP k hk
      have f1 : ∀ c, c ≠ 6 → (wI s 6 k (nI (pq S g r k))).1 c = w.1 c := fun c hc => by rw [wI_n hc]; exact i1 c hc
      have h1 : RCn S (wI s 6 k (nI (pq S g r k))) := h.same (f1 1 (by decide)) (f1 9 (by decide)) (f1 10 (by decide)) (f1 11 (by decide)) (f1 12 (by decide)) (by rw [wI_2, i2]) (by rw [wI_2, i2]) (by rw [wI_2, i2])
      have hr1 : RowI S (n_Z S g) (wI s 6 k (nI (pq S g r k))) := fun t ht => by rw [f1 5 (by decide)]; exact hr t ht
      have hrow := hr1 _ hp.1
      refine ⟨wI s 6 k (nI (pq S g r k)), ?_, f1, i2, fun i hi => ?_⟩
      · show bd_X3_writePath_4 fu (nI k) (if k < N then nI (pq S g r k) else -1) s = some (.inl (nI (k + 1), (if k + 1 < N then nI (pq S g r (k + 1)) else -1), wI s 6 k (nI (pq S g r k))))
        rw [if_pos hk]
        unfold bd_X3_writePath_4
        rw [if_neg (nI_pos (by omega)), if_neg (show ¬ (64 : Int32) ≤ nI k from nI_ge (b := 64) (by omega) (by decide)), ck_t (in64 (by omega)), nm_e1, cl64 (by omega), nm_e1, nI_1]
        by_cases hz : n_Z S g (pq S g r k) = 0
        · have := hp.2.2.mp hz
          rw [bestNext_end h1 hn hf hr1 hp.1 hz, bn_e, if_neg (by omega)]
        · have : k + 1 < N := by
            have : k + 1 ≠ N := fun e => hz (hp.2.2.mpr e)
            omega
          rw [bestNext_ok h1 hn hf hg hr1 hp.1 hp.2.1 hz, bn_e, if_pos this]
          rfl
      · rw [wI_at]
        by_cases e : i = k
        · rw [if_pos ⟨rfl, e⟩, e]
        · rw [if_neg (fun hh => e hh.2)]
          exact i3 i (by omega)
    · intro s ⟨i1, i2, i3⟩
      refine ⟨(nI N, s), ?_, rfl, i1, i2, i3⟩
      show bd_X3_writePath_4 fu (nI N) (if N < N then nI (pq S g r N) else -1) s = _
      rw [if_neg (Nat.lt_irrefl N)]
      unfold bd_X3_writePath_4
      rw [if_pos (by decide)]
  obtain ⟨q, e, q1, q2, q3, q4⟩ := key
  refine ⟨q.2, ?_, q2, q3, q4⟩
  unfold f_X3_writePath
  rw [e, bn2_s, q1]
end RO
