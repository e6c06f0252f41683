/-! the class: searches -/
def bF (S : Nt) (a r : Nat) : Nat := if n_f S r = a ∧ n_o S r = true then 128 * n_w S r + 1 else 536870912
theorem bst_min {w : Nat → Nat} {q : Nat → Bool} : ∀ {k b : Nat}, bst w q k = some b → ∀ r, r < k → q r = true → w b ≤ w r
  | 0, b, h, r, hr, _ => absurd hr (Nat.not_lt_zero r)
  | k + 1, b, h, r, hr, hq => by
    cases hb : bst w q k with
    | none =>
      have hn := bst_none hb
      by_cases e : r = k
      · subst e
        rw [bst_sN hb hq] at h
        cases h
        exact Nat.le_refl _
      · have := hn r (by omega)
        rw [hq] at this
        cases this
    | some b1 =>
      by_cases c : q k = true ∧ w k < w b1
      · rw [bst_sL hb c.1 c.2] at h
        cases h
        by_cases e : r = k
        · rw [e]; exact Nat.le_refl _
        · have := bst_min hb r (by omega) hq
          omega
      · by_cases c2 : q k = true
        · rw [bst_sG hb (fun h2 => c ⟨c2, h2⟩)] at h
          cases h
          by_cases e : r = k
          · rw [e]
            exact Nat.le_of_not_lt (fun h2 => c ⟨c2, h2⟩)
          · exact bst_min hb r (by omega) hq
        · rw [bst_sF (Bool.eq_false_iff.mpr c2), hb] at h
          cases h
          by_cases e : r = k
          · rw [e] at hq; exact absurd hq c2
          · exact bst_min hb r (by omega) hq
section SE
variable {S : Nt} {w : WS} {R : Nat → Nat} {g : Nat}
theorem least_ok (hr : RowI S R w) (hR : n_R S ≤ 64) {fu : Nat} (hf : 64 < fu) (X : Int64) (hX : ∀ t, t < 64 → bL X t = true → t < n_R S) : ∃ m, f_X3_leastAmong fu w X = some (nI m) ∧ m ≤ 536870912 ∧ (∀ t, t < n_R S → bL X t = true → m ≤ R t) ∧ (m = 536870912 ∨ ∃ t, t < n_R S ∧ bL X t = true ∧ m = R t) := by
  have key : ∃ r, iter (fun q : Int32 × Int32 => bd_X3_leastAmong_10 fu w X q.1 q.2) fu ((536870912 : Int32), nI (nxt (bL X) 0)) = some r ∧ ∃ m, r = nI m ∧ m ≤ 536870912 ∧ (∀ t, t < n_R S → bL X t = true → m ≤ R t) ∧ (m = 536870912 ∨ ∃ t, t < n_R S ∧ bL X t = true ∧ m = R t) := by
    refine iter_set0 (fun k (m : Nat) => (nI m, nI k)) (bL X) (fun k m => m ≤ 536870912 ∧ (∀ t, t < k → bL X t = true → m ≤ R t) ∧ (m = 536870912 ∨ ∃ t, t < n_R S ∧ bL X t = true ∧ m = R t)) (fun (r : Int32) => ∃ m, r = nI m ∧ m ≤ 536870912 ∧ (∀ t, t < n_R S → bL X t = true → m ≤ R t) ∧ (m = 536870912 ∨ ∃ t, t < n_R S ∧ bL X t = true ∧ m = R t)) ?_ ?_ ?_ hf 536870912 ⟨Nat.le_refl _, fun t ht => absurd ht (Nat.not_lt_zero t), Or.inl rfl⟩
    · intro k m hk hbit ⟨i1, i2, i3⟩
      have hkn := hX k hk hbit
      have hrk := hr k hkn
      refine ⟨min m (R k), ?_, by omega, fun t ht hb => ?_, ?_⟩
      · show bd_X3_leastAmong_10 fu w X (nI m) (nI k) = _
        unfold bd_X3_leastAmong_10
        rw [if_neg (show ¬ (64 : Int32) ≤ nI k from nI_ge (b := 64) hk (by decide)), ck_t (in64 hk), nm_e1, cl64 hk, hrk.1, min_nI (by omega) (by omega), nm_e1, next1_ok fu X hk, bn_e]
      · by_cases e : t = k
        · rw [e]; exact Nat.min_le_right _ _
        · exact Nat.le_trans (Nat.min_le_left _ _) (i2 t (by omega) hb)
      · by_cases c : R k < m
        · rw [Nat.min_eq_right (by omega)]
          exact Or.inr ⟨k, hkn, hbit, rfl⟩
        · rw [Nat.min_eq_left (by omega)]
          exact i3
    · intro k m hk hbit ⟨i1, i2, i3⟩
      refine ⟨i1, fun t ht hb => ?_, i3⟩
      by_cases e : t = k
      · rw [e, hbit] at hb; cases hb
      · exact i2 t (by omega) hb
    · intro m ⟨i1, i2, i3⟩
      refine ⟨nI m, ?_, m, rfl, i1, fun t ht hb => i2 t (by omega) hb, i3⟩
      show bd_X3_leastAmong_10 fu w X (nI m) (nI 64) = _
      unfold bd_X3_leastAmong_10
      rw [if_pos (show (64 : Int32) ≤ nI 64 by decide)]
  obtain ⟨r, e, m, rfl, hm⟩ := key
  refine ⟨m, ?_, hm⟩
  unfold f_X3_leastAmong
  rw [next0_ok, bn_e, e, bn_e]
/-- forwards and backwards: the least over the goals is the least over the starts -/
theorem least_dual (hn : NtOK S) (hg : g < 2 ^ 31) {bB Y : Nat → Nat} {m : Nat} (hY : Bell 536870912 (n_R S) (fun a b => s1 S b a) bB Y) (hbI : ∀ r, r < n_R S → bB r ≤ 536870912) (hcl : ∀ r, r < n_R S → n_o S r = false → bB r = 536870912) (hm : m ≤ 536870912) (h1 : ∀ t, t < n_R S → n_t S t = g → m ≤ Y t) (h2 : m = 536870912 ∨ ∃ t, t < n_R S ∧ n_t S t = g ∧ m = Y t) : (∀ r, r < n_R S → m ≤ ta 536870912 (bB r) (n_Z S g r)) ∧ ∀ m', m' ≤ 536870912 → (∀ r, r < n_R S → m' ≤ ta 536870912 (bB r) (n_Z S g r)) → m' ≤ m := by
  have hZ := (Z_ok hn hg).1
  have dual := fun m' (h : m' ≤ 536870912) => Bell.dual (s := s1 S) (s1_pos hn) hbI (fun r _ => goalB_le g r) hY hZ h
  have hc : ∀ r, r < n_R S → n_o S r = false → 536870912 ≤ Y r := fun r hr ho => by
    rcases hY.2.2 r hr with e | ⟨b, hb, e⟩
    · rw [e, hcl r hr ho]; exact Nat.le_refl _
    · have e : ta 536870912 (s1 S b r) (Y b) ≤ Y r := e
      have hc : c2 S b r = 1000000000000 := if_neg (fun hh => by rw [ho] at hh; exact absurd hh.2.2.2.1 (by decide))
      have hs : s1 S b r = 536870912 := if_neg (by omega)
      rw [hs] at e
      unfold ta at e
      omega
  constructor
  · refine (dual m hm).mpr fun r hr => ?_
    unfold goalB
    by_cases c : n_o S r = true ∧ n_t S r = g
    · rw [if_pos c]
      have := h1 r hr c.2
      unfold ta
      omega
    · rw [if_neg c]
      unfold ta
      omega
  · intro m' hm' hh
    have k := (dual m' hm').mp hh
    rcases h2 with e | ⟨t, ht, hg2, e⟩
    · omega
    · rw [e]
      by_cases ho : n_o S t = true
      · have := k t ht
        have e2 : goalB S g t = 0 := if_pos ⟨ho, hg2⟩
        rw [e2] at this
        unfold ta at this
        omega
      · have := hc t ht (Bool.eq_false_iff.mpr ho)
        omega
theorem least_start (hn : NtOK S) (hg : g < 2 ^ 31) {a m : Nat} (hm : m ≤ 536870912) (h1 : ∀ r, r < n_R S → m ≤ ta 536870912 (bF S a r) (n_Z S g r)) (h2 : ∀ m', m' ≤ 536870912 → (∀ r, r < n_R S → m' ≤ ta 536870912 (bF S a r) (n_Z S g r)) → m' ≤ m) : cI m = oI ((n_fst S a g).map (fun r => (128 * n_w S r + 1 + n_Z S g r) / 128)) := by
  have hz := (Z_ok hn hg).2
  have fin : ∀ r, r < n_R S → n_Z S g r < 536870912 → 128 * n_w S r + 1 + n_Z S g r < 536870912 := fun r hr hl => by
    have := (hz r hr hl).1
    have := (hn.2.2.1 r hr).2.2.2
    omega
  cases hb : n_fst S a g with
  | none =>
    have hno := bst_none hb
    have k := h2 536870912 (Nat.le_refl _) (fun r hr => by
      have q := hno r hr
      unfold bF
      by_cases c : n_f S r = a ∧ n_o S r = true
      · rw [if_pos c]
        have : ¬ n_Z S g r < 536870912 := fun hl => by
          simp [c.1, c.2, hl] at q
        unfold ta
        omega
      · rw [if_neg c]
        unfold ta
        omega)
    have e : m = 536870912 := by omega
    rw [e]
    rfl
  | some b =>
    have hbo := fst_ok hb
    have hmin := bst_min hb
    have k := h2 (128 * n_w S b + 1 + n_Z S g b) (by have := fin b hbo.1 hbo.2.2.2; omega) (fun r hr => by
      have := fin b hbo.1 hbo.2.2.2
      unfold bF
      by_cases c : n_f S r = a ∧ n_o S r = true
      · rw [if_pos c]
        by_cases hl : n_Z S g r < 536870912
        · have k := hmin r hr (by simp [c.1, c.2, hl])
          unfold ta
          omega
        · unfold ta
          omega
      · rw [if_neg c]
        unfold ta
        omega)
    have k2 := h1 b hbo.1
    have e : bF S a b = 128 * n_w S b + 1 := if_pos ⟨hbo.2.1, hbo.2.2.1⟩
    rw [e] at k2
    have hf := fin b hbo.1 hbo.2.2.2
    have e : m = 128 * n_w S b + 1 + n_Z S g b := by
      unfold ta at k2
      omega
    rw [e]
    exact if_pos hf
def stR (S : Nt) (X : Int64) (k : Nat) : Nat → Nat := fun r => if r < k ∧ bL X r = true then 128 * n_w S r + 1 else 536870912
theorem fillRow (w : WS) : FrQ (wF w 5 (fillF 64 536870912 (w.1 5))) w ∧ ∀ r, r < 64 → (wF w 5 (fillF 64 536870912 (w.1 5))).1 5 r = 536870912 := ⟨⟨fun c hc => wF_n hc, rfl⟩, fun r hr => by rw [wF_s, fill_at hr]⟩
theorem searchFrom_ok (h : RCn S w) (hp : RCp S w) (hn : NtOK S) {fu : Nat} (hf : 64 < fu) {a : Nat} (ha : a < n_J S) : ∃ w' Y, f_X3_searchFrom fu w (nI a) = some w' ∧ FrQ w' w ∧ RowI S Y w' ∧ Bell 536870912 (n_R S) (fun a b => s1 S b a) (bF S a) Y := by
  have hR := hn.2.1
  have hJ := hn.1
  have fr := fillRow w
  have bits : ∀ r, r < 64 → (bL (w.2 13 a &&& w.2 1 8) r = true ↔ r < n_R S ∧ n_f S r = a ∧ n_o S r = true) := fun r hr => by
    rw [bL_and, h.2.2.2.2.1 a r (by omega) hr, h.2.2.2.2.2.2.1 r hr]
    simp only [Bool.and_eq_true, decide_eq_true_eq, beq_iff_eq]
    exact ⟨fun h => ⟨h.1.1, h.1.2, h.2.2⟩, fun h => ⟨⟨h.1, h.2.1⟩, h.1, h.2.2⟩⟩
  have l1 : ∃ w1, iter (fun q : Int32 × WS => bd_X3_searchFrom_34 fu (w.2 13 a &&& w.2 1 8) q.1 q.2) fu (nI (nxt (bL (w.2 13 a &&& w.2 1 8)) 0), wF w 5 (fillF 64 536870912 (w.1 5))) = some w1 ∧ FrQ w1 w ∧ RowI S (stR S (w.2 13 a &&& w.2 1 8) 64) w1 := by
    refine iter_set0 (fun k (s : WS) => (nI k, s)) (bL (w.2 13 a &&& w.2 1 8)) (fun k s => FrQ s w ∧ RowI S (stR S (w.2 13 a &&& w.2 1 8) k) s) (fun (w1 : WS) => FrQ w1 w ∧ RowI S (stR S (w.2 13 a &&& w.2 1 8) 64) w1) ?_ ?_ ?_ hf _ ⟨fr.1, fun r hr => ?_⟩
    · intro k s hk hbit ⟨i1, i2⟩
      have hb := (bits k hk).mp hbit
      have hw := (hn.2.2.1 k hb.1).2.2.2
      refine ⟨wI s 5 k (nI (128 * n_w S k + 1)), ?_, ⟨fun c hc => by rw [wI_n hc]; exact i1.1 c hc, i1.2⟩, fun r hr => ?_⟩
      · show bd_X3_searchFrom_34 fu _ (nI k) s = _
        unfold bd_X3_searchFrom_34
        rw [if_neg (show ¬ (64 : Int32) ≤ nI k from nI_ge (b := 64) hk (by decide)), road_ok (h.frQ i1) hn fu hb.1, bn_e, ck_t (in64 hk), nm_e1, cl64 hk, next1_ok fu _ hk, bn_e]
      · rw [wI_at]
        unfold stR
        by_cases e : r = k
        · rw [if_pos ⟨rfl, e⟩, if_pos ⟨by omega, by rw [e]; exact hbit⟩, e]
          exact ⟨rfl, by omega⟩
        · rw [if_neg (fun hh => e hh.2)]
          have k2 := i2 r hr
          unfold stR at k2
          by_cases c : r < k ∧ bL (w.2 13 a &&& w.2 1 8) r = true
          · rw [if_pos c] at k2
            rw [if_pos ⟨by omega, c.2⟩]
            exact k2
          · rw [if_neg c] at k2
            rw [if_neg (fun hh => c ⟨by omega, hh.2⟩)]
            exact k2
    · intro k s hk hbit ⟨i1, i2⟩
      refine ⟨i1, i2.congr fun r hr => ?_⟩
      unfold stR
      by_cases c : r < k ∧ bL (w.2 13 a &&& w.2 1 8) r = true
      · rw [if_pos c, if_pos ⟨by omega, c.2⟩]
      · rw [if_neg c, if_neg (fun hh => c ⟨by
          have : r ≠ k := fun e => by rw [e, hbit] at hh; exact absurd hh.2 (by decide)
          omega, hh.2⟩)]
    · intro s hI
      refine ⟨s, ?_, hI⟩
      show bd_X3_searchFrom_34 fu _ (nI 64) s = _
      unfold bd_X3_searchFrom_34
      rw [if_pos (show (64 : Int32) ≤ nI 64 by decide)]
    · unfold stR
      rw [if_neg (by omega), fr.2 r (by omega)]
      exact ⟨rfl, Nat.le_refl _⟩
  obtain ⟨w1, e1, f1, r1⟩ := l1
  obtain ⟨w', Y, e2, f2, r2, hB⟩ := forward_ok (hp.1.frQ f1) hn (hp.2.2.1.same (f1.1 20 (by decide))) (r1.congr (R2 := bF S a) fun r hr => by
    unfold bF stR
    by_cases c : n_f S r = a ∧ n_o S r = true
    · rw [if_pos c, if_pos ⟨by omega, (bits r (by omega)).mpr ⟨hr, c⟩⟩]
    · rw [if_neg c, if_neg (fun hh => c ((bits r (by omega)).mp hh.2).2)]) hf
  refine ⟨w', Y, ?_, f2.trans f1, r2, hB⟩
  unfold f_X3_searchFrom
  rw [nm_e1, ck_t (vp_in_nI (by omega) (by decide)), nm_e1, nI_clamp (by omega), nm_e1, nm_e1, next0_ok, bn_e]
  show bn (iter (fun q : Int32 × WS => bd_X3_searchFrom_34 fu (w.2 13 a &&& w.2 1 8) q.1 q.2) fu (nI (nxt (bL (w.2 13 a &&& w.2 1 8)) 0), wF w 5 (fillF 64 536870912 (w.1 5)))) _ = _
  rw [e1, bn_e, e2, bn_e]
theorem bF_le (hn : NtOK S) {a r : Nat} (hr : r < n_R S) : bF S a r ≤ 536870912 := by
  have := (hn.2.2.1 r hr).2.2.2
  unfold bF
  split <;> omega
theorem end_bits (h : RCn S w) (hg : g < 32) : ∀ t, t < 64 → (bL (w.2 14 g) t = true ↔ t < n_R S ∧ n_t S t = g) := fun t ht => by
  rw [h.2.2.2.2.2.1 g t hg ht]
  simp only [Bool.and_eq_true, decide_eq_true_eq, beq_iff_eq]
theorem found_ok (h : RCn S w) (hn : NtOK S) {fu : Nat} (hf : 64 < fu) {a : Nat} (ha : a < n_J S) (hg : g < n_J S) {Y : Nat → Nat} (hr : RowI S Y w) (hB : Bell 536870912 (n_R S) (fun a b => s1 S b a) (bF S a) Y) : f_X3_foundCost fu w (nI a) (nI g) = some (oI (n_c S a g)) := by
  have hR := hn.2.1
  have hJ := hn.1
  unfold f_X3_foundCost n_c
  by_cases e : a = g
  · rw [if_pos (by rw [e]), if_pos e]
    rfl
  · rw [if_neg (fun e2 => e ((nI_eq (by omega) (by omega)).mp e2)), if_neg e, ck_t (vp_in_nI (by omega) (by decide)), nm_e1, nI_clamp (by omega)]
    have eb := end_bits h (show g < 32 by omega)
    obtain ⟨m, e1, m1, m2, m3⟩ := least_ok hr hR hf (w.2 14 g) (fun t ht hb => ((eb t ht).mp hb).1)
    have ld := least_dual hn (show g < 2 ^ 31 by omega) hB (fun r hr => bF_le hn hr) (fun r hr ho => by
      unfold bF
      rw [if_neg (fun hh => by rw [ho] at hh; exact absurd hh.2 (by decide))]) m1 (fun t ht hh => m2 t ht ((eb t (by omega)).mpr ⟨ht, hh⟩)) (m3.imp (fun h => h) (fun ⟨t, ht, hb, he⟩ => ⟨t, ht, ((eb t (by omega)).mp hb).2, he⟩))
    rw [e1, bn_e, costOf_ok fu (by omega), bn_e, least_start hn (by omega) m1 ld.1 ld.2]
theorem costBetween_ok (h : RCn S w) (hp : RCp S w) (hn : NtOK S) {fu : Nat} (hf : 64 < fu) {a : Nat} (ha : a < n_J S) (hg : g < n_J S) : ∃ w', f_X3_costBetween fu w (nI a) (nI g) = some (oI (n_c S a g), w') ∧ FrQ w' w := by
  obtain ⟨w', Y, e, f, r, hB⟩ := searchFrom_ok h hp hn hf ha
  refine ⟨w', ?_, f⟩
  unfold f_X3_costBetween
  rw [e, bn_e, found_ok (h.frQ f) hn hf ha hg r hB, bn_e]
/-- behind a road: the sweep from this road alone -/
theorem behind_ok (h : RCn S w) (hp : RCp S w) (hn : NtOK S) {fu : Nat} (hf : 64 < fu) {x : Nat} (hx : x < n_R S) (hg : g < n_J S) {u : WS} (fu0 : FrQ u w) (hu : RowI S (fun r => if r = x ∧ n_o S x = true then 0 else 536870912) u) : ∃ w' m, f_X0_spreadForward fu u = some w' ∧ FrQ w' w ∧ f_X3_leastAmong fu w' (w'.2 14 g) = some (nI m) ∧ m = n_Z S g x := by
  have hR := hn.2.1
  have hJ := hn.1
  obtain ⟨w', Y, e, f, r, hB⟩ := forward_ok (hp.1.frQ fu0) hn (hp.2.2.1.same (fu0.1 20 (by decide))) hu hf
  have h' := h.frQ (f.trans fu0)
  have eb := end_bits h' (show g < 32 by omega)
  obtain ⟨m, e1, m1, m2, m3⟩ := least_ok r hR hf (w'.2 14 g) (fun t ht hb => ((eb t ht).mp hb).1)
  have ld := least_dual hn (show g < 2 ^ 31 by omega) hB (fun r hr => (hu r hr).2) (fun r hr ho => by
    show (if r = x ∧ n_o S x = true then 0 else 536870912) = 536870912
    rw [if_neg (fun hh => by rw [← hh.1, ho] at hh; exact absurd hh.2 (by decide))]) m1 (fun t ht hh => m2 t ht ((eb t (by omega)).mpr ⟨ht, hh⟩)) (m3.imp (fun h => h) (fun ⟨t, ht, hb, he⟩ => ⟨t, ht, ((eb t (by omega)).mp hb).2, he⟩))
  refine ⟨w', m, e, f.trans fu0, e1, ?_⟩
  have hZ := Z_ok hn (show g < 2 ^ 31 by omega)
  have hZI : n_Z S g x ≤ 536870912 := Nat.le_trans (hZ.1.1 x hx) (goalB_le g x)
  have hzero : n_o S x = true ∨ n_Z S g x = 536870912 := by
    by_cases hl : n_Z S g x < 536870912
    · exact Or.inl (hZ.2 x hx hl).2.2
    · exact Or.inr (by omega)
  apply Nat.le_antisymm
  · have k : m ≤ ta 536870912 (if x = x ∧ n_o S x = true then 0 else 536870912) (n_Z S g x) := ld.1 x hx
    rcases hzero with ho | hz
    · rw [if_pos ⟨rfl, ho⟩] at k
      unfold ta at k
      omega
    · omega
  · refine ld.2 _ hZI fun r hr => ?_
    show n_Z S g x ≤ ta 536870912 (if r = x ∧ n_o S x = true then 0 else 536870912) (n_Z S g r)
    by_cases c : r = x ∧ n_o S x = true
    · rw [if_pos c, c.1]
      unfold ta
      omega
    · rw [if_neg c]
      unfold ta
      omega
end SE
