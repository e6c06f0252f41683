/-! changes of the network -/
def n_sw (S : Nt) (r x : Nat) : Nt := (S.1, (n_f S, n_t S, updN (n_w S) r x), S.2.2)
def n_so (S : Nt) (r : Nat) (b : Bool) : Nt := (S.1, S.2.1, fun i => if i = r then b else n_o S i, S.2.2.2)
def n_ss (S : Nt) (a b : Nat) (x : Int32) : Nt := (S.1, S.2.1, S.2.2.1, fun i j => if i = a ∧ j = b then x else n_s S i j, n_u S)
def n_su (S : Nt) (x : Int32) : Nt := (S.1, S.2.1, S.2.2.1, n_s S, x)
def n_aj (S : Nt) : Nt := ((n_J S + 1, n_R S), S.2)
def n_ar (S : Nt) (f t w : Nat) : Nt := ((n_J S, n_R S + 1), (updN (n_f S) (n_R S) f, updN (n_t S) (n_R S) t, updN (n_w S) (n_R S) w), fun i => if i = n_R S then true else n_o S i, S.2.2.2)
theorem NtOK.sw {S : Nt} (h : NtOK S) {r x : Nat} (h1 : 1 ≤ x) (h2 : x ≤ 10000) : NtOK (n_sw S r x) := by
  refine ⟨h.1, h.2.1, fun i hi => ?_, h.2.2.2⟩
  have k := h.2.2.1 i hi
  refine ⟨k.1, k.2.1, k.2.2.1, ?_⟩
  show 1 ≤ updN (n_w S) r x i ∧ updN (n_w S) r x i ≤ 10000
  unfold updN
  split
  · exact ⟨h1, h2⟩
  · exact k.2.2.2
theorem NtOK.so {S : Nt} (h : NtOK S) (r : Nat) (b : Bool) : NtOK (n_so S r b) := h
theorem NtOK.ss {S : Nt} (h : NtOK S) (a b : Nat) {x : Int32} (h1 : (-2) ≤ x.toInt) (h2 : x.toInt ≤ 1000) : NtOK (n_ss S a b x) := by
  refine ⟨h.1, h.2.1, h.2.2.1, fun i j => ?_, h.2.2.2.2⟩
  show (-2) ≤ (if i = a ∧ j = b then x else n_s S i j).toInt ∧ (if i = a ∧ j = b then x else n_s S i j).toInt ≤ 1000
  split
  · exact ⟨h1, h2⟩
  · exact h.2.2.2.1 i j
theorem NtOK.su {S : Nt} (h : NtOK S) {x : Int32} (h1 : (-1) ≤ x.toInt) (h2 : x.toInt ≤ 1000) : NtOK (n_su S x) := ⟨h.1, h.2.1, h.2.2.1, h.2.2.2.1, h1, h2⟩
theorem NtOK.aj {S : Nt} (h : NtOK S) (h1 : n_J S < 32) : NtOK (n_aj S) := by
  refine ⟨h1, h.2.1, fun i hi => ?_, h.2.2.2⟩
  have k := h.2.2.1 i hi
  exact ⟨Nat.lt_succ_of_lt k.1, Nat.lt_succ_of_lt k.2.1, k.2.2⟩
theorem NtOK.ar {S : Nt} (h : NtOK S) {f t w : Nat} (h1 : n_R S < 64) (hf : f < n_J S) (ht : t < n_J S) (hne : f ≠ t) (hw : 1 ≤ w) (hw2 : w ≤ 10000) : NtOK (n_ar S f t w) := by
  refine ⟨h.1, h1, fun i hi => ?_, h.2.2.2⟩
  have hi : i < n_R S + 1 := hi
  show updN (n_f S) (n_R S) f i < n_J S ∧ updN (n_t S) (n_R S) t i < n_J S ∧ updN (n_f S) (n_R S) f i ≠ updN (n_t S) (n_R S) t i ∧ 1 ≤ updN (n_w S) (n_R S) w i ∧ updN (n_w S) (n_R S) w i ≤ 10000
  by_cases e : i = n_R S
  · rw [e, updN_s, updN_s, updN_s]
    exact ⟨hf, ht, hne, hw, hw2⟩
  · rw [updN_n e, updN_n e, updN_n e]
    exact h.2.2.1 i (by omega)
theorem RMn.so {S : Nt} {v : WS} (h : RMn S v) {r : Nat} (b : Bool) {x : Int32} (hx : x = if b = true then 1 else 0) : RMn (n_so S r b) (wI v 4 r x) := by
  refine ⟨h.1, h.2.1, fun i hi => ?_, h.2.2.2.1, h.2.2.2.2⟩
  have k := h.2.2.1 i hi
  refine ⟨k.1, k.2.1, k.2.2.1, ?_⟩
  show (wI v 4 r x).1 4 i = if (if i = r then b else n_o S i) = true then 1 else 0
  rw [wI_at]
  by_cases e : i = r
  · rw [if_pos ⟨rfl, e⟩, if_pos e, hx]
  · rw [if_neg (fun hh => e hh.2), if_neg e]
    exact k.2.2.2
theorem vnb {x : Int32} (h : x = 0 ∨ x = 1) : vp_nar .boolean x = x := by
  rcases h with rfl | rfl
  · exact vnb0
  · exact vnb1
/-! the reference: reach -/
def insK (d f : Nat → Nat) (c : Nat) : Nat → Nat
  | 0 => 0
  | k + 1 => if c < d (f k) then insK d f c k else k + 1
def insF (f : Nat → Nat) (k j : Nat) : Nat → Nat := fun i => if i < k then f i else if i = k then j else f (i - 1)
theorem insK_le (d f : Nat → Nat) (c : Nat) : ∀ k, insK d f c k ≤ k
  | 0 => Nat.le_refl 0
  | k + 1 => by
    have := insK_le d f c k
    unfold insK
    split <;> omega
noncomputable def dN (S : Nt) (a j : Nat) : Nat := (n_c S a j).getD 0
noncomputable def nrO (S : Nt) (a bud j : Nat) : Bool := match n_c S a j with
  | none => false
  | some d => decide (d ≤ bud)
noncomputable def nr (S : Nt) (a bud : Nat) : Nat → (Nat → Nat) × Nat
  | 0 => (fun _ => 0, 0)
  | j + 1 => if nrO S a bud j = true then (insF (nr S a bud j).1 (insK (dN S a) (nr S a bud j).1 (dN S a j) (nr S a bud j).2) j, (nr S a bud j).2 + 1) else nr S a bud j
theorem nr_le (S : Nt) (a bud : Nat) : ∀ j, (nr S a bud j).2 ≤ j
  | 0 => Nat.le_refl 0
  | j + 1 => by
    have := nr_le S a bud j
    unfold nr
    split
    · show (nr S a bud j).2 + 1 ≤ j + 1
      omega
    · omega
theorem nr_lt (S : Nt) (a bud : Nat) : ∀ j i, i < (nr S a bud j).2 → (nr S a bud j).1 i < j
  | 0, i, h => absurd h (Nat.not_lt_zero i)
  | j + 1, i, h => by
    have ih := nr_lt S a bud j
    have hk := insK_le (dN S a) (nr S a bud j).1 (dN S a j) (nr S a bud j).2
    unfold nr at h ⊢
    by_cases e : nrO S a bud j = true
    · rw [if_pos e] at h ⊢
      have h : i < (nr S a bud j).2 + 1 := h
      show insF (nr S a bud j).1 (insK (dN S a) (nr S a bud j).1 (dN S a j) (nr S a bud j).2) j i < j + 1
      unfold insF
      split
      · exact Nat.lt_succ_of_lt (ih i (by omega))
      · split
        · omega
        · exact Nat.lt_succ_of_lt (ih (i - 1) (by omega))
    · rw [if_neg e] at h ⊢
      exact Nat.lt_succ_of_lt (ih i h)
section ME
variable {S : Nt} {v : WS}
/-- the places behind are moved on -/
theorem insLoop (fu : Nat) {d f : Nat → Nat} {fd : Nat → Int32} {bd j c : Nat} (y2 : Int32) (hj : j < 32) (hfj : fd j = nI c) (hc : c < 2 ^ 31) : ∀ (k n : Nat) (s : WS), k < n → k ≤ 31 → (∀ i, i < k → f i < 32 ∧ s.1 19 i = nI (f i) ∧ fd (f i) = nI (d (f i)) ∧ d (f i) < 2 ^ 31) → ∃ s', iter (fun q : Int32 × WS => bd_X4_reach_105 fu fd y2 (nI j) q.1 q.2) n (nI k, s) = some (nI (insK d f c k), s') ∧ (∀ a, a ≠ 19 → s'.1 a = s.1 a) ∧ s'.2 = s.2 ∧ ∀ i, s'.1 19 i = if insK d f c k < i ∧ i ≤ k then s.1 19 (i - 1) else s.1 19 i := by
  intro k
  induction k with
  | zero =>
    intro n s hn _ _
    obtain ⟨n, rfl⟩ : ∃ m, n = m + 1 := ⟨n - 1, by omega⟩
    refine ⟨s, iter_inr (f := fun q : Int32 × WS => bd_X4_reach_105 fu fd y2 (nI j) q.1 q.2) (x := (nI 0, s)) (r := (nI 0, s)) (if_pos (show nI 0 ≤ 0 by decide)) n, fun _ _ => rfl, rfl, fun i => by rw [if_neg (by omega)]⟩
  | succ k ih =>
    intro n s hn hk h
    obtain ⟨n, rfl⟩ : ∃ m, n = m + 1 := ⟨n - 1, by omega⟩
    have hl := h k (by omega)
    by_cases hlt : c < d (f k)
    · have e1 : bd_X4_reach_105 fu fd y2 (nI j) (nI (k + 1)) s = some (.inl (nI k, wI s 19 (k + 1) (s.1 19 k))) := by
        unfold bd_X4_reach_105
        rw [if_neg (nI_nle (by omega) (by omega)), nI_pred, ck_t (vp_in_nI (by omega) (by decide)), nm_e1, nI_clamp (by omega), hl.2.1, ck_t (vp_in_nI hl.1 (by decide)), nm_e1, nI_clamp (by omega), ck_t (vp_in_nI hj (by decide)), nm_e1, nI_clamp (by omega), hl.2.2.1, hfj, if_neg (nI_ge hlt hl.2.2.2), ck_t (vp_in_nI (by omega) (by decide)), nm_e1, ck_t (vp_in_nI (by omega) (by decide)), nm_e1, nI_clamp (by omega), nm_e1, pk_m1]
      obtain ⟨s', i1, i2, i3, i4⟩ := ih n (wI s 19 (k + 1) (s.1 19 k)) (by omega) (by omega) (fun i hi => by
        have := h i (by omega)
        refine ⟨this.1, ?_, this.2.2⟩
        rw [wI_at, if_neg (by omega)]
        exact this.2.1)
      have eK : insK d f c (k + 1) = insK d f c k := if_pos hlt
      have hK := insK_le d f c k
      refine ⟨s', ?_, fun a ha => by rw [i2 a ha, wI_n ha], i3, fun i => ?_⟩
      · rw [iter_inl (f := fun q : Int32 × WS => bd_X4_reach_105 fu fd y2 (nI j) q.1 q.2) (x := (nI (k + 1), s)) e1, eK]
        exact i1
      · rw [i4 i, eK]
        by_cases c1 : insK d f c k < i ∧ i ≤ k
        · rw [if_pos c1, if_pos (by omega), wI_at, if_neg (by omega)]
        · rw [if_neg c1, wI_at]
          by_cases c2 : i = k + 1
          · rw [if_pos ⟨rfl, c2⟩, if_pos (by omega), c2]
            rfl
          · rw [if_neg (fun hh => c2 hh.2), if_neg (by omega)]
    · have e1 : bd_X4_reach_105 fu fd y2 (nI j) (nI (k + 1)) s = some (.inr (nI (k + 1), s)) := by
        unfold bd_X4_reach_105
        rw [if_neg (nI_nle (by omega) (by omega)), nI_pred, ck_t (vp_in_nI (by omega) (by decide)), nm_e1, nI_clamp (by omega), hl.2.1, ck_t (vp_in_nI hl.1 (by decide)), nm_e1, nI_clamp (by omega), ck_t (vp_in_nI hj (by decide)), nm_e1, nI_clamp (by omega), hl.2.2.1, hfj, if_pos (nI_le (by omega) hc)]
      have eK : insK d f c (k + 1) = k + 1 := if_neg hlt
      refine ⟨s, ?_, fun _ _ => rfl, rfl, fun i => by rw [eK, if_neg (by omega)]⟩
      rw [eK]
      exact iter_inr (f := fun q : Int32 × WS => bd_X4_reach_105 fu fd y2 (nI j) q.1 q.2) (x := (nI (k + 1), s)) (r := (nI (k + 1), s)) e1 n
theorem distLoop (h : RMn S v) (hn : NtOK S) {fu : Nat} (hf : 2 ^ 80 ≤ fu) {a : Nat} (ha : a < n_J S) (y2 : Int32) : ∃ r : WS × (Nat → Int32), iter (fun q : Int32 × WS × (Nat → Int32) => bd_X4_reach_37 fu (nI a) y2 q.1 q.2.1 q.2.2) fu ((0 : Int32), v, fun _ => 0) = some r ∧ FrB r.1 v ∧ ∀ j, j < n_J S → r.2 j = oI (n_c S a j) := by
  have hJ := hn.1
  refine iter_for0 (fun k (s : WS × (Nat → Int32)) => (nI k, s.1, s.2)) (n_J S) (fun k s => FrB s.1 v ∧ ∀ j, j < k → s.2 j = oI (n_c S a j)) (fun (r : WS × (Nat → Int32)) => FrB r.1 v ∧ ∀ j, j < n_J S → r.2 j = oI (n_c S a j)) ?_ ?_ (by omega) (v, fun _ => 0) ⟨FrB.rf v, fun j hj => absurd hj (Nat.not_lt_zero j)⟩
  · intro k s hk ⟨i1, i2⟩
    have hs := h.frB i1
    obtain ⟨r, e, f1, _⟩ := between_ok hs hn hf ha hk
    refine ⟨(r, upd s.2 k (oI (n_c S a k))), ?_, f1.trans i1, fun j hj => ?_⟩
    · show bd_X4_reach_37 fu (nI a) y2 (nI k) s.1 s.2 = some (Sum.inl (nI (k + 1), r, upd s.2 k (oI (n_c S a k))))
      unfold bd_X4_reach_37
      rw [nm_e1, hs.1, if_neg (nI_ge hk (by omega)), e, bn2_e, ck_t (vp_in_nI (by omega) (by decide)), nm_e1, nI_clamp (by omega), nm_e1, nI_1]
    · show upd s.2 k (oI (n_c S a k)) j = _
      by_cases e2 : j = k
      · rw [e2, pk_us]
      · rw [pk_un e2]; exact i2 j (by omega)
  · intro s ⟨i1, i2⟩
    have hs := h.frB i1
    refine ⟨s, ?_, i1, i2⟩
    show bd_X4_reach_37 fu (nI a) y2 (nI (n_J S)) s.1 s.2 = some (Sum.inr s)
    unfold bd_X4_reach_37
    rw [nm_e1, hs.1, if_pos (nI_le (Nat.le_refl _) (by omega))]
theorem nearLoop (h : RMn S v) (hn : NtOK S) {fu : Nat} (hf : 64 < fu) {a : Nat} {fd : Nat → Int32} (hfd : ∀ j, j < n_J S → fd j = oI (n_c S a j)) {bud : Nat} (hb : bud < 2 ^ 31) (h29 : v.1 0 29 = 0) : ∃ r : WS, iter (fun q : Int32 × WS => bd_X4_reach_71 fu fd (nI bud) q.1 q.2) fu ((0 : Int32), v) = some r ∧ FrR r v ∧ (∀ j, j ≠ 29 → r.1 0 j = v.1 0 j) ∧ r.1 18 = v.1 18 ∧ r.1 0 29 = nI (nr S a bud (n_J S)).2 ∧ ∀ i, i < (nr S a bud (n_J S)).2 → r.1 19 i = nI ((nr S a bud (n_J S)).1 i) := by
  have hJ := hn.1
  have hcl : ∀ j d, j < n_J S → n_c S a j = some d → d ≤ 715000 := fun j d hj hd => n_c_le hn (by omega) hd
  refine iter_for0 (fun k (s : WS) => (nI k, s)) (n_J S) (fun k s => FrR s v ∧ (∀ j, j ≠ 29 → s.1 0 j = v.1 0 j) ∧ s.1 18 = v.1 18 ∧ s.1 0 29 = nI (nr S a bud k).2 ∧ ∀ i, i < (nr S a bud k).2 → s.1 19 i = nI ((nr S a bud k).1 i)) (fun (r : WS) => FrR r v ∧ (∀ j, j ≠ 29 → r.1 0 j = v.1 0 j) ∧ r.1 18 = v.1 18 ∧ r.1 0 29 = nI (nr S a bud (n_J S)).2 ∧ ∀ i, i < (nr S a bud (n_J S)).2 → r.1 19 i = nI ((nr S a bud (n_J S)).1 i)) ?_ ?_ (by omega) v ⟨FrR.rf v, fun _ _ => rfl, rfl, h29, fun i hi => absurd hi (Nat.not_lt_zero i)⟩
  · intro k s hk ⟨i1, i2, i3, i4, i5⟩
    have hs := h.frR i1
    have hle := nr_le S a bud k
    have hlt := nr_lt S a bud k
    cases hc : n_c S a k with
    | none =>
      have e : nr S a bud (k + 1) = nr S a bud k := if_neg (by unfold nrO; rw [hc]; exact Bool.false_ne_true)
      rw [e]
      refine ⟨s, ?_, i1, i2, i3, i4, i5⟩
      show bd_X4_reach_71 fu fd (nI bud) (nI k) s = _
      unfold bd_X4_reach_71
      rw [nm_e1, hs.1, if_neg (nI_ge hk (by omega)), ck_t (vp_in_nI (by omega) (by decide)), nm_e1, nI_clamp (by omega), hfd k hk, hc, if_pos (show oI none = -1 from rfl), nm_e1, nI_1]
    | some d =>
      have hd := hcl k d hk hc
      have edN : dN S a k = d := by unfold dN; rw [hc]; rfl
      by_cases hbd : d ≤ bud
      · have e : nr S a bud (k + 1) = (insF (nr S a bud k).1 (insK (dN S a) (nr S a bud k).1 (dN S a k) (nr S a bud k).2) k, (nr S a bud k).2 + 1) := if_pos (by unfold nrO; rw [hc]; exact decide_eq_true hbd)
        have hK := insK_le (dN S a) (nr S a bud k).1 d (nr S a bud k).2
        have some_of : ∀ i, i < (nr S a bud k).2 → fd ((nr S a bud k).1 i) = nI (dN S a ((nr S a bud k).1 i)) ∧ dN S a ((nr S a bud k).1 i) < 2 ^ 31 := by
          intro i hi
          have hl := hlt i hi
          have hs2 : ∀ k', k' ≤ k → ∀ i, i < (nr S a bud k').2 → ∃ d, n_c S a ((nr S a bud k').1 i) = some d := by
            intro k'
            induction k' with
            | zero => intro _ i hi; exact absurd hi (Nat.not_lt_zero i)
            | succ k' ih =>
              intro hk' i hi
              have hK' := insK_le (dN S a) (nr S a bud k').1 (dN S a k') (nr S a bud k').2
              unfold nr at hi ⊢
              by_cases e : nrO S a bud k' = true
              · rw [if_pos e] at hi ⊢
                have hi : i < (nr S a bud k').2 + 1 := hi
                show ∃ d, n_c S a (insF (nr S a bud k').1 (insK (dN S a) (nr S a bud k').1 (dN S a k') (nr S a bud k').2) k' i) = some d
                unfold insF
                split
                · exact ih (by omega) i (by omega)
                · split
                  · unfold nrO at e
                    cases hc2 : n_c S a k' with
                    | none => rw [hc2] at e; cases e
                    | some d2 => exact ⟨d2, rfl⟩
                  · exact ih (by omega) (i - 1) (by omega)
              · rw [if_neg e] at hi ⊢
                exact ih (by omega) i hi
          obtain ⟨d2, hd2⟩ := hs2 k (Nat.le_refl k) i hi
          have := hcl _ d2 (by omega) hd2
          rw [hfd _ (by omega), hd2]
          unfold dN
          rw [hd2]
          exact ⟨rfl, by show d2 < 2 ^ 31; omega⟩
        obtain ⟨s', e1, j1, j2, j3⟩ := insLoop fu (d := dN S a) (f := (nr S a bud k).1) (fd := fd) (bd := bud) (j := k) (c := d) (nI bud) (by omega) (by rw [hfd k hk, hc]; rfl) (by omega) (nr S a bud k).2 fu s (by omega) (by omega) (fun i hi => ⟨by have := hlt i hi; omega, i5 i hi, some_of i hi⟩)
        rw [e]
        refine ⟨wI (wI s' 19 (insK (dN S a) (nr S a bud k).1 (dN S a k) (nr S a bud k).2) (nI k)) 0 29 (nI ((nr S a bud k).2 + 1)), ?_, (FrR.f0 _ 29 _ (by decide)).trans ((FrR.f19 s' _ _).trans (FrR.trans ⟨fun c _ _ h19 _ => j1 c h19, fun i _ _ _ _ => by rw [j1 0 (by decide)], fun c _ => by rw [j2]⟩ i1)), fun i hi => ?_, ?_, ?_, fun i hi => ?_⟩
        · show bd_X4_reach_71 fu fd (nI bud) (nI k) s = _
          unfold bd_X4_reach_71
          rw [nm_e1, hs.1, if_neg (nI_ge hk (by omega)), ck_t (vp_in_nI (by omega) (by decide)), nm_e1, nI_clamp (by omega), hfd k hk, hc, if_neg (show ¬ oI (some d) = -1 from m1_ne (by omega)), ck_t (vp_in_nI (by omega) (by decide)), nm_e1, if_pos (show oI (some d) ≤ nI bud from nI_le hbd (by omega)), nm_e1, i4, e1, bn2_e, ck_t (vp_in_nI (by omega) (by decide)), nm_e1, nI_clamp (by omega)]
          simp only [nm_e1]
          rw [wI_n (show (0 : Nat) ≠ 19 by decide), j1 0 (by decide), i4, nI_1, nI_1, edN]
        · rw [wI_at, if_neg (fun hh => hi hh.2), wI_n (by decide), j1 0 (by decide)]; exact i2 i hi
        · rw [wI_n (by decide), wI_n (by decide), j1 18 (by decide)]; exact i3
        · rw [wI_at, if_pos ⟨rfl, rfl⟩]
        · have hi : i < (nr S a bud k).2 + 1 := hi
          rw [wI_n (by decide), wI_at, edN]
          show _ = nI (insF (nr S a bud k).1 (insK (dN S a) (nr S a bud k).1 d (nr S a bud k).2) k i)
          unfold insF
          by_cases c1 : i = insK (dN S a) (nr S a bud k).1 d (nr S a bud k).2
          · rw [if_pos ⟨rfl, c1⟩, if_neg (by omega), if_pos c1]
          · rw [if_neg (fun hh => c1 hh.2), j3 i]
            by_cases c2 : i < insK (dN S a) (nr S a bud k).1 d (nr S a bud k).2
            · rw [if_neg (by omega), if_pos c2]
              exact i5 i (by omega)
            · rw [if_pos (by omega), if_neg c2, if_neg c1]
              exact i5 (i - 1) (by omega)
      · have e : nr S a bud (k + 1) = nr S a bud k := if_neg (by unfold nrO; rw [hc]; simpa using hbd)
        rw [e]
        refine ⟨s, ?_, i1, i2, i3, i4, i5⟩
        show bd_X4_reach_71 fu fd (nI bud) (nI k) s = _
        unfold bd_X4_reach_71
        rw [nm_e1, hs.1, if_neg (nI_ge hk (by omega)), ck_t (vp_in_nI (by omega) (by decide)), nm_e1, nI_clamp (by omega), hfd k hk, hc, if_neg (show ¬ oI (some d) = -1 from m1_ne (by omega)), ck_t (vp_in_nI (by omega) (by decide)), nm_e1, if_neg (show ¬ oI (some d) ≤ nI bud from nI_ge (by omega) (by omega)), nm_e1, nI_1]
  · intro s ⟨i1, i2, i3, i4, i5⟩
    have hs := h.frR i1
    refine ⟨s, ?_, i1, i2, i3, i4, i5⟩
    show bd_X4_reach_71 fu fd (nI bud) (nI (n_J S)) s = _
    unfold bd_X4_reach_71
    rw [nm_e1, hs.1, if_pos (nI_le (Nat.le_refl _) (by omega))]
theorem reach_ok (h : RMn S v) (hn : NtOK S) (hp : v.1 0 9 = 1) {fu : Nat} (hf : 2 ^ 80 ≤ fu) {a bud : Nat} (ha : a < n_J S) (hb : bud < 2 ^ 31) :
    ∃ v', f_X4_reach fu v (nI a) (nI bud) = some (nI (nr S a bud (n_J S)).2, v') ∧ FrR v' v ∧ v'.1 0 0 = 0 ∧ v'.1 0 26 = v.1 0 26 ∧ v'.1 0 27 = v.1 0 27 ∧ v'.1 18 = v.1 18 ∧ v'.1 0 29 = nI (nr S a bud (n_J S)).2 ∧ ∀ i, i < (nr S a bud (n_J S)).2 → v'.1 19 i = nI ((nr S a bud (n_J S)).1 i) := by
  have hJ := hn.1
  have f0 := FrR.f0 v 0 0 (by decide)
  have h2 := h.frR f0
  obtain ⟨r, e1, b1, b2⟩ := distLoop h2 hn hf ha (nI bud)
  have f1 : FrR (wI r.1 0 29 0) v := (FrR.f0 _ 29 _ (by decide)).trans (b1.toR.trans f0)
  obtain ⟨v', e2, n1, n2, n3, n4, n5⟩ := nearLoop (h.frR f1) hn (show 64 < fu by omega) b2 hb (by rw [wI_at, if_pos ⟨rfl, rfl⟩])
  have c0 : ∀ j, j ≠ 29 → v'.1 0 j = if j = 0 then 0 else v.1 0 j := fun j hj => by
    rw [n2 j hj, wI_at, if_neg (fun hh => hj hh.2), b1.1 0 (by decide), wI_at]
    by_cases e : j = 0
    · rw [if_pos ⟨rfl, e⟩, if_pos e]
    · rw [if_neg (fun hh => e hh.2), if_neg e]
  refine ⟨v', ?_, n1.trans f1, ?_, ?_, ?_, ?_, n4, n5⟩
  · unfold f_X4_reach
    rw [looked_y h hn hp fu ha ha, bn_e]
    simp only [nm_e1]
    rw [show (wI v 0 0 0).1 0 0 = 0 by rw [wI_at, if_pos ⟨rfl, rfl⟩], if_pos rfl, if_pos (nI_pos' hb), e1]
    show bn (iter (fun q : Int32 × WS => bd_X4_reach_71 fu r.2 (nI bud) q.1 q.2) fu ((0 : Int32), wI r.1 0 29 0)) (fun w8 => some (w8.1 0 29, w8)) = _
    rw [e2, bn_e, n4]
  · rw [c0 0 (by decide), if_pos rfl]
  · rw [c0 26 (by decide), if_neg (by decide)]
  · rw [c0 27 (by decide), if_neg (by decide)]
  · rw [n3, wI_n (by decide), b1.1 18 (by decide), wI_n (by decide)]
end ME
