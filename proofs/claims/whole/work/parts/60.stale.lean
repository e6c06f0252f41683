/-! the class: order and arcs, arcs that are stale -/
def RCg (S : Nt) (w : WS) : Prop := w.1 2 2 = nI (n_R S) ∧ (∀ r, r < n_R S → w.1 15 r = nI (n_pos S r)) ∧ (∀ p, p < n_R S → w.1 16 p = nI (n_ord S p)) ∧ (∀ r i, r < n_R S → i < 64 → bL (w.2 17 r) i = (decide (i < n_R S) && decide (n_pos S i < n_pos S r))) ∧ (∀ r i, r < n_R S → i < 64 → bL (w.2 18 r) i = (decide (i < n_R S) && n_arc S r i)) ∧ ∀ r i, r < n_R S → i < 64 → bL (w.2 19 r) i = (decide (i < n_R S) && n_arc S i r)
theorem RCg.same {S : Nt} {u w : WS} (h : RCg S w) (e2 : u.1 2 = w.1 2) (e15 : u.1 15 = w.1 15) (e16 : u.1 16 = w.1 16) (e17 : u.2 17 = w.2 17) (e18 : u.2 18 = w.2 18) (e19 : u.2 19 = w.2 19) : RCg S u := by
  unfold RCg
  rw [e2, e15, e16, e17, e18, e19]
  exact h
/-- each stale arc stands at its lower road: Q tells which arcs are stale -/
def StI (S : Nt) (Q : Nat → Nat → Bool) (w : WS) : Prop := ∀ r i, r < 64 → i < 64 → bL (w.2 22 r) i = (decide (r < n_R S) && decide (i < n_R S) && decide (n_pos S r < n_pos S i) && Q r i) ∧ bL (w.2 23 r) i = (decide (r < n_R S) && decide (i < n_R S) && decide (n_pos S r < n_pos S i) && Q i r)
theorem StI.same {S : Nt} {Q : Nat → Nat → Bool} {u w : WS} (h : StI S Q w) (e1 : u.2 22 = w.2 22) (e2 : u.2 23 = w.2 23) : StI S Q u := by
  unfold StI
  rw [e1, e2]
  exact h
theorem StI.congr {S : Nt} {Q Q2 : Nat → Nat → Bool} {w : WS} (h : StI S Q w) (e : ∀ a b, a < n_R S → b < n_R S → Q2 a b = Q a b) : StI S Q2 w := by
  intro r i hr hi
  have k := h r i hr hi
  by_cases h1 : r < n_R S
  · by_cases h2 : i < n_R S
    · rw [e r i h1 h2, e i r h2 h1]; exact k
    · simp only [h2, decide_false, Bool.and_false, Bool.false_and] at k ⊢; exact k
  · simp only [h1, decide_false, Bool.false_and] at k ⊢; exact k
/-- two cells of masks may change -/
def FrK (u v : WS) : Prop := u.1 = v.1 ∧ ∀ c, c ≠ 22 → c ≠ 23 → u.2 c = v.2 c
theorem FrK.rf (v : WS) : FrK v v := ⟨rfl, fun _ _ _ => rfl⟩
theorem FrK.trans {u v w : WS} (h : FrK u v) (h2 : FrK v w) : FrK u w := ⟨h.1.trans h2.1, fun c a b => (h.2 c a b).trans (h2.2 c a b)⟩
theorem RCg.frK {S : Nt} {u w : WS} (h : RCg S w) (f : FrK u w) : RCg S u := h.same (by rw [f.1]) (by rw [f.1]) (by rw [f.1]) (f.2 17 (by decide) (by decide)) (f.2 18 (by decide) (by decide)) (f.2 19 (by decide) (by decide))
theorem wL_s2 {w : WS} {c i j : Nat} {x : Int64} : (wL w c i x).2 c j = if j = i then x else w.2 c j := by
  rw [wL_s]
  rfl
section CK
variable {S : Nt} {w : WS} {Q : Nat → Nat → Bool}
theorem markLoopH (fu : Nat) (hf : 64 < fu) (X : Int64) {t : Nat} (ht : t < 64) (s0 : WS) : ∃ w', iter (fun q : Int32 × WS => bd_X0_markHeads_39 fu (nI t) X q.1 q.2) fu (nI (nxt (bL X) 0), s0) = some w' ∧ w'.1 = s0.1 ∧ (∀ c, c ≠ 23 → w'.2 c = s0.2 c) ∧ ∀ r i, r < 64 → i < 64 → bL (w'.2 23 r) i = (bL (s0.2 23 r) i || (bL X r && decide (i = t))) := by
  refine iter_set0 (fun k (s : WS) => (nI k, s)) (bL X) (fun k s => s.1 = s0.1 ∧ (∀ c, c ≠ 23 → s.2 c = s0.2 c) ∧ ∀ r i, r < 64 → i < 64 → bL (s.2 23 r) i = (bL (s0.2 23 r) i || (decide (r < k) && bL X r && decide (i = t)))) (fun (w' : WS) => w'.1 = s0.1 ∧ (∀ c, c ≠ 23 → w'.2 c = s0.2 c) ∧ ∀ r i, r < 64 → i < 64 → bL (w'.2 23 r) i = (bL (s0.2 23 r) i || (bL X r && decide (i = t)))) ?_ ?_ ?_ hf s0 ⟨rfl, fun _ _ => rfl, fun r i hr hi => by simp⟩
  · intro k s hk hp ⟨i1, i2, i3⟩
    refine ⟨wL s 23 k (s.2 23 k ||| ((1 : Int64) <<< ((nI t).toInt64 &&& 63))), ?_, i1, fun c hc => ?_, fun r i hr hi => ?_⟩
    · show bd_X0_markHeads_39 fu (nI t) X (nI k) s = _
      unfold bd_X0_markHeads_39
      rw [if_neg (show ¬ (64 : Int32) ≤ nI k from nI_ge (b := 64) hk (by decide)), ck_t (in64 hk), nm_e1, cl64 hk, only_ok, bn_e, ck_t (in64 hk), nm_e1, next1_ok fu X hk, bn_e]
    · rw [wL_n hc]; exact i2 c hc
    · rw [wL_s2]
      by_cases e : r = k
      · rw [if_pos e, bL_or, bL_one ht, i3 k i hk hi, e, hp]
        simp
      · rw [if_neg e, i3 r i hr hi]
        have : decide (r < k + 1) = decide (r < k) := by
          by_cases h1 : r < k
          · rw [decide_eq_true h1, decide_eq_true (by omega)]
          · rw [decide_eq_false h1, decide_eq_false (by omega)]
        rw [this]
  · intro k s hk hp ⟨i1, i2, i3⟩
    refine ⟨i1, i2, fun r i hr hi => ?_⟩
    rw [i3 r i hr hi]
    by_cases e : r = k
    · rw [e, hp]; simp
    · have : decide (r < k + 1) = decide (r < k) := by
        by_cases h1 : r < k
        · rw [decide_eq_true h1, decide_eq_true (by omega)]
        · rw [decide_eq_false h1, decide_eq_false (by omega)]
      rw [this]
  · intro s ⟨i1, i2, i3⟩
    refine ⟨s, ?_, i1, i2, fun r i hr hi => by rw [i3 r i hr hi, decide_eq_true hr, Bool.true_and]⟩
    show bd_X0_markHeads_39 fu (nI t) X (nI 64) s = _
    unfold bd_X0_markHeads_39
    rw [if_pos (show (64 : Int32) ≤ nI 64 by decide)]
theorem markLoopT (fu : Nat) (hf : 64 < fu) (X : Int64) {t : Nat} (ht : t < 64) (s0 : WS) : ∃ w', iter (fun q : Int32 × WS => bd_X0_markTails_39 fu (nI t) X q.1 q.2) fu (nI (nxt (bL X) 0), s0) = some w' ∧ w'.1 = s0.1 ∧ (∀ c, c ≠ 22 → w'.2 c = s0.2 c) ∧ ∀ r i, r < 64 → i < 64 → bL (w'.2 22 r) i = (bL (s0.2 22 r) i || (bL X r && decide (i = t))) := by
  refine iter_set0 (fun k (s : WS) => (nI k, s)) (bL X) (fun k s => s.1 = s0.1 ∧ (∀ c, c ≠ 22 → s.2 c = s0.2 c) ∧ ∀ r i, r < 64 → i < 64 → bL (s.2 22 r) i = (bL (s0.2 22 r) i || (decide (r < k) && bL X r && decide (i = t)))) (fun (w' : WS) => w'.1 = s0.1 ∧ (∀ c, c ≠ 22 → w'.2 c = s0.2 c) ∧ ∀ r i, r < 64 → i < 64 → bL (w'.2 22 r) i = (bL (s0.2 22 r) i || (bL X r && decide (i = t)))) ?_ ?_ ?_ hf s0 ⟨rfl, fun _ _ => rfl, fun r i hr hi => by simp⟩
  · intro k s hk hp ⟨i1, i2, i3⟩
    refine ⟨wL s 22 k (s.2 22 k ||| ((1 : Int64) <<< ((nI t).toInt64 &&& 63))), ?_, i1, fun c hc => ?_, fun r i hr hi => ?_⟩
    · show bd_X0_markTails_39 fu (nI t) X (nI k) s = _
      unfold bd_X0_markTails_39
      rw [if_neg (show ¬ (64 : Int32) ≤ nI k from nI_ge (b := 64) hk (by decide)), ck_t (in64 hk), nm_e1, cl64 hk, only_ok, bn_e, ck_t (in64 hk), nm_e1, next1_ok fu X hk, bn_e]
    · rw [wL_n hc]; exact i2 c hc
    · rw [wL_s2]
      by_cases e : r = k
      · rw [if_pos e, bL_or, bL_one ht, i3 k i hk hi, e, hp]
        simp
      · rw [if_neg e, i3 r i hr hi]
        have : decide (r < k + 1) = decide (r < k) := by
          by_cases h1 : r < k
          · rw [decide_eq_true h1, decide_eq_true (by omega)]
          · rw [decide_eq_false h1, decide_eq_false (by omega)]
        rw [this]
  · intro k s hk hp ⟨i1, i2, i3⟩
    refine ⟨i1, i2, fun r i hr hi => ?_⟩
    rw [i3 r i hr hi]
    by_cases e : r = k
    · rw [e, hp]; simp
    · have : decide (r < k + 1) = decide (r < k) := by
        by_cases h1 : r < k
        · rw [decide_eq_true h1, decide_eq_true (by omega)]
        · rw [decide_eq_false h1, decide_eq_false (by omega)]
      rw [this]
  · intro s ⟨i1, i2, i3⟩
    refine ⟨s, ?_, i1, i2, fun r i hr hi => by rw [i3 r i hr hi, decide_eq_true hr, Bool.true_and]⟩
    show bd_X0_markTails_39 fu (nI t) X (nI 64) s = _
    unfold bd_X0_markTails_39
    rw [if_pos (show (64 : Int32) ≤ nI 64 by decide)]
theorem pos_ne (hn : NtOK S) {a b : Nat} (ha : a < n_R S) (hb : b < n_R S) (h : a ≠ b) : n_pos S a ≠ n_pos S b := fun e => h (ctR_inj ha hb e)
theorem markHeads_ok (hg : RCg S w) (hn : NtOK S) (hq : StI S Q w) {fu : Nat} (hf : 64 < fu) {t : Nat} (ht : t < n_R S) (X : Int64) (hX : ∀ i, i < 64 → bL X i = true → i < n_R S ∧ i ≠ t) : ∃ w', f_X0_markHeads fu w (nI t) X = some w' ∧ FrK w' w ∧ StI S (fun a b => Q a b || ((a == t) && bL X b)) w' := by
  have hR := hn.2.1
  obtain ⟨w', e, k1, k2, k3⟩ := markLoopH fu hf (X &&& w.2 17 t) (show t < 64 by omega) (wL w 22 t (w.2 22 t ||| (X &&& (w.2 17 t ^^^ (-1)))))
  refine ⟨w', ?_, ⟨k1, fun c h22 h23 => by rw [k2 c h23, wL_n h22]⟩, fun r i hr hi => ?_⟩
  · unfold f_X0_markHeads
    simp only [nm_e1, ck_t (in64 (show t < 64 by omega)), cl64 (show t < 64 by omega)]
    rw [wL_n (show (17 : Nat) ≠ 22 by decide), next0_ok, bn_e, e, bn_e]
  · have q := hq r i hr hi
    have hl := fun r hr => hg.2.2.2.1 r i hr hi
    constructor
    · rw [k2 22 (by decide), wL_s2]
      by_cases e1 : r = t
      · subst e1
        rw [if_pos rfl, bL_or, bL_and, bL_not _ hi, q.1, hl r ht]
        by_cases hx : bL X i = true
        · have h2 := hX i hi hx
          have h3 := pos_ne hn h2.1 ht h2.2
          by_cases h4 : n_pos S i < n_pos S r
          · have h5 : ¬ n_pos S r < n_pos S i := by omega
            simp [hx, h2.1, ht, h4, h5]
          · have h5 : n_pos S r < n_pos S i := by omega
            simp [hx, h2.1, ht, h4, h5]
        · simp [hx]
      · have e2 : (r == t) = false := by simpa using e1
        rw [if_neg e1, q.1]
        simp [e2]
    · rw [k3 r i hr hi, wL_n (show (23 : Nat) ≠ 22 by decide), q.2, bL_and, hg.2.2.2.1 t r ht hr]
      by_cases e1 : i = t
      · subst e1
        by_cases hx : bL X r = true
        · have h2 := hX r hr hx
          simp [hx, h2.1, ht]
          by_cases h4 : n_pos S r < n_pos S i <;> simp [h4]
        · simp [hx]
      · have e2 : (i == t) = false := by simpa using e1
        simp [e1, e2]
theorem markTails_ok (hg : RCg S w) (hn : NtOK S) (hq : StI S Q w) {fu : Nat} (hf : 64 < fu) {t : Nat} (ht : t < n_R S) (X : Int64) (hX : ∀ i, i < 64 → bL X i = true → i < n_R S ∧ i ≠ t) : ∃ w', f_X0_markTails fu w X (nI t) = some w' ∧ FrK w' w ∧ StI S (fun a b => Q a b || (bL X a && (b == t))) w' := by
  have hR := hn.2.1
  obtain ⟨w', e, k1, k2, k3⟩ := markLoopT fu hf (X &&& w.2 17 t) (show t < 64 by omega) (wL w 23 t (w.2 23 t ||| (X &&& (w.2 17 t ^^^ (-1)))))
  refine ⟨w', ?_, ⟨k1, fun c h22 h23 => by rw [k2 c h22, wL_n h23]⟩, fun r i hr hi => ?_⟩
  · unfold f_X0_markTails
    simp only [nm_e1, ck_t (in64 (show t < 64 by omega)), cl64 (show t < 64 by omega)]
    rw [wL_n (show (17 : Nat) ≠ 23 by decide), next0_ok, bn_e, e, bn_e]
  · have q := hq r i hr hi
    have hl := fun r hr => hg.2.2.2.1 r i hr hi
    constructor
    · rw [k3 r i hr hi, wL_n (show (22 : Nat) ≠ 23 by decide), q.1, bL_and, hg.2.2.2.1 t r ht hr]
      by_cases e1 : i = t
      · subst e1
        by_cases hx : bL X r = true
        · have h2 := hX r hr hx
          simp [hx, h2.1, ht]
          by_cases h4 : n_pos S r < n_pos S i <;> simp [h4]
        · simp [hx]
      · have e2 : (i == t) = false := by simpa using e1
        simp [e1, e2]
    · rw [k2 23 (by decide), wL_s2]
      by_cases e1 : r = t
      · subst e1
        rw [if_pos rfl, bL_or, bL_and, bL_not _ hi, q.2, hl r ht]
        by_cases hx : bL X i = true
        · have h2 := hX i hi hx
          have h3 := pos_ne hn h2.1 ht h2.2
          by_cases h4 : n_pos S i < n_pos S r
          · have h5 : ¬ n_pos S r < n_pos S i := by omega
            simp [hx, h2.1, ht, h4, h5]
          · have h5 : n_pos S r < n_pos S i := by omega
            simp [hx, h2.1, ht, h4, h5]
        · simp [hx]
      · have e2 : (r == t) = false := by simpa using e1
        rw [if_neg e1, q.2]
        simp [e2]
end CK
