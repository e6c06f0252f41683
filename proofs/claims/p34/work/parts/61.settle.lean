/-! the class: stale arcs are computed anew; what holds meanwhile -/
def btw (S : Nt) (a b x : Nat) : Prop := x < n_R S ∧ n_arc S a x = true ∧ n_arc S x b = true ∧ n_pos S x < n_pos S a ∧ n_pos S x < n_pos S b
def IsC (S : Nt) (st ln : Nat → Nat → Nat) (a b m : Nat) : Prop := m ≤ st a b ∧ (∀ x, btw S a b x → m ≤ ln a x + ln x b) ∧ (m = st a b ∨ ∃ x, btw S a b x ∧ m = ln a x + ln x b)
abbrev ArcsS (S : Nt) (s L : Nat → Nat → Nat) : Prop := Arcs 536870912 (n_R S) s (n_pos S) (fun a b => n_arc S a b = true) L
def kc (x : Nat) : Nat := if x < 536870912 then x / 128 + 1 else 0
def cI (x : Nat) : Int32 := if x < 536870912 then nI (x / 128) else -1
theorem cI_kc {x y : Nat} : cI x = cI y ↔ kc x = kc y := by
  unfold cI kc
  by_cases h1 : x < 536870912
  · by_cases h2 : y < 536870912
    · rw [if_pos h1, if_pos h2, if_pos h1, if_pos h2, nI_eq (by omega) (by omega)]
      omega
    · rw [if_pos h1, if_neg h2, if_pos h1, if_neg h2]
      exact ⟨fun h => absurd h (m1_ne (by omega)), fun h => by omega⟩
  · by_cases h2 : y < 536870912
    · rw [if_neg h1, if_pos h2, if_neg h1, if_pos h2]
      exact ⟨fun h => absurd h.symm (m1_ne (by omega)), fun h => by omega⟩
    · rw [if_neg h1, if_neg h2, if_neg h1, if_neg h2]
      exact ⟨fun _ => rfl, fun _ => rfl⟩
theorem costOf_ok (fu : Nat) {x : Nat} (hx : x < 2 ^ 31) : f_X3_costOf fu (nI x) = some (cI x) := by
  unfold f_X3_costOf cI
  by_cases h : x < 536870912
  · rw [if_pos (show nI x < (536870912 : Int32) from nI_lt (b := 536870912) h (by decide)), if_pos h, pk_shrN hx _ 7 (by decide)]
  · rw [if_neg (show ¬ nI x < (536870912 : Int32) from nI_nlt (b := 536870912) (by omega) (by omega)), if_neg h]
section ST
variable {S : Nt} {s so L ol ln : Nat → Nat → Nat} {P Q : Nat → Nat → Bool} {p : Nat}
theorem arcs_half (h1 : ArcsS S s L) (h2 : ArcsS S so ol) {a b : Nat} (ha : a < n_R S) (hb : b < n_R S) (harc : n_arc S a b = true) (he : s a b = so a b) (hin : ∀ x, btw S a b x → L a x = ol a x ∧ L x b = ol x b) : L a b ≤ ol a b := by
  rcases h2.2.2.2.1 a b ha hb harc with e | ⟨x, hx, k1, k2, k3, k4, k5⟩
  · rw [e, ← he]; exact h1.2.1 a b ha hb harc
  · have k := hin x ⟨hx, k1, k2, k3, k4⟩
    have c := (h1.2.2.1 a x b ha hx hb k1 k2 k3 k4 (h1.2.2.2.2.1 a b ha hb harc)).2
    rw [k.1, k.2] at c
    exact Nat.le_trans c k5
theorem arcs_eq (h1 : ArcsS S s L) (h2 : ArcsS S so ol) {a b : Nat} (ha : a < n_R S) (hb : b < n_R S) (harc : n_arc S a b = true) (he : s a b = so a b) (hin : ∀ x, btw S a b x → L a x = ol a x ∧ L x b = ol x b) : L a b = ol a b :=
  Nat.le_antisymm (arcs_half h1 h2 ha hb harc he hin) (arcs_half h2 h1 ha hb harc he.symm (fun x hx => ⟨(hin x hx).1.symm, (hin x hx).2.symm⟩))
theorem comp_eq (h1 : ArcsS S s L) (hs : ∀ a b, s a b ≤ 536870912) {a b m : Nat} (ha : a < n_R S) (hb : b < n_R S) (harc : n_arc S a b = true) (hm : IsC S s ln a b m) (hin : ∀ x, btw S a b x → ln a x = L a x ∧ ln x b = L x b) : m = L a b := by
  obtain ⟨m1, m2, m3⟩ := hm
  have hsab := hs a b
  apply Nat.le_antisymm
  · rcases h1.2.2.2.1 a b ha hb harc with e | ⟨x, hx, k1, k2, k3, k4, k5⟩
    · rw [e]; exact m1
    · have k := m2 x ⟨hx, k1, k2, k3, k4⟩
      have hi := hin x ⟨hx, k1, k2, k3, k4⟩
      unfold ta at k5
      omega
  · rcases m3 with e | ⟨x, hx, e⟩
    · rw [e]; exact h1.2.1 a b ha hb harc
    · have hi := hin x hx
      have c := (h1.2.2.1 a x b ha hx.1 hb hx.2.1 hx.2.2.1 hx.2.2.2.1 hx.2.2.2.2 (h1.2.2.2.2.1 a b ha hb harc)).2
      unfold ta at c
      omega
/-- P: the arcs that are through; Q: those that are stale -/
def SI (S : Nt) (so ol : Nat → Nat → Nat) (p : Nat) (P Q : Nat → Nat → Bool) (ln : Nat → Nat → Nat) : Prop :=
  (∀ a b, a < n_R S → b < n_R S → n_arc S a b = true → P a b = true → ln a b = n_L S a b) ∧
  (∀ a b, a < n_R S → b < n_R S → n_arc S a b = true → P a b = false → ln a b = ol a b) ∧
  (∀ a b, a < n_R S → b < n_R S → n_arc S a b = true → P a b = false → Q a b = false → s1 S a b = so a b ∧ ∀ x, btw S a b x → (P a x = true → n_L S a x = ol a x) ∧ (P x b = true → n_L S x b = ol x b)) ∧
  ∀ a b, Q a b = true → a < n_R S ∧ b < n_R S ∧ n_arc S a b = true ∧ p ≤ min (n_pos S a) (n_pos S b)
def upL (ln : Nat → Nat → Nat) (a0 b0 x : Nat) : Nat → Nat → Nat := fun a b => if a = a0 ∧ b = b0 then x else ln a b
theorem addP_f {a0 b0 a b : Nat} (h : addP P a0 b0 a b = false) : P a b = false ∧ ¬ (a = a0 ∧ b = b0) := by
  unfold addP at h
  simp only [Bool.or_eq_false_iff, Bool.and_eq_false_imp, beq_iff_eq] at h
  exact ⟨h.1, fun hh => by have := h.2 hh.1; simp [hh.2] at this⟩
theorem addP_t {a0 b0 a b : Nat} (h : addP P a0 b0 a b = true) : P a b = true ∨ (a = a0 ∧ b = b0) := by
  unfold addP at h
  simp only [Bool.or_eq_true, Bool.and_eq_true, beq_iff_eq] at h
  exact h
theorem SI.congr {P2 : Nat → Nat → Bool} (h : SI S so ol p P Q ln) (e : ∀ a b, a < n_R S → b < n_R S → n_arc S a b = true → P2 a b = P a b) : SI S so ol p P2 Q ln := by
  refine ⟨fun a b ha hb harc hp => h.1 a b ha hb harc (by rw [← e a b ha hb harc]; exact hp), fun a b ha hb harc hp => h.2.1 a b ha hb harc (by rw [← e a b ha hb harc]; exact hp), fun a b ha hb harc hp hq => ?_, h.2.2.2⟩
  have k := h.2.2.1 a b ha hb harc (by rw [← e a b ha hb harc]; exact hp) hq
  refine ⟨k.1, fun x hx => ?_⟩
  rw [e a x ha hx.1 hx.2.1, e x b hx.1 hb hx.2.2.1]
  exact k.2 x hx
/-- an arc that isn't stale is through as it stands -/
theorem SI.skip (hn : NtOK S) (hA : ArcsS S so ol) (h : SI S so ol p P Q ln) {a0 b0 : Nat} (ha : a0 < n_R S) (hb : b0 < n_R S) (harc : n_arc S a0 b0 = true) (hP : P a0 b0 = false) (hq : Q a0 b0 = false) (hin : ∀ x, btw S a0 b0 x → P a0 x = true ∧ P x b0 = true) : n_L S a0 b0 = ol a0 b0 ∧ SI S so ol p (addP P a0 b0) Q ln := by
  have k := h.2.2.1 a0 b0 ha hb harc hP hq
  have e : n_L S a0 b0 = ol a0 b0 := arcs_eq (arcs_ok hn) hA ha hb harc k.1 (fun x hx => ⟨(k.2 x hx).1 (hin x hx).1, (k.2 x hx).2 (hin x hx).2⟩)
  refine ⟨e, fun a b ha hb harc hp => ?_, fun a b ha hb harc hp => h.2.1 a b ha hb harc (addP_f hp).1, fun a b ha hb harc hp hq => ?_, h.2.2.2⟩
  · rcases addP_t hp with hp | ⟨e1, e2⟩
    · exact h.1 a b ha hb harc hp
    · rw [e1, e2, e]
      exact h.2.1 a0 b0 (by omega) (by omega) (by rw [← e1, ← e2]; exact harc) hP
  · have k := h.2.2.1 a b ha hb harc (addP_f hp).1 hq
    refine ⟨k.1, fun x hx => ⟨fun hp => ?_, fun hp => ?_⟩⟩
    · rcases addP_t hp with hp | ⟨e1, e2⟩
      · exact (k.2 x hx).1 hp
      · rw [e1, e2]; exact e
    · rcases addP_t hp with hp | ⟨e1, e2⟩
      · exact (k.2 x hx).2 hp
      · rw [e1, e2]; exact e
/-- an arc is computed anew; those above are stale if it has changed -/
theorem SI.step (h : SI S so ol p P Q ln) {Q2 : Nat → Nat → Bool} {a0 b0 : Nat} (hQ : ∀ a b, Q a b = true → Q2 a b = true) (hQ2 : ∀ a b, Q2 a b = true → Q a b = true ∨ (a < n_R S ∧ b < n_R S ∧ n_arc S a b = true ∧ p ≤ min (n_pos S a) (n_pos S b))) (hm : n_L S a0 b0 ≠ ol a0 b0 → (∀ t, t < n_R S → n_arc S t b0 = true → btw S t b0 a0 → Q2 t b0 = true) ∧ ∀ t, t < n_R S → n_arc S a0 t = true → btw S a0 t b0 → Q2 a0 t = true) : SI S so ol p (addP P a0 b0) Q2 (upL ln a0 b0 (n_L S a0 b0)) := by
  refine ⟨fun a b ha hb harc hp => ?_, fun a b ha hb harc hp => ?_, fun a b ha hb harc hp hq => ?_, fun a b hq => ?_⟩
  · unfold upL
    by_cases e : a = a0 ∧ b = b0
    · rw [if_pos e, e.1, e.2]
    · rw [if_neg e]
      rcases addP_t hp with hp | hp
      · exact h.1 a b ha hb harc hp
      · exact absurd hp e
  · have hp := addP_f hp
    unfold upL
    rw [if_neg hp.2]
    exact h.2.1 a b ha hb harc hp.1
  · have hqo : Q a b = false := Bool.eq_false_iff.mpr fun hh => by rw [hQ a b hh] at hq; cases hq
    have k := h.2.2.1 a b ha hb harc (addP_f hp).1 hqo
    refine ⟨k.1, fun x hx => ⟨fun hp => ?_, fun hp => ?_⟩⟩
    · rcases addP_t hp with hp | ⟨e1, e2⟩
      · exact (k.2 x hx).1 hp
      · subst e1
        subst e2
        apply Decidable.byContradiction
        intro hne
        rw [(hm hne).2 b hb harc hx] at hq
        cases hq
    · rcases addP_t hp with hp | ⟨e1, e2⟩
      · exact (k.2 x hx).2 hp
      · subst e1
        subst e2
        apply Decidable.byContradiction
        intro hne
        rw [(hm hne).1 a ha harc hx] at hq
        cases hq
  · rcases hQ2 a b hq with hq | hq
    · exact h.2.2.2 a b hq
    · exact hq
/-- the arcs that are through and cost something else than before -/
def chP (S : Nt) (ol : Nat → Nat → Nat) (P : Nat → Nat → Bool) (a b : Nat) : Bool := n_arc S a b && P a b && !(kc (n_L S a b) == kc (ol a b))
theorem chP_add {a0 b0 : Nat} (ha : a0 < n_R S) (hb : b0 < n_R S) (harc : n_arc S a0 b0 = true) (hP : P a0 b0 = false) : cn2 (chP S ol (addP P a0 b0)) (n_R S) (n_R S) = cn2 (chP S ol P) (n_R S) (n_R S) + if kc (n_L S a0 b0) = kc (ol a0 b0) then 0 else 1 := by
  have hoff : ∀ a b, ¬ (a = a0 ∧ b = b0) → chP S ol (addP P a0 b0) a b = chP S ol P a b := fun a b hne => by
    unfold chP addP
    have : ((a == a0) && (b == b0)) = false := by
      rw [Bool.and_eq_false_imp]
      intro h1
      simp only [beq_iff_eq] at h1
      have h2 : b ≠ b0 := fun h2 => hne ⟨h1, h2⟩
      simpa using h2
    rw [this, Bool.or_false]
  by_cases e : kc (n_L S a0 b0) = kc (ol a0 b0)
  · rw [if_pos e, Nat.add_zero]
    refine cn2_congr (n_R S) fun a b _ _ => ?_
    by_cases hh : a = a0 ∧ b = b0
    · rw [hh.1, hh.2]
      unfold chP
      rw [e]
      simp
    · exact hoff a b hh
  · rw [if_neg e, cn2_one (P := chP S ol P) (Q := chP S ol (addP P a0 b0)) hb (by unfold chP; rw [hP]; simp) (by unfold chP addP; simp [harc, e]) hoff (n_R S), if_pos ha]
end ST
/-! computing one arc -/
def LnI (S : Nt) (ln : Nat → Nat → Nat) (w : WS) : Prop := ∀ a b, a < n_R S → b < n_R S → n_arc S a b = true → w.1 20 (64 * a + b) = nI (ln a b) ∧ ln a b ≤ 536870912
def SpI (S : Nt) (st : Nat → Nat → Nat) (w : WS) : Prop := ∀ a b, a < n_R S → b < n_R S → w.1 21 (64 * a + b) = nI (st a b) ∧ st a b ≤ 536870912
section CA
variable {S : Nt} {w : WS} {st ln : Nat → Nat → Nat}
theorem computeArc_ok (hg : RCg S w) (hn : NtOK S) (hl : LnI S ln w) (hs : SpI S st w) {fu : Nat} (hf : 64 < fu) {a b : Nat} (ha : a < n_R S) (hb : b < n_R S) : ∃ m, f_X0_computeArc fu w (nI a) (nI b) = some (nI m) ∧ IsC S st ln a b m := by
  have hR := hn.2.1
  have hsab := hs a b ha hb
  have hpa := n_pos_lt ha
  have hpb := n_pos_lt hb
  have bits : ∀ i, i < 64 → (bL (w.2 18 a &&& w.2 19 b) i = true ↔ i < n_R S ∧ n_arc S a i = true ∧ n_arc S i b = true) := fun i hi => by
    rw [bL_and, hg.2.2.2.2.1 a i ha hi, hg.2.2.2.2.2 b i hb hi]
    simp only [Bool.and_eq_true, decide_eq_true_eq]
    exact ⟨fun h => ⟨h.1.1, h.1.2, h.2.2⟩, fun h => ⟨⟨h.1, h.2.1⟩, h.1, h.2.2⟩⟩
  have key : ∃ r, iter (fun q : Int32 × Int32 => bd_X0_computeArc_46 fu w (nI a) (nI b) (w.2 18 a &&& w.2 19 b) (nI (min (n_pos S a) (n_pos S b))) q.1 q.2) fu (nI (st a b), (0 : Int32)) = some r ∧ ∃ m, r = nI m ∧ IsC S st ln a b m := by
    refine iter_for0 (fun k (m : Nat) => (nI m, nI k)) (min (n_pos S a) (n_pos S b)) (fun k m => m ≤ st a b ∧ (∀ x, n_pos S x < k → btw S a b x → m ≤ ln a x + ln x b) ∧ (m = st a b ∨ ∃ x, btw S a b x ∧ m = ln a x + ln x b)) (fun (r : Int32) => ∃ m, r = nI m ∧ IsC S st ln a b m) ?_ ?_ (by omega) (st a b) ⟨Nat.le_refl _, fun x hx => absurd hx (Nat.not_lt_zero _), Or.inl rfl⟩
    · intro k m hk ⟨i1, i2, i3⟩
      have hx : n_ord S k < n_R S := ctO_lt (by omega)
      have hxp : n_pos S (n_ord S k) = k := n_pos_ord (by omega)
      show ∃ s', bd_X0_computeArc_46 fu w (nI a) (nI b) (w.2 18 a &&& w.2 19 b) (nI (min (n_pos S a) (n_pos S b))) (nI m) (nI k) = some (.inl (nI s', nI (k + 1))) ∧ _
      unfold bd_X0_computeArc_46 f_X3_pair
      rw [if_neg (nI_ge hk (by omega)), ck_t (in64 (by omega)), nm_e1, cl64 (by omega), hg.2.2.1 k (by omega), has_ok fu _ (show n_ord S k < 64 by omega), bn_e, if_zo]
      by_cases hbit : bL (w.2 18 a &&& w.2 19 b) (n_ord S k) = true
      · have hb3 := (bits (n_ord S k) (by omega)).mp hbit
        have hbt : btw S a b (n_ord S k) := ⟨hx, hb3.2.1, hb3.2.2, by rw [hxp]; omega, by rw [hxp]; omega⟩
        have l1 := hl a (n_ord S k) ha hx hb3.2.1
        have l2 := hl (n_ord S k) b hx hb hb3.2.2
        rw [if_pos hbit, bn_e, ck_t (pr_in (by omega) (by omega)), nm_e1, pr_cl (by omega) (by omega), bn_e, ck_t (pr_in (by omega) (by omega)), nm_e1, pr_cl (by omega) (by omega), l1.1, l2.1, nI_add, nm_e1, min_nI (by omega) (by omega), nm_e1, nm_e1, nI_1]
        refine ⟨_, rfl, by omega, fun x hx2 hb2 => ?_, ?_⟩
        · by_cases e : n_pos S x = k
          · rw [show x = n_ord S k from ctR_inj hb2.1 hx (e.trans hxp.symm)]
            exact Nat.min_le_right _ _
          · exact Nat.le_trans (Nat.min_le_left _ _) (i2 x (by omega) hb2)
        · by_cases c : ln a (n_ord S k) + ln (n_ord S k) b < m
          · rw [Nat.min_eq_right (by omega)]
            exact Or.inr ⟨n_ord S k, hbt, rfl⟩
          · rw [Nat.min_eq_left (by omega)]
            exact i3
      · rw [if_neg hbit, nm_e1, nI_1]
        refine ⟨m, rfl, i1, fun x hx2 hb2 => ?_, i3⟩
        by_cases e : n_pos S x = k
        · exfalso
          apply hbit
          rw [← show x = n_ord S k from ctR_inj hb2.1 hx (e.trans hxp.symm)]
          exact (bits x (by have := hb2.1; omega)).mpr ⟨hb2.1, hb2.2.1, hb2.2.2.1⟩
        · exact i2 x (by omega) hb2
    · intro m ⟨i1, i2, i3⟩
      refine ⟨nI m, ?_, m, rfl, i1, fun x hx => i2 x (by have := hx.2.2.2; omega) hx, i3⟩
      show bd_X0_computeArc_46 fu w (nI a) (nI b) _ (nI (min (n_pos S a) (n_pos S b))) (nI m) (nI (min (n_pos S a) (n_pos S b))) = _
      unfold bd_X0_computeArc_46
      rw [if_pos (nI_le (Nat.le_refl _) (by omega))]
  obtain ⟨r, e, m, rfl, hm⟩ := key
  refine ⟨m, ?_, hm⟩
  unfold f_X0_computeArc f_X3_pair
  simp only [bn_e, nm_e1, ck_t (pr_in (show a < 64 by omega) (show b < 64 by omega)), pr_cl (show a < 64 by omega) (show b < 64 by omega), ck_t (in64 (show a < 64 by omega)), ck_t (in64 (show b < 64 by omega)), cl64 (show a < 64 by omega), cl64 (show b < 64 by omega)]
  rw [hsab.1, hg.2.1 a ha, hg.2.1 b hb, min_nI (by omega) (by omega), e, bn_e]
end CA
