/-! the class: settle -/
def FrS (u v : WS) : Prop := (∀ c, c ≠ 20 → u.1 c = v.1 c) ∧ ∀ c, c ≠ 22 → c ≠ 23 → u.2 c = v.2 c
theorem FrS.rf (v : WS) : FrS v v := ⟨fun _ _ => rfl, fun _ _ _ => rfl⟩
theorem FrS.trans {u v w : WS} (h : FrS u v) (h2 : FrS v w) : FrS u w := ⟨fun c a => (h.1 c a).trans (h2.1 c a), fun c a b => (h.2 c a b).trans (h2.2 c a b)⟩
theorem FrK.toS {u v : WS} (h : FrK u v) : FrS u v := ⟨fun c _ => by rw [h.1], h.2⟩
theorem RCg.frS {S : Nt} {u w : WS} (h : RCg S w) (f : FrS u w) : RCg S u := h.same (f.1 2 (by decide)) (f.1 15 (by decide)) (f.1 16 (by decide)) (f.2 17 (by decide) (by decide)) (f.2 18 (by decide) (by decide)) (f.2 19 (by decide) (by decide))
theorem SpI.frS {S : Nt} {st : Nat → Nat → Nat} {u w : WS} (h : SpI S st w) (f : FrS u w) : SpI S st u := by
  unfold SpI
  rw [f.1 21 (by decide)]
  exact h
theorem LnI.same {S : Nt} {ln : Nat → Nat → Nat} {u w : WS} (h : LnI S ln w) (e : u.1 20 = w.1 20) : LnI S ln u := by
  unfold LnI
  rw [e]
  exact h
section SA
variable {S : Nt} {w : WS} {so ol ln : Nat → Nat → Nat} {P Q : Nat → Nat → Bool} {p : Nat}
theorem arc_ne (hn : NtOK S) {a b : Nat} (ha : a < n_R S) (hb : b < n_R S) (h : n_arc S a b = true) : a ≠ b := (arcs_ok hn).2.2.2.2.1 a b ha hb h
/-- the arcs to b0 over a0, a0 the lower -/
theorem above24 (hg : RCg S w) (hn : NtOK S) (hq : StI S Q w) {fu : Nat} (hf : 64 < fu) {a0 b0 : Nat} (ha : a0 < n_R S) (hb : b0 < n_R S) (harc : n_arc S a0 b0 = true) (hlow : n_pos S a0 < n_pos S b0) : ∃ w', iter (fun q : Int32 × WS => bd_X0_markAbove_24 fu (nI a0) (nI b0) q.1 q.2) fu (nI (n_pos S a0 + 1), w) = some w' ∧ FrK w' w ∧ ∃ Q2, StI S Q2 w' ∧ (∀ a b, Q a b = true → Q2 a b = true) ∧ (∀ a b, Q2 a b = true → Q a b = true ∨ (a < n_R S ∧ b < n_R S ∧ n_arc S a b = true ∧ n_pos S a0 < min (n_pos S a) (n_pos S b))) ∧ ∀ t, t < n_R S → n_arc S t b0 = true → btw S t b0 a0 → Q2 t b0 = true := by
  have hR := hn.2.1
  have hpb := n_pos_lt hb
  refine iter_for (fun k (s : WS) => (nI k, s)) (n_R S) (fun k s => n_pos S a0 < k ∧ FrK s w ∧ ∃ Q2, StI S Q2 s ∧ (∀ a b, Q a b = true → Q2 a b = true) ∧ (∀ a b, Q2 a b = true → Q a b = true ∨ (a < n_R S ∧ b < n_R S ∧ n_arc S a b = true ∧ n_pos S a0 < min (n_pos S a) (n_pos S b))) ∧ ∀ t, t < n_R S → n_pos S t < k → n_arc S t b0 = true → btw S t b0 a0 → Q2 t b0 = true) (fun (w' : WS) => FrK w' w ∧ ∃ Q2, StI S Q2 w' ∧ (∀ a b, Q a b = true → Q2 a b = true) ∧ (∀ a b, Q2 a b = true → Q a b = true ∨ (a < n_R S ∧ b < n_R S ∧ n_arc S a b = true ∧ n_pos S a0 < min (n_pos S a) (n_pos S b))) ∧ ∀ t, t < n_R S → n_arc S t b0 = true → btw S t b0 a0 → Q2 t b0 = true) ?_ ?_ (n_R S - (n_pos S a0 + 1)) (n_pos S a0 + 1) fu w (by omega) (by omega) ⟨Nat.lt_succ_self _, FrK.rf w, Q, hq, fun _ _ h => h, fun _ _ h => Or.inl h, fun t _ h1 _ h2 => absurd h2.2.2.2.1 (by omega)⟩
  · intro k s hk ⟨i0, i1, Q2, j1, j2, j3, j4⟩
    have hgs := hg.frK i1
    have hx : n_ord S k < n_R S := ctO_lt hk
    have hxp : n_pos S (n_ord S k) = k := n_pos_ord hk
    show ∃ s', bd_X0_markAbove_24 fu (nI a0) (nI b0) (nI k) s = some (.inl (nI (k + 1), s')) ∧ _
    unfold bd_X0_markAbove_24
    rw [nm_e1, hgs.1, if_neg (nI_ge hk (by omega)), ck_t (in64 (by omega)), nm_e1, cl64 (by omega), hgs.2.2.1 k hk]
    by_cases e : n_ord S k = b0
    · rw [if_pos (by rw [e]), nm_e1, nI_1]
      refine ⟨s, rfl, by omega, i1, Q2, j1, j2, j3, fun t ht h1 h2 h3 => ?_⟩
      by_cases e2 : n_pos S t = k
      · exact absurd (show t = b0 from (ctR_inj ht hx (e2.trans hxp.symm)).trans e) (arc_ne hn ht hb h2)
      · exact j4 t ht (by omega) h2 h3
    · rw [if_neg (fun h => e ((nI_eq (by omega) (by omega)).mp h)), ck_t (in64 (by omega)), nm_e1, cl64 (by omega), has_ok fu _ (show n_ord S k < 64 by omega), bn_e, if_zo, hgs.2.2.2.2.2 a0 _ ha (show n_ord S k < 64 by omega), decide_eq_true hx, Bool.true_and]
      by_cases hbit : n_arc S (n_ord S k) a0 = true
      · obtain ⟨w2, e2, f2, q2⟩ := markArc_ok hgs hn j1 fu hx hb e
        rw [if_pos hbit, e2, bn_e, nm_e1, nI_1]
        refine ⟨w2, rfl, by omega, f2.trans i1, _, q2, fun a b h => addP_iff.mpr (Or.inl (j2 a b h)), fun a b h => ?_, fun t ht h1 h2 h3 => ?_⟩
        · rcases addP_iff.mp h with h | ⟨rfl, rfl⟩
          · exact j3 a b h
          · exact Or.inr ⟨hx, hb, n_close hx ha hb hbit harc (by omega) hlow e, by omega⟩
        · by_cases e3 : n_pos S t = k
          · exact addP_iff.mpr (Or.inr ⟨ctR_inj ht hx (e3.trans hxp.symm), rfl⟩)
          · exact addP_iff.mpr (Or.inl (j4 t ht (by omega) h2 h3))
      · rw [if_neg hbit, nm_e1, nI_1]
        refine ⟨s, rfl, by omega, i1, Q2, j1, j2, j3, fun t ht h1 h2 h3 => ?_⟩
        by_cases e2 : n_pos S t = k
        · exact absurd (show n_arc S (n_ord S k) a0 = true by rw [← show t = n_ord S k from ctR_inj ht hx (e2.trans hxp.symm)]; exact h3.2.1) hbit
        · exact j4 t ht (by omega) h2 h3
  · intro s ⟨i0, i1, Q2, j1, j2, j3, j4⟩
    refine ⟨s, ?_, i1, Q2, j1, j2, j3, fun t ht h2 h3 => j4 t ht (n_pos_lt ht) h2 h3⟩
    show bd_X0_markAbove_24 fu (nI a0) (nI b0) (nI (n_R S)) s = _
    unfold bd_X0_markAbove_24
    rw [nm_e1, (hg.frK i1).1, if_pos (nI_le (Nat.le_refl _) (by omega))]
/-- the arcs from a0 over b0, b0 the lower -/
theorem above85 (hg : RCg S w) (hn : NtOK S) (hq : StI S Q w) {fu : Nat} (hf : 64 < fu) {a0 b0 : Nat} (ha : a0 < n_R S) (hb : b0 < n_R S) (harc : n_arc S a0 b0 = true) (hlow : n_pos S b0 < n_pos S a0) : ∃ w', iter (fun q : Int32 × WS => bd_X0_markAbove_85 fu (nI a0) (nI b0) q.1 q.2) fu (nI (n_pos S b0 + 1), w) = some w' ∧ FrK w' w ∧ ∃ Q2, StI S Q2 w' ∧ (∀ a b, Q a b = true → Q2 a b = true) ∧ (∀ a b, Q2 a b = true → Q a b = true ∨ (a < n_R S ∧ b < n_R S ∧ n_arc S a b = true ∧ n_pos S b0 < min (n_pos S a) (n_pos S b))) ∧ ∀ t, t < n_R S → n_arc S a0 t = true → btw S a0 t b0 → Q2 a0 t = true := by
  have hR := hn.2.1
  have hpa := n_pos_lt ha
  refine iter_for (fun k (s : WS) => (nI k, s)) (n_R S) (fun k s => n_pos S b0 < k ∧ FrK s w ∧ ∃ Q2, StI S Q2 s ∧ (∀ a b, Q a b = true → Q2 a b = true) ∧ (∀ a b, Q2 a b = true → Q a b = true ∨ (a < n_R S ∧ b < n_R S ∧ n_arc S a b = true ∧ n_pos S b0 < min (n_pos S a) (n_pos S b))) ∧ ∀ t, t < n_R S → n_pos S t < k → n_arc S a0 t = true → btw S a0 t b0 → Q2 a0 t = true) (fun (w' : WS) => FrK w' w ∧ ∃ Q2, StI S Q2 w' ∧ (∀ a b, Q a b = true → Q2 a b = true) ∧ (∀ a b, Q2 a b = true → Q a b = true ∨ (a < n_R S ∧ b < n_R S ∧ n_arc S a b = true ∧ n_pos S b0 < min (n_pos S a) (n_pos S b))) ∧ ∀ t, t < n_R S → n_arc S a0 t = true → btw S a0 t b0 → Q2 a0 t = true) ?_ ?_ (n_R S - (n_pos S b0 + 1)) (n_pos S b0 + 1) fu w (by omega) (by omega) ⟨Nat.lt_succ_self _, FrK.rf w, Q, hq, fun _ _ h => h, fun _ _ h => Or.inl h, fun t _ h1 _ h2 => absurd h2.2.2.2.2 (by omega)⟩
  · intro k s hk ⟨i0, i1, Q2, j1, j2, j3, j4⟩
    have hgs := hg.frK i1
    have hx : n_ord S k < n_R S := ctO_lt hk
    have hxp : n_pos S (n_ord S k) = k := n_pos_ord hk
    show ∃ s', bd_X0_markAbove_85 fu (nI a0) (nI b0) (nI k) s = some (.inl (nI (k + 1), s')) ∧ _
    unfold bd_X0_markAbove_85
    rw [nm_e1, hgs.1, if_neg (nI_ge hk (by omega)), ck_t (in64 (by omega)), nm_e1, cl64 (by omega), hgs.2.2.1 k hk]
    by_cases e : n_ord S k = a0
    · rw [if_pos (by rw [e]), nm_e1, nI_1]
      refine ⟨s, rfl, by omega, i1, Q2, j1, j2, j3, fun t ht h1 h2 h3 => ?_⟩
      by_cases e2 : n_pos S t = k
      · exact absurd (show a0 = t from ((ctR_inj ht hx (e2.trans hxp.symm)).trans e).symm) (arc_ne hn ha ht h2)
      · exact j4 t ht (by omega) h2 h3
    · rw [if_neg (fun h => e ((nI_eq (by omega) (by omega)).mp h)), ck_t (in64 (by omega)), nm_e1, cl64 (by omega), has_ok fu _ (show n_ord S k < 64 by omega), bn_e, if_zo, hgs.2.2.2.2.1 b0 _ hb (show n_ord S k < 64 by omega), decide_eq_true hx, Bool.true_and]
      by_cases hbit : n_arc S b0 (n_ord S k) = true
      · obtain ⟨w2, e2, f2, q2⟩ := markArc_ok hgs hn j1 fu ha hx (fun h => e h.symm)
        rw [if_pos hbit, e2, bn_e, nm_e1, nI_1]
        refine ⟨w2, rfl, by omega, f2.trans i1, _, q2, fun a b h => addP_iff.mpr (Or.inl (j2 a b h)), fun a b h => ?_, fun t ht h1 h2 h3 => ?_⟩
        · rcases addP_iff.mp h with h | ⟨rfl, rfl⟩
          · exact j3 a b h
          · exact Or.inr ⟨ha, hx, n_close ha hb hx harc hbit hlow (by omega) (fun h => e h.symm), by omega⟩
        · by_cases e3 : n_pos S t = k
          · exact addP_iff.mpr (Or.inr ⟨rfl, ctR_inj ht hx (e3.trans hxp.symm)⟩)
          · exact addP_iff.mpr (Or.inl (j4 t ht (by omega) h2 h3))
      · rw [if_neg hbit, nm_e1, nI_1]
        refine ⟨s, rfl, by omega, i1, Q2, j1, j2, j3, fun t ht h1 h2 h3 => ?_⟩
        by_cases e2 : n_pos S t = k
        · exact absurd (show n_arc S b0 (n_ord S k) = true by rw [← show t = n_ord S k from ctR_inj ht hx (e2.trans hxp.symm)]; exact h3.2.2.1) hbit
        · exact j4 t ht (by omega) h2 h3
  · intro s ⟨i0, i1, Q2, j1, j2, j3, j4⟩
    refine ⟨s, ?_, i1, Q2, j1, j2, j3, fun t ht h2 h3 => j4 t ht (n_pos_lt ht) h2 h3⟩
    show bd_X0_markAbove_85 fu (nI a0) (nI b0) (nI (n_R S)) s = _
    unfold bd_X0_markAbove_85
    rw [nm_e1, (hg.frK i1).1, if_pos (nI_le (Nat.le_refl _) (by omega))]
theorem markAbove_ok (hg : RCg S w) (hn : NtOK S) (hq : StI S Q w) {fu : Nat} (hf : 64 < fu) {a0 b0 : Nat} (ha : a0 < n_R S) (hb : b0 < n_R S) (harc : n_arc S a0 b0 = true) (hp : min (n_pos S a0) (n_pos S b0) = p) : ∃ w' Q2, f_X0_markAbove fu w (nI a0) (nI b0) = some w' ∧ FrK w' w ∧ StI S Q2 w' ∧ (∀ a b, Q a b = true → Q2 a b = true) ∧ (∀ a b, Q2 a b = true → Q a b = true ∨ (a < n_R S ∧ b < n_R S ∧ n_arc S a b = true ∧ p < min (n_pos S a) (n_pos S b))) ∧ (∀ t, t < n_R S → n_arc S t b0 = true → btw S t b0 a0 → Q2 t b0 = true) ∧ ∀ t, t < n_R S → n_arc S a0 t = true → btw S a0 t b0 → Q2 a0 t = true := by
  have hR := hn.2.1
  have hne := pos_ne hn ha hb (arc_ne hn ha hb harc)
  have hpa := n_pos_lt ha
  have hpb := n_pos_lt hb
  unfold f_X0_markAbove
  simp only [nm_e1, ck_t (in64 (show a0 < 64 by omega)), ck_t (in64 (show b0 < 64 by omega)), cl64 (show a0 < 64 by omega), cl64 (show b0 < 64 by omega)]
  rw [hg.2.1 a0 ha, hg.2.1 b0 hb]
  by_cases hlow : n_pos S a0 < n_pos S b0
  · rw [if_neg (nI_ge hlow (by omega)), nI_1]
    obtain ⟨w', e, f, Q2, j1, j2, j3, j4⟩ := above24 hg hn hq hf ha hb harc hlow
    have ep : p = n_pos S a0 := by omega
    rw [ep]
    refine ⟨w', Q2, by rw [e, bn_e], f, j1, j2, j3, j4, fun t ht _ hbt => ?_⟩
    have := hbt.2.2.2.1
    omega
  · rw [if_pos (nI_le (by omega) (by omega)), nI_1]
    obtain ⟨w', e, f, Q2, j1, j2, j3, j4⟩ := above85 hg hn hq hf ha hb harc (by omega)
    have ep : p = n_pos S b0 := by omega
    rw [ep]
    refine ⟨w', Q2, by rw [e, bn_e], f, j1, j2, j3, fun t ht _ hbt => ?_, j4⟩
    have := hbt.2.2.2.2
    omega
theorem settleArc_ok (hg : RCg S w) (hn : NtOK S) (hq : StI S Q w) (hl : LnI S ln w) (hs : SpI S (s1 S) w) (hol : ∀ a b, ol a b ≤ 536870912) (h : SI S so ol p P Q ln) {fu : Nat} (hf : 64 < fu) {a0 b0 : Nat} (ha : a0 < n_R S) (hb : b0 < n_R S) (harc : n_arc S a0 b0 = true) (hP : P a0 b0 = false) (hp : min (n_pos S a0) (n_pos S b0) = p) (hin : ∀ x, btw S a0 b0 x → P a0 x = true ∧ P x b0 = true) :
    ∃ w' Q2, f_X0_settleArc fu w (nI a0) (nI b0) = some (nI (if kc (n_L S a0 b0) = kc (ol a0 b0) then 0 else 1), w') ∧ FrS w' w ∧ StI S Q2 w' ∧ LnI S (upL ln a0 b0 (n_L S a0 b0)) w' ∧ SI S so ol p (addP P a0 b0) Q2 (upL ln a0 b0 (n_L S a0 b0)) ∧ (∀ a b, Q a b = true → Q2 a b = true) ∧ ∀ a b, Q2 a b = true → Q a b = true ∨ p < min (n_pos S a) (n_pos S b) := by
  have hR := hn.2.1
  obtain ⟨m, em, hm⟩ := computeArc_ok hg hn hl hs hf ha hb
  have hmL : m = n_L S a0 b0 := comp_eq (arcs_ok hn) (s1_le hn) ha hb harc hm (fun x hx => ⟨h.1 a0 x ha hx.1 hx.2.1 (hin x hx).1, h.1 x b0 hx.1 hb hx.2.2.1 (hin x hx).2⟩)
  have hold : w.1 20 (64 * a0 + b0) = nI (ol a0 b0) := by rw [(hl a0 b0 ha hb harc).1, h.2.1 a0 b0 ha hb harc hP]
  have hLle := n_L_le hn a0 b0
  have hole := hol a0 b0
  subst hmL
  unfold f_X0_settleArc f_X3_pair
  simp only [bn_e, nm_e1, ck_t (pr_in (show a0 < 64 by omega) (show b0 < 64 by omega)), pr_cl (show a0 < 64 by omega) (show b0 < 64 by omega)]
  rw [em, bn_e, hold, costOf_ok fu (show n_L S a0 b0 < 2 ^ 31 by omega), bn_e, costOf_ok fu (show ol a0 b0 < 2 ^ 31 by omega), bn_e]
  have ekc : ∀ w' : WS, (if cI (n_L S a0 b0) = cI (ol a0 b0) then some ((0 : Int32), w') else some (1, w')) = some (nI (if kc (n_L S a0 b0) = kc (ol a0 b0) then 0 else 1), w') := fun w' => by
    by_cases c : kc (n_L S a0 b0) = kc (ol a0 b0)
    · rw [if_pos (cI_kc.mpr c), if_pos c]
      rfl
    · rw [if_neg (fun hh => c (cI_kc.mp hh)), if_neg c]
      rfl
  by_cases e : n_L S a0 b0 = ol a0 b0
  · rw [if_pos (by rw [e]), ekc]
    have eu : ∀ a b, a < n_R S → b < n_R S → n_arc S a b = true → upL ln a0 b0 (n_L S a0 b0) a b = ln a b := fun a b _ _ _ => by
      unfold upL
      by_cases hh : a = a0 ∧ b = b0
      · rw [if_pos hh, hh.1, hh.2, e, h.2.1 a0 b0 ha hb harc hP]
      · rw [if_neg hh]
    refine ⟨w, Q, rfl, FrS.rf w, hq, fun a b ha hb hab => ?_, h.step (fun _ _ hh => hh) (fun _ _ hh => Or.inl hh) (fun hh => absurd e hh), fun _ _ hh => hh, fun _ _ hh => Or.inl hh⟩
    rw [eu a b ha hb hab]
    exact hl a b ha hb hab
  · rw [if_neg (fun hh => e ((nI_eq (by omega) (by omega)).mp hh))]
    have f1 : FrS (wI w 20 (64 * a0 + b0) (nI (n_L S a0 b0))) w := ⟨fun c hc => wI_n hc, fun _ _ _ => rfl⟩
    obtain ⟨w', Q2, e1, f2, q1, q2, q3, q4, q5⟩ := markAbove_ok (hg.frS f1) hn (hq.same (by rfl) (by rfl)) hf ha hb harc hp
    rw [e1, bn_e, bn_e, bn_e, ekc]
    refine ⟨w', Q2, rfl, f2.toS.trans f1, q1, fun a b ha2 hb2 hab => ?_, h.step q2 (fun a b hh => ?_) (fun _ => ⟨q4, q5⟩), q2, fun a b hh => ?_⟩
    · rw [f2.1, wI_at]
      unfold upL
      by_cases hh : a = a0 ∧ b = b0
      · rw [if_pos ⟨rfl, by rw [hh.1, hh.2]⟩, if_pos hh]
        exact ⟨rfl, hLle⟩
      · rw [if_neg (fun h2 => hh (ix_inj (by omega) (by omega) h2.2)), if_neg hh]
        exact hl a b ha2 hb2 hab
    · rcases q3 a b hh with hh | hh
      · exact Or.inl hh
      · exact Or.inr ⟨hh.1, hh.2.1, hh.2.2.1, by have := hh.2.2.2; omega⟩
    · rcases q3 a b hh with hh | hh
      · exact Or.inl hh
      · exact Or.inr hh.2.2.2
theorem chP_congr {P2 : Nat → Nat → Bool} (e : ∀ a b, a < n_R S → b < n_R S → n_arc S a b = true → P2 a b = P a b) : cn2 (chP S ol P2) (n_R S) (n_R S) = cn2 (chP S ol P) (n_R S) (n_R S) := by
  refine cn2_congr (n_R S) fun a b ha hb => ?_
  unfold chP
  by_cases harc : n_arc S a b = true
  · rw [e a b ha hb harc]
  · rw [Bool.eq_false_iff.mpr harc]
    simp
theorem SI.less {Q2 : Nat → Nat → Bool} (h : SI S so ol p P Q ln) (h1 : ∀ a b, Q2 a b = true → Q a b = true) (h2 : ∀ a b, a < n_R S → b < n_R S → n_arc S a b = true → P a b = false → Q2 a b = false → Q a b = false) : SI S so ol p P Q2 ln :=
  ⟨h.1, h.2.1, fun a b ha hb harc hp hq => h.2.2.1 a b ha hb harc hp (h2 a b ha hb harc hp hq), fun a b hq => h.2.2.2 a b (h1 a b hq)⟩
end SA
def PP (S : Nt) (p : Nat) : Nat → Nat → Bool := fun a b => decide (min (n_pos S a) (n_pos S b) < p)
/-- through: the arcs with a lower road below p, and those of p with an upper road below k -/
def PH (S : Nt) (p k : Nat) : Nat → Nat → Bool := fun a b => decide (min (n_pos S a) (n_pos S b) < p) || (decide (min (n_pos S a) (n_pos S b) = p) && decide (max (n_pos S a) (n_pos S b) < k))
section SL
variable {S : Nt} {w0 : WS} {so ol : Nat → Nat → Nat} {p : Nat}
theorem PP_iff {a b : Nat} : PP S p a b = true ↔ min (n_pos S a) (n_pos S b) < p := by
  unfold PP
  rw [decide_eq_true_eq]
theorem PH_iff {k a b : Nat} : PH S p k a b = true ↔ min (n_pos S a) (n_pos S b) < p ∨ (min (n_pos S a) (n_pos S b) = p ∧ max (n_pos S a) (n_pos S b) < k) := by
  unfold PH
  simp only [Bool.or_eq_true, Bool.and_eq_true, decide_eq_true_eq]
def LI (S : Nt) (so ol : Nat → Nat → Nat) (p : Nat) (w0 : WS) (P : Nat → Nat → Bool) (s : Nat × WS) : Prop := FrS s.2 w0 ∧ ∃ Q ln, StI S Q s.2 ∧ LnI S ln s.2 ∧ SI S so ol p P Q ln ∧ s.1 = cn2 (chP S ol P) (n_R S) (n_R S)
theorem LI.congr {P P2 : Nat → Nat → Bool} {s : Nat × WS} (h : LI S so ol p w0 P s) (e : ∀ a b, a < n_R S → b < n_R S → n_arc S a b = true → P2 a b = P a b) : LI S so ol p w0 P2 s := by
  obtain ⟨f, Q, ln, k1, k2, k3, k6⟩ := h
  exact ⟨f, Q, ln, k1, k2, k3.congr e, by rw [k6, chP_congr e]⟩
/-- is the pair marked? -/
def mkB (S : Nt) (w : WS) (a0 b0 : Nat) : Bool := if n_pos S a0 < n_pos S b0 then bL (w.2 22 a0) b0 else bL (w.2 23 b0) a0
theorem mkB_Q (hn : NtOK S) {Q : Nat → Nat → Bool} {w : WS} (hq : StI S Q w) {a0 b0 : Nat} (ha : a0 < n_R S) (hb : b0 < n_R S) (hne : a0 ≠ b0) : mkB S w a0 b0 = Q a0 b0 := by
  have hR := hn.2.1
  have hp := pos_ne hn ha hb hne
  unfold mkB
  by_cases c : n_pos S a0 < n_pos S b0
  · rw [if_pos c]
    refine bdec (StI_iff hq (show a0 < 64 by omega) (show b0 < 64 by omega)).1 ?_
    exact ⟨fun h => ⟨ha, hb, c, h⟩, fun h => h.2.2.2⟩
  · rw [if_neg c]
    refine bdec (StI_iff hq (show b0 < 64 by omega) (show a0 < 64 by omega)).2 ?_
    exact ⟨fun h => ⟨hb, ha, by omega, h⟩, fun h => h.2.2.2⟩
/-- a pair that isn't marked is through as it stands -/
theorem LI.skip (hn : NtOK S) (hA : ArcsS S so ol) {P : Nat → Nat → Bool} {s : Nat × WS} (h : LI S so ol p w0 P s) {a0 b0 : Nat} (ha : a0 < n_R S) (hb : b0 < n_R S) (hne : a0 ≠ b0) (hP : P a0 b0 = false) (hm : mkB S s.2 a0 b0 = false) (hin : ∀ x, btw S a0 b0 x → P a0 x = true ∧ P x b0 = true) : LI S so ol p w0 (addP P a0 b0) s := by
  by_cases harc : n_arc S a0 b0 = true
  · obtain ⟨f, Q, ln, k1, k2, k3, k6⟩ := h
    have hq2 : Q a0 b0 = false := by rw [← mkB_Q hn k1 ha hb hne]; exact hm
    have k := k3.skip hn hA ha hb harc hP hq2 hin
    refine ⟨f, Q, ln, k1, k2, k.2, ?_⟩
    rw [k6, chP_add ha hb harc hP, if_pos (by rw [k.1]), Nat.add_zero]
  · refine h.congr fun a b _ _ hab => bdec addP_iff ?_
    exact ⟨fun h => Or.inl h, fun h => h.resolve_right (fun h => harc (by rw [← h.1, ← h.2]; exact hab))⟩
/-- a pair that is marked is computed anew -/
theorem LI.step (hg : RCg S w0) (hn : NtOK S) (hs : SpI S (s1 S) w0) (hol : ∀ a b, ol a b ≤ 536870912) {P : Nat → Nat → Bool} {s : Nat × WS} (h : LI S so ol p w0 P s) {fu : Nat} (hf : 64 < fu) {a0 b0 : Nat} (ha : a0 < n_R S) (hb : b0 < n_R S) (hne : a0 ≠ b0) (hP : P a0 b0 = false) (hm : mkB S s.2 a0 b0 = true) (hp : min (n_pos S a0) (n_pos S b0) = p) (hin : ∀ x, btw S a0 b0 x → P a0 x = true ∧ P x b0 = true) : ∃ (x : Int32) (w' : WS), f_X0_settleArc fu s.2 (nI a0) (nI b0) = some (x, w') ∧ ∃ c, nI s.1 + x = nI c ∧ LI S so ol p w0 (addP P a0 b0) (c, w') := by
  obtain ⟨f, Q, ln, k1, k2, k3, k6⟩ := h
  have hq : Q a0 b0 = true := by rw [← mkB_Q hn k1 ha hb hne]; exact hm
  have harc := (k3.2.2.2 a0 b0 hq).2.2.1
  obtain ⟨w', Q2, e, f2, j1, j2, j3, j4, j5⟩ := settleArc_ok (hg.frS f) hn k1 k2 (hs.frS f) hol k3 hf ha hb harc hP hp hin
  refine ⟨_, w', e, s.1 + (if kc (n_L S a0 b0) = kc (ol a0 b0) then 0 else 1), nI_add _ _, f2.trans f, Q2, _, j1, j2, j3, ?_⟩
  show s.1 + _ = _
  rw [k6, chP_add ha hb harc hP]
theorem PH_hin {k a b y : Nat} {P : Nat → Nat → Bool} (hP : ∀ a b, PH S p k a b = true → P a b = true) (hm : min (n_pos S a) (n_pos S b) = p) (hy : btw S a b y) : P a y = true ∧ P y b = true := by
  have h1 := hy.2.2.2.1
  have h2 := hy.2.2.2.2
  exact ⟨hP _ _ (PH_iff.mpr (Or.inl (by omega))), hP _ _ (PH_iff.mpr (Or.inl (by omega)))⟩
theorem highLoop (hg : RCg S w0) (hn : NtOK S) (hs : SpI S (s1 S) w0) (hA : ArcsS S so ol) (hol : ∀ a b, ol a b ≤ 536870912) {fu : Nat} (hf : 64 < fu) (hp : p < n_R S) (y2 : Int32) (s0 : Nat × WS) (h0 : LI S so ol p w0 (PP S p) s0) :
    ∃ r : Int32 × WS, iter (fun q : Int32 × Int32 × WS => bd_X0_settle_49 fu y2 (nI (n_ord S p)) q.1 q.2.1 q.2.2) fu (nI s0.1, nI (p + 1), s0.2) = some r ∧ ∃ c, r.1 = nI c ∧ LI S so ol p w0 (PP S (p + 1)) (c, r.2) := by
  have hR := hn.2.1
  have hx : n_ord S p < n_R S := ctO_lt hp
  have hxp : n_pos S (n_ord S p) = p := n_pos_ord hp
  refine iter_for (fun k (s : Nat × WS) => (nI s.1, nI k, s.2)) (n_R S) (fun k s => p < k ∧ LI S so ol p w0 (PH S p k) s) (fun (r : Int32 × WS) => ∃ c, r.1 = nI c ∧ LI S so ol p w0 (PP S (p + 1)) (c, r.2)) ?_ ?_ (n_R S - (p + 1)) (p + 1) fu s0 (by omega) (by omega) ⟨Nat.lt_succ_self _, h0.congr fun a b ha hb harc => ?_⟩
  · intro k s hk ⟨i0, hI⟩
    have hgs := hg.frS hI.1
    have hy : n_ord S k < n_R S := ctO_lt hk
    have hyp : n_pos S (n_ord S k) = k := n_pos_ord hk
    have hne : n_ord S p ≠ n_ord S k := fun e => by rw [← e, hxp] at hyp; omega
    have hm1 : min (n_pos S (n_ord S p)) (n_pos S (n_ord S k)) = p := by rw [hxp, hyp]; omega
    have hm2 : min (n_pos S (n_ord S k)) (n_pos S (n_ord S p)) = p := by rw [hxp, hyp]; omega
    have hnew1 : PH S p k (n_ord S p) (n_ord S k) = false := Bool.eq_false_iff.mpr fun h => by
      rcases PH_iff.mp h with h | h
      · omega
      · have := h.2
        rw [hxp, hyp] at this
        omega
    have hnew2 : addP (PH S p k) (n_ord S p) (n_ord S k) (n_ord S k) (n_ord S p) = false := Bool.eq_false_iff.mpr fun h => by
      rcases addP_iff.mp h with h | h
      · rcases PH_iff.mp h with h | h
        · omega
        · have := h.2
          rw [hxp, hyp] at this
          omega
      · exact hne h.1.symm
    have hin1 := fun y (hy : btw S (n_ord S p) (n_ord S k) y) => PH_hin (p := p) (k := k) (P := PH S p k) (fun _ _ h => h) hm1 hy
    have hin2 := fun y (hy : btw S (n_ord S k) (n_ord S p) y) => PH_hin (p := p) (k := k) (P := addP (PH S p k) (n_ord S p) (n_ord S k)) (fun _ _ h => addP_iff.mpr (Or.inl h)) hm2 hy
    have mk1 : ∀ u : WS, mkB S u (n_ord S p) (n_ord S k) = bL (u.2 22 (n_ord S p)) (n_ord S k) := fun u => if_pos (by rw [hxp, hyp]; exact i0)
    have mk2 : ∀ u : WS, mkB S u (n_ord S k) (n_ord S p) = bL (u.2 23 (n_ord S p)) (n_ord S k) := fun u => if_neg (by rw [hxp, hyp]; omega)
    have fin : ∀ s1 : Nat × WS, LI S so ol p w0 (addP (addP (PH S p k) (n_ord S p) (n_ord S k)) (n_ord S k) (n_ord S p)) s1 → LI S so ol p w0 (PH S p (k + 1)) s1 := fun s1 h1 => h1.congr fun a b ha hb _ => by
      refine bdec PH_iff (addP_iff.trans ?_)
      rw [addP_iff, PH_iff]
      constructor
      · rintro ((h | ⟨rfl, rfl⟩) | ⟨rfl, rfl⟩)
        · exact h.imp (fun h => h) (fun h => ⟨h.1, by omega⟩)
        · exact Or.inr ⟨hm1, by rw [hxp, hyp]; omega⟩
        · exact Or.inr ⟨hm2, by rw [hxp, hyp]; omega⟩
      · rintro (h | ⟨h1, h2⟩)
        · exact Or.inl (Or.inl (Or.inl h))
        · by_cases e : max (n_pos S a) (n_pos S b) < k
          · exact Or.inl (Or.inl (Or.inr ⟨h1, e⟩))
          · by_cases e2 : n_pos S a = p
            · exact Or.inl (Or.inr ⟨ctR_inj ha hx (e2.trans hxp.symm), ctR_inj hb hy (show n_pos S b = n_pos S (n_ord S k) by omega)⟩)
            · exact Or.inr ⟨ctR_inj ha hy (show n_pos S a = n_pos S (n_ord S k) by omega), ctR_inj hb hx (show n_pos S b = n_pos S (n_ord S p) by omega)⟩
    have second : ∀ s1 : Nat × WS, LI S so ol p w0 (addP (PH S p k) (n_ord S p) (n_ord S k)) s1 → ∃ s' : Nat × WS, (ck (vp_in (nI (n_ord S p)) 64) <| nm (s1.2.2 23 (Int32.toNatClampNeg (nI (n_ord S p)))) fun x5 => bn (f_X3_has fu x5 (nI (n_ord S k))) fun x6 => if x6 = 0 then nm (nI k + 1) fun x7 => some (.inl (nI s1.1, x7, s1.2)) else bn2 (f_X0_settleArc fu s1.2 (nI (n_ord S k)) (nI (n_ord S p))) fun x9 w8 => nm (nI s1.1 + x9) fun x10 => nm (nI k + 1) fun x11 => some (.inl (x10, x11, w8)) : Option ((Int32 × Int32 × WS) ⊕ (Int32 × WS))) = some (.inl (nI s'.1, nI (k + 1), s'.2)) ∧ p < k + 1 ∧ LI S so ol p w0 (PH S p (k + 1)) s' := by
      intro s1 h1
      rw [ck_t (in64 (by omega)), nm_e1, cl64 (by omega), has_ok fu _ (show n_ord S k < 64 by omega), bn_e, if_zo]
      by_cases c : bL (s1.2.2 23 (n_ord S p)) (n_ord S k) = true
      · obtain ⟨x, w', e, cc, ec, hL⟩ := h1.step hg hn hs hol hf hy hx (fun e => hne e.symm) hnew2 (by rw [mk2]; exact c) hm2 hin2
        rw [if_pos c, e, bn2_e, nm_e1, nm_e1, ec, nI_1]
        exact ⟨(cc, w'), rfl, by omega, fin _ hL⟩
      · rw [if_neg c, nm_e1, nI_1]
        exact ⟨s1, rfl, by omega, fin _ (h1.skip hn hA hy hx (fun e => hne e.symm) hnew2 (by rw [mk2]; exact Bool.eq_false_iff.mpr c) hin2)⟩
    show ∃ s' : Nat × WS, bd_X0_settle_49 fu y2 (nI (n_ord S p)) (nI s.1) (nI k) s.2 = some (.inl (nI s'.1, nI (k + 1), s'.2)) ∧ _
    unfold bd_X0_settle_49
    rw [nm_e1, hgs.1, if_neg (nI_ge hk (by omega)), ck_t (in64 (by omega)), nm_e1, cl64 (show k < 64 by omega), hgs.2.2.1 k hk, ck_t (in64 (by omega)), nm_e1, cl64 (show n_ord S p < 64 by omega), has_ok fu _ (show n_ord S k < 64 by omega), bn_e, if_zo]
    by_cases c : bL (s.2.2 22 (n_ord S p)) (n_ord S k) = true
    · obtain ⟨x, w', e, cc, ec, hL⟩ := hI.step hg hn hs hol hf hx hy hne hnew1 (by rw [mk1]; exact c) hm1 hin1
      rw [if_pos c, e, bn2_e, nm_e1, ec]
      have k2 := second (cc, w') hL
      rw [cl64 (show n_ord S p < 64 by omega)] at k2
      exact k2
    · rw [if_neg c]
      have k2 := second s (hI.skip hn hA hx hy hne hnew1 (by rw [mk1]; exact Bool.eq_false_iff.mpr c) hin1)
      rw [cl64 (show n_ord S p < 64 by omega)] at k2
      exact k2
  · intro s ⟨i0, hI⟩
    refine ⟨(nI s.1, s.2), ?_, s.1, rfl, hI.congr fun a b ha hb harc => ?_⟩
    · show bd_X0_settle_49 fu y2 (nI (n_ord S p)) (nI s.1) (nI (n_R S)) s.2 = _
      unfold bd_X0_settle_49
      rw [nm_e1, (hg.frS hI.1).1, if_pos (nI_le (Nat.le_refl _) (by omega))]
    · have h1 := n_pos_lt ha
      have h2 := n_pos_lt hb
      refine bdec PP_iff (PH_iff.trans ?_)
      omega
  · have h1 := pos_ne hn ha hb (arc_ne hn ha hb harc)
    refine bdec PH_iff (PP_iff.trans ?_)
    omega
end SL
