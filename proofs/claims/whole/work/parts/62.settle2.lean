/-! the class: settle -/
def FrS (u v : WS) : Prop := (∀ c, c ≠ 20 → u.1 c = v.1 c) ∧ ∀ c, c ≠ 22 → c ≠ 23 → u.2 c = v.2 c
theorem FrS.rf (v : WS) : FrS v v := ⟨fun _ _ => rfl, fun _ _ _ => rfl⟩
theorem FrS.trans {u v w : WS} (h : FrS u v) (h2 : FrS v w) : FrS u w := ⟨fun c a => (h.1 c a).trans (h2.1 c a), fun c a b => (h.2 c a b).trans (h2.2 c a b)⟩
theorem FrK.toS {u v : WS} (h : FrK u v) : FrS u v := ⟨fun c _ => by rw [h.1], h.2⟩
theorem RCg.frS {S : Nt} {u w : WS} (h : RCg S w) (f : FrS u w) : RCg S u := h.same (f.1 2 (by decide)) (f.1 15 (by decide)) (f.1 16 (by decide)) (f.2 17 (by decide) (by decide)) (f.2 18 (by decide) (by decide)) (f.2 19 (by decide) (by decide))
theorem SpI.frS {S : Nt} {st : Nat → Nat → Nat} {u w : WS} (h : SpI S st w) (f : FrS u w) : SpI S st u := by
  unfold SpI
  rw [f.1 21 (by decide)]
  exact h
theorem LnI.same {S : Nt} {ln : Nat → Nat → Nat} {u w : WS} (h : LnI S ln w) (e : u.1 20 = w.1 20) : LnI S ln u := by
  unfold LnI
  rw [e]
  exact h
section SA
variable {S : Nt} {w : WS} {so ol ln : Nat → Nat → Nat} {P Q : Nat → Nat → Bool} {p : Nat}
theorem arc_ne (hn : NtOK S) {a b : Nat} (ha : a < n_R S) (hb : b < n_R S) (h : n_arc S a b = true) : a ≠ b := (arcs_ok hn).2.2.2.2.1 a b ha hb h
theorem markAbove_ok (hg : RCg S w) (hn : NtOK S) (hq : StI S Q w) {fu : Nat} (hf : 64 < fu) {a0 b0 : Nat} (ha : a0 < n_R S) (hb : b0 < n_R S) (harc : n_arc S a0 b0 = true) (hp : min (n_pos S a0) (n_pos S b0) = p) : ∃ w' Q2, f_X0_markAbove fu w (nI a0) (nI b0) = some w' ∧ FrK w' w ∧ StI S Q2 w' ∧ (∀ a b, Q a b = true → Q2 a b = true) ∧ (∀ a b, Q2 a b = true → Q a b = true ∨ (a < n_R S ∧ b < n_R S ∧ n_arc S a b = true ∧ p < min (n_pos S a) (n_pos S b))) ∧ (∀ t, t < n_R S → n_arc S t b0 = true → btw S t b0 a0 → Q2 t b0 = true) ∧ ∀ t, t < n_R S → n_arc S a0 t = true → btw S a0 t b0 → Q2 a0 t = true := by
  have hR := hn.2.1
  have hne := pos_ne hn ha hb (arc_ne hn ha hb harc)
  unfold f_X0_markAbove
  simp only [nm_e1, ck_t (in64 (show a0 < 64 by omega)), ck_t (in64 (show b0 < 64 by omega)), cl64 (show a0 < 64 by omega), cl64 (show b0 < 64 by omega)]
  rw [has_ok fu _ (show a0 < 64 by omega), bn_e, if_zo, hg.2.2.2.1 b0 a0 hb (by omega), decide_eq_true ha, Bool.true_and]
  by_cases hlow : n_pos S a0 < n_pos S b0
  · rw [if_pos (decide_eq_true hlow), only_ok, bn_e]
    have bits : ∀ i, i < 64 → (bL ((w.2 19 a0 &&& (w.2 17 a0 ^^^ (-1))) &&& (((1 : Int64) <<< ((nI b0).toInt64 &&& 63)) ^^^ (-1))) i = true ↔ i < n_R S ∧ n_arc S i a0 = true ∧ ¬ n_pos S i < n_pos S a0 ∧ i ≠ b0) := fun i hi => by
      rw [bL_and, bL_and, bL_not _ hi, bL_not _ hi, hg.2.2.2.2.2 a0 i ha hi, hg.2.2.2.1 a0 i ha hi, bL_one (by omega)]
      simp only [Bool.and_eq_true, decide_eq_true_eq, Bool.not_eq_true', Bool.and_eq_false_imp, decide_eq_false_iff_not]
      exact ⟨fun h => ⟨h.1.1.1, h.1.1.2, h.1.2 h.1.1.1, h.2⟩, fun h => ⟨⟨⟨h.1, h.2.1⟩, fun _ => h.2.2.1⟩, h.2.2.2⟩⟩
    obtain ⟨w', e, f, q⟩ := markTails_ok hg hn hq hf hb ((w.2 19 a0 &&& (w.2 17 a0 ^^^ (-1))) &&& (((1 : Int64) <<< ((nI b0).toInt64 &&& 63)) ^^^ (-1))) (fun i hi hx => ⟨((bits i hi).mp hx).1, ((bits i hi).mp hx).2.2.2⟩)
    refine ⟨w', _, by rw [e, bn_e], f, q, fun a b hab => by simp [hab], fun a b hab => ?_, fun t ht harct hbt => ?_, fun t ht _ hbt => ?_⟩
    · simp only [Bool.or_eq_true, Bool.and_eq_true, beq_iff_eq] at hab
      rcases hab with hab | ⟨hx, rfl⟩
      · exact Or.inl hab
      · right
        have hi : a < 64 := by
          apply Nat.lt_of_not_le
          intro hge
          rw [bL_big hge] at hx
          cases hx
        have k := (bits a hi).mp hx
        have n1 := pos_ne hn k.1 ha (arc_ne hn k.1 ha k.2.1)
        exact ⟨k.1, hb, n_close k.1 ha hb k.2.1 harc (by omega) hlow k.2.2.2, by omega⟩
    · have hx := (bits t (by omega)).mpr ⟨ht, hbt.2.1, by have := hbt.2.2.2.1; omega, arc_ne hn ht hb harct⟩
      rw [hx]
      simp
    · have := hbt.2.2.2.1
      omega
  · rw [if_neg (by simpa using hlow), only_ok, bn_e]
    have bits : ∀ i, i < 64 → (bL ((w.2 18 b0 &&& (w.2 17 b0 ^^^ (-1))) &&& (((1 : Int64) <<< ((nI a0).toInt64 &&& 63)) ^^^ (-1))) i = true ↔ i < n_R S ∧ n_arc S b0 i = true ∧ ¬ n_pos S i < n_pos S b0 ∧ i ≠ a0) := fun i hi => by
      rw [bL_and, bL_and, bL_not _ hi, bL_not _ hi, hg.2.2.2.2.1 b0 i hb hi, hg.2.2.2.1 b0 i hb hi, bL_one (by omega)]
      simp only [Bool.and_eq_true, decide_eq_true_eq, Bool.not_eq_true', Bool.and_eq_false_imp, decide_eq_false_iff_not]
      exact ⟨fun h => ⟨h.1.1.1, h.1.1.2, h.1.2 h.1.1.1, h.2⟩, fun h => ⟨⟨⟨h.1, h.2.1⟩, fun _ => h.2.2.1⟩, h.2.2.2⟩⟩
    obtain ⟨w', e, f, q⟩ := markHeads_ok hg hn hq hf ha ((w.2 18 b0 &&& (w.2 17 b0 ^^^ (-1))) &&& (((1 : Int64) <<< ((nI a0).toInt64 &&& 63)) ^^^ (-1))) (fun i hi hx => ⟨((bits i hi).mp hx).1, ((bits i hi).mp hx).2.2.2⟩)
    refine ⟨w', _, by rw [e, bn_e], f, q, fun a b hab => by simp [hab], fun a b hab => ?_, fun t ht _ hbt => ?_, fun t ht harct hbt => ?_⟩
    · simp only [Bool.or_eq_true, Bool.and_eq_true, beq_iff_eq] at hab
      rcases hab with hab | ⟨rfl, hx⟩
      · exact Or.inl hab
      · right
        have hi : b < 64 := by
          apply Nat.lt_of_not_le
          intro hge
          rw [bL_big hge] at hx
          cases hx
        have k := (bits b hi).mp hx
        have n1 := pos_ne hn k.1 hb (arc_ne hn hb k.1 k.2.1).symm
        exact ⟨ha, k.1, n_close ha hb k.1 harc k.2.1 (by omega) (by omega) k.2.2.2.symm, by omega⟩
    · have := hbt.2.2.2.2
      omega
    · have hx := (bits t (by omega)).mpr ⟨ht, hbt.2.2.1, by have := hbt.2.2.2.2; omega, (arc_ne hn ha ht harct).symm⟩
      rw [hx]
      simp
theorem settleArc_ok (hg : RCg S w) (hn : NtOK S) (hq : StI S Q w) (hl : LnI S ln w) (hs : SpI S (s1 S) w) (hol : ∀ a b, ol a b ≤ 536870912) (h : SI S so ol p P Q ln) {fu : Nat} (hf : 64 < fu) {a0 b0 : Nat} (ha : a0 < n_R S) (hb : b0 < n_R S) (harc : n_arc S a0 b0 = true) (hP : P a0 b0 = false) (hp : min (n_pos S a0) (n_pos S b0) = p) (hin : ∀ x, btw S a0 b0 x → P a0 x = true ∧ P x b0 = true) :
    ∃ w' Q2, f_X0_settleArc fu w (nI a0) (nI b0) = some (nI (if kc (n_L S a0 b0) = kc (ol a0 b0) then 0 else 1), w') ∧ FrS w' w ∧ StI S Q2 w' ∧ LnI S (upL ln a0 b0 (n_L S a0 b0)) w' ∧ SI S so ol p (addP P a0 b0) Q2 (upL ln a0 b0 (n_L S a0 b0)) ∧ (∀ a b, Q a b = true → Q2 a b = true) ∧ ∀ a b, Q2 a b = true → Q a b = true ∨ p < min (n_pos S a) (n_pos S b) := by
  have hR := hn.2.1
  obtain ⟨m, em, hm⟩ := computeArc_ok hg hn hl hs hf ha hb
  have hmL : m = n_L S a0 b0 := comp_eq (arcs_ok hn) (s1_le hn) ha hb harc hm (fun x hx => ⟨h.1 a0 x ha hx.1 hx.2.1 (hin x hx).1, h.1 x b0 hx.1 hb hx.2.2.1 (hin x hx).2⟩)
  have hold : w.1 20 (64 * a0 + b0) = nI (ol a0 b0) := by rw [(hl a0 b0 ha hb harc).1, h.2.1 a0 b0 ha hb harc hP]
  have hLle := n_L_le hn a0 b0
  have hole := hol a0 b0
  subst hmL
  unfold f_X0_settleArc f_X3_pair
  simp only [bn_e, nm_e1, ck_t (pr_in (show a0 < 64 by omega) (show b0 < 64 by omega)), pr_cl (show a0 < 64 by omega) (show b0 < 64 by omega)]
  rw [em, bn_e, hold, costOf_ok fu (show n_L S a0 b0 < 2 ^ 31 by omega), bn_e, costOf_ok fu (show ol a0 b0 < 2 ^ 31 by omega), bn_e]
  have ekc : ∀ w' : WS, (if cI (n_L S a0 b0) = cI (ol a0 b0) then some ((0 : Int32), w') else some (1, w')) = some (nI (if kc (n_L S a0 b0) = kc (ol a0 b0) then 0 else 1), w') := fun w' => by
    by_cases c : kc (n_L S a0 b0) = kc (ol a0 b0)
    · rw [if_pos (cI_kc.mpr c), if_pos c]
      rfl
    · rw [if_neg (fun hh => c (cI_kc.mp hh)), if_neg c]
      rfl
  by_cases e : n_L S a0 b0 = ol a0 b0
  · rw [if_pos (by rw [e]), ekc]
    have eu : ∀ a b, a < n_R S → b < n_R S → n_arc S a b = true → upL ln a0 b0 (n_L S a0 b0) a b = ln a b := fun a b _ _ _ => by
      unfold upL
      by_cases hh : a = a0 ∧ b = b0
      · rw [if_pos hh, hh.1, hh.2, e, h.2.1 a0 b0 ha hb harc hP]
      · rw [if_neg hh]
    refine ⟨w, Q, rfl, FrS.rf w, hq, fun a b ha hb hab => ?_, h.step (fun _ _ hh => hh) (fun _ _ hh => Or.inl hh) (fun hh => absurd e hh), fun _ _ hh => hh, fun _ _ hh => Or.inl hh⟩
    rw [eu a b ha hb hab]
    exact hl a b ha hb hab
  · rw [if_neg (fun hh => e ((nI_eq (by omega) (by omega)).mp hh))]
    have f1 : FrS (wI w 20 (64 * a0 + b0) (nI (n_L S a0 b0))) w := ⟨fun c hc => wI_n hc, fun _ _ _ => rfl⟩
    obtain ⟨w', Q2, e1, f2, q1, q2, q3, q4, q5⟩ := markAbove_ok (hg.frS f1) hn (hq.same (by rfl) (by rfl)) hf ha hb harc hp
    rw [e1, bn_e, bn_e, bn_e, ekc]
    refine ⟨w', Q2, rfl, f2.toS.trans f1, q1, fun a b ha2 hb2 hab => ?_, h.step q2 (fun a b hh => ?_) (fun _ => ⟨q4, q5⟩), q2, fun a b hh => ?_⟩
    · rw [f2.1, wI_at]
      unfold upL
      by_cases hh : a = a0 ∧ b = b0
      · rw [if_pos ⟨rfl, by rw [hh.1, hh.2]⟩, if_pos hh]
        exact ⟨rfl, hLle⟩
      · rw [if_neg (fun h2 => hh (ix_inj (by omega) (by omega) h2.2)), if_neg hh]
        exact hl a b ha2 hb2 hab
    · rcases q3 a b hh with hh | hh
      · exact Or.inl hh
      · exact Or.inr ⟨hh.1, hh.2.1, hh.2.2.1, by have := hh.2.2.2; omega⟩
    · rcases q3 a b hh with hh | hh
      · exact Or.inl hh
      · exact Or.inr hh.2.2.2
theorem chP_congr {P2 : Nat → Nat → Bool} (e : ∀ a b, a < n_R S → b < n_R S → n_arc S a b = true → P2 a b = P a b) : cn2 (chP S ol P2) (n_R S) (n_R S) = cn2 (chP S ol P) (n_R S) (n_R S) := by
  refine cn2_congr (n_R S) fun a b ha hb => ?_
  unfold chP
  by_cases harc : n_arc S a b = true
  · rw [e a b ha hb harc]
  · rw [Bool.eq_false_iff.mpr harc]
    simp
theorem SI.less {Q2 : Nat → Nat → Bool} (h : SI S so ol p P Q ln) (h1 : ∀ a b, Q2 a b = true → Q a b = true) (h2 : ∀ a b, a < n_R S → b < n_R S → n_arc S a b = true → P a b = false → Q2 a b = false → Q a b = false) : SI S so ol p P Q2 ln :=
  ⟨h.1, h.2.1, fun a b ha hb harc hp hq => h.2.2.1 a b ha hb harc hp (h2 a b ha hb harc hp hq), fun a b hq => h.2.2.2 a b (h1 a b hq)⟩
end SA
def PP (S : Nt) (p : Nat) : Nat → Nat → Bool := fun a b => decide (min (n_pos S a) (n_pos S b) < p)
def P1 (S : Nt) (p k : Nat) : Nat → Nat → Bool := fun a b => decide (min (n_pos S a) (n_pos S b) < p) || (decide (n_pos S a = p) && decide (p < n_pos S b) && decide (b < k))
def P2 (S : Nt) (p k : Nat) : Nat → Nat → Bool := fun a b => decide (min (n_pos S a) (n_pos S b) < p) || (decide (n_pos S a = p) && decide (p < n_pos S b)) || (decide (n_pos S b = p) && decide (p < n_pos S a) && decide (a < k))
theorem bdec {b : Bool} {c : Prop} (h : b = true ↔ c) {d : Bool} (h2 : d = true ↔ c) : b = d := by
  cases b <;> cases d <;> simp_all
section SL
variable {S : Nt} {w0 : WS} {so ol : Nat → Nat → Nat} {Q0 : Nat → Nat → Bool} {p : Nat}
theorem P1_iff {k a b : Nat} : P1 S p k a b = true ↔ min (n_pos S a) (n_pos S b) < p ∨ (n_pos S a = p ∧ p < n_pos S b ∧ b < k) := by
  unfold P1
  simp only [Bool.or_eq_true, Bool.and_eq_true, decide_eq_true_eq]
  exact ⟨fun h => h.imp (fun h => h) (fun h => ⟨h.1.1, h.1.2, h.2⟩), fun h => h.imp (fun h => h) (fun h => ⟨⟨h.1, h.2.1⟩, h.2.2⟩)⟩
theorem P2_iff {k a b : Nat} : P2 S p k a b = true ↔ min (n_pos S a) (n_pos S b) < p ∨ (n_pos S a = p ∧ p < n_pos S b) ∨ (n_pos S b = p ∧ p < n_pos S a ∧ a < k) := by
  unfold P2
  simp only [Bool.or_eq_true, Bool.and_eq_true, decide_eq_true_eq]
  constructor
  · rintro ((h | h) | h)
    · exact Or.inl h
    · exact Or.inr (Or.inl h)
    · exact Or.inr (Or.inr ⟨h.1.1, h.1.2, h.2⟩)
  · rintro (h | h | h)
    · exact Or.inl (Or.inl h)
    · exact Or.inl (Or.inr h)
    · exact Or.inr ⟨⟨h.1, h.2.1⟩, h.2.2⟩
theorem addP_iff {P : Nat → Nat → Bool} {a0 b0 a b : Nat} : addP P a0 b0 a b = true ↔ P a b = true ∨ (a = a0 ∧ b = b0) := by
  unfold addP
  simp only [Bool.or_eq_true, Bool.and_eq_true, beq_iff_eq]
/-- what holds in the loop over heads, and in the loop over tails -/
def LI (S : Nt) (so ol : Nat → Nat → Nat) (p : Nat) (w0 : WS) (Q0 P : Nat → Nat → Bool) (s : Nat × WS) : Prop := FrS s.2 w0 ∧ ∃ Q ln, StI S Q s.2 ∧ LnI S ln s.2 ∧ SI S so ol p P Q ln ∧ (∀ a b, Q0 a b = true → Q a b = true) ∧ (∀ a b, Q a b = true → Q0 a b = true ∨ p < min (n_pos S a) (n_pos S b)) ∧ s.1 = cn2 (chP S ol P) (n_R S) (n_R S)
theorem LI.congr {P P2 : Nat → Nat → Bool} {s : Nat × WS} (h : LI S so ol p w0 Q0 P s) (e : ∀ a b, a < n_R S → b < n_R S → n_arc S a b = true → P2 a b = P a b) : LI S so ol p w0 Q0 P2 s := by
  obtain ⟨f, Q, ln, k1, k2, k3, k4, k5, k6⟩ := h
  exact ⟨f, Q, ln, k1, k2, k3.congr e, k4, k5, by rw [k6, chP_congr e]⟩
/-- one more arc is through -/
theorem LI.skip (hn : NtOK S) (hA : ArcsS S so ol) {P : Nat → Nat → Bool} {s : Nat × WS} (h : LI S so ol p w0 Q0 P s) {a0 b0 : Nat} (ha : a0 < n_R S) (hb : b0 < n_R S) (harc : n_arc S a0 b0 = true) (hP : P a0 b0 = false) (hp : min (n_pos S a0) (n_pos S b0) = p) (hq : Q0 a0 b0 = false) (hin : ∀ x, btw S a0 b0 x → P a0 x = true ∧ P x b0 = true) : LI S so ol p w0 Q0 (addP P a0 b0) s := by
  obtain ⟨f, Q, ln, k1, k2, k3, k4, k5, k6⟩ := h
  have hq2 : Q a0 b0 = false := Bool.eq_false_iff.mpr fun hh => by
    rcases k5 a0 b0 hh with h2 | h2
    · rw [hq] at h2; cases h2
    · omega
  have k := k3.skip hn hA ha hb harc hP hq2 hin
  refine ⟨f, Q, ln, k1, k2, k.2, k4, k5, ?_⟩
  rw [k6, chP_add ha hb harc hP, if_pos (by rw [k.1]), Nat.add_zero]
theorem LI.step (hg : RCg S w0) (hn : NtOK S) (hs : SpI S (s1 S) w0) (hol : ∀ a b, ol a b ≤ 536870912) {P : Nat → Nat → Bool} {s : Nat × WS} (h : LI S so ol p w0 Q0 P s) {fu : Nat} (hf : 64 < fu) {a0 b0 : Nat} (ha : a0 < n_R S) (hb : b0 < n_R S) (harc : n_arc S a0 b0 = true) (hP : P a0 b0 = false) (hp : min (n_pos S a0) (n_pos S b0) = p) (hin : ∀ x, btw S a0 b0 x → P a0 x = true ∧ P x b0 = true) : ∃ (x : Int32) (w' : WS), f_X0_settleArc fu s.2 (nI a0) (nI b0) = some (x, w') ∧ ∃ c, nI s.1 + x = nI c ∧ LI S so ol p w0 Q0 (addP P a0 b0) (c, w') := by
  obtain ⟨f, Q, ln, k1, k2, k3, k4, k5, k6⟩ := h
  obtain ⟨w', Q2, e, f2, j1, j2, j3, j4, j5⟩ := settleArc_ok (hg.frS f) hn k1 k2 (hs.frS f) hol k3 hf ha hb harc hP hp hin
  refine ⟨_, w', e, s.1 + (if kc (n_L S a0 b0) = kc (ol a0 b0) then 0 else 1), nI_add _ _, f2.trans f, Q2, _, j1, j2, j3, fun a b hh => j4 a b (k4 a b hh), fun a b hh => ?_, ?_⟩
  · rcases j5 a b hh with hh | hh
    · exact k5 a b hh
    · exact Or.inr hh
  · show s.1 + _ = _
    rw [k6, chP_add ha hb harc hP]
theorem headLoop (hg : RCg S w0) (hn : NtOK S) (hs : SpI S (s1 S) w0) (hA : ArcsS S so ol) (hol : ∀ a b, ol a b ≤ 536870912) {fu : Nat} (hf : 64 < fu) (hp : p < n_R S) (y2 : Int32) (X : Int64) (hX : ∀ i, i < 64 → (bL X i = true ↔ i < n_R S ∧ n_arc S (n_ord S p) i = true ∧ p < n_pos S i ∧ Q0 (n_ord S p) i = true)) (s0 : Nat × WS) (h0 : LI S so ol p w0 Q0 (PP S p) s0) :
    ∃ r : Int32 × WS, iter (fun q : Int32 × Int32 × WS => bd_X0_settle_35 fu y2 (nI (n_ord S p)) X q.1 q.2.1 q.2.2) fu (nI s0.1, nI (nxt (bL X) 0), s0.2) = some r ∧ ∃ c, r.1 = nI c ∧ LI S so ol p w0 Q0 (P2 S p 0) (c, r.2) := by
  have hR := hn.2.1
  have hx : n_ord S p < n_R S := ctO_lt hp
  have hxp : n_pos S (n_ord S p) = p := n_pos_ord hp
  have hinj : ∀ a, a < n_R S → n_pos S a = p → a = n_ord S p := fun a ha e => ctR_inj ha hx (e.trans hxp.symm)
  have add1 : ∀ k, k < n_R S → p < n_pos S k → ∀ a b, a < n_R S → b < n_R S → n_arc S a b = true → P1 S p (k + 1) a b = addP (P1 S p k) (n_ord S p) k a b := by
    intro k hk hkp a b ha hb _
    refine bdec P1_iff (addP_iff.trans ?_)
    rw [P1_iff]
    constructor
    · rintro ((h | h) | ⟨rfl, rfl⟩)
      · exact Or.inl h
      · exact Or.inr ⟨h.1, h.2.1, by omega⟩
      · exact Or.inr ⟨hxp, hkp, by omega⟩
    · rintro (h | h)
      · exact Or.inl (Or.inl h)
      · by_cases e : b = k
        · exact Or.inr ⟨hinj a ha h.1, e⟩
        · exact Or.inl (Or.inr ⟨h.1, h.2.1, by omega⟩)
  have hin : ∀ k y, btw S (n_ord S p) k y → ∀ k', P1 S p k' (n_ord S p) y = true ∧ P1 S p k' y k = true := fun k y hy k' => by
    have := hy.2.2.2.1
    rw [hxp] at this
    exact ⟨P1_iff.mpr (Or.inl (by omega)), P1_iff.mpr (Or.inl (by omega))⟩
  have hnew : ∀ k, p < n_pos S k → P1 S p k (n_ord S p) k = false := fun k hk => by
    apply Bool.eq_false_iff.mpr
    intro h
    rcases P1_iff.mp h with h | h
    · rw [hxp] at h; omega
    · omega
  refine iter_set0 (fun k (s : Nat × WS) => (nI s.1, nI k, s.2)) (bL X) (fun k s => LI S so ol p w0 Q0 (P1 S p k) s) (fun (r : Int32 × WS) => ∃ c, r.1 = nI c ∧ LI S so ol p w0 Q0 (P2 S p 0) (c, r.2)) ?_ ?_ ?_ hf s0 ?_
  · intro k s hk hbit hI
    have hb := (hX k hk).mp hbit
    obtain ⟨x, w', e, c, ec, hL⟩ := hI.step hg hn hs hol hf hx hb.1 hb.2.1 (hnew k hb.2.2.1) (by rw [hxp]; omega) (fun y hy => hin k y hy k)
    refine ⟨(c, w'), ?_, hL.congr (add1 k hb.1 hb.2.2.1)⟩
    show bd_X0_settle_35 fu y2 (nI (n_ord S p)) X (nI s.1) (nI k) s.2 = _
    unfold bd_X0_settle_35
    rw [if_neg (show ¬ (64 : Int32) ≤ nI k from nI_ge (b := 64) hk (by decide)), e, bn2_e, nm_e1, ec, next1_ok fu X hk, bn_e]
  · intro k s hk hbit hI
    by_cases hc : k < n_R S ∧ n_arc S (n_ord S p) k = true ∧ p < n_pos S k
    · have hq : Q0 (n_ord S p) k = false := Bool.eq_false_iff.mpr fun hh => by
        have := (hX k hk).mpr ⟨hc.1, hc.2.1, hc.2.2, hh⟩
        rw [hbit] at this
        cases this
      exact (hI.skip hn hA hx hc.1 hc.2.1 (hnew k hc.2.2) (by rw [hxp]; omega) hq (fun y hy => hin k y hy k)).congr (add1 k hc.1 hc.2.2)
    · refine hI.congr fun a b ha hb harc => ?_
      refine bdec P1_iff (P1_iff.trans ?_)
      constructor
      · rintro (h | h)
        · exact Or.inl h
        · exact Or.inr ⟨h.1, h.2.1, by omega⟩
      · rintro (h | h)
        · exact Or.inl h
        · by_cases e : b = k
          · exfalso
            subst e
            exact hc ⟨hb, by rw [← hinj a ha h.1]; exact harc, h.2.1⟩
          · exact Or.inr ⟨h.1, h.2.1, by omega⟩
  · intro s hI
    refine ⟨(nI s.1, s.2), ?_, s.1, rfl, hI.congr fun a b ha hb _ => ?_⟩
    · show bd_X0_settle_35 fu y2 (nI (n_ord S p)) X (nI s.1) (nI 64) s.2 = _
      unfold bd_X0_settle_35
      rw [if_pos (show (64 : Int32) ≤ nI 64 by decide)]
    · refine bdec P2_iff (P1_iff.trans ?_)
      constructor
      · rintro (h | h)
        · exact Or.inl h
        · exact Or.inr (Or.inl ⟨h.1, h.2.1⟩)
      · rintro (h | h | h)
        · exact Or.inl h
        · exact Or.inr ⟨h.1, h.2, by omega⟩
        · omega
  · refine h0.congr fun a b ha hb _ => ?_
    refine bdec P1_iff (d := PP S p a b) ?_
    unfold PP
    rw [decide_eq_true_eq]
    constructor
    · exact fun h => Or.inl h
    · rintro (h | h)
      · exact h
      · omega
theorem tailLoop (hg : RCg S w0) (hn : NtOK S) (hs : SpI S (s1 S) w0) (hA : ArcsS S so ol) (hol : ∀ a b, ol a b ≤ 536870912) {fu : Nat} (hf : 64 < fu) (hp : p < n_R S) (y2 : Int32) (X : Int64) (hX : ∀ i, i < 64 → (bL X i = true ↔ i < n_R S ∧ n_arc S i (n_ord S p) = true ∧ p < n_pos S i ∧ Q0 i (n_ord S p) = true)) (s0 : Nat × WS) (h0 : LI S so ol p w0 Q0 (P2 S p 0) s0) :
    ∃ r : Int32 × WS, iter (fun q : Int32 × Int32 × WS => bd_X0_settle_89 fu y2 (nI (n_ord S p)) X q.1 q.2.1 q.2.2) fu (nI s0.1, nI (nxt (bL X) 0), s0.2) = some r ∧ ∃ c, r.1 = nI c ∧ LI S so ol p w0 Q0 (PP S (p + 1)) (c, r.2) := by
  have hR := hn.2.1
  have hx : n_ord S p < n_R S := ctO_lt hp
  have hxp : n_pos S (n_ord S p) = p := n_pos_ord hp
  have hinj : ∀ a, a < n_R S → n_pos S a = p → a = n_ord S p := fun a ha e => ctR_inj ha hx (e.trans hxp.symm)
  have add1 : ∀ k, k < n_R S → p < n_pos S k → ∀ a b, a < n_R S → b < n_R S → n_arc S a b = true → P2 S p (k + 1) a b = addP (P2 S p k) k (n_ord S p) a b := by
    intro k hk hkp a b ha hb _
    refine bdec P2_iff (addP_iff.trans ?_)
    rw [P2_iff]
    constructor
    · rintro ((h | h | h) | ⟨rfl, rfl⟩)
      · exact Or.inl h
      · exact Or.inr (Or.inl h)
      · exact Or.inr (Or.inr ⟨h.1, h.2.1, by omega⟩)
      · exact Or.inr (Or.inr ⟨hxp, hkp, by omega⟩)
    · rintro (h | h | h)
      · exact Or.inl (Or.inl h)
      · exact Or.inl (Or.inr (Or.inl h))
      · by_cases e : a = k
        · exact Or.inr ⟨e, hinj b hb h.1⟩
        · exact Or.inl (Or.inr (Or.inr ⟨h.1, h.2.1, by omega⟩))
  have hin : ∀ k y, btw S k (n_ord S p) y → ∀ k', P2 S p k' k y = true ∧ P2 S p k' y (n_ord S p) = true := fun k y hy k' => by
    have := hy.2.2.2.2
    rw [hxp] at this
    exact ⟨P2_iff.mpr (Or.inl (by omega)), P2_iff.mpr (Or.inl (by omega))⟩
  have hnew : ∀ k, p < n_pos S k → P2 S p k k (n_ord S p) = false := fun k hk => by
    apply Bool.eq_false_iff.mpr
    intro h
    rcases P2_iff.mp h with h | h | h
    · rw [hxp] at h; omega
    · omega
    · omega
  refine iter_set0 (fun k (s : Nat × WS) => (nI s.1, nI k, s.2)) (bL X) (fun k s => LI S so ol p w0 Q0 (P2 S p k) s) (fun (r : Int32 × WS) => ∃ c, r.1 = nI c ∧ LI S so ol p w0 Q0 (PP S (p + 1)) (c, r.2)) ?_ ?_ ?_ hf s0 h0
  · intro k s hk hbit hI
    have hb := (hX k hk).mp hbit
    obtain ⟨x, w', e, c, ec, hL⟩ := hI.step hg hn hs hol hf hb.1 hx hb.2.1 (hnew k hb.2.2.1) (by rw [hxp]; omega) (fun y hy => hin k y hy k)
    refine ⟨(c, w'), ?_, hL.congr (add1 k hb.1 hb.2.2.1)⟩
    show bd_X0_settle_89 fu y2 (nI (n_ord S p)) X (nI s.1) (nI k) s.2 = _
    unfold bd_X0_settle_89
    rw [if_neg (show ¬ (64 : Int32) ≤ nI k from nI_ge (b := 64) hk (by decide)), e, bn2_e, nm_e1, ec, next1_ok fu X hk, bn_e]
  · intro k s hk hbit hI
    by_cases hc : k < n_R S ∧ n_arc S k (n_ord S p) = true ∧ p < n_pos S k
    · have hq : Q0 k (n_ord S p) = false := Bool.eq_false_iff.mpr fun hh => by
        have := (hX k hk).mpr ⟨hc.1, hc.2.1, hc.2.2, hh⟩
        rw [hbit] at this
        cases this
      exact (hI.skip hn hA hc.1 hx hc.2.1 (hnew k hc.2.2) (by rw [hxp]; omega) hq (fun y hy => hin k y hy k)).congr (add1 k hc.1 hc.2.2)
    · refine hI.congr fun a b ha hb harc => ?_
      refine bdec P2_iff (P2_iff.trans ?_)
      constructor
      · rintro (h | h | h)
        · exact Or.inl h
        · exact Or.inr (Or.inl h)
        · exact Or.inr (Or.inr ⟨h.1, h.2.1, by omega⟩)
      · rintro (h | h | h)
        · exact Or.inl h
        · exact Or.inr (Or.inl h)
        · by_cases e : a = k
          · exfalso
            subst e
            exact hc ⟨ha, by rw [← hinj b hb h.1]; exact harc, h.2.1⟩
          · exact Or.inr (Or.inr ⟨h.1, h.2.1, by omega⟩)
  · intro s hI
    refine ⟨(nI s.1, s.2), ?_, s.1, rfl, hI.congr fun a b ha hb harc => ?_⟩
    · show bd_X0_settle_89 fu y2 (nI (n_ord S p)) X (nI s.1) (nI 64) s.2 = _
      unfold bd_X0_settle_89
      rw [if_pos (show (64 : Int32) ≤ nI 64 by decide)]
    · have hne := pos_ne hn ha hb (arc_ne hn ha hb harc)
      have e1 : PP S (p + 1) a b = true ↔ min (n_pos S a) (n_pos S b) < p + 1 := by
        unfold PP
        rw [decide_eq_true_eq]
      refine bdec e1 (P2_iff.trans ?_)
      constructor
      · rintro (h | h | h) <;> omega
      · intro h
        by_cases h1 : min (n_pos S a) (n_pos S b) < p
        · exact Or.inl h1
        · by_cases h2 : n_pos S a = p
          · exact Or.inr (Or.inl ⟨h2, by omega⟩)
          · exact Or.inr (Or.inr ⟨by omega, by omega, by omega⟩)
end SL
