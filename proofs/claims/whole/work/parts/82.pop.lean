/-! levels: pop -/
section PV
variable {S : Nt} {w v : WS} {fu : Nat} {o : Nat → Int64} {od : Nat → UInt64}
theorem restLoop {s0 : WS} (hf : 64 < fu) {l k : Nat} (hl : l < 8) (hk : k ≤ 64) : ∃ r, iter (fun q : Int32 × WS => bd_X1_restore_34 fu (nI l) (nI k) q.1 q.2) fu ((0 : Int32), s0) = some r ∧ (∀ c, c ≠ 12 → r.1 c = s0.1 c) ∧ r.2 = s0.2 ∧ ∀ p q, p < 64 → q < 64 → r.1 12 (64 * p + q) = if p < k ∧ q < k then s0.1 26 (4096 * l + (64 * p + q)) else s0.1 12 (64 * p + q) := by
  refine iter_for0 (fun a (s : WS) => (nI a, s)) k (fun a s => (∀ c, c ≠ 12 → s.1 c = s0.1 c) ∧ s.2 = s0.2 ∧ ∀ p q, p < 64 → q < 64 → s.1 12 (64 * p + q) = if p < a ∧ q < k then s0.1 26 (4096 * l + (64 * p + q)) else s0.1 12 (64 * p + q)) (fun (r : WS) => (∀ c, c ≠ 12 → r.1 c = s0.1 c) ∧ r.2 = s0.2 ∧ ∀ p q, p < 64 → q < 64 → r.1 12 (64 * p + q) = if p < k ∧ q < k then s0.1 26 (4096 * l + (64 * p + q)) else s0.1 12 (64 * p + q)) ?_ ?_ (by omega) s0 ⟨fun _ _ => rfl, rfl, fun p q _ _ => by rw [if_neg (by omega)]⟩
  · intro a s ha ⟨i1, i2, i3⟩
    have x1 : nI a * 64 + (0 : Int32) = nI (64 * a) := by rw [m64, Int32.add_zero]
    have x2 : nI l * 4096 + nI (64 * a) = nI (4096 * l + 64 * a) := by rw [m4096, nI_add]
    refine ⟨wF s 12 (va_cpy (s0.1 26) (s.1 12) (4096 * l + 64 * a) (64 * a) k), ?_, fun c c12 => by rw [wF_n c12]; exact i1 c c12, i2, fun p q hp hq => ?_⟩
    · show bd_X1_restore_34 fu (nI l) (nI k) (nI a) s = _
      unfold bd_X1_restore_34 f_X3_pair
      rw [if_neg (nI_ge ha (by omega)), bn_e, bn_e, x1, x2, nI_clamp (show 4096 * l + 64 * a < 2 ^ 31 by omega), nI_clamp (show 64 * a < 2 ^ 31 by omega), nI_clamp (show k < 2 ^ 31 by omega), ck_t ⟨nI_pos (by omega), nI_pos (by omega), nI_pos (by omega), by omega, by omega⟩, nm_e1, nm_e1, nI_1, i1 26 (by decide)]
    · rw [wF_s]
      by_cases e : p = a
      · by_cases e2 : q < k
        · rw [pk_cpy_in (by omega) (by omega), if_pos (by omega), show 4096 * l + 64 * a + (64 * p + q - 64 * a) = 4096 * l + (64 * p + q) by omega]
        · rw [pk_cpy_out (Or.inr (by omega)), i3 p q hp hq, if_neg (by omega), if_neg (by omega)]
      · rw [pk_cpy_out (by omega), i3 p q hp hq]
        by_cases c : p < a ∧ q < k
        · rw [if_pos c, if_pos (by omega)]
        · rw [if_neg c, if_neg (by omega)]
  · intro s hI
    refine ⟨s, ?_, hI⟩
    show bd_X1_restore_34 fu (nI l) (nI k) (nI k) s = _
    unfold bd_X1_restore_34
    rw [if_pos (nI_le (Nat.le_refl _) (by omega))]
theorem restore_ok (hc : RCn S w) (hn : NtOK S) (hf : 64 < fu) {l : Nat} (hl : l < 8) (h3 : w.1 3 0 = nI (l + 1)) {d : Lvl} (hd : LvOK (n_R S) d) (hL : LvC l d w) : ∃ W, f_X1_restore fu w = some W ∧ RCn (n_pp S d) W ∧ (∀ c, c ≠ 1 → c ≠ 3 → c ≠ 11 → c ≠ 12 → W.1 c = w.1 c) ∧ (∀ c, c ≠ 1 → W.2 c = w.2 c) ∧ W.1 3 0 = nI l := by
  have hR := hn.2.1
  have hk : d.1 ≤ 64 := Nat.le_trans hd.1 hR
  obtain ⟨w5, e5, a1, a2, a3⟩ := restLoop (fu := fu) (s0 := wF w 11 (va_cpy (w.1 25) (w.1 11) (64 * l) 0 d.1)) hf hl hk
  have w511 : ∀ r, w5.1 11 r = va_cpy (w.1 25) (w.1 11) (64 * l) 0 d.1 r := fun r => by rw [a1 11 (by decide), wF_s]
  have w5c : ∀ c, c ≠ 11 → c ≠ 12 → w5.1 c = w.1 c := fun c c11 c12 => by rw [a1 c c12, wF_n c11]
  have w52 : w5.2 = w.2 := a2
  have open_ : ∃ X : Int64, (∀ i, i < 64 → bL X i = (decide (i < n_R S) && if i < d.1 then d.2.2.1 i else n_o S i)) ∧ f_X1_restore fu w = some (wI (wI (wL w5 1 8 X) 1 9 d.2.2.2.2) 3 0 (nI l)) := by
    have t3 : ∀ (X : Int64) (y : Int32), (wI (wL w5 1 8 X) 1 9 y).1 3 0 = nI (l + 1) := fun X y => by rw [wI_n (by decide), wL_1, w5c 3 (by decide) (by decide)]; exact h3
    have start : f_X1_restore fu w = (if nI d.1 < 64 then nm ((((-1) : Int64) <<< (Int32.toInt64 (nI d.1) &&& 63))) fun x7 => nm (w5.2 1 8) fun x8 => ck (vp_in (nI l) 8) (nm (w5.2 27 (Int32.toNatClampNeg (nI l))) fun x9 => nm (wL w5 1 8 ((x8 &&& x7) ||| (x9 &&& (x7 ^^^ (-1))))) fun w10 => ck (vp_in (nI l) 8) (nm (w10.1 28 (Int32.toNatClampNeg (nI l))) fun x11 => nm (wI w10 1 9 x11) fun w12 => nm (w12.1 3 0) fun x13 => nm (wI w12 3 0 (x13 - 1)) fun w14 => some w14)) else nm (w5.2 1 8) fun x15 => ck (vp_in (nI l) 8) (nm (w5.2 27 (Int32.toNatClampNeg (nI l))) fun x16 => nm (wL w5 1 8 ((x15 &&& 0) ||| (x16 &&& ((0 : Int64) ^^^ (-1))))) fun w17 => ck (vp_in (nI l) 8) (nm (w17.1 28 (Int32.toNatClampNeg (nI l))) fun x18 => nm (wI w17 1 9 x18) fun w19 => nm (w19.1 3 0) fun x20 => nm (wI w19 3 0 (x20 - 1)) fun w21 => some w21))) := by
      unfold f_X1_restore
      rw [nm_e1, h3, nI_pred, nm_e1, ck_t (vp_in_nI hl (by decide)), nm_e1, nI_clamp (show l < 2 ^ 31 by omega), hL.1, m64, nI_clamp (show 64 * l < 2 ^ 31 by omega), nI_clamp (show d.1 < 2 ^ 31 by omega), cl0, ck_t ⟨nI_pos (by omega), by decide, nI_pos (by omega), by omega, by omega⟩, nm_e1, e5, bn_e]
    have e28 : ∀ X : Int64, (wL w5 1 8 X).1 28 l = d.2.2.2.2 := fun X => by rw [wL_1, w5c 28 (by decide) (by decide)]; exact hL.2.2.2
    by_cases h64 : d.1 < 64
    · refine ⟨(w.2 1 8 &&& (((-1) : Int64) <<< (Int32.toInt64 (nI d.1) &&& 63))) ||| (w.2 27 l &&& ((((-1) : Int64) <<< (Int32.toInt64 (nI d.1) &&& 63)) ^^^ (-1))), fun i hi => ?_, ?_⟩
      · rw [bL_or, bL_and, bL_and, bL_not _ hi, bL_up h64 hi, hc.2.2.2.2.2.2.1 i hi]
        by_cases c : i < d.1
        · have hiR : i < n_R S := Nat.lt_of_lt_of_le c hd.1
          rw [if_pos c, decide_eq_true hiR, decide_eq_false (show ¬ d.1 ≤ i by omega), (hL.2.1 i c).2]
          simp
        · rw [if_neg c, decide_eq_true (show d.1 ≤ i by omega)]
          simp
      · rw [start, if_pos (show nI d.1 < (64 : Int32) from nI_lt (b := 64) h64 (by decide))]
        simp only [nm_e1]
        rw [ck_t (vp_in_nI hl (by decide)), nI_clamp (show l < 2 ^ 31 by omega), ck_t (vp_in_nI hl (by decide)), e28, t3, nI_pred, w52]
    · have e64 : d.1 = 64 := by omega
      refine ⟨(w.2 1 8 &&& 0) ||| (w.2 27 l &&& ((0 : Int64) ^^^ (-1))), fun i hi => ?_, ?_⟩
      · have c : i < d.1 := by omega
        have hiR : i < n_R S := Nat.lt_of_lt_of_le c hd.1
        rw [bL_or, bL_and, bL_and, bL_not _ hi, bL_0, if_pos c, decide_eq_true hiR, (hL.2.1 i c).2]
        simp
      · rw [start, if_neg (show ¬ nI d.1 < (64 : Int32) from nI_nlt (b := 64) (by omega) (by omega))]
        simp only [nm_e1]
        rw [ck_t (vp_in_nI hl (by decide)), nI_clamp (show l < 2 ^ 31 by omega), ck_t (vp_in_nI hl (by decide)), e28, t3, nI_pred, w52]
  obtain ⟨X, bX, eX⟩ := open_
  have Wc : ∀ c, c ≠ 1 → c ≠ 3 → (wI (wI (wL w5 1 8 X) 1 9 d.2.2.2.2) 3 0 (nI l)).1 c = w5.1 c := fun c c1 c3 => by rw [wI_n c3, wI_n c1, wL_1]
  have W2 : ∀ c, c ≠ 1 → (wI (wI (wL w5 1 8 X) 1 9 d.2.2.2.2) 3 0 (nI l)).2 c = w.2 c := fun c c1 => by rw [wI_2, wI_2, wL_n c1, w52]
  refine ⟨_, eX, ⟨?_, ?_, fun r hr => ⟨?_, ?_, ?_⟩, fun a b ha hb => ?_, fun j i hj hi => ?_, fun j i hj hi => ?_, fun i hi => ?_, ?_⟩, fun c c1 c3 c11 c12 => by rw [Wc c c1 c3, w5c c c11 c12], W2, by rw [wI_at, if_pos ⟨rfl, rfl⟩]⟩
  · rw [wI_n (by decide), wI_at, if_neg (by decide), wL_1, w5c 1 (by decide) (by decide)]; exact hc.1
  · rw [wI_n (by decide), wI_at, if_neg (by decide), wL_1, w5c 1 (by decide) (by decide)]; exact hc.2.1
  · rw [Wc 9 (by decide) (by decide), w5c 9 (by decide) (by decide)]; exact (hc.2.2.1 r hr).1
  · rw [Wc 10 (by decide) (by decide), w5c 10 (by decide) (by decide)]; exact (hc.2.2.1 r hr).2.1
  · show _ = nI (if r < d.1 then d.2.1 r else n_w S r)
    rw [Wc 11 (by decide) (by decide), w511]
    by_cases c : r < d.1
    · rw [if_pos c, pk_cpy_in (by omega) (by omega), show 64 * l + (r - 0) = 64 * l + r by omega]
      exact (hL.2.1 r c).1
    · rw [if_neg c, pk_cpy_out (Or.inr (by omega))]
      exact (hc.2.2.1 r hr).2.2
  · show _ = if a < d.1 ∧ b < d.1 then d.2.2.2.1 a b else n_s S a b
    rw [Wc 12 (by decide) (by decide), a3 a b ha hb, wF_n (by decide), wF_n (by decide)]
    by_cases c : a < d.1 ∧ b < d.1
    · rw [if_pos c, if_pos c]
      exact hL.2.2.1 a b ha hb
    · rw [if_neg c, if_neg c]
      exact hc.2.2.2.1 a b ha hb
  · rw [W2 13 (by decide)]; exact hc.2.2.2.2.1 j i hj hi
  · rw [W2 14 (by decide)]; exact hc.2.2.2.2.2.1 j i hj hi
  · rw [wI_2, wI_2, wL_s2, if_pos rfl]
    exact bX i hi
  · rw [wI_n (by decide), wI_at, if_pos ⟨rfl, rfl⟩]
    rfl
theorem popRow {s0 : WS} (hf : 64 < fu) {l k a : Nat} (hl : l < 8) (hk : k ≤ 64) (ha : a < 64) (h19 : s0.1 0 19 = nI l) : ∃ r, iter (fun q : Int32 × WS => bd_X4_pop_100 fu (nI k) (nI a) q.1 q.2) fu ((0 : Int32), s0) = some r ∧ (∀ c, c ≠ 5 → r.1 c = s0.1 c) ∧ r.2 = s0.2 ∧ ∀ p q, p < 64 → q < 64 → r.1 5 (64 * p + q) = if p = a ∧ q < k then s0.1 16 (4096 * l + (64 * p + q)) else s0.1 5 (64 * p + q) := by
  refine iter_for0 (fun b (s : WS) => (nI b, s)) k (fun b s => (∀ c, c ≠ 5 → s.1 c = s0.1 c) ∧ s.2 = s0.2 ∧ ∀ p q, p < 64 → q < 64 → s.1 5 (64 * p + q) = if p = a ∧ q < b then s0.1 16 (4096 * l + (64 * p + q)) else s0.1 5 (64 * p + q)) (fun (r : WS) => (∀ c, c ≠ 5 → r.1 c = s0.1 c) ∧ r.2 = s0.2 ∧ ∀ p q, p < 64 → q < 64 → r.1 5 (64 * p + q) = if p = a ∧ q < k then s0.1 16 (4096 * l + (64 * p + q)) else s0.1 5 (64 * p + q)) ?_ ?_ (by omega) s0 ⟨fun _ _ => rfl, rfl, fun p q _ _ => by rw [if_neg (by omega)]⟩
  · intro b s hb ⟨i1, i2, i3⟩
    have e19 : s.1 0 19 = nI l := by rw [i1 0 (by decide)]; exact h19
    have ix : (((4096 : Int32) * nI l) + ((64 : Int32) * nI a)) + nI b = nI (4096 * l + (64 * a + b)) := by
      rw [show (4096 : Int32) = nI 4096 from rfl, show (64 : Int32) = nI 64 from rfl, pk_mul, pk_mul, nI_add, nI_add, Nat.add_assoc]
    refine ⟨wI s 5 (64 * a + b) (s0.1 16 (4096 * l + (64 * a + b))), ?_, fun c c5 => by rw [wI_n c5]; exact i1 c c5, i2, fun p q hp hq => ?_⟩
    · show bd_X4_pop_100 fu (nI k) (nI a) (nI b) s = _
      unfold bd_X4_pop_100
      rw [if_neg (nI_ge hb (by omega)), nm_e1, e19, ix, ck_t (vp_in_nI (by omega) (by decide)), nm_e1, nI_clamp (by omega), ck_t (px_in (by omega) (by omega)), nm_e1, px_cl (by omega) (by omega), nm_e1, nI_1, i1 16 (by decide)]
    · rw [wI_at, i3 p q hp hq]
      by_cases e : p = a ∧ q = b
      · rw [if_pos ⟨rfl, by rw [e.1, e.2]⟩, if_pos (by omega), e.1, e.2]
      · rw [if_neg (fun hh => e (ix_inj (by omega) (by omega) hh.2))]
        by_cases c : p = a ∧ q < b
        · rw [if_pos c, if_pos (by omega)]
        · rw [if_neg c, if_neg (fun hh => c ⟨hh.1, by have : q ≠ b := fun e2 => e ⟨hh.1, e2⟩; omega⟩)]
  · intro s hI
    refine ⟨s, ?_, hI⟩
    show bd_X4_pop_100 fu (nI k) (nI a) (nI k) s = _
    unfold bd_X4_pop_100
    rw [if_pos (nI_le (Nat.le_refl _) (by omega))]
theorem popAll {s0 : WS} (hf : 64 < fu) {l k : Nat} (hl : l < 8) (hk : k ≤ 64) (h19 : s0.1 0 19 = nI l) : ∃ r, iter (fun q : Int32 × WS => bd_X4_pop_53 fu (nI k) q.1 q.2) fu ((0 : Int32), s0) = some r ∧ (∀ c, c ≠ 3 → c ≠ 4 → c ≠ 5 → r.1 c = s0.1 c) ∧ r.2 = s0.2 ∧ (∀ i, r.1 3 i = if i < k then s0.1 14 (64 * l + i) else s0.1 3 i) ∧ (∀ i, r.1 4 i = if i < k then vp_nar .boolean (s0.1 15 (64 * l + i)) else s0.1 4 i) ∧ ∀ p q, p < 64 → q < 64 → r.1 5 (64 * p + q) = if p < k ∧ q < k then s0.1 16 (4096 * l + (64 * p + q)) else s0.1 5 (64 * p + q) := by
  refine iter_for0 (fun a (s : WS) => (nI a, s)) k (fun a s => (∀ c, c ≠ 3 → c ≠ 4 → c ≠ 5 → s.1 c = s0.1 c) ∧ s.2 = s0.2 ∧ (∀ i, s.1 3 i = if i < a then s0.1 14 (64 * l + i) else s0.1 3 i) ∧ (∀ i, s.1 4 i = if i < a then vp_nar .boolean (s0.1 15 (64 * l + i)) else s0.1 4 i) ∧ ∀ p q, p < 64 → q < 64 → s.1 5 (64 * p + q) = if p < a ∧ q < k then s0.1 16 (4096 * l + (64 * p + q)) else s0.1 5 (64 * p + q)) (fun (r : WS) => (∀ c, c ≠ 3 → c ≠ 4 → c ≠ 5 → r.1 c = s0.1 c) ∧ r.2 = s0.2 ∧ (∀ i, r.1 3 i = if i < k then s0.1 14 (64 * l + i) else s0.1 3 i) ∧ (∀ i, r.1 4 i = if i < k then vp_nar .boolean (s0.1 15 (64 * l + i)) else s0.1 4 i) ∧ ∀ p q, p < 64 → q < 64 → r.1 5 (64 * p + q) = if p < k ∧ q < k then s0.1 16 (4096 * l + (64 * p + q)) else s0.1 5 (64 * p + q)) ?_ ?_ (by omega) s0 ⟨fun _ _ _ _ => rfl, rfl, fun i => by rw [if_neg (Nat.not_lt_zero i)], fun i => by rw [if_neg (Nat.not_lt_zero i)], fun p q _ _ => by rw [if_neg (by omega)]⟩
  · intro a s ha ⟨i1, i2, i3, i4, i5⟩
    have e19 : s.1 0 19 = nI l := by rw [i1 0 (by decide) (by decide) (by decide)]; exact h19
    have ix : vp_in (((64 : Int32) * nI l) + nI a) 512 := by
      rw [show (64 : Int32) = nI 64 from rfl, pk_mul, nI_add]
      exact vp_in_nI (by omega) (by decide)
    have ic : Int32.toNatClampNeg (((64 : Int32) * nI l) + nI a) = 64 * l + a := by
      rw [show (64 : Int32) = nI 64 from rfl, pk_mul, nI_add]
      exact nI_clamp (by omega)
    obtain ⟨r, e, r1, r2, r3⟩ := popRow (fu := fu) (s0 := wI (wI s 3 a (s0.1 14 (64 * l + a))) 4 a (vp_nar .boolean (s0.1 15 (64 * l + a)))) hf hl hk (show a < 64 by omega) (by rw [wI_n (by decide), wI_n (by decide)]; exact e19)
    refine ⟨r, ?_, fun c c3 c4 c5 => by rw [r1 c c5, wI_n c4, wI_n c3]; exact i1 c c3 c4 c5, by rw [r2, wI_2, wI_2]; exact i2, fun i => ?_, fun i => ?_, fun p q hp hq => ?_⟩
    · show bd_X4_pop_53 fu (nI k) (nI a) s = _
      unfold bd_X4_pop_53
      rw [if_neg (nI_ge ha (by omega)), nm_e1, e19, ck_t ix, nm_e1, ic, ck_t (in64 (by omega)), nm_e1, cl64 (by omega), nm_e1, wI_n (show (0 : Nat) ≠ 3 by decide), e19, ck_t ix, nm_e1, ic, wI_n (show (15 : Nat) ≠ 3 by decide), ck_t (in64 (by omega)), nm_e1, i1 14 (by decide) (by decide) (by decide), i1 15 (by decide) (by decide) (by decide), e, bn_e, nm_e1, nI_1]
    · rw [r1 3 (by decide), wI_n (by decide), wI_at, i3 i]
      by_cases e2 : i = a
      · rw [if_pos ⟨rfl, e2⟩, if_pos (by omega), e2]
      · rw [if_neg (fun hh => e2 hh.2)]
        by_cases c : i < a
        · rw [if_pos c, if_pos (by omega)]
        · rw [if_neg c, if_neg (by omega)]
    · rw [r1 4 (by decide), wI_at, wI_n (by decide), i4 i]
      by_cases e2 : i = a
      · rw [if_pos ⟨rfl, e2⟩, if_pos (by omega), e2]
      · rw [if_neg (fun hh => e2 hh.2)]
        by_cases c : i < a
        · rw [if_pos c, if_pos (by omega)]
        · rw [if_neg c, if_neg (by omega)]
    · rw [r3 p q hp hq, wI_n (show (16 : Nat) ≠ 4 by decide), wI_n (show (16 : Nat) ≠ 3 by decide), wI_n (show (5 : Nat) ≠ 4 by decide), wI_n (show (5 : Nat) ≠ 3 by decide), i1 16 (by decide) (by decide) (by decide), i5 p q hp hq]
      by_cases c : p = a ∧ q < k
      · rw [if_pos c, if_pos (by omega)]
      · rw [if_neg c]
        by_cases c2 : p < a ∧ q < k
        · rw [if_pos c2, if_pos (by omega)]
        · rw [if_neg c2, if_neg (by omega)]
  · intro s hI
    refine ⟨s, ?_, hI⟩
    show bd_X4_pop_53 fu (nI k) (nI k) s = _
    unfold bd_X4_pop_53
    rw [if_pos (nI_le (Nat.le_refl _) (by omega))]
theorem pp_hd {d : Lvl} : ∀ p q, p < n_R S → q < n_R S → s1 (n_pp S d) p q ≠ s1 S p q → n_fol (n_pp S d) p q = true := fun p q hp hq hne => by
  apply Decidable.byContradiction
  intro h
  have e1 := s1_nofol (S := n_pp S d) h
  have e2 := s1_nofol (S := S) (a := p) (b := q) h
  rw [e1, e2] at hne
  exact hne rfl
theorem L_29 (hR : Ra S w v) (hf : 2 ^ 80 ≤ fu) : GI fu (f_L_pop fu w o) (f_X4_pop fu v) od := by
  have hR0 := hR
  have hm1 := (hR.thr 0).2.1
  obtain ⟨hn, hm, hc, hz, hp, ⟨m, D, m1, m2, m3, m4⟩, hpl, hpt, hne⟩ := hR
  have hR64 := hn.2.1
  have q19 : (wI v 0 0 0).1 0 19 = nI m := by rw [w0n v 0 (by decide)]; exact m3
  by_cases h0 : m = 0
  · refine GI.n (S := S) (o := o) (c := 1) (w1 := w) (x := 0) (v1 := wI (wI v 0 0 0) 0 0 1) ?_ ?_ (t0 _ _) (by decide) (hR0.thr2 0 1)
    · unfold f_L_pop f_X3_pop
      rw [nm_e1, m2, h0, if_neg (by decide), bx_r, ex_y]
    · unfold f_X4_pop
      rw [nm_e1, nm_e1, q19, h0, if_pos (by decide), fail_ok, bn2_e]
  · obtain ⟨l, rfl⟩ : ∃ l, m = l + 1 := ⟨m - 1, by omega⟩
    have k := m4 l (by omega)
    have hd := k.1
    have hk : (D l).1 ≤ 64 := Nat.le_trans hd.1 hR64
    have hn' := hn.pp hd
    obtain ⟨W, eW, cW, f1, f2, f3⟩ := restore_ok (fu := fu) hc hn (by omega) (show l < 8 by omega) m2 hd k.2.1
    have v9c : ∀ c, c ≠ 0 → (wI (wI (wI v 0 0 0) 0 19 (nI l)) 0 8 (D l).2.2.2.2).1 c = v.1 c := fun c hc => by rw [wI_n hc, wI_n hc, wI_n hc]
    have v90 : ∀ j, (wI (wI (wI v 0 0 0) 0 19 (nI l)) 0 8 (D l).2.2.2.2).1 0 j = if j = 8 then (D l).2.2.2.2 else if j = 19 then nI l else if j = 0 then 0 else v.1 0 j := fun j => by
      rw [wI_at, wI_at, wI_at]
      simp only [true_and]
    obtain ⟨V, eV, g1, g2, g3, g4, g5⟩ := popAll (fu := fu) (s0 := wI (wI (wI v 0 0 0) 0 19 (nI l)) 0 8 (D l).2.2.2.2) (by omega) (show l < 8 by omega) hk (by rw [v90]; rfl)
    have V0 : ∀ j, V.1 0 j = if j = 8 then (D l).2.2.2.2 else if j = 19 then nI l else if j = 0 then 0 else v.1 0 j := fun j => by rw [g1 0 (by decide) (by decide) (by decide), v90]
    have Vc : ∀ c, c ≠ 0 → c ≠ 3 → c ≠ 4 → c ≠ 5 → V.1 c = v.1 c := fun c c0 c3 c4 c5 => by rw [g1 c c3 c4 c5, v9c c c0]
    have V2 : V.2 = v.2 := g2
    have mV : RMn (n_pp S (D l)) V := by
      refine ⟨by rw [V0]; exact hm.1, by rw [V0]; exact hm.2.1, fun r hr => ?_, fun a b ha hb => ?_, by rw [V0]; rfl⟩
      · have h := hm.2.2.1 r hr
        refine ⟨by rw [Vc 1 (by decide) (by decide) (by decide) (by decide)]; exact h.1, by rw [Vc 2 (by decide) (by decide) (by decide) (by decide)]; exact h.2.1, ?_, ?_⟩
        · show V.1 3 r = nI (if r < (D l).1 then (D l).2.1 r else n_w S r)
          rw [g3, v9c 14 (by decide), v9c 3 (by decide)]
          by_cases c : r < (D l).1
          · rw [if_pos c, if_pos c]; exact (k.2.2.2.1 r c).1
          · rw [if_neg c, if_neg c]; exact h.2.2.1
        · show V.1 4 r = if (if r < (D l).1 then (D l).2.2.1 r else n_o S r) = true then 1 else 0
          rw [g4, v9c 15 (by decide), v9c 4 (by decide)]
          by_cases c : r < (D l).1
          · rw [if_pos c, if_pos c, (k.2.2.2.1 r c).2]
            split
            · exact vnb1
            · exact vnb0
          · rw [if_neg c, if_neg c]; exact h.2.2.2
      · show V.1 5 (64 * a + b) = if a < (D l).1 ∧ b < (D l).1 then (D l).2.2.2.1 a b else n_s S a b
        rw [g5 a b ha hb, v9c 16 (by decide), v9c 5 (by decide)]
        by_cases c : a < (D l).1 ∧ b < (D l).1
        · rw [if_pos c, if_pos c]; exact k.2.2.2.2.1 a b ha hb
        · rw [if_neg c, if_neg c]; exact hm.2.2.2.1 a b ha hb
    obtain ⟨y, w', v', eC, eM, ht, hR'⟩ := set_gen (S' := n_pp S (D l)) (fC := f_X0_renewAll fu W) hR0 hn' rfl rfl cW mV f1 f2 Vc (fun j h0 h8 h19 => by rw [V0, if_neg h8, if_neg h19, if_neg h0]) V2 (by rw [V0]; rfl) ⟨l, D, by omega, f3, by rw [V0]; rfl, fun i hi => by
        have ki := m4 i (by omega)
        exact ⟨ki.1, ki.2.1.same (f1 24 (by decide) (by decide) (by decide) (by decide)) (f1 25 (by decide) (by decide) (by decide) (by decide)) (f1 26 (by decide) (by decide) (by decide) (by decide)) (f2 27 (by decide)) (f1 28 (by decide) (by decide) (by decide) (by decide)), ki.2.2.same (Vc 13 (by decide) (by decide) (by decide) (by decide)) (Vc 14 (by decide) (by decide) (by decide) (by decide)) (Vc 15 (by decide) (by decide) (by decide) (by decide)) (Vc 16 (by decide) (by decide) (by decide) (by decide)) (Vc 17 (by decide) (by decide) (by decide) (by decide))⟩⟩ hf (fun h => renewAll_no h fu) (fun hb0 g1 g2 g3 g4 g5 => renewAll_ok cW g1 hn' hb0 g2 g4 (fun a b => n_L_le hn a b) g5 g3 (show 64 < fu by omega) (pp_hd (S := S)))
    refine GI.y (o := o) (x := y) (w1 := w') (v1 := v') ?_ ?_ ht hR'
    · unfold f_L_pop f_X3_pop
      rw [nm_e1, m2, if_pos (show (0 : Int32) < nI (l + 1) from nI_lt (a := 0) (by omega) (by omega)), eW, bn_e, eC, bn2_e, bx_l]
    · have p13 : (wI (wI v 0 0 0) 0 19 (nI l)).1 13 l = nI (D l).1 := by rw [wI_n (by decide), wI_n (by decide)]; exact k.2.2.1
      have p17 : (wI (wI v 0 0 0) 0 19 (nI l)).1 17 l = (D l).2.2.2.2 := by rw [wI_n (by decide), wI_n (by decide)]; exact k.2.2.2.2.2
      have p19 : (wI (wI v 0 0 0) 0 19 (nI l)).1 0 19 = nI l := by rw [wI_at, if_pos ⟨rfl, rfl⟩]
      unfold f_X4_pop
      rw [nm_e1, nm_e1, q19, if_neg (nI_ne0 (by omega) (by omega)), nm_e1, nI_pred]
      simp only [nm_e1]
      rw [p19, ck_t (vp_in_nI (by omega) (by decide)), nI_clamp (by omega), p13, ck_t (vp_in_nI (by omega) (by decide)), p17, eV, bn_e, eM, bn2_e]
end PV
