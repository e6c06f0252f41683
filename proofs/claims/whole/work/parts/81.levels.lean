/-! levels: what push stores, what pop restores -/
def n_lv (S : Nt) : Lvl := (n_R S, n_w S, n_o S, n_s S, n_u S)
def n_pp (S : Nt) (d : Lvl) : Nt := (S.1, (n_f S, n_t S, fun r => if r < d.1 then d.2.1 r else n_w S r), fun r => if r < d.1 then d.2.2.1 r else n_o S r, fun a b => if a < d.1 ∧ b < d.1 then d.2.2.2.1 a b else n_s S a b, d.2.2.2.2)
theorem NtOK.lv {S : Nt} (h : NtOK S) : LvOK (n_R S) (n_lv S) := ⟨Nat.le_refl _, fun r hr => (h.2.2.1 r hr).2.2.2, h.2.2.2.1, h.2.2.2.2.1, h.2.2.2.2.2⟩
theorem NtOK.pp {S : Nt} (h : NtOK S) {d : Lvl} (hd : LvOK (n_R S) d) : NtOK (n_pp S d) := by
  refine ⟨h.1, h.2.1, fun r hr => ?_, fun a b => ?_, hd.2.2.2.1, hd.2.2.2.2⟩
  · have k := h.2.2.1 r hr
    refine ⟨k.1, k.2.1, k.2.2.1, ?_⟩
    show 1 ≤ (if r < d.1 then d.2.1 r else n_w S r) ∧ (if r < d.1 then d.2.1 r else n_w S r) ≤ 10000
    by_cases c : r < d.1
    · rw [if_pos c]; exact hd.2.1 r c
    · rw [if_neg c]; exact k.2.2.2
  · show (-2) ≤ (if a < d.1 ∧ b < d.1 then d.2.2.2.1 a b else n_s S a b).toInt ∧ (if a < d.1 ∧ b < d.1 then d.2.2.2.1 a b else n_s S a b).toInt ≤ 1000
    by_cases c : a < d.1 ∧ b < d.1
    · rw [if_pos c]; exact hd.2.2.1 a b
    · rw [if_neg c]; exact h.2.2.2.1 a b
theorem m64 (m : Nat) : nI m * (64 : Int32) = nI (64 * m) := by
  rw [show (64 : Int32) = nI 64 from rfl, pk_mul, Nat.mul_comm]
theorem m4096 (m : Nat) : nI m * (4096 : Int32) = nI (4096 * m) := by
  rw [show (4096 : Int32) = nI 4096 from rfl, pk_mul, Nat.mul_comm]
theorem cl0 : Int32.toNatClampNeg (0 : Int32) = 0 := by decide
theorem cl4096 : Int32.toNatClampNeg (4096 : Int32) = 4096 := by decide
theorem wF_2 {w : WS} {c : Nat} {f : Nat → Int32} : (wF w c f).2 = w.2 := rfl
section LV
variable {S : Nt} {w v : WS} {fu : Nat} {o : Nat → Int64} {od : Nat → UInt64}
theorem store_ok (hc : RCn S w) (hn : NtOK S) {m : Nat} (hm : m < 8) (h3 : w.1 3 0 = nI m) : ∃ W, f_X1_store fu w = some W ∧ (∀ c, c ≠ 3 → c ≠ 24 → c ≠ 25 → c ≠ 26 → c ≠ 28 → W.1 c = w.1 c) ∧ (∀ c, c ≠ 27 → W.2 c = w.2 c) ∧ W.1 3 0 = nI (m + 1) ∧ LvC m (n_lv S) W ∧ ∀ l d, l < m → d.1 ≤ 64 → LvC l d w → LvC l d W := by
  have hR := hn.2.1
  have mk : ∀ W : WS, W = wI (wI (wL (wF (wF (wI w 24 m (nI (n_R S))) 25 (va_cpy (w.1 11) (w.1 25) 0 (64 * m) (n_R S))) 26 (va_cpy (w.1 12) (w.1 26) 0 (4096 * m) 4096)) 27 m (w.2 1 8)) 28 m (w.1 1 9)) 3 0 (nI (m + 1)) → f_X1_store fu w = some W ∧ (∀ c, c ≠ 3 → c ≠ 24 → c ≠ 25 → c ≠ 26 → c ≠ 28 → W.1 c = w.1 c) ∧ (∀ c, c ≠ 27 → W.2 c = w.2 c) ∧ W.1 3 0 = nI (m + 1) ∧ LvC m (n_lv S) W ∧ ∀ l d, l < m → d.1 ≤ 64 → LvC l d w → LvC l d W := by
    intro W eW
    have w24 : ∀ i, W.1 24 i = if i = m then nI (n_R S) else w.1 24 i := fun i => by
      rw [eW, wI_n (by decide), wI_n (by decide), wL_1, wF_n (by decide), wF_n (by decide), wI_at]
      simp only [true_and]
    have w25 : ∀ i, W.1 25 i = va_cpy (w.1 11) (w.1 25) 0 (64 * m) (n_R S) i := fun i => by
      rw [eW, wI_n (by decide), wI_n (by decide), wL_1, wF_n (by decide), wF_s]
    have w26 : ∀ i, W.1 26 i = va_cpy (w.1 12) (w.1 26) 0 (4096 * m) 4096 i := fun i => by
      rw [eW, wI_n (by decide), wI_n (by decide), wL_1, wF_s]
    have w28 : ∀ i, W.1 28 i = if i = m then w.1 1 9 else w.1 28 i := fun i => by
      rw [eW, wI_n (by decide), wI_at, wL_1, wF_n (by decide), wF_n (by decide), wI_n (by decide)]
      simp only [true_and]
    have w27 : ∀ i, W.2 27 i = if i = m then w.2 1 8 else w.2 27 i := fun i => by
      rw [eW, wI_2, wI_2, wL_s2]
      rfl
    refine ⟨?_, fun c c3 c24 c25 c26 c28 => ?_, fun c c27 => ?_, ?_, ⟨?_, fun r hr => ⟨?_, ?_⟩, fun a b ha hb => ?_, ?_⟩, fun l d hl hd hL => ⟨?_, fun r hr => ⟨?_, ?_⟩, fun a b ha hb => ?_, ?_⟩⟩
    · unfold f_X1_store
      simp only [nm_e1]
      rw [h3, hc.2.1, ck_t (vp_in_nI (by omega) (by decide)), nI_clamp (by omega), m64, m4096, nI_clamp (show 64 * m < 2 ^ 31 by omega), nI_clamp (show 4096 * m < 2 ^ 31 by omega), cl0, cl4096, wI_n (show (1 : Nat) ≠ 24 by decide), hc.2.1, nI_clamp (show n_R S < 2 ^ 31 by omega), ck_t ⟨by decide, nI_pos (by omega), nI_pos (by omega), by omega, by omega⟩, ck_t ⟨by decide, nI_pos (by omega), by decide, by omega, by omega⟩, ck_t (vp_in_nI (by omega) (by decide)), ck_t (vp_in_nI (by omega) (by decide)), eW]
      simp only [wL_1, wF_2, wI_2]
      rw [wI_n (show (11 : Nat) ≠ 24 by decide), wI_n (show (25 : Nat) ≠ 24 by decide), wF_n (show (12 : Nat) ≠ 25 by decide), wI_n (show (12 : Nat) ≠ 24 by decide), wF_n (show (26 : Nat) ≠ 25 by decide), wI_n (show (26 : Nat) ≠ 24 by decide), wF_n (show (1 : Nat) ≠ 26 by decide), wF_n (show (1 : Nat) ≠ 25 by decide), wI_n (show (1 : Nat) ≠ 24 by decide), wI_n (show (3 : Nat) ≠ 28 by decide), wL_1, wF_n (show (3 : Nat) ≠ 26 by decide), wF_n (show (3 : Nat) ≠ 25 by decide), wI_n (show (3 : Nat) ≠ 24 by decide), h3, nI_1]
    · rw [eW, wI_n c3, wI_n c28, wL_1, wF_n c26, wF_n c25, wI_n c24]
    · rw [eW, wI_2, wI_2, wL_n c27]
      rfl
    · rw [eW, wI_at, if_pos ⟨rfl, rfl⟩]
    · rw [w24, if_pos rfl]; rfl
    · have hr : r < n_R S := hr
      rw [w25, pk_cpy_in (by omega) (by omega), show 0 + (64 * m + r - 64 * m) = r by omega]
      exact (hc.2.2.1 r hr).2.2
    · have hr : r < n_R S := hr
      rw [w27, if_pos rfl, hc.2.2.2.2.2.2.1 r (by omega), decide_eq_true hr]
      rfl
    · rw [w26, pk_cpy_in (by omega) (by omega), show 0 + (4096 * m + (64 * a + b) - 4096 * m) = 64 * a + b by omega]
      exact hc.2.2.2.1 a b ha hb
    · rw [w28, if_pos rfl]
      exact hc.2.2.2.2.2.2.2
    · rw [w24, if_neg (by omega)]; exact hL.1
    · rw [w25, pk_cpy_out (Or.inl (by omega))]
      exact (hL.2.1 r hr).1
    · rw [w27, if_neg (by omega)]
      exact (hL.2.1 r hr).2
    · rw [w26, pk_cpy_out (Or.inl (by omega))]
      exact hL.2.2.1 a b ha hb
    · rw [w28, if_neg (by omega)]; exact hL.2.2.2
  exact ⟨_, mk _ rfl⟩
theorem pushA {s0 : WS} (hf : 64 < fu) {m : Nat} (hm : m < 8) (h19 : s0.1 0 19 = nI m) : ∃ r, iter (fun q : Int32 × WS => bd_X4_push_48 fu q.1 q.2) fu ((0 : Int32), s0) = some r ∧ (∀ c, c ≠ 14 → c ≠ 15 → r.1 c = s0.1 c) ∧ r.2 = s0.2 ∧ (∀ i, r.1 14 i = if 64 * m ≤ i ∧ i < 64 * m + 64 then s0.1 3 (i - 64 * m) else s0.1 14 i) ∧ ∀ i, r.1 15 i = if 64 * m ≤ i ∧ i < 64 * m + 64 then vp_nar .boolean (s0.1 4 (i - 64 * m)) else s0.1 15 i := by
  refine iter_for0 (fun k (s : WS) => (nI k, s)) 64 (fun k s => (∀ c, c ≠ 14 → c ≠ 15 → s.1 c = s0.1 c) ∧ s.2 = s0.2 ∧ (∀ i, s.1 14 i = if 64 * m ≤ i ∧ i < 64 * m + k then s0.1 3 (i - 64 * m) else s0.1 14 i) ∧ ∀ i, s.1 15 i = if 64 * m ≤ i ∧ i < 64 * m + k then vp_nar .boolean (s0.1 4 (i - 64 * m)) else s0.1 15 i) (fun (r : WS) => (∀ c, c ≠ 14 → c ≠ 15 → r.1 c = s0.1 c) ∧ r.2 = s0.2 ∧ (∀ i, r.1 14 i = if 64 * m ≤ i ∧ i < 64 * m + 64 then s0.1 3 (i - 64 * m) else s0.1 14 i) ∧ ∀ i, r.1 15 i = if 64 * m ≤ i ∧ i < 64 * m + 64 then vp_nar .boolean (s0.1 4 (i - 64 * m)) else s0.1 15 i) ?_ ?_ hf s0 ⟨fun _ _ _ => rfl, rfl, fun i => by rw [if_neg (by omega)], fun i => by rw [if_neg (by omega)]⟩
  · intro k s hk ⟨i1, i2, i3, i4⟩
    have e19 : s.1 0 19 = nI m := by rw [i1 0 (by decide) (by decide)]; exact h19
    have ix : vp_in (((64 : Int32) * nI m) + nI k) 512 := by
      rw [show (64 : Int32) = nI 64 from rfl, pk_mul, nI_add]
      exact vp_in_nI (by omega) (by decide)
    have ic : Int32.toNatClampNeg (((64 : Int32) * nI m) + nI k) = 64 * m + k := by
      rw [show (64 : Int32) = nI 64 from rfl, pk_mul, nI_add]
      exact nI_clamp (by omega)
    refine ⟨wI (wI s 14 (64 * m + k) (s0.1 3 k)) 15 (64 * m + k) (vp_nar .boolean (s0.1 4 k)), ?_, fun c c14 c15 => by rw [wI_n c15, wI_n c14]; exact i1 c c14 c15, i2, fun i => ?_, fun i => ?_⟩
    · show bd_X4_push_48 fu (nI k) s = _
      unfold bd_X4_push_48
      rw [if_neg (show ¬ (64 : Int32) ≤ nI k from nI_ge (b := 64) hk (by decide)), nm_e1, e19, ck_t (in64 hk), nm_e1, cl64 hk, ck_t ix, nm_e1, ic, nm_e1, wI_n (show (0 : Nat) ≠ 14 by decide), e19, ck_t (in64 hk), nm_e1, wI_n (show (4 : Nat) ≠ 14 by decide), ck_t ix, nm_e1, ic, nm_e1, nI_1, i1 3 (by decide) (by decide), i1 4 (by decide) (by decide)]
    · rw [wI_n (by decide), wI_at, i3 i]
      by_cases e : i = 64 * m + k
      · rw [if_pos ⟨rfl, e⟩, if_pos (by omega), e, show 64 * m + k - 64 * m = k by omega]
      · rw [if_neg (fun hh => e hh.2)]
        by_cases c : 64 * m ≤ i ∧ i < 64 * m + k
        · rw [if_pos c, if_pos (by omega)]
        · rw [if_neg c, if_neg (by omega)]
    · rw [wI_at, wI_n (by decide), i4 i]
      by_cases e : i = 64 * m + k
      · rw [if_pos ⟨rfl, e⟩, if_pos (by omega), e, show 64 * m + k - 64 * m = k by omega]
      · rw [if_neg (fun hh => e hh.2)]
        by_cases c : 64 * m ≤ i ∧ i < 64 * m + k
        · rw [if_pos c, if_pos (by omega)]
        · rw [if_neg c, if_neg (by omega)]
  · intro s hI
    refine ⟨s, ?_, hI⟩
    show bd_X4_push_48 fu (nI 64) s = _
    unfold bd_X4_push_48
    rw [if_pos (show (64 : Int32) ≤ nI 64 by decide)]
theorem pushB {s0 : WS} (hf : 4096 < fu) {m : Nat} (hm : m < 8) (h19 : s0.1 0 19 = nI m) : ∃ r, iter (fun q : Int32 × WS => bd_X4_push_102 fu q.1 q.2) fu ((0 : Int32), s0) = some r ∧ (∀ c, c ≠ 16 → r.1 c = s0.1 c) ∧ r.2 = s0.2 ∧ ∀ i, r.1 16 i = if 4096 * m ≤ i ∧ i < 4096 * m + 4096 then s0.1 5 (i - 4096 * m) else s0.1 16 i := by
  refine iter_for0 (fun k (s : WS) => (nI k, s)) 4096 (fun k s => (∀ c, c ≠ 16 → s.1 c = s0.1 c) ∧ s.2 = s0.2 ∧ ∀ i, s.1 16 i = if 4096 * m ≤ i ∧ i < 4096 * m + k then s0.1 5 (i - 4096 * m) else s0.1 16 i) (fun (r : WS) => (∀ c, c ≠ 16 → r.1 c = s0.1 c) ∧ r.2 = s0.2 ∧ ∀ i, r.1 16 i = if 4096 * m ≤ i ∧ i < 4096 * m + 4096 then s0.1 5 (i - 4096 * m) else s0.1 16 i) ?_ ?_ hf s0 ⟨fun _ _ => rfl, rfl, fun i => by rw [if_neg (by omega)]⟩
  · intro k s hk ⟨i1, i2, i3⟩
    have e19 : s.1 0 19 = nI m := by rw [i1 0 (by decide)]; exact h19
    have ix : vp_in (((4096 : Int32) * nI m) + nI k) 32768 := by
      rw [show (4096 : Int32) = nI 4096 from rfl, pk_mul, nI_add]
      exact vp_in_nI (by omega) (by decide)
    have ic : Int32.toNatClampNeg (((4096 : Int32) * nI m) + nI k) = 4096 * m + k := by
      rw [show (4096 : Int32) = nI 4096 from rfl, pk_mul, nI_add]
      exact nI_clamp (by omega)
    refine ⟨wI s 16 (4096 * m + k) (s0.1 5 k), ?_, fun c c16 => by rw [wI_n c16]; exact i1 c c16, i2, fun i => ?_⟩
    · show bd_X4_push_102 fu (nI k) s = _
      unfold bd_X4_push_102
      rw [if_neg (show ¬ (4096 : Int32) ≤ nI k from nI_ge (b := 4096) hk (by decide)), nm_e1, e19, ck_t (vp_in_nI hk (by decide)), nm_e1, nI_clamp (by omega), ck_t ix, nm_e1, ic, nm_e1, nI_1, i1 5 (by decide)]
    · rw [wI_at, i3 i]
      by_cases e : i = 4096 * m + k
      · rw [if_pos ⟨rfl, e⟩, if_pos (by omega), e, show 4096 * m + k - 4096 * m = k by omega]
      · rw [if_neg (fun hh => e hh.2)]
        by_cases c : 4096 * m ≤ i ∧ i < 4096 * m + k
        · rw [if_pos c, if_pos (by omega)]
        · rw [if_neg c, if_neg (by omega)]
  · intro s hI
    refine ⟨s, ?_, hI⟩
    show bd_X4_push_102 fu (nI 4096) s = _
    unfold bd_X4_push_102
    rw [if_pos (show (4096 : Int32) ≤ nI 4096 by decide)]
theorem pushM (hm : RMn S v) (hn : NtOK S) (hf : 4096 < fu) {m : Nat} (h8 : m < 8) (h19 : v.1 0 19 = nI m) : ∃ V, f_X4_push fu v = some (nI (m + 1), V) ∧ (∀ c, c ≠ 0 → c ≠ 13 → c ≠ 14 → c ≠ 15 → c ≠ 16 → c ≠ 17 → V.1 c = v.1 c) ∧ (∀ j, j ≠ 0 → j ≠ 19 → V.1 0 j = v.1 0 j) ∧ V.1 0 0 = 0 ∧ V.2 = v.2 ∧ V.1 0 19 = nI (m + 1) ∧ LvM m (n_lv S) V ∧ ∀ l d, l < m → d.1 ≤ 64 → LvM l d v → LvM l d V := by
  have hR := hn.2.1
  have k19 : (wI (wI (wI v 0 0 0) 13 m (v.1 0 2)) 17 m (v.1 0 8)).1 0 19 = nI m := by
    rw [wI_n (by decide), wI_n (by decide), w0n v 0 (by decide)]; exact h19
  obtain ⟨r1, e1, a1, a2, a3, a4⟩ := pushA (fu := fu) (by omega) h8 k19
  obtain ⟨r2, e2, b1, b2, b3⟩ := pushB (fu := fu) hf h8 (show r1.1 0 19 = nI m by rw [a1 0 (by decide) (by decide)]; exact k19)
  have r0 : ∀ j, r2.1 0 j = (wI v 0 0 0).1 0 j := fun j => by rw [b1 0 (by decide), a1 0 (by decide) (by decide), wI_n (by decide), wI_n (by decide)]
  have rc : ∀ c, c ≠ 0 → c ≠ 13 → c ≠ 14 → c ≠ 15 → c ≠ 16 → c ≠ 17 → r2.1 c = v.1 c := fun c c0 c13 c14 c15 c16 c17 => by rw [b1 c c16, a1 c c14 c15, wI_n c17, wI_n c13, wI_n c0]
  have V0 : ∀ c, c ≠ 0 → (wI r2 0 19 (nI (m + 1))).1 c = r2.1 c := fun c hc => wI_n hc
  have v13 : ∀ i, r2.1 13 i = if i = m then v.1 0 2 else v.1 13 i := fun i => by
    rw [b1 13 (by decide), a1 13 (by decide) (by decide), wI_n (by decide), wI_at, wI_n (by decide)]
    simp only [true_and]
  have v17 : ∀ i, r2.1 17 i = if i = m then v.1 0 8 else v.1 17 i := fun i => by
    rw [b1 17 (by decide), a1 17 (by decide) (by decide), wI_at, wI_n (by decide), wI_n (by decide)]
    simp only [true_and]
  have v14 : ∀ i, r2.1 14 i = if 64 * m ≤ i ∧ i < 64 * m + 64 then v.1 3 (i - 64 * m) else v.1 14 i := fun i => by
    rw [b1 14 (by decide), a3 i, wI_n (show (3 : Nat) ≠ 17 by decide), wI_n (show (3 : Nat) ≠ 13 by decide), wI_n (show (3 : Nat) ≠ 0 by decide), wI_n (show (14 : Nat) ≠ 17 by decide), wI_n (show (14 : Nat) ≠ 13 by decide), wI_n (show (14 : Nat) ≠ 0 by decide)]
  have v15 : ∀ i, r2.1 15 i = if 64 * m ≤ i ∧ i < 64 * m + 64 then vp_nar .boolean (v.1 4 (i - 64 * m)) else v.1 15 i := fun i => by
    rw [b1 15 (by decide), a4 i, wI_n (show (4 : Nat) ≠ 17 by decide), wI_n (show (4 : Nat) ≠ 13 by decide), wI_n (show (4 : Nat) ≠ 0 by decide), wI_n (show (15 : Nat) ≠ 17 by decide), wI_n (show (15 : Nat) ≠ 13 by decide), wI_n (show (15 : Nat) ≠ 0 by decide)]
  have v16 : ∀ i, r2.1 16 i = if 4096 * m ≤ i ∧ i < 4096 * m + 4096 then v.1 5 (i - 4096 * m) else v.1 16 i := fun i => by
    rw [b3 i, a1 5 (by decide) (by decide), a1 16 (by decide) (by decide), wI_n (show (5 : Nat) ≠ 17 by decide), wI_n (show (5 : Nat) ≠ 13 by decide), wI_n (show (5 : Nat) ≠ 0 by decide), wI_n (show (16 : Nat) ≠ 17 by decide), wI_n (show (16 : Nat) ≠ 13 by decide), wI_n (show (16 : Nat) ≠ 0 by decide)]
  refine ⟨wI r2 0 19 (nI (m + 1)), ?_, fun c c0 c13 c14 c15 c16 c17 => by rw [V0 c c0]; exact rc c c0 c13 c14 c15 c16 c17, fun j j0 j19 => by rw [wI_at, if_neg (fun hh => j19 hh.2), r0, w0n v 0 j0], by rw [wI_at, if_neg (by decide), r0, t0], by rw [wI_2, b2, a2]; rfl, by rw [wI_at, if_pos ⟨rfl, rfl⟩], ⟨?_, fun r hr => ⟨?_, ?_⟩, fun a b ha hb => ?_, ?_⟩, fun l d hl hd hL => ⟨?_, fun r hr => ⟨?_, ?_⟩, fun a b ha hb => ?_, ?_⟩⟩
  · have q19 : (wI v 0 0 0).1 0 19 = nI m := by rw [w0n v 0 (by decide)]; exact h19
    unfold f_X4_push
    simp only [nm_e1]
    rw [q19, if_neg (fun e => by have := (nI_eq (b := 8) (by omega) (by decide)).mp e; omega), ck_t (vp_in_nI (by omega) (by decide)), nI_clamp (by omega), wI_n (show (0 : Nat) ≠ 13 by decide), q19, ck_t (vp_in_nI (by omega) (by decide)), nI_clamp (by omega), w0n v 0 (show (2 : Nat) ≠ 0 by decide), w0n v 0 (show (8 : Nat) ≠ 0 by decide), e1, bn_e, e2, bn_e, r0, q19, nI_1, wI_at, if_pos ⟨rfl, rfl⟩]
  · rw [V0 13 (by decide), v13, if_pos rfl]
    exact hm.2.1
  · have hr : r < n_R S := hr
    rw [V0 14 (by decide), v14, if_pos (by omega), show 64 * m + r - 64 * m = r by omega]
    exact (hm.2.2.1 r hr).2.2.1
  · have hr : r < n_R S := hr
    rw [V0 15 (by decide), v15, if_pos (by omega), show 64 * m + r - 64 * m = r by omega, (hm.2.2.1 r hr).2.2.2]
    show vp_nar .boolean (if n_o S r = true then 1 else 0) = if n_o S r = true then 1 else 0
    split
    · exact vnb1
    · exact vnb0
  · rw [V0 16 (by decide), v16, if_pos (by omega), show 4096 * m + (64 * a + b) - 4096 * m = 64 * a + b by omega]
    exact hm.2.2.2.1 a b ha hb
  · rw [V0 17 (by decide), v17, if_pos rfl]
    exact hm.2.2.2.2
  · rw [V0 13 (by decide), v13, if_neg (by omega)]; exact hL.1
  · rw [V0 14 (by decide), v14, if_neg (by omega)]; exact (hL.2.1 r hr).1
  · rw [V0 15 (by decide), v15, if_neg (by omega)]; exact (hL.2.1 r hr).2
  · rw [V0 16 (by decide), v16, if_neg (by omega)]; exact hL.2.2.1 a b ha hb
  · rw [V0 17 (by decide), v17, if_neg (by omega)]; exact hL.2.2.2
theorem L_28 (hR : Ra S w v) (hf : 4096 < fu) : GI fu (f_L_push fu w o) (f_X4_push fu v) od := by
  have hR0 := hR
  obtain ⟨hn, hm, hc, hz, hp, ⟨m, D, m1, m2, m3, m4⟩, hpl, hpt, hne⟩ := hR
  have hR64 := hn.2.1
  by_cases h8 : m < 8
  · obtain ⟨W, eW, f1, f2, f3, f4, f5⟩ := store_ok (fu := fu) hc hn h8 m2
    obtain ⟨V, eV, g1, g0, gt, g2, g3, g4, g5⟩ := pushM hm hn hf h8 m3
    have wc : ∀ c, c ≠ 3 → c ≠ 24 → c ≠ 25 → c ≠ 26 → c ≠ 28 → W.1 c = w.1 c := f1
    have w0 := wc 0 (by decide) (by decide) (by decide) (by decide) (by decide)
    have w2 := wc 2 (by decide) (by decide) (by decide) (by decide) (by decide)
    refine GI.y (S := S) (o := o) (x := nI (m + 1)) (w1 := W) (v1 := V) ?_ eV gt ⟨hn, ⟨by rw [g0 1 (by decide) (by decide)]; exact hm.1, by rw [g0 2 (by decide) (by decide)]; exact hm.2.1, fun r hr => by rw [g1 1 (by decide) (by decide) (by decide) (by decide) (by decide) (by decide), g1 2 (by decide) (by decide) (by decide) (by decide) (by decide) (by decide), g1 3 (by decide) (by decide) (by decide) (by decide) (by decide) (by decide), g1 4 (by decide) (by decide) (by decide) (by decide) (by decide) (by decide)]; exact hm.2.2.1 r hr, fun a b ha hb => by rw [g1 5 (by decide) (by decide) (by decide) (by decide) (by decide) (by decide)]; exact hm.2.2.2.1 a b ha hb, by rw [g0 8 (by decide) (by decide)]; exact hm.2.2.2.2⟩, hc.same (wc 1 (by decide) (by decide) (by decide) (by decide) (by decide)) (wc 9 (by decide) (by decide) (by decide) (by decide) (by decide)) (wc 10 (by decide) (by decide) (by decide) (by decide) (by decide)) (wc 11 (by decide) (by decide) (by decide) (by decide) (by decide)) (wc 12 (by decide) (by decide) (by decide) (by decide) (by decide)) (f2 13 (by decide)) (f2 14 (by decide)) (f2 1 (by decide)), hz.same (f2 22 (by decide)) (f2 23 (by decide)), ?_, ⟨m + 1, fun l => if l = m then n_lv S else D l, by omega, f3, g3, fun l hl => ?_⟩, hpl.same (wc 4 (by decide) (by decide) (by decide) (by decide) (by decide)) (g1 12 (by decide) (by decide) (by decide) (by decide) (by decide) (by decide)), hpt.same (by rw [w0]) (by rw [w0]) (wc 6 (by decide) (by decide) (by decide) (by decide) (by decide)) (g0 26 (by decide) (by decide)) (g0 27 (by decide) (by decide)) (g1 18 (by decide) (by decide) (by decide) (by decide) (by decide) (by decide)), hne.same (by rw [w0]) (wc 7 (by decide) (by decide) (by decide) (by decide) (by decide)) (g0 29 (by decide) (by decide)) (g1 19 (by decide) (by decide) (by decide) (by decide) (by decide) (by decide))⟩
    · unfold f_L_push f_X3_push
      rw [nm_e1, m2, if_pos (show nI m < (8 : Int32) from nI_lt (b := 8) h8 (by decide)), eW, bn_e, nm_e1, f3, bx_l]
    · unfold Pr
      rw [w2, g0 9 (by decide) (by decide), g0 14 (by decide) (by decide), g0 13 (by decide) (by decide)]
      rcases hp with hp | ⟨a, b, c, d, e⟩
      · exact Or.inl hp
      · exact Or.inr ⟨a, b, c.same w2 (wc 15 (by decide) (by decide) (by decide) (by decide) (by decide)) (wc 16 (by decide) (by decide) (by decide) (by decide) (by decide)) (wc 20 (by decide) (by decide) (by decide) (by decide) (by decide)) (wc 21 (by decide) (by decide) (by decide) (by decide) (by decide)) (f2 17 (by decide)) (f2 18 (by decide)) (f2 19 (by decide)), d.same (g1 6 (by decide) (by decide) (by decide) (by decide) (by decide) (by decide)) (g1 7 (by decide) (by decide) (by decide) (by decide) (by decide) (by decide)) (g1 8 (by decide) (by decide) (by decide) (by decide) (by decide) (by decide)) (by rw [g2]) (g0 13 (by decide) (by decide)) (g0 14 (by decide) (by decide)), e⟩
    · show LvOK (n_R S) (if l = m then n_lv S else D l) ∧ LvC l (if l = m then n_lv S else D l) W ∧ LvM l (if l = m then n_lv S else D l) V
      by_cases e : l = m
      · rw [if_pos e, e]
        exact ⟨hn.lv, f4, g4⟩
      · rw [if_neg e]
        have k := m4 l (by omega)
        have hd : (D l).1 ≤ 64 := Nat.le_trans k.1.1 hR64
        exact ⟨k.1, f5 l _ (by omega) hd k.2.1, g5 l _ (by omega) hd k.2.2⟩
  · have e8 : m = 8 := by omega
    refine GI.n (S := S) (o := o) (c := 1) (w1 := w) (x := 0) (v1 := wI (wI v 0 0 0) 0 0 1) ?_ ?_ (t0 _ _) (by decide) (hR0.thr2 0 1)
    · unfold f_L_push f_X3_push
      rw [nm_e1, m2, e8, if_neg (by decide), bx_r, ex_y]
    · unfold f_X4_push
      rw [nm_e1, nm_e1, w0n v 0 (by decide), m3, e8, if_pos (by decide), fail_ok, bn2_e]
end LV
