/-! steps: addRoad, prepare, the hierarchy's looks, the kept path, places -/
section S1
variable {S : Nt} {w v : WS} {fu : Nat} {o : Nat → Int64} {od : Nat → UInt64}
theorem append_ok (h : RCn S w) (hn : NtOK S) {f t x : Nat} (h64 : n_R S < 64) (hf : f < n_J S) (ht : t < n_J S) : ∃ W, f_X2_append fu w (nI f) (nI t) (nI x) = some (nI (n_R S), W) ∧ RCn (n_ar S f t x) W ∧ (∀ c, c ≠ 1 → c ≠ 9 → c ≠ 10 → c ≠ 11 → W.1 c = w.1 c) ∧ ∀ c, c ≠ 1 → c ≠ 13 → c ≠ 14 → W.2 c = w.2 c := by
  have hJ := hn.1
  have mk : ∀ W : WS, W = wI (wL (wL (wL (wI (wI (wI w 9 (n_R S) (nI f)) 10 (n_R S) (nI t)) 11 (n_R S) (nI x)) 13 f (w.2 13 f ||| ((1 : Int64) <<< ((nI (n_R S)).toInt64 &&& 63)))) 14 t (w.2 14 t ||| ((1 : Int64) <<< ((nI (n_R S)).toInt64 &&& 63)))) 1 8 (w.2 1 8 ||| ((1 : Int64) <<< ((nI (n_R S)).toInt64 &&& 63)))) 1 1 (nI (n_R S + 1)) → f_X2_append fu w (nI f) (nI t) (nI x) = some (nI (n_R S), W) ∧ RCn (n_ar S f t x) W ∧ (∀ c, c ≠ 1 → c ≠ 9 → c ≠ 10 → c ≠ 11 → W.1 c = w.1 c) ∧ ∀ c, c ≠ 1 → c ≠ 13 → c ≠ 14 → W.2 c = w.2 c := by
    intro W eW
    have w2 : W.2 = (wL (wL (wL w 13 f (w.2 13 f ||| ((1 : Int64) <<< ((nI (n_R S)).toInt64 &&& 63)))) 14 t (w.2 14 t ||| ((1 : Int64) <<< ((nI (n_R S)).toInt64 &&& 63)))) 1 8 (w.2 1 8 ||| ((1 : Int64) <<< ((nI (n_R S)).toInt64 &&& 63)))).2 := by rw [eW]; rfl
    have w1 : W.1 = (wI (wI (wI (wI w 9 (n_R S) (nI f)) 10 (n_R S) (nI t)) 11 (n_R S) (nI x)) 1 1 (nI (n_R S + 1))).1 := by rw [eW]; rfl
    refine ⟨?_, ⟨?_, ?_, fun r hr => ?_, fun a b ha hb => ?_, fun j i hj hi => ?_, fun j i hj hi => ?_, fun i hi => ?_, ?_⟩, fun c c1 c9 c10 c11 => ?_, fun c c1 c13 c14 => ?_⟩
    · unfold f_X2_append
      simp only [nm_e1]
      rw [h.2.1]
      simp only [only_ok, bn_e, ck_t (in64 h64), cl64 h64, ck_t (vp_in_nI (show f < 32 by omega) (show 32 < 2 ^ 31 by decide)), ck_t (vp_in_nI (show t < 32 by omega) (show 32 < 2 ^ 31 by decide)), nI_clamp (show f < 2 ^ 31 by omega), nI_clamp (show t < 2 ^ 31 by omega), wL_1, wI_2]
      rw [wI_n (show (1 : Nat) ≠ 11 by decide), wI_n (show (1 : Nat) ≠ 10 by decide), wI_n (show (1 : Nat) ≠ 9 by decide), h.2.1, nI_1, wL_n (show (14 : Nat) ≠ 13 by decide), wL_n (show (1 : Nat) ≠ 14 by decide), wL_n (show (1 : Nat) ≠ 13 by decide), eW]
      rfl
    · rw [w1, wI_at, if_neg (by decide), wI_n (by decide), wI_n (by decide), wI_n (by decide)]; exact h.1
    · rw [w1, wI_at, if_pos ⟨rfl, rfl⟩]; rfl
    · have hr : r < n_R S + 1 := hr
      show W.1 9 r = nI (updN (n_f S) (n_R S) f r) ∧ W.1 10 r = nI (updN (n_t S) (n_R S) t r) ∧ W.1 11 r = nI (updN (n_w S) (n_R S) x r)
      have a9 : W.1 9 r = if r = n_R S then nI f else w.1 9 r := by
        rw [w1, wI_n (by decide), wI_n (by decide), wI_n (by decide), wI_at]
        simp only [true_and]
      have a10 : W.1 10 r = if r = n_R S then nI t else w.1 10 r := by
        rw [w1, wI_n (by decide), wI_n (by decide), wI_at, wI_n (by decide)]
        simp only [true_and]
      have a11 : W.1 11 r = if r = n_R S then nI x else w.1 11 r := by
        rw [w1, wI_n (by decide), wI_at, wI_n (by decide), wI_n (by decide)]
        simp only [true_and]
      rw [a9, a10, a11]
      by_cases e : r = n_R S
      · rw [if_pos e, if_pos e, if_pos e, e, updN_s, updN_s, updN_s]
        exact ⟨rfl, rfl, rfl⟩
      · rw [if_neg e, if_neg e, if_neg e, updN_n e, updN_n e, updN_n e]
        exact h.2.2.1 r (by omega)
    · rw [w1, wI_n (by decide), wI_n (by decide), wI_n (by decide), wI_n (by decide)]
      exact h.2.2.2.1 a b ha hb
    · show bL (W.2 13 j) i = (decide (i < n_R S + 1) && (updN (n_f S) (n_R S) f i == j))
      rw [w2, wL_n (show (13 : Nat) ≠ 1 by decide), wL_n (show (13 : Nat) ≠ 14 by decide), wL_s2]
      have k := h.2.2.2.2.1 j i hj hi
      by_cases e : i = n_R S
      · rw [e, updN_s, decide_eq_true (Nat.lt_succ_self (n_R S)), Bool.true_and]
        have k0 := h.2.2.2.2.1 j (n_R S) hj (by omega)
        rw [decide_eq_false (Nat.lt_irrefl _), Bool.false_and] at k0
        by_cases ej : j = f
        · rw [if_pos ej, bL_or, bL_one h64, decide_eq_true rfl, Bool.or_true, ej]
          simp
        · rw [if_neg ej, k0]
          have : ¬ f = j := fun h => ej h.symm
          simp [this]
      · have ed : decide (i < n_R S + 1) = decide (i < n_R S) := by
          by_cases d : i < n_R S
          · rw [decide_eq_true d, decide_eq_true (by omega)]
          · rw [decide_eq_false d, decide_eq_false (by omega)]
        rw [updN_n e, ed]
        by_cases ej : j = f
        · rw [if_pos ej, bL_or, bL_one h64, decide_eq_false e, Bool.or_false, ← ej]
          exact k
        · rw [if_neg ej]
          exact k
    · show bL (W.2 14 j) i = (decide (i < n_R S + 1) && (updN (n_t S) (n_R S) t i == j))
      rw [w2, wL_n (show (14 : Nat) ≠ 1 by decide), wL_s2]
      have k := h.2.2.2.2.2.1 j i hj hi
      by_cases e : i = n_R S
      · rw [e, updN_s, decide_eq_true (Nat.lt_succ_self (n_R S)), Bool.true_and]
        have k0 := h.2.2.2.2.2.1 j (n_R S) hj (by omega)
        rw [decide_eq_false (Nat.lt_irrefl _), Bool.false_and] at k0
        by_cases ej : j = t
        · rw [if_pos ej, bL_or, bL_one h64, decide_eq_true rfl, Bool.or_true, ej]
          simp
        · rw [if_neg ej, wL_n (by decide), k0]
          have : ¬ t = j := fun h => ej h.symm
          simp [this]
      · have ed : decide (i < n_R S + 1) = decide (i < n_R S) := by
          by_cases d : i < n_R S
          · rw [decide_eq_true d, decide_eq_true (by omega)]
          · rw [decide_eq_false d, decide_eq_false (by omega)]
        rw [updN_n e, ed]
        by_cases ej : j = t
        · rw [if_pos ej, bL_or, bL_one h64, decide_eq_false e, Bool.or_false, ← ej]
          exact k
        · rw [if_neg ej, wL_n (by decide)]
          exact k
    · show bL (W.2 1 8) i = (decide (i < n_R S + 1) && if i = n_R S then true else n_o S i)
      rw [w2, wL_s2, if_pos rfl, bL_or, bL_one h64, h.2.2.2.2.2.2.1 i hi]
      by_cases e : i = n_R S
      · rw [if_pos e, decide_eq_true e, Bool.or_true, decide_eq_true (by omega)]
        rfl
      · rw [if_neg e, decide_eq_false e, Bool.or_false]
        congr 1
        by_cases d : i < n_R S
        · rw [decide_eq_true d, decide_eq_true (by omega)]
        · rw [decide_eq_false d, decide_eq_false (by omega)]
    · rw [w1, wI_at, if_neg (by decide), wI_n (by decide), wI_n (by decide), wI_n (by decide)]; exact h.2.2.2.2.2.2.2
    · rw [w1, wI_n c1, wI_n c11, wI_n c10, wI_n c9]
    · rw [w2, wL_n c1, wL_n c14, wL_n c13]
  exact ⟨_, mk _ rfl⟩
end S1
