/-! the reference: the road to take next -/
theorem cn2_one {P Q : Nat → Nat → Bool} {n a0 b0 : Nat} (hb0 : b0 < n) (hP : P a0 b0 = false) (hQ : Q a0 b0 = true) (h : ∀ a b, ¬ (a = a0 ∧ b = b0) → Q a b = P a b) : ∀ m, cn2 Q n m = cn2 P n m + if a0 < m then 1 else 0
  | 0 => by simp [cn2]
  | m + 1 => by
    have ih := cn2_one hb0 hP hQ h m
    unfold cn2
    rw [ih]
    by_cases e : m = a0
    · subst e
      have h1 := cn_one (P := Q m) (Q := P m) (v := b0) hQ (fun r => by
        by_cases e2 : r = b0
        · rw [e2, hP]; simp
        · rw [h m r (fun hh => e2 hh.2)]; simp [e2]) n
      rw [if_pos hb0] at h1
      rw [if_neg (Nat.lt_irrefl m), if_pos (Nat.lt_succ_self m)]
      omega
    · have h1 := cn_congr (P := Q m) (Q := P m) n (fun b _ => h m b (fun hh => e hh.1))
      rw [h1]
      by_cases h2 : a0 < m
      · rw [if_pos h2, if_pos (show a0 < m + 1 by omega)]; omega
      · rw [if_neg h2, if_neg (show ¬ a0 < m + 1 by omega)]; omega
/-- what the reference holds at a stage -/
def RMs (S : Nt) (p : Nat) (v : WS) : Prop := (∀ r, r < n_R S → v.1 6 r = if ctL (n_R S) (n_fol S) p r = true then (-1) else nI (n_pos S r)) ∧ (∀ j, j < p → v.1 7 j = nI (n_ord S j)) ∧ (∀ a b, a < n_R S → b < n_R S → v.1 8 (64 * a + b) = if ctA (n_R S) (n_fol S) p a b = true then 1 else 0) ∧ ∃ k, v.1 0 14 = nI (k + cn2 (n_fol S) (n_R S) (n_R S)) ∧ v.1 0 13 = nI k ∧ k + cn2 (n_fol S) (n_R S) (n_R S) = cn2 (ctA (n_R S) (n_fol S) p) (n_R S) (n_R S)
theorem m1_ne {n : Nat} (h : n < 2 ^ 31) : nI n ≠ (-1) := fun e => by
  have := congrArg Int32.toInt e
  rw [nI_toInt h] at this
  have h1 : (-1 : Int32).toInt = -1 := by decide
  omega
section MX
variable {S : Nt} {v : WS} {p : Nat}
theorem pos_un (h : RMs S p v) (hn : NtOK S) {r : Nat} (hr : r < n_R S) : v.1 6 r = (-1) ↔ ctL (n_R S) (n_fol S) p r = true := by
  have hR := hn.2.1
  have := n_pos_lt hr
  rw [h.1 r hr]
  by_cases e : ctL (n_R S) (n_fol S) p r = true
  · rw [if_pos e]; exact ⟨fun _ => e, fun _ => rfl⟩
  · rw [if_neg e]; exact ⟨fun h2 => absurd h2 (m1_ne (by omega)), fun h2 => absurd h2 e⟩
theorem nextIn (h : RMn S v) (hs : RMs S p v) (hn : NtOK S) {fu : Nat} (hf : 64 < fu) {k : Nat} (hk : k < n_R S) (y1 y2 : Int32) :
    iter (fun q : Int32 × Int32 × Int32 => bd_X4_next_36 fu v y1 y2 (nI k) q.1 q.2.1 q.2.2) fu ((0 : Int32), (0 : Int32), (0 : Int32)) = some (nI (cn (fun u => ctL (n_R S) (n_fol S) p u && ctA (n_R S) (n_fol S) p u k) (n_R S)), nI (cn (fun u => ctL (n_R S) (n_fol S) p u && ctA (n_R S) (n_fol S) p k u) (n_R S))) := by
  have hR := hn.2.1
  have key : ∃ r, iter (fun q : Int32 × Int32 × Int32 => bd_X4_next_36 fu v y1 y2 (nI k) q.1 q.2.1 q.2.2) fu ((0 : Int32), (0 : Int32), (0 : Int32)) = some r ∧ r = (nI (cn (fun u => ctL (n_R S) (n_fol S) p u && ctA (n_R S) (n_fol S) p u k) (n_R S)), nI (cn (fun u => ctL (n_R S) (n_fol S) p u && ctA (n_R S) (n_fol S) p k u) (n_R S))) := by
    refine iter_for0 (fun j (s : Nat × Nat) => (nI s.1, nI s.2, nI j)) (n_R S) (fun j s => s = (cn (fun u => ctL (n_R S) (n_fol S) p u && ctA (n_R S) (n_fol S) p u k) j, cn (fun u => ctL (n_R S) (n_fol S) p u && ctA (n_R S) (n_fol S) p k u) j)) (fun (r : Int32 × Int32) => r = (nI (cn (fun u => ctL (n_R S) (n_fol S) p u && ctA (n_R S) (n_fol S) p u k) (n_R S)), nI (cn (fun u => ctL (n_R S) (n_fol S) p u && ctA (n_R S) (n_fol S) p k u) (n_R S)))) ?_ ?_ (by omega) (0, 0) rfl
    · intro j s hj hI
      refine ⟨(s.1 + (if (ctL (n_R S) (n_fol S) p j && ctA (n_R S) (n_fol S) p j k) = true then 1 else 0), s.2 + (if (ctL (n_R S) (n_fol S) p j && ctA (n_R S) (n_fol S) p k j) = true then 1 else 0)), ?_, by rw [hI]; rfl⟩
      show bd_X4_next_36 fu v y1 y2 (nI k) (nI s.1) (nI s.2) (nI j) = _
      unfold bd_X4_next_36
      rw [nm_e1, h.2.1, if_neg (nI_ge hj (by omega)), ck_t (in64 (by omega)), nm_e1, cl64 (by omega)]
      by_cases e : ctL (n_R S) (n_fol S) p j = true
      · rw [if_pos ((pos_un hs hn hj).mpr e), ck_t (px_in (by omega) (by omega)), nm_e1, px_cl (by omega) (by omega)]
        simp only [nm_e1]
        rw [ck_t (px_in (by omega) (by omega)), px_cl (by omega) (by omega), hs.2.2.1 j k hj hk, hs.2.2.1 k j hk hj, e]
        simp only [if_zo, Bool.true_and]
        by_cases e1 : ctA (n_R S) (n_fol S) p j k = true <;> by_cases e2 : ctA (n_R S) (n_fol S) p k j = true <;> simp only [e1, e2, if_true, if_false, nI_1, Int32.add_zero, Nat.add_zero, Bool.false_eq_true, ck_t (px_in (show k < 64 by omega) (show j < 64 by omega))]
      · rw [if_neg (fun h2 => e ((pos_un hs hn hj).mp h2)), nm_e1, nI_1, Bool.eq_false_iff.mpr e]
        rfl
    · intro s hI
      refine ⟨(nI s.1, nI s.2), ?_, by rw [hI]⟩
      show bd_X4_next_36 fu v y1 y2 (nI k) (nI s.1) (nI s.2) (nI (n_R S)) = _
      unfold bd_X4_next_36
      rw [nm_e1, h.2.1, if_pos (nI_le (Nat.le_refl _) (by omega))]
  obtain ⟨r, e, rfl⟩ := key
  exact e
/-- best and least, as the reference holds them -/
def bstI (w : Nat → Nat) (q : Nat → Bool) (k : Nat) : Int32 × Int32 := match bst w q k with
  | none => (-1, 0)
  | some b => (nI b, nI (w b))
theorem ctW_le (st : (Nat → Nat → Bool) × (Nat → Bool)) {n : Nat} (hn : n ≤ 64) (k : Nat) : ctW n st k ≤ 4096 := by
  unfold ctW
  have h1 := cn_le (fun u => st.2 u && st.1 u k) n
  have h2 := cn_le (fun u => st.2 u && st.1 k u) n
  exact Nat.le_trans (Nat.mul_le_mul (Nat.le_trans h1 hn) (Nat.le_trans h2 hn)) (by decide)
theorem next_ord (h : RMn S v) (hs : RMs S p v) (hn : NtOK S) {fu : Nat} (hf : 64 < fu) (hp : p < n_R S) : f_X4_next fu v = some (nI (n_ord S p)) := by
  have hR := hn.2.1
  have key : ∃ r, iter (fun q : Int32 × Int32 × Int32 => bd_X4_next_6 fu v q.1 q.2.1 q.2.2) fu (((-1) : Int32), (0 : Int32), (0 : Int32)) = some r ∧ r = (bstI (ctW (n_R S) (ct (n_R S) (n_fol S) p)) (ctL (n_R S) (n_fol S) p) (n_R S)).1 := by
    refine iter_for0 (fun j (s : Int32 × Int32) => (s.1, s.2, nI j)) (n_R S) (fun j s => s = bstI (ctW (n_R S) (ct (n_R S) (n_fol S) p)) (ctL (n_R S) (n_fol S) p) j) (fun (r : Int32) => r = (bstI (ctW (n_R S) (ct (n_R S) (n_fol S) p)) (ctL (n_R S) (n_fol S) p) (n_R S)).1) ?_ ?_ (by omega) ((-1), 0) rfl
    · intro j s hj hI
      refine ⟨bstI (ctW (n_R S) (ct (n_R S) (n_fol S) p)) (ctL (n_R S) (n_fol S) p) (j + 1), ?_, rfl⟩
      subst hI
      show bd_X4_next_6 fu v (bstI (ctW (n_R S) (ct (n_R S) (n_fol S) p)) (ctL (n_R S) (n_fol S) p) j).1 (bstI (ctW (n_R S) (ct (n_R S) (n_fol S) p)) (ctL (n_R S) (n_fol S) p) j).2 (nI j) = _
      unfold bd_X4_next_6
      rw [nm_e1, h.2.1, if_neg (nI_ge hj (by omega)), ck_t (in64 (by omega)), nm_e1, cl64 (by omega)]
      have hw := ctW_le (ct (n_R S) (n_fol S) p) hR j
      have eW : nI (cn (fun u => ctL (n_R S) (n_fol S) p u && ctA (n_R S) (n_fol S) p u j) (n_R S)) * nI (cn (fun u => ctL (n_R S) (n_fol S) p u && ctA (n_R S) (n_fol S) p j u) (n_R S)) = nI (ctW (n_R S) (ct (n_R S) (n_fol S) p) j) := pk_mul _ _
      by_cases e : ctL (n_R S) (n_fol S) p j = true
      · rw [if_pos ((pos_un hs hn hj).mpr e), nextIn h hs hn hf hj, bn2_e, eW]
        simp only [nm_e1]
        unfold bstI
        cases hb : bst (ctW (n_R S) (ct (n_R S) (n_fol S) p)) (ctL (n_R S) (n_fol S) p) j with
        | none =>
          have e2 : bst (ctW (n_R S) (ct (n_R S) (n_fol S) p)) (ctL (n_R S) (n_fol S) p) (j + 1) = some j := by
            unfold bst
            rw [hb]
            exact if_pos e
          rw [e2, if_pos rfl, nI_1]
        | some b =>
          have hbo := bst_ok hb
          have hwb := ctW_le (ct (n_R S) (n_fol S) p) hR b
          show (if nI b = (-1) then _ else if nI (ctW (n_R S) (ct (n_R S) (n_fol S) p) j) < nI (ctW (n_R S) (ct (n_R S) (n_fol S) p) b) then _ else _) = _
          rw [if_neg (m1_ne (by omega))]
          by_cases hlt : ctW (n_R S) (ct (n_R S) (n_fol S) p) j < ctW (n_R S) (ct (n_R S) (n_fol S) p) b
          · have e2 : bst (ctW (n_R S) (ct (n_R S) (n_fol S) p)) (ctL (n_R S) (n_fol S) p) (j + 1) = some j := by
              unfold bst
              rw [hb]
              exact if_pos ⟨e, hlt⟩
            rw [e2, if_pos ((nI_ltI (by omega) (by omega)).mpr hlt), nI_1]
          · have e2 : bst (ctW (n_R S) (ct (n_R S) (n_fol S) p)) (ctL (n_R S) (n_fol S) p) (j + 1) = some b := by
              unfold bst
              rw [hb]
              exact if_neg (fun hh => hlt hh.2)
            rw [e2, if_neg (fun h2 => hlt ((nI_ltI (by omega) (by omega)).mp h2)), nI_1]
      · rw [if_neg (fun h2 => e ((pos_un hs hn hj).mp h2)), nm_e1, nI_1]
        have e2 : bst (ctW (n_R S) (ct (n_R S) (n_fol S) p)) (ctL (n_R S) (n_fol S) p) (j + 1) = bst (ctW (n_R S) (ct (n_R S) (n_fol S) p)) (ctL (n_R S) (n_fol S) p) j := by
          conv => lhs; unfold bst
          cases bst (ctW (n_R S) (ct (n_R S) (n_fol S) p)) (ctL (n_R S) (n_fol S) p) j with
          | none => exact if_neg e
          | some b => exact if_neg (fun hh => e hh.1)
        unfold bstI
        rw [e2]
    · intro s hI
      refine ⟨s.1, ?_, by rw [hI]⟩
      show bd_X4_next_6 fu v s.1 s.2 (nI (n_R S)) = _
      unfold bd_X4_next_6
      rw [nm_e1, h.2.1, if_pos (nI_le (Nat.le_refl _) (by omega))]
  obtain ⟨r, e, rfl⟩ := key
  unfold f_X4_next
  rw [e, bn_e]
  congr 1
  have hl := ct_left (n := n_R S) (fol := n_fol S) p (by omega)
  show (bstI (ctW (n_R S) (ct (n_R S) (n_fol S) p)) (ctL (n_R S) (n_fol S) p) (n_R S)).1 = nI ((bst (ctW (n_R S) (ct (n_R S) (n_fol S) p)) (ct (n_R S) (n_fol S) p).2 (n_R S)).getD 0)
  unfold bstI
  cases hb : bst (ctW (n_R S) (ct (n_R S) (n_fol S) p)) (ctL (n_R S) (n_fol S) p) (n_R S) with
  | none =>
    have := cn_f (bst_none hb)
    omega
  | some b => rfl
end MX
