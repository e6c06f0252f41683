/-! the lengths towards a goal, one function; the road to begin with -/
noncomputable def n_Z (S : Nt) (g : Nat) : Nat → Nat := Classical.epsilon (fun Z : Nat → Nat => Bell 536870912 (n_R S) (s1 S) (goalB S g) Z)
theorem goalB_le {S : Nt} (g r : Nat) : goalB S g r ≤ 536870912 := by
  unfold goalB
  split <;> omega
theorem n_Z_eq {S : Nt} (hn : NtOK S) {g : Nat} {Z : Nat → Nat} (h : Bell 536870912 (n_R S) (s1 S) (goalB S g) Z) : ∀ r, r < n_R S → n_Z S g r = Z r := by
  have h1 : Bell 536870912 (n_R S) (s1 S) (goalB S g) (n_Z S g) := Classical.epsilon_spec (p := fun Z : Nat → Nat => Bell 536870912 (n_R S) (s1 S) (goalB S g) Z) ⟨Z, h⟩
  exact fun r hr => h1.uniq (s1_pos hn) (fun r _ => goalB_le g r) h r hr
theorem n_Z_bell {S : Nt} {g : Nat} {Z : Nat → Nat} (h : Bell 536870912 (n_R S) (s1 S) (goalB S g) Z) : Bell 536870912 (n_R S) (s1 S) (goalB S g) (n_Z S g) :=
  Classical.epsilon_spec (p := fun Z : Nat → Nat => Bell 536870912 (n_R S) (s1 S) (goalB S g) Z) ⟨Z, h⟩
theorem fb_Z {S : Nt} (hn : NtOK S) {g : Nat} {be co : Nat → Nat} (h : FbEnd S g be co) {r : Nat} (hr : r < n_R S) : (be r < 1000000000000 ↔ n_Z S g r < 536870912) ∧ (be r < 1000000000000 → 128 * be r + co r = 128 * n_w S r + 1 + n_Z S g r ∧ n_Z S g r ≤ 90112064 ∧ n_Z S g r % 128 ≤ 64 ∧ n_o S r = true) := by
  have hz := n_Z_eq hn (fb_bell hn h) r hr
  have h0 := h.1 r hr
  by_cases hf : be r < 1000000000000
  · have h1 := fbG_lt hn h hr hf
    have h2 := fb_co hn h hr hf
    have ho : n_o S r = true := by
      rcases h.2.2.2 r hr hf with k | ⟨b, hb, k, _⟩
      · exact k.1
      · rcases c2_cases hn r b with ⟨e, _⟩ | ⟨e, _⟩
        · omega
        · exact e.2.2.1
    refine ⟨⟨fun _ => by omega, fun _ => hf⟩, fun _ => ⟨by omega, by omega, by omega, ho⟩⟩
  · have h1 : fbG S be co r = 536870912 := if_pos (by omega)
    exact ⟨⟨fun h => absurd h hf, fun h => by omega⟩, fun h => absurd h hf⟩
/-- a world that holds the network -/
def mkW (S : Nt) : WS := (fun c i => match c with
  | 0 => (match i with
    | 1 => nI (n_J S)
    | 2 => nI (n_R S)
    | 8 => n_u S
    | _ => 0)
  | 1 => nI (n_f S i)
  | 2 => nI (n_t S i)
  | 3 => nI (n_w S i)
  | 4 => if n_o S i = true then 1 else 0
  | 5 => n_s S (i / 64) (i % 64)
  | _ => 0, fun _ _ => 0)
theorem mkW_ok (S : Nt) : RMn S (mkW S) := by
  refine ⟨rfl, rfl, fun r _ => ⟨rfl, rfl, rfl, rfl⟩, fun a b ha hb => ?_, rfl⟩
  show n_s S ((64 * a + b) / 64) ((64 * a + b) % 64) = n_s S a b
  rw [show (64 * a + b) / 64 = a by omega, show (64 * a + b) % 64 = b by omega]
theorem Z_ok {S : Nt} (hn : NtOK S) {g : Nat} (hg : g < 2 ^ 31) : Bell 536870912 (n_R S) (s1 S) (goalB S g) (n_Z S g) ∧ ∀ r, r < n_R S → n_Z S g r < 536870912 → n_Z S g r ≤ 90112064 ∧ n_Z S g r % 128 ≤ 64 ∧ n_o S r = true := by
  obtain ⟨_, be, co, _, _, _, hE⟩ := findBehind_ok (mkW_ok S) hn (Nat.le_refl (2 ^ 80)) hg
  exact ⟨n_Z_bell (fb_bell hn hE), fun r hr hl => ((fb_Z hn hE hr).2 ((fb_Z hn hE hr).1.mpr hl)).2⟩
theorem bst_sN {w : Nat → Nat} {q : Nat → Bool} {k : Nat} (h : bst w q k = none) (hq : q k = true) : bst w q (k + 1) = some k := by
  unfold bst
  rw [h]
  exact if_pos hq
theorem bst_sF {w : Nat → Nat} {q : Nat → Bool} {k : Nat} (hq : q k = false) : bst w q (k + 1) = bst w q k := by
  conv => lhs; unfold bst
  cases bst w q k with
  | none => exact if_neg (by rw [hq]; decide)
  | some b => exact if_neg (fun hh => by rw [hq] at hh; exact absurd hh.1 (by decide))
theorem bst_sL {w : Nat → Nat} {q : Nat → Bool} {k b : Nat} (h : bst w q k = some b) (hq : q k = true) (hl : w k < w b) : bst w q (k + 1) = some k := by
  unfold bst
  rw [h]
  exact if_pos ⟨hq, hl⟩
theorem bst_sG {w : Nat → Nat} {q : Nat → Bool} {k b : Nat} (h : bst w q k = some b) (hl : ¬ w k < w b) : bst w q (k + 1) = some b := by
  unfold bst
  rw [h]
  exact if_neg (fun hh => hl hh.2)
theorem bst_congr {w1 w2 : Nat → Nat} {q1 q2 : Nat → Bool} : ∀ k, (∀ r, r < k → q1 r = q2 r ∧ (q1 r = true → w1 r = w2 r)) → bst w1 q1 k = bst w2 q2 k
  | 0, _ => rfl
  | k + 1, h => by
    have ih := bst_congr k (fun r hr => h r (by omega))
    have hk := h k (by omega)
    by_cases hq : q1 k = true
    · cases hb : bst w1 q1 k with
      | none =>
        rw [bst_sN hb hq, bst_sN (by rw [← ih]; exact hb) (by rw [← hk.1]; exact hq)]
      | some b =>
        have hb2 : bst w2 q2 k = some b := by rw [← ih]; exact hb
        have hbo := bst_ok hb
        have hwb := (h b (by omega)).2 hbo.2
        have hwk := hk.2 hq
        by_cases hl : w1 k < w1 b
        · rw [bst_sL hb hq hl, bst_sL hb2 (by rw [← hk.1]; exact hq) (by omega)]
        · rw [bst_sG hb hl, bst_sG hb2 (by omega)]
    · have hq := Bool.eq_false_iff.mpr hq
      rw [bst_sF hq, bst_sF (by rw [← hk.1]; exact hq)]
      exact ih
/-- a number, or -1 -/
def oI (o : Option Nat) : Int32 := match o with
  | none => -1
  | some b => nI b
noncomputable def n_fst (S : Nt) (a g : Nat) : Option Nat := bst (fun r => 128 * n_w S r + 1 + n_Z S g r) (fun r => (n_f S r == a) && n_o S r && decide (n_Z S g r < 536870912)) (n_R S)
/-- the distance, if there is a path -/
noncomputable def n_c (S : Nt) (a g : Nat) : Option Nat := if a = g then some 0 else (n_fst S a g).map (fun r => (128 * n_w S r + 1 + n_Z S g r) / 128)
section MF
variable {S : Nt} {v : WS} {g : Nat} {be co : Nat → Nat}
theorem fst_ok {a r : Nat} (h : n_fst S a g = some r) : r < n_R S ∧ n_f S r = a ∧ n_o S r = true ∧ n_Z S g r < 536870912 := by
  have := bst_ok h
  simp only [Bool.and_eq_true, beq_iff_eq, decide_eq_true_eq] at this
  exact ⟨this.1, this.2.1.1, this.2.1.2, this.2.2⟩
theorem n_c_le (hn : NtOK S) {a d : Nat} (hg : g < 2 ^ 31) (h : n_c S a g = some d) : d ≤ 715000 := by
  unfold n_c at h
  by_cases e : a = g
  · rw [if_pos e] at h; cases h; omega
  · rw [if_neg e] at h
    cases hb : n_fst S a g with
    | none => rw [hb] at h; cases h
    | some r =>
      rw [hb] at h
      cases h
      have h1 := fst_ok hb
      have h2 := (Z_ok hn hg).2 r h1.1 h1.2.2.2
      have h3 := (hn.2.2.1 r h1.1).2.2.2
      show (128 * n_w S r + 1 + n_Z S g r) / 128 ≤ 715000
      omega
theorem first_ok (h : RMn S v) (hn : NtOK S) (rb : RB S be co v) (hE : FbEnd S g be co) {fu : Nat} (hf : 64 < fu) {a : Nat} (ha : a < 2 ^ 31) : f_X4_firstRoad fu v (nI a) = some (oI (n_fst S a g)) := by
  have hR := hn.2.1
  have hJ := hn.1
  have e0 := hE.1
  have hc : ∀ r, r < n_R S → be r < 1000000000000 → co r ≤ 65 := fun r hr hl => fb_co hn hE hr hl
  have key : ∃ r, iter (fun q : Int32 × Int32 => bd_X4_firstRoad_4 fu v (nI a) q.1 q.2) fu (((-1) : Int32), (0 : Int32)) = some r ∧ r = oI (bst (fun r => 128 * be r + co r) (fun r => (n_f S r == a) && decide (be r < 1000000000000)) (n_R S)) := by
    refine iter_for0 (fun j (s : Int32) => (s, nI j)) (n_R S) (fun j s => s = oI (bst (fun r => 128 * be r + co r) (fun r => (n_f S r == a) && decide (be r < 1000000000000)) j)) (fun (r : Int32) => r = oI (bst (fun r => 128 * be r + co r) (fun r => (n_f S r == a) && decide (be r < 1000000000000)) (n_R S))) ?_ ?_ (by omega) (-1) rfl
    · intro j s hj hI
      have hfj := (hn.2.2.1 j hj).1
      refine ⟨oI (bst (fun r => 128 * be r + co r) (fun r => (n_f S r == a) && decide (be r < 1000000000000)) (j + 1)), ?_, rfl⟩
      show bd_X4_firstRoad_4 fu v (nI a) s (nI j) = _
      unfold bd_X4_firstRoad_4
      rw [nm_e1, h.2.1, if_neg (nI_ge hj (by omega)), ck_t (in64 (by omega)), nm_e1, cl64 (by omega), (h.2.2.1 j hj).1]
      by_cases e1 : n_f S j = a
      · rw [if_pos (by rw [e1]), ck_t (in64 (by omega)), nm_e1, (rb j hj).1]
        by_cases e2 : be j < 1000000000000
        · have hq : ((fun r => (n_f S r == a) && decide (be r < 1000000000000)) j) = true := by simp [e1, e2]
          have hj2 := hc j hj e2
          have hj0 := e0 j hj
          rw [if_neg (fun e => by have := (lg_cmp_eq _ _).mp e; rw [lN_far] at this; have := (pk_lEQ (by omega) (by decide)).mp this; omega)]
          cases hb : bst (fun r => 128 * be r + co r) (fun r => (n_f S r == a) && decide (be r < 1000000000000)) j with
          | none =>
            rw [hb] at hI
            rw [show s = -1 from hI, if_pos rfl, nm_e1, nI_1, bst_sN hb hq]
            rfl
          | some b =>
            rw [hb] at hI
            have hbo := bst_ok hb
            have hbn : b < n_R S := by omega
            have hbf : be b < 1000000000000 := by
              have := hbo.2
              simp only [Bool.and_eq_true, decide_eq_true_eq] at this
              exact this.2
            have hb2 := hc b hbn hbf
            have hb0 := e0 b hbn
            rw [show s = nI b from hI, if_neg (m1_ne (by omega))]
            simp only [nm_e1, ck_t (in64 (show j < 64 by omega)), ck_t (in64 (show b < 64 by omega)), cl64 (show j < 64 by omega), cl64 (show b < 64 by omega)]
            rw [(rb b hbn).1, (rb j hj).2, (rb b hbn).2]
            by_cases l1 : be j < be b
            · rw [if_pos ((lg_cmp_lt _ _).mpr ((pk_lLT (by omega) (by omega)).mpr l1)), nI_1, bst_sL hb hq (by show 128 * be j + co j < 128 * be b + co b; omega)]
              rfl
            · rw [if_neg (fun e => l1 ((pk_lLT (by omega) (by omega)).mp ((lg_cmp_lt _ _).mp e)))]
              by_cases l2 : be j = be b
              · rw [if_pos ((lg_cmp_eq _ _).mpr (by rw [l2]))]
                by_cases l3 : co b ≤ co j
                · rw [if_pos (nI_le l3 (by omega)), nI_1, bst_sG hb (by show ¬ 128 * be j + co j < 128 * be b + co b; omega)]
                  rfl
                · rw [if_neg (nI_ge (by omega) (by omega)), nI_1, bst_sL hb hq (by show 128 * be j + co j < 128 * be b + co b; omega)]
                  rfl
              · rw [if_neg (fun e => l2 ((pk_lEQ (by omega) (by omega)).mp ((lg_cmp_eq _ _).mp e))), nI_1, bst_sG hb (by show ¬ 128 * be j + co j < 128 * be b + co b; omega)]
                rfl
        · have e3 : be j = 1000000000000 := by have := e0 j hj; omega
          rw [if_pos ((lg_cmp_eq _ _).mpr (by rw [e3, ← lN_far])), nm_e1, nI_1, bst_sF (by simp [e3]), hI]
      · rw [if_neg (fun e => e1 ((nI_eq (by omega) (by omega)).mp e)), nm_e1, nI_1, bst_sF (by simp [e1]), hI]
    · intro s hI
      refine ⟨s, ?_, hI⟩
      show bd_X4_firstRoad_4 fu v (nI a) s (nI (n_R S)) = _
      unfold bd_X4_firstRoad_4
      rw [nm_e1, h.2.1, if_pos (nI_le (Nat.le_refl _) (by omega))]
  obtain ⟨r, e, rfl⟩ := key
  unfold f_X4_firstRoad
  rw [e, bn_e]
  congr 2
  unfold n_fst
  refine bst_congr (n_R S) fun r hr => ?_
  have hz := fb_Z hn hE hr
  by_cases hl : be r < 1000000000000
  · have h2 := hz.2 hl
    have h3 := hz.1.mp hl
    simp [hl, h3, h2.1, h2.2.2.2]
  · have h3 : ¬ n_Z S g r < 536870912 := fun h => hl (hz.1.mpr h)
    simp [hl, h3]
theorem between_ok (h : RMn S v) (hn : NtOK S) {fu : Nat} (hf : 2 ^ 80 ≤ fu) {a : Nat} (ha : a < n_J S) (hg : g < n_J S) : ∃ r, f_X4_distanceBetween fu v (nI a) (nI g) = some (oI (n_c S a g), r) ∧ FrB r v ∧ (a ≠ g → ∃ be co, RB S be co r ∧ FbEnd S g be co) := by
  have hR := hn.2.1
  have hJ := hn.1
  unfold f_X4_distanceBetween n_c
  by_cases e : a = g
  · rw [if_pos (by rw [e]), if_pos e]
    exact ⟨v, rfl, FrB.rf v, fun h => absurd e h⟩
  · obtain ⟨r, be, co, e1, f1, rb, hE⟩ := findBehind_ok h hn hf (show g < 2 ^ 31 by omega)
    have hr := h.frB f1
    rw [if_neg (fun e2 => e ((nI_eq (by omega) (by omega)).mp e2)), if_neg e, e1, bn_e, first_ok hr hn rb hE (by omega) (by omega), bn_e]
    refine ⟨r, ?_, f1, fun _ => ⟨be, co, rb, hE⟩⟩
    cases hb : n_fst S a g with
    | none =>
      rw [show oI none = -1 from rfl, if_pos rfl]
      rfl
    | some x =>
      have h1 := fst_ok hb
      have hz := fb_Z hn hE h1.1
      have hl := hz.1.mpr h1.2.2.2
      have h2 := hz.2 hl
      have hc := fb_co hn hE h1.1 hl
      have h0 := hE.1 x h1.1
      rw [show oI (some x) = nI x from rfl, if_neg (m1_ne (by omega)), ck_t (in64 (by omega)), nm_e1, cl64 (by omega), (rb x h1.1).1, lN_i]
      show some (nI (be x), r) = some (nI ((128 * n_w S x + 1 + n_Z S g x) / 128), r)
      rw [← h2.1, show (128 * be x + co x) / 128 = be x by omega]
end MF
