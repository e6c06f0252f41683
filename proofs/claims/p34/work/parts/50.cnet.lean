/-! the class: network -/
def RCn (S : Nt) (w : WS) : Prop := w.1 1 0 = nI (n_J S) ∧ w.1 1 1 = nI (n_R S) ∧ (∀ r, r < n_R S → w.1 9 r = nI (n_f S r) ∧ w.1 10 r = nI (n_t S r) ∧ w.1 11 r = nI (n_w S r)) ∧ (∀ a b, a < 64 → b < 64 → w.1 12 (64 * a + b) = n_s S a b) ∧ (∀ j i, j < 32 → i < 64 → bL (w.2 13 j) i = (decide (i < n_R S) && (n_f S i == j))) ∧ (∀ j i, j < 32 → i < 64 → bL (w.2 14 j) i = (decide (i < n_R S) && (n_t S i == j))) ∧ (∀ i, i < 64 → bL (w.2 1 8) i = (decide (i < n_R S) && n_o S i)) ∧ w.1 1 9 = n_u S
theorem RCn.same {S : Nt} {u w : WS} (h : RCn S w) (e1 : u.1 1 = w.1 1) (e9 : u.1 9 = w.1 9) (e10 : u.1 10 = w.1 10) (e11 : u.1 11 = w.1 11) (e12 : u.1 12 = w.1 12) (e13 : u.2 13 = w.2 13) (e14 : u.2 14 = w.2 14) (e8 : u.2 1 = w.2 1) : RCn S u := by
  unfold RCn
  rw [e1, e9, e10, e11, e12, e13, e14, e8]
  exact h
theorem pr_in {a b : Nat} (ha : a < 64) (hb : b < 64) : vp_in (nI a * 64 + nI b) 4096 := by
  rw [show (64 : Int32) = nI 64 from rfl, pk_mul, nI_add]
  exact vp_in_nI (by omega) (by decide)
theorem pr_cl {a b : Nat} (ha : a < 64) (hb : b < 64) : Int32.toNatClampNeg (nI a * 64 + nI b) = 64 * a + b := by
  rw [show (64 : Int32) = nI 64 from rfl, pk_mul, nI_add, Nat.mul_comm]
  exact nI_clamp (by omega)
theorem shl7 {n : Nat} (h : n * 128 < 2 ^ 32) : nI n <<< ((7 : Int32) &&& 31) = nI (n * 128) := pk_shlN _ 7 (by decide) h
section CN
variable {S : Nt} {w : WS}
theorem folSet (h : RCn S w) (hn : NtOK S) (fu : Nat) {a : Nat} (ha : a < n_R S) : ∃ F, f_X2_followersOf fu w (nI a) = some F ∧ ∀ i, i < 64 → bL F i = (decide (i < n_R S) && n_fol S a i) := by
  have hR := hn.2.1
  have hJ := hn.1
  have h2 := (hn.2.2.1 a ha).2.1
  refine ⟨w.2 13 (n_t S a), ?_, fun i hi => ?_⟩
  · unfold f_X2_followersOf
    rw [ck_t (in64 (by omega)), nm_e1, cl64 (by omega), (h.2.2.1 a ha).2.1, ck_t (vp_in_nI (by omega) (by decide)), nm_e1, nI_clamp (by omega)]
  · rw [h.2.2.2.2.1 _ i (by omega) hi]
    unfold n_fol
    congr 1
    by_cases e : n_f S i = n_t S a
    · rw [e]
    · rw [show (n_f S i == n_t S a) = false by simpa using e, show (n_t S a == n_f S i) = false by simpa using fun h2 : n_t S a = n_f S i => e h2.symm]
theorem forSet (h : RCn S w) (hn : NtOK S) (fu : Nat) {a : Nat} (ha : a < n_R S) : ∃ F, f_X2_forerunnersOf fu w (nI a) = some F ∧ ∀ i, i < 64 → bL F i = (decide (i < n_R S) && n_fol S i a) := by
  have hR := hn.2.1
  have hJ := hn.1
  have h2 := (hn.2.2.1 a ha).1
  refine ⟨w.2 14 (n_f S a), ?_, fun i hi => ?_⟩
  · unfold f_X2_forerunnersOf
    rw [ck_t (in64 (by omega)), nm_e1, cl64 (by omega), (h.2.2.1 a ha).1, ck_t (vp_in_nI (by omega) (by decide)), nm_e1, nI_clamp (by omega)]
  · rw [h.2.2.2.2.2.1 _ i (by omega) hi]
    rfl
theorem allSet (h : RCn S w) (hn : NtOK S) (fu : Nat) : ∃ F, f_X2_allRoads fu w = some F ∧ ∀ i, i < 64 → bL F i = decide (i < n_R S) := by
  have hR := hn.2.1
  unfold f_X2_allRoads
  simp only [nm_e1]
  rw [h.2.1]
  by_cases e : n_R S < 64
  · rw [if_pos (show nI (n_R S) < (64 : Int32) from nI_lt (b := 64) e (by decide)), only_ok, bn_e]
    exact ⟨_, rfl, fun i hi => bL_low e hi⟩
  · rw [if_neg (show ¬ nI (n_R S) < (64 : Int32) from nI_nlt (b := 64) (by omega) (by omega))]
    exact ⟨_, rfl, fun i hi => by rw [bL_m1 hi, decide_eq_true (by omega)]⟩
theorem pen_ok (h : RCn S w) (hn : NtOK S) (fu : Nat) {a b : Nat} (ha : a < n_R S) (hb : b < n_R S) : f_X2_penaltyOf fu w (nI a) (nI b) = some (n_p S a b) := by
  have hR := hn.2.1
  have hJ := hn.1
  have h1 := hn.2.2.1 a ha
  have h2 := hn.2.2.1 b hb
  unfold f_X2_penaltyOf n_p f_X3_pair
  rw [bn_e, ck_t (pr_in (by omega) (by omega)), nm_e1, pr_cl (by omega) (by omega), h.2.2.2.1 a b (by omega) (by omega)]
  by_cases e : n_s S a b = (-2)
  · rw [if_pos e, if_pos e, ck_t (in64 (by omega)), nm_e1, cl64 (by omega), ck_t (in64 (by omega)), nm_e1, cl64 (by omega), (h.2.2.1 b hb).2.1, (h.2.2.1 a ha).1, nm_e1, h.2.2.2.2.2.2.2]
    by_cases e2 : n_t S b = n_f S a
    · rw [if_pos (by rw [e2]), if_pos e2]
    · rw [if_neg (fun e3 => e2 ((nI_eq (by omega) (by omega)).mp e3)), if_neg e2]
  · rw [if_neg e, if_neg e]
theorem road_ok (h : RCn S w) (hn : NtOK S) (fu : Nat) {a : Nat} (ha : a < n_R S) : f_X2_roadLength fu w (nI a) = some (nI (128 * n_w S a + 1)) := by
  have hR := hn.2.1
  have h1 := (hn.2.2.1 a ha).2.2.2
  unfold f_X2_roadLength
  rw [ck_t (in64 (by omega)), nm_e1, cl64 (by omega), (h.2.2.1 a ha).2.2, shl7 (by omega), nI_1, Nat.mul_comm]
theorem open_ok (h : RCn S w) (hn : NtOK S) (fu : Nat) {a : Nat} (ha : a < n_R S) : f_X3_has fu (w.2 1 8) (nI a) = some (if n_o S a = true then 1 else 0) := by
  have hR := hn.2.1
  rw [has_ok fu _ (show a < 64 by omega), h.2.2.2.2.2.2.1 a (by omega), decide_eq_true ha, Bool.true_and]
theorem stepL_ok (h : RCn S w) (hn : NtOK S) (fu : Nat) {a b : Nat} (ha : a < n_R S) (hb : b < n_R S) (hfol : n_fol S a b = true) : f_X2_stepLength fu w (nI a) (nI b) = some (nI (s1 S a b)) := by
  have hR := hn.2.1
  have hp := n_p_le hn a b
  have h2 := (hn.2.2.1 b hb).2.2.2
  unfold f_X2_stepLength
  rw [pen_ok h hn fu ha hb, bn_e]
  by_cases e : n_p S a b = (-1)
  · rw [if_pos e]
    have hc : ¬ c2 S a b < 1000000000000 := by
      rcases c2_cases hn a b with ⟨e2, _⟩ | ⟨e2, _⟩
      · omega
      · rw [e] at e2
        exact absurd e2.2.2.2.2.2 (by decide)
    rw [show s1 S a b = 536870912 from if_neg hc]
    rfl
  · have hp0 : 0 ≤ (n_p S a b).toInt := by
      have h7 : (n_p S a b).toInt ≠ -1 := fun e2 => e (Int32.toInt_inj.mp (e2.trans (by decide)))
      omega
    rw [if_neg e]
    simp only [nm_e1]
    rw [open_ok h hn fu ha, bn_e, if_zo]
    by_cases ea : n_o S a = true
    · rw [if_pos ea, open_ok h hn fu hb, bn_e, if_zo]
      by_cases eb : n_o S b = true
      · rw [if_pos eb, road_ok h hn fu hb, bn_e]
        have hc : c2 S a b = (n_p S a b).toInt.toNat + n_w S b := if_pos ⟨ha, hb, ea, eb, hfol, hp0⟩
        rw [s1_eq (by omega), hc]
        conv => lhs; rw [i_nn hp0]
        rw [shl7 (by omega), nI_add]
        congr 2
        omega
      · have hc : c2 S a b = 1000000000000 := if_neg (fun hh => eb hh.2.2.2.1)
        rw [if_neg eb, show s1 S a b = 536870912 from if_neg (by omega)]
        rfl
    · have hc : c2 S a b = 1000000000000 := if_neg (fun hh => ea hh.2.2.1)
      rw [if_neg ea, show s1 S a b = 536870912 from if_neg (by omega)]
      rfl
end CN
