/-! the reference: network, table of costs -/
theorem wI_s {w : WS} {c i : Nat} {x : Int32} : (wI w c i x).1 c = upd (w.1 c) i x := if_pos rfl
theorem wI_n {w : WS} {c i a : Nat} {x : Int32} (h : a ≠ c) : (wI w c i x).1 a = w.1 a := if_neg h
theorem wI_2 {w : WS} {c i : Nat} {x : Int32} : (wI w c i x).2 = w.2 := rfl
theorem wL_s {w : WS} {c i : Nat} {x : Int64} : (wL w c i x).2 c = vp_updL (w.2 c) i x := if_pos rfl
theorem wL_n {w : WS} {c i a : Nat} {x : Int64} (h : a ≠ c) : (wL w c i x).2 a = w.2 a := if_neg h
theorem wL_1 {w : WS} {c i : Nat} {x : Int64} : (wL w c i x).1 = w.1 := rfl
theorem wI_at {w : WS} {c i a j : Nat} {x : Int32} : (wI w c i x).1 a j = if a = c ∧ j = i then x else w.1 a j := by
  by_cases h : a = c
  · subst h
    rw [wI_s]
    unfold upd
    by_cases h2 : j = i
    · rw [if_pos h2, if_pos ⟨rfl, h2⟩]
    · rw [if_neg h2, if_neg (fun h => h2 h.2)]
  · rw [wI_n h, if_neg (fun h2 => h h2.1)]
theorem wL_at {w : WS} {c i a j : Nat} {x : Int64} : (wL w c i x).2 a j = if a = c ∧ j = i then x else w.2 a j := by
  by_cases h : a = c
  · subst h
    rw [wL_s]
    unfold vp_updL
    by_cases h2 : j = i
    · rw [if_pos h2, if_pos ⟨rfl, h2⟩]
    · rw [if_neg h2, if_neg (fun h => h2 h.2)]
  · rw [wL_n h, if_neg (fun h2 => h h2.1)]
def RMn (S : Nt) (v : WS) : Prop := v.1 0 1 = nI (n_J S) ∧ v.1 0 2 = nI (n_R S) ∧ (∀ r, r < n_R S → v.1 1 r = nI (n_f S r) ∧ v.1 2 r = nI (n_t S r) ∧ v.1 3 r = nI (n_w S r) ∧ v.1 4 r = if n_o S r = true then 1 else 0) ∧ (∀ a b, a < 64 → b < 64 → v.1 5 (64 * a + b) = n_s S a b) ∧ v.1 0 8 = n_u S
theorem RMn.same {S : Nt} {u v : WS} (h : RMn S v) (e : u.1 = v.1) : RMn S u := by
  unfold RMn
  rw [e]
  exact h
theorem px_in {a b : Nat} (ha : a < 64) (hb : b < 64) : vp_in (((64 : Int32) * nI a) + nI b) 4096 := by
  rw [show (64 : Int32) = nI 64 from rfl, pk_mul, nI_add]
  exact vp_in_nI (by omega) (by decide)
theorem px_cl {a b : Nat} (ha : a < 64) (hb : b < 64) : Int32.toNatClampNeg (((64 : Int32) * nI a) + nI b) = 64 * a + b := by
  rw [show (64 : Int32) = nI 64 from rfl, pk_mul, nI_add]
  exact nI_clamp (by omega)
section MN
variable {S : Nt} {v : WS}
theorem isRoad_y (h : RMn S v) (hn : NtOK S) (fu : Nat) {r : Nat} (hr : r < n_R S) : f_X4_isRoad fu v (nI r) = some 1 := by
  have := hn.2.1
  unfold f_X4_isRoad
  rw [if_neg (nI_pos (by omega)), nm_e1, h.2.1, if_neg (nI_ge hr (by omega))]
theorem isRoad_n (h : RMn S v) (fu : Nat) {x : Int32} (hx : x < 0 ∨ nI (n_R S) ≤ x) : f_X4_isRoad fu v x = some 0 := by
  unfold f_X4_isRoad
  by_cases h0 : x < 0
  · rw [if_pos h0]
  · rw [if_neg h0, nm_e1, h.2.1, if_pos (hx.resolve_left h0)]
theorem isJ_y (h : RMn S v) (hn : NtOK S) (fu : Nat) {r : Nat} (hr : r < n_J S) : f_X4_isJunction fu v (nI r) = some 1 := by
  have := hn.1
  unfold f_X4_isJunction
  rw [if_neg (nI_pos (by omega)), nm_e1, h.1, if_neg (nI_ge hr (by omega))]
theorem isJ_n (h : RMn S v) (fu : Nat) {x : Int32} (hx : x < 0 ∨ nI (n_J S) ≤ x) : f_X4_isJunction fu v x = some 0 := by
  unfold f_X4_isJunction
  by_cases h0 : x < 0
  · rw [if_pos h0]
  · rw [if_neg h0, nm_e1, h.1, if_pos (hx.resolve_left h0)]
theorem in64 {r : Nat} (h : r < 64) : vp_in (nI r) 64 := vp_in_nI h (by decide)
theorem cl64 {r : Nat} (h : r < 64) : Int32.toNatClampNeg (nI r) = r := nI_clamp (by omega)
theorem follows_ok (h : RMn S v) (hn : NtOK S) (fu : Nat) {a b : Nat} (ha : a < n_R S) (hb : b < n_R S) : f_X4_follows fu v (nI a) (nI b) = some (if n_fol S a b = true then 1 else 0) := by
  have hR := hn.2.1
  have hJ := hn.1
  have h1 := hn.2.2.1 a ha
  have h2 := hn.2.2.1 b hb
  unfold f_X4_follows
  rw [ck_t (in64 (by omega)), nm_e1, cl64 (by omega), ck_t (in64 (by omega)), nm_e1, cl64 (by omega), (h.2.2.1 a ha).2.1, (h.2.2.1 b hb).1]
  by_cases e : n_t S a = n_f S b
  · rw [if_pos (by rw [e]), if_pos (by unfold n_fol; rw [e]; simp)]
  · rw [if_neg (fun e2 => e ((nI_eq (by omega) (by omega)).mp e2)), if_neg (by unfold n_fol; simp [e])]
theorem penalty_ok (h : RMn S v) (hn : NtOK S) (fu : Nat) {a b : Nat} (ha : a < n_R S) (hb : b < n_R S) : f_X4_penalty fu v (nI a) (nI b) = some (n_p S a b) := by
  have hR := hn.2.1
  have hJ := hn.1
  have h1 := hn.2.2.1 a ha
  have h2 := hn.2.2.1 b hb
  unfold f_X4_penalty n_p
  rw [ck_t (px_in (by omega) (by omega)), nm_e1, px_cl (by omega) (by omega), h.2.2.2.1 a b (by omega) (by omega)]
  by_cases e : n_s S a b = (-2)
  · rw [if_pos e, if_pos e, ck_t (in64 (by omega)), nm_e1, cl64 (by omega), ck_t (in64 (by omega)), nm_e1, cl64 (by omega), (h.2.2.1 b hb).2.1, (h.2.2.1 a ha).1, nm_e1, h.2.2.2.2]
    by_cases e2 : n_t S b = n_f S a
    · rw [if_pos (by rw [e2]), if_pos e2]
    · rw [if_neg (fun e3 => e2 ((nI_eq (by omega) (by omega)).mp e3)), if_neg e2]
  · rw [if_neg e, if_neg e]
theorem i_nn {x : Int32} (h : 0 ≤ x.toInt) : x = nI x.toInt.toNat := by
  have : x.toInt < 2 ^ 31 := Int32.toInt_lt x
  apply Int32.toInt_inj.mp
  rw [nI_toInt (by omega)]
  omega
theorem step_ok (h : RMn S v) (hn : NtOK S) (fu : Nat) {a b : Nat} (ha : a < n_R S) (hb : b < n_R S) : f_X4_step fu v (nI a) (nI b) = some (lN (c2 S a b)) := by
  have hR := hn.2.1
  have hp := n_p_le hn a b
  have hw := (hn.2.2.1 b hb).2.2.2
  unfold f_X4_step c2
  rw [ck_t (in64 (by omega)), nm_e1, cl64 (by omega), ck_t (in64 (by omega)), nm_e1, cl64 (by omega), (h.2.2.1 a ha).2.2.2, (h.2.2.1 b hb).2.2.2, follows_ok h hn fu ha hb, bn_e, penalty_ok h hn fu ha hb, bn_e, bn_e, ck_t (in64 (by omega)), nm_e1, (h.2.2.1 b hb).2.2.1, if_zo, if_zo, if_zo]
  by_cases e1 : n_o S a = true
  · rw [if_pos e1]
    by_cases e2 : n_o S b = true
    · rw [if_pos e2]
      by_cases e3 : n_fol S a b = true
      · rw [if_pos e3]
        by_cases e4 : n_p S a b < 0
        · rw [if_pos e4, if_neg]
          · rfl
          · intro hc
            have h1 := Int32.lt_iff_toInt_lt.mp e4
            have h0 : (0 : Int32).toInt = 0 := rfl
            have h2 := hc.2.2.2.2.2
            omega
        · have e5 : 0 ≤ (n_p S a b).toInt := Int.not_lt.mp (fun hh => e4 (Int32.lt_iff_toInt_lt.mpr hh))
          rw [if_neg e4, if_pos ⟨ha, hb, e1, e2, e3, e5⟩]
          congr 1
          conv => lhs; rw [i_nn e5]
          rw [nI_add, nI_l (by omega)]
      · rw [if_neg e3, if_neg (fun hc => e3 hc.2.2.2.2.1)]; rfl
    · rw [if_neg e2, if_neg (fun hc => e2 hc.2.2.2.1)]; rfl
  · rw [if_neg e1, if_neg (fun hc => e1 hc.2.2.1)]; rfl
end MN
