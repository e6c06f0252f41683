/-! what ties class and reference -/
def Pl (w v : WS) : Prop := ∀ j c, j < 32 → c < 4 → (w.1 4 (4 * j + c) = 0 ∨ w.1 4 (4 * j + c) = 1) ∧ v.1 12 (4 * j + c) = w.1 4 (4 * j + c)
def Pt (w v : WS) : Prop := ∃ n, n ≤ 64 ∧ w.1 0 6 = nI n ∧ v.1 0 26 = nI n ∧ w.1 0 7 = v.1 0 27 ∧ ∀ i, i < n → w.1 6 i = v.1 18 i
def Ne (w v : WS) : Prop := ∃ n, n ≤ 32 ∧ w.1 0 10 = nI n ∧ v.1 0 29 = nI n ∧ ∀ i, i < n → w.1 7 i = v.1 19 i
/-- one level: roads, weights, open, settings, U-turn -/
abbrev Lvl : Type := Nat × (Nat → Nat) × (Nat → Bool) × (Nat → Nat → Int32) × Int32
def LvOK (R : Nat) (d : Lvl) : Prop := d.1 ≤ R ∧ (∀ r, r < d.1 → 1 ≤ d.2.1 r ∧ d.2.1 r ≤ 10000) ∧ (∀ a b, (-2) ≤ (d.2.2.2.1 a b).toInt ∧ (d.2.2.2.1 a b).toInt ≤ 1000) ∧ (-1) ≤ d.2.2.2.2.toInt ∧ d.2.2.2.2.toInt ≤ 1000
def LvC (l : Nat) (d : Lvl) (w : WS) : Prop := w.1 24 l = nI d.1 ∧ (∀ r, r < d.1 → w.1 25 (64 * l + r) = nI (d.2.1 r) ∧ bL (w.2 27 l) r = d.2.2.1 r) ∧ (∀ a b, a < 64 → b < 64 → w.1 26 (4096 * l + (64 * a + b)) = d.2.2.2.1 a b) ∧ w.1 28 l = d.2.2.2.2
def LvM (l : Nat) (d : Lvl) (v : WS) : Prop := v.1 13 l = nI d.1 ∧ (∀ r, r < d.1 → v.1 14 (64 * l + r) = nI (d.2.1 r) ∧ v.1 15 (64 * l + r) = if d.2.2.1 r = true then 1 else 0) ∧ (∀ a b, a < 64 → b < 64 → v.1 16 (4096 * l + (64 * a + b)) = d.2.2.2.1 a b) ∧ v.1 17 l = d.2.2.2.2
def Lv (R : Nat) (w v : WS) : Prop := ∃ (m : Nat) (D : Nat → Lvl), m ≤ 8 ∧ w.1 3 0 = nI m ∧ v.1 0 19 = nI m ∧ ∀ l, l < m → LvOK R (D l) ∧ LvC l (D l) w ∧ LvM l (D l) v
def Pr (S : Nt) (w v : WS) : Prop := (w.1 2 1 = 0 ∧ v.1 0 9 = 0 ∧ v.1 0 14 = 0 ∧ v.1 0 13 = 0) ∨ (w.1 2 1 = 1 ∧ v.1 0 9 = 1 ∧ RCp S w ∧ RMp S v ∧ 0 < n_R S)
def Ra (S : Nt) (w v : WS) : Prop := NtOK S ∧ RMn S v ∧ RCn S w ∧ StZ w ∧ Pr S w v ∧ Lv (n_R S) w v ∧ Pl w v ∧ Pt w v ∧ Ne w v
theorem Pl.same {w v w' v' : WS} (h : Pl w v) (e1 : w'.1 4 = w.1 4) (e2 : v'.1 12 = v.1 12) : Pl w' v' := by
  unfold Pl
  rw [e1, e2]
  exact h
theorem Pt.same {w v w' v' : WS} (h : Pt w v) (e1 : w'.1 0 6 = w.1 0 6) (e2 : w'.1 0 7 = w.1 0 7) (e3 : w'.1 6 = w.1 6) (e4 : v'.1 0 26 = v.1 0 26) (e5 : v'.1 0 27 = v.1 0 27) (e6 : v'.1 18 = v.1 18) : Pt w' v' := by
  unfold Pt
  rw [e1, e2, e3, e4, e5, e6]
  exact h
theorem Ne.same {w v w' v' : WS} (h : Ne w v) (e1 : w'.1 0 10 = w.1 0 10) (e2 : w'.1 7 = w.1 7) (e3 : v'.1 0 29 = v.1 0 29) (e4 : v'.1 19 = v.1 19) : Ne w' v' := by
  unfold Ne
  rw [e1, e2, e3, e4]
  exact h
theorem LvC.same {l : Nat} {d : Lvl} {w w' : WS} (h : LvC l d w) (e24 : w'.1 24 = w.1 24) (e25 : w'.1 25 = w.1 25) (e26 : w'.1 26 = w.1 26) (e27 : w'.2 27 = w.2 27) (e28 : w'.1 28 = w.1 28) : LvC l d w' := by
  unfold LvC
  rw [e24, e25, e26, e27, e28]
  exact h
theorem LvM.same {l : Nat} {d : Lvl} {v v' : WS} (h : LvM l d v) (e13 : v'.1 13 = v.1 13) (e14 : v'.1 14 = v.1 14) (e15 : v'.1 15 = v.1 15) (e16 : v'.1 16 = v.1 16) (e17 : v'.1 17 = v.1 17) : LvM l d v' := by
  unfold LvM
  rw [e13, e14, e15, e16, e17]
  exact h
theorem Lv.same {R R' : Nat} {w v w' v' : WS} (h : Lv R w v) (hR : R ≤ R') (e0 : w'.1 3 0 = w.1 3 0) (e24 : w'.1 24 = w.1 24) (e25 : w'.1 25 = w.1 25) (e26 : w'.1 26 = w.1 26) (e27 : w'.2 27 = w.2 27) (e28 : w'.1 28 = w.1 28) (f0 : v'.1 0 19 = v.1 0 19) (e13 : v'.1 13 = v.1 13) (e14 : v'.1 14 = v.1 14) (e15 : v'.1 15 = v.1 15) (e16 : v'.1 16 = v.1 16) (e17 : v'.1 17 = v.1 17) : Lv R' w' v' := by
  obtain ⟨m, D, h1, h2, h3, h4⟩ := h
  refine ⟨m, D, h1, by rw [e0]; exact h2, by rw [f0]; exact h3, fun l hl => ?_⟩
  have k := h4 l hl
  exact ⟨⟨Nat.le_trans k.1.1 hR, k.1.2⟩, k.2.1.same e24 e25 e26 e27 e28, k.2.2.same e13 e14 e15 e16 e17⟩
theorem RMp.same {S : Nt} {v v' : WS} (h : RMp S v) (e6 : v'.1 6 = v.1 6) (e7 : v'.1 7 = v.1 7) (e8 : v'.1 8 = v.1 8) (e9 : v'.2 9 = v.2 9) (e13 : v'.1 0 13 = v.1 0 13) (e14 : v'.1 0 14 = v.1 0 14) : RMp S v' := by
  unfold RMp RMo RMa RMc
  rw [e6, e7, e8, e9, e13, e14]
  exact h
theorem RCp.same {S : Nt} {w w' : WS} (h : RCp S w) (e2 : w'.1 2 = w.1 2) (e15 : w'.1 15 = w.1 15) (e16 : w'.1 16 = w.1 16) (e20 : w'.1 20 = w.1 20) (e21 : w'.1 21 = w.1 21) (e17 : w'.2 17 = w.2 17) (e18 : w'.2 18 = w.2 18) (e19 : w'.2 19 = w.2 19) : RCp S w' := by
  refine ⟨h.1.same e2 e15 e16 e17 e18 e19, ?_, h.2.2.1.same e20, ?_⟩
  · unfold SpI
    rw [e21]
    exact h.2.1
  · rw [e2]
    exact h.2.2.2
/-- the reference changed in cells of searches alone, the class in the row of lengths alone -/
theorem Ra.search {S : Nt} {w v w' v' : WS} (h : Ra S w v) (fw : FrQ w' w) (fv : FrR v' v) (e26 : v'.1 0 26 = v.1 0 26) (e27 : v'.1 0 27 = v.1 0 27) (e29 : v'.1 0 29 = v.1 0 29) (e18 : v'.1 18 = v.1 18) (e19 : v'.1 19 = v.1 19) : Ra S w' v' := by
  obtain ⟨h1, h2, h3, h4, h5, h6, h7, h8, h9⟩ := h
  have f0 : ∀ j, j ≠ 0 → j ≠ 26 → j ≠ 27 → j ≠ 29 → v'.1 0 j = v.1 0 j := fv.2.1
  have fc : ∀ c, c ≠ 0 → c ≠ 18 → c ≠ 19 → c ≠ 21 → v'.1 c = v.1 c := fv.1
  refine ⟨h1, h2.frR fv, h3.frQ fw, h4.same (by rw [fw.2]) (by rw [fw.2]), ?_, h6.same (Nat.le_refl _) (by rw [fw.1 3 (by decide)]) (fw.1 24 (by decide)) (fw.1 25 (by decide)) (fw.1 26 (by decide)) (by rw [fw.2]) (fw.1 28 (by decide)) (f0 19 (by decide) (by decide) (by decide) (by decide)) (fc 13 (by decide) (by decide) (by decide) (by decide)) (fc 14 (by decide) (by decide) (by decide) (by decide)) (fc 15 (by decide) (by decide) (by decide) (by decide)) (fc 16 (by decide) (by decide) (by decide) (by decide)) (fc 17 (by decide) (by decide) (by decide) (by decide)), h7.same (fw.1 4 (by decide)) (fc 12 (by decide) (by decide) (by decide) (by decide)), h8.same (by rw [fw.1 0 (by decide)]) (by rw [fw.1 0 (by decide)]) (fw.1 6 (by decide)) e26 e27 e18, h9.same (by rw [fw.1 0 (by decide)]) (fw.1 7 (by decide)) e29 e19⟩
  rcases h5 with ⟨a, b, c, d⟩ | ⟨a, b, c, d, e⟩
  · left
    rw [fw.1 2 (by decide), f0 9 (by decide) (by decide) (by decide) (by decide), f0 14 (by decide) (by decide) (by decide) (by decide), f0 13 (by decide) (by decide) (by decide) (by decide)]
    exact ⟨a, b, c, d⟩
  · right
    rw [fw.1 2 (by decide), f0 9 (by decide) (by decide) (by decide) (by decide)]
    exact ⟨a, b, c.same (fw.1 2 (by decide)) (fw.1 15 (by decide)) (fw.1 16 (by decide)) (fw.1 20 (by decide)) (fw.1 21 (by decide)) (by rw [fw.2]) (by rw [fw.2]) (by rw [fw.2]), d.same (fc 6 (by decide) (by decide) (by decide) (by decide)) (fc 7 (by decide) (by decide) (by decide) (by decide)) (fc 8 (by decide) (by decide) (by decide) (by decide)) (fv.2.2 9 (by decide)) (f0 13 (by decide) (by decide) (by decide) (by decide)) (f0 14 (by decide) (by decide) (by decide) (by decide)), e⟩
/-! what the class tests -/
section RQ
variable {S : Nt} {w : WS}
theorem reqJ_y (h : RCn S w) (hn : NtOK S) (fu : Nat) {a : Nat} (ha : a < n_J S) : f_X3_requireJunction fu w (nI a) = some (.inl w) := by
  have := hn.1
  unfold f_X3_requireJunction
  rw [if_neg (nI_pos (by omega)), nm_e1, h.1, if_pos (nI_lt ha (by omega))]
theorem reqR_y (h : RCn S w) (hn : NtOK S) (fu : Nat) {a : Nat} (ha : a < n_R S) : f_X3_requireRoad fu w (nI a) = some (.inl w) := by
  have := hn.2.1
  unfold f_X3_requireRoad
  rw [if_neg (nI_pos (by omega)), nm_e1, h.2.1, if_pos (nI_lt ha (by omega))]
theorem reqH_y (h : w.1 2 1 = 1) (fu : Nat) : f_X3_requireHierarchy fu w = some (.inl w) := by
  unfold f_X3_requireHierarchy
  rw [nm_e1, h, if_neg (by decide)]
theorem reqW_y (fu : Nat) {x : Nat} (h1 : 1 ≤ x) (h2 : x ≤ 10000) : f_X3_requireWeight fu w (nI x) = some (.inl w) := by
  unfold f_X3_requireWeight
  rw [if_neg (show ¬ nI x < (1 : Int32) from nI_nlt (b := 1) h1 (by omega)), if_pos (show nI x ≤ (10000 : Int32) from nI_le (b := 10000) h2 (by decide))]
end RQ
