/-! the class: build -/
def StZ (w : WS) : Prop := ∀ r, r < 64 → w.2 22 r = 0 ∧ w.2 23 r = 0
theorem StZ.stI {w : WS} (h : StZ w) (S : Nt) : StI S (fun _ _ => false) w := fun r i hr _ => by
  rw [(h r hr).1, (h r hr).2, bL_0, Bool.and_false]
  exact ⟨rfl, rfl⟩
theorem StI.stZ {S : Nt} {w : WS} (h : StI S (fun _ _ => false) w) : StZ w := fun r hr => by
  constructor
  · refine bL_ext fun i hi => ?_
    rw [(h r i hr hi).1, bL_0, Bool.and_false]
  · refine bL_ext fun i hi => ?_
    rw [(h r i hr hi).2, bL_0, Bool.and_false]
theorem StZ.same {u w : WS} (h : StZ w) (e1 : u.2 22 = w.2 22) (e2 : u.2 23 = w.2 23) : StZ u := by
  unfold StZ
  rw [e1, e2]
  exact h
/-- all that holds of a class that is prepared -/
def RCp (S : Nt) (w : WS) : Prop := RCg S w ∧ SpI S (s1 S) w ∧ LnI S (n_L S) w ∧ ∃ k, w.1 2 3 = nI (cn2 (n_arc S) (n_R S) (n_R S)) ∧ w.1 2 4 = nI k ∧ k + cn2 (n_fol S) (n_R S) (n_R S) = cn2 (n_arc S) (n_R S) (n_R S)
def BI (S : Nt) (w0 : WS) (p : Nat) (s : Int64 × WS) : Prop := FrBd s.2 w0 ∧ (∀ c, c ≠ 15 → c ≠ 16 → s.2.1 c = w0.1 c) ∧ (∀ c, c ≠ 17 → c ≠ 18 → c ≠ 19 → s.2.2 c = w0.2 c) ∧ (∀ i, i < 64 → bL s.1 i = ctL (n_R S) (n_fol S) p i) ∧ HT S (ctA (n_R S) (n_fol S) p) s.2 ∧ (∀ r, r < n_R S → ctL (n_R S) (n_fol S) p r = false → s.2.1 15 r = nI (n_pos S r)) ∧ ∀ j, j < p → s.2.1 16 j = nI (n_ord S j)
section BB
variable {S : Nt} {w : WS}
theorem buildStep (h : RCn S w) (hn : NtOK S) (h2 : w.1 2 2 = nI (n_R S)) {fu : Nat} (hf : 64 < fu) (y1 : Int32) {p : Nat} (hp : p < n_R S) {s : Int64 × WS} (hI : BI S w p s) : ∃ s', bd_X0_build_27 fu y1 s.1 (nI p) s.2 = some (.inl (s'.1, nI (p + 1), s'.2)) ∧ BI S w (p + 1) s' := by
  have hR := hn.2.1
  have hx : n_ord S p < n_R S := ctO_lt hp
  have hxp : n_pos S (n_ord S p) = p := n_pos_ord hp
  obtain ⟨i0, i1, i2, i3, i4, i5, i6⟩ := hI
  have hs2 : s.2.1 2 2 = nI (n_R S) := by rw [i1 2 (by decide) (by decide)]; exact h2
  have f1 : FrBd (wI (wI s.2 15 (n_ord S p) (nI p)) 16 p (nI (n_ord S p))) s.2 := (FrBd.iA _ 16 p _ (by decide)).trans (FrBd.iA s.2 15 _ _ (by decide))
  have bL' : ∀ i, i < 64 → bL (s.1 &&& (((1 : Int64) <<< ((nI (n_ord S p)).toInt64 &&& 63)) ^^^ (-1))) i = ctL (n_R S) (n_fol S) (p + 1) i := fun i hi => by
    rw [bL_and, bL_not _ hi, bL_one (by omega), i3 i hi, ctL_s]
    congr 1
  have HTw : HT S (ctA (n_R S) (n_fol S) p) (wI (wI s.2 15 (n_ord S p) (nI p)) 16 p (nI (n_ord S p))) := i4
  have hlt : ∀ i, ctL (n_R S) (n_fol S) (p + 1) i = true → i < n_R S := fun i => ctL_lt _ i
  obtain ⟨w', eB, k1, k2, k3, k4⟩ := bridge_ok (w := wI (wI s.2 15 (n_ord S p) (nI p)) 16 p (nI (n_ord S p))) (by rw [wI_n (by decide), wI_n (by decide)]; exact hs2) hn hp HTw (s.2.2 19 (n_ord S p) &&& (s.1 &&& (((1 : Int64) <<< ((nI (n_ord S p)).toInt64 &&& 63)) ^^^ (-1)))) (s.2.2 18 (n_ord S p) &&& (s.1 &&& (((1 : Int64) <<< ((nI (n_ord S p)).toInt64 &&& 63)) ^^^ (-1)))) (fun i hi => by
    rw [bL_and, bL' i hi, (i4 (n_ord S p) i hx hi).2]
    by_cases e : ctL (n_R S) (n_fol S) (p + 1) i = true
    · rw [e, decide_eq_true (hlt i e)]; simp
    · rw [Bool.eq_false_iff.mpr e]; simp) (fun i hi => by
    rw [bL_and, bL' i hi, (i4 (n_ord S p) i hx hi).1]
    by_cases e : ctL (n_R S) (n_fol S) (p + 1) i = true
    · rw [e, decide_eq_true (hlt i e)]; simp
    · rw [Bool.eq_false_iff.mpr e]; simp) hf
  have hout : ∀ r, ctL (n_R S) (n_fol S) (p + 1) r = false → r ≠ n_ord S p → ctL (n_R S) (n_fol S) p r = false := fun r hh hne => by
    rw [ctL_s] at hh
    have : (r == ctO (n_R S) (n_fol S) p) = false := by
      have hne : ¬ r = ctO (n_R S) (n_fol S) p := hne
      simpa using hne
    rw [this] at hh
    simpa using hh
  refine ⟨(_, w'), ?_, k1.trans (f1.trans i0), fun c c15 c16 => by rw [k2, wI_n c16, wI_n c15]; exact i1 c c15 c16, fun c c17 c18 c19 => by rw [k3 c c18 c19]; exact i2 c c17 c18 c19, bL', k4, fun r hr hh => ?_, fun j hj => ?_⟩
  · unfold bd_X0_build_27
    rw [nm_e1, hs2, if_neg (nI_ge hp (by omega)), cheapest_ok hs2 hn hp i4 s.1 i3 hf, bn_e, ck_t (in64 (by omega)), nm_e1, cl64 (by omega), ck_t (in64 (by omega)), nm_e1, cl64 (by omega), only_ok, bn_e, nm_e1, ck_t (in64 (by omega)), nm_e1, ck_t (in64 (by omega)), nm_e1]
    show bn (f_X0_bridge fu _ (s.2.2 19 (n_ord S p) &&& _) (s.2.2 18 (n_ord S p) &&& _)) _ = _
    rw [eB, bn_e, nm_e1, nI_1]
  · show w'.1 15 r = _
    rw [k2, wI_n (show (15 : Nat) ≠ 16 by decide), wI_at]
    by_cases e : r = n_ord S p
    · rw [if_pos ⟨rfl, e⟩, e, hxp]
    · rw [if_neg (fun h => e h.2)]
      exact i5 r hr (hout r hh e)
  · show w'.1 16 j = _
    rw [k2, wI_at]
    by_cases e : j = p
    · rw [if_pos ⟨rfl, e⟩, e]
    · rw [if_neg (fun h => e h.2), wI_n (show (16 : Nat) ≠ 15 by decide)]
      exact i6 j (by omega)
theorem arcsLoop (h2 : w.1 2 2 = nI (n_R S)) (hn : NtOK S) (hH : HT S (n_arc S) w) (h3 : w.1 2 3 = 0) {fu : Nat} (hf : 64 < fu) (y1 : Int32) : ∃ w', iter (fun q : Int32 × WS => bd_X0_build_109 fu y1 q.1 q.2) fu ((0 : Int32), w) = some w' ∧ FrBd w' w ∧ (∀ c, c ≠ 2 → w'.1 c = w.1 c) ∧ (∀ j, j ≠ 3 → w'.1 2 j = w.1 2 j) ∧ w'.2 = w.2 ∧ w'.1 2 3 = nI (cn2 (n_arc S) (n_R S) (n_R S)) := by
  have hR := hn.2.1
  refine iter_for0 (fun k (s : WS) => (nI k, s)) (n_R S) (fun k s => FrBd s w ∧ (∀ c, c ≠ 2 → s.1 c = w.1 c) ∧ (∀ j, j ≠ 3 → s.1 2 j = w.1 2 j) ∧ s.2 = w.2 ∧ s.1 2 3 = nI (cn2 (n_arc S) (n_R S) k)) (fun (w' : WS) => FrBd w' w ∧ (∀ c, c ≠ 2 → w'.1 c = w.1 c) ∧ (∀ j, j ≠ 3 → w'.1 2 j = w.1 2 j) ∧ w'.2 = w.2 ∧ w'.1 2 3 = nI (cn2 (n_arc S) (n_R S) (n_R S))) ?_ ?_ (by omega) w ⟨FrBd.rf w, fun _ _ => rfl, fun _ _ => rfl, rfl, h3⟩
  · intro k s hk ⟨i0, i1, i2, i3, i4⟩
    refine ⟨wI s 2 3 (nI (cn2 (n_arc S) (n_R S) (k + 1))), ?_, (FrBd.i2 s 3 _ (by decide)).trans i0, fun c hc => by rw [wI_n hc]; exact i1 c hc, fun j hj => by rw [wI_at, if_neg (fun hh => hj hh.2)]; exact i2 j hj, i3, by rw [wI_at, if_pos ⟨rfl, rfl⟩]⟩
    show bd_X0_build_109 fu y1 (nI k) s = _
    unfold bd_X0_build_109
    rw [nm_e1, show s.1 2 2 = nI (n_R S) by rw [i2 2 (by decide)]; exact h2, if_neg (nI_ge hk (by omega)), nm_e1, i4, ck_t (in64 (by omega)), nm_e1, cl64 (by omega), i3, count_ok fu (w.2 18 k) (f := n_arc S k) hR (fun i hi => (hH k i hk hi).1), bn_e, nI_add, nm_e1, nm_e1, nI_1]
    rfl
  · intro s ⟨i0, i1, i2, i3, i4⟩
    refine ⟨s, ?_, i0, i1, i2, i3, i4⟩
    show bd_X0_build_109 fu y1 (nI (n_R S)) s = _
    unfold bd_X0_build_109
    rw [nm_e1, show s.1 2 2 = nI (n_R S) by rw [i2 2 (by decide)]; exact h2, if_pos (nI_le (Nat.le_refl _) (by omega))]
theorem cn2_mono {P Q : Nat → Nat → Bool} {n : Nat} : ∀ m, (∀ a b, a < m → b < n → P a b = true → Q a b = true) → cn2 P n m ≤ cn2 Q n m
  | 0, _ => Nat.le_refl 0
  | m + 1, h => by
    have h1 := cn2_mono m (fun a b ha hb => h a b (by omega) hb)
    have h2 := cn_mono (P := P m) (Q := Q m) n (fun b hb => h m b (by omega) hb)
    unfold cn2
    omega
theorem arcs_I (hn : NtOK S) : ArcsS S (fun _ _ => 536870912) (fun _ _ => 536870912) := by
  obtain ⟨a1, a2, a3, a4, a5, a6, a7⟩ := arcs_ok hn
  refine ⟨fun _ _ _ _ _ => rfl, fun _ _ _ _ _ => Nat.le_refl _, fun a x b ha hx hb h1 h2 h3 h4 hne => ⟨(a3 a x b ha hx hb h1 h2 h3 h4 hne).1, by show 536870912 ≤ min 536870912 (536870912 + 536870912); omega⟩, fun _ _ _ _ _ => Or.inl rfl, a5, a6, a7⟩
theorem wF_s {c : Nat} {f : Nat → Int32} : (wF w c f).1 c = f := if_pos rfl
theorem wF_n {c a : Nat} {f : Nat → Int32} (h : a ≠ c) : (wF w c f).1 a = w.1 a := if_neg h
theorem fill_at {n j : Nat} {x : Int32} {f : Nat → Int32} (h : j < n) : fillF n x f j = x := if_pos h
theorem build_ok (h : RCn S w) (hn : NtOK S) (hz : StZ w) {fu : Nat} (hf : 64 < fu) : ∃ w', f_X0_build fu w = some w' ∧ FrBd w' w ∧ RCp S w' ∧ w'.1 2 1 = 1 ∧ StZ w' := by
  have hR := hn.2.1
  have f2 := FrBd.i2 w 2 (nI (n_R S)) (by decide)
  obtain ⟨w3, e3, f3, g3, l3, H3⟩ := link_ok (h.frBd f2) hn (by rw [wI_at, if_pos ⟨rfl, rfl⟩]) hf
  have f32 := f3.trans f2
  have h22 : w3.1 2 2 = nI (n_R S) := by rw [g3, wI_at, if_pos ⟨rfl, rfl⟩]
  obtain ⟨A, eA, bA⟩ := allSet (h.frBd f32) hn fu
  have loop : ∃ w6, iter (fun q : Int64 × Int32 × WS => bd_X0_build_27 fu (nI (cn2 (n_fol S) (n_R S) (n_R S))) q.1 q.2.1 q.2.2) fu (A, (0 : Int32), w3) = some w6 ∧ ∃ L, BI S w3 (n_R S) (L, w6) := by
    refine iter_for0 (fun k (s : Int64 × WS) => (s.1, nI k, s.2)) (n_R S) (fun p s => BI S w3 p s) (fun (w6 : WS) => ∃ L, BI S w3 (n_R S) (L, w6)) ?_ ?_ (by omega) (A, w3) ⟨FrBd.rf w3, fun _ _ _ => rfl, fun _ _ _ _ => rfl, bA, H3, fun r hr hh => ?_, fun j hj => absurd hj (Nat.not_lt_zero j)⟩
    · intro p s hp hI
      exact buildStep (h.frBd f32) hn h22 hf _ hp hI
    · intro s hI
      refine ⟨s.2, ?_, s.1, hI⟩
      show bd_X0_build_27 fu _ s.1 (nI (n_R S)) s.2 = _
      unfold bd_X0_build_27
      rw [nm_e1, show s.2.1 2 2 = nI (n_R S) by rw [hI.2.1 2 (by decide) (by decide)]; exact h22, if_pos (nI_le (Nat.le_refl _) (by omega))]
    · have : ctL (n_R S) (n_fol S) 0 r = true := decide_eq_true hr
      rw [this] at hh; cases hh
  obtain ⟨w6, e6, L, b0, b1, b2, b3, b4, b5, b6⟩ := loop
  have hdone : ∀ r, r < n_R S → ctL (n_R S) (n_fol S) (n_R S) r = false := fun r hr => by
    rw [ctL_R hr, decide_eq_false]
    have := n_pos_lt hr
    have e : ctR (n_R S) (n_fol S) r = n_pos S r := rfl
    omega
  have f62 := b0.trans f32
  obtain ⟨w9, e9, c0, c1, c2, c3, c4⟩ := arcsLoop (S := S) (w := wI w6 2 3 0) (by rw [wI_at, if_neg (by decide), b1 2 (by decide) (by decide)]; exact h22) hn b4 (by rw [wI_at, if_pos ⟨rfl, rfl⟩]) hf (nI (cn2 (n_fol S) (n_R S) (n_R S)))
  have hcm : cn2 (n_fol S) (n_R S) (n_R S) ≤ cn2 (n_arc S) (n_R S) (n_R S) := cn2_mono (n_R S) fun a b _ _ hh => fol_arc hh
  generalize hK : cn2 (n_arc S) (n_R S) (n_R S) - cn2 (n_fol S) (n_R S) (n_R S) = K at *
  have fF : ∀ (u : WS) (c : Nat) (g : Nat → Int32), (c = 20 ∨ c = 21) → FrBd (wF u c g) u := fun u c g hc => ⟨fun a _ _ _ a20 a21 => wF_n (by omega), fun j _ _ _ _ => by rw [wF_n (by omega)], fun _ _ _ _ _ _ => rfl⟩
  have f9 : FrBd w9 w := c0.trans ((FrBd.i2 w6 3 0 (by decide)).trans f62)
  -- the world that all steps are looked at in
  have hfin : ∃ u, u = wF (wF (wI w9 2 4 (nI K)) 20 (fillF 4096 536870912 ((wI w9 2 4 (nI K)).1 20))) 21 (fillF 4096 536870912 ((wF (wI w9 2 4 (nI K)) 20 (fillF 4096 536870912 ((wI w9 2 4 (nI K)).1 20))).1 21)) := ⟨_, rfl⟩
  obtain ⟨u, hu⟩ := hfin
  have fu0 : FrBd u w := by
    rw [hu]
    exact (fF _ 21 _ (by decide)).trans ((fF _ 20 _ (by decide)).trans ((FrBd.i2 _ 4 _ (by decide)).trans f9))
  have u2 : u.2 = w6.2 := by
    rw [hu]
    exact c3
  have u12 : ∀ j, u.1 2 j = if j = 4 then nI K else w9.1 2 j := fun j => by
    rw [hu, wF_n (by decide), wF_n (by decide), wI_at]
    by_cases e4 : j = 4
    · rw [if_pos ⟨rfl, e4⟩, if_pos e4]
    · rw [if_neg (fun hh => e4 hh.2), if_neg e4]
  have u15 : u.1 15 = w6.1 15 := by rw [hu, wF_n (by decide), wF_n (by decide), wI_n (by decide), c1 15 (by decide), wI_n (by decide)]
  have u16 : u.1 16 = w6.1 16 := by rw [hu, wF_n (by decide), wF_n (by decide), wI_n (by decide), c1 16 (by decide), wI_n (by decide)]
  have u20 : ∀ i, i < 4096 → u.1 20 i = 536870912 := fun i hi => by rw [hu, wF_n (by decide), wF_s, fill_at hi]
  have u21 : ∀ i, i < 4096 → u.1 21 i = 536870912 := fun i hi => by rw [hu, wF_s, fill_at hi]
  have hgu : RCg S u := by
    refine ⟨?_, fun r hr => ?_, fun p hp => ?_, trivial, fun r i hr hi => ?_, fun r i hr hi => ?_⟩
    · rw [u12, if_neg (by decide), c2 2 (by decide), wI_at, if_neg (by decide), b1 2 (by decide) (by decide)]; exact h22
    · rw [u15]; exact b5 r hr (hdone r hr)
    · rw [u16]; exact b6 p hp
    · rw [u2]; exact (b4 r i hr hi).1
    · rw [u2]; exact (b4 r i hr hi).2
  have hzu : StZ u := hz.same (by rw [u2, b2 22 (by decide) (by decide) (by decide), l3 22 (by decide) (by decide), wI_2]) (by rw [u2, b2 23 (by decide) (by decide) (by decide), l3 23 (by decide) (by decide), wI_2])
  obtain ⟨X, v1, w', eX, eS, eR, k1, k2, k3, k4⟩ := renewAll_core (so := fun _ _ => 536870912) (ol := fun _ _ => 536870912) (h.frBd fu0) hgu hn (fun a b ha hb => ⟨u21 _ (by omega), Nat.le_refl _⟩) (arcs_I hn) (fun _ _ => Nat.le_refl _) (hzu.stI S) (fun a b ha hb _ => ⟨u20 _ (by omega), Nat.le_refl _⟩) hf (fun a b ha hb hne => by
    have hle := s1_le hn a b
    have hl := (s1_lt hn a b).mp (by omega)
    rcases c2_cases hn a b with ⟨e, _⟩ | ⟨e, _⟩
    · omega
    · exact e.2.2.2.2.1)
  have kn : ∀ c, c ≠ 2 → (wI w' 2 1 1).1 c = w'.1 c := fun c hc => wI_n hc
  have kj : ∀ j, j ≠ 1 → (wI w' 2 1 1).1 2 j = w'.1 2 j := fun j hj => by rw [wI_at, if_neg (fun hh => hj hh.2)]
  have hgw := hgu.frN k1
  refine ⟨wI w' 2 1 1, ?_, (FrBd.i2 w' 1 1 (by decide)).trans (k1.toBd.trans fu0), ⟨⟨?_, hgw.2⟩, k2, k4, K, ?_, ?_, by omega⟩, by rw [wI_at, if_pos ⟨rfl, rfl⟩], k3.stZ⟩
  · unfold f_X0_build
    rw [nm_e1, h.2.1, nm_e1, e3, bn2_e, eA, bn_e, e6, bn_e, nm_e1, e9, bn_e, nm_e1, c4, pk_sub hcm, hK]
    simp only [nm_e1]
    rw [← hu, eX, bn_e, bn_e, eS, bn_e, eR, bn2_e]
  · rw [kj 2 (by decide)]; exact hgw.1
  · rw [kj 3 (by decide), k1.1 2 (by decide) (by decide), u12, if_neg (by decide)]; exact c4
  · rw [kj 4 (by decide), k1.1 2 (by decide) (by decide), u12, if_pos rfl]
end BB
