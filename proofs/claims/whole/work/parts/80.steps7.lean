/-! steps: detour, digest -/
theorem so_back {S : Nt} {r : Nat} (h : n_o S r = true) : n_so (n_so S r false) r true = S := by
  have e : (fun i => if i = r then true else n_o (n_so S r false) i) = n_o S := funext fun i => by
    by_cases c : i = r
    · rw [if_pos c, c, h]
    · rw [if_neg c]; exact if_neg c
  show (S.1, S.2.1, (fun i => if i = r then true else n_o (n_so S r false) i), S.2.2.2) = S
  rw [e]
  rfl
theorem so_id {S : Nt} {r : Nat} (h : n_o S r = false) : n_so S r false = S := by
  have e : (fun i => if i = r then false else n_o S i) = n_o S := funext fun i => by
    by_cases c : i = r
    · rw [if_pos c, c, h]
    · rw [if_neg c]
  show (S.1, S.2.1, (fun i => if i = r then false else n_o S i), S.2.2.2) = S
  rw [e]
  rfl
def FrO (u v : WS) : Prop := (∀ c, c ≠ 20 → c ≠ 21 → u.1 c = v.1 c) ∧ ∀ c, c ≠ 1 → c ≠ 22 → c ≠ 23 → u.2 c = v.2 c
section S7
variable {S : Nt} {w v : WS} {fu : Nat} {o : Nat → Int64} {od : Nat → UInt64}
theorem open_step (hn : NtOK S) (hc : RCn S w) (hp : RCp S w) (hz : StZ w) (hb : w.1 2 1 = 1) (hf : 64 < fu) {r : Nat} (hr : r < n_R S) (b : Bool) {x : Int32} (hx : x = if b = true then 1 else 0) : ∃ u y w', f_X2_openOrClose fu w (nI r) x = some u ∧ f_X0_renewRoad fu u (nI r) = some (y, w') ∧ RCn (n_so S r b) w' ∧ RCp (n_so S r b) w' ∧ StZ w' ∧ FrO w' w := by
  have hR64 := hn.2.1
  obtain ⟨X, eX, hc5⟩ := open_bits (fu := fu) hc (show r < 64 by omega) hr b
  obtain ⟨g1, g2, g3, g4⟩ := cls_pre (S' := n_so S r b) (w5 := wL w 1 8 X) hp hn rfl rfl rfl rfl rfl rfl rfl (wL_n (by decide)) (wL_n (by decide)) (wL_n (by decide))
  obtain ⟨w', e, hN⟩ := renewRoad_ok hc5 g1 (hn.so r b) hb g2 g4 (fun a b => n_L_le hn a b) ((hz.same (u := wL w 1 8 X) (wL_n (by decide)) (wL_n (by decide))).stI _) g3 hf hr (so_hd (S := S) r b)
  have q := cls_post hp (S' := n_so S r b) rfl rfl g1 rfl hN
  refine ⟨_, _, w', eX x hx, e, hc5.frN hN.1, q.1, q.2, hN.1.1, fun c c1 c22 c23 => ?_⟩
  rw [hN.1.2 c c22 c23, wL_n c1]
theorem Ra.det (h : Ra S w v) (a : w.1 2 1 = 1) (b : v.1 0 9 = 1) (d : RMp S v) (e0 : 0 < n_R S) {w' v' : WS} (hc' : RCn S w') (hp' : RCp S w') (hz' : StZ w') (hm' : RMn S v') (fw : ∀ c, (c ≠ 5 ∧ c ≠ 17) → c ≠ 20 → c ≠ 21 → w'.1 c = w.1 c) (fw2 : w'.2 27 = w.2 27) (fv : ∀ c, c ≠ 0 → c ≠ 4 → c ≠ 21 → v'.1 c = v.1 c) (fv0 : ∀ j, j ≠ 0 → v'.1 0 j = v.1 0 j) (fv2 : ∀ c, c ≠ 20 → v'.2 c = v.2 c) : Ra S w' v' := by
  obtain ⟨hn, hm, hc, hz, hp, hl, hpl, hpt, hne⟩ := h
  have w0 := fw 0 (by decide) (by decide) (by decide)
  exact ⟨hn, hm', hc', hz', Or.inr ⟨by rw [fw 2 (by decide) (by decide) (by decide)]; exact a, by rw [fv0 9 (by decide)]; exact b, hp', d.same (fv 6 (by decide) (by decide) (by decide)) (fv 7 (by decide) (by decide) (by decide)) (fv 8 (by decide) (by decide) (by decide)) (fv2 9 (by decide)) (fv0 13 (by decide)) (fv0 14 (by decide)), e0⟩, hl.same (Nat.le_refl _) (by rw [fw 3 (by decide) (by decide) (by decide)]) (fw 24 (by decide) (by decide) (by decide)) (fw 25 (by decide) (by decide) (by decide)) (fw 26 (by decide) (by decide) (by decide)) fw2 (fw 28 (by decide) (by decide) (by decide)) (fv0 19 (by decide)) (fv 13 (by decide) (by decide) (by decide)) (fv 14 (by decide) (by decide) (by decide)) (fv 15 (by decide) (by decide) (by decide)) (fv 16 (by decide) (by decide) (by decide)) (fv 17 (by decide) (by decide) (by decide)), hpl.same (fw 4 (by decide) (by decide) (by decide)) (fv 12 (by decide) (by decide) (by decide)), hpt.same (by rw [w0]) (by rw [w0]) (fw 6 (by decide) (by decide) (by decide)) (fv0 26 (by decide)) (fv0 27 (by decide)) (fv 18 (by decide) (by decide) (by decide)), hne.same (by rw [w0]) (fw 7 (by decide) (by decide) (by decide)) (fv0 29 (by decide)) (fv 19 (by decide) (by decide) (by decide))⟩
/-- what the reference answers, where all is in order -/
theorem detM (hR : Ra S w v) (b : v.1 0 9 = 1) (hf : 2 ^ 80 ≤ fu) {p q r : Nat} (hp : p < n_J S) (hq : q < n_J S) (hr : r < n_R S) : ∃ v1, FrB v1 (wI v 0 0 0) ∧ ((n_c S p q = none ∧ f_X4_detour fu v (nI p) (nI q) (nI r) = some (0, wI v1 0 0 3)) ∨ ∃ d v', n_c S p q = some d ∧ f_X4_detour fu v (nI p) (nI q) (nI r) = some (match n_c (n_so S r false) p q with
    | none => -1
    | some d2 => nI d2 - nI d, v') ∧ RMn S v' ∧ v'.1 0 0 = 0 ∧ (∀ c, c ≠ 0 → c ≠ 4 → c ≠ 21 → v'.1 c = v.1 c) ∧ (∀ j, j ≠ 0 → v'.1 0 j = v.1 0 j) ∧ ∀ c, c ≠ 20 → v'.2 c = v.2 c) := by
  have hn := hR.1
  have hm0 := hR.2.1
  have hm := (hR.thr 0).2.1
  have hR64 := hn.2.1
  have hJ := hn.1
  obtain ⟨v1, e1, f1, _⟩ := between_ok hm hn hf hp hq
  have hm1 := hm.frB f1
  refine ⟨v1, f1, ?_⟩
  have start : f_X4_detour fu v (nI p) (nI q) (nI r) = if oI (n_c S p q) = -1 then some (0, wI v1 0 0 3) else ck (vp_in (nI r) 64) (nm (v1.1 4 (Int32.toNatClampNeg (nI r))) fun x31 => ck (vp_in (nI r) 64) (nm (wI v1 4 (Int32.toNatClampNeg (nI r)) (vp_nar .boolean 0)) fun w32 => bn2 (f_X4_distanceBetween fu w32 (nI p) (nI q)) fun x34 w33 => ck (vp_in (nI r) 64) (nm (wI w33 4 (Int32.toNatClampNeg (nI r)) (vp_nar .boolean x31)) fun w35 => if x34 = -1 then some ((-1 : Int32), w35) else some (x34 - oI (n_c S p q), w35)))) := by
    unfold f_X4_detour
    rw [nm_e1, b, if_neg (by decide), isJ_y hm0 hn fu hp, bn_e, if_neg (by decide), isJ_y hm0 hn fu hq, bn_e, if_neg (by decide), isRoad_y hm0 hn fu hr, bn_e, if_neg (by decide), nm_e1, nm_e1, t0, if_pos rfl, e1, bn2_e]
    rfl
  rw [start]
  cases hc1 : n_c S p q with
  | none =>
    left
    exact ⟨rfl, if_pos rfl⟩
  | some d =>
    right
    have hd := n_c_le hn (show q < 2 ^ 31 by omega) hc1
    have x31 : v1.1 4 r = if n_o S r = true then 1 else 0 := (hm1.2.2.1 r hr).2.2.2
    have h01 : (if n_o S r = true then (1 : Int32) else 0) = 0 ∨ (if n_o S r = true then (1 : Int32) else 0) = 1 := by
      split
      · exact Or.inr rfl
      · exact Or.inl rfl
    have hm2 : RMn (n_so S r false) (wI v1 4 r 0) := hm1.so false rfl
    obtain ⟨v2, e2, f2, _⟩ := between_ok hm2 (hn.so r false) hf hp hq
    have hm3 : RMn S (wI v2 4 r (if n_o S r = true then 1 else 0)) := by
      have k := hm2.frB f2
      by_cases ho : n_o S r = true
      · have k2 := k.so (r := r) true (x := if n_o S r = true then 1 else 0) (by rw [if_pos ho, if_pos rfl])
        rw [so_back ho] at k2
        exact k2
      · have ho := Bool.eq_false_iff.mpr ho
        have k2 := k.so (r := r) false (x := if n_o S r = true then 1 else 0) (by rw [ho])
        rw [so_id ho, so_id ho] at k2
        exact k2
    have c0 : ∀ j, (wI v2 4 r (if n_o S r = true then 1 else 0)).1 0 j = if j = 0 then 0 else v.1 0 j := fun j => by
      rw [wI_n (by decide), f2.1 0 (by decide), wI_n (by decide), f1.1 0 (by decide)]
      by_cases e : j = 0
      · rw [if_pos e, e, t0]
      · rw [if_neg e, w0n v 0 e]
    refine ⟨d, wI v2 4 r (if n_o S r = true then 1 else 0), rfl, ?_, hm3, by rw [c0, if_pos rfl], fun c h0 h4 h21 => ?_, fun j hj => by rw [c0, if_neg hj], fun c h20 => ?_⟩
    · rw [show oI (some d) = nI d from rfl, if_neg (m1_ne (by omega)), ck_t (in64 (by omega)), nm_e1, cl64 (by omega), x31, ck_t (in64 (by omega)), nm_e1, vnb0, e2, bn2_e, ck_t (in64 (by omega)), nm_e1, vnb h01]
      cases hc2 : n_c (n_so S r false) p q with
      | none => exact if_pos rfl
      | some d2 =>
        have hd2 := n_c_le (hn.so r false) (show q < 2 ^ 31 by omega) hc2
        exact if_neg (m1_ne (by omega))
    · rw [wI_n h4, f2.1 c h21, wI_n h4, f1.1 c h21, wI_n h0]
    · rw [wI_2, f2.2 c h20, wI_2, f1.2 c h20]
      rfl
theorem L_25 (hR : Ra S w v) (hf : 2 ^ 80 ≤ fu) (x1 x2 x3 : Int32) : GI fu (f_L_detour fu w o x1 x2 x3) (f_X4_detour fu v x1 x2 x3) od := by
  have hn := hR.1
  have hc := hR.2.2.1
  have hm0 := hR.2.1
  have hz := hR.2.2.2.1
  have hR64 := hn.2.1
  have hJ := hn.1
  rcases hR.2.2.2.2.1 with ⟨a, b, _⟩ | ⟨a, b, c, d, e0⟩
  · refine GI.n (S := S) (o := o) (c := 1) (w1 := w) (x := 0) (v1 := wI v 0 0 1) ?_ ?_ (t0 _ _) (by decide) (hR.thr 1)
    · unfold f_L_detour f_X3_detour
      rw [reqH_n a, bx_r, bx_r, ex_y]
    · unfold f_X4_detour
      rw [nm_e1, b, if_pos rfl, nm_e1, nm_e1, t0, if_neg (by decide)]
  · rcases jn2_ix hn x1 x2 with h | ⟨p, q, hp, hq, rfl, rfl⟩
    · refine GI.n (S := S) (o := o) (c := 2) (w1 := w) (x := 0) (v1 := wI v 0 0 2) ?_ ?_ (t0 _ _) (by decide) (hR.thr 2)
      · unfold f_L_detour f_X3_detour
        rcases h with h | ⟨⟨p, hp, rfl⟩, h⟩
        · rw [reqH_y a, bx_l, reqJ_n hc fu h, bx_r, bx_r, ex_n (by decide), ex_y]
        · rw [reqH_y a, bx_l, reqJ_y hc hn fu hp, bx_l, reqJ_n hc fu h, bx_r, bx_r, ex_n (by decide), ex_y]
      · unfold f_X4_detour
        rcases h with h | ⟨⟨p, hp, rfl⟩, h⟩
        · rw [nm_e1, b, if_neg (by decide), isJ_n hm0 fu h, bn_e, if_pos rfl, nm_e1, nm_e1, t0, if_neg (by decide)]
        · rw [nm_e1, b, if_neg (by decide), isJ_y hm0 hn fu hp, bn_e, if_neg (by decide), isJ_n hm0 fu h, bn_e, if_pos rfl, nm_e1, nm_e1, t0, if_neg (by decide)]
    · rcases rd_ix hn x3 with h | ⟨r, hr, rfl⟩
      · refine GI.n (S := S) (o := o) (c := 2) (w1 := w) (x := 0) (v1 := wI v 0 0 2) ?_ ?_ (t0 _ _) (by decide) (hR.thr 2)
        · unfold f_L_detour f_X3_detour
          rw [reqH_y a, bx_l, reqJ_y hc hn fu hp, bx_l, reqJ_y hc hn fu hq, bx_l, reqR_n hc fu h, bx_r, bx_r, ex_n (by decide), ex_y]
        · unfold f_X4_detour
          rw [nm_e1, b, if_neg (by decide), isJ_y hm0 hn fu hp, bn_e, if_neg (by decide), isJ_y hm0 hn fu hq, bn_e, if_neg (by decide), isRoad_n hm0 fu h, bn_e, if_pos rfl, nm_e1, nm_e1, t0, if_neg (by decide)]
      · obtain ⟨w1, e1, f1⟩ := costBetween_ok hc c hn (show 64 < fu by omega) hp hq
        have hc1 := hc.frQ f1
        have hp1 : RCp S w1 := c.same (f1.1 2 (by decide)) (f1.1 15 (by decide)) (f1.1 16 (by decide)) (f1.1 20 (by decide)) (f1.1 21 (by decide)) (by rw [f1.2]) (by rw [f1.2]) (by rw [f1.2])
        have hz1 : StZ w1 := hz.same (by rw [f1.2]) (by rw [f1.2])
        have a1 : w1.1 2 1 = 1 := by rw [f1.1 2 (by decide)]; exact a
        obtain ⟨v1, fB, h | ⟨dd, v', k1, k2, k3, k4, k5, k6, k7⟩⟩ := detM hR b hf hp hq hr
        · have k := hR.srch f1 fB
          refine GI.n (S := S) (o := o) (c := 3) (w1 := w1) (x := 0) (v1 := wI v1 0 0 3) ?_ h.2 (t0 _ _) (by decide) (k.1.thr 3)
          unfold f_L_detour f_X3_detour
          rw [reqH_y a, bx_l, reqJ_y hc hn fu hp, bx_l, reqJ_y hc hn fu hq, bx_l, reqR_y hc hn fu hr, bx_l, e1, bn2_e, h.1, if_neg (show ¬ (0 : Int32) ≤ oI none by decide), bx_r, ex_n (by decide), ex_n (by decide), ex_y]
        · have hd := n_c_le hn (show q < 2 ^ 31 by omega) k1
          by_cases ho : n_o S r = true
          · obtain ⟨u2, y2, w2, e2, e2r, c2', p2, z2, f2⟩ := open_step (fu := fu) hn hc1 hp1 hz1 a1 (by omega) hr false (x := 0) rfl
            have a2 : w2.1 2 1 = 1 := by rw [f2.1 2 (by decide) (by decide)]; exact a1
            obtain ⟨w3, e3, f3⟩ := costBetween_ok c2' p2 (hn.so r false) (show 64 < fu by omega) hp hq
            have hc3 := c2'.frQ f3
            have hp3 : RCp (n_so S r false) w3 := p2.same (f3.1 2 (by decide)) (f3.1 15 (by decide)) (f3.1 16 (by decide)) (f3.1 20 (by decide)) (f3.1 21 (by decide)) (by rw [f3.2]) (by rw [f3.2]) (by rw [f3.2])
            obtain ⟨u4, y4, w4, e4, e4r, c4, p4, z4, f4⟩ := open_step (fu := fu) (hn.so r false) hc3 hp3 (z2.same (by rw [f3.2]) (by rw [f3.2])) (by rw [f3.1 2 (by decide)]; exact a2) (by omega) hr true (x := 1) rfl
            rw [so_back ho] at c4 p4
            have fw : ∀ c, (c ≠ 5 ∧ c ≠ 17) → c ≠ 20 → c ≠ 21 → w4.1 c = w.1 c := fun c h5 h20 h21 => by rw [f4.1 c h20 h21, f3.1 c h5, f2.1 c h20 h21, f1.1 c h5]
            have fw2 : w4.2 27 = w.2 27 := by rw [f4.2 27 (by decide) (by decide) (by decide), f3.2, f2.2 27 (by decide) (by decide) (by decide), f1.2]
            refine GI.y (S := S) (o := o) (w1 := w4) (v1 := v') ?_ k2 k4 (hR.det a b d e0 c4 p4 z4 k3 fw fw2 k5 k6 k7)
            unfold f_L_detour f_X3_detour
            rw [reqH_y a, bx_l, reqJ_y hc hn fu hp, bx_l, reqJ_y hc hn fu hq, bx_l, reqR_y hc hn fu hr, bx_l, e1, bn2_e, k1, show oI (some dd) = nI dd from rfl, if_pos (nI_pos' (by omega)), nm_e1, open_ok hc1 hn fu hr, bn_e, if_zo, if_pos ho, e2, bn_e, e2r, bn2_e, e3, bn2_e, e4, bn_e, e4r, bn2_e]
            cases hc2 : n_c (n_so S r false) p q with
            | none =>
              rw [if_neg (show ¬ (0 : Int32) ≤ oI none by decide), bx_l]
            | some d2 =>
              have hd2 := n_c_le (hn.so r false) (show q < 2 ^ 31 by omega) hc2
              rw [if_pos (show (0 : Int32) ≤ oI (some d2) from nI_pos' (by omega)), bx_l]
              rfl
          · have ho' := Bool.eq_false_iff.mpr ho
            have e0' : (match n_c (n_so S r false) p q with
              | none => (-1 : Int32)
              | some d2 => nI d2 - nI dd) = 0 := by
              rw [so_id ho', k1]
              exact Int32.sub_self _
            rw [e0'] at k2
            refine GI.y (S := S) (o := o) (x := 0) (w1 := w1) (v1 := v') ?_ k2 k4 (hR.det a b d e0 hc1 hp1 hz1 k3 (fun c h5 _ _ => f1.1 c h5) (by rw [f1.2]) k5 k6 k7)
            unfold f_L_detour f_X3_detour
            rw [reqH_y a, bx_l, reqJ_y hc hn fu hp, bx_l, reqJ_y hc hn fu hq, bx_l, reqR_y hc hn fu hr, bx_l, e1, bn2_e, k1, show oI (some dd) = nI dd from rfl, if_pos (nI_pos' (by omega)), nm_e1, open_ok hc1 hn fu hr, bn_e, if_zo, if_neg ho, bx_l]
/-! digest -/
def dgR (S : Nt) (pr : Bool) (d : Int64) (r : Nat) : Int64 := if pr = true then ((d * 31 + Int32.toInt64 (nI (n_w S r))) * 31 + (if n_o S r = true then 1 else 0)) * 31 + Int32.toInt64 (nI (n_pos S r)) else (d * 31 + Int32.toInt64 (nI (n_w S r))) * 31 + (if n_o S r = true then 1 else 0)
def dgF (S : Nt) (pr : Bool) (d : Int64) : Nat → Int64
  | 0 => d
  | r + 1 => dgR S pr (dgF S pr d r) r
def dgI (S : Nt) (a : Nat) (d : Int64) : Nat → Int64
  | 0 => d
  | b + 1 => if n_arc S a b = true then dgI S a d b * 31 + Int32.toInt64 (cI (n_L S a b)) else dgI S a d b
def dgO (S : Nt) (d : Int64) : Nat → Int64
  | 0 => d
  | a + 1 => dgI S a (dgO S d a) (n_R S)
theorem dg_roadsC (hc : RCn S w) (hn : NtOK S) (hf : 64 < fu) {pr : Bool} (hpr : (pr = false ∧ w.1 2 1 = 0) ∨ (pr = true ∧ w.1 2 1 = 1 ∧ RCp S w)) (d : Int64) : iter (fun q : Int64 × Int32 => bd_X3_digest_80 fu w q.1 q.2) fu (d, (0 : Int32)) = some (dgF S pr d (n_R S)) := by
  have hR64 := hn.2.1
  have key : ∃ r : Int64, iter (fun q : Int64 × Int32 => bd_X3_digest_80 fu w q.1 q.2) fu (d, (0 : Int32)) = some r ∧ r = dgF S pr d (n_R S) := by
    refine iter_for0 (fun k (_ : Unit) => (dgF S pr d k, nI k)) (n_R S) (fun _ _ => True) (fun (r : Int64) => r = dgF S pr d (n_R S)) ?_ ?_ (by omega) () trivial
    · intro k s hk _
      refine ⟨(), ?_, trivial⟩
      show bd_X3_digest_80 fu w (dgF S pr d k) (nI k) = some (Sum.inl (dgR S pr (dgF S pr d k) k, nI (k + 1)))
      unfold bd_X3_digest_80 dgR
      rw [nm_e1, hc.2.1, if_neg (nI_ge hk (by omega)), ck_t (in64 (by omega)), nm_e1, cl64 (by omega), (hc.2.2.1 k hk).2.2, nm_e1, nm_e1, open_ok hc hn fu hk, bn_e, if_zo]
      rcases hpr with ⟨rfl, h2⟩ | ⟨rfl, h2, h3⟩
      · rw [if_neg (show ¬ false = true by decide)]
        by_cases ho : n_o S k = true
        · rw [if_pos ho, if_pos ho]
          simp only [nm_e1]
          rw [h2, if_pos rfl, nI_1]
          rfl
        · rw [if_neg ho, if_neg ho]
          simp only [nm_e1]
          rw [h2, if_pos rfl, nI_1]
          rfl
      · rw [if_pos (show true = true from rfl)]
        by_cases ho : n_o S k = true
        · rw [if_pos ho, if_pos ho]
          simp only [nm_e1]
          rw [h2, if_neg (by decide), ck_t (in64 (by omega)), h3.1.2.1 k hk, nI_1]
          rfl
        · rw [if_neg ho, if_neg ho]
          simp only [nm_e1]
          rw [h2, if_neg (by decide), ck_t (in64 (by omega)), h3.1.2.1 k hk, nI_1]
          rfl
    · intro s _
      refine ⟨_, ?_, rfl⟩
      show bd_X3_digest_80 fu w (dgF S pr d (n_R S)) (nI (n_R S)) = _
      unfold bd_X3_digest_80
      rw [nm_e1, hc.2.1, if_pos (nI_le (Nat.le_refl _) (by omega))]
  obtain ⟨r, e, rfl⟩ := key
  exact e
theorem dg_roadsM (hm : RMn S v) (hn : NtOK S) (hf : 64 < fu) {pr : Bool} (hpr : (pr = false ∧ v.1 0 9 = 0) ∨ (pr = true ∧ v.1 0 9 = 1 ∧ RMp S v)) (d : Int64) : iter (fun q : Int64 × Int32 => bd_X4_digest_47 fu v q.1 q.2) fu (d, (0 : Int32)) = some (dgF S pr d (n_R S)) := by
  have hR64 := hn.2.1
  have key : ∃ r : Int64, iter (fun q : Int64 × Int32 => bd_X4_digest_47 fu v q.1 q.2) fu (d, (0 : Int32)) = some r ∧ r = dgF S pr d (n_R S) := by
    refine iter_for0 (fun k (_ : Unit) => (dgF S pr d k, nI k)) (n_R S) (fun _ _ => True) (fun (r : Int64) => r = dgF S pr d (n_R S)) ?_ ?_ (by omega) () trivial
    · intro k s hk _
      refine ⟨(), ?_, trivial⟩
      show bd_X4_digest_47 fu v (dgF S pr d k) (nI k) = some (Sum.inl (dgR S pr (dgF S pr d k) k, nI (k + 1)))
      unfold bd_X4_digest_47 dgR
      rw [nm_e1, hm.2.1, if_neg (nI_ge hk (by omega)), ck_t (in64 (by omega)), nm_e1, cl64 (by omega), (hm.2.2.1 k hk).2.2.1, ck_t (in64 (by omega)), nm_e1, (hm.2.2.1 k hk).2.2.2, if_zo]
      rcases hpr with ⟨rfl, h2⟩ | ⟨rfl, h2, h3⟩
      · rw [if_neg (show ¬ false = true by decide)]
        by_cases ho : n_o S k = true
        · rw [if_pos ho, if_pos ho]
          simp only [nm_e1]
          rw [h2, if_pos rfl, nI_1]
        · rw [if_neg ho, if_neg ho]
          simp only [nm_e1]
          rw [h2, if_pos rfl, nI_1]
      · rw [if_pos (show true = true from rfl)]
        by_cases ho : n_o S k = true
        · rw [if_pos ho, if_pos ho]
          simp only [nm_e1]
          rw [h2, if_neg (by decide), ck_t (in64 (by omega)), h3.1.1 k hk, nI_1]
        · rw [if_neg ho, if_neg ho]
          simp only [nm_e1]
          rw [h2, if_neg (by decide), ck_t (in64 (by omega)), h3.1.1 k hk, nI_1]
    · intro s _
      refine ⟨_, ?_, rfl⟩
      show bd_X4_digest_47 fu v (dgF S pr d (n_R S)) (nI (n_R S)) = _
      unfold bd_X4_digest_47
      rw [nm_e1, hm.2.1, if_pos (nI_le (Nat.le_refl _) (by omega))]
  obtain ⟨r, e, rfl⟩ := key
  exact e
theorem dg_arcsC (hp : RCp S w) (hn : NtOK S) (hf : 64 < fu) (d : Int64) : f_X0_addArcs fu w d = some (dgO S d (n_R S)) := by
  have hR64 := hn.2.1
  have row : ∀ a, a < n_R S → ∀ d0 : Int64, iter (fun q : Int64 × Int32 => bd_X0_addArcs_17 fu w (nI a) q.1 q.2) fu (d0, (0 : Int32)) = some (dgI S a d0 (n_R S)) := by
    intro a ha d0
    have key : ∃ r : Int64, iter (fun q : Int64 × Int32 => bd_X0_addArcs_17 fu w (nI a) q.1 q.2) fu (d0, (0 : Int32)) = some r ∧ r = dgI S a d0 (n_R S) := by
      refine iter_for0 (fun k (_ : Unit) => (dgI S a d0 k, nI k)) (n_R S) (fun _ _ => True) (fun (r : Int64) => r = dgI S a d0 (n_R S)) ?_ ?_ (by omega) () trivial
      · intro k s hk _
        refine ⟨(), ?_, trivial⟩
        show bd_X0_addArcs_17 fu w (nI a) (dgI S a d0 k) (nI k) = some (Sum.inl ((if n_arc S a k = true then dgI S a d0 k * 31 + Int32.toInt64 (cI (n_L S a k)) else dgI S a d0 k), nI (k + 1)))
        have hle := n_L_le hn a k
        unfold bd_X0_addArcs_17 f_X3_pair
        rw [nm_e1, hp.1.1, if_neg (nI_ge hk (by omega)), ck_t (in64 (by omega)), nm_e1, cl64 (by omega), has_ok fu _ (show k < 64 by omega), bn_e, if_zo, hp.1.2.2.2.2.1 a k ha (by omega), decide_eq_true hk, Bool.true_and]
        by_cases harc : n_arc S a k = true
        · rw [if_pos harc, if_pos harc, bn_e, ck_t (pr_in (by omega) (by omega)), nm_e1, pr_cl (by omega) (by omega), (hp.2.2.1 a k ha hk harc).1, costOf_ok fu (by omega), bn_e, nm_e1, nm_e1, nI_1]
        · rw [if_neg harc, if_neg harc, nm_e1, nI_1]
      · intro s _
        refine ⟨_, ?_, rfl⟩
        show bd_X0_addArcs_17 fu w (nI a) (dgI S a d0 (n_R S)) (nI (n_R S)) = _
        unfold bd_X0_addArcs_17
        rw [nm_e1, hp.1.1, if_pos (nI_le (Nat.le_refl _) (by omega))]
    obtain ⟨r, e, rfl⟩ := key
    exact e
  have key : ∃ r : Int64, iter (fun q : Int64 × Int32 => bd_X0_addArcs_5 fu w q.1 q.2) fu (d, (0 : Int32)) = some r ∧ r = dgO S d (n_R S) := by
    refine iter_for0 (fun k (_ : Unit) => (dgO S d k, nI k)) (n_R S) (fun _ _ => True) (fun (r : Int64) => r = dgO S d (n_R S)) ?_ ?_ (by omega) () trivial
    · intro k s hk _
      refine ⟨(), ?_, trivial⟩
      show bd_X0_addArcs_5 fu w (dgO S d k) (nI k) = some (Sum.inl (dgI S k (dgO S d k) (n_R S), nI (k + 1)))
      unfold bd_X0_addArcs_5
      rw [nm_e1, hp.1.1, if_neg (nI_ge hk (by omega)), row k hk, bn_e, nm_e1, nI_1]
    · intro s _
      refine ⟨_, ?_, rfl⟩
      show bd_X0_addArcs_5 fu w (dgO S d (n_R S)) (nI (n_R S)) = _
      unfold bd_X0_addArcs_5
      rw [nm_e1, hp.1.1, if_pos (nI_le (Nat.le_refl _) (by omega))]
  obtain ⟨r, e, rfl⟩ := key
  unfold f_X0_addArcs
  rw [e, bn_e]
theorem dg_arcsM (hm : RMn S v) (hp : RMp S v) (h9 : v.1 0 9 = 1) (hn : NtOK S) (hf : 64 < fu) (d : Int64) : iter (fun q : Int64 × Int32 => bd_X4_digest_117 fu v q.1 q.2) fu (d, (0 : Int32)) = some (dgO S d (n_R S)) := by
  have hR64 := hn.2.1
  have row : ∀ a, a < n_R S → ∀ d0 : Int64, iter (fun q : Int64 × Int32 => bd_X4_digest_135 fu v (nI a) q.1 q.2) fu (d0, (0 : Int32)) = some (dgI S a d0 (n_R S)) := by
    intro a ha d0
    have key : ∃ r : Int64, iter (fun q : Int64 × Int32 => bd_X4_digest_135 fu v (nI a) q.1 q.2) fu (d0, (0 : Int32)) = some r ∧ r = dgI S a d0 (n_R S) := by
      refine iter_for0 (fun k (_ : Unit) => (dgI S a d0 k, nI k)) (n_R S) (fun _ _ => True) (fun (r : Int64) => r = dgI S a d0 (n_R S)) ?_ ?_ (by omega) () trivial
      · intro k s hk _
        refine ⟨(), ?_, trivial⟩
        show bd_X4_digest_135 fu v (nI a) (dgI S a d0 k) (nI k) = some (Sum.inl ((if n_arc S a k = true then dgI S a d0 k * 31 + Int32.toInt64 (cI (n_L S a k)) else dgI S a d0 k), nI (k + 1)))
        unfold bd_X4_digest_135
        rw [nm_e1, hm.2.1, if_neg (nI_ge hk (by omega)), ck_t (px_in (by omega) (by omega)), nm_e1, px_cl (by omega) (by omega), hp.2.1 a k ha hk, if_zo]
        by_cases harc : n_arc S a k = true
        · rw [if_pos harc, if_pos harc, costOfM hp.2.2.1 hn ha hk (arc_ne hn ha hk harc), bn_e, nm_e1, nm_e1, nI_1]
        · rw [if_neg harc, if_neg harc, nm_e1, nI_1]
      · intro s _
        refine ⟨_, ?_, rfl⟩
        show bd_X4_digest_135 fu v (nI a) (dgI S a d0 (n_R S)) (nI (n_R S)) = _
        unfold bd_X4_digest_135
        rw [nm_e1, hm.2.1, if_pos (nI_le (Nat.le_refl _) (by omega))]
    obtain ⟨r, e, rfl⟩ := key
    exact e
  have key : ∃ r : Int64, iter (fun q : Int64 × Int32 => bd_X4_digest_117 fu v q.1 q.2) fu (d, (0 : Int32)) = some r ∧ r = dgO S d (n_R S) := by
    refine iter_for0 (fun k (_ : Unit) => (dgO S d k, nI k)) (n_R S) (fun _ _ => True) (fun (r : Int64) => r = dgO S d (n_R S)) ?_ ?_ (by omega) () trivial
    · intro k s hk _
      refine ⟨(), ?_, trivial⟩
      show bd_X4_digest_117 fu v (dgO S d k) (nI k) = some (Sum.inl (dgI S k (dgO S d k) (n_R S), nI (k + 1)))
      unfold bd_X4_digest_117
      rw [nm_e1, hm.2.1, if_neg (nI_ge hk (by omega)), nm_e1, h9, if_neg (by decide), row k hk, bn_e, nm_e1, nI_1]
    · intro s _
      refine ⟨_, ?_, rfl⟩
      show bd_X4_digest_117 fu v (dgO S d (n_R S)) (nI (n_R S)) = _
      unfold bd_X4_digest_117
      rw [nm_e1, hm.2.1, if_pos (nI_le (Nat.le_refl _) (by omega))]
  obtain ⟨r, e, rfl⟩ := key
  exact e
theorem dg_noM (hm : RMn S v) (h9 : v.1 0 9 = 0) (hn : NtOK S) (hf : 64 < fu) (d : Int64) : iter (fun q : Int64 × Int32 => bd_X4_digest_117 fu v q.1 q.2) fu (d, (0 : Int32)) = some d := by
  have hR64 := hn.2.1
  obtain ⟨n, rfl⟩ : ∃ m, fu = m + 1 := ⟨fu - 1, by omega⟩
  refine iter_inr ?_ n
  show bd_X4_digest_117 (n + 1) v d 0 = _
  unfold bd_X4_digest_117
  rw [nm_e1, hm.2.1]
  by_cases h : nI (n_R S) ≤ 0
  · rw [if_pos h]
  · rw [if_neg h, nm_e1, h9, if_pos rfl]
theorem L_30 (hR : Ra S w v) (hf : 64 < fu) : ∃ w1 v1 o1 od1, (∃ r : Int64, f_X3_digest fu w = some r ∧ f_X4_digest fu v = some (r, v1) ∧ w1 = w ∧ o1 = o ∧ od1 = od) ∧ Rel w1 v1 := by
  have hn := hR.1
  have hc := hR.2.2.1
  have hm := (hR.thr 0).2.1
  have hp' := (hR.thr 0).2.2.2.2.1
  obtain ⟨m, D, m1, m2, m3, m4⟩ := hR.2.2.2.2.2.1
  have e19 : (wI v 0 0 0).1 0 19 = nI m := by rw [w0n v 0 (by decide)]; exact m3
  have e23 : (23 : Int64) * 31 = 713 := by decide
  rcases hR.2.2.2.2.1 with ⟨a, b, c, d⟩ | ⟨a, b, c, d, e0⟩
  · refine ⟨w, wI v 0 0 0, o, od, ⟨dgF S false ((((((713 : Int64) + Int32.toInt64 (nI (n_J S))) * 31 + Int32.toInt64 (nI (n_R S))) * 31 + Int32.toInt64 (nI m)) * 31) + Int32.toInt64 0) (n_R S), ?_, ?_, rfl, rfl, rfl⟩, S, hR.thr 0⟩
    · unfold f_X3_digest
      simp only [nm_e1]
      rw [a, if_pos rfl, dg_roadsC hc hn hf (pr := false) (Or.inl ⟨rfl, a⟩), bn_e, if_pos rfl, hc.1, hc.2.1, m2, e23]
    · unfold f_X4_digest
      simp only [nm_e1]
      rw [hm.1, hm.2.1, e19, w0n v 0 (show (14 : Nat) ≠ 0 by decide), c, dg_roadsM hm hn hf (pr := false) (Or.inl ⟨rfl, by rw [w0n v 0 (by decide)]; exact b⟩), bn_e, dg_noM hm (by rw [w0n v 0 (by decide)]; exact b) hn hf, bn_e]
  · obtain ⟨k, k1, k2, k3⟩ := c.2.2.2
    obtain ⟨k', j1, j2, j3⟩ := d.2.2.2
    have b' : (wI v 0 0 0).1 0 9 = 1 := by rw [w0n v 0 (by decide)]; exact b
    have d' : RMp S (wI v 0 0 0) := by
      rcases hp' with ⟨x, _⟩ | ⟨_, _, _, x, _⟩
      · rw [a] at x; exact absurd x (by decide)
      · exact x
    refine ⟨w, wI v 0 0 0, o, od, ⟨dgO S (dgF S true ((((((713 : Int64) + Int32.toInt64 (nI (n_J S))) * 31 + Int32.toInt64 (nI (n_R S))) * 31 + Int32.toInt64 (nI m)) * 31) + Int32.toInt64 (nI (cn2 (n_arc S) (n_R S) (n_R S)))) (n_R S)) (n_R S), ?_, ?_, rfl, rfl, rfl⟩, S, hR.thr 0⟩
    · unfold f_X3_digest
      simp only [nm_e1]
      rw [a, if_neg (by decide), k1, dg_roadsC hc hn hf (pr := true) (Or.inr ⟨rfl, a, c⟩), bn_e, if_neg (by decide), dg_arcsC c hn hf, bn_e, hc.1, hc.2.1, m2, e23]
    · unfold f_X4_digest
      simp only [nm_e1]
      rw [hm.1, hm.2.1, e19, w0n v 0 (show (14 : Nat) ≠ 0 by decide), j1, j3, dg_roadsM hm hn hf (pr := true) (Or.inr ⟨rfl, b', d'⟩), bn_e, dg_arcsM hm d' b' hn hf, bn_e]
end S7
