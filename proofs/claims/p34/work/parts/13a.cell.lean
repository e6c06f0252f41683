abbrev rm_L_cell : Room := { frames := 0, cells := 0, slots := 0, locals := 0 }
theorem met_L_cell (l : Launch) (b L : Nat) (xs : Nat → Int32) (hL : L ≤ 260) (k : Int32) (hk : ¬ k < 0) : Met l yL_cell (wsY yL_cell cL_cell 2 (some .int)) rm_L_cell (va_Pc [.ref b, .int k] (fun U => va_X b L xs U U.heap ∧ b < U.heap.size)) (va_Qi (fun (r : Int32) (_ : Unit) => r = cellV L xs k) (fun _ _ => True) (fun _ => False)) 0 0 (fun _ => False) := by
  refine Met.ofW (cc := cL_cell) (maxL := 2) (ret := some .int) (by decide +kernel) rfl ?_
  intro p e s m args below meth c s₁ B hml hv
  obtain ⟨rfl, hX, hbl⟩ := hv
  have hts := atoms_spec (ws := wsY yL_cell cL_cell 2 (some .int)) B.pre
  rw [lg_entry_eq]
  have hl := lv_entry (n := 2) [Value.ref b, Value.int k] (Nat.le_of_ble_eq_true rfl)
  have X : CX p m c cL_cell 2 s [Value.ref b, Value.int k].toArray RL := ⟨B.exec, B.bytes, hml, findClass_of_methodNamed B.named, fun w h => hts w (List.mem_cons_of_mem _ h)⟩
  have hr := B.returns
  have hlk := B.notSynchronized
  obtain ⟨n, hn, rfl⟩ := nI_of hk
  have hcl : Int32.toNatClampNeg (nI n) = n := nI_clamp hn
  have main : CS p l e rm_L_cell s m [Value.ref b, Value.int (nI n)].toArray below meth c (fun _ => 0, fun _ _ => 0) (fun _ => False) 2 0 0 (MQ below (va_Qi (fun (r : Int32) (_ : Unit) => r = cellV L xs (nI n)) (fun _ _ => True) (fun _ => False)) [Value.ref b, Value.int (nI n)].toArray s 0 0 (fun _ => False)) [] 0 [(0, .ref b), (1, .int (nI n))] [] := by
    refine x_iload_n X dL_cell_0 1 rfl ?_
    refine x_aload_n X dL_cell_1 0 rfl ?_
    refine x_slen X hX hbl (fun h => h) dL_cell_2 ?_
    by_cases h : Int32.ofNat L ≤ nI n
    · refine x_icmp_ge_t X (tgt := 12) dL_cell_3 (by decide) h ?_
      refine x_ldc X (v := 790386105) w_5233 dL_cell_12 ?_
      refine x_iload_n X dL_cell_14 1 rfl ?_
      refine x_iconst X (v := 3) dL_cell_15 (by decide) ?_
      refine x_iadd X dL_cell_16 ?_
      refine x_imul X dL_cell_17 ?_
      exact x_iretS X hr hlk (if_pos h).symm dL_cell_18
    · refine x_icmp_ge_f X (tgt := 12) dL_cell_3 (by decide) h ?_
      have hlt : n < L := by
        apply Nat.lt_of_not_le
        intro hge
        exact h (nI_le hge hn)
      refine x_aload_n X dL_cell_6 0 rfl ?_
      refine x_iload_n X dL_cell_7 1 rfl ?_
      refine x_sld X hX hbl (fun h => h) (vp_in_nI hlt (by omega)) dL_cell_8 ?_
      refine x_goto X (tgt := 18) dL_cell_9 (by decide) ?_
      exact x_iretS X hr hlk (if_neg h).symm dL_cell_18
  exact main s.heap [] _ (fun k q h => by simp at h) ⟨fun i j p q h => by simp at h, fun k q h => by simp at h⟩ va_S.rf hl
