def picC (kA : Nat → ClassId) (ad : Nat → Nat) (w : WS) : va_W := [(ad 0, .inr (3, [.ref (ad 1), .ref (ad 2), .ref (ad 3), .ref (ad 4), .ref (ad 5), .ref (ad 17), .ref (ad 6), .int (w.1 0 6), .int (w.1 0 7), .ref (ad 7), .ref (ad 8), .int (w.1 0 10)])),
  (ad 1, .inr (2, [.int (w.1 1 0), .int (w.1 1 1), .ref (ad 9), .ref (ad 10), .ref (ad 11), .ref (ad 12), .ref (ad 13), .ref (ad 14), .long (w.2 1 8), .int (w.1 1 9)])),
  (ad 2, .inr (0, [.ref (ad 1), .int (w.1 2 1), .int (w.1 2 2), .int (w.1 2 3), .int (w.1 2 4), .ref (ad 15), .ref (ad 16), .ref (ad 18), .ref (ad 19), .ref (ad 20), .ref (ad 21), .ref (ad 22), .ref (ad 23)])),
  (ad 3, .inr (1, [.int (w.1 3 0), .ref (ad 24), .ref (ad 25), .ref (ad 26), .ref (ad 27), .ref (ad 28)])),
  (ad 4, .inl (kA 2, 128, .inl (w.1 4))),
  (ad 5, .inl (kA 0, 64, .inl (w.1 5))),
  (ad 6, .inl (kA 0, 64, .inl (w.1 6))),
  (ad 7, .inl (kA 0, 32, .inl (w.1 7))),
  (ad 8, .inl (kA 0, 32, .inl (w.1 8))),
  (ad 9, .inl (kA 0, 64, .inl (w.1 9))),
  (ad 10, .inl (kA 0, 64, .inl (w.1 10))),
  (ad 11, .inl (kA 0, 64, .inl (w.1 11))),
  (ad 12, .inl (kA 0, 4096, .inl (w.1 12))),
  (ad 13, .inl (kA 1, 32, .inr (.inl (w.2 13)))),
  (ad 14, .inl (kA 1, 32, .inr (.inl (w.2 14)))),
  (ad 15, .inl (kA 0, 64, .inl (w.1 15))),
  (ad 16, .inl (kA 0, 64, .inl (w.1 16))),
  (ad 17, .inl (kA 0, 32, .inl (w.1 17))),
  (ad 18, .inl (kA 1, 64, .inr (.inl (w.2 18)))),
  (ad 19, .inl (kA 1, 64, .inr (.inl (w.2 19)))),
  (ad 20, .inl (kA 0, 4096, .inl (w.1 20))),
  (ad 21, .inl (kA 0, 4096, .inl (w.1 21))),
  (ad 22, .inl (kA 1, 64, .inr (.inl (w.2 22)))),
  (ad 23, .inl (kA 1, 64, .inr (.inl (w.2 23)))),
  (ad 24, .inl (kA 0, 8, .inl (w.1 24))),
  (ad 25, .inl (kA 0, 512, .inl (w.1 25))),
  (ad 26, .inl (kA 0, 32768, .inl (w.1 26))),
  (ad 27, .inl (kA 1, 8, .inr (.inl (w.2 27)))),
  (ad 28, .inl (kA 0, 8, .inl (w.1 28)))]
theorem setC_4 (kA : Nat → ClassId) (ad : Nat → Nat) (w : WS) (i : Nat) (v : Int32) : (picC kA ad w).set 4 (ad 4, .inl (kA 2, 128, .inl (upd (w.1 4) i (vp_nar .boolean v)))) = picC kA ad (wI w 4 i (vp_nar .boolean v)) := rfl
theorem setC_5 (kA : Nat → ClassId) (ad : Nat → Nat) (w : WS) (i : Nat) (v : Int32) : (picC kA ad w).set 5 (ad 5, .inl (kA 0, 64, .inl (upd (w.1 5) i v))) = picC kA ad (wI w 5 i v) := rfl
theorem setFC_5 (kA : Nat → ClassId) (ad : Nat → Nat) (w : WS) (f : Nat → Int32) : (picC kA ad w).set 5 (ad 5, .inl (kA 0, 64, .inl f)) = picC kA ad (wF w 5 f) := rfl
theorem setC_6 (kA : Nat → ClassId) (ad : Nat → Nat) (w : WS) (i : Nat) (v : Int32) : (picC kA ad w).set 6 (ad 6, .inl (kA 0, 64, .inl (upd (w.1 6) i v))) = picC kA ad (wI w 6 i v) := rfl
theorem setFC_6 (kA : Nat → ClassId) (ad : Nat → Nat) (w : WS) (f : Nat → Int32) : (picC kA ad w).set 6 (ad 6, .inl (kA 0, 64, .inl f)) = picC kA ad (wF w 6 f) := rfl
theorem setC_7 (kA : Nat → ClassId) (ad : Nat → Nat) (w : WS) (i : Nat) (v : Int32) : (picC kA ad w).set 7 (ad 7, .inl (kA 0, 32, .inl (upd (w.1 7) i v))) = picC kA ad (wI w 7 i v) := rfl
theorem setFC_7 (kA : Nat → ClassId) (ad : Nat → Nat) (w : WS) (f : Nat → Int32) : (picC kA ad w).set 7 (ad 7, .inl (kA 0, 32, .inl f)) = picC kA ad (wF w 7 f) := rfl
theorem setC_8 (kA : Nat → ClassId) (ad : Nat → Nat) (w : WS) (i : Nat) (v : Int32) : (picC kA ad w).set 8 (ad 8, .inl (kA 0, 32, .inl (upd (w.1 8) i v))) = picC kA ad (wI w 8 i v) := rfl
theorem setFC_8 (kA : Nat → ClassId) (ad : Nat → Nat) (w : WS) (f : Nat → Int32) : (picC kA ad w).set 8 (ad 8, .inl (kA 0, 32, .inl f)) = picC kA ad (wF w 8 f) := rfl
theorem setC_9 (kA : Nat → ClassId) (ad : Nat → Nat) (w : WS) (i : Nat) (v : Int32) : (picC kA ad w).set 9 (ad 9, .inl (kA 0, 64, .inl (upd (w.1 9) i v))) = picC kA ad (wI w 9 i v) := rfl
theorem setFC_9 (kA : Nat → ClassId) (ad : Nat → Nat) (w : WS) (f : Nat → Int32) : (picC kA ad w).set 9 (ad 9, .inl (kA 0, 64, .inl f)) = picC kA ad (wF w 9 f) := rfl
theorem setC_10 (kA : Nat → ClassId) (ad : Nat → Nat) (w : WS) (i : Nat) (v : Int32) : (picC kA ad w).set 10 (ad 10, .inl (kA 0, 64, .inl (upd (w.1 10) i v))) = picC kA ad (wI w 10 i v) := rfl
theorem setFC_10 (kA : Nat → ClassId) (ad : Nat → Nat) (w : WS) (f : Nat → Int32) : (picC kA ad w).set 10 (ad 10, .inl (kA 0, 64, .inl f)) = picC kA ad (wF w 10 f) := rfl
theorem setC_11 (kA : Nat → ClassId) (ad : Nat → Nat) (w : WS) (i : Nat) (v : Int32) : (picC kA ad w).set 11 (ad 11, .inl (kA 0, 64, .inl (upd (w.1 11) i v))) = picC kA ad (wI w 11 i v) := rfl
theorem setFC_11 (kA : Nat → ClassId) (ad : Nat → Nat) (w : WS) (f : Nat → Int32) : (picC kA ad w).set 11 (ad 11, .inl (kA 0, 64, .inl f)) = picC kA ad (wF w 11 f) := rfl
theorem setC_12 (kA : Nat → ClassId) (ad : Nat → Nat) (w : WS) (i : Nat) (v : Int32) : (picC kA ad w).set 12 (ad 12, .inl (kA 0, 4096, .inl (upd (w.1 12) i v))) = picC kA ad (wI w 12 i v) := rfl
theorem setFC_12 (kA : Nat → ClassId) (ad : Nat → Nat) (w : WS) (f : Nat → Int32) : (picC kA ad w).set 12 (ad 12, .inl (kA 0, 4096, .inl f)) = picC kA ad (wF w 12 f) := rfl
theorem setC_13 (kA : Nat → ClassId) (ad : Nat → Nat) (w : WS) (i : Nat) (v : Int64) : (picC kA ad w).set 13 (ad 13, .inl (kA 1, 32, .inr (.inl (vp_updL (w.2 13) i v)))) = picC kA ad (wL w 13 i v) := rfl
theorem setC_14 (kA : Nat → ClassId) (ad : Nat → Nat) (w : WS) (i : Nat) (v : Int64) : (picC kA ad w).set 14 (ad 14, .inl (kA 1, 32, .inr (.inl (vp_updL (w.2 14) i v)))) = picC kA ad (wL w 14 i v) := rfl
theorem setC_15 (kA : Nat → ClassId) (ad : Nat → Nat) (w : WS) (i : Nat) (v : Int32) : (picC kA ad w).set 15 (ad 15, .inl (kA 0, 64, .inl (upd (w.1 15) i v))) = picC kA ad (wI w 15 i v) := rfl
theorem setFC_15 (kA : Nat → ClassId) (ad : Nat → Nat) (w : WS) (f : Nat → Int32) : (picC kA ad w).set 15 (ad 15, .inl (kA 0, 64, .inl f)) = picC kA ad (wF w 15 f) := rfl
theorem setC_16 (kA : Nat → ClassId) (ad : Nat → Nat) (w : WS) (i : Nat) (v : Int32) : (picC kA ad w).set 16 (ad 16, .inl (kA 0, 64, .inl (upd (w.1 16) i v))) = picC kA ad (wI w 16 i v) := rfl
theorem setFC_16 (kA : Nat → ClassId) (ad : Nat → Nat) (w : WS) (f : Nat → Int32) : (picC kA ad w).set 16 (ad 16, .inl (kA 0, 64, .inl f)) = picC kA ad (wF w 16 f) := rfl
theorem setC_17 (kA : Nat → ClassId) (ad : Nat → Nat) (w : WS) (i : Nat) (v : Int32) : (picC kA ad w).set 17 (ad 17, .inl (kA 0, 32, .inl (upd (w.1 17) i v))) = picC kA ad (wI w 17 i v) := rfl
theorem setFC_17 (kA : Nat → ClassId) (ad : Nat → Nat) (w : WS) (f : Nat → Int32) : (picC kA ad w).set 17 (ad 17, .inl (kA 0, 32, .inl f)) = picC kA ad (wF w 17 f) := rfl
theorem setC_18 (kA : Nat → ClassId) (ad : Nat → Nat) (w : WS) (i : Nat) (v : Int64) : (picC kA ad w).set 18 (ad 18, .inl (kA 1, 64, .inr (.inl (vp_updL (w.2 18) i v)))) = picC kA ad (wL w 18 i v) := rfl
theorem setC_19 (kA : Nat → ClassId) (ad : Nat → Nat) (w : WS) (i : Nat) (v : Int64) : (picC kA ad w).set 19 (ad 19, .inl (kA 1, 64, .inr (.inl (vp_updL (w.2 19) i v)))) = picC kA ad (wL w 19 i v) := rfl
theorem setC_20 (kA : Nat → ClassId) (ad : Nat → Nat) (w : WS) (i : Nat) (v : Int32) : (picC kA ad w).set 20 (ad 20, .inl (kA 0, 4096, .inl (upd (w.1 20) i v))) = picC kA ad (wI w 20 i v) := rfl
theorem setFC_20 (kA : Nat → ClassId) (ad : Nat → Nat) (w : WS) (f : Nat → Int32) : (picC kA ad w).set 20 (ad 20, .inl (kA 0, 4096, .inl f)) = picC kA ad (wF w 20 f) := rfl
theorem setC_21 (kA : Nat → ClassId) (ad : Nat → Nat) (w : WS) (i : Nat) (v : Int32) : (picC kA ad w).set 21 (ad 21, .inl (kA 0, 4096, .inl (upd (w.1 21) i v))) = picC kA ad (wI w 21 i v) := rfl
theorem setFC_21 (kA : Nat → ClassId) (ad : Nat → Nat) (w : WS) (f : Nat → Int32) : (picC kA ad w).set 21 (ad 21, .inl (kA 0, 4096, .inl f)) = picC kA ad (wF w 21 f) := rfl
theorem setC_22 (kA : Nat → ClassId) (ad : Nat → Nat) (w : WS) (i : Nat) (v : Int64) : (picC kA ad w).set 22 (ad 22, .inl (kA 1, 64, .inr (.inl (vp_updL (w.2 22) i v)))) = picC kA ad (wL w 22 i v) := rfl
theorem setC_23 (kA : Nat → ClassId) (ad : Nat → Nat) (w : WS) (i : Nat) (v : Int64) : (picC kA ad w).set 23 (ad 23, .inl (kA 1, 64, .inr (.inl (vp_updL (w.2 23) i v)))) = picC kA ad (wL w 23 i v) := rfl
theorem setC_24 (kA : Nat → ClassId) (ad : Nat → Nat) (w : WS) (i : Nat) (v : Int32) : (picC kA ad w).set 24 (ad 24, .inl (kA 0, 8, .inl (upd (w.1 24) i v))) = picC kA ad (wI w 24 i v) := rfl
theorem setFC_24 (kA : Nat → ClassId) (ad : Nat → Nat) (w : WS) (f : Nat → Int32) : (picC kA ad w).set 24 (ad 24, .inl (kA 0, 8, .inl f)) = picC kA ad (wF w 24 f) := rfl
theorem setC_25 (kA : Nat → ClassId) (ad : Nat → Nat) (w : WS) (i : Nat) (v : Int32) : (picC kA ad w).set 25 (ad 25, .inl (kA 0, 512, .inl (upd (w.1 25) i v))) = picC kA ad (wI w 25 i v) := rfl
theorem setFC_25 (kA : Nat → ClassId) (ad : Nat → Nat) (w : WS) (f : Nat → Int32) : (picC kA ad w).set 25 (ad 25, .inl (kA 0, 512, .inl f)) = picC kA ad (wF w 25 f) := rfl
theorem setC_26 (kA : Nat → ClassId) (ad : Nat → Nat) (w : WS) (i : Nat) (v : Int32) : (picC kA ad w).set 26 (ad 26, .inl (kA 0, 32768, .inl (upd (w.1 26) i v))) = picC kA ad (wI w 26 i v) := rfl
theorem setFC_26 (kA : Nat → ClassId) (ad : Nat → Nat) (w : WS) (f : Nat → Int32) : (picC kA ad w).set 26 (ad 26, .inl (kA 0, 32768, .inl f)) = picC kA ad (wF w 26 f) := rfl
theorem setC_27 (kA : Nat → ClassId) (ad : Nat → Nat) (w : WS) (i : Nat) (v : Int64) : (picC kA ad w).set 27 (ad 27, .inl (kA 1, 8, .inr (.inl (vp_updL (w.2 27) i v)))) = picC kA ad (wL w 27 i v) := rfl
theorem setC_28 (kA : Nat → ClassId) (ad : Nat → Nat) (w : WS) (i : Nat) (v : Int32) : (picC kA ad w).set 28 (ad 28, .inl (kA 0, 8, .inl (upd (w.1 28) i v))) = picC kA ad (wI w 28 i v) := rfl
theorem setFC_28 (kA : Nat → ClassId) (ad : Nat → Nat) (w : WS) (f : Nat → Int32) : (picC kA ad w).set 28 (ad 28, .inl (kA 0, 8, .inl f)) = picC kA ad (wF w 28 f) := rfl
/-- the arrays of the law: from, to, weights, settings, open, uTurn, before, now, costs -/
def picL (kA : Nat → ClassId) (al : Nat → Nat) (v : WS) : va_W := [(al 0, .inl (kA 0, 9, .inl (v.1 0))), (al 1, .inl (kA 0, 9, .inl (v.1 1))), (al 2, .inl (kA 0, 9, .inl (v.1 2))), (al 3, .inl (kA 0, 81, .inl (v.1 3))), (al 4, .inl (kA 2, 9, .inl (v.1 4))), (al 5, .inl (kA 0, 1, .inl (v.1 5))), (al 6, .inl (kA 0, 81, .inl (v.1 6))), (al 7, .inl (kA 0, 81, .inl (v.1 7))), (al 8, .inl (kA 0, 9, .inl (v.1 8)))]
def picB (kA : Nat → ClassId) (al : Nat → Nat) (v : WS) : va_W := [(al 0, .inl (kA 0, 9, .inl (v.1 0))), (al 1, .inl (kA 0, 9, .inl (v.1 1))), (al 2, .inl (kA 0, 9, .inl (v.1 2)))]
theorem inW0 : ∀ w ∈ wsX00, w ∈ WG := by decide +kernel
theorem inW1 : ∀ w ∈ wsX10, w ∈ WG := by decide +kernel
theorem inW2 : ∀ w ∈ wsX20, w ∈ WG := by decide +kernel
theorem inW3 : ∀ w ∈ wsX30, w ∈ WG := by decide +kernel
