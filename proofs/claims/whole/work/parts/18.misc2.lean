set_option maxHeartbeats 8000000 in
set_option maxRecDepth 100000 in
theorem c_X4_image (l : Launch) (D : va_G) (cI cJ cB cS : ClassId) (xa : XA) (m mR mF mT mB mTp mBo mSo mSh mLe mIm mBf : Nat) (tn so be te va : Int) (wd : Int64) (gd ik : Int32) (g : Gd) (fi : Nat → Int32)  : Ct l D cI cJ cB cS xa yX4_image cX4_image 1 (some .int) 1 23 [.ref m] [(m, .inr (4, [.ref mR, .ref mF, .ref mT, .ref mB, .ref mTp, .int (iI tn), .int (iI so), .int (iI be), .int (iI te), .long wd, .int (iI va), .int gd, .ref mBo, .ref mSo, .ref mSh, .ref mLe, .ref mIm, .ref mBf, .int ik])), (mR, .inl (cI, 35, .inl (rowA g))), (mIm, .inl (cI, 35, .inl fi))] (some (.int (iI 1))) [(m, .inr (4, [.ref mR, .ref mF, .ref mT, .ref mB, .ref mTp, .int (iI tn), .int (iI so), .int (iI be), .int (iI te), .long wd, .int (iI va), .int gd, .ref mBo, .ref mSo, .ref mSh, .ref mLe, .ref mIm, .ref mBf, .int (iI 1)])), (mR, .inl (cI, 35, .inl (rowA g))), (mIm, .inl (cI, 35, .inl (rowA g)))] := by
  refine CtE.of (own := RX4) (lv := [(0, .ref m)]) (by decide) rfl rfl (Nat.le_of_ble_eq_true rfl) ?_
  intro xp xe xs xm xb xt xc
  refine z_aload_n (pc := 0) dX4_image_0 0 rfl ?_
  refine z_iconst (pc := 1) dX4_image_1 ?_
  refine z_aload_n (pc := 2) dX4_image_2 0 rfl ?_
  refine z_get (pc := 3) (q0 := 0) (v := .ref mIm) fL_X4_38 dX4_image_3 rfl rfl ?_
  refine z_callV (pc := 6) (st := []) (st2 := []) (ws2 := [(m, .inr (4, [.ref mR, .ref mF, .ref mT, .ref mB, .ref mTp, .int (iI tn), .int (iI so), .int (iI be), .int (iI te), .long wd, .int (iI va), .int gd, .ref mBo, .ref mSo, .ref mSh, .ref mLe, .ref mIm, .ref mBf, .int ik])), (mR, .inl (cI, 35, .inl (rowA g))), (mIm, .inl (cI, 35, .inl (rowA g)))]) (q0 := 0) (c_X4_moveAll l D cI cJ cB cS xa m mR mF mT mB mTp mBo mSo mSh mLe mIm mBf tn so be te va wd gd ik mIm (rowA g) fi ) mV_X4_moveAll kM_X4_151 dX4_image_6 rfl rfl [0, 1, 2] rfl rfl rfl rfl rfl rfl rfl rfl ⟨Nat.le_of_ble_eq_true rfl, Nat.le_of_ble_eq_true rfl, Nat.le_of_ble_eq_true rfl⟩ ?_
  refine z_aload_n (pc := 9) dX4_image_9 0 rfl ?_
  refine z_iconst (pc := 10) dX4_image_10 ?_
  refine z_put (pc := 11) (q0 := 0) (ws2 := [(m, .inr (4, [.ref mR, .ref mF, .ref mT, .ref mB, .ref mTp, .int (iI tn), .int (iI so), .int (iI be), .int (iI te), .long wd, .int (iI va), .int gd, .ref mBo, .ref mSo, .ref mSh, .ref mLe, .ref mIm, .ref mBf, .int (iI 1)])), (mR, .inl (cI, 35, .inl (rowA g))), (mIm, .inl (cI, 35, .inl (rowA g)))]) fP_X4_266 dX4_image_11 rfl (by decide) (by decide) (Nat.le_of_ble_eq_true rfl) rfl ?_
  refine z_iconst (pc := 14) dX4_image_14 ?_
  exact z_iret (pc := 15) dX4_image_15 rfl rfl
set_option maxHeartbeats 8000000 in
set_option maxRecDepth 100000 in
theorem c_X4_undo (l : Launch) (D : va_G) (cI cJ cB cS : ClassId) (xa : XA) (m mR mF mT mB mTp mBo mSo mSh mLe mIm mBf : Nat) (tn so be te va : Int) (wd : Int64) (gd : Int32) (g : Gd) (gi : Gd) (fd : FF) (ib : Int) (hb : ib = 0 ∨ ib = 1) : Ct l D cI cJ cB cS xa yX4_undo cX4_undo 1 (some .int) 1 23 [.ref m] [(m, .inr (4, [.ref mR, .ref mF, .ref mT, .ref mB, .ref mTp, .int (iI tn), .int (iI so), .int (iI be), .int (iI te), .long wd, .int (iI va), .int gd, .ref mBo, .ref mSo, .ref mSh, .ref mLe, .ref mIm, .ref mBf, .int (iI ib)])), (mR, .inl (cI, 35, .inl (rowA g))), (mF, .inl (cI, 7, .inl (ar fd))), (mIm, .inl (cI, 35, .inl (rowA gi)))] (some (.int ((opUndo ib g gi fd).1))) [(m, .inr (4, [.ref mR, .ref mF, .ref mT, .ref mB, .ref mTp, .int (iI tn), .int (iI so), .int (iI be), .int (iI te), .long wd, .int (iI va), .int gd, .ref mBo, .ref mSo, .ref mSh, .ref mLe, .ref mIm, .ref mBf, .int (iI ib)])), (mR, .inl (cI, 35, .inl (rowA ((opUndo ib g gi fd).2.1)))), (mF, .inl (cI, 7, .inl (ar ((opUndo ib g gi fd).2.2)))), (mIm, .inl (cI, 35, .inl (rowA gi)))] := by
  refine CtE.of (own := RX4) (lv := [(0, .ref m)]) (by decide) rfl rfl (Nat.le_of_ble_eq_true rfl) ?_
  intro xp xe xs xm xb xt xc
  refine z_aload_n (pc := 0) dX4_undo_0 0 rfl ?_
  refine z_get (pc := 1) (q0 := 0) (v := .int (iI ib)) fL_X4_266 dX4_undo_1 rfl rfl ?_
  refine z_if_ne (pc := 4) (tgt := 14) dX4_undo_4 (by decide) (by omega) (fun h4 => ?_) (fun h4 => ?_)
  · skip
    refine z_aload_n (pc := 14) dX4_undo_14 0 rfl ?_
    refine z_iconst (pc := 15) dX4_undo_15 ?_
    refine z_aload_n (pc := 16) dX4_undo_16 0 rfl ?_
    refine z_get (pc := 17) (q0 := 0) (v := .ref mIm) fL_X4_38 dX4_undo_17 rfl rfl ?_
    refine z_callV (pc := 20) (st := []) (st2 := []) (ws2 := [(m, .inr (4, [.ref mR, .ref mF, .ref mT, .ref mB, .ref mTp, .int (iI tn), .int (iI so), .int (iI be), .int (iI te), .long wd, .int (iI va), .int gd, .ref mBo, .ref mSo, .ref mSh, .ref mLe, .ref mIm, .ref mBf, .int (iI ib)])), (mR, .inl (cI, 35, .inl (rowA gi))), (mF, .inl (cI, 7, .inl (ar fd))), (mIm, .inl (cI, 35, .inl (rowA gi)))]) (q0 := 0) (c_X4_moveAll_b l D cI cJ cB cS xa m mR mF mT mB mTp mBo mSo mSh mLe mIm mBf tn so be te va wd gd (iI ib) mIm (rowA g) (rowA gi) ) mV_X4_moveAll kM_X4_151 dX4_undo_20 rfl rfl [0, 1, 3] rfl rfl rfl rfl rfl rfl rfl rfl ⟨Nat.le_of_ble_eq_true rfl, Nat.le_of_ble_eq_true rfl, Nat.le_of_ble_eq_true rfl⟩ ?_
    refine z_aload_n (pc := 23) dX4_undo_23 0 rfl ?_
    refine z_get (pc := 24) (q0 := 0) (v := .ref mR) fL_X4_7 dX4_undo_24 rfl rfl ?_
    refine z_iconst (pc := 27) dX4_undo_27 ?_
    refine z_iald (pc := 28) (q0 := 1) (v := (iI (gi 4 2))) dX4_undo_28 rfl (by omega) (by decide) (rowA_4 (by decide) (by decide)) ?_
    have e9 : opUndo ib g gi fd = ((iI (gi 4 2)), gi, fd) := by
      unfold opUndo; try unfold bI
      (repeat' split) <;> first | (exfalso; omega) | contradiction | rfl
    exact z_iret (pc := 29) dX4_undo_29 (by rw [e9]) (by rw [e9])
  · skip
    refine z_aload_n (pc := 7) dX4_undo_7 0 rfl ?_
    refine z_ldc (pc := 8) (n := -1000000004) kC_X4_158 dX4_undo_8 (by decide) ?_
    refine z_callV (pc := 10) (st := []) (st2 := [.int (iI (-1000000004))]) (ws2 := [(m, .inr (4, [.ref mR, .ref mF, .ref mT, .ref mB, .ref mTp, .int (iI tn), .int (iI so), .int (iI be), .int (iI te), .long wd, .int (iI va), .int gd, .ref mBo, .ref mSo, .ref mSh, .ref mLe, .ref mIm, .ref mBf, .int (iI ib)])), (mR, .inl (cI, 35, .inl (rowA g))), (mF, .inl (cI, 7, .inl (ar (fnd fd 3)))), (mIm, .inl (cI, 35, .inl (rowA gi)))]) (q0 := 0) (c_X4_finds l D cI cJ cB cS xa m mR mF mT mB mTp mBo mSo mSh mLe mIm mBf tn so be te va wd gd (iI ib) fd (-1000000004) 3 (by omega) (by omega)) mV_X4_finds kM_X4_53 dX4_undo_10 rfl rfl [0, 2] rfl rfl rfl rfl rfl rfl rfl rfl ⟨Nat.le_of_ble_eq_true rfl, Nat.le_of_ble_eq_true rfl, Nat.le_of_ble_eq_true rfl⟩ ?_
    have e9 : opUndo ib g gi fd = ((iI (-1000000004)), g, fnd fd 3) := by
      unfold opUndo; try unfold bI
      (repeat' split) <;> first | (exfalso; omega) | contradiction | rfl
    exact z_iret (pc := 13) dX4_undo_13 (by rw [e9]) (by rw [e9])
set_option maxHeartbeats 8000000 in
set_option maxRecDepth 100000 in
theorem c_X4_tear (l : Launch) (D : va_G) (cI cJ cB cS : ClassId) (xa : XA) (m mR mF mT mB mTp mBo mSo mSh mLe mIm mBf : Nat) (tn so be te va : Int) (wd : Int64) (gd : Int32) (ib : Int) (hb : ib = 0 ∨ ib = 1) : Ct l D cI cJ cB cS xa yX4_tear cX4_tear 2 (some .int) 0 0 [.ref m] [(m, .inr (4, [.ref mR, .ref mF, .ref mT, .ref mB, .ref mTp, .int (iI tn), .int (iI so), .int (iI be), .int (iI te), .long wd, .int (iI va), .int gd, .ref mBo, .ref mSo, .ref mSh, .ref mLe, .ref mIm, .ref mBf, .int (iI ib)]))] (some (.int (iI ib))) [(m, .inr (4, [.ref mR, .ref mF, .ref mT, .ref mB, .ref mTp, .int (iI tn), .int (iI so), .int (iI be), .int (iI te), .long wd, .int (iI va), .int gd, .ref mBo, .ref mSo, .ref mSh, .ref mLe, .ref mIm, .ref mBf, .int (iI 0)]))] := by
  refine CtE.of (own := RX4) (lv := [(0, .ref m)]) (by decide) rfl rfl (Nat.le_of_ble_eq_true rfl) ?_
  intro xp xe xs xm xb xt xc
  refine z_aload_n (pc := 0) dX4_tear_0 0 rfl ?_
  refine z_get (pc := 1) (q0 := 0) (v := .int (iI ib)) fL_X4_266 dX4_tear_1 rfl rfl ?_
  refine z_if_eq (pc := 4) (tgt := 11) dX4_tear_4 (by decide) (by omega) (fun h4 => ?_) (fun h4 => ?_)
  · skip
    refine z_iconst (pc := 11) dX4_tear_11 ?_
    refine z_istore_n (pc := 12) (lv2 := [(1, .int (iI 0)), (0, .ref m)]) dX4_tear_12 rfl (by decide) rfl ?_
    refine z_aload_n (pc := 13) dX4_tear_13 1 rfl ?_
    refine z_iconst (pc := 14) dX4_tear_14 ?_
    refine z_put (pc := 15) (q0 := 0) (ws2 := [(m, .inr (4, [.ref mR, .ref mF, .ref mT, .ref mB, .ref mTp, .int (iI tn), .int (iI so), .int (iI be), .int (iI te), .long wd, .int (iI va), .int gd, .ref mBo, .ref mSo, .ref mSh, .ref mLe, .ref mIm, .ref mBf, .int (iI 0)]))]) fP_X4_266 dX4_tear_15 rfl (by decide) (by decide) (Nat.le_of_ble_eq_true rfl) rfl ?_
    refine z_iload_n (pc := 18) dX4_tear_18 0 rfl ?_
    exact z_iret (pc := 19) dX4_tear_19 (congrArg (fun z => some (Value.int (iI z))) (show ib = 0 from by omega)) rfl
  · skip
    refine z_iconst (pc := 7) dX4_tear_7 ?_
    refine z_goto (pc := 8) (tgt := 12) dX4_tear_8 (by decide) ?_
    refine z_istore_n (pc := 12) (lv2 := [(1, .int (iI 1)), (0, .ref m)]) dX4_tear_12 rfl (by decide) rfl ?_
    refine z_aload_n (pc := 13) dX4_tear_13 1 rfl ?_
    refine z_iconst (pc := 14) dX4_tear_14 ?_
    refine z_put (pc := 15) (q0 := 0) (ws2 := [(m, .inr (4, [.ref mR, .ref mF, .ref mT, .ref mB, .ref mTp, .int (iI tn), .int (iI so), .int (iI be), .int (iI te), .long wd, .int (iI va), .int gd, .ref mBo, .ref mSo, .ref mSh, .ref mLe, .ref mIm, .ref mBf, .int (iI 0)]))]) fP_X4_266 dX4_tear_15 rfl (by decide) (by decide) (Nat.le_of_ble_eq_true rfl) rfl ?_
    refine z_iload_n (pc := 18) dX4_tear_18 0 rfl ?_
    exact z_iret (pc := 19) dX4_tear_19 (congrArg (fun z => some (Value.int (iI z))) (show ib = 1 from by omega)) rfl
set_option maxHeartbeats 8000000 in
set_option maxRecDepth 100000 in
theorem c_X4_count (l : Launch) (D : va_G) (cI cJ cB cS : ClassId) (xa : XA) (m mR mF mT mB mTp mBo mSo mSh mLe mIm mBf : Nat) (tn so be te va : Int) (wd : Int64) (gd ik : Int32) (g : Gd) (fd : FF) (w : Int) (ok : Ok g) (rw : inr w) : Ct l D cI cJ cB cS xa yX4_count cX4_count 2 (some .int) 2 45 [.ref m, .int (iI w)] [(m, .inr (4, [.ref mR, .ref mF, .ref mT, .ref mB, .ref mTp, .int (iI tn), .int (iI so), .int (iI be), .int (iI te), .long wd, .int (iI va), .int gd, .ref mBo, .ref mSo, .ref mSh, .ref mLe, .ref mIm, .ref mBf, .int ik])), (mR, .inl (cI, 35, .inl (rowA g))), (mF, .inl (cI, 7, .inl (ar fd)))] (some (.int ((opCount g tn fd w).1))) [(m, .inr (4, [.ref mR, .ref mF, .ref mT, .ref mB, .ref mTp, .int (iI tn), .int (iI so), .int (iI be), .int (iI te), .long wd, .int (iI va), .int gd, .ref mBo, .ref mSo, .ref mSh, .ref mLe, .ref mIm, .ref mBf, .int ik])), (mR, .inl (cI, 35, .inl (rowA g))), (mF, .inl (cI, 7, .inl (ar ((opCount g tn fd w).2))))] := by
  have o0 := ok0 ok
  have o1 := ok1 ok
  have o2 := ok2 ok
  refine CtE.of (own := RX4) (lv := [(0, .ref m), (1, .int (iI w))]) (by decide) rfl rfl (Nat.le_of_ble_eq_true rfl) ?_
  intro xp xe xs xm xb xt xc
  refine z_iload_n (pc := 0) dX4_count_0 1 rfl ?_
  by_cases h1 : 0 ≤ w ∧ w ≤ 3
  · skip
    have h1v : w = 0 ∨ w = 1 ∨ w = 2 ∨ w = 3 := by omega
    rcases h1v with h1v | h1v | h1v | h1v
    · skip
      refine z_tableIn (pc := 1) (tgt := 32) dX4_count_1 (by omega) (by omega) (by omega) (by rw [h1v]; rfl) (by decide) ?_
      refine z_aload_n (pc := 32) dX4_count_32 0 rfl ?_
      refine z_get (pc := 33) (q0 := 0) (v := .ref mR) fL_X4_7 dX4_count_33 rfl rfl ?_
      refine z_iconst (pc := 36) dX4_count_36 ?_
      refine z_iald (pc := 37) (q0 := 1) (v := (iI (g 4 2))) dX4_count_37 rfl (by omega) (by decide) (rowA_4 (by decide) (by decide)) ?_
      have e9 : opCount g tn fd w = ((iI (g 4 2)), fd) := by
        unfold opCount; try unfold bI
        (repeat' split) <;> first | (exfalso; omega) | contradiction | rfl
      exact z_iret (pc := 38) dX4_count_38 (by rw [e9]) (by rw [e9])
    · skip
      refine z_tableIn (pc := 1) (tgt := 39) dX4_count_1 (by omega) (by omega) (by omega) (by rw [h1v]; rfl) (by decide) ?_
      refine z_aload_n (pc := 39) dX4_count_39 0 rfl ?_
      refine z_get (pc := 40) (q0 := 0) (v := .int (iI tn)) fL_X4_162 dX4_count_40 rfl rfl ?_
      have e9 : opCount g tn fd w = ((iI tn), fd) := by
        unfold opCount; try unfold bI
        (repeat' split) <;> first | (exfalso; omega) | contradiction | rfl
      exact z_iret (pc := 43) dX4_count_43 (by rw [e9]) (by rw [e9])
    · skip
      refine z_tableIn (pc := 1) (tgt := 44) dX4_count_1 (by omega) (by omega) (by omega) (by rw [h1v]; rfl) (by decide) ?_
      refine z_aload_n (pc := 44) dX4_count_44 0 rfl ?_
      refine z_iconst (pc := 45) dX4_count_45 ?_
      refine z_callV (pc := 46) (st := []) (st2 := [.int (iI (sumN (g 2) (many g)))]) (ws2 := [(m, .inr (4, [.ref mR, .ref mF, .ref mT, .ref mB, .ref mTp, .int (iI tn), .int (iI so), .int (iI be), .int (iI te), .long wd, .int (iI va), .int gd, .ref mBo, .ref mSo, .ref mSh, .ref mLe, .ref mIm, .ref mBf, .int ik])), (mR, .inl (cI, 35, .inl (rowA g))), (mF, .inl (cI, 7, .inl (ar fd)))]) (q0 := 0) (c_X4_sumOf l D cI cJ cB cS xa m mR mF mT mB mTp mBo mSo mSh mLe mIm mBf tn so be te va wd gd ik g 2 ok (by omega)) mV_X4_sumOf kM_X4_74 dX4_count_46 rfl rfl [0, 1] rfl rfl rfl rfl rfl rfl rfl rfl ⟨Nat.le_of_ble_eq_true rfl, Nat.le_of_ble_eq_true rfl, Nat.le_of_ble_eq_true rfl⟩ ?_
      have e9 : opCount g tn fd w = ((iI (sumN (g 2) (many g))), fd) := by
        unfold opCount; try unfold bI
        (repeat' split) <;> first | (exfalso; omega) | contradiction | rfl
      exact z_iret (pc := 49) dX4_count_49 (by rw [e9]) (by rw [e9])
    · skip
      refine z_tableIn (pc := 1) (tgt := 50) dX4_count_1 (by omega) (by omega) (by omega) (by rw [h1v]; rfl) (by decide) ?_
      refine z_ldc (pc := 50) (n := 100000) kC_X4_101 dX4_count_50 (by decide) ?_
      refine z_aload_n (pc := 52) dX4_count_52 0 rfl ?_
      refine z_iconst (pc := 53) dX4_count_53 ?_
      refine z_callV (pc := 54) (st := [.int (iI 100000)]) (st2 := [.int (iI (sumN (g 3) (many g))), .int (iI 100000)]) (ws2 := [(m, .inr (4, [.ref mR, .ref mF, .ref mT, .ref mB, .ref mTp, .int (iI tn), .int (iI so), .int (iI be), .int (iI te), .long wd, .int (iI va), .int gd, .ref mBo, .ref mSo, .ref mSh, .ref mLe, .ref mIm, .ref mBf, .int ik])), (mR, .inl (cI, 35, .inl (rowA g))), (mF, .inl (cI, 7, .inl (ar fd)))]) (q0 := 0) (c_X4_sumOf l D cI cJ cB cS xa m mR mF mT mB mTp mBo mSo mSh mLe mIm mBf tn so be te va wd gd ik g 3 ok (by omega)) mV_X4_sumOf kM_X4_74 dX4_count_54 rfl rfl [0, 1] rfl rfl rfl rfl rfl rfl rfl rfl ⟨Nat.le_of_ble_eq_true rfl, Nat.le_of_ble_eq_true rfl, Nat.le_of_ble_eq_true rfl⟩ ?_
      refine z_iadd (pc := 57) dX4_count_57 ?_
      have e9 : opCount g tn fd w = ((iI (100000 + (sumN (g 3) (many g)))), fd) := by
        unfold opCount; try unfold bI
        (repeat' split) <;> first | (exfalso; omega) | contradiction | rfl
      exact z_iret (pc := 58) dX4_count_58 (by rw [e9]) (by rw [e9])
  · skip
    refine z_tableOut (pc := 1) (tgt := 59) dX4_count_1 (by omega) (by omega) (by decide) ?_
    refine z_aload_n (pc := 59) dX4_count_59 0 rfl ?_
    refine z_ldc (pc := 60) (n := -1000000001) kC_X4_44 dX4_count_60 (by decide) ?_
    refine z_callV (pc := 62) (st := []) (st2 := [.int (iI (-1000000001))]) (ws2 := [(m, .inr (4, [.ref mR, .ref mF, .ref mT, .ref mB, .ref mTp, .int (iI tn), .int (iI so), .int (iI be), .int (iI te), .long wd, .int (iI va), .int gd, .ref mBo, .ref mSo, .ref mSh, .ref mLe, .ref mIm, .ref mBf, .int ik])), (mR, .inl (cI, 35, .inl (rowA g))), (mF, .inl (cI, 7, .inl (ar (fnd fd 0))))]) (q0 := 0) (c_X4_finds l D cI cJ cB cS xa m mR mF mT mB mTp mBo mSo mSh mLe mIm mBf tn so be te va wd gd ik fd (-1000000001) 0 (by omega) (by omega)) mV_X4_finds kM_X4_53 dX4_count_62 rfl rfl [0, 2] rfl rfl rfl rfl rfl rfl rfl rfl ⟨Nat.le_of_ble_eq_true rfl, Nat.le_of_ble_eq_true rfl, Nat.le_of_ble_eq_true rfl⟩ ?_
    have e9 : opCount g tn fd w = ((iI (-1000000001)), fnd fd 0) := by
      unfold opCount; try unfold bI
      (repeat' split) <;> first | (exfalso; omega) | contradiction | rfl
    exact z_iret (pc := 65) dX4_count_65 (by rw [e9]) (by rw [e9])
set_option maxHeartbeats 8000000 in
set_option maxRecDepth 100000 in
theorem c_X4_status (l : Launch) (D : va_G) (cI cJ cB cS : ClassId) (xa : XA) (m mR mF mT mB mTp mBo mSo mSh mLe mIm mBf : Nat) (tn so be te va : Int) (wd : Int64) (gd ik : Int32) (fd : FF) (w : Int) (rw : inr w) : Ct l D cI cJ cB cS xa yX4_status cX4_status 4 (some .int) 1 22 [.ref m, .int (iI w)] [(m, .inr (4, [.ref mR, .ref mF, .ref mT, .ref mB, .ref mTp, .int (iI tn), .int (iI so), .int (iI be), .int (iI te), .long wd, .int (iI va), .int gd, .ref mBo, .ref mSo, .ref mSh, .ref mLe, .ref mIm, .ref mBf, .int ik])), (mF, .inl (cI, 7, .inl (ar fd)))] (some (.int ((opStatus fd w).1))) [(m, .inr (4, [.ref mR, .ref mF, .ref mT, .ref mB, .ref mTp, .int (iI tn), .int (iI so), .int (iI be), .int (iI te), .long wd, .int (iI va), .int gd, .ref mBo, .ref mSo, .ref mSh, .ref mLe, .ref mIm, .ref mBf, .int ik])), (mF, .inl (cI, 7, .inl (ar ((opStatus fd w).2))))] := by
  refine CtE.of (own := RX4) (lv := [(0, .ref m), (1, .int (iI w))]) (by decide) rfl rfl (Nat.le_of_ble_eq_true rfl) ?_
  intro xp xe xs xm xb xt xc
  refine z_iload_n (pc := 0) dX4_status_0 1 rfl ?_
  refine z_iconst (pc := 1) dX4_status_1 ?_
  refine z_bipush (pc := 2) dX4_status_2 (by decide) ?_
  refine z_callS (pc := 4) (st := []) (st2 := [.int (bI ((-1) ≤ w ∧ w ≤ 6))]) (ws2 := [(m, .inr (4, [.ref mR, .ref mF, .ref mT, .ref mB, .ref mTp, .int (iI tn), .int (iI so), .int (iI be), .int (iI te), .long wd, .int (iI va), .int gd, .ref mBo, .ref mSo, .ref mSh, .ref mLe, .ref mIm, .ref mBf, .int ik])), (mF, .inl (cI, 7, .inl (ar fd)))]) (c_X4_in l D cI cJ cB cS xa w (-1) 6 (by omega) (by omega) (by omega)) mS_X4_in kM_X4_45 dX4_status_4 [] rfl rfl rfl rfl rfl rfl rfl rfl ⟨Nat.le_of_ble_eq_true rfl, Nat.le_of_ble_eq_true rfl, Nat.le_of_ble_eq_true rfl⟩ ?_
  refine z_ifb_ne (pc := 7) (tgt := 17) dX4_status_7 (by decide) (fun h7 => ?_) (fun h7 => ?_)
  · skip
    refine z_iconst (pc := 17) dX4_status_17 ?_
    refine z_istore_n (pc := 18) (lv2 := [(2, .int (iI 0)), (0, .ref m), (1, .int (iI w))]) dX4_status_18 rfl (by decide) rfl ?_
    refine z_iconst (pc := 19) dX4_status_19 ?_
    refine z_istore_n (pc := 20) (lv2 := [(3, .int (iI 0)), (2, .int (iI 0)), (0, .ref m), (1, .int (iI w))]) dX4_status_20 rfl (by decide) rfl ?_
    have LP21 : ∀ (nn_ : Nat) (i : Int) (b : Int), (0 ≤ i) → (i ≤ 7) → (b = sumN fd i.toNat) → (7 - i).toNat < nn_ → Z xp l xe { frames := 1, cells := 0, slots := 0, locals := 22 } xs xm ([.ref m, .int (iI w)] : List Value).toArray xb xt xc 0 0 (MQ xb (Cq (S := Unit) D [(m, .inr (4, [.ref mR, .ref mF, .ref mT, .ref mB, .ref mTp, .int (iI tn), .int (iI so), .int (iI be), .int (iI te), .long wd, .int (iI va), .int gd, .ref mBo, .ref mSo, .ref mSh, .ref mLe, .ref mIm, .ref mBf, .int ik])), (mF, .inl (cI, 7, .inl (ar fd)))] (fun _ => True) (fun _ => (some (.int ((opStatus fd w).1)))) (fun _ => [(m, .inr (4, [.ref mR, .ref mF, .ref mT, .ref mB, .ref mTp, .int (iI tn), .int (iI so), .int (iI be), .int (iI te), .long wd, .int (iI va), .int gd, .ref mBo, .ref mSo, .ref mSh, .ref mLe, .ref mIm, .ref mBf, .int ik])), (mF, .inl (cI, 7, .inl (ar ((opStatus fd w).2))))])) ([.ref m, .int (iI w)] : List Value).toArray xs 0 0 (va_A0 [(m, .inr (4, [.ref mR, .ref mF, .ref mT, .ref mB, .ref mTp, .int (iI tn), .int (iI so), .int (iI be), .int (iI te), .long wd, .int (iI va), .int gd, .ref mBo, .ref mSo, .ref mSh, .ref mLe, .ref mIm, .ref mBf, .int ik])), (mF, .inl (cI, 7, .inl (ar fd)))])) cX4_status RX4 4 (some .int) D cI cJ cB cS xa (va_A0 [(m, .inr (4, [.ref mR, .ref mF, .ref mT, .ref mB, .ref mTp, .int (iI tn), .int (iI so), .int (iI be), .int (iI te), .long wd, .int (iI va), .int gd, .ref mBo, .ref mSo, .ref mSh, .ref mLe, .ref mIm, .ref mBf, .int ik])), (mF, .inl (cI, 7, .inl (ar fd)))]) [(m, .inr (4, [.ref mR, .ref mF, .ref mT, .ref mB, .ref mTp, .int (iI tn), .int (iI so), .int (iI be), .int (iI te), .long wd, .int (iI va), .int gd, .ref mBo, .ref mSo, .ref mSh, .ref mLe, .ref mIm, .ref mBf, .int ik])), (mF, .inl (cI, 7, .inl (ar fd)))] [(0, .ref m), (1, .int (iI w)), (2, .int (iI b)), (3, .int (iI i))] 21 [] := by
      intro nn_
      induction nn_ with
      | zero => intro i b hi0 hi1 hb hms; exact absurd hms (Nat.not_lt_zero _)
      | succ nn_ ih =>
        intro i b hi0 hi1 hb hms
        have ih21 := ih
        clear ih
        refine z_iload_n (pc := 21) dX4_status_21 3 rfl ?_
        refine z_bipush (pc := 22) dX4_status_22 (by decide) ?_
        refine z_icmp_ge (pc := 24) (tgt := 42) dX4_status_24 (by decide) (by omega) (by omega) (fun h24 => ?_) (fun h24 => ?_)
        · skip
          obtain rfl : i = 7 := by omega
          refine z_iload_n (pc := 42) dX4_status_42 1 rfl ?_
          refine z_if_ge (pc := 43) (tgt := 50) dX4_status_43 (by decide) (by omega) (fun h43 => ?_) (fun h43 => ?_)
          · skip
            refine z_aload_n (pc := 50) dX4_status_50 0 rfl ?_
            refine z_get (pc := 51) (q0 := 0) (v := .ref mF) fL_X4_13 dX4_status_51 rfl rfl ?_
            refine z_iload_n (pc := 54) dX4_status_54 1 rfl ?_
            refine z_if_ge (pc := 55) (tgt := 62) dX4_status_55 (by decide) (by omega) (fun h55 => ?_) (fun h55 => ?_)
            · skip
              refine z_iload_n (pc := 62) dX4_status_62 1 rfl ?_
              refine z_iald (pc := 63) (q0 := 1) (v := (iI (fd w))) dX4_status_63 rfl (by omega) (by decide) (ar_at (by omega)) ?_
              have e9 : opStatus fd w = ((iI (fd w)), fd) := by
                unfold opStatus; rw [if_pos (by omega), if_neg (by omega)]
              exact z_iret (pc := 64) dX4_status_64 (by rw [e9]) (by rw [e9])
            · skip
              exfalso; omega
          · skip
            refine z_iload_n (pc := 46) dX4_status_46 2 rfl ?_
            refine z_goto (pc := 47) (tgt := 64) dX4_status_47 (by decide) ?_
            have e9 : opStatus fd w = ((iI b), fd) := by
              unfold opStatus; rw [if_pos (by omega), if_pos (by omega), show (7 : Nat) = Int.toNat 7 from rfl, ← hb]
            exact z_iret (pc := 64) dX4_status_64 (by rw [e9]) (by rw [e9])
        · skip
          refine z_iload_n (pc := 27) dX4_status_27 2 rfl ?_
          refine z_aload_n (pc := 28) dX4_status_28 0 rfl ?_
          refine z_get (pc := 29) (q0 := 0) (v := .ref mF) fL_X4_13 dX4_status_29 rfl rfl ?_
          refine z_iload_n (pc := 32) dX4_status_32 3 rfl ?_
          refine z_iald (pc := 33) (q0 := 1) (v := (iI (fd i))) dX4_status_33 rfl (by omega) (by decide) (ar_at (by omega)) ?_
          refine z_iadd (pc := 34) dX4_status_34 ?_
          refine z_istore_n (pc := 35) (lv2 := [(2, .int (iI (b + (fd i)))), (0, .ref m), (1, .int (iI w)), (3, .int (iI i))]) dX4_status_35 rfl (by decide) rfl ?_
          refine z_iinc (pc := 36) (lv2 := [(3, .int (iI (i + 1))), (2, .int (iI (b + (fd i)))), (0, .ref m), (1, .int (iI w))]) dX4_status_36 3 rfl (by decide) rfl ?_
          refine z_goto (pc := 39) (tgt := 21) dX4_status_39 (by decide) ?_
          refine z_lv (lv2 := [(0, .ref m), (1, .int (iI w)), (2, .int (iI (b + (fd i)))), (3, .int (iI (i + 1)))]) [2, 3, 1, 0] rfl ?_
          exact ih21 (i + 1) (b + (fd i)) (by omega) (by omega) (by rw [sumN_s _ hi0, ← hb]) (by omega)
    refine z_lv (lv2 := [(0, .ref m), (1, .int (iI w)), (2, .int (iI 0)), (3, .int (iI 0))]) [2, 3, 1, 0] rfl ?_
    exact LP21 _ 0 0 (by omega) (by omega) (by rfl) (Nat.lt_succ_self _)
  · skip
    refine z_aload_n (pc := 10) dX4_status_10 0 rfl ?_
    refine z_ldc (pc := 11) (n := -1000000001) kC_X4_44 dX4_status_11 (by decide) ?_
    refine z_callV (pc := 13) (st := []) (st2 := [.int (iI (-1000000001))]) (ws2 := [(m, .inr (4, [.ref mR, .ref mF, .ref mT, .ref mB, .ref mTp, .int (iI tn), .int (iI so), .int (iI be), .int (iI te), .long wd, .int (iI va), .int gd, .ref mBo, .ref mSo, .ref mSh, .ref mLe, .ref mIm, .ref mBf, .int ik])), (mF, .inl (cI, 7, .inl (ar (fnd fd 0))))]) (q0 := 0) (c_X4_finds l D cI cJ cB cS xa m mR mF mT mB mTp mBo mSo mSh mLe mIm mBf tn so be te va wd gd ik fd (-1000000001) 0 (by omega) (by omega)) mV_X4_finds kM_X4_53 dX4_status_13 rfl rfl [0, 1] rfl rfl rfl rfl rfl rfl rfl rfl ⟨Nat.le_of_ble_eq_true rfl, Nat.le_of_ble_eq_true rfl, Nat.le_of_ble_eq_true rfl⟩ ?_
    have e9 : opStatus fd w = ((iI (-1000000001)), fnd fd 0) := by
      unfold opStatus; try unfold bI
      (repeat' split) <;> first | (exfalso; omega) | contradiction | rfl
    exact z_iret (pc := 16) dX4_status_16 (by rw [e9]) (by rw [e9])
set_option maxHeartbeats 8000000 in
set_option maxRecDepth 100000 in
theorem c_X4_wipe (l : Launch) (D : va_G) (cI cJ cB cS : ClassId) (xa : XA) (m mR mF mT mB mTp mBo mSo mSh mLe mIm mBf : Nat) (tn so be te va : Int) (wd : Int64) (gd ik : Int32)  : Ct l D cI cJ cB cS xa yX4_wipe cX4_wipe 2 (some .int) 0 0 [.ref m] [(m, .inr (4, [.ref mR, .ref mF, .ref mT, .ref mB, .ref mTp, .int (iI tn), .int (iI so), .int (iI be), .int (iI te), .long wd, .int (iI va), .int gd, .ref mBo, .ref mSo, .ref mSh, .ref mLe, .ref mIm, .ref mBf, .int ik]))] (some (.int (iI tn))) [(m, .inr (4, [.ref mR, .ref mF, .ref mT, .ref mB, .ref mTp, .int (iI 0), .int (iI so), .int (iI be), .int (iI te), .long wd, .int (iI va), .int gd, .ref mBo, .ref mSo, .ref mSh, .ref mLe, .ref mIm, .ref mBf, .int ik]))] := by
  refine CtE.of (own := RX4) (lv := [(0, .ref m)]) (by decide) rfl rfl (Nat.le_of_ble_eq_true rfl) ?_
  intro xp xe xs xm xb xt xc
  refine z_aload_n (pc := 0) dX4_wipe_0 0 rfl ?_
  refine z_get (pc := 1) (q0 := 0) (v := .int (iI tn)) fL_X4_162 dX4_wipe_1 rfl rfl ?_
  refine z_istore_n (pc := 4) (lv2 := [(1, .int (iI tn)), (0, .ref m)]) dX4_wipe_4 rfl (by decide) rfl ?_
  refine z_aload_n (pc := 5) dX4_wipe_5 1 rfl ?_
  refine z_iconst (pc := 6) dX4_wipe_6 ?_
  refine z_put (pc := 7) (q0 := 0) (ws2 := [(m, .inr (4, [.ref mR, .ref mF, .ref mT, .ref mB, .ref mTp, .int (iI 0), .int (iI so), .int (iI be), .int (iI te), .long wd, .int (iI va), .int gd, .ref mBo, .ref mSo, .ref mSh, .ref mLe, .ref mIm, .ref mBf, .int ik]))]) fP_X4_162 dX4_wipe_7 rfl rfl rfl (Nat.le_of_ble_eq_true rfl) rfl ?_
  refine z_iload_n (pc := 10) dX4_wipe_10 0 rfl ?_
  exact z_iret (pc := 11) dX4_wipe_11 rfl rfl
set_option maxHeartbeats 8000000 in
set_option maxRecDepth 100000 in
theorem c_X4_feed (l : Launch) (D : va_G) (cI cJ cB cS : ClassId) (xa : XA) (m mR mF mT mB mTp mBo mSo mSh mLe mIm mBf : Nat) (tn so be te va : Int) (wd : Int64) (gd ik : Int32) (tc fd : FF) (b n : Int) (rb : inr b) (rn : inr n) (htn : 0 ≤ tn ∧ tn ≤ 120) : Ct l D cI cJ cB cS xa yX4_feed cX4_feed 4 (some .int) 1 22 [.ref m, .int (iI b), .int (iI n)] [(m, .inr (4, [.ref mR, .ref mF, .ref mT, .ref mB, .ref mTp, .int (iI tn), .int (iI so), .int (iI be), .int (iI te), .long wd, .int (iI va), .int gd, .ref mBo, .ref mSo, .ref mSh, .ref mLe, .ref mIm, .ref mBf, .int ik])), (mF, .inl (cI, 7, .inl (ar fd))), (mTp, .inl (cI, 120, .inl (ar tc)))] (some (.int ((opFeed tc tn fd b n).1))) [(m, .inr (4, [.ref mR, .ref mF, .ref mT, .ref mB, .ref mTp, .int (iI ((opFeed tc tn fd b n).2.2.1)), .int (iI so), .int (iI be), .int (iI te), .long wd, .int (iI va), .int gd, .ref mBo, .ref mSo, .ref mSh, .ref mLe, .ref mIm, .ref mBf, .int ik])), (mF, .inl (cI, 7, .inl (ar ((opFeed tc tn fd b n).2.2.2)))), (mTp, .inl (cI, 120, .inl (ar ((opFeed tc tn fd b n).2.1))))] := by
  refine CtE.of (own := RX4) (lv := [(0, .ref m), (1, .int (iI b)), (2, .int (iI n))]) (by decide) rfl rfl (Nat.le_of_ble_eq_true rfl) ?_
  intro xp xe xs xm xb xt xc
  refine z_iload_n (pc := 0) dX4_feed_0 2 rfl ?_
  refine z_iconst (pc := 1) dX4_feed_1 ?_
  refine z_iconst (pc := 2) dX4_feed_2 ?_
  refine z_callS (pc := 3) (st := []) (st2 := [.int (bI (1 ≤ n ∧ n ≤ 4))]) (ws2 := [(m, .inr (4, [.ref mR, .ref mF, .ref mT, .ref mB, .ref mTp, .int (iI tn), .int (iI so), .int (iI be), .int (iI te), .long wd, .int (iI va), .int gd, .ref mBo, .ref mSo, .ref mSh, .ref mLe, .ref mIm, .ref mBf, .int ik])), (mF, .inl (cI, 7, .inl (ar fd))), (mTp, .inl (cI, 120, .inl (ar tc)))]) (c_X4_in l D cI cJ cB cS xa n 1 4 (by omega) (by omega) (by omega)) mS_X4_in kM_X4_45 dX4_feed_3 [] rfl rfl rfl rfl rfl rfl rfl rfl ⟨Nat.le_of_ble_eq_true rfl, Nat.le_of_ble_eq_true rfl, Nat.le_of_ble_eq_true rfl⟩ ?_
  refine z_ifb_ne (pc := 6) (tgt := 16) dX4_feed_6 (by decide) (fun h6 => ?_) (fun h6 => ?_)
  · skip
    refine z_aload_n (pc := 16) dX4_feed_16 0 rfl ?_
    refine z_get (pc := 17) (q0 := 0) (v := .int (iI tn)) fL_X4_162 dX4_feed_17 rfl rfl ?_
    refine z_iload_n (pc := 20) dX4_feed_20 2 rfl ?_
    refine z_iadd (pc := 21) dX4_feed_21 ?_
    refine z_bipush (pc := 22) dX4_feed_22 (by decide) ?_
    refine z_icmp_le (pc := 24) (tgt := 34) dX4_feed_24 (by decide) (by omega) (by omega) (fun h24 => ?_) (fun h24 => ?_)
    · skip
      refine z_iload_n (pc := 34) dX4_feed_34 2 rfl ?_
      refine z_iconst (pc := 35) dX4_feed_35 ?_
      refine z_isub (pc := 36) dX4_feed_36 ?_
      refine z_istore_n (pc := 37) (lv2 := [(3, .int (iI (n - 1))), (0, .ref m), (1, .int (iI b)), (2, .int (iI n))]) dX4_feed_37 rfl (by decide) rfl ?_
      have LP38 : ∀ (nn_ : Nat) (k : Int) (tc2 : FF) (tn2 : Int), (-1 ≤ k ∧ k ≤ 3) → (0 ≤ tn2 ∧ tn2 + k + 1 = tn + n) → (feedT tc2 tn2 b (k + 1).toNat = feedT tc tn b (Int.toNat n)) → (k + 1).toNat < nn_ → Z xp l xe { frames := 1, cells := 0, slots := 0, locals := 22 } xs xm ([.ref m, .int (iI b), .int (iI n)] : List Value).toArray xb xt xc 0 0 (MQ xb (Cq (S := Unit) D [(m, .inr (4, [.ref mR, .ref mF, .ref mT, .ref mB, .ref mTp, .int (iI tn), .int (iI so), .int (iI be), .int (iI te), .long wd, .int (iI va), .int gd, .ref mBo, .ref mSo, .ref mSh, .ref mLe, .ref mIm, .ref mBf, .int ik])), (mF, .inl (cI, 7, .inl (ar fd))), (mTp, .inl (cI, 120, .inl (ar tc)))] (fun _ => True) (fun _ => (some (.int ((opFeed tc tn fd b n).1)))) (fun _ => [(m, .inr (4, [.ref mR, .ref mF, .ref mT, .ref mB, .ref mTp, .int (iI ((opFeed tc tn fd b n).2.2.1)), .int (iI so), .int (iI be), .int (iI te), .long wd, .int (iI va), .int gd, .ref mBo, .ref mSo, .ref mSh, .ref mLe, .ref mIm, .ref mBf, .int ik])), (mF, .inl (cI, 7, .inl (ar ((opFeed tc tn fd b n).2.2.2)))), (mTp, .inl (cI, 120, .inl (ar ((opFeed tc tn fd b n).2.1))))])) ([.ref m, .int (iI b), .int (iI n)] : List Value).toArray xs 0 0 (va_A0 [(m, .inr (4, [.ref mR, .ref mF, .ref mT, .ref mB, .ref mTp, .int (iI tn), .int (iI so), .int (iI be), .int (iI te), .long wd, .int (iI va), .int gd, .ref mBo, .ref mSo, .ref mSh, .ref mLe, .ref mIm, .ref mBf, .int ik])), (mF, .inl (cI, 7, .inl (ar fd))), (mTp, .inl (cI, 120, .inl (ar tc)))])) cX4_feed RX4 4 (some .int) D cI cJ cB cS xa (va_A0 [(m, .inr (4, [.ref mR, .ref mF, .ref mT, .ref mB, .ref mTp, .int (iI tn), .int (iI so), .int (iI be), .int (iI te), .long wd, .int (iI va), .int gd, .ref mBo, .ref mSo, .ref mSh, .ref mLe, .ref mIm, .ref mBf, .int ik])), (mF, .inl (cI, 7, .inl (ar fd))), (mTp, .inl (cI, 120, .inl (ar tc)))]) [(m, .inr (4, [.ref mR, .ref mF, .ref mT, .ref mB, .ref mTp, .int (iI tn2), .int (iI so), .int (iI be), .int (iI te), .long wd, .int (iI va), .int gd, .ref mBo, .ref mSo, .ref mSh, .ref mLe, .ref mIm, .ref mBf, .int ik])), (mF, .inl (cI, 7, .inl (ar fd))), (mTp, .inl (cI, 120, .inl (ar tc2)))] [(0, .ref m), (1, .int (iI b)), (2, .int (iI n)), (3, .int (iI k))] 38 [] := by
        intro nn_
        induction nn_ with
        | zero => intro k tc2 tn2 hk hn2 ht hms; exact absurd hms (Nat.not_lt_zero _)
        | succ nn_ ih =>
          intro k tc2 tn2 hk hn2 ht hms
          have ih38 := ih
          clear ih
          refine z_iload_n (pc := 38) dX4_feed_38 3 rfl ?_
          refine z_if_lt (pc := 39) (tgt := 77) dX4_feed_39 (by decide) (by omega) (fun h39 => ?_) (fun h39 => ?_)
          · skip
            refine z_aload_n (pc := 77) dX4_feed_77 0 rfl ?_
            refine z_get (pc := 78) (q0 := 0) (v := .int (iI tn2)) fL_X4_162 dX4_feed_78 rfl rfl ?_
            have e9 : opFeed tc tn fd b n = ((iI tn2), tc2, tn2, fd) := by
              have hz : k = -1 := by omega
              subst hz
              have ht2 : tc2 = feedT tc tn b (Int.toNat n) := ht
              obtain rfl : tn2 = tn + n := by omega
              unfold opFeed; rw [if_pos (by omega), if_pos (by omega), ht2]
            exact z_iret (pc := 81) dX4_feed_81 (by rw [e9]) (by rw [e9])
          · skip
            refine z_aload_n (pc := 42) dX4_feed_42 0 rfl ?_
            refine z_get (pc := 43) (q0 := 0) (v := .ref mTp) fL_X4_22 dX4_feed_43 rfl rfl ?_
            refine z_aload_n (pc := 46) dX4_feed_46 0 rfl ?_
            refine z_get (pc := 47) (q0 := 0) (v := .int (iI tn2)) fL_X4_162 dX4_feed_47 rfl rfl ?_
            refine z_iload_n (pc := 50) dX4_feed_50 1 rfl ?_
            refine z_bipush (pc := 51) dX4_feed_51 (by decide) ?_
            refine z_iload_n (pc := 53) dX4_feed_53 3 rfl ?_
            refine z_imul (pc := 54) dX4_feed_54 ?_
            refine z_ishr (pc := 55) dX4_feed_55 ?_
            refine z_sipush (pc := 56) dX4_feed_56 (by decide) ?_
            refine z_iand (pc := 59) dX4_feed_59 ?_
            refine z_st (st2 := [.int (iI (byt b k)), .int (iI tn2), .ref mTp]) (by rw [byt_and rb (by omega)]) ?_
            have rby := byt_rng b k
            refine z_iast (pc := 60) (q0 := 2) (ws2 := [(m, .inr (4, [.ref mR, .ref mF, .ref mT, .ref mB, .ref mTp, .int (iI tn2), .int (iI so), .int (iI be), .int (iI te), .long wd, .int (iI va), .int gd, .ref mBo, .ref mSo, .ref mSh, .ref mLe, .ref mIm, .ref mBf, .int ik])), (mF, .inl (cI, 7, .inl (ar fd))), (mTp, .inl (cI, 120, .inl (ar (up1 tc2 tn2 (byt b k)))))]) dX4_feed_60 rfl (by omega) (by decide) (by rw [ar_up (by omega)]; rfl) ?_
            refine z_aload_n (pc := 61) dX4_feed_61 0 rfl ?_
            refine z_dup (pc := 62) dX4_feed_62 rfl ?_
            refine z_get (pc := 63) (q0 := 0) (v := .int (iI tn2)) fL_X4_162 dX4_feed_63 rfl rfl ?_
            refine z_iconst (pc := 66) dX4_feed_66 ?_
            refine z_iadd (pc := 67) dX4_feed_67 ?_
            refine z_put (pc := 68) (q0 := 0) (ws2 := [(m, .inr (4, [.ref mR, .ref mF, .ref mT, .ref mB, .ref mTp, .int (iI (tn2 + 1)), .int (iI so), .int (iI be), .int (iI te), .long wd, .int (iI va), .int gd, .ref mBo, .ref mSo, .ref mSh, .ref mLe, .ref mIm, .ref mBf, .int ik])), (mF, .inl (cI, 7, .inl (ar fd))), (mTp, .inl (cI, 120, .inl (ar (up1 tc2 tn2 (byt b k)))))]) fP_X4_162 dX4_feed_68 rfl rfl rfl (Nat.le_of_ble_eq_true rfl) rfl ?_
            refine z_iinc (pc := 71) (lv2 := [(3, .int (iI (k + (-1)))), (0, .ref m), (1, .int (iI b)), (2, .int (iI n))]) dX4_feed_71 3 rfl (by decide) rfl ?_
            refine z_goto (pc := 74) (tgt := 38) dX4_feed_74 (by decide) ?_
            refine z_lv (lv2 := [(0, .ref m), (1, .int (iI b)), (2, .int (iI n)), (3, .int (iI (k + (-1))))]) [1, 2, 3, 0] rfl ?_
            exact ih38 (k + (-1)) (up1 tc2 tn2 (byt b k)) (tn2 + 1) (by omega) (by omega) (by rw [show k + (-1) + 1 = k by omega, ← ht, feedT_s _ _ _ (by omega)]) (by omega)
      refine z_lv (lv2 := [(0, .ref m), (1, .int (iI b)), (2, .int (iI n)), (3, .int (iI (n - 1)))]) [1, 2, 3, 0] rfl ?_
      exact LP38 _ (n - 1) tc tn (by omega) (by omega) (by rw [show n - 1 + 1 = n by omega]) (Nat.lt_succ_self _)
    · skip
      refine z_aload_n (pc := 27) dX4_feed_27 0 rfl ?_
      refine z_ldc (pc := 28) (n := -1000000002) kC_X4_94 dX4_feed_28 (by decide) ?_
      refine z_callV (pc := 30) (st := []) (st2 := [.int (iI (-1000000002))]) (ws2 := [(m, .inr (4, [.ref mR, .ref mF, .ref mT, .ref mB, .ref mTp, .int (iI tn), .int (iI so), .int (iI be), .int (iI te), .long wd, .int (iI va), .int gd, .ref mBo, .ref mSo, .ref mSh, .ref mLe, .ref mIm, .ref mBf, .int ik])), (mF, .inl (cI, 7, .inl (ar (fnd fd 1)))), (mTp, .inl (cI, 120, .inl (ar tc)))]) (q0 := 0) (c_X4_finds l D cI cJ cB cS xa m mR mF mT mB mTp mBo mSo mSh mLe mIm mBf tn so be te va wd gd ik fd (-1000000002) 1 (by omega) (by omega)) mV_X4_finds kM_X4_53 dX4_feed_30 rfl rfl [0, 1] rfl rfl rfl rfl rfl rfl rfl rfl ⟨Nat.le_of_ble_eq_true rfl, Nat.le_of_ble_eq_true rfl, Nat.le_of_ble_eq_true rfl⟩ ?_
      have e9 : opFeed tc tn fd b n = ((iI (-1000000002)), tc, tn, fnd fd 1) := by
        unfold opFeed; try unfold bI
        (repeat' split) <;> first | (exfalso; omega) | contradiction | rfl
      exact z_iret (pc := 33) dX4_feed_33 (by rw [e9]) (by rw [e9])
  · skip
    refine z_aload_n (pc := 9) dX4_feed_9 0 rfl ?_
    refine z_ldc (pc := 10) (n := -1000000001) kC_X4_44 dX4_feed_10 (by decide) ?_
    refine z_callV (pc := 12) (st := []) (st2 := [.int (iI (-1000000001))]) (ws2 := [(m, .inr (4, [.ref mR, .ref mF, .ref mT, .ref mB, .ref mTp, .int (iI tn), .int (iI so), .int (iI be), .int (iI te), .long wd, .int (iI va), .int gd, .ref mBo, .ref mSo, .ref mSh, .ref mLe, .ref mIm, .ref mBf, .int ik])), (mF, .inl (cI, 7, .inl (ar (fnd fd 0)))), (mTp, .inl (cI, 120, .inl (ar tc)))]) (q0 := 0) (c_X4_finds l D cI cJ cB cS xa m mR mF mT mB mTp mBo mSo mSh mLe mIm mBf tn so be te va wd gd ik fd (-1000000001) 0 (by omega) (by omega)) mV_X4_finds kM_X4_53 dX4_feed_12 rfl rfl [0, 1] rfl rfl rfl rfl rfl rfl rfl rfl ⟨Nat.le_of_ble_eq_true rfl, Nat.le_of_ble_eq_true rfl, Nat.le_of_ble_eq_true rfl⟩ ?_
    have e9 : opFeed tc tn fd b n = ((iI (-1000000001)), tc, tn, fnd fd 0) := by
      unfold opFeed; try unfold bI
      (repeat' split) <;> first | (exfalso; omega) | contradiction | rfl
    exact z_iret (pc := 15) dX4_feed_15 (by rw [e9]) (by rw [e9])
set_option maxHeartbeats 8000000 in
set_option maxRecDepth 100000 in
theorem c_X3_image (l : Launch) (D : va_G) (cI cJ cB cS : ClassId) (xa : XA) (x h hK hH hM hO t k0 kK kH kM kO tp sh fi : Nat) (ik : Int32) (g : Gd) (gk : Gd) (ok : Ok g) (okk : Ok gk) : Ct l D cI cJ cB cS xa yX3_image cX3_image 1 (some .int) 2 47 [.ref x] [(x, .inr (3, [.ref h, .ref t, .ref k0, .int ik, .ref tp, .ref sh, .ref fi])), (h, oG g hK hH hM hO), (hK, .inl (cI, 8, .inl (aG g 0))), (hH, .inl (cI, 8, .inl (aG g 1))), (hM, .inl (cI, 8, .inl (aG g 2))), (hO, .inl (cI, 8, .inl (aG g 3))), (k0, oG gk kK kH kM kO), (kK, .inl (cI, 8, .inl (aG gk 0))), (kH, .inl (cI, 8, .inl (aG gk 1))), (kM, .inl (cI, 8, .inl (aG gk 2))), (kO, .inl (cI, 8, .inl (aG gk 3)))] (some (.int (iI 1))) [(x, .inr (3, [.ref h, .ref t, .ref k0, .int (iI 1), .ref tp, .ref sh, .ref fi])), (h, oG g hK hH hM hO), (hK, .inl (cI, 8, .inl (aG g 0))), (hH, .inl (cI, 8, .inl (aG g 1))), (hM, .inl (cI, 8, .inl (aG g 2))), (hO, .inl (cI, 8, .inl (aG g 3))), (k0, oG (likeG gk g) kK kH kM kO), (kK, .inl (cI, 8, .inl (aG (likeG gk g) 0))), (kH, .inl (cI, 8, .inl (aG (likeG gk g) 1))), (kM, .inl (cI, 8, .inl (aG (likeG gk g) 2))), (kO, .inl (cI, 8, .inl (aG (likeG gk g) 3)))] := by
  refine CtE.of (own := RX3) (lv := [(0, .ref x)]) (by decide) rfl rfl (Nat.le_of_ble_eq_true rfl) ?_
  intro xp xe xs xm xb xt xc
  refine z_aload_n (pc := 0) dX3_image_0 0 rfl ?_
  refine z_get (pc := 1) (q0 := 0) (v := .ref k0) fL_X3_19 dX3_image_1 rfl rfl ?_
  refine z_aload_n (pc := 4) dX3_image_4 0 rfl ?_
  refine z_get (pc := 5) (q0 := 0) (v := .ref h) fL_X3_10 dX3_image_5 rfl rfl ?_
  refine z_callV (pc := 8) (st := []) (st2 := []) (ws2 := [(x, .inr (3, [.ref h, .ref t, .ref k0, .int ik, .ref tp, .ref sh, .ref fi])), (h, oG g hK hH hM hO), (hK, .inl (cI, 8, .inl (aG g 0))), (hH, .inl (cI, 8, .inl (aG g 1))), (hM, .inl (cI, 8, .inl (aG g 2))), (hO, .inl (cI, 8, .inl (aG g 3))), (k0, oG (likeG gk g) kK kH kM kO), (kK, .inl (cI, 8, .inl (aG (likeG gk g) 0))), (kH, .inl (cI, 8, .inl (aG (likeG gk g) 1))), (kM, .inl (cI, 8, .inl (aG (likeG gk g) 2))), (kO, .inl (cI, 8, .inl (aG (likeG gk g) 3)))]) (q0 := 6) (c_X0_becomeLike l D cI cJ cB cS xa k0 kK kH kM kO gk h hK hH hM hO g okk ok) mV_X0_becomeLike kM_X3_182 dX3_image_8 rfl rfl [6, 7, 8, 9, 10, 1, 2, 3, 4, 5] rfl rfl rfl rfl rfl rfl rfl rfl ⟨Nat.le_of_ble_eq_true rfl, Nat.le_of_ble_eq_true rfl, Nat.le_of_ble_eq_true rfl⟩ ?_
  have ok8_1 : Ok (likeG gk g) := likeG_ok okk ok
  have f8_2 := (show likeG gk g 4 0 = g 4 0 from rfl)
  have f8_3 := (show likeG gk g 4 1 = g 4 1 from rfl)
  have f8_4 := (show likeG gk g 4 2 = g 4 2 from rfl)
  refine z_aload_n (pc := 11) dX3_image_11 0 rfl ?_
  refine z_iconst (pc := 12) dX3_image_12 ?_
  refine z_put (pc := 13) (q0 := 0) (ws2 := [(x, .inr (3, [.ref h, .ref t, .ref k0, .int (iI 1), .ref tp, .ref sh, .ref fi])), (h, oG g hK hH hM hO), (hK, .inl (cI, 8, .inl (aG g 0))), (hH, .inl (cI, 8, .inl (aG g 1))), (hM, .inl (cI, 8, .inl (aG g 2))), (hO, .inl (cI, 8, .inl (aG g 3))), (k0, oG (likeG gk g) kK kH kM kO), (kK, .inl (cI, 8, .inl (aG (likeG gk g) 0))), (kH, .inl (cI, 8, .inl (aG (likeG gk g) 1))), (kM, .inl (cI, 8, .inl (aG (likeG gk g) 2))), (kO, .inl (cI, 8, .inl (aG (likeG gk g) 3)))]) fP_X3_22 dX3_image_13 rfl (by decide) (by decide) (Nat.le_of_ble_eq_true rfl) rfl ?_
  refine z_iconst (pc := 16) dX3_image_16 ?_
  exact z_iret (pc := 17) dX3_image_17 rfl rfl
set_option maxHeartbeats 8000000 in
set_option maxRecDepth 100000 in
theorem c_X3_undo (l : Launch) (D : va_G) (cI cJ cB cS : ClassId) (xa : XA) (x h hK hH hM hO t k0 kK kH kM kO tp sh fi : Nat) (g : Gd) (gk : Gd) (fd : FF) (ib : Int) (ok : Ok g) (okk : Ok gk) (hb : ib = 0 ∨ ib = 1) : Ct l D cI cJ cB cS xa yX3_undo cX3_undo 1 (some .int) 2 47 [.ref x] [(x, .inr (3, [.ref h, .ref t, .ref k0, .int (iI ib), .ref tp, .ref sh, .ref fi])), (h, oG g hK hH hM hO), (hK, .inl (cI, 8, .inl (aG g 0))), (hH, .inl (cI, 8, .inl (aG g 1))), (hM, .inl (cI, 8, .inl (aG g 2))), (hO, .inl (cI, 8, .inl (aG g 3))), (k0, oG gk kK kH kM kO), (kK, .inl (cI, 8, .inl (aG gk 0))), (kH, .inl (cI, 8, .inl (aG gk 1))), (kM, .inl (cI, 8, .inl (aG gk 2))), (kO, .inl (cI, 8, .inl (aG gk 3))), (fi, .inl (cI, 7, .inl (ar fd)))] (some (.int ((opUndo ib g (likeG g gk) fd).1))) [(x, .inr (3, [.ref h, .ref t, .ref k0, .int (iI ib), .ref tp, .ref sh, .ref fi])), (h, oG ((opUndo ib g (likeG g gk) fd).2.1) hK hH hM hO), (hK, .inl (cI, 8, .inl (aG ((opUndo ib g (likeG g gk) fd).2.1) 0))), (hH, .inl (cI, 8, .inl (aG ((opUndo ib g (likeG g gk) fd).2.1) 1))), (hM, .inl (cI, 8, .inl (aG ((opUndo ib g (likeG g gk) fd).2.1) 2))), (hO, .inl (cI, 8, .inl (aG ((opUndo ib g (likeG g gk) fd).2.1) 3))), (k0, oG gk kK kH kM kO), (kK, .inl (cI, 8, .inl (aG gk 0))), (kH, .inl (cI, 8, .inl (aG gk 1))), (kM, .inl (cI, 8, .inl (aG gk 2))), (kO, .inl (cI, 8, .inl (aG gk 3))), (fi, .inl (cI, 7, .inl (ar ((opUndo ib g (likeG g gk) fd).2.2))))] := by
  refine CtE.of (own := RX3) (lv := [(0, .ref x)]) (by decide) rfl rfl (Nat.le_of_ble_eq_true rfl) ?_
  intro xp xe xs xm xb xt xc
  refine z_aload_n (pc := 0) dX3_undo_0 0 rfl ?_
  refine z_get (pc := 1) (q0 := 0) (v := .int (iI ib)) fL_X3_22 dX3_undo_1 rfl rfl ?_
  refine z_if_ne (pc := 4) (tgt := 13) dX3_undo_4 (by decide) (by omega) (fun h4 => ?_) (fun h4 => ?_)
  · skip
    refine z_aload_n (pc := 13) dX3_undo_13 0 rfl ?_
    refine z_get (pc := 14) (q0 := 0) (v := .ref h) fL_X3_10 dX3_undo_14 rfl rfl ?_
    refine z_aload_n (pc := 17) dX3_undo_17 0 rfl ?_
    refine z_get (pc := 18) (q0 := 0) (v := .ref k0) fL_X3_19 dX3_undo_18 rfl rfl ?_
    refine z_callV (pc := 21) (st := []) (st2 := []) (ws2 := [(x, .inr (3, [.ref h, .ref t, .ref k0, .int (iI ib), .ref tp, .ref sh, .ref fi])), (h, oG (likeG g gk) hK hH hM hO), (hK, .inl (cI, 8, .inl (aG (likeG g gk) 0))), (hH, .inl (cI, 8, .inl (aG (likeG g gk) 1))), (hM, .inl (cI, 8, .inl (aG (likeG g gk) 2))), (hO, .inl (cI, 8, .inl (aG (likeG g gk) 3))), (k0, oG gk kK kH kM kO), (kK, .inl (cI, 8, .inl (aG gk 0))), (kH, .inl (cI, 8, .inl (aG gk 1))), (kM, .inl (cI, 8, .inl (aG gk 2))), (kO, .inl (cI, 8, .inl (aG gk 3))), (fi, .inl (cI, 7, .inl (ar fd)))]) (q0 := 1) (c_X0_becomeLike l D cI cJ cB cS xa h hK hH hM hO g k0 kK kH kM kO gk ok okk) mV_X0_becomeLike kM_X3_182 dX3_undo_21 rfl rfl [1, 2, 3, 4, 5, 6, 7, 8, 9, 10] rfl rfl rfl rfl rfl rfl rfl rfl ⟨Nat.le_of_ble_eq_true rfl, Nat.le_of_ble_eq_true rfl, Nat.le_of_ble_eq_true rfl⟩ ?_
    have ok21_1 : Ok (likeG g gk) := likeG_ok ok okk
    have f21_2 := (show likeG g gk 4 0 = gk 4 0 from rfl)
    have f21_3 := (show likeG g gk 4 1 = gk 4 1 from rfl)
    have f21_4 := (show likeG g gk 4 2 = gk 4 2 from rfl)
    refine z_aload_n (pc := 24) dX3_undo_24 0 rfl ?_
    refine z_get (pc := 25) (q0 := 0) (v := .ref h) fL_X3_10 dX3_undo_25 rfl rfl ?_
    refine z_get (pc := 28) (q0 := 1) (v := .int (iI ((likeG g gk) 4 2))) fL_X3_159 dX3_undo_28 rfl rfl ?_
    have e9 : opUndo ib g (likeG g gk) fd = ((iI ((likeG g gk) 4 2)), likeG g gk, fd) := by
      unfold opUndo; try unfold bI
      (repeat' split) <;> first | (exfalso; omega) | contradiction | rfl
    exact z_iret (pc := 31) dX3_undo_31 (by rw [e9]) (by rw [e9])
  · skip
    refine z_aload_n (pc := 7) dX3_undo_7 0 rfl ?_
    refine z_iconst (pc := 8) dX3_undo_8 ?_
    refine z_callV (pc := 9) (st := []) (st2 := [.int (iI (-1000000001 - 3))]) (ws2 := [(x, .inr (3, [.ref h, .ref t, .ref k0, .int (iI ib), .ref tp, .ref sh, .ref fi])), (h, oG g hK hH hM hO), (hK, .inl (cI, 8, .inl (aG g 0))), (hH, .inl (cI, 8, .inl (aG g 1))), (hM, .inl (cI, 8, .inl (aG g 2))), (hO, .inl (cI, 8, .inl (aG g 3))), (k0, oG gk kK kH kM kO), (kK, .inl (cI, 8, .inl (aG gk 0))), (kH, .inl (cI, 8, .inl (aG gk 1))), (kM, .inl (cI, 8, .inl (aG gk 2))), (kO, .inl (cI, 8, .inl (aG gk 3))), (fi, .inl (cI, 7, .inl (ar (fnd fd 3))))]) (q0 := 0) (c_X3_found l D cI cJ cB cS xa x h t k0 tp sh fi (iI ib) fd 3 (by omega)) mV_X3_found kM_X3_48 dX3_undo_9 rfl rfl [0, 11] rfl rfl rfl rfl rfl rfl rfl rfl ⟨Nat.le_of_ble_eq_true rfl, Nat.le_of_ble_eq_true rfl, Nat.le_of_ble_eq_true rfl⟩ ?_
    have e9 : opUndo ib g (likeG g gk) fd = ((iI (-1000000001 - 3)), g, fnd fd 3) := by
      unfold opUndo; try unfold bI
      (repeat' split) <;> first | (exfalso; omega) | contradiction | rfl
    exact z_iret (pc := 12) dX3_undo_12 (by rw [e9]) (by rw [e9])
set_option maxHeartbeats 8000000 in
set_option maxRecDepth 100000 in
theorem c_X3_tear (l : Launch) (D : va_G) (cI cJ cB cS : ClassId) (xa : XA) (x h t k0 tp sh fi : Nat) (ib : Int) (hb : ib = 0 ∨ ib = 1) : Ct l D cI cJ cB cS xa yX3_tear cX3_tear 2 (some .int) 1 20 [.ref x] [(x, .inr (3, [.ref h, .ref t, .ref k0, .int (iI ib), .ref tp, .ref sh, .ref fi]))] (some (.int (iI ib))) [(x, .inr (3, [.ref h, .ref t, .ref k0, .int (iI 0), .ref tp, .ref sh, .ref fi]))] := by
  refine CtE.of (own := RX3) (lv := [(0, .ref x)]) (by decide) rfl rfl (Nat.le_of_ble_eq_true rfl) ?_
  intro xp xe xs xm xb xt xc
  refine z_aload_n (pc := 0) dX3_tear_0 0 rfl ?_
  refine z_get (pc := 1) (q0 := 0) (v := .int (iI ib)) fL_X3_22 dX3_tear_1 rfl rfl ?_
  refine z_callS (pc := 4) (st := []) (st2 := [.int (iI ib)]) (ws2 := [(x, .inr (3, [.ref h, .ref t, .ref k0, .int (iI ib), .ref tp, .ref sh, .ref fi]))]) (c_X3_asNumber l D cI cJ cB cS xa (iI ib) (hb.elim (fun q => Or.inl (by rw [q])) (fun q => Or.inr (by rw [q])))) mS_X3_asNumber kM_X3_67 dX3_tear_4 [] rfl rfl rfl rfl rfl rfl rfl rfl ⟨Nat.le_of_ble_eq_true rfl, Nat.le_of_ble_eq_true rfl, Nat.le_of_ble_eq_true rfl⟩ ?_
  refine z_istore_n (pc := 7) (lv2 := [(1, .int (iI ib)), (0, .ref x)]) dX3_tear_7 rfl (by decide) rfl ?_
  refine z_aload_n (pc := 8) dX3_tear_8 1 rfl ?_
  refine z_iconst (pc := 9) dX3_tear_9 ?_
  refine z_put (pc := 10) (q0 := 0) (ws2 := [(x, .inr (3, [.ref h, .ref t, .ref k0, .int (iI 0), .ref tp, .ref sh, .ref fi]))]) fP_X3_22 dX3_tear_10 rfl (by decide) (by decide) (Nat.le_of_ble_eq_true rfl) rfl ?_
  refine z_iload_n (pc := 13) dX3_tear_13 0 rfl ?_
  exact z_iret (pc := 14) dX3_tear_14 rfl rfl
set_option maxHeartbeats 8000000 in
set_option maxRecDepth 100000 in
theorem c_X3_count (l : Launch) (D : va_G) (cI cJ cB cS : ClassId) (xa : XA) (x h hK hH hM hO t k0 tp sh fi : Nat) (ik : Int32) (g : Gd) (fd : FF) (tb : Nat) (tn to ts te tu : Int) (w : Int) (ok : Ok g) (rw : inr w) : Ct l D cI cJ cB cS xa yX3_count cX3_count 2 (some .int) 1 23 [.ref x, .int (iI w)] [(x, .inr (3, [.ref h, .ref t, .ref k0, .int ik, .ref tp, .ref sh, .ref fi])), (h, oG g hK hH hM hO), (hK, .inl (cI, 8, .inl (aG g 0))), (hH, .inl (cI, 8, .inl (aG g 1))), (hM, .inl (cI, 8, .inl (aG g 2))), (hO, .inl (cI, 8, .inl (aG g 3))), (fi, .inl (cI, 7, .inl (ar fd))), (tp, .inr (2, [.ref tb, .int (iI tn), .int (iI to), .int (iI ts), .int (iI te), .int (iI tu)]))] (some (.int ((opCount g tn fd w).1))) [(x, .inr (3, [.ref h, .ref t, .ref k0, .int ik, .ref tp, .ref sh, .ref fi])), (h, oG g hK hH hM hO), (hK, .inl (cI, 8, .inl (aG g 0))), (hH, .inl (cI, 8, .inl (aG g 1))), (hM, .inl (cI, 8, .inl (aG g 2))), (hO, .inl (cI, 8, .inl (aG g 3))), (fi, .inl (cI, 7, .inl (ar ((opCount g tn fd w).2)))), (tp, .inr (2, [.ref tb, .int (iI tn), .int (iI to), .int (iI ts), .int (iI te), .int (iI tu)]))] := by
  have o0 := ok0 ok
  have o1 := ok1 ok
  have o2 := ok2 ok
  refine CtE.of (own := RX3) (lv := [(0, .ref x), (1, .int (iI w))]) (by decide) rfl rfl (Nat.le_of_ble_eq_true rfl) ?_
  intro xp xe xs xm xb xt xc
  refine z_iload_n (pc := 0) dX3_count_0 1 rfl ?_
  by_cases h1 : 0 ≤ w ∧ w ≤ 3
  · skip
    have h1v : w = 0 ∨ w = 1 ∨ w = 2 ∨ w = 3 := by omega
    rcases h1v with h1v | h1v | h1v | h1v
    · skip
      refine z_tableIn (pc := 1) (tgt := 32) dX3_count_1 (by omega) (by omega) (by omega) (by rw [h1v]; rfl) (by decide) ?_
      refine z_aload_n (pc := 32) dX3_count_32 0 rfl ?_
      refine z_get (pc := 33) (q0 := 0) (v := .ref h) fL_X3_10 dX3_count_33 rfl rfl ?_
      refine z_get (pc := 36) (q0 := 1) (v := .int (iI (g 4 2))) fL_X3_159 dX3_count_36 rfl rfl ?_
      have e9 : opCount g tn fd w = ((iI (g 4 2)), fd) := by
        unfold opCount; try unfold bI
        (repeat' split) <;> first | (exfalso; omega) | contradiction | rfl
      exact z_iret (pc := 39) dX3_count_39 (by rw [e9]) (by rw [e9])
    · skip
      refine z_tableIn (pc := 1) (tgt := 40) dX3_count_1 (by omega) (by omega) (by omega) (by rw [h1v]; rfl) (by decide) ?_
      refine z_aload_n (pc := 40) dX3_count_40 0 rfl ?_
      refine z_get (pc := 41) (q0 := 0) (v := .ref tp) fL_X3_29 dX3_count_41 rfl rfl ?_
      refine z_get (pc := 44) (q0 := 7) (v := .int (iI tn)) fL_X3_175 dX3_count_44 rfl rfl ?_
      have e9 : opCount g tn fd w = ((iI tn), fd) := by
        unfold opCount; try unfold bI
        (repeat' split) <;> first | (exfalso; omega) | contradiction | rfl
      exact z_iret (pc := 47) dX3_count_47 (by rw [e9]) (by rw [e9])
    · skip
      refine z_tableIn (pc := 1) (tgt := 48) dX3_count_1 (by omega) (by omega) (by omega) (by rw [h1v]; rfl) (by decide) ?_
      refine z_aload_n (pc := 48) dX3_count_48 0 rfl ?_
      refine z_aload_n (pc := 49) dX3_count_49 0 rfl ?_
      refine z_get (pc := 50) (q0 := 0) (v := .ref h) fL_X3_10 dX3_count_50 rfl rfl ?_
      refine z_get (pc := 53) (q0 := 1) (v := .ref hM) fL_X3_106 dX3_count_53 rfl rfl ?_
      refine z_callV (pc := 56) (st := []) (st2 := [.int (iI (sumN (g 2) (many g)))]) (ws2 := [(x, .inr (3, [.ref h, .ref t, .ref k0, .int ik, .ref tp, .ref sh, .ref fi])), (h, oG g hK hH hM hO), (hK, .inl (cI, 8, .inl (aG g 0))), (hH, .inl (cI, 8, .inl (aG g 1))), (hM, .inl (cI, 8, .inl (aG g 2))), (hO, .inl (cI, 8, .inl (aG g 3))), (fi, .inl (cI, 7, .inl (ar fd))), (tp, .inr (2, [.ref tb, .int (iI tn), .int (iI to), .int (iI ts), .int (iI te), .int (iI tu)]))]) (q0 := 0) (c_X3_sumOf l D cI cJ cB cS xa x h hK hH hM hO t k0 tp sh fi ik g hM 2 ok) mV_X3_sumOf kM_X3_77 dX3_count_56 rfl rfl [0, 1, 4] rfl rfl rfl rfl rfl rfl rfl rfl ⟨Nat.le_of_ble_eq_true rfl, Nat.le_of_ble_eq_true rfl, Nat.le_of_ble_eq_true rfl⟩ ?_
      have e9 : opCount g tn fd w = ((iI (sumN (g 2) (many g))), fd) := by
        unfold opCount; try unfold bI
        (repeat' split) <;> first | (exfalso; omega) | contradiction | rfl
      exact z_iret (pc := 59) dX3_count_59 (by rw [e9]) (by rw [e9])
    · skip
      refine z_tableIn (pc := 1) (tgt := 60) dX3_count_1 (by omega) (by omega) (by omega) (by rw [h1v]; rfl) (by decide) ?_
      refine z_ldc (pc := 60) (n := 100000) kC_X3_109 dX3_count_60 (by decide) ?_
      refine z_aload_n (pc := 62) dX3_count_62 0 rfl ?_
      refine z_aload_n (pc := 63) dX3_count_63 0 rfl ?_
      refine z_get (pc := 64) (q0 := 0) (v := .ref h) fL_X3_10 dX3_count_64 rfl rfl ?_
      refine z_get (pc := 67) (q0 := 1) (v := .ref hO) fL_X3_110 dX3_count_67 rfl rfl ?_
      refine z_callV (pc := 70) (st := [.int (iI 100000)]) (st2 := [.int (iI (sumN (g 3) (many g))), .int (iI 100000)]) (ws2 := [(x, .inr (3, [.ref h, .ref t, .ref k0, .int ik, .ref tp, .ref sh, .ref fi])), (h, oG g hK hH hM hO), (hK, .inl (cI, 8, .inl (aG g 0))), (hH, .inl (cI, 8, .inl (aG g 1))), (hM, .inl (cI, 8, .inl (aG g 2))), (hO, .inl (cI, 8, .inl (aG g 3))), (fi, .inl (cI, 7, .inl (ar fd))), (tp, .inr (2, [.ref tb, .int (iI tn), .int (iI to), .int (iI ts), .int (iI te), .int (iI tu)]))]) (q0 := 0) (c_X3_sumOf l D cI cJ cB cS xa x h hK hH hM hO t k0 tp sh fi ik g hO 3 ok) mV_X3_sumOf kM_X3_77 dX3_count_70 rfl rfl [0, 1, 5] rfl rfl rfl rfl rfl rfl rfl rfl ⟨Nat.le_of_ble_eq_true rfl, Nat.le_of_ble_eq_true rfl, Nat.le_of_ble_eq_true rfl⟩ ?_
      refine z_iadd (pc := 73) dX3_count_73 ?_
      have e9 : opCount g tn fd w = ((iI (100000 + (sumN (g 3) (many g)))), fd) := by
        unfold opCount; try unfold bI
        (repeat' split) <;> first | (exfalso; omega) | contradiction | rfl
      exact z_iret (pc := 74) dX3_count_74 (by rw [e9]) (by rw [e9])
  · skip
    refine z_tableOut (pc := 1) (tgt := 75) dX3_count_1 (by omega) (by omega) (by decide) ?_
    refine z_aload_n (pc := 75) dX3_count_75 0 rfl ?_
    refine z_iconst (pc := 76) dX3_count_76 ?_
    refine z_callV (pc := 77) (st := []) (st2 := [.int (iI (-1000000001 - 0))]) (ws2 := [(x, .inr (3, [.ref h, .ref t, .ref k0, .int ik, .ref tp, .ref sh, .ref fi])), (h, oG g hK hH hM hO), (hK, .inl (cI, 8, .inl (aG g 0))), (hH, .inl (cI, 8, .inl (aG g 1))), (hM, .inl (cI, 8, .inl (aG g 2))), (hO, .inl (cI, 8, .inl (aG g 3))), (fi, .inl (cI, 7, .inl (ar (fnd fd 0)))), (tp, .inr (2, [.ref tb, .int (iI tn), .int (iI to), .int (iI ts), .int (iI te), .int (iI tu)]))]) (q0 := 0) (c_X3_found l D cI cJ cB cS xa x h t k0 tp sh fi ik fd 0 (by omega)) mV_X3_found kM_X3_48 dX3_count_77 rfl rfl [0, 6] rfl rfl rfl rfl rfl rfl rfl rfl ⟨Nat.le_of_ble_eq_true rfl, Nat.le_of_ble_eq_true rfl, Nat.le_of_ble_eq_true rfl⟩ ?_
    have e9 : opCount g tn fd w = ((iI (-1000000001 - 0)), fnd fd 0) := by
      unfold opCount; try unfold bI
      (repeat' split) <;> first | (exfalso; omega) | contradiction | rfl
    exact z_iret (pc := 80) dX3_count_80 (by rw [e9]) (by rw [e9])
set_option maxHeartbeats 8000000 in
set_option maxRecDepth 100000 in
theorem c_X3_status (l : Launch) (D : va_G) (cI cJ cB cS : ClassId) (xa : XA) (x h t k0 tp sh fi : Nat) (ik : Int32) (fd : FF) (w : Int) (rw : inr w) : Ct l D cI cJ cB cS xa yX3_status cX3_status 7 (some .int) 1 22 [.ref x, .int (iI w)] [(x, .inr (3, [.ref h, .ref t, .ref k0, .int ik, .ref tp, .ref sh, .ref fi])), (fi, .inl (cI, 7, .inl (ar fd)))] (some (.int ((opStatus fd w).1))) [(x, .inr (3, [.ref h, .ref t, .ref k0, .int ik, .ref tp, .ref sh, .ref fi])), (fi, .inl (cI, 7, .inl (ar ((opStatus fd w).2))))] := by
  refine CtE.of (own := RX3) (lv := [(0, .ref x), (1, .int (iI w))]) (by decide) rfl rfl (Nat.le_of_ble_eq_true rfl) ?_
  intro xp xe xs xm xb xt xc
  refine z_iload_n (pc := 0) dX3_status_0 1 rfl ?_
  refine z_iconst (pc := 1) dX3_status_1 ?_
  refine z_icmp_ne (pc := 2) (tgt := 45) dX3_status_2 (by decide) (by omega) (by omega) (fun h2 => ?_) (fun h2 => ?_)
  · skip
    refine z_iload_n (pc := 45) dX3_status_45 1 rfl ?_
    refine z_iconst (pc := 46) dX3_status_46 ?_
    refine z_bipush (pc := 47) dX3_status_47 (by decide) ?_
    refine z_callS (pc := 49) (st := []) (st2 := [.int (bI (0 ≤ w ∧ w ≤ 6))]) (ws2 := [(x, .inr (3, [.ref h, .ref t, .ref k0, .int ik, .ref tp, .ref sh, .ref fi])), (fi, .inl (cI, 7, .inl (ar fd)))]) (c_X3_within l D cI cJ cB cS xa w 0 6 (by omega) (by omega) (by omega)) mS_X3_within kM_X3_44 dX3_status_49 [] rfl rfl rfl rfl rfl rfl rfl rfl ⟨Nat.le_of_ble_eq_true rfl, Nat.le_of_ble_eq_true rfl, Nat.le_of_ble_eq_true rfl⟩ ?_
    refine z_ifb_ne (pc := 52) (tgt := 61) dX3_status_52 (by decide) (fun h52 => ?_) (fun h52 => ?_)
    · skip
      refine z_aload_n (pc := 61) dX3_status_61 0 rfl ?_
      refine z_get (pc := 62) (q0 := 0) (v := .ref fi) fL_X3_40 dX3_status_62 rfl rfl ?_
      refine z_iload_n (pc := 65) dX3_status_65 1 rfl ?_
      refine z_iald (pc := 66) (q0 := 1) (v := (iI (fd w))) dX3_status_66 rfl (by omega) (by decide) (ar_at (by omega)) ?_
      have e9 : opStatus fd w = ((iI (fd w)), fd) := by
        unfold opStatus; rw [if_pos (by omega), if_neg (by omega)]
      exact z_iret (pc := 67) dX3_status_67 (by rw [e9]) (by rw [e9])
    · skip
      refine z_aload_n (pc := 55) dX3_status_55 0 rfl ?_
      refine z_iconst (pc := 56) dX3_status_56 ?_
      refine z_callV (pc := 57) (st := []) (st2 := [.int (iI (-1000000001 - 0))]) (ws2 := [(x, .inr (3, [.ref h, .ref t, .ref k0, .int ik, .ref tp, .ref sh, .ref fi])), (fi, .inl (cI, 7, .inl (ar (fnd fd 0))))]) (q0 := 0) (c_X3_found l D cI cJ cB cS xa x h t k0 tp sh fi ik fd 0 (by omega)) mV_X3_found kM_X3_48 dX3_status_57 rfl rfl [0, 1] rfl rfl rfl rfl rfl rfl rfl rfl ⟨Nat.le_of_ble_eq_true rfl, Nat.le_of_ble_eq_true rfl, Nat.le_of_ble_eq_true rfl⟩ ?_
      have e9 : opStatus fd w = ((iI (-1000000001 - 0)), fnd fd 0) := by
        unfold opStatus; try unfold bI
        (repeat' split) <;> first | (exfalso; omega) | contradiction | rfl
      exact z_iret (pc := 60) dX3_status_60 (by rw [e9]) (by rw [e9])
  · skip
    refine z_iconst (pc := 5) dX3_status_5 ?_
    refine z_istore_n (pc := 6) (lv2 := [(2, .int (iI 0)), (0, .ref x), (1, .int (iI w))]) dX3_status_6 rfl (by decide) rfl ?_
    refine z_aload_n (pc := 7) dX3_status_7 1 rfl ?_
    refine z_get (pc := 8) (q0 := 0) (v := .ref fi) fL_X3_40 dX3_status_8 rfl rfl ?_
    refine z_astore_n (pc := 11) (lv2 := [(3, .ref fi), (2, .int (iI 0)), (0, .ref x), (1, .int (iI w))]) dX3_status_11 rfl (by decide) rfl ?_
    refine z_aload_n (pc := 12) dX3_status_12 0 rfl ?_
    refine z_alen_i (pc := 13) (q0 := 1) dX3_status_13 rfl ?_
    refine z_istore (pc := 14) (lv2 := [(4, .int (iI 7)), (3, .ref fi), (2, .int (iI 0)), (0, .ref x), (1, .int (iI w))]) dX3_status_14 (by decide) rfl ?_
    refine z_iconst (pc := 16) dX3_status_16 ?_
    refine z_istore (pc := 17) (lv2 := [(5, .int (iI 0)), (4, .int (iI 7)), (3, .ref fi), (2, .int (iI 0)), (0, .ref x), (1, .int (iI w))]) dX3_status_17 (by decide) rfl ?_
    have LP19 : ∀ (nn_ : Nat) (i : Int) (b : Int), (0 ≤ i) → (i ≤ 7) → (b = sumN fd i.toNat) → (7 - i).toNat < nn_ → Z xp l xe { frames := 1, cells := 0, slots := 0, locals := 22 } xs xm ([.ref x, .int (iI w)] : List Value).toArray xb xt xc 0 0 (MQ xb (Cq (S := Unit) D [(x, .inr (3, [.ref h, .ref t, .ref k0, .int ik, .ref tp, .ref sh, .ref fi])), (fi, .inl (cI, 7, .inl (ar fd)))] (fun _ => True) (fun _ => (some (.int ((opStatus fd w).1)))) (fun _ => [(x, .inr (3, [.ref h, .ref t, .ref k0, .int ik, .ref tp, .ref sh, .ref fi])), (fi, .inl (cI, 7, .inl (ar ((opStatus fd w).2))))])) ([.ref x, .int (iI w)] : List Value).toArray xs 0 0 (va_A0 [(x, .inr (3, [.ref h, .ref t, .ref k0, .int ik, .ref tp, .ref sh, .ref fi])), (fi, .inl (cI, 7, .inl (ar fd)))])) cX3_status RX3 7 (some .int) D cI cJ cB cS xa (va_A0 [(x, .inr (3, [.ref h, .ref t, .ref k0, .int ik, .ref tp, .ref sh, .ref fi])), (fi, .inl (cI, 7, .inl (ar fd)))]) [(x, .inr (3, [.ref h, .ref t, .ref k0, .int ik, .ref tp, .ref sh, .ref fi])), (fi, .inl (cI, 7, .inl (ar fd)))] [(0, .ref x), (1, .int (iI w)), (2, .int (iI b)), (3, .ref fi), (4, .int (iI 7)), (5, .int (iI i))] 19 [] := by
      intro nn_
      induction nn_ with
      | zero => intro i b hi0 hi1 hb hms; exact absurd hms (Nat.not_lt_zero _)
      | succ nn_ ih =>
        intro i b hi0 hi1 hb hms
        have ih19 := ih
        clear ih
        refine z_iload (pc := 19) dX3_status_19 5 rfl ?_
        refine z_iload (pc := 21) dX3_status_21 4 rfl ?_
        refine z_icmp_ge (pc := 23) (tgt := 43) dX3_status_23 (by decide) (by omega) (by omega) (fun h23 => ?_) (fun h23 => ?_)
        · skip
          obtain rfl : i = 7 := by omega
          refine z_iload_n (pc := 43) dX3_status_43 2 rfl ?_
          have e9 : opStatus fd w = ((iI b), fd) := by
            unfold opStatus; rw [if_pos (by omega), if_pos (by omega), show (7 : Nat) = Int.toNat 7 from rfl, ← hb]
          exact z_iret (pc := 44) dX3_status_44 (by rw [e9]) (by rw [e9])
        · skip
          refine z_aload_n (pc := 26) dX3_status_26 3 rfl ?_
          refine z_iload (pc := 27) dX3_status_27 5 rfl ?_
          refine z_iald (pc := 29) (q0 := 1) (v := (iI (fd i))) dX3_status_29 rfl (by omega) (by decide) (ar_at (by omega)) ?_
          refine z_istore (pc := 30) (lv2 := [(6, .int (iI (fd i))), (0, .ref x), (1, .int (iI w)), (2, .int (iI b)), (3, .ref fi), (4, .int (iI 7)), (5, .int (iI i))]) dX3_status_30 (by decide) rfl ?_
          refine z_iload_n (pc := 32) dX3_status_32 3 rfl ?_
          refine z_iload (pc := 33) dX3_status_33 0 rfl ?_
          refine z_iadd (pc := 35) dX3_status_35 ?_
          refine z_istore_n (pc := 36) (lv2 := [(2, .int (iI (b + (fd i)))), (6, .int (iI (fd i))), (0, .ref x), (1, .int (iI w)), (3, .ref fi), (4, .int (iI 7)), (5, .int (iI i))]) dX3_status_36 rfl (by decide) rfl ?_
          refine z_iinc (pc := 37) (lv2 := [(5, .int (iI (i + 1))), (2, .int (iI (b + (fd i)))), (6, .int (iI (fd i))), (0, .ref x), (1, .int (iI w)), (3, .ref fi), (4, .int (iI 7))]) dX3_status_37 6 rfl (by decide) rfl ?_
          refine z_goto (pc := 40) (tgt := 19) dX3_status_40 (by decide) ?_
          refine z_lv (lv2 := [(0, .ref x), (1, .int (iI w)), (2, .int (iI (b + (fd i)))), (3, .ref fi), (4, .int (iI 7)), (5, .int (iI (i + 1)))]) [3, 4, 1, 5, 6, 0] rfl ?_
          exact ih19 (i + 1) (b + (fd i)) (by omega) (by omega) (by rw [sumN_s _ hi0, ← hb]) (by omega)
    refine z_lv (lv2 := [(0, .ref x), (1, .int (iI w)), (2, .int (iI 0)), (3, .ref fi), (4, .int (iI 7)), (5, .int (iI 0))]) [4, 5, 3, 2, 1, 0] rfl ?_
    exact LP19 _ 0 0 (by omega) (by omega) (by rfl) (Nat.lt_succ_self _)
set_option maxHeartbeats 8000000 in
set_option maxRecDepth 100000 in
theorem c_X3_wipe (l : Launch) (D : va_G) (cI cJ cB cS : ClassId) (xa : XA) (x h t k0 tp sh fi : Nat) (ik : Int32) (tb : Nat) (tn to ts te tu : Int)  : Ct l D cI cJ cB cS xa yX3_wipe cX3_wipe 2 (some .int) 0 0 [.ref x] [(x, .inr (3, [.ref h, .ref t, .ref k0, .int ik, .ref tp, .ref sh, .ref fi])), (tp, .inr (2, [.ref tb, .int (iI tn), .int (iI to), .int (iI ts), .int (iI te), .int (iI tu)]))] (some (.int (iI tn))) [(x, .inr (3, [.ref h, .ref t, .ref k0, .int ik, .ref tp, .ref sh, .ref fi])), (tp, .inr (2, [.ref tb, .int (iI 0), .int (iI to), .int (iI ts), .int (iI te), .int (iI tu)]))] := by
  refine CtE.of (own := RX3) (lv := [(0, .ref x)]) (by decide) rfl rfl (Nat.le_of_ble_eq_true rfl) ?_
  intro xp xe xs xm xb xt xc
  refine z_aload_n (pc := 0) dX3_wipe_0 0 rfl ?_
  refine z_get (pc := 1) (q0 := 0) (v := .ref tp) fL_X3_29 dX3_wipe_1 rfl rfl ?_
  refine z_get (pc := 4) (q0 := 1) (v := .int (iI tn)) fL_X3_175 dX3_wipe_4 rfl rfl ?_
  refine z_istore_n (pc := 7) (lv2 := [(1, .int (iI tn)), (0, .ref x)]) dX3_wipe_7 rfl (by decide) rfl ?_
  refine z_aload_n (pc := 8) dX3_wipe_8 1 rfl ?_
  refine z_get (pc := 9) (q0 := 0) (v := .ref tp) fL_X3_29 dX3_wipe_9 rfl rfl ?_
  refine z_iconst (pc := 12) dX3_wipe_12 ?_
  refine z_put (pc := 13) (q0 := 1) (ws2 := [(x, .inr (3, [.ref h, .ref t, .ref k0, .int ik, .ref tp, .ref sh, .ref fi])), (tp, .inr (2, [.ref tb, .int (iI 0), .int (iI to), .int (iI ts), .int (iI te), .int (iI tu)]))]) fP_X3_175 dX3_wipe_13 rfl rfl rfl (Nat.le_of_ble_eq_true rfl) rfl ?_
  refine z_iload_n (pc := 16) dX3_wipe_16 0 rfl ?_
  exact z_iret (pc := 17) dX3_wipe_17 rfl rfl
set_option maxHeartbeats 8000000 in
set_option maxRecDepth 100000 in
theorem c_X2_hasRoomFor (l : Launch) (D : va_G) (cI cJ cB cS : ClassId) (xa : XA) (tp : Nat) (tb : Nat) (tn to ts te tu : Int) (n : Int) (hn : 1 ≤ n ∧ n ≤ 4) (htn : 0 ≤ tn ∧ tn ≤ 120) : Ct l D cI cJ cB cS xa yX2_hasRoomFor cX2_hasRoomFor 2 (some .boolean) 0 0 [.ref tp, .int (iI n)] [(tp, .inr (2, [.ref tb, .int (iI tn), .int (iI to), .int (iI ts), .int (iI te), .int (iI tu)]))] (some (.int (bI (tn + n ≤ 120)))) [(tp, .inr (2, [.ref tb, .int (iI tn), .int (iI to), .int (iI ts), .int (iI te), .int (iI tu)]))] := by
  refine CtE.of (own := RX2) (lv := [(0, .ref tp), (1, .int (iI n))]) (by decide) rfl rfl (Nat.le_of_ble_eq_true rfl) ?_
  intro xp xe xs xm xb xt xc
  refine z_aload_n (pc := 0) dX2_hasRoomFor_0 0 rfl ?_
  refine z_get (pc := 1) (q0 := 0) (v := .int (iI tn)) fL_X2_15 dX2_hasRoomFor_1 rfl rfl ?_
  refine z_bipush (pc := 4) dX2_hasRoomFor_4 (by decide) ?_
  refine z_iload_n (pc := 6) dX2_hasRoomFor_6 1 rfl ?_
  refine z_isub (pc := 7) dX2_hasRoomFor_7 ?_
  refine z_icmp_gt (pc := 8) (tgt := 15) dX2_hasRoomFor_8 (by decide) (by omega) (by omega) (fun h8 => ?_) (fun h8 => ?_)
  · skip
    refine z_iconst (pc := 15) dX2_hasRoomFor_15 ?_
    exact z_zret (pc := 16) (by decide) dX2_hasRoomFor_16 (congrArg (fun z => some (Value.int z)) (bI_f (by omega))) rfl
  · skip
    refine z_iconst (pc := 11) dX2_hasRoomFor_11 ?_
    refine z_goto (pc := 12) (tgt := 16) dX2_hasRoomFor_12 (by decide) ?_
    exact z_zret (pc := 16) (by decide) dX2_hasRoomFor_16 (congrArg (fun z => some (Value.int z)) (bI_t (by omega))) rfl
set_option maxHeartbeats 8000000 in
set_option maxRecDepth 100000 in
theorem c_X2_append (l : Launch) (D : va_G) (cI cJ cB cS : ClassId) (xa : XA) (tp : Nat) (tb : Nat) (tn to ts te tu : Int) (tc : FF) (v : Int) (hv : 0 ≤ v ∧ v < 256) (htn : 0 ≤ tn ∧ tn < 120) : Ct l D cI cJ cB cS xa yX2_append cX2_append 2 none 0 0 [.ref tp, .int (iI (sb v))] [(tp, .inr (2, [.ref tb, .int (iI tn), .int (iI to), .int (iI ts), .int (iI te), .int (iI tu)])), (tb, .inl (cB, 120, .inl (tbA tc)))] none [(tp, .inr (2, [.ref tb, .int (iI (tn + 1)), .int (iI to), .int (iI ts), .int (iI te), .int (iI tu)])), (tb, .inl (cB, 120, .inl (tbA (up1 tc tn v))))] := by
  refine CtE.of (own := RX2) (lv := [(0, .ref tp), (1, .int (iI (sb v)))]) (by decide) rfl rfl (Nat.le_of_ble_eq_true rfl) ?_
  intro xp xe xs xm xb xt xc
  refine z_aload_n (pc := 0) dX2_append_0 0 rfl ?_
  refine z_get (pc := 1) (q0 := 0) (v := .ref tb) fL_X2_11 dX2_append_1 rfl rfl ?_
  refine z_aload_n (pc := 4) dX2_append_4 0 rfl ?_
  refine z_get (pc := 5) (q0 := 0) (v := .int (iI tn)) fL_X2_15 dX2_append_5 rfl rfl ?_
  refine z_iload_n (pc := 8) dX2_append_8 1 rfl ?_
  refine z_bast (pc := 9) (q0 := 1) (ws2 := [(tp, .inr (2, [.ref tb, .int (iI tn), .int (iI to), .int (iI ts), .int (iI te), .int (iI tu)])), (tb, .inl (cB, 120, .inl (tbA (up1 tc tn v))))]) dX2_append_9 rfl (by omega) (by decide) (by rw [tbA_up (by omega) (by omega)]; rfl) ?_
  refine z_aload_n (pc := 10) dX2_append_10 0 rfl ?_
  refine z_dup (pc := 11) dX2_append_11 rfl ?_
  refine z_get (pc := 12) (q0 := 0) (v := .int (iI tn)) fL_X2_15 dX2_append_12 rfl rfl ?_
  refine z_iconst (pc := 15) dX2_append_15 ?_
  refine z_iadd (pc := 16) dX2_append_16 ?_
  refine z_put (pc := 17) (q0 := 0) (ws2 := [(tp, .inr (2, [.ref tb, .int (iI (tn + 1)), .int (iI to), .int (iI ts), .int (iI te), .int (iI tu)])), (tb, .inl (cB, 120, .inl (tbA (up1 tc tn v))))]) fP_X2_15 dX2_append_17 rfl rfl rfl (Nat.le_of_ble_eq_true rfl) rfl ?_
  exact z_vret (pc := 20) dX2_append_20 rfl rfl
set_option maxHeartbeats 8000000 in
set_option maxRecDepth 100000 in
theorem c_X3_feed (l : Launch) (D : va_G) (cI cJ cB cS : ClassId) (xa : XA) (x h t k0 tp sh fi : Nat) (ik : Int32) (tb : Nat) (tn to ts te tu : Int) (tc fd : FF) (b n : Int) (rb : inr b) (rn : inr n) (htn : 0 ≤ tn ∧ tn ≤ 120) : Ct l D cI cJ cB cS xa yX3_feed cX3_feed 4 (some .int) 1 22 [.ref x, .int (iI b), .int (iI n)] [(x, .inr (3, [.ref h, .ref t, .ref k0, .int ik, .ref tp, .ref sh, .ref fi])), (fi, .inl (cI, 7, .inl (ar fd))), (tp, .inr (2, [.ref tb, .int (iI tn), .int (iI to), .int (iI ts), .int (iI te), .int (iI tu)])), (tb, .inl (cB, 120, .inl (tbA tc)))] (some (.int ((opFeed tc tn fd b n).1))) [(x, .inr (3, [.ref h, .ref t, .ref k0, .int ik, .ref tp, .ref sh, .ref fi])), (fi, .inl (cI, 7, .inl (ar ((opFeed tc tn fd b n).2.2.2)))), (tp, .inr (2, [.ref tb, .int (iI ((opFeed tc tn fd b n).2.2.1)), .int (iI to), .int (iI ts), .int (iI te), .int (iI tu)])), (tb, .inl (cB, 120, .inl (tbA ((opFeed tc tn fd b n).2.1))))] := by
  refine CtE.of (own := RX3) (lv := [(0, .ref x), (1, .int (iI b)), (2, .int (iI n))]) (by decide) rfl rfl (Nat.le_of_ble_eq_true rfl) ?_
  intro xp xe xs xm xb xt xc
  refine z_iload_n (pc := 0) dX3_feed_0 2 rfl ?_
  refine z_iconst (pc := 1) dX3_feed_1 ?_
  refine z_iconst (pc := 2) dX3_feed_2 ?_
  refine z_callS (pc := 3) (st := []) (st2 := [.int (bI (1 ≤ n ∧ n ≤ 4))]) (ws2 := [(x, .inr (3, [.ref h, .ref t, .ref k0, .int ik, .ref tp, .ref sh, .ref fi])), (fi, .inl (cI, 7, .inl (ar fd))), (tp, .inr (2, [.ref tb, .int (iI tn), .int (iI to), .int (iI ts), .int (iI te), .int (iI tu)])), (tb, .inl (cB, 120, .inl (tbA tc)))]) (c_X3_within l D cI cJ cB cS xa n 1 4 (by omega) (by omega) (by omega)) mS_X3_within kM_X3_44 dX3_feed_3 [] rfl rfl rfl rfl rfl rfl rfl rfl ⟨Nat.le_of_ble_eq_true rfl, Nat.le_of_ble_eq_true rfl, Nat.le_of_ble_eq_true rfl⟩ ?_
  refine z_ifb_ne (pc := 6) (tgt := 15) dX3_feed_6 (by decide) (fun h6 => ?_) (fun h6 => ?_)
  · skip
    refine z_aload_n (pc := 15) dX3_feed_15 0 rfl ?_
    refine z_get (pc := 16) (q0 := 0) (v := .ref tp) fL_X3_29 dX3_feed_16 rfl rfl ?_
    refine z_iload_n (pc := 19) dX3_feed_19 2 rfl ?_
    refine z_callV (pc := 20) (st := []) (st2 := [.int (bI (tn + n ≤ 120))]) (ws2 := [(x, .inr (3, [.ref h, .ref t, .ref k0, .int ik, .ref tp, .ref sh, .ref fi])), (fi, .inl (cI, 7, .inl (ar fd))), (tp, .inr (2, [.ref tb, .int (iI tn), .int (iI to), .int (iI ts), .int (iI te), .int (iI tu)])), (tb, .inl (cB, 120, .inl (tbA tc)))]) (q0 := 2) (c_X2_hasRoomFor l D cI cJ cB cS xa tp tb tn to ts te tu n (by omega) (by omega)) mV_X2_hasRoomFor kM_X3_168 dX3_feed_20 rfl rfl [2] rfl rfl rfl rfl rfl rfl rfl rfl ⟨Nat.le_of_ble_eq_true rfl, Nat.le_of_ble_eq_true rfl, Nat.le_of_ble_eq_true rfl⟩ ?_
    refine z_ifb_ne (pc := 23) (tgt := 32) dX3_feed_23 (by decide) (fun h23 => ?_) (fun h23 => ?_)
    · skip
      refine z_iload_n (pc := 32) dX3_feed_32 2 rfl ?_
      refine z_iconst (pc := 33) dX3_feed_33 ?_
      refine z_isub (pc := 34) dX3_feed_34 ?_
      refine z_istore_n (pc := 35) (lv2 := [(3, .int (iI (n - 1))), (0, .ref x), (1, .int (iI b)), (2, .int (iI n))]) dX3_feed_35 rfl (by decide) rfl ?_
      have LP36 : ∀ (nn_ : Nat) (k : Int) (tc2 : FF) (tn2 : Int), (-1 ≤ k ∧ k ≤ 3) → (0 ≤ tn2 ∧ tn2 + k + 1 = tn + n) → (feedT tc2 tn2 b (k + 1).toNat = feedT tc tn b (Int.toNat n)) → (k + 1).toNat < nn_ → Z xp l xe { frames := 1, cells := 0, slots := 0, locals := 22 } xs xm ([.ref x, .int (iI b), .int (iI n)] : List Value).toArray xb xt xc 0 0 (MQ xb (Cq (S := Unit) D [(x, .inr (3, [.ref h, .ref t, .ref k0, .int ik, .ref tp, .ref sh, .ref fi])), (fi, .inl (cI, 7, .inl (ar fd))), (tp, .inr (2, [.ref tb, .int (iI tn), .int (iI to), .int (iI ts), .int (iI te), .int (iI tu)])), (tb, .inl (cB, 120, .inl (tbA tc)))] (fun _ => True) (fun _ => (some (.int ((opFeed tc tn fd b n).1)))) (fun _ => [(x, .inr (3, [.ref h, .ref t, .ref k0, .int ik, .ref tp, .ref sh, .ref fi])), (fi, .inl (cI, 7, .inl (ar ((opFeed tc tn fd b n).2.2.2)))), (tp, .inr (2, [.ref tb, .int (iI ((opFeed tc tn fd b n).2.2.1)), .int (iI to), .int (iI ts), .int (iI te), .int (iI tu)])), (tb, .inl (cB, 120, .inl (tbA ((opFeed tc tn fd b n).2.1))))])) ([.ref x, .int (iI b), .int (iI n)] : List Value).toArray xs 0 0 (va_A0 [(x, .inr (3, [.ref h, .ref t, .ref k0, .int ik, .ref tp, .ref sh, .ref fi])), (fi, .inl (cI, 7, .inl (ar fd))), (tp, .inr (2, [.ref tb, .int (iI tn), .int (iI to), .int (iI ts), .int (iI te), .int (iI tu)])), (tb, .inl (cB, 120, .inl (tbA tc)))])) cX3_feed RX3 4 (some .int) D cI cJ cB cS xa (va_A0 [(x, .inr (3, [.ref h, .ref t, .ref k0, .int ik, .ref tp, .ref sh, .ref fi])), (fi, .inl (cI, 7, .inl (ar fd))), (tp, .inr (2, [.ref tb, .int (iI tn), .int (iI to), .int (iI ts), .int (iI te), .int (iI tu)])), (tb, .inl (cB, 120, .inl (tbA tc)))]) [(x, .inr (3, [.ref h, .ref t, .ref k0, .int ik, .ref tp, .ref sh, .ref fi])), (fi, .inl (cI, 7, .inl (ar fd))), (tp, .inr (2, [.ref tb, .int (iI tn2), .int (iI to), .int (iI ts), .int (iI te), .int (iI tu)])), (tb, .inl (cB, 120, .inl (tbA tc2)))] [(0, .ref x), (1, .int (iI b)), (2, .int (iI n)), (3, .int (iI k))] 36 [] := by
        intro nn_
        induction nn_ with
        | zero => intro k tc2 tn2 hk hn2 ht hms; exact absurd hms (Nat.not_lt_zero _)
        | succ nn_ ih =>
          intro k tc2 tn2 hk hn2 ht hms
          have ih36 := ih
          clear ih
          refine z_iload_n (pc := 36) dX3_feed_36 3 rfl ?_
          refine z_if_lt (pc := 37) (tgt := 60) dX3_feed_37 (by decide) (by omega) (fun h37 => ?_) (fun h37 => ?_)
          · skip
            refine z_aload_n (pc := 60) dX3_feed_60 0 rfl ?_
            refine z_get (pc := 61) (q0 := 0) (v := .ref tp) fL_X3_29 dX3_feed_61 rfl rfl ?_
            refine z_get (pc := 64) (q0 := 2) (v := .int (iI tn2)) fL_X3_175 dX3_feed_64 rfl rfl ?_
            have e9 : opFeed tc tn fd b n = ((iI tn2), tc2, tn2, fd) := by
              have hz : k = -1 := by omega
              subst hz
              have ht2 : tc2 = feedT tc tn b (Int.toNat n) := ht
              obtain rfl : tn2 = tn + n := by omega
              unfold opFeed; rw [if_pos (by omega), if_pos (by omega), ht2]
            exact z_iret (pc := 67) dX3_feed_67 (by rw [e9]) (by rw [e9])
          · skip
            refine z_aload_n (pc := 40) dX3_feed_40 0 rfl ?_
            refine z_get (pc := 41) (q0 := 0) (v := .ref tp) fL_X3_29 dX3_feed_41 rfl rfl ?_
            refine z_iload_n (pc := 44) dX3_feed_44 1 rfl ?_
            refine z_bipush (pc := 45) dX3_feed_45 (by decide) ?_
            refine z_iload_n (pc := 47) dX3_feed_47 3 rfl ?_
            refine z_imul (pc := 48) dX3_feed_48 ?_
            refine z_ishr (pc := 49) dX3_feed_49 ?_
            refine z_i2b (pc := 50) dX3_feed_50 ?_
            refine z_st (st2 := [.int (iI (sb (byt b k))), .ref tp]) (by rw [byt_i2b rb (by omega)]) ?_
            have rby := byt_rng b k
            refine z_callV (pc := 51) (st := []) (st2 := []) (ws2 := [(x, .inr (3, [.ref h, .ref t, .ref k0, .int ik, .ref tp, .ref sh, .ref fi])), (fi, .inl (cI, 7, .inl (ar fd))), (tp, .inr (2, [.ref tb, .int (iI (tn2 + 1)), .int (iI to), .int (iI ts), .int (iI te), .int (iI tu)])), (tb, .inl (cB, 120, .inl (tbA (up1 tc2 tn2 (byt b k)))))]) (q0 := 2) (c_X2_append l D cI cJ cB cS xa tp tb tn2 to ts te tu tc2 (byt b k) (by omega) (by omega)) mV_X2_append kM_X3_171 dX3_feed_51 rfl rfl [2, 3] rfl rfl rfl rfl rfl rfl rfl rfl ⟨Nat.le_of_ble_eq_true rfl, Nat.le_of_ble_eq_true rfl, Nat.le_of_ble_eq_true rfl⟩ ?_
            refine z_iinc (pc := 54) (lv2 := [(3, .int (iI (k + (-1)))), (0, .ref x), (1, .int (iI b)), (2, .int (iI n))]) dX3_feed_54 3 rfl (by decide) rfl ?_
            refine z_goto (pc := 57) (tgt := 36) dX3_feed_57 (by decide) ?_
            refine z_lv (lv2 := [(0, .ref x), (1, .int (iI b)), (2, .int (iI n)), (3, .int (iI (k + (-1))))]) [1, 2, 3, 0] rfl ?_
            exact ih36 (k + (-1)) (up1 tc2 tn2 (byt b k)) (tn2 + 1) (by omega) (by omega) (by rw [show k + (-1) + 1 = k by omega, ← ht, feedT_s _ _ _ (by omega)]) (by omega)
      refine z_lv (lv2 := [(0, .ref x), (1, .int (iI b)), (2, .int (iI n)), (3, .int (iI (n - 1)))]) [1, 2, 3, 0] rfl ?_
      exact LP36 _ (n - 1) tc tn (by omega) (by omega) (by rw [show n - 1 + 1 = n by omega]) (Nat.lt_succ_self _)
    · skip
      refine z_aload_n (pc := 26) dX3_feed_26 0 rfl ?_
      refine z_iconst (pc := 27) dX3_feed_27 ?_
      refine z_callV (pc := 28) (st := []) (st2 := [.int (iI (-1000000001 - 1))]) (ws2 := [(x, .inr (3, [.ref h, .ref t, .ref k0, .int ik, .ref tp, .ref sh, .ref fi])), (fi, .inl (cI, 7, .inl (ar (fnd fd 1)))), (tp, .inr (2, [.ref tb, .int (iI tn), .int (iI to), .int (iI ts), .int (iI te), .int (iI tu)])), (tb, .inl (cB, 120, .inl (tbA tc)))]) (q0 := 0) (c_X3_found l D cI cJ cB cS xa x h t k0 tp sh fi ik fd 1 (by omega)) mV_X3_found kM_X3_48 dX3_feed_28 rfl rfl [0, 1] rfl rfl rfl rfl rfl rfl rfl rfl ⟨Nat.le_of_ble_eq_true rfl, Nat.le_of_ble_eq_true rfl, Nat.le_of_ble_eq_true rfl⟩ ?_
      have e9 : opFeed tc tn fd b n = ((iI (-1000000001 - 1)), tc, tn, fnd fd 1) := by
        unfold opFeed; try unfold bI
        (repeat' split) <;> first | (exfalso; omega) | contradiction | rfl
      exact z_iret (pc := 31) dX3_feed_31 (by rw [e9]) (by rw [e9])
  · skip
    refine z_aload_n (pc := 9) dX3_feed_9 0 rfl ?_
    refine z_iconst (pc := 10) dX3_feed_10 ?_
    refine z_callV (pc := 11) (st := []) (st2 := [.int (iI (-1000000001 - 0))]) (ws2 := [(x, .inr (3, [.ref h, .ref t, .ref k0, .int ik, .ref tp, .ref sh, .ref fi])), (fi, .inl (cI, 7, .inl (ar (fnd fd 0)))), (tp, .inr (2, [.ref tb, .int (iI tn), .int (iI to), .int (iI ts), .int (iI te), .int (iI tu)])), (tb, .inl (cB, 120, .inl (tbA tc)))]) (q0 := 0) (c_X3_found l D cI cJ cB cS xa x h t k0 tp sh fi ik fd 0 (by omega)) mV_X3_found kM_X3_48 dX3_feed_11 rfl rfl [0, 1] rfl rfl rfl rfl rfl rfl rfl rfl ⟨Nat.le_of_ble_eq_true rfl, Nat.le_of_ble_eq_true rfl, Nat.le_of_ble_eq_true rfl⟩ ?_
    have e9 : opFeed tc tn fd b n = ((iI (-1000000001 - 0)), tc, tn, fnd fd 0) := by
      unfold opFeed; try unfold bI
      (repeat' split) <;> first | (exfalso; omega) | contradiction | rfl
    exact z_iret (pc := 14) dX3_feed_14 (by rw [e9]) (by rw [e9])
