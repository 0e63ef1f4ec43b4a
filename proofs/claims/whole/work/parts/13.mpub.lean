set_option maxHeartbeats 8000000 in
set_option maxRecDepth 100000 in
theorem c_X4_dark (l : Launch) (D : va_G) (cI cJ cB cS : ClassId) (xa : XA) (m mR mF mT mB mTp mBo mSo mSh mLe mIm mBf : Nat) (tn so be te va : Int) (wd : Int64) (gd ik : Int32) (g : Gd) (fd : FF) (v : Int) (ok : Ok g) (rv : inr v) : Ct l D cI cJ cB cS xa yX4_dark cX4_dark 2 (some .int) 1 23 [.ref m, .int (iI v)] [(m, .inr (4, [.ref mR, .ref mF, .ref mT, .ref mB, .ref mTp, .int (iI tn), .int (iI so), .int (iI be), .int (iI te), .long wd, .int (iI va), .int gd, .ref mBo, .ref mSo, .ref mSh, .ref mLe, .ref mIm, .ref mBf, .int ik])), (mR, .inl (cI, 35, .inl (rowA g))), (mF, .inl (cI, 7, .inl (ar fd)))] (some (.int ((opDark g fd v).1))) [(m, .inr (4, [.ref mR, .ref mF, .ref mT, .ref mB, .ref mTp, .int (iI tn), .int (iI so), .int (iI be), .int (iI te), .long wd, .int (iI va), .int gd, .ref mBo, .ref mSo, .ref mSh, .ref mLe, .ref mIm, .ref mBf, .int ik])), (mR, .inl (cI, 35, .inl (rowA ((opDark g fd v).2.1)))), (mF, .inl (cI, 7, .inl (ar ((opDark g fd v).2.2))))] := by
  have o0 := ok0 ok
  have o1 := ok1 ok
  have o2 := ok2 ok
  refine CtE.of (own := RX4) (lv := [(0, .ref m), (1, .int (iI v))]) (by decide) rfl rfl (Nat.le_of_ble_eq_true rfl) ?_
  intro xp xe xs xm xb xt xc
  refine z_iload_n (pc := 0) dX4_dark_0 1 rfl ?_
  refine z_iconst (pc := 1) dX4_dark_1 ?_
  refine z_bipush (pc := 2) dX4_dark_2 (by decide) ?_
  refine z_callS (pc := 4) (st := []) (st2 := [.int (bI (0 ≤ v ∧ v ≤ 59))]) (ws2 := [(m, .inr (4, [.ref mR, .ref mF, .ref mT, .ref mB, .ref mTp, .int (iI tn), .int (iI so), .int (iI be), .int (iI te), .long wd, .int (iI va), .int gd, .ref mBo, .ref mSo, .ref mSh, .ref mLe, .ref mIm, .ref mBf, .int ik])), (mR, .inl (cI, 35, .inl (rowA g))), (mF, .inl (cI, 7, .inl (ar fd)))]) (c_X4_in l D cI cJ cB cS xa v 0 59 (by omega) (by omega) (by omega)) mS_X4_in kM_X4_45 dX4_dark_4 [] rfl rfl rfl rfl rfl rfl rfl rfl ⟨Nat.le_of_ble_eq_true rfl, Nat.le_of_ble_eq_true rfl, Nat.le_of_ble_eq_true rfl⟩ ?_
  refine z_ifb_eq (pc := 7) (tgt := 19) dX4_dark_7 (by decide) (fun h7 => ?_) (fun h7 => ?_)
  · skip
    refine z_aload_n (pc := 19) dX4_dark_19 0 rfl ?_
    refine z_ldc (pc := 20) (n := -1000000001) kC_X4_44 dX4_dark_20 (by decide) ?_
    refine z_callV (pc := 22) (st := []) (st2 := [.int (iI (-1000000001))]) (ws2 := [(m, .inr (4, [.ref mR, .ref mF, .ref mT, .ref mB, .ref mTp, .int (iI tn), .int (iI so), .int (iI be), .int (iI te), .long wd, .int (iI va), .int gd, .ref mBo, .ref mSo, .ref mSh, .ref mLe, .ref mIm, .ref mBf, .int ik])), (mR, .inl (cI, 35, .inl (rowA g))), (mF, .inl (cI, 7, .inl (ar (fnd fd 0))))]) (q0 := 0) (c_X4_finds l D cI cJ cB cS xa m mR mF mT mB mTp mBo mSo mSh mLe mIm mBf tn so be te va wd gd ik fd (-1000000001) 0 (by omega) (by omega)) mV_X4_finds kM_X4_53 dX4_dark_22 rfl rfl [0, 2] rfl rfl rfl rfl rfl rfl rfl rfl ⟨Nat.le_of_ble_eq_true rfl, Nat.le_of_ble_eq_true rfl, Nat.le_of_ble_eq_true rfl⟩ ?_
    have e9 : opDark g fd v = ((iI (-1000000001)), g, fnd fd 0) := by
      unfold opDark; try unfold bI
      (repeat' split) <;> first | (exfalso; omega) | contradiction | rfl
    exact z_iret (pc := 25) dX4_dark_25 (by rw [e9]) (by rw [e9])
  · skip
    refine z_aload_n (pc := 10) dX4_dark_10 0 rfl ?_
    refine z_iconst (pc := 11) dX4_dark_11 ?_
    refine z_iload_n (pc := 12) dX4_dark_12 1 rfl ?_
    refine z_callV (pc := 13) (st := []) (st2 := [.int ((rowA g) (Int.toNat 1))]) (ws2 := [(m, .inr (4, [.ref mR, .ref mF, .ref mT, .ref mB, .ref mTp, .int (iI tn), .int (iI so), .int (iI be), .int (iI te), .long wd, .int (iI va), .int gd, .ref mBo, .ref mSo, .ref mSh, .ref mLe, .ref mIm, .ref mBf, .int ik])), (mR, .inl (cI, 35, .inl (upd (rowA g) (Int.toNat 1) (iI v)))), (mF, .inl (cI, 7, .inl (ar fd)))]) (q0 := 0) (c_X4_becomes l D cI cJ cB cS xa m mR mF mT mB mTp mBo mSo mSh mLe mIm mBf tn so be te va wd gd ik (rowA g) 1 v (by omega)) mV_X4_becomes kM_X4_49 dX4_dark_13 rfl rfl [0, 1] rfl rfl rfl rfl rfl rfl rfl rfl ⟨Nat.le_of_ble_eq_true rfl, Nat.le_of_ble_eq_true rfl, Nat.le_of_ble_eq_true rfl⟩ ?_
    refine z_goto (pc := 16) (tgt := 25) dX4_dark_16 (by decide) ?_
    refine z_st (st2 := [.int (iI (g 4 1))]) (by rw [rowA_4 (z := 1) (by decide) (by decide)]) ?_
    refine z_ws (ws2 := [(m, .inr (4, [.ref mR, .ref mF, .ref mT, .ref mB, .ref mTp, .int (iI tn), .int (iI so), .int (iI be), .int (iI te), .long wd, .int (iI va), .int gd, .ref mBo, .ref mSo, .ref mSh, .ref mLe, .ref mIm, .ref mBf, .int ik])), (mR, .inl (cI, 35, .inl (rowA (up2 g 4 1 v)))), (mF, .inl (cI, 7, .inl (ar fd)))]) (by rw [rowA_up4 (z := 1) (by decide) (by decide)]) ?_
    have e9 : opDark g fd v = ((iI (g 4 1)), up2 g 4 1 v, fd) := by
      unfold opDark; try unfold bI
      (repeat' split) <;> first | (exfalso; omega) | contradiction | rfl
    exact z_iret (pc := 25) dX4_dark_25 (by rw [e9]) (by rw [e9])
set_option maxHeartbeats 8000000 in
set_option maxRecDepth 100000 in
theorem c_X4_now (l : Launch) (D : va_G) (cI cJ cB cS : ClassId) (xa : XA) (m mR mF mT mB mTp mBo mSo mSh mLe mIm mBf : Nat) (tn so be te va : Int) (wd : Int64) (gd ik : Int32) (g : Gd) (fd : FF) (w : Int) (ok : Ok g) (rw : inr w) : Ct l D cI cJ cB cS xa yX4_now cX4_now 2 (some .int) 3 65 [.ref m, .int (iI w)] [(m, .inr (4, [.ref mR, .ref mF, .ref mT, .ref mB, .ref mTp, .int (iI tn), .int (iI so), .int (iI be), .int (iI te), .long wd, .int (iI va), .int gd, .ref mBo, .ref mSo, .ref mSh, .ref mLe, .ref mIm, .ref mBf, .int ik])), (mR, .inl (cI, 35, .inl (rowA g))), (mF, .inl (cI, 7, .inl (ar fd)))] (some (.int ((opNow g fd w).1))) [(m, .inr (4, [.ref mR, .ref mF, .ref mT, .ref mB, .ref mTp, .int (iI tn), .int (iI so), .int (iI be), .int (iI te), .long wd, .int (iI va), .int gd, .ref mBo, .ref mSo, .ref mSh, .ref mLe, .ref mIm, .ref mBf, .int ik])), (mR, .inl (cI, 35, .inl (rowA g))), (mF, .inl (cI, 7, .inl (ar ((opNow g fd w).2))))] := by
  have o0 := ok0 ok
  have o1 := ok1 ok
  have o2 := ok2 ok
  refine CtE.of (own := RX4) (lv := [(0, .ref m), (1, .int (iI w))]) (by decide) rfl rfl (Nat.le_of_ble_eq_true rfl) ?_
  intro xp xe xs xm xb xt xc
  refine z_iload_n (pc := 0) dX4_now_0 1 rfl ?_
  by_cases h1 : 0 ≤ w ∧ w ≤ 7
  · skip
    have h1v : w = 0 ∨ w = 1 ∨ w = 2 ∨ w = 3 ∨ w = 4 ∨ w = 5 ∨ w = 6 ∨ w = 7 := by omega
    rcases h1v with h1v | h1v | h1v | h1v | h1v | h1v | h1v | h1v
    · skip
      refine z_tableIn (pc := 1) (tgt := 48) dX4_now_1 (by omega) (by omega) (by omega) (by rw [h1v]; rfl) (by decide) ?_
      refine z_aload_n (pc := 48) dX4_now_48 0 rfl ?_
      refine z_get (pc := 49) (q0 := 0) (v := .ref mR) fL_X4_7 dX4_now_49 rfl rfl ?_
      refine z_iconst (pc := 52) dX4_now_52 ?_
      refine z_iald (pc := 53) (q0 := 1) (v := (iI (g 4 0))) dX4_now_53 rfl (by omega) (by decide) (rowA_4 (by decide) (by decide)) ?_
      have e9 : opNow g fd w = ((iI (g 4 0)), fd) := by
        unfold opNow; try unfold bI
        (repeat' split) <;> first | (exfalso; omega) | contradiction | rfl
      exact z_iret (pc := 54) dX4_now_54 (by rw [e9]) (by rw [e9])
    · skip
      refine z_tableIn (pc := 1) (tgt := 55) dX4_now_1 (by omega) (by omega) (by omega) (by rw [h1v]; rfl) (by decide) ?_
      refine z_aload_n (pc := 55) dX4_now_55 0 rfl ?_
      refine z_get (pc := 56) (q0 := 0) (v := .ref mR) fL_X4_7 dX4_now_56 rfl rfl ?_
      refine z_iconst (pc := 59) dX4_now_59 ?_
      refine z_iald (pc := 60) (q0 := 1) (v := (iI (g 4 0))) dX4_now_60 rfl (by omega) (by decide) (rowA_4 (by decide) (by decide)) ?_
      refine z_bipush (pc := 61) dX4_now_61 (by decide) ?_
      refine z_irem (pc := 63) dX4_now_63 (by omega) ?_
      have e9 : opNow g fd w = ((iI ((g 4 0) % 60)), fd) := by
        unfold opNow; try unfold bI
        (repeat' split) <;> first | (exfalso; omega) | contradiction | rfl
      exact z_iret (pc := 64) dX4_now_64 (by rw [e9]) (by rw [e9])
    · skip
      refine z_tableIn (pc := 1) (tgt := 65) dX4_now_1 (by omega) (by omega) (by omega) (by rw [h1v]; rfl) (by decide) ?_
      refine z_aload_n (pc := 65) dX4_now_65 0 rfl ?_
      refine z_callV (pc := 66) (st := []) (st2 := [.int (bI (dusk g))]) (ws2 := [(m, .inr (4, [.ref mR, .ref mF, .ref mT, .ref mB, .ref mTp, .int (iI tn), .int (iI so), .int (iI be), .int (iI te), .long wd, .int (iI va), .int gd, .ref mBo, .ref mSo, .ref mSh, .ref mLe, .ref mIm, .ref mBf, .int ik])), (mR, .inl (cI, 35, .inl (rowA g))), (mF, .inl (cI, 7, .inl (ar fd)))]) (q0 := 0) (c_X4_isDusk l D cI cJ cB cS xa m mR mF mT mB mTp mBo mSo mSh mLe mIm mBf tn so be te va wd gd ik g ok) mV_X4_isDusk kM_X4_67 dX4_now_66 rfl rfl [0, 1] rfl rfl rfl rfl rfl rfl rfl rfl ⟨Nat.le_of_ble_eq_true rfl, Nat.le_of_ble_eq_true rfl, Nat.le_of_ble_eq_true rfl⟩ ?_
      refine z_ifb_eq (pc := 69) (tgt := 76) dX4_now_69 (by decide) (fun h69 => ?_) (fun h69 => ?_)
      · skip
        refine z_iconst (pc := 76) dX4_now_76 ?_
        have e9 : opNow g fd w = ((iI 0), fd) := by
          unfold opNow; try unfold bI
          (repeat' split) <;> first | (exfalso; omega) | contradiction | rfl
        exact z_iret (pc := 77) dX4_now_77 (by rw [e9]) (by rw [e9])
      · skip
        refine z_iconst (pc := 72) dX4_now_72 ?_
        refine z_goto (pc := 73) (tgt := 77) dX4_now_73 (by decide) ?_
        have e9 : opNow g fd w = ((iI 1), fd) := by
          unfold opNow; try unfold bI
          (repeat' split) <;> first | (exfalso; omega) | contradiction | rfl
        exact z_iret (pc := 77) dX4_now_77 (by rw [e9]) (by rw [e9])
    · skip
      refine z_tableIn (pc := 1) (tgt := 78) dX4_now_1 (by omega) (by omega) (by omega) (by rw [h1v]; rfl) (by decide) ?_
      refine z_aload_n (pc := 78) dX4_now_78 0 rfl ?_
      refine z_callV (pc := 79) (st := []) (st2 := [.int (bI (satur g))]) (ws2 := [(m, .inr (4, [.ref mR, .ref mF, .ref mT, .ref mB, .ref mTp, .int (iI tn), .int (iI so), .int (iI be), .int (iI te), .long wd, .int (iI va), .int gd, .ref mBo, .ref mSo, .ref mSh, .ref mLe, .ref mIm, .ref mBf, .int ik])), (mR, .inl (cI, 35, .inl (rowA g))), (mF, .inl (cI, 7, .inl (ar fd)))]) (q0 := 0) (c_X4_isSaturday l D cI cJ cB cS xa m mR mF mT mB mTp mBo mSo mSh mLe mIm mBf tn so be te va wd gd ik g ok) mV_X4_isSaturday kM_X4_71 dX4_now_79 rfl rfl [0, 1] rfl rfl rfl rfl rfl rfl rfl rfl ⟨Nat.le_of_ble_eq_true rfl, Nat.le_of_ble_eq_true rfl, Nat.le_of_ble_eq_true rfl⟩ ?_
      refine z_ifb_eq (pc := 82) (tgt := 89) dX4_now_82 (by decide) (fun h82 => ?_) (fun h82 => ?_)
      · skip
        refine z_iconst (pc := 89) dX4_now_89 ?_
        have e9 : opNow g fd w = ((iI 0), fd) := by
          unfold opNow; try unfold bI
          (repeat' split) <;> first | (exfalso; omega) | contradiction | rfl
        exact z_iret (pc := 90) dX4_now_90 (by rw [e9]) (by rw [e9])
      · skip
        refine z_iconst (pc := 85) dX4_now_85 ?_
        refine z_goto (pc := 86) (tgt := 90) dX4_now_86 (by decide) ?_
        have e9 : opNow g fd w = ((iI 1), fd) := by
          unfold opNow; try unfold bI
          (repeat' split) <;> first | (exfalso; omega) | contradiction | rfl
        exact z_iret (pc := 90) dX4_now_90 (by rw [e9]) (by rw [e9])
    · skip
      refine z_tableIn (pc := 1) (tgt := 91) dX4_now_1 (by omega) (by omega) (by omega) (by rw [h1v]; rfl) (by decide) ?_
      refine z_aload_n (pc := 91) dX4_now_91 0 rfl ?_
      refine z_iconst (pc := 92) dX4_now_92 ?_
      refine z_callV (pc := 93) (st := []) (st2 := [.int (iI (sumN (g 1) (many g)))]) (ws2 := [(m, .inr (4, [.ref mR, .ref mF, .ref mT, .ref mB, .ref mTp, .int (iI tn), .int (iI so), .int (iI be), .int (iI te), .long wd, .int (iI va), .int gd, .ref mBo, .ref mSo, .ref mSh, .ref mLe, .ref mIm, .ref mBf, .int ik])), (mR, .inl (cI, 35, .inl (rowA g))), (mF, .inl (cI, 7, .inl (ar fd)))]) (q0 := 0) (c_X4_sumOf l D cI cJ cB cS xa m mR mF mT mB mTp mBo mSo mSh mLe mIm mBf tn so be te va wd gd ik g 1 ok (by omega)) mV_X4_sumOf kM_X4_74 dX4_now_93 rfl rfl [0, 1] rfl rfl rfl rfl rfl rfl rfl rfl ⟨Nat.le_of_ble_eq_true rfl, Nat.le_of_ble_eq_true rfl, Nat.le_of_ble_eq_true rfl⟩ ?_
      have e9 : opNow g fd w = ((iI (sumN (g 1) (many g))), fd) := by
        unfold opNow; try unfold bI
        (repeat' split) <;> first | (exfalso; omega) | contradiction | rfl
      exact z_iret (pc := 96) dX4_now_96 (by rw [e9]) (by rw [e9])
    · skip
      refine z_tableIn (pc := 1) (tgt := 97) dX4_now_1 (by omega) (by omega) (by omega) (by rw [h1v]; rfl) (by decide) ?_
      refine z_aload_n (pc := 97) dX4_now_97 0 rfl ?_
      refine z_callV (pc := 98) (st := []) (st2 := [.int (iI (diffG g))]) (ws2 := [(m, .inr (4, [.ref mR, .ref mF, .ref mT, .ref mB, .ref mTp, .int (iI tn), .int (iI so), .int (iI be), .int (iI te), .long wd, .int (iI va), .int gd, .ref mBo, .ref mSo, .ref mSh, .ref mLe, .ref mIm, .ref mBf, .int ik])), (mR, .inl (cI, 35, .inl (rowA g))), (mF, .inl (cI, 7, .inl (ar fd)))]) (q0 := 0) (c_X4_difference l D cI cJ cB cS xa m mR mF mT mB mTp mBo mSo mSh mLe mIm mBf tn so be te va wd gd ik g ok) mV_X4_difference kM_X4_77 dX4_now_98 rfl rfl [0, 1] rfl rfl rfl rfl rfl rfl rfl rfl ⟨Nat.le_of_ble_eq_true rfl, Nat.le_of_ble_eq_true rfl, Nat.le_of_ble_eq_true rfl⟩ ?_
      have f98_1 := diffG_rng ok
      refine z_iconst (pc := 101) dX4_now_101 ?_
      refine z_icmp_ge (pc := 102) (tgt := 109) dX4_now_102 (by decide) (by omega) (by omega) (fun h102 => ?_) (fun h102 => ?_)
      · skip
        refine z_iconst (pc := 109) dX4_now_109 ?_
        have e9 : opNow g fd w = ((iI 0), fd) := by
          unfold opNow; try unfold bI
          (repeat' split) <;> first | (exfalso; omega) | contradiction | rfl
        exact z_iret (pc := 110) dX4_now_110 (by rw [e9]) (by rw [e9])
      · skip
        refine z_iconst (pc := 105) dX4_now_105 ?_
        refine z_goto (pc := 106) (tgt := 110) dX4_now_106 (by decide) ?_
        have e9 : opNow g fd w = ((iI 1), fd) := by
          unfold opNow; try unfold bI
          (repeat' split) <;> first | (exfalso; omega) | contradiction | rfl
        exact z_iret (pc := 110) dX4_now_110 (by rw [e9]) (by rw [e9])
    · skip
      refine z_tableIn (pc := 1) (tgt := 111) dX4_now_1 (by omega) (by omega) (by omega) (by rw [h1v]; rfl) (by decide) ?_
      refine z_aload_n (pc := 111) dX4_now_111 0 rfl ?_
      refine z_callV (pc := 112) (st := []) (st2 := [.int (dustN (g 1) (many g))]) (ws2 := [(m, .inr (4, [.ref mR, .ref mF, .ref mT, .ref mB, .ref mTp, .int (iI tn), .int (iI so), .int (iI be), .int (iI te), .long wd, .int (iI va), .int gd, .ref mBo, .ref mSo, .ref mSh, .ref mLe, .ref mIm, .ref mBf, .int ik])), (mR, .inl (cI, 35, .inl (rowA g))), (mF, .inl (cI, 7, .inl (ar fd)))]) (q0 := 0) (c_X4_dustSet l D cI cJ cB cS xa m mR mF mT mB mTp mBo mSo mSh mLe mIm mBf tn so be te va wd gd ik g ok) mV_X4_dustSet kM_X4_80 dX4_now_112 rfl rfl [0, 1] rfl rfl rfl rfl rfl rfl rfl rfl ⟨Nat.le_of_ble_eq_true rfl, Nat.le_of_ble_eq_true rfl, Nat.le_of_ble_eq_true rfl⟩ ?_
      have e9 : opNow g fd w = ((dustN (g 1) (many g)), fd) := by
        unfold opNow; try unfold bI
        (repeat' split) <;> first | (exfalso; omega) | contradiction | rfl
      exact z_iret (pc := 115) dX4_now_115 (by rw [e9]) (by rw [e9])
    · skip
      refine z_tableIn (pc := 1) (tgt := 116) dX4_now_1 (by omega) (by omega) (by omega) (by rw [h1v]; rfl) (by decide) ?_
      refine z_aload_n (pc := 116) dX4_now_116 0 rfl ?_
      refine z_iconst (pc := 117) dX4_now_117 ?_
      refine z_callV (pc := 118) (st := []) (st2 := [.int (iI (highG g))]) (ws2 := [(m, .inr (4, [.ref mR, .ref mF, .ref mT, .ref mB, .ref mTp, .int (iI tn), .int (iI so), .int (iI be), .int (iI te), .long wd, .int (iI va), .int gd, .ref mBo, .ref mSo, .ref mSh, .ref mLe, .ref mIm, .ref mBf, .int ik])), (mR, .inl (cI, 35, .inl (rowA g))), (mF, .inl (cI, 7, .inl (ar fd)))]) (q0 := 0) (c_X4_mostOf l D cI cJ cB cS xa m mR mF mT mB mTp mBo mSo mSh mLe mIm mBf tn so be te va wd gd ik g 1 ok (by omega)) mV_X4_mostOf kM_X4_60 dX4_now_118 rfl rfl [0, 1] rfl rfl rfl rfl rfl rfl rfl rfl ⟨Nat.le_of_ble_eq_true rfl, Nat.le_of_ble_eq_true rfl, Nat.le_of_ble_eq_true rfl⟩ ?_
      have f118_2 := mostG_rng ok 1
      have e9 : opNow g fd w = ((iI (highG g)), fd) := by
        unfold opNow; try unfold bI
        (repeat' split) <;> first | (exfalso; omega) | contradiction | rfl
      exact z_iret (pc := 121) dX4_now_121 (by rw [e9]) (by rw [e9])
  · skip
    refine z_tableOut (pc := 1) (tgt := 122) dX4_now_1 (by omega) (by omega) (by decide) ?_
    refine z_aload_n (pc := 122) dX4_now_122 0 rfl ?_
    refine z_ldc (pc := 123) (n := -1000000001) kC_X4_44 dX4_now_123 (by decide) ?_
    refine z_callV (pc := 125) (st := []) (st2 := [.int (iI (-1000000001))]) (ws2 := [(m, .inr (4, [.ref mR, .ref mF, .ref mT, .ref mB, .ref mTp, .int (iI tn), .int (iI so), .int (iI be), .int (iI te), .long wd, .int (iI va), .int gd, .ref mBo, .ref mSo, .ref mSh, .ref mLe, .ref mIm, .ref mBf, .int ik])), (mR, .inl (cI, 35, .inl (rowA g))), (mF, .inl (cI, 7, .inl (ar (fnd fd 0))))]) (q0 := 0) (c_X4_finds l D cI cJ cB cS xa m mR mF mT mB mTp mBo mSo mSh mLe mIm mBf tn so be te va wd gd ik fd (-1000000001) 0 (by omega) (by omega)) mV_X4_finds kM_X4_53 dX4_now_125 rfl rfl [0, 2] rfl rfl rfl rfl rfl rfl rfl rfl ⟨Nat.le_of_ble_eq_true rfl, Nat.le_of_ble_eq_true rfl, Nat.le_of_ble_eq_true rfl⟩ ?_
    have e9 : opNow g fd w = ((iI (-1000000001)), fnd fd 0) := by
      unfold opNow; try unfold bI
      (repeat' split) <;> first | (exfalso; omega) | contradiction | rfl
    exact z_iret (pc := 128) dX4_now_128 (by rw [e9]) (by rw [e9])
set_option maxHeartbeats 8000000 in
set_option maxRecDepth 100000 in
theorem c_X4_child (l : Launch) (D : va_G) (cI cJ cB cS : ClassId) (xa : XA) (m mR mF mT mB mTp mBo mSo mSh mLe mIm mBf : Nat) (tn so be te va : Int) (wd : Int64) (gd ik : Int32) (g : Gd) (fd : FF) (k : Int) (ok : Ok g) (rk : inr k) : Ct l D cI cJ cB cS xa yX4_child cX4_child 2 (some .int) 2 47 [.ref m, .int (iI k)] [(m, .inr (4, [.ref mR, .ref mF, .ref mT, .ref mB, .ref mTp, .int (iI tn), .int (iI so), .int (iI be), .int (iI te), .long wd, .int (iI va), .int gd, .ref mBo, .ref mSo, .ref mSh, .ref mLe, .ref mIm, .ref mBf, .int ik])), (mR, .inl (cI, 35, .inl (rowA g))), (mF, .inl (cI, 7, .inl (ar fd)))] (some (.int ((opChild g fd k).1))) [(m, .inr (4, [.ref mR, .ref mF, .ref mT, .ref mB, .ref mTp, .int (iI tn), .int (iI so), .int (iI be), .int (iI te), .long wd, .int (iI va), .int gd, .ref mBo, .ref mSo, .ref mSh, .ref mLe, .ref mIm, .ref mBf, .int ik])), (mR, .inl (cI, 35, .inl (rowA ((opChild g fd k).2.1)))), (mF, .inl (cI, 7, .inl (ar ((opChild g fd k).2.2))))] := by
  have o0 := ok0 ok
  have o1 := ok1 ok
  have o2 := ok2 ok
  refine CtE.of (own := RX4) (lv := [(0, .ref m), (1, .int (iI k))]) (by decide) rfl rfl (Nat.le_of_ble_eq_true rfl) ?_
  intro xp xe xs xm xb xt xc
  refine z_iload_n (pc := 0) dX4_child_0 1 rfl ?_
  refine z_callS (pc := 1) (st := []) (st2 := [.int (bI (0 ≤ k ∧ k ≤ 5))]) (ws2 := [(m, .inr (4, [.ref mR, .ref mF, .ref mT, .ref mB, .ref mTp, .int (iI tn), .int (iI so), .int (iI be), .int (iI te), .long wd, .int (iI va), .int gd, .ref mBo, .ref mSo, .ref mSh, .ref mLe, .ref mIm, .ref mBf, .int ik])), (mR, .inl (cI, 35, .inl (rowA g))), (mF, .inl (cI, 7, .inl (ar fd)))]) (c_X4_isKind l D cI cJ cB cS xa k (by omega)) mS_X4_isKind kM_X4_90 dX4_child_1 [] rfl rfl rfl rfl rfl rfl rfl rfl ⟨Nat.le_of_ble_eq_true rfl, Nat.le_of_ble_eq_true rfl, Nat.le_of_ble_eq_true rfl⟩ ?_
  refine z_ifb_ne (pc := 4) (tgt := 14) dX4_child_4 (by decide) (fun h4 => ?_) (fun h4 => ?_)
  · skip
    refine z_aload_n (pc := 14) dX4_child_14 0 rfl ?_
    refine z_get (pc := 15) (q0 := 0) (v := .ref mR) fL_X4_7 dX4_child_15 rfl rfl ?_
    refine z_iconst (pc := 18) dX4_child_18 ?_
    refine z_iald (pc := 19) (q0 := 1) (v := (iI (g 4 2))) dX4_child_19 rfl (by omega) (by decide) (rowA_4 (by decide) (by decide)) ?_
    refine z_bipush (pc := 20) dX4_child_20 (by decide) ?_
    refine z_icmp_ne (pc := 22) (tgt := 32) dX4_child_22 (by decide) (by omega) (by omega) (fun h22 => ?_) (fun h22 => ?_)
    · skip
      refine z_aload_n (pc := 32) dX4_child_32 0 rfl ?_
      refine z_iload_n (pc := 33) dX4_child_33 1 rfl ?_
      refine z_bipush (pc := 34) dX4_child_34 (by decide) ?_
      refine z_iconst (pc := 36) dX4_child_36 ?_
      refine z_callV (pc := 37) (st := []) (st2 := []) (ws2 := [(m, .inr (4, [.ref mR, .ref mF, .ref mT, .ref mB, .ref mTp, .int (iI tn), .int (iI so), .int (iI be), .int (iI te), .long wd, .int (iI va), .int gd, .ref mBo, .ref mSo, .ref mSh, .ref mLe, .ref mIm, .ref mBf, .int ik])), (mR, .inl (cI, 35, .inl (rowA (addG g k 50 5)))), (mF, .inl (cI, 7, .inl (ar fd)))]) (q0 := 0) (c_X4_adds l D cI cJ cB cS xa m mR mF mT mB mTp mBo mSo mSh mLe mIm mBf tn so be te va wd gd ik g k 50 5 ok (by omega) (by omega) (by omega) (by omega)) mV_X4_adds kM_X4_95 dX4_child_37 rfl rfl [0, 1] rfl rfl rfl rfl rfl rfl rfl rfl ⟨Nat.le_of_ble_eq_true rfl, Nat.le_of_ble_eq_true rfl, Nat.le_of_ble_eq_true rfl⟩ ?_
      have ok37_1 : Ok (addG g k 50 5) := addG_ok ok (by omega) (by omega) (by omega) (by omega)
      refine z_aload_n (pc := 40) dX4_child_40 0 rfl ?_
      refine z_get (pc := 41) (q0 := 0) (v := .ref mR) fL_X4_7 dX4_child_41 rfl rfl ?_
      refine z_iconst (pc := 44) dX4_child_44 ?_
      refine z_iald (pc := 45) (q0 := 1) (v := (iI ((addG g k 50 5) 4 2))) dX4_child_45 rfl (by omega) (by decide) (rowA_4 (by decide) (by decide)) ?_
      refine z_st (st2 := [.int (iI (g 4 2 + 1))]) rfl ?_
      refine z_iconst (pc := 46) dX4_child_46 ?_
      refine z_isub (pc := 47) dX4_child_47 ?_
      have e9 : opChild g fd k = ((iI ((g 4 2 + 1) - 1)), addG g k 50 5, fd) := by
        rw [show g 4 2 + 1 - 1 = g 4 2 by omega]
        unfold opChild; try unfold bI
        (repeat' split) <;> first | (exfalso; omega) | contradiction | rfl
      exact z_iret (pc := 48) dX4_child_48 (by rw [e9]) (by rw [e9])
    · skip
      refine z_aload_n (pc := 25) dX4_child_25 0 rfl ?_
      refine z_ldc (pc := 26) (n := -1000000002) kC_X4_94 dX4_child_26 (by decide) ?_
      refine z_callV (pc := 28) (st := []) (st2 := [.int (iI (-1000000002))]) (ws2 := [(m, .inr (4, [.ref mR, .ref mF, .ref mT, .ref mB, .ref mTp, .int (iI tn), .int (iI so), .int (iI be), .int (iI te), .long wd, .int (iI va), .int gd, .ref mBo, .ref mSo, .ref mSh, .ref mLe, .ref mIm, .ref mBf, .int ik])), (mR, .inl (cI, 35, .inl (rowA g))), (mF, .inl (cI, 7, .inl (ar (fnd fd 1))))]) (q0 := 0) (c_X4_finds l D cI cJ cB cS xa m mR mF mT mB mTp mBo mSo mSh mLe mIm mBf tn so be te va wd gd ik fd (-1000000002) 1 (by omega) (by omega)) mV_X4_finds kM_X4_53 dX4_child_28 rfl rfl [0, 2] rfl rfl rfl rfl rfl rfl rfl rfl ⟨Nat.le_of_ble_eq_true rfl, Nat.le_of_ble_eq_true rfl, Nat.le_of_ble_eq_true rfl⟩ ?_
      have e9 : opChild g fd k = ((iI (-1000000002)), g, fnd fd 1) := by
        unfold opChild; try unfold bI
        (repeat' split) <;> first | (exfalso; omega) | contradiction | rfl
      exact z_iret (pc := 31) dX4_child_31 (by rw [e9]) (by rw [e9])
  · skip
    refine z_aload_n (pc := 7) dX4_child_7 0 rfl ?_
    refine z_ldc (pc := 8) (n := -1000000001) kC_X4_44 dX4_child_8 (by decide) ?_
    refine z_callV (pc := 10) (st := []) (st2 := [.int (iI (-1000000001))]) (ws2 := [(m, .inr (4, [.ref mR, .ref mF, .ref mT, .ref mB, .ref mTp, .int (iI tn), .int (iI so), .int (iI be), .int (iI te), .long wd, .int (iI va), .int gd, .ref mBo, .ref mSo, .ref mSh, .ref mLe, .ref mIm, .ref mBf, .int ik])), (mR, .inl (cI, 35, .inl (rowA g))), (mF, .inl (cI, 7, .inl (ar (fnd fd 0))))]) (q0 := 0) (c_X4_finds l D cI cJ cB cS xa m mR mF mT mB mTp mBo mSo mSh mLe mIm mBf tn so be te va wd gd ik fd (-1000000001) 0 (by omega) (by omega)) mV_X4_finds kM_X4_53 dX4_child_10 rfl rfl [0, 2] rfl rfl rfl rfl rfl rfl rfl rfl ⟨Nat.le_of_ble_eq_true rfl, Nat.le_of_ble_eq_true rfl, Nat.le_of_ble_eq_true rfl⟩ ?_
    have e9 : opChild g fd k = ((iI (-1000000001)), g, fnd fd 0) := by
      unfold opChild; try unfold bI
      (repeat' split) <;> first | (exfalso; omega) | contradiction | rfl
    exact z_iret (pc := 13) dX4_child_13 (by rw [e9]) (by rw [e9])
set_option maxHeartbeats 8000000 in
set_option maxRecDepth 100000 in
theorem c_X4_of (l : Launch) (D : va_G) (cI cJ cB cS : ClassId) (xa : XA) (m mR mF mT mB mTp mBo mSo mSh mLe mIm mBf : Nat) (tn so be te va : Int) (wd : Int64) (gd ik : Int32) (g : Gd) (fd : FF) (c w : Int) (ok : Ok g) (rc : inr c) (rw : inr w) : Ct l D cI cJ cB cS xa yX4_of cX4_of 3 (some .int) 2 43 [.ref m, .int (iI c), .int (iI w)] [(m, .inr (4, [.ref mR, .ref mF, .ref mT, .ref mB, .ref mTp, .int (iI tn), .int (iI so), .int (iI be), .int (iI te), .long wd, .int (iI va), .int gd, .ref mBo, .ref mSo, .ref mSh, .ref mLe, .ref mIm, .ref mBf, .int ik])), (mR, .inl (cI, 35, .inl (rowA g))), (mF, .inl (cI, 7, .inl (ar fd)))] (some (.int ((opOf g fd c w).1))) [(m, .inr (4, [.ref mR, .ref mF, .ref mT, .ref mB, .ref mTp, .int (iI tn), .int (iI so), .int (iI be), .int (iI te), .long wd, .int (iI va), .int gd, .ref mBo, .ref mSo, .ref mSh, .ref mLe, .ref mIm, .ref mBf, .int ik])), (mR, .inl (cI, 35, .inl (rowA g))), (mF, .inl (cI, 7, .inl (ar ((opOf g fd c w).2))))] := by
  have o0 := ok0 ok
  have o1 := ok1 ok
  have o2 := ok2 ok
  refine CtE.of (own := RX4) (lv := [(0, .ref m), (1, .int (iI c)), (2, .int (iI w))]) (by decide) rfl rfl (Nat.le_of_ble_eq_true rfl) ?_
  intro xp xe xs xm xb xt xc
  refine z_aload_n (pc := 0) dX4_of_0 0 rfl ?_
  refine z_iload_n (pc := 1) dX4_of_1 1 rfl ?_
  refine z_callV (pc := 2) (st := []) (st2 := [.int (bI (0 ≤ c ∧ c < g 4 2))]) (ws2 := [(m, .inr (4, [.ref mR, .ref mF, .ref mT, .ref mB, .ref mTp, .int (iI tn), .int (iI so), .int (iI be), .int (iI te), .long wd, .int (iI va), .int gd, .ref mBo, .ref mSo, .ref mSh, .ref mLe, .ref mIm, .ref mBf, .int ik])), (mR, .inl (cI, 35, .inl (rowA g))), (mF, .inl (cI, 7, .inl (ar fd)))]) (q0 := 0) (c_X4_isOne l D cI cJ cB cS xa m mR mF mT mB mTp mBo mSo mSh mLe mIm mBf tn so be te va wd gd ik g c ok (by omega)) mV_X4_isOne kM_X4_98 dX4_of_2 rfl rfl [0, 1] rfl rfl rfl rfl rfl rfl rfl rfl ⟨Nat.le_of_ble_eq_true rfl, Nat.le_of_ble_eq_true rfl, Nat.le_of_ble_eq_true rfl⟩ ?_
  refine z_ifb_eq (pc := 5) (tgt := 18) dX4_of_5 (by decide) (fun h5 => ?_) (fun h5 => ?_)
  · skip
    refine z_aload_n (pc := 18) dX4_of_18 0 rfl ?_
    refine z_ldc (pc := 19) (n := -1000000001) kC_X4_44 dX4_of_19 (by decide) ?_
    refine z_callV (pc := 21) (st := []) (st2 := [.int (iI (-1000000001))]) (ws2 := [(m, .inr (4, [.ref mR, .ref mF, .ref mT, .ref mB, .ref mTp, .int (iI tn), .int (iI so), .int (iI be), .int (iI te), .long wd, .int (iI va), .int gd, .ref mBo, .ref mSo, .ref mSh, .ref mLe, .ref mIm, .ref mBf, .int ik])), (mR, .inl (cI, 35, .inl (rowA g))), (mF, .inl (cI, 7, .inl (ar (fnd fd 0))))]) (q0 := 0) (c_X4_finds l D cI cJ cB cS xa m mR mF mT mB mTp mBo mSo mSh mLe mIm mBf tn so be te va wd gd ik fd (-1000000001) 0 (by omega) (by omega)) mV_X4_finds kM_X4_53 dX4_of_21 rfl rfl [0, 2] rfl rfl rfl rfl rfl rfl rfl rfl ⟨Nat.le_of_ble_eq_true rfl, Nat.le_of_ble_eq_true rfl, Nat.le_of_ble_eq_true rfl⟩ ?_
    have e9 : opOf g fd c w = ((iI (-1000000001)), fnd fd 0) := by
      unfold opOf; try unfold bI
      (repeat' split) <;> first | (exfalso; omega) | contradiction | rfl
    exact z_iret (pc := 24) dX4_of_24 (by rw [e9]) (by rw [e9])
  · skip
    refine z_iload_n (pc := 8) dX4_of_8 2 rfl ?_
    refine z_iconst (pc := 9) dX4_of_9 ?_
    refine z_bipush (pc := 10) dX4_of_10 (by decide) ?_
    refine z_callS (pc := 12) (st := []) (st2 := [.int (bI (0 ≤ w ∧ w ≤ 6))]) (ws2 := [(m, .inr (4, [.ref mR, .ref mF, .ref mT, .ref mB, .ref mTp, .int (iI tn), .int (iI so), .int (iI be), .int (iI te), .long wd, .int (iI va), .int gd, .ref mBo, .ref mSo, .ref mSh, .ref mLe, .ref mIm, .ref mBf, .int ik])), (mR, .inl (cI, 35, .inl (rowA g))), (mF, .inl (cI, 7, .inl (ar fd)))]) (c_X4_in l D cI cJ cB cS xa w 0 6 (by omega) (by omega) (by omega)) mS_X4_in kM_X4_45 dX4_of_12 [] rfl rfl rfl rfl rfl rfl rfl rfl ⟨Nat.le_of_ble_eq_true rfl, Nat.le_of_ble_eq_true rfl, Nat.le_of_ble_eq_true rfl⟩ ?_
    refine z_ifb_ne (pc := 15) (tgt := 25) dX4_of_15 (by decide) (fun h15 => ?_) (fun h15 => ?_)
    · skip
      refine z_iload_n (pc := 25) dX4_of_25 2 rfl ?_
      by_cases h26 : 3 ≤ w ∧ w ≤ 6
      · skip
        have h26v : w = 3 ∨ w = 4 ∨ w = 5 ∨ w = 6 := by omega
        rcases h26v with h26v | h26v | h26v | h26v
        · skip
          refine z_tableIn (pc := 26) (tgt := 56) dX4_of_26 (by omega) (by omega) (by omega) (by rw [h26v]; rfl) (by decide) ?_
          refine z_ldc (pc := 56) (n := 100000) kC_X4_101 dX4_of_56 (by decide) ?_
          refine z_aload_n (pc := 58) dX4_of_58 0 rfl ?_
          refine z_iload_n (pc := 59) dX4_of_59 1 rfl ?_
          refine z_iconst (pc := 60) dX4_of_60 ?_
          refine z_callV (pc := 61) (st := [.int (iI 100000)]) (st2 := [.int (iI (g 3 c)), .int (iI 100000)]) (ws2 := [(m, .inr (4, [.ref mR, .ref mF, .ref mT, .ref mB, .ref mTp, .int (iI tn), .int (iI so), .int (iI be), .int (iI te), .long wd, .int (iI va), .int gd, .ref mBo, .ref mSo, .ref mSh, .ref mLe, .ref mIm, .ref mBf, .int ik])), (mR, .inl (cI, 35, .inl (rowA g))), (mF, .inl (cI, 7, .inl (ar fd)))]) (q0 := 0) (c_X4_its l D cI cJ cB cS xa m mR mF mT mB mTp mBo mSo mSh mLe mIm mBf tn so be te va wd gd ik g c 3 (by omega) (by omega)) mV_X4_its kM_X4_57 dX4_of_61 rfl rfl [0, 1] rfl rfl rfl rfl rfl rfl rfl rfl ⟨Nat.le_of_ble_eq_true rfl, Nat.le_of_ble_eq_true rfl, Nat.le_of_ble_eq_true rfl⟩ ?_
          have b1 := okO ok c
          refine z_iadd (pc := 64) dX4_of_64 ?_
          have e9 : opOf g fd c w = ((iI (100000 + (g 3 c))), fd) := by
            unfold opOf; try unfold bI
            (repeat' split) <;> first | (exfalso; omega) | contradiction | rfl
          exact z_iret (pc := 65) dX4_of_65 (by rw [e9]) (by rw [e9])
        · skip
          refine z_tableIn (pc := 26) (tgt := 66) dX4_of_26 (by omega) (by omega) (by omega) (by rw [h26v]; rfl) (by decide) ?_
          refine z_bipush (pc := 66) dX4_of_66 (by decide) ?_
          refine z_aload_n (pc := 68) dX4_of_68 0 rfl ?_
          refine z_iload_n (pc := 69) dX4_of_69 1 rfl ?_
          refine z_callV (pc := 70) (st := [.int (iI 100)]) (st2 := [.int (iI (wantsG g c)), .int (iI 100)]) (ws2 := [(m, .inr (4, [.ref mR, .ref mF, .ref mT, .ref mB, .ref mTp, .int (iI tn), .int (iI so), .int (iI be), .int (iI te), .long wd, .int (iI va), .int gd, .ref mBo, .ref mSo, .ref mSh, .ref mLe, .ref mIm, .ref mBf, .int ik])), (mR, .inl (cI, 35, .inl (rowA g))), (mF, .inl (cI, 7, .inl (ar fd)))]) (q0 := 0) (c_X4_wants l D cI cJ cB cS xa m mR mF mT mB mTp mBo mSo mSh mLe mIm mBf tn so be te va wd gd ik g c ok (by omega) (by omega)) mV_X4_wants kM_X4_102 dX4_of_70 rfl rfl [0, 1] rfl rfl rfl rfl rfl rfl rfl rfl ⟨Nat.le_of_ble_eq_true rfl, Nat.le_of_ble_eq_true rfl, Nat.le_of_ble_eq_true rfl⟩ ?_
          have f70_2 := wantsG_rng g c
          refine z_iadd (pc := 73) dX4_of_73 ?_
          have e9 : opOf g fd c w = ((iI (100 + (wantsG g c))), fd) := by
            unfold opOf; try unfold bI
            (repeat' split) <;> first | (exfalso; omega) | contradiction | rfl
          exact z_iret (pc := 74) dX4_of_74 (by rw [e9]) (by rw [e9])
        · skip
          refine z_tableIn (pc := 26) (tgt := 75) dX4_of_26 (by omega) (by omega) (by omega) (by rw [h26v]; rfl) (by decide) ?_
          refine z_aload_n (pc := 75) dX4_of_75 0 rfl ?_
          refine z_iload_n (pc := 76) dX4_of_76 1 rfl ?_
          refine z_callV (pc := 77) (st := []) (st2 := [.int (iI (paysG g c))]) (ws2 := [(m, .inr (4, [.ref mR, .ref mF, .ref mT, .ref mB, .ref mTp, .int (iI tn), .int (iI so), .int (iI be), .int (iI te), .long wd, .int (iI va), .int gd, .ref mBo, .ref mSo, .ref mSh, .ref mLe, .ref mIm, .ref mBf, .int ik])), (mR, .inl (cI, 35, .inl (rowA g))), (mF, .inl (cI, 7, .inl (ar fd)))]) (q0 := 0) (c_X4_pays l D cI cJ cB cS xa m mR mF mT mB mTp mBo mSo mSh mLe mIm mBf tn so be te va wd gd ik g c ok (by omega)) mV_X4_pays kM_X4_105 dX4_of_77 rfl rfl [0, 1] rfl rfl rfl rfl rfl rfl rfl rfl ⟨Nat.le_of_ble_eq_true rfl, Nat.le_of_ble_eq_true rfl, Nat.le_of_ble_eq_true rfl⟩ ?_
          have f77_3 := paysG_rng g c
          have e9 : opOf g fd c w = ((iI (paysG g c)), fd) := by
            unfold opOf; try unfold bI
            (repeat' split) <;> first | (exfalso; omega) | contradiction | rfl
          exact z_iret (pc := 80) dX4_of_80 (by rw [e9]) (by rw [e9])
        · skip
          refine z_tableIn (pc := 26) (tgt := 81) dX4_of_26 (by omega) (by omega) (by omega) (by rw [h26v]; rfl) (by decide) ?_
          refine z_aload_n (pc := 81) dX4_of_81 0 rfl ?_
          refine z_iload_n (pc := 82) dX4_of_82 1 rfl ?_
          refine z_callV (pc := 83) (st := []) (st2 := [.int (iI (yieldsG g c))]) (ws2 := [(m, .inr (4, [.ref mR, .ref mF, .ref mT, .ref mB, .ref mTp, .int (iI tn), .int (iI so), .int (iI be), .int (iI te), .long wd, .int (iI va), .int gd, .ref mBo, .ref mSo, .ref mSh, .ref mLe, .ref mIm, .ref mBf, .int ik])), (mR, .inl (cI, 35, .inl (rowA g))), (mF, .inl (cI, 7, .inl (ar fd)))]) (q0 := 0) (c_X4_yields l D cI cJ cB cS xa m mR mF mT mB mTp mBo mSo mSh mLe mIm mBf tn so be te va wd gd ik g c ok (by omega) (by omega)) mV_X4_yields kM_X4_108 dX4_of_83 rfl rfl [0, 1] rfl rfl rfl rfl rfl rfl rfl rfl ⟨Nat.le_of_ble_eq_true rfl, Nat.le_of_ble_eq_true rfl, Nat.le_of_ble_eq_true rfl⟩ ?_
          have f83_4 := yieldsG_rng ok c
          have e9 : opOf g fd c w = ((iI (yieldsG g c)), fd) := by
            unfold opOf; try unfold bI
            (repeat' split) <;> first | (exfalso; omega) | contradiction | rfl
          exact z_iret (pc := 86) dX4_of_86 (by rw [e9]) (by rw [e9])
      · skip
        refine z_tableOut (pc := 26) (tgt := 87) dX4_of_26 (by omega) (by omega) (by decide) ?_
        refine z_aload_n (pc := 87) dX4_of_87 0 rfl ?_
        refine z_iload_n (pc := 88) dX4_of_88 1 rfl ?_
        refine z_iload_n (pc := 89) dX4_of_89 2 rfl ?_
        refine z_callV (pc := 90) (st := []) (st2 := [.int (iI (g w c))]) (ws2 := [(m, .inr (4, [.ref mR, .ref mF, .ref mT, .ref mB, .ref mTp, .int (iI tn), .int (iI so), .int (iI be), .int (iI te), .long wd, .int (iI va), .int gd, .ref mBo, .ref mSo, .ref mSh, .ref mLe, .ref mIm, .ref mBf, .int ik])), (mR, .inl (cI, 35, .inl (rowA g))), (mF, .inl (cI, 7, .inl (ar fd)))]) (q0 := 0) (c_X4_its l D cI cJ cB cS xa m mR mF mT mB mTp mBo mSo mSh mLe mIm mBf tn so be te va wd gd ik g c w (by omega) (by omega)) mV_X4_its kM_X4_57 dX4_of_90 rfl rfl [0, 1] rfl rfl rfl rfl rfl rfl rfl rfl ⟨Nat.le_of_ble_eq_true rfl, Nat.le_of_ble_eq_true rfl, Nat.le_of_ble_eq_true rfl⟩ ?_
        have e9 : opOf g fd c w = ((iI (g w c)), fd) := by
          have hw : w = 0 ∨ w = 1 ∨ w = 2 := by omega
          rcases hw with rfl | rfl | rfl
          · unfold opOf; rw [if_pos h5]; rfl
          · unfold opOf; rw [if_pos h5]; rfl
          · unfold opOf; rw [if_pos h5]; rfl
        exact z_iret (pc := 93) dX4_of_93 (by rw [e9]) (by rw [e9])
    · skip
      refine z_aload_n (pc := 18) dX4_of_18 0 rfl ?_
      refine z_ldc (pc := 19) (n := -1000000001) kC_X4_44 dX4_of_19 (by decide) ?_
      refine z_callV (pc := 21) (st := []) (st2 := [.int (iI (-1000000001))]) (ws2 := [(m, .inr (4, [.ref mR, .ref mF, .ref mT, .ref mB, .ref mTp, .int (iI tn), .int (iI so), .int (iI be), .int (iI te), .long wd, .int (iI va), .int gd, .ref mBo, .ref mSo, .ref mSh, .ref mLe, .ref mIm, .ref mBf, .int ik])), (mR, .inl (cI, 35, .inl (rowA g))), (mF, .inl (cI, 7, .inl (ar (fnd fd 0))))]) (q0 := 0) (c_X4_finds l D cI cJ cB cS xa m mR mF mT mB mTp mBo mSo mSh mLe mIm mBf tn so be te va wd gd ik fd (-1000000001) 0 (by omega) (by omega)) mV_X4_finds kM_X4_53 dX4_of_21 rfl rfl [0, 2] rfl rfl rfl rfl rfl rfl rfl rfl ⟨Nat.le_of_ble_eq_true rfl, Nat.le_of_ble_eq_true rfl, Nat.le_of_ble_eq_true rfl⟩ ?_
      have e9 : opOf g fd c w = ((iI (-1000000001)), fnd fd 0) := by
        unfold opOf; try unfold bI
        (repeat' split) <;> first | (exfalso; omega) | contradiction | rfl
      exact z_iret (pc := 24) dX4_of_24 (by rw [e9]) (by rw [e9])
set_option maxHeartbeats 8000000 in
set_option maxRecDepth 100000 in
theorem c_X4_set (l : Launch) (D : va_G) (cI cJ cB cS : ClassId) (xa : XA) (m mR mF mT mB mTp mBo mSo mSh mLe mIm mBf : Nat) (tn so be te va : Int) (wd : Int64) (gd ik : Int32) (g : Gd) (fd : FF) (c w v : Int) (ok : Ok g) (rc : inr c) (rw : inr w) (rv : inr v) : Ct l D cI cJ cB cS xa yX4_set cX4_set 4 (some .int) 2 43 [.ref m, .int (iI c), .int (iI w), .int (iI v)] [(m, .inr (4, [.ref mR, .ref mF, .ref mT, .ref mB, .ref mTp, .int (iI tn), .int (iI so), .int (iI be), .int (iI te), .long wd, .int (iI va), .int gd, .ref mBo, .ref mSo, .ref mSh, .ref mLe, .ref mIm, .ref mBf, .int ik])), (mR, .inl (cI, 35, .inl (rowA g))), (mF, .inl (cI, 7, .inl (ar fd)))] (some (.int ((opSet g fd c w v).1))) [(m, .inr (4, [.ref mR, .ref mF, .ref mT, .ref mB, .ref mTp, .int (iI tn), .int (iI so), .int (iI be), .int (iI te), .long wd, .int (iI va), .int gd, .ref mBo, .ref mSo, .ref mSh, .ref mLe, .ref mIm, .ref mBf, .int ik])), (mR, .inl (cI, 35, .inl (rowA ((opSet g fd c w v).2.1)))), (mF, .inl (cI, 7, .inl (ar ((opSet g fd c w v).2.2))))] := by
  have o0 := ok0 ok
  have o1 := ok1 ok
  have o2 := ok2 ok
  refine CtE.of (own := RX4) (lv := [(0, .ref m), (1, .int (iI c)), (2, .int (iI w)), (3, .int (iI v))]) (by decide) rfl rfl (Nat.le_of_ble_eq_true rfl) ?_
  intro xp xe xs xm xb xt xc
  refine z_aload_n (pc := 0) dX4_set_0 0 rfl ?_
  refine z_iload_n (pc := 1) dX4_set_1 1 rfl ?_
  refine z_callV (pc := 2) (st := []) (st2 := [.int (bI (0 ≤ c ∧ c < g 4 2))]) (ws2 := [(m, .inr (4, [.ref mR, .ref mF, .ref mT, .ref mB, .ref mTp, .int (iI tn), .int (iI so), .int (iI be), .int (iI te), .long wd, .int (iI va), .int gd, .ref mBo, .ref mSo, .ref mSh, .ref mLe, .ref mIm, .ref mBf, .int ik])), (mR, .inl (cI, 35, .inl (rowA g))), (mF, .inl (cI, 7, .inl (ar fd)))]) (q0 := 0) (c_X4_isOne l D cI cJ cB cS xa m mR mF mT mB mTp mBo mSo mSh mLe mIm mBf tn so be te va wd gd ik g c ok (by omega)) mV_X4_isOne kM_X4_98 dX4_set_2 rfl rfl [0, 1] rfl rfl rfl rfl rfl rfl rfl rfl ⟨Nat.le_of_ble_eq_true rfl, Nat.le_of_ble_eq_true rfl, Nat.le_of_ble_eq_true rfl⟩ ?_
  refine z_ifb_eq (pc := 5) (tgt := 31) dX4_set_5 (by decide) (fun h5 => ?_) (fun h5 => ?_)
  · skip
    refine z_aload_n (pc := 31) dX4_set_31 0 rfl ?_
    refine z_ldc (pc := 32) (n := -1000000001) kC_X4_44 dX4_set_32 (by decide) ?_
    refine z_callV (pc := 34) (st := []) (st2 := [.int (iI (-1000000001))]) (ws2 := [(m, .inr (4, [.ref mR, .ref mF, .ref mT, .ref mB, .ref mTp, .int (iI tn), .int (iI so), .int (iI be), .int (iI te), .long wd, .int (iI va), .int gd, .ref mBo, .ref mSo, .ref mSh, .ref mLe, .ref mIm, .ref mBf, .int ik])), (mR, .inl (cI, 35, .inl (rowA g))), (mF, .inl (cI, 7, .inl (ar (fnd fd 0))))]) (q0 := 0) (c_X4_finds l D cI cJ cB cS xa m mR mF mT mB mTp mBo mSo mSh mLe mIm mBf tn so be te va wd gd ik fd (-1000000001) 0 (by omega) (by omega)) mV_X4_finds kM_X4_53 dX4_set_34 rfl rfl [0, 2] rfl rfl rfl rfl rfl rfl rfl rfl ⟨Nat.le_of_ble_eq_true rfl, Nat.le_of_ble_eq_true rfl, Nat.le_of_ble_eq_true rfl⟩ ?_
    have e9 : opSet g fd c w v = ((iI (-1000000001)), g, fnd fd 0) := by
      unfold opSet; try unfold bI
      (repeat' split) <;> first | (exfalso; omega) | contradiction | rfl
    exact z_iret (pc := 37) dX4_set_37 (by rw [e9]) (by rw [e9])
  · skip
    refine z_iload_n (pc := 8) dX4_set_8 2 rfl ?_
    refine z_iload_n (pc := 9) dX4_set_9 3 rfl ?_
    refine z_callS (pc := 10) (st := []) (st2 := [.int (bI ((w = 1 ∧ 0 ≤ v ∧ v ≤ 200) ∨ (w = 2 ∧ 0 ≤ v ∧ v ≤ 99) ∨ (w = 3 ∧ -9999 ≤ v ∧ v ≤ 9999)))]) (ws2 := [(m, .inr (4, [.ref mR, .ref mF, .ref mT, .ref mB, .ref mTp, .int (iI tn), .int (iI so), .int (iI be), .int (iI te), .long wd, .int (iI va), .int gd, .ref mBo, .ref mSo, .ref mSh, .ref mLe, .ref mIm, .ref mBf, .int ik])), (mR, .inl (cI, 35, .inl (rowA g))), (mF, .inl (cI, 7, .inl (ar fd)))]) (c_X4_isPart l D cI cJ cB cS xa w v (by omega) (by omega)) mS_X4_isPart kM_X4_111 dX4_set_10 [] rfl rfl rfl rfl rfl rfl rfl rfl ⟨Nat.le_of_ble_eq_true rfl, Nat.le_of_ble_eq_true rfl, Nat.le_of_ble_eq_true rfl⟩ ?_
    refine z_ifb_eq (pc := 13) (tgt := 31) dX4_set_13 (by decide) (fun h13 => ?_) (fun h13 => ?_)
    · skip
      refine z_aload_n (pc := 31) dX4_set_31 0 rfl ?_
      refine z_ldc (pc := 32) (n := -1000000001) kC_X4_44 dX4_set_32 (by decide) ?_
      refine z_callV (pc := 34) (st := []) (st2 := [.int (iI (-1000000001))]) (ws2 := [(m, .inr (4, [.ref mR, .ref mF, .ref mT, .ref mB, .ref mTp, .int (iI tn), .int (iI so), .int (iI be), .int (iI te), .long wd, .int (iI va), .int gd, .ref mBo, .ref mSo, .ref mSh, .ref mLe, .ref mIm, .ref mBf, .int ik])), (mR, .inl (cI, 35, .inl (rowA g))), (mF, .inl (cI, 7, .inl (ar (fnd fd 0))))]) (q0 := 0) (c_X4_finds l D cI cJ cB cS xa m mR mF mT mB mTp mBo mSo mSh mLe mIm mBf tn so be te va wd gd ik fd (-1000000001) 0 (by omega) (by omega)) mV_X4_finds kM_X4_53 dX4_set_34 rfl rfl [0, 2] rfl rfl rfl rfl rfl rfl rfl rfl ⟨Nat.le_of_ble_eq_true rfl, Nat.le_of_ble_eq_true rfl, Nat.le_of_ble_eq_true rfl⟩ ?_
      have e9 : opSet g fd c w v = ((iI (-1000000001)), g, fnd fd 0) := by
        unfold opSet; try unfold bI
        (repeat' split) <;> first | (exfalso; omega) | contradiction | rfl
      exact z_iret (pc := 37) dX4_set_37 (by rw [e9]) (by rw [e9])
    · skip
      refine z_aload_n (pc := 16) dX4_set_16 0 rfl ?_
      refine z_iconst (pc := 17) dX4_set_17 ?_
      refine z_iconst (pc := 18) dX4_set_18 ?_
      refine z_iload_n (pc := 19) dX4_set_19 1 rfl ?_
      refine z_imul (pc := 20) dX4_set_20 ?_
      refine z_iadd (pc := 21) dX4_set_21 ?_
      refine z_iload_n (pc := 22) dX4_set_22 2 rfl ?_
      refine z_iadd (pc := 23) dX4_set_23 ?_
      refine z_iload_n (pc := 24) dX4_set_24 3 rfl ?_
      refine z_callV (pc := 25) (st := []) (st2 := [.int ((rowA g) (Int.toNat ((3 + (4 * c)) + w)))]) (ws2 := [(m, .inr (4, [.ref mR, .ref mF, .ref mT, .ref mB, .ref mTp, .int (iI tn), .int (iI so), .int (iI be), .int (iI te), .long wd, .int (iI va), .int gd, .ref mBo, .ref mSo, .ref mSh, .ref mLe, .ref mIm, .ref mBf, .int ik])), (mR, .inl (cI, 35, .inl (upd (rowA g) (Int.toNat ((3 + (4 * c)) + w)) (iI v)))), (mF, .inl (cI, 7, .inl (ar fd)))]) (q0 := 0) (c_X4_becomes l D cI cJ cB cS xa m mR mF mT mB mTp mBo mSo mSh mLe mIm mBf tn so be te va wd gd ik (rowA g) ((3 + (4 * c)) + w) v (by omega)) mV_X4_becomes kM_X4_49 dX4_set_25 rfl rfl [0, 1] rfl rfl rfl rfl rfl rfl rfl rfl ⟨Nat.le_of_ble_eq_true rfl, Nat.le_of_ble_eq_true rfl, Nat.le_of_ble_eq_true rfl⟩ ?_
      refine z_goto (pc := 28) (tgt := 37) dX4_set_28 (by decide) ?_
      refine z_st (st2 := [.int (iI (g w c))]) (by rw [rowA_at (w := w) (c := c) (by omega) (by omega) (by omega) (by omega)]) ?_
      refine z_ws (ws2 := [(m, .inr (4, [.ref mR, .ref mF, .ref mT, .ref mB, .ref mTp, .int (iI tn), .int (iI so), .int (iI be), .int (iI te), .long wd, .int (iI va), .int gd, .ref mBo, .ref mSo, .ref mSh, .ref mLe, .ref mIm, .ref mBf, .int ik])), (mR, .inl (cI, 35, .inl (rowA (up2 g w c v)))), (mF, .inl (cI, 7, .inl (ar fd)))]) (by rw [rowA_up (w := w) (c := c) (by omega) (by omega) (by omega) (by omega)]) ?_
      have e9 : opSet g fd c w v = ((iI (g w c)), up2 g w c v, fd) := by
        unfold opSet; try unfold bI
        (repeat' split) <;> first | (exfalso; omega) | contradiction | rfl
      exact z_iret (pc := 37) dX4_set_37 (by rw [e9]) (by rw [e9])
set_option maxHeartbeats 8000000 in
set_option maxRecDepth 100000 in
theorem c_X4_turn (l : Launch) (D : va_G) (cI cJ cB cS : ClassId) (xa : XA) (m mR mF mT mB mTp mBo mSo mSh mLe mIm mBf : Nat) (tn so be te va : Int) (wd : Int64) (gd ik : Int32) (g : Gd) (fd : FF) (c k : Int) (ok : Ok g) (rc : inr c) (rk : inr k) : Ct l D cI cJ cB cS xa yX4_turn cX4_turn 3 (some .int) 2 43 [.ref m, .int (iI c), .int (iI k)] [(m, .inr (4, [.ref mR, .ref mF, .ref mT, .ref mB, .ref mTp, .int (iI tn), .int (iI so), .int (iI be), .int (iI te), .long wd, .int (iI va), .int gd, .ref mBo, .ref mSo, .ref mSh, .ref mLe, .ref mIm, .ref mBf, .int ik])), (mR, .inl (cI, 35, .inl (rowA g))), (mF, .inl (cI, 7, .inl (ar fd)))] (some (.int ((opTurn g fd c k).1))) [(m, .inr (4, [.ref mR, .ref mF, .ref mT, .ref mB, .ref mTp, .int (iI tn), .int (iI so), .int (iI be), .int (iI te), .long wd, .int (iI va), .int gd, .ref mBo, .ref mSo, .ref mSh, .ref mLe, .ref mIm, .ref mBf, .int ik])), (mR, .inl (cI, 35, .inl (rowA ((opTurn g fd c k).2.1)))), (mF, .inl (cI, 7, .inl (ar ((opTurn g fd c k).2.2))))] := by
  have o0 := ok0 ok
  have o1 := ok1 ok
  have o2 := ok2 ok
  refine CtE.of (own := RX4) (lv := [(0, .ref m), (1, .int (iI c)), (2, .int (iI k))]) (by decide) rfl rfl (Nat.le_of_ble_eq_true rfl) ?_
  intro xp xe xs xm xb xt xc
  refine z_aload_n (pc := 0) dX4_turn_0 0 rfl ?_
  refine z_iload_n (pc := 1) dX4_turn_1 1 rfl ?_
  refine z_callV (pc := 2) (st := []) (st2 := [.int (bI (0 ≤ c ∧ c < g 4 2))]) (ws2 := [(m, .inr (4, [.ref mR, .ref mF, .ref mT, .ref mB, .ref mTp, .int (iI tn), .int (iI so), .int (iI be), .int (iI te), .long wd, .int (iI va), .int gd, .ref mBo, .ref mSo, .ref mSh, .ref mLe, .ref mIm, .ref mBf, .int ik])), (mR, .inl (cI, 35, .inl (rowA g))), (mF, .inl (cI, 7, .inl (ar fd)))]) (q0 := 0) (c_X4_isOne l D cI cJ cB cS xa m mR mF mT mB mTp mBo mSo mSh mLe mIm mBf tn so be te va wd gd ik g c ok (by omega)) mV_X4_isOne kM_X4_98 dX4_turn_2 rfl rfl [0, 1] rfl rfl rfl rfl rfl rfl rfl rfl ⟨Nat.le_of_ble_eq_true rfl, Nat.le_of_ble_eq_true rfl, Nat.le_of_ble_eq_true rfl⟩ ?_
  refine z_ifb_eq (pc := 5) (tgt := 28) dX4_turn_5 (by decide) (fun h5 => ?_) (fun h5 => ?_)
  · skip
    refine z_aload_n (pc := 28) dX4_turn_28 0 rfl ?_
    refine z_ldc (pc := 29) (n := -1000000001) kC_X4_44 dX4_turn_29 (by decide) ?_
    refine z_callV (pc := 31) (st := []) (st2 := [.int (iI (-1000000001))]) (ws2 := [(m, .inr (4, [.ref mR, .ref mF, .ref mT, .ref mB, .ref mTp, .int (iI tn), .int (iI so), .int (iI be), .int (iI te), .long wd, .int (iI va), .int gd, .ref mBo, .ref mSo, .ref mSh, .ref mLe, .ref mIm, .ref mBf, .int ik])), (mR, .inl (cI, 35, .inl (rowA g))), (mF, .inl (cI, 7, .inl (ar (fnd fd 0))))]) (q0 := 0) (c_X4_finds l D cI cJ cB cS xa m mR mF mT mB mTp mBo mSo mSh mLe mIm mBf tn so be te va wd gd ik fd (-1000000001) 0 (by omega) (by omega)) mV_X4_finds kM_X4_53 dX4_turn_31 rfl rfl [0, 2] rfl rfl rfl rfl rfl rfl rfl rfl ⟨Nat.le_of_ble_eq_true rfl, Nat.le_of_ble_eq_true rfl, Nat.le_of_ble_eq_true rfl⟩ ?_
    have e9 : opTurn g fd c k = ((iI (-1000000001)), g, fnd fd 0) := by
      unfold opTurn; try unfold bI
      (repeat' split) <;> first | (exfalso; omega) | contradiction | rfl
    exact z_iret (pc := 34) dX4_turn_34 (by rw [e9]) (by rw [e9])
  · skip
    refine z_iload_n (pc := 8) dX4_turn_8 2 rfl ?_
    refine z_callS (pc := 9) (st := []) (st2 := [.int (bI (0 ≤ k ∧ k ≤ 5))]) (ws2 := [(m, .inr (4, [.ref mR, .ref mF, .ref mT, .ref mB, .ref mTp, .int (iI tn), .int (iI so), .int (iI be), .int (iI te), .long wd, .int (iI va), .int gd, .ref mBo, .ref mSo, .ref mSh, .ref mLe, .ref mIm, .ref mBf, .int ik])), (mR, .inl (cI, 35, .inl (rowA g))), (mF, .inl (cI, 7, .inl (ar fd)))]) (c_X4_isKind l D cI cJ cB cS xa k (by omega)) mS_X4_isKind kM_X4_90 dX4_turn_9 [] rfl rfl rfl rfl rfl rfl rfl rfl ⟨Nat.le_of_ble_eq_true rfl, Nat.le_of_ble_eq_true rfl, Nat.le_of_ble_eq_true rfl⟩ ?_
    refine z_ifb_eq (pc := 12) (tgt := 28) dX4_turn_12 (by decide) (fun h12 => ?_) (fun h12 => ?_)
    · skip
      refine z_aload_n (pc := 28) dX4_turn_28 0 rfl ?_
      refine z_ldc (pc := 29) (n := -1000000001) kC_X4_44 dX4_turn_29 (by decide) ?_
      refine z_callV (pc := 31) (st := []) (st2 := [.int (iI (-1000000001))]) (ws2 := [(m, .inr (4, [.ref mR, .ref mF, .ref mT, .ref mB, .ref mTp, .int (iI tn), .int (iI so), .int (iI be), .int (iI te), .long wd, .int (iI va), .int gd, .ref mBo, .ref mSo, .ref mSh, .ref mLe, .ref mIm, .ref mBf, .int ik])), (mR, .inl (cI, 35, .inl (rowA g))), (mF, .inl (cI, 7, .inl (ar (fnd fd 0))))]) (q0 := 0) (c_X4_finds l D cI cJ cB cS xa m mR mF mT mB mTp mBo mSo mSh mLe mIm mBf tn so be te va wd gd ik fd (-1000000001) 0 (by omega) (by omega)) mV_X4_finds kM_X4_53 dX4_turn_31 rfl rfl [0, 2] rfl rfl rfl rfl rfl rfl rfl rfl ⟨Nat.le_of_ble_eq_true rfl, Nat.le_of_ble_eq_true rfl, Nat.le_of_ble_eq_true rfl⟩ ?_
      have e9 : opTurn g fd c k = ((iI (-1000000001)), g, fnd fd 0) := by
        unfold opTurn; try unfold bI
        (repeat' split) <;> first | (exfalso; omega) | contradiction | rfl
      exact z_iret (pc := 34) dX4_turn_34 (by rw [e9]) (by rw [e9])
    · skip
      refine z_aload_n (pc := 15) dX4_turn_15 0 rfl ?_
      refine z_iconst (pc := 16) dX4_turn_16 ?_
      refine z_iconst (pc := 17) dX4_turn_17 ?_
      refine z_iload_n (pc := 18) dX4_turn_18 1 rfl ?_
      refine z_imul (pc := 19) dX4_turn_19 ?_
      refine z_iadd (pc := 20) dX4_turn_20 ?_
      refine z_iload_n (pc := 21) dX4_turn_21 2 rfl ?_
      refine z_callV (pc := 22) (st := []) (st2 := [.int ((rowA g) (Int.toNat (3 + (4 * c))))]) (ws2 := [(m, .inr (4, [.ref mR, .ref mF, .ref mT, .ref mB, .ref mTp, .int (iI tn), .int (iI so), .int (iI be), .int (iI te), .long wd, .int (iI va), .int gd, .ref mBo, .ref mSo, .ref mSh, .ref mLe, .ref mIm, .ref mBf, .int ik])), (mR, .inl (cI, 35, .inl (upd (rowA g) (Int.toNat (3 + (4 * c))) (iI k)))), (mF, .inl (cI, 7, .inl (ar fd)))]) (q0 := 0) (c_X4_becomes l D cI cJ cB cS xa m mR mF mT mB mTp mBo mSo mSh mLe mIm mBf tn so be te va wd gd ik (rowA g) (3 + (4 * c)) k (by omega)) mV_X4_becomes kM_X4_49 dX4_turn_22 rfl rfl [0, 1] rfl rfl rfl rfl rfl rfl rfl rfl ⟨Nat.le_of_ble_eq_true rfl, Nat.le_of_ble_eq_true rfl, Nat.le_of_ble_eq_true rfl⟩ ?_
      refine z_goto (pc := 25) (tgt := 34) dX4_turn_25 (by decide) ?_
      refine z_st (st2 := [.int (iI (g 0 c))]) (by rw [rowA_at (w := 0) (c := c) (by omega) (by omega) (by omega) (by omega)]) ?_
      refine z_ws (ws2 := [(m, .inr (4, [.ref mR, .ref mF, .ref mT, .ref mB, .ref mTp, .int (iI tn), .int (iI so), .int (iI be), .int (iI te), .long wd, .int (iI va), .int gd, .ref mBo, .ref mSo, .ref mSh, .ref mLe, .ref mIm, .ref mBf, .int ik])), (mR, .inl (cI, 35, .inl (rowA (up2 g 0 c k)))), (mF, .inl (cI, 7, .inl (ar fd)))]) (by rw [rowA_up (w := 0) (c := c) (by omega) (by omega) (by omega) (by omega)]) ?_
      have e9 : opTurn g fd c k = ((iI (g 0 c)), up2 g 0 c k, fd) := by
        unfold opTurn; try unfold bI
        (repeat' split) <;> first | (exfalso; omega) | contradiction | rfl
      exact z_iret (pc := 34) dX4_turn_34 (by rw [e9]) (by rw [e9])
set_option maxHeartbeats 8000000 in
set_option maxRecDepth 100000 in
theorem c_X4_as (l : Launch) (D : va_G) (cI cJ cB cS : ClassId) (xa : XA) (m mR mF mT mB mTp mBo mSo mSh mLe mIm mBf : Nat) (tn so be te va : Int) (wd : Int64) (gd ik : Int32) (g : Gd) (fd : FF) (c k : Int) (ok : Ok g) (rc : inr c) (rk : inr k) : Ct l D cI cJ cB cS xa yX4_as cX4_as 5 (some .int) 2 43 [.ref m, .int (iI c), .int (iI k)] [(m, .inr (4, [.ref mR, .ref mF, .ref mT, .ref mB, .ref mTp, .int (iI tn), .int (iI so), .int (iI be), .int (iI te), .long wd, .int (iI va), .int gd, .ref mBo, .ref mSo, .ref mSh, .ref mLe, .ref mIm, .ref mBf, .int ik])), (mR, .inl (cI, 35, .inl (rowA g))), (mF, .inl (cI, 7, .inl (ar fd)))] (some (.int ((opAs g fd c k).1))) [(m, .inr (4, [.ref mR, .ref mF, .ref mT, .ref mB, .ref mTp, .int (iI tn), .int (iI so), .int (iI be), .int (iI te), .long wd, .int (iI va), .int gd, .ref mBo, .ref mSo, .ref mSh, .ref mLe, .ref mIm, .ref mBf, .int ik])), (mR, .inl (cI, 35, .inl (rowA g))), (mF, .inl (cI, 7, .inl (ar ((opAs g fd c k).2))))] := by
  have o0 := ok0 ok
  have o1 := ok1 ok
  have o2 := ok2 ok
  refine CtE.of (own := RX4) (lv := [(0, .ref m), (1, .int (iI c)), (2, .int (iI k))]) (by decide) rfl rfl (Nat.le_of_ble_eq_true rfl) ?_
  intro xp xe xs xm xb xt xc
  refine z_aload_n (pc := 0) dX4_as_0 0 rfl ?_
  refine z_iload_n (pc := 1) dX4_as_1 1 rfl ?_
  refine z_callV (pc := 2) (st := []) (st2 := [.int (bI (0 ≤ c ∧ c < g 4 2))]) (ws2 := [(m, .inr (4, [.ref mR, .ref mF, .ref mT, .ref mB, .ref mTp, .int (iI tn), .int (iI so), .int (iI be), .int (iI te), .long wd, .int (iI va), .int gd, .ref mBo, .ref mSo, .ref mSh, .ref mLe, .ref mIm, .ref mBf, .int ik])), (mR, .inl (cI, 35, .inl (rowA g))), (mF, .inl (cI, 7, .inl (ar fd)))]) (q0 := 0) (c_X4_isOne l D cI cJ cB cS xa m mR mF mT mB mTp mBo mSo mSh mLe mIm mBf tn so be te va wd gd ik g c ok (by omega)) mV_X4_isOne kM_X4_98 dX4_as_2 rfl rfl [0, 1] rfl rfl rfl rfl rfl rfl rfl rfl ⟨Nat.le_of_ble_eq_true rfl, Nat.le_of_ble_eq_true rfl, Nat.le_of_ble_eq_true rfl⟩ ?_
  refine z_ifb_eq (pc := 5) (tgt := 15) dX4_as_5 (by decide) (fun h5 => ?_) (fun h5 => ?_)
  · skip
    refine z_aload_n (pc := 15) dX4_as_15 0 rfl ?_
    refine z_ldc (pc := 16) (n := -1000000001) kC_X4_44 dX4_as_16 (by decide) ?_
    refine z_callV (pc := 18) (st := []) (st2 := [.int (iI (-1000000001))]) (ws2 := [(m, .inr (4, [.ref mR, .ref mF, .ref mT, .ref mB, .ref mTp, .int (iI tn), .int (iI so), .int (iI be), .int (iI te), .long wd, .int (iI va), .int gd, .ref mBo, .ref mSo, .ref mSh, .ref mLe, .ref mIm, .ref mBf, .int ik])), (mR, .inl (cI, 35, .inl (rowA g))), (mF, .inl (cI, 7, .inl (ar (fnd fd 0))))]) (q0 := 0) (c_X4_finds l D cI cJ cB cS xa m mR mF mT mB mTp mBo mSo mSh mLe mIm mBf tn so be te va wd gd ik fd (-1000000001) 0 (by omega) (by omega)) mV_X4_finds kM_X4_53 dX4_as_18 rfl rfl [0, 2] rfl rfl rfl rfl rfl rfl rfl rfl ⟨Nat.le_of_ble_eq_true rfl, Nat.le_of_ble_eq_true rfl, Nat.le_of_ble_eq_true rfl⟩ ?_
    have e9 : opAs g fd c k = ((iI (-1000000001)), fnd fd 0) := by
      unfold opAs; try unfold bI
      (repeat' split) <;> first | (exfalso; omega) | contradiction | rfl
    exact z_iret (pc := 21) dX4_as_21 (by rw [e9]) (by rw [e9])
  · skip
    refine z_iload_n (pc := 8) dX4_as_8 2 rfl ?_
    refine z_callS (pc := 9) (st := []) (st2 := [.int (bI (0 ≤ k ∧ k ≤ 5))]) (ws2 := [(m, .inr (4, [.ref mR, .ref mF, .ref mT, .ref mB, .ref mTp, .int (iI tn), .int (iI so), .int (iI be), .int (iI te), .long wd, .int (iI va), .int gd, .ref mBo, .ref mSo, .ref mSh, .ref mLe, .ref mIm, .ref mBf, .int ik])), (mR, .inl (cI, 35, .inl (rowA g))), (mF, .inl (cI, 7, .inl (ar fd)))]) (c_X4_isKind l D cI cJ cB cS xa k (by omega)) mS_X4_isKind kM_X4_90 dX4_as_9 [] rfl rfl rfl rfl rfl rfl rfl rfl ⟨Nat.le_of_ble_eq_true rfl, Nat.le_of_ble_eq_true rfl, Nat.le_of_ble_eq_true rfl⟩ ?_
    refine z_ifb_ne (pc := 12) (tgt := 22) dX4_as_12 (by decide) (fun h12 => ?_) (fun h12 => ?_)
    · skip
      refine z_aload_n (pc := 22) dX4_as_22 0 rfl ?_
      refine z_iload_n (pc := 23) dX4_as_23 1 rfl ?_
      refine z_iconst (pc := 24) dX4_as_24 ?_
      refine z_callV (pc := 25) (st := []) (st2 := [.int (iI (g 0 c))]) (ws2 := [(m, .inr (4, [.ref mR, .ref mF, .ref mT, .ref mB, .ref mTp, .int (iI tn), .int (iI so), .int (iI be), .int (iI te), .long wd, .int (iI va), .int gd, .ref mBo, .ref mSo, .ref mSh, .ref mLe, .ref mIm, .ref mBf, .int ik])), (mR, .inl (cI, 35, .inl (rowA g))), (mF, .inl (cI, 7, .inl (ar fd)))]) (q0 := 0) (c_X4_its l D cI cJ cB cS xa m mR mF mT mB mTp mBo mSo mSh mLe mIm mBf tn so be te va wd gd ik g c 0 (by omega) (by omega)) mV_X4_its kM_X4_57 dX4_as_25 rfl rfl [0, 1] rfl rfl rfl rfl rfl rfl rfl rfl ⟨Nat.le_of_ble_eq_true rfl, Nat.le_of_ble_eq_true rfl, Nat.le_of_ble_eq_true rfl⟩ ?_
      have b1 := okK ok c
      refine z_istore_n (pc := 28) (lv2 := [(3, .int (iI (g 0 c))), (0, .ref m), (1, .int (iI c)), (2, .int (iI k))]) dX4_as_28 rfl (by decide) rfl ?_
      refine z_iload_n (pc := 29) dX4_as_29 3 rfl ?_
      refine z_if_eq (pc := 30) (tgt := 58) dX4_as_30 (by decide) (by omega) (fun h30 => ?_) (fun h30 => ?_)
      · skip
        refine z_iconst (pc := 58) dX4_as_58 ?_
        refine z_goto (pc := 59) (tgt := 63) dX4_as_59 (by decide) ?_
        refine z_istore (pc := 63) (lv2 := [(4, .int (iI 1)), (3, .int (iI (g 0 c))), (0, .ref m), (1, .int (iI c)), (2, .int (iI k))]) dX4_as_63 (by decide) rfl ?_
        refine z_iload (pc := 65) dX4_as_65 0 rfl ?_
        refine z_if_eq (pc := 67) (tgt := 79) dX4_as_67 (by decide) (by omega) (fun h67 => ?_) (fun h67 => ?_)
        · skip
          exfalso; omega
        · skip
          refine z_aload_n (pc := 70) dX4_as_70 2 rfl ?_
          refine z_iload_n (pc := 71) dX4_as_71 3 rfl ?_
          refine z_iconst (pc := 72) dX4_as_72 ?_
          refine z_callV (pc := 73) (st := []) (st2 := [.int (iI (g 1 c))]) (ws2 := [(m, .inr (4, [.ref mR, .ref mF, .ref mT, .ref mB, .ref mTp, .int (iI tn), .int (iI so), .int (iI be), .int (iI te), .long wd, .int (iI va), .int gd, .ref mBo, .ref mSo, .ref mSh, .ref mLe, .ref mIm, .ref mBf, .int ik])), (mR, .inl (cI, 35, .inl (rowA g))), (mF, .inl (cI, 7, .inl (ar fd)))]) (q0 := 0) (c_X4_its l D cI cJ cB cS xa m mR mF mT mB mTp mBo mSo mSh mLe mIm mBf tn so be te va wd gd ik g c 1 (by omega) (by omega)) mV_X4_its kM_X4_57 dX4_as_73 rfl rfl [0, 1] rfl rfl rfl rfl rfl rfl rfl rfl ⟨Nat.le_of_ble_eq_true rfl, Nat.le_of_ble_eq_true rfl, Nat.le_of_ble_eq_true rfl⟩ ?_
          have b2 := okH ok c
          refine z_goto (pc := 76) (tgt := 85) dX4_as_76 (by decide) ?_
          have e9 : opAs g fd c k = ((iI (g 1 c)), fd) := by
            unfold opAs; try unfold bI
            (repeat' split) <;> first | (exfalso; omega) | contradiction | rfl
          exact z_iret (pc := 85) dX4_as_85 (by rw [e9]) (by rw [e9])
      · skip
        refine z_iload_n (pc := 33) dX4_as_33 3 rfl ?_
        refine z_iload_n (pc := 34) dX4_as_34 0 rfl ?_
        refine z_icmp_eq (pc := 35) (tgt := 58) dX4_as_35 (by decide) (by omega) (by omega) (fun h35 => ?_) (fun h35 => ?_)
        · skip
          refine z_iconst (pc := 58) dX4_as_58 ?_
          refine z_goto (pc := 59) (tgt := 63) dX4_as_59 (by decide) ?_
          refine z_istore (pc := 63) (lv2 := [(4, .int (iI 1)), (3, .int (iI (g 0 c))), (0, .ref m), (1, .int (iI c)), (2, .int (iI k))]) dX4_as_63 (by decide) rfl ?_
          refine z_iload (pc := 65) dX4_as_65 0 rfl ?_
          refine z_if_eq (pc := 67) (tgt := 79) dX4_as_67 (by decide) (by omega) (fun h67 => ?_) (fun h67 => ?_)
          · skip
            exfalso; omega
          · skip
            refine z_aload_n (pc := 70) dX4_as_70 2 rfl ?_
            refine z_iload_n (pc := 71) dX4_as_71 3 rfl ?_
            refine z_iconst (pc := 72) dX4_as_72 ?_
            refine z_callV (pc := 73) (st := []) (st2 := [.int (iI (g 1 c))]) (ws2 := [(m, .inr (4, [.ref mR, .ref mF, .ref mT, .ref mB, .ref mTp, .int (iI tn), .int (iI so), .int (iI be), .int (iI te), .long wd, .int (iI va), .int gd, .ref mBo, .ref mSo, .ref mSh, .ref mLe, .ref mIm, .ref mBf, .int ik])), (mR, .inl (cI, 35, .inl (rowA g))), (mF, .inl (cI, 7, .inl (ar fd)))]) (q0 := 0) (c_X4_its l D cI cJ cB cS xa m mR mF mT mB mTp mBo mSo mSh mLe mIm mBf tn so be te va wd gd ik g c 1 (by omega) (by omega)) mV_X4_its kM_X4_57 dX4_as_73 rfl rfl [0, 1] rfl rfl rfl rfl rfl rfl rfl rfl ⟨Nat.le_of_ble_eq_true rfl, Nat.le_of_ble_eq_true rfl, Nat.le_of_ble_eq_true rfl⟩ ?_
            have b3 := okH ok c
            refine z_goto (pc := 76) (tgt := 85) dX4_as_76 (by decide) ?_
            have e9 : opAs g fd c k = ((iI (g 1 c)), fd) := by
              unfold opAs; try unfold bI
              (repeat' split) <;> first | (exfalso; omega) | contradiction | rfl
            exact z_iret (pc := 85) dX4_as_85 (by rw [e9]) (by rw [e9])
        · skip
          refine z_iload_n (pc := 38) dX4_as_38 3 rfl ?_
          refine z_iconst (pc := 39) dX4_as_39 ?_
          refine z_icmp_ne (pc := 40) (tgt := 48) dX4_as_40 (by decide) (by omega) (by omega) (fun h40 => ?_) (fun h40 => ?_)
          · skip
            refine z_iload_n (pc := 48) dX4_as_48 3 rfl ?_
            refine z_iconst (pc := 49) dX4_as_49 ?_
            refine z_icmp_ne (pc := 50) (tgt := 62) dX4_as_50 (by decide) (by omega) (by omega) (fun h50 => ?_) (fun h50 => ?_)
            · skip
              refine z_iconst (pc := 62) dX4_as_62 ?_
              refine z_istore (pc := 63) (lv2 := [(4, .int (iI 0)), (3, .int (iI (g 0 c))), (0, .ref m), (1, .int (iI c)), (2, .int (iI k))]) dX4_as_63 (by decide) rfl ?_
              refine z_iload (pc := 65) dX4_as_65 0 rfl ?_
              refine z_if_eq (pc := 67) (tgt := 79) dX4_as_67 (by decide) (by omega) (fun h67 => ?_) (fun h67 => ?_)
              · skip
                refine z_aload_n (pc := 79) dX4_as_79 2 rfl ?_
                refine z_ldc (pc := 80) (n := -1000000003) kC_X4_115 dX4_as_80 (by decide) ?_
                refine z_callV (pc := 82) (st := []) (st2 := [.int (iI (-1000000003))]) (ws2 := [(m, .inr (4, [.ref mR, .ref mF, .ref mT, .ref mB, .ref mTp, .int (iI tn), .int (iI so), .int (iI be), .int (iI te), .long wd, .int (iI va), .int gd, .ref mBo, .ref mSo, .ref mSh, .ref mLe, .ref mIm, .ref mBf, .int ik])), (mR, .inl (cI, 35, .inl (rowA g))), (mF, .inl (cI, 7, .inl (ar (fnd fd 2))))]) (q0 := 0) (c_X4_finds l D cI cJ cB cS xa m mR mF mT mB mTp mBo mSo mSh mLe mIm mBf tn so be te va wd gd ik fd (-1000000003) 2 (by omega) (by omega)) mV_X4_finds kM_X4_53 dX4_as_82 rfl rfl [0, 2] rfl rfl rfl rfl rfl rfl rfl rfl ⟨Nat.le_of_ble_eq_true rfl, Nat.le_of_ble_eq_true rfl, Nat.le_of_ble_eq_true rfl⟩ ?_
                have e9 : opAs g fd c k = ((iI (-1000000003)), fnd fd 2) := by
                  unfold opAs; try unfold bI
                  (repeat' split) <;> first | (exfalso; omega) | contradiction | rfl
                exact z_iret (pc := 85) dX4_as_85 (by rw [e9]) (by rw [e9])
              · skip
                exfalso; omega
            · skip
              refine z_iload_n (pc := 53) dX4_as_53 0 rfl ?_
              refine z_iconst (pc := 54) dX4_as_54 ?_
              refine z_icmp_ne (pc := 55) (tgt := 62) dX4_as_55 (by decide) (by omega) (by omega) (fun h55 => ?_) (fun h55 => ?_)
              · skip
                refine z_iconst (pc := 62) dX4_as_62 ?_
                refine z_istore (pc := 63) (lv2 := [(4, .int (iI 0)), (3, .int (iI (g 0 c))), (0, .ref m), (1, .int (iI c)), (2, .int (iI k))]) dX4_as_63 (by decide) rfl ?_
                refine z_iload (pc := 65) dX4_as_65 0 rfl ?_
                refine z_if_eq (pc := 67) (tgt := 79) dX4_as_67 (by decide) (by omega) (fun h67 => ?_) (fun h67 => ?_)
                · skip
                  refine z_aload_n (pc := 79) dX4_as_79 2 rfl ?_
                  refine z_ldc (pc := 80) (n := -1000000003) kC_X4_115 dX4_as_80 (by decide) ?_
                  refine z_callV (pc := 82) (st := []) (st2 := [.int (iI (-1000000003))]) (ws2 := [(m, .inr (4, [.ref mR, .ref mF, .ref mT, .ref mB, .ref mTp, .int (iI tn), .int (iI so), .int (iI be), .int (iI te), .long wd, .int (iI va), .int gd, .ref mBo, .ref mSo, .ref mSh, .ref mLe, .ref mIm, .ref mBf, .int ik])), (mR, .inl (cI, 35, .inl (rowA g))), (mF, .inl (cI, 7, .inl (ar (fnd fd 2))))]) (q0 := 0) (c_X4_finds l D cI cJ cB cS xa m mR mF mT mB mTp mBo mSo mSh mLe mIm mBf tn so be te va wd gd ik fd (-1000000003) 2 (by omega) (by omega)) mV_X4_finds kM_X4_53 dX4_as_82 rfl rfl [0, 2] rfl rfl rfl rfl rfl rfl rfl rfl ⟨Nat.le_of_ble_eq_true rfl, Nat.le_of_ble_eq_true rfl, Nat.le_of_ble_eq_true rfl⟩ ?_
                  have e9 : opAs g fd c k = ((iI (-1000000003)), fnd fd 2) := by
                    unfold opAs; try unfold bI
                    (repeat' split) <;> first | (exfalso; omega) | contradiction | rfl
                  exact z_iret (pc := 85) dX4_as_85 (by rw [e9]) (by rw [e9])
                · skip
                  exfalso; omega
              · skip
                refine z_iconst (pc := 58) dX4_as_58 ?_
                refine z_goto (pc := 59) (tgt := 63) dX4_as_59 (by decide) ?_
                refine z_istore (pc := 63) (lv2 := [(4, .int (iI 1)), (3, .int (iI (g 0 c))), (0, .ref m), (1, .int (iI c)), (2, .int (iI k))]) dX4_as_63 (by decide) rfl ?_
                refine z_iload (pc := 65) dX4_as_65 0 rfl ?_
                refine z_if_eq (pc := 67) (tgt := 79) dX4_as_67 (by decide) (by omega) (fun h67 => ?_) (fun h67 => ?_)
                · skip
                  exfalso; omega
                · skip
                  refine z_aload_n (pc := 70) dX4_as_70 2 rfl ?_
                  refine z_iload_n (pc := 71) dX4_as_71 3 rfl ?_
                  refine z_iconst (pc := 72) dX4_as_72 ?_
                  refine z_callV (pc := 73) (st := []) (st2 := [.int (iI (g 1 c))]) (ws2 := [(m, .inr (4, [.ref mR, .ref mF, .ref mT, .ref mB, .ref mTp, .int (iI tn), .int (iI so), .int (iI be), .int (iI te), .long wd, .int (iI va), .int gd, .ref mBo, .ref mSo, .ref mSh, .ref mLe, .ref mIm, .ref mBf, .int ik])), (mR, .inl (cI, 35, .inl (rowA g))), (mF, .inl (cI, 7, .inl (ar fd)))]) (q0 := 0) (c_X4_its l D cI cJ cB cS xa m mR mF mT mB mTp mBo mSo mSh mLe mIm mBf tn so be te va wd gd ik g c 1 (by omega) (by omega)) mV_X4_its kM_X4_57 dX4_as_73 rfl rfl [0, 1] rfl rfl rfl rfl rfl rfl rfl rfl ⟨Nat.le_of_ble_eq_true rfl, Nat.le_of_ble_eq_true rfl, Nat.le_of_ble_eq_true rfl⟩ ?_
                  have b4 := okH ok c
                  refine z_goto (pc := 76) (tgt := 85) dX4_as_76 (by decide) ?_
                  have e9 : opAs g fd c k = ((iI (g 1 c)), fd) := by
                    unfold opAs; try unfold bI
                    (repeat' split) <;> first | (exfalso; omega) | contradiction | rfl
                  exact z_iret (pc := 85) dX4_as_85 (by rw [e9]) (by rw [e9])
          · skip
            refine z_iload_n (pc := 43) dX4_as_43 0 rfl ?_
            refine z_iconst (pc := 44) dX4_as_44 ?_
            refine z_icmp_eq (pc := 45) (tgt := 58) dX4_as_45 (by decide) (by omega) (by omega) (fun h45 => ?_) (fun h45 => ?_)
            · skip
              refine z_iconst (pc := 58) dX4_as_58 ?_
              refine z_goto (pc := 59) (tgt := 63) dX4_as_59 (by decide) ?_
              refine z_istore (pc := 63) (lv2 := [(4, .int (iI 1)), (3, .int (iI (g 0 c))), (0, .ref m), (1, .int (iI c)), (2, .int (iI k))]) dX4_as_63 (by decide) rfl ?_
              refine z_iload (pc := 65) dX4_as_65 0 rfl ?_
              refine z_if_eq (pc := 67) (tgt := 79) dX4_as_67 (by decide) (by omega) (fun h67 => ?_) (fun h67 => ?_)
              · skip
                exfalso; omega
              · skip
                refine z_aload_n (pc := 70) dX4_as_70 2 rfl ?_
                refine z_iload_n (pc := 71) dX4_as_71 3 rfl ?_
                refine z_iconst (pc := 72) dX4_as_72 ?_
                refine z_callV (pc := 73) (st := []) (st2 := [.int (iI (g 1 c))]) (ws2 := [(m, .inr (4, [.ref mR, .ref mF, .ref mT, .ref mB, .ref mTp, .int (iI tn), .int (iI so), .int (iI be), .int (iI te), .long wd, .int (iI va), .int gd, .ref mBo, .ref mSo, .ref mSh, .ref mLe, .ref mIm, .ref mBf, .int ik])), (mR, .inl (cI, 35, .inl (rowA g))), (mF, .inl (cI, 7, .inl (ar fd)))]) (q0 := 0) (c_X4_its l D cI cJ cB cS xa m mR mF mT mB mTp mBo mSo mSh mLe mIm mBf tn so be te va wd gd ik g c 1 (by omega) (by omega)) mV_X4_its kM_X4_57 dX4_as_73 rfl rfl [0, 1] rfl rfl rfl rfl rfl rfl rfl rfl ⟨Nat.le_of_ble_eq_true rfl, Nat.le_of_ble_eq_true rfl, Nat.le_of_ble_eq_true rfl⟩ ?_
                have b5 := okH ok c
                refine z_goto (pc := 76) (tgt := 85) dX4_as_76 (by decide) ?_
                have e9 : opAs g fd c k = ((iI (g 1 c)), fd) := by
                  unfold opAs; try unfold bI
                  (repeat' split) <;> first | (exfalso; omega) | contradiction | rfl
                exact z_iret (pc := 85) dX4_as_85 (by rw [e9]) (by rw [e9])
            · skip
              refine z_iload_n (pc := 48) dX4_as_48 3 rfl ?_
              refine z_iconst (pc := 49) dX4_as_49 ?_
              refine z_icmp_ne (pc := 50) (tgt := 62) dX4_as_50 (by decide) (by omega) (by omega) (fun h50 => ?_) (fun h50 => ?_)
              · skip
                refine z_iconst (pc := 62) dX4_as_62 ?_
                refine z_istore (pc := 63) (lv2 := [(4, .int (iI 0)), (3, .int (iI (g 0 c))), (0, .ref m), (1, .int (iI c)), (2, .int (iI k))]) dX4_as_63 (by decide) rfl ?_
                refine z_iload (pc := 65) dX4_as_65 0 rfl ?_
                refine z_if_eq (pc := 67) (tgt := 79) dX4_as_67 (by decide) (by omega) (fun h67 => ?_) (fun h67 => ?_)
                · skip
                  refine z_aload_n (pc := 79) dX4_as_79 2 rfl ?_
                  refine z_ldc (pc := 80) (n := -1000000003) kC_X4_115 dX4_as_80 (by decide) ?_
                  refine z_callV (pc := 82) (st := []) (st2 := [.int (iI (-1000000003))]) (ws2 := [(m, .inr (4, [.ref mR, .ref mF, .ref mT, .ref mB, .ref mTp, .int (iI tn), .int (iI so), .int (iI be), .int (iI te), .long wd, .int (iI va), .int gd, .ref mBo, .ref mSo, .ref mSh, .ref mLe, .ref mIm, .ref mBf, .int ik])), (mR, .inl (cI, 35, .inl (rowA g))), (mF, .inl (cI, 7, .inl (ar (fnd fd 2))))]) (q0 := 0) (c_X4_finds l D cI cJ cB cS xa m mR mF mT mB mTp mBo mSo mSh mLe mIm mBf tn so be te va wd gd ik fd (-1000000003) 2 (by omega) (by omega)) mV_X4_finds kM_X4_53 dX4_as_82 rfl rfl [0, 2] rfl rfl rfl rfl rfl rfl rfl rfl ⟨Nat.le_of_ble_eq_true rfl, Nat.le_of_ble_eq_true rfl, Nat.le_of_ble_eq_true rfl⟩ ?_
                  have e9 : opAs g fd c k = ((iI (-1000000003)), fnd fd 2) := by
                    unfold opAs; try unfold bI
                    (repeat' split) <;> first | (exfalso; omega) | contradiction | rfl
                  exact z_iret (pc := 85) dX4_as_85 (by rw [e9]) (by rw [e9])
                · skip
                  exfalso; omega
              · skip
                refine z_iload_n (pc := 53) dX4_as_53 0 rfl ?_
                refine z_iconst (pc := 54) dX4_as_54 ?_
                refine z_icmp_ne (pc := 55) (tgt := 62) dX4_as_55 (by decide) (by omega) (by omega) (fun h55 => ?_) (fun h55 => ?_)
                · skip
                  refine z_iconst (pc := 62) dX4_as_62 ?_
                  refine z_istore (pc := 63) (lv2 := [(4, .int (iI 0)), (3, .int (iI (g 0 c))), (0, .ref m), (1, .int (iI c)), (2, .int (iI k))]) dX4_as_63 (by decide) rfl ?_
                  refine z_iload (pc := 65) dX4_as_65 0 rfl ?_
                  refine z_if_eq (pc := 67) (tgt := 79) dX4_as_67 (by decide) (by omega) (fun h67 => ?_) (fun h67 => ?_)
                  · skip
                    refine z_aload_n (pc := 79) dX4_as_79 2 rfl ?_
                    refine z_ldc (pc := 80) (n := -1000000003) kC_X4_115 dX4_as_80 (by decide) ?_
                    refine z_callV (pc := 82) (st := []) (st2 := [.int (iI (-1000000003))]) (ws2 := [(m, .inr (4, [.ref mR, .ref mF, .ref mT, .ref mB, .ref mTp, .int (iI tn), .int (iI so), .int (iI be), .int (iI te), .long wd, .int (iI va), .int gd, .ref mBo, .ref mSo, .ref mSh, .ref mLe, .ref mIm, .ref mBf, .int ik])), (mR, .inl (cI, 35, .inl (rowA g))), (mF, .inl (cI, 7, .inl (ar (fnd fd 2))))]) (q0 := 0) (c_X4_finds l D cI cJ cB cS xa m mR mF mT mB mTp mBo mSo mSh mLe mIm mBf tn so be te va wd gd ik fd (-1000000003) 2 (by omega) (by omega)) mV_X4_finds kM_X4_53 dX4_as_82 rfl rfl [0, 2] rfl rfl rfl rfl rfl rfl rfl rfl ⟨Nat.le_of_ble_eq_true rfl, Nat.le_of_ble_eq_true rfl, Nat.le_of_ble_eq_true rfl⟩ ?_
                    have e9 : opAs g fd c k = ((iI (-1000000003)), fnd fd 2) := by
                      unfold opAs; try unfold bI
                      (repeat' split) <;> first | (exfalso; omega) | contradiction | rfl
                    exact z_iret (pc := 85) dX4_as_85 (by rw [e9]) (by rw [e9])
                  · skip
                    exfalso; omega
                · skip
                  refine z_iconst (pc := 58) dX4_as_58 ?_
                  refine z_goto (pc := 59) (tgt := 63) dX4_as_59 (by decide) ?_
                  refine z_istore (pc := 63) (lv2 := [(4, .int (iI 1)), (3, .int (iI (g 0 c))), (0, .ref m), (1, .int (iI c)), (2, .int (iI k))]) dX4_as_63 (by decide) rfl ?_
                  refine z_iload (pc := 65) dX4_as_65 0 rfl ?_
                  refine z_if_eq (pc := 67) (tgt := 79) dX4_as_67 (by decide) (by omega) (fun h67 => ?_) (fun h67 => ?_)
                  · skip
                    exfalso; omega
                  · skip
                    refine z_aload_n (pc := 70) dX4_as_70 2 rfl ?_
                    refine z_iload_n (pc := 71) dX4_as_71 3 rfl ?_
                    refine z_iconst (pc := 72) dX4_as_72 ?_
                    refine z_callV (pc := 73) (st := []) (st2 := [.int (iI (g 1 c))]) (ws2 := [(m, .inr (4, [.ref mR, .ref mF, .ref mT, .ref mB, .ref mTp, .int (iI tn), .int (iI so), .int (iI be), .int (iI te), .long wd, .int (iI va), .int gd, .ref mBo, .ref mSo, .ref mSh, .ref mLe, .ref mIm, .ref mBf, .int ik])), (mR, .inl (cI, 35, .inl (rowA g))), (mF, .inl (cI, 7, .inl (ar fd)))]) (q0 := 0) (c_X4_its l D cI cJ cB cS xa m mR mF mT mB mTp mBo mSo mSh mLe mIm mBf tn so be te va wd gd ik g c 1 (by omega) (by omega)) mV_X4_its kM_X4_57 dX4_as_73 rfl rfl [0, 1] rfl rfl rfl rfl rfl rfl rfl rfl ⟨Nat.le_of_ble_eq_true rfl, Nat.le_of_ble_eq_true rfl, Nat.le_of_ble_eq_true rfl⟩ ?_
                    have b6 := okH ok c
                    refine z_goto (pc := 76) (tgt := 85) dX4_as_76 (by decide) ?_
                    have e9 : opAs g fd c k = ((iI (g 1 c)), fd) := by
                      unfold opAs; try unfold bI
                      (repeat' split) <;> first | (exfalso; omega) | contradiction | rfl
                    exact z_iret (pc := 85) dX4_as_85 (by rw [e9]) (by rw [e9])
    · skip
      refine z_aload_n (pc := 15) dX4_as_15 0 rfl ?_
      refine z_ldc (pc := 16) (n := -1000000001) kC_X4_44 dX4_as_16 (by decide) ?_
      refine z_callV (pc := 18) (st := []) (st2 := [.int (iI (-1000000001))]) (ws2 := [(m, .inr (4, [.ref mR, .ref mF, .ref mT, .ref mB, .ref mTp, .int (iI tn), .int (iI so), .int (iI be), .int (iI te), .long wd, .int (iI va), .int gd, .ref mBo, .ref mSo, .ref mSh, .ref mLe, .ref mIm, .ref mBf, .int ik])), (mR, .inl (cI, 35, .inl (rowA g))), (mF, .inl (cI, 7, .inl (ar (fnd fd 0))))]) (q0 := 0) (c_X4_finds l D cI cJ cB cS xa m mR mF mT mB mTp mBo mSo mSh mLe mIm mBf tn so be te va wd gd ik fd (-1000000001) 0 (by omega) (by omega)) mV_X4_finds kM_X4_53 dX4_as_18 rfl rfl [0, 2] rfl rfl rfl rfl rfl rfl rfl rfl ⟨Nat.le_of_ble_eq_true rfl, Nat.le_of_ble_eq_true rfl, Nat.le_of_ble_eq_true rfl⟩ ?_
      have e9 : opAs g fd c k = ((iI (-1000000001)), fnd fd 0) := by
        unfold opAs; try unfold bI
        (repeat' split) <;> first | (exfalso; omega) | contradiction | rfl
      exact z_iret (pc := 21) dX4_as_21 (by rw [e9]) (by rw [e9])
set_option maxHeartbeats 8000000 in
set_option maxRecDepth 100000 in
theorem c_X4_push (l : Launch) (D : va_G) (cI cJ cB cS : ClassId) (xa : XA) (m mR mF mT mB mTp mBo mSo mSh mLe mIm mBf : Nat) (tn so be te va : Int) (wd : Int64) (gd ik : Int32) (g : Gd) (fd : FF) (c v : Int) (ok : Ok g) (rc : inr c) (rv : inr v) : Ct l D cI cJ cB cS xa yX4_push cX4_push 3 (some .int) 2 45 [.ref m, .int (iI c), .int (iI v)] [(m, .inr (4, [.ref mR, .ref mF, .ref mT, .ref mB, .ref mTp, .int (iI tn), .int (iI so), .int (iI be), .int (iI te), .long wd, .int (iI va), .int gd, .ref mBo, .ref mSo, .ref mSh, .ref mLe, .ref mIm, .ref mBf, .int ik])), (mR, .inl (cI, 35, .inl (rowA g))), (mF, .inl (cI, 7, .inl (ar fd)))] (some (.int ((opPush g fd c v).1))) [(m, .inr (4, [.ref mR, .ref mF, .ref mT, .ref mB, .ref mTp, .int (iI tn), .int (iI so), .int (iI be), .int (iI te), .long wd, .int (iI va), .int gd, .ref mBo, .ref mSo, .ref mSh, .ref mLe, .ref mIm, .ref mBf, .int ik])), (mR, .inl (cI, 35, .inl (rowA ((opPush g fd c v).2.1)))), (mF, .inl (cI, 7, .inl (ar ((opPush g fd c v).2.2))))] := by
  have o0 := ok0 ok
  have o1 := ok1 ok
  have o2 := ok2 ok
  refine CtE.of (own := RX4) (lv := [(0, .ref m), (1, .int (iI c)), (2, .int (iI v))]) (by decide) rfl rfl (Nat.le_of_ble_eq_true rfl) ?_
  intro xp xe xs xm xb xt xc
  refine z_aload_n (pc := 0) dX4_push_0 0 rfl ?_
  refine z_iload_n (pc := 1) dX4_push_1 1 rfl ?_
  refine z_callV (pc := 2) (st := []) (st2 := [.int (bI (0 ≤ c ∧ c < g 4 2))]) (ws2 := [(m, .inr (4, [.ref mR, .ref mF, .ref mT, .ref mB, .ref mTp, .int (iI tn), .int (iI so), .int (iI be), .int (iI te), .long wd, .int (iI va), .int gd, .ref mBo, .ref mSo, .ref mSh, .ref mLe, .ref mIm, .ref mBf, .int ik])), (mR, .inl (cI, 35, .inl (rowA g))), (mF, .inl (cI, 7, .inl (ar fd)))]) (q0 := 0) (c_X4_isOne l D cI cJ cB cS xa m mR mF mT mB mTp mBo mSo mSh mLe mIm mBf tn so be te va wd gd ik g c ok (by omega)) mV_X4_isOne kM_X4_98 dX4_push_2 rfl rfl [0, 1] rfl rfl rfl rfl rfl rfl rfl rfl ⟨Nat.le_of_ble_eq_true rfl, Nat.le_of_ble_eq_true rfl, Nat.le_of_ble_eq_true rfl⟩ ?_
  refine z_ifb_eq (pc := 5) (tgt := 18) dX4_push_5 (by decide) (fun h5 => ?_) (fun h5 => ?_)
  · skip
    refine z_aload_n (pc := 18) dX4_push_18 0 rfl ?_
    refine z_ldc (pc := 19) (n := -1000000001) kC_X4_44 dX4_push_19 (by decide) ?_
    refine z_callV (pc := 21) (st := []) (st2 := [.int (iI (-1000000001))]) (ws2 := [(m, .inr (4, [.ref mR, .ref mF, .ref mT, .ref mB, .ref mTp, .int (iI tn), .int (iI so), .int (iI be), .int (iI te), .long wd, .int (iI va), .int gd, .ref mBo, .ref mSo, .ref mSh, .ref mLe, .ref mIm, .ref mBf, .int ik])), (mR, .inl (cI, 35, .inl (rowA g))), (mF, .inl (cI, 7, .inl (ar (fnd fd 0))))]) (q0 := 0) (c_X4_finds l D cI cJ cB cS xa m mR mF mT mB mTp mBo mSo mSh mLe mIm mBf tn so be te va wd gd ik fd (-1000000001) 0 (by omega) (by omega)) mV_X4_finds kM_X4_53 dX4_push_21 rfl rfl [0, 2] rfl rfl rfl rfl rfl rfl rfl rfl ⟨Nat.le_of_ble_eq_true rfl, Nat.le_of_ble_eq_true rfl, Nat.le_of_ble_eq_true rfl⟩ ?_
    have e9 : opPush g fd c v = ((iI (-1000000001)), g, fnd fd 0) := by
      unfold opPush; try unfold bI
      (repeat' split) <;> first | (exfalso; omega) | contradiction | rfl
    exact z_iret (pc := 24) dX4_push_24 (by rw [e9]) (by rw [e9])
  · skip
    refine z_iload_n (pc := 8) dX4_push_8 2 rfl ?_
    refine z_iconst (pc := 9) dX4_push_9 ?_
    refine z_bipush (pc := 10) dX4_push_10 (by decide) ?_
    refine z_callS (pc := 12) (st := []) (st2 := [.int (bI (1 ≤ v ∧ v ≤ 99))]) (ws2 := [(m, .inr (4, [.ref mR, .ref mF, .ref mT, .ref mB, .ref mTp, .int (iI tn), .int (iI so), .int (iI be), .int (iI te), .long wd, .int (iI va), .int gd, .ref mBo, .ref mSo, .ref mSh, .ref mLe, .ref mIm, .ref mBf, .int ik])), (mR, .inl (cI, 35, .inl (rowA g))), (mF, .inl (cI, 7, .inl (ar fd)))]) (c_X4_in l D cI cJ cB cS xa v 1 99 (by omega) (by omega) (by omega)) mS_X4_in kM_X4_45 dX4_push_12 [] rfl rfl rfl rfl rfl rfl rfl rfl ⟨Nat.le_of_ble_eq_true rfl, Nat.le_of_ble_eq_true rfl, Nat.le_of_ble_eq_true rfl⟩ ?_
    refine z_ifb_ne (pc := 15) (tgt := 25) dX4_push_15 (by decide) (fun h15 => ?_) (fun h15 => ?_)
    · skip
      refine z_aload_n (pc := 25) dX4_push_25 0 rfl ?_
      refine z_iload_n (pc := 26) dX4_push_26 1 rfl ?_
      refine z_iload_n (pc := 27) dX4_push_27 2 rfl ?_
      refine z_callV (pc := 28) (st := []) (st2 := []) (ws2 := [(m, .inr (4, [.ref mR, .ref mF, .ref mT, .ref mB, .ref mTp, .int (iI tn), .int (iI so), .int (iI be), .int (iI te), .long wd, .int (iI va), .int gd, .ref mBo, .ref mSo, .ref mSh, .ref mLe, .ref mIm, .ref mBf, .int ik])), (mR, .inl (cI, 35, .inl (rowA (pushG g c v)))), (mF, .inl (cI, 7, .inl (ar fd)))]) (q0 := 0) (c_X4_pushes l D cI cJ cB cS xa m mR mF mT mB mTp mBo mSo mSh mLe mIm mBf tn so be te va wd gd ik g c v ok (by omega) (by omega)) mV_X4_pushes kM_X4_119 dX4_push_28 rfl rfl [0, 1] rfl rfl rfl rfl rfl rfl rfl rfl ⟨Nat.le_of_ble_eq_true rfl, Nat.le_of_ble_eq_true rfl, Nat.le_of_ble_eq_true rfl⟩ ?_
      have ok28_1 : Ok (pushG g c v) := pushG_ok ok c (by omega)
      refine z_aload_n (pc := 31) dX4_push_31 0 rfl ?_
      refine z_iload_n (pc := 32) dX4_push_32 1 rfl ?_
      refine z_iconst (pc := 33) dX4_push_33 ?_
      refine z_callV (pc := 34) (st := []) (st2 := [.int (iI ((pushG g c v) 1 c))]) (ws2 := [(m, .inr (4, [.ref mR, .ref mF, .ref mT, .ref mB, .ref mTp, .int (iI tn), .int (iI so), .int (iI be), .int (iI te), .long wd, .int (iI va), .int gd, .ref mBo, .ref mSo, .ref mSh, .ref mLe, .ref mIm, .ref mBf, .int ik])), (mR, .inl (cI, 35, .inl (rowA (pushG g c v)))), (mF, .inl (cI, 7, .inl (ar fd)))]) (q0 := 0) (c_X4_its l D cI cJ cB cS xa m mR mF mT mB mTp mBo mSo mSh mLe mIm mBf tn so be te va wd gd ik (pushG g c v) c 1 (by omega) (by omega)) mV_X4_its kM_X4_57 dX4_push_34 rfl rfl [0, 1] rfl rfl rfl rfl rfl rfl rfl rfl ⟨Nat.le_of_ble_eq_true rfl, Nat.le_of_ble_eq_true rfl, Nat.le_of_ble_eq_true rfl⟩ ?_
      have b2 := okH ok28_1 c
      have e9 : opPush g fd c v = ((iI ((pushG g c v) 1 c)), (pushG g c v), fd) := by
        unfold opPush; try unfold bI
        (repeat' split) <;> first | (exfalso; omega) | contradiction | rfl
      exact z_iret (pc := 37) dX4_push_37 (by rw [e9]) (by rw [e9])
    · skip
      refine z_aload_n (pc := 18) dX4_push_18 0 rfl ?_
      refine z_ldc (pc := 19) (n := -1000000001) kC_X4_44 dX4_push_19 (by decide) ?_
      refine z_callV (pc := 21) (st := []) (st2 := [.int (iI (-1000000001))]) (ws2 := [(m, .inr (4, [.ref mR, .ref mF, .ref mT, .ref mB, .ref mTp, .int (iI tn), .int (iI so), .int (iI be), .int (iI te), .long wd, .int (iI va), .int gd, .ref mBo, .ref mSo, .ref mSh, .ref mLe, .ref mIm, .ref mBf, .int ik])), (mR, .inl (cI, 35, .inl (rowA g))), (mF, .inl (cI, 7, .inl (ar (fnd fd 0))))]) (q0 := 0) (c_X4_finds l D cI cJ cB cS xa m mR mF mT mB mTp mBo mSo mSh mLe mIm mBf tn so be te va wd gd ik fd (-1000000001) 0 (by omega) (by omega)) mV_X4_finds kM_X4_53 dX4_push_21 rfl rfl [0, 2] rfl rfl rfl rfl rfl rfl rfl rfl ⟨Nat.le_of_ble_eq_true rfl, Nat.le_of_ble_eq_true rfl, Nat.le_of_ble_eq_true rfl⟩ ?_
      have e9 : opPush g fd c v = ((iI (-1000000001)), g, fnd fd 0) := by
        unfold opPush; try unfold bI
        (repeat' split) <;> first | (exfalso; omega) | contradiction | rfl
      exact z_iret (pc := 24) dX4_push_24 (by rw [e9]) (by rw [e9])
set_option maxHeartbeats 8000000 in
set_option maxRecDepth 100000 in
theorem c_X4_swap (l : Launch) (D : va_G) (cI cJ cB cS : ClassId) (xa : XA) (m mR mF mT mB mTp mBo mSo mSh mLe mIm mBf : Nat) (tn so be te va : Int) (wd : Int64) (gd ik : Int32) (g : Gd) (fd : FF) (a b : Int) (ok : Ok g) (ra : inr a) (rb : inr b) : Ct l D cI cJ cB cS xa yX4_swap cX4_swap 3 (some .int) 2 47 [.ref m, .int (iI a), .int (iI b)] [(m, .inr (4, [.ref mR, .ref mF, .ref mT, .ref mB, .ref mTp, .int (iI tn), .int (iI so), .int (iI be), .int (iI te), .long wd, .int (iI va), .int gd, .ref mBo, .ref mSo, .ref mSh, .ref mLe, .ref mIm, .ref mBf, .int ik])), (mR, .inl (cI, 35, .inl (rowA g))), (mF, .inl (cI, 7, .inl (ar fd)))] (some (.int ((opSwap g fd a b).1))) [(m, .inr (4, [.ref mR, .ref mF, .ref mT, .ref mB, .ref mTp, .int (iI tn), .int (iI so), .int (iI be), .int (iI te), .long wd, .int (iI va), .int gd, .ref mBo, .ref mSo, .ref mSh, .ref mLe, .ref mIm, .ref mBf, .int ik])), (mR, .inl (cI, 35, .inl (rowA ((opSwap g fd a b).2.1)))), (mF, .inl (cI, 7, .inl (ar ((opSwap g fd a b).2.2))))] := by
  have o0 := ok0 ok
  have o1 := ok1 ok
  have o2 := ok2 ok
  refine CtE.of (own := RX4) (lv := [(0, .ref m), (1, .int (iI a)), (2, .int (iI b))]) (by decide) rfl rfl (Nat.le_of_ble_eq_true rfl) ?_
  intro xp xe xs xm xb xt xc
  refine z_aload_n (pc := 0) dX4_swap_0 0 rfl ?_
  refine z_iload_n (pc := 1) dX4_swap_1 1 rfl ?_
  refine z_callV (pc := 2) (st := []) (st2 := [.int (bI (0 ≤ a ∧ a < g 4 2))]) (ws2 := [(m, .inr (4, [.ref mR, .ref mF, .ref mT, .ref mB, .ref mTp, .int (iI tn), .int (iI so), .int (iI be), .int (iI te), .long wd, .int (iI va), .int gd, .ref mBo, .ref mSo, .ref mSh, .ref mLe, .ref mIm, .ref mBf, .int ik])), (mR, .inl (cI, 35, .inl (rowA g))), (mF, .inl (cI, 7, .inl (ar fd)))]) (q0 := 0) (c_X4_isOne l D cI cJ cB cS xa m mR mF mT mB mTp mBo mSo mSh mLe mIm mBf tn so be te va wd gd ik g a ok (by omega)) mV_X4_isOne kM_X4_98 dX4_swap_2 rfl rfl [0, 1] rfl rfl rfl rfl rfl rfl rfl rfl ⟨Nat.le_of_ble_eq_true rfl, Nat.le_of_ble_eq_true rfl, Nat.le_of_ble_eq_true rfl⟩ ?_
  refine z_ifb_eq (pc := 5) (tgt := 21) dX4_swap_5 (by decide) (fun h5 => ?_) (fun h5 => ?_)
  · skip
    refine z_aload_n (pc := 21) dX4_swap_21 0 rfl ?_
    refine z_ldc (pc := 22) (n := -1000000001) kC_X4_44 dX4_swap_22 (by decide) ?_
    refine z_callV (pc := 24) (st := []) (st2 := [.int (iI (-1000000001))]) (ws2 := [(m, .inr (4, [.ref mR, .ref mF, .ref mT, .ref mB, .ref mTp, .int (iI tn), .int (iI so), .int (iI be), .int (iI te), .long wd, .int (iI va), .int gd, .ref mBo, .ref mSo, .ref mSh, .ref mLe, .ref mIm, .ref mBf, .int ik])), (mR, .inl (cI, 35, .inl (rowA g))), (mF, .inl (cI, 7, .inl (ar (fnd fd 0))))]) (q0 := 0) (c_X4_finds l D cI cJ cB cS xa m mR mF mT mB mTp mBo mSo mSh mLe mIm mBf tn so be te va wd gd ik fd (-1000000001) 0 (by omega) (by omega)) mV_X4_finds kM_X4_53 dX4_swap_24 rfl rfl [0, 2] rfl rfl rfl rfl rfl rfl rfl rfl ⟨Nat.le_of_ble_eq_true rfl, Nat.le_of_ble_eq_true rfl, Nat.le_of_ble_eq_true rfl⟩ ?_
    have e9 : opSwap g fd a b = ((iI (-1000000001)), g, fnd fd 0) := by
      unfold opSwap; try unfold bI
      (repeat' split) <;> first | (exfalso; omega) | contradiction | rfl
    exact z_iret (pc := 27) dX4_swap_27 (by rw [e9]) (by rw [e9])
  · skip
    refine z_aload_n (pc := 8) dX4_swap_8 0 rfl ?_
    refine z_iload_n (pc := 9) dX4_swap_9 2 rfl ?_
    refine z_callV (pc := 10) (st := []) (st2 := [.int (bI (0 ≤ b ∧ b < g 4 2))]) (ws2 := [(m, .inr (4, [.ref mR, .ref mF, .ref mT, .ref mB, .ref mTp, .int (iI tn), .int (iI so), .int (iI be), .int (iI te), .long wd, .int (iI va), .int gd, .ref mBo, .ref mSo, .ref mSh, .ref mLe, .ref mIm, .ref mBf, .int ik])), (mR, .inl (cI, 35, .inl (rowA g))), (mF, .inl (cI, 7, .inl (ar fd)))]) (q0 := 0) (c_X4_isOne l D cI cJ cB cS xa m mR mF mT mB mTp mBo mSo mSh mLe mIm mBf tn so be te va wd gd ik g b ok (by omega)) mV_X4_isOne kM_X4_98 dX4_swap_10 rfl rfl [0, 1] rfl rfl rfl rfl rfl rfl rfl rfl ⟨Nat.le_of_ble_eq_true rfl, Nat.le_of_ble_eq_true rfl, Nat.le_of_ble_eq_true rfl⟩ ?_
    refine z_ifb_eq (pc := 13) (tgt := 21) dX4_swap_13 (by decide) (fun h13 => ?_) (fun h13 => ?_)
    · skip
      refine z_aload_n (pc := 21) dX4_swap_21 0 rfl ?_
      refine z_ldc (pc := 22) (n := -1000000001) kC_X4_44 dX4_swap_22 (by decide) ?_
      refine z_callV (pc := 24) (st := []) (st2 := [.int (iI (-1000000001))]) (ws2 := [(m, .inr (4, [.ref mR, .ref mF, .ref mT, .ref mB, .ref mTp, .int (iI tn), .int (iI so), .int (iI be), .int (iI te), .long wd, .int (iI va), .int gd, .ref mBo, .ref mSo, .ref mSh, .ref mLe, .ref mIm, .ref mBf, .int ik])), (mR, .inl (cI, 35, .inl (rowA g))), (mF, .inl (cI, 7, .inl (ar (fnd fd 0))))]) (q0 := 0) (c_X4_finds l D cI cJ cB cS xa m mR mF mT mB mTp mBo mSo mSh mLe mIm mBf tn so be te va wd gd ik fd (-1000000001) 0 (by omega) (by omega)) mV_X4_finds kM_X4_53 dX4_swap_24 rfl rfl [0, 2] rfl rfl rfl rfl rfl rfl rfl rfl ⟨Nat.le_of_ble_eq_true rfl, Nat.le_of_ble_eq_true rfl, Nat.le_of_ble_eq_true rfl⟩ ?_
      have e9 : opSwap g fd a b = ((iI (-1000000001)), g, fnd fd 0) := by
        unfold opSwap; try unfold bI
        (repeat' split) <;> first | (exfalso; omega) | contradiction | rfl
      exact z_iret (pc := 27) dX4_swap_27 (by rw [e9]) (by rw [e9])
    · skip
      refine z_iload_n (pc := 16) dX4_swap_16 1 rfl ?_
      refine z_iload_n (pc := 17) dX4_swap_17 2 rfl ?_
      refine z_icmp_ne (pc := 18) (tgt := 28) dX4_swap_18 (by decide) (by omega) (by omega) (fun h18 => ?_) (fun h18 => ?_)
      · skip
        refine z_aload_n (pc := 28) dX4_swap_28 0 rfl ?_
        refine z_iload_n (pc := 29) dX4_swap_29 1 rfl ?_
        refine z_iload_n (pc := 30) dX4_swap_30 2 rfl ?_
        refine z_callV (pc := 31) (st := []) (st2 := []) (ws2 := [(m, .inr (4, [.ref mR, .ref mF, .ref mT, .ref mB, .ref mTp, .int (iI tn), .int (iI so), .int (iI be), .int (iI te), .long wd, .int (iI va), .int gd, .ref mBo, .ref mSo, .ref mSh, .ref mLe, .ref mIm, .ref mBf, .int ik])), (mR, .inl (cI, 35, .inl (rowA (swapG g a b)))), (mF, .inl (cI, 7, .inl (ar fd)))]) (q0 := 0) (c_X4_swaps l D cI cJ cB cS xa m mR mF mT mB mTp mBo mSo mSh mLe mIm mBf tn so be te va wd gd ik g a b ok (by omega) (by omega)) mV_X4_swaps kM_X4_123 dX4_swap_31 rfl rfl [0, 1] rfl rfl rfl rfl rfl rfl rfl rfl ⟨Nat.le_of_ble_eq_true rfl, Nat.le_of_ble_eq_true rfl, Nat.le_of_ble_eq_true rfl⟩ ?_
        have ok31_1 : Ok (swapG g a b) := swapG_ok ok a b
        refine z_iconst (pc := 34) dX4_swap_34 ?_
        have e9 : opSwap g fd a b = ((iI 1), swapG g a b, fd) := by
          unfold opSwap; try unfold bI
          (repeat' split) <;> first | (exfalso; omega) | contradiction | rfl
        exact z_iret (pc := 35) dX4_swap_35 (by rw [e9]) (by rw [e9])
      · skip
        refine z_aload_n (pc := 21) dX4_swap_21 0 rfl ?_
        refine z_ldc (pc := 22) (n := -1000000001) kC_X4_44 dX4_swap_22 (by decide) ?_
        refine z_callV (pc := 24) (st := []) (st2 := [.int (iI (-1000000001))]) (ws2 := [(m, .inr (4, [.ref mR, .ref mF, .ref mT, .ref mB, .ref mTp, .int (iI tn), .int (iI so), .int (iI be), .int (iI te), .long wd, .int (iI va), .int gd, .ref mBo, .ref mSo, .ref mSh, .ref mLe, .ref mIm, .ref mBf, .int ik])), (mR, .inl (cI, 35, .inl (rowA g))), (mF, .inl (cI, 7, .inl (ar (fnd fd 0))))]) (q0 := 0) (c_X4_finds l D cI cJ cB cS xa m mR mF mT mB mTp mBo mSo mSh mLe mIm mBf tn so be te va wd gd ik fd (-1000000001) 0 (by omega) (by omega)) mV_X4_finds kM_X4_53 dX4_swap_24 rfl rfl [0, 2] rfl rfl rfl rfl rfl rfl rfl rfl ⟨Nat.le_of_ble_eq_true rfl, Nat.le_of_ble_eq_true rfl, Nat.le_of_ble_eq_true rfl⟩ ?_
        have e9 : opSwap g fd a b = ((iI (-1000000001)), g, fnd fd 0) := by
          unfold opSwap; try unfold bI
          (repeat' split) <;> first | (exfalso; omega) | contradiction | rfl
        exact z_iret (pc := 27) dX4_swap_27 (by rw [e9]) (by rw [e9])
set_option maxHeartbeats 8000000 in
set_option maxRecDepth 100000 in
theorem c_X4_minutes (l : Launch) (D : va_G) (cI cJ cB cS : ClassId) (xa : XA) (m mR mF mT mB mTp mBo mSo mSh mLe mIm mBf : Nat) (tn so be te va : Int) (wd : Int64) (gd ik : Int32) (g : Gd) (fd : FF) (n : Int) (ok : Ok g) (rn : inr n) (hm : g 4 0 ≤ 99999) : Ct l D cI cJ cB cS xa yX4_minutes cX4_minutes 2 (some .int) 5 113 [.ref m, .int (iI n)] [(m, .inr (4, [.ref mR, .ref mF, .ref mT, .ref mB, .ref mTp, .int (iI tn), .int (iI so), .int (iI be), .int (iI te), .long wd, .int (iI va), .int gd, .ref mBo, .ref mSo, .ref mSh, .ref mLe, .ref mIm, .ref mBf, .int ik])), (mR, .inl (cI, 35, .inl (rowA g))), (mF, .inl (cI, 7, .inl (ar fd)))] (some (.int ((opMinutes g fd n).1))) [(m, .inr (4, [.ref mR, .ref mF, .ref mT, .ref mB, .ref mTp, .int (iI tn), .int (iI so), .int (iI be), .int (iI te), .long wd, .int (iI va), .int gd, .ref mBo, .ref mSo, .ref mSh, .ref mLe, .ref mIm, .ref mBf, .int ik])), (mR, .inl (cI, 35, .inl (rowA ((opMinutes g fd n).2.1)))), (mF, .inl (cI, 7, .inl (ar ((opMinutes g fd n).2.2))))] := by
  have o0 := ok0 ok
  have o1 := ok1 ok
  have o2 := ok2 ok
  refine CtE.of (own := RX4) (lv := [(0, .ref m), (1, .int (iI n))]) (by decide) rfl rfl (Nat.le_of_ble_eq_true rfl) ?_
  intro xp xe xs xm xb xt xc
  refine z_iload_n (pc := 0) dX4_minutes_0 1 rfl ?_
  refine z_iconst (pc := 1) dX4_minutes_1 ?_
  refine z_sipush (pc := 2) dX4_minutes_2 (by decide) ?_
  refine z_callS (pc := 5) (st := []) (st2 := [.int (bI (1 ≤ n ∧ n ≤ 200))]) (ws2 := [(m, .inr (4, [.ref mR, .ref mF, .ref mT, .ref mB, .ref mTp, .int (iI tn), .int (iI so), .int (iI be), .int (iI te), .long wd, .int (iI va), .int gd, .ref mBo, .ref mSo, .ref mSh, .ref mLe, .ref mIm, .ref mBf, .int ik])), (mR, .inl (cI, 35, .inl (rowA g))), (mF, .inl (cI, 7, .inl (ar fd)))]) (c_X4_in l D cI cJ cB cS xa n 1 200 (by omega) (by omega) (by omega)) mS_X4_in kM_X4_45 dX4_minutes_5 [] rfl rfl rfl rfl rfl rfl rfl rfl ⟨Nat.le_of_ble_eq_true rfl, Nat.le_of_ble_eq_true rfl, Nat.le_of_ble_eq_true rfl⟩ ?_
  refine z_ifb_ne (pc := 8) (tgt := 18) dX4_minutes_8 (by decide) (fun h8 => ?_) (fun h8 => ?_)
  · skip
    refine z_aload_n (pc := 18) dX4_minutes_18 0 rfl ?_
    refine z_get (pc := 19) (q0 := 0) (v := .ref mR) fL_X4_7 dX4_minutes_19 rfl rfl ?_
    refine z_iconst (pc := 22) dX4_minutes_22 ?_
    refine z_iald (pc := 23) (q0 := 1) (v := (iI (g 4 0))) dX4_minutes_23 rfl (by omega) (by decide) (rowA_4 (by decide) (by decide)) ?_
    refine z_iload_n (pc := 24) dX4_minutes_24 1 rfl ?_
    refine z_iadd (pc := 25) dX4_minutes_25 ?_
    refine z_ldc (pc := 26) (n := 99999) kC_X4_146 dX4_minutes_26 (by decide) ?_
    refine z_icmp_le (pc := 28) (tgt := 38) dX4_minutes_28 (by decide) (by omega) (by omega) (fun h28 => ?_) (fun h28 => ?_)
    · skip
      refine z_aload_n (pc := 38) dX4_minutes_38 0 rfl ?_
      refine z_iload_n (pc := 39) dX4_minutes_39 1 rfl ?_
      refine z_callV (pc := 40) (st := []) (st2 := []) (ws2 := [(m, .inr (4, [.ref mR, .ref mF, .ref mT, .ref mB, .ref mTp, .int (iI tn), .int (iI so), .int (iI be), .int (iI te), .long wd, .int (iI va), .int gd, .ref mBo, .ref mSo, .ref mSh, .ref mLe, .ref mIm, .ref mBf, .int ik])), (mR, .inl (cI, 35, .inl (rowA (minsG g (Int.toNat n))))), (mF, .inl (cI, 7, .inl (ar fd)))]) (q0 := 0) (c_X4_passes l D cI cJ cB cS xa m mR mF mT mB mTp mBo mSo mSh mLe mIm mBf tn so be te va wd gd ik g n ok (by omega) (by omega)) mV_X4_passes kM_X4_148 dX4_minutes_40 rfl rfl [0, 1] rfl rfl rfl rfl rfl rfl rfl rfl ⟨Nat.le_of_ble_eq_true rfl, Nat.le_of_ble_eq_true rfl, Nat.le_of_ble_eq_true rfl⟩ ?_
      have ok40_1 : Ok (minsG g (Int.toNat n)) := minsG_ok ok _ (by omega)
      have f40_2 := minsG_40 g (Int.toNat n)
      have f40_3 := minsG_41 g (Int.toNat n)
      have f40_4 := minsG_42 g (Int.toNat n)
      refine z_aload_n (pc := 43) dX4_minutes_43 0 rfl ?_
      refine z_iconst (pc := 44) dX4_minutes_44 ?_
      refine z_callV (pc := 45) (st := []) (st2 := [.int (iI (highG (minsG g (Int.toNat n))))]) (ws2 := [(m, .inr (4, [.ref mR, .ref mF, .ref mT, .ref mB, .ref mTp, .int (iI tn), .int (iI so), .int (iI be), .int (iI te), .long wd, .int (iI va), .int gd, .ref mBo, .ref mSo, .ref mSh, .ref mLe, .ref mIm, .ref mBf, .int ik])), (mR, .inl (cI, 35, .inl (rowA (minsG g (Int.toNat n))))), (mF, .inl (cI, 7, .inl (ar fd)))]) (q0 := 0) (c_X4_mostOf l D cI cJ cB cS xa m mR mF mT mB mTp mBo mSo mSh mLe mIm mBf tn so be te va wd gd ik (minsG g (Int.toNat n)) 1 ok40_1 (by omega)) mV_X4_mostOf kM_X4_60 dX4_minutes_45 rfl rfl [0, 1] rfl rfl rfl rfl rfl rfl rfl rfl ⟨Nat.le_of_ble_eq_true rfl, Nat.le_of_ble_eq_true rfl, Nat.le_of_ble_eq_true rfl⟩ ?_
      have f45_5 := mostG_rng ok40_1 1
      have e9 : opMinutes g fd n = ((iI (highG (minsG g (Int.toNat n)))), (minsG g (Int.toNat n)), fd) := by
        unfold opMinutes; try unfold bI
        (repeat' split) <;> first | (exfalso; omega) | contradiction | rfl
      exact z_iret (pc := 48) dX4_minutes_48 (by rw [e9]) (by rw [e9])
    · skip
      refine z_aload_n (pc := 31) dX4_minutes_31 0 rfl ?_
      refine z_ldc (pc := 32) (n := -1000000005) kC_X4_147 dX4_minutes_32 (by decide) ?_
      refine z_callV (pc := 34) (st := []) (st2 := [.int (iI (-1000000005))]) (ws2 := [(m, .inr (4, [.ref mR, .ref mF, .ref mT, .ref mB, .ref mTp, .int (iI tn), .int (iI so), .int (iI be), .int (iI te), .long wd, .int (iI va), .int gd, .ref mBo, .ref mSo, .ref mSh, .ref mLe, .ref mIm, .ref mBf, .int ik])), (mR, .inl (cI, 35, .inl (rowA g))), (mF, .inl (cI, 7, .inl (ar (fnd fd 4))))]) (q0 := 0) (c_X4_finds l D cI cJ cB cS xa m mR mF mT mB mTp mBo mSo mSh mLe mIm mBf tn so be te va wd gd ik fd (-1000000005) 4 (by omega) (by omega)) mV_X4_finds kM_X4_53 dX4_minutes_34 rfl rfl [0, 2] rfl rfl rfl rfl rfl rfl rfl rfl ⟨Nat.le_of_ble_eq_true rfl, Nat.le_of_ble_eq_true rfl, Nat.le_of_ble_eq_true rfl⟩ ?_
      have e9 : opMinutes g fd n = ((iI (-1000000005)), g, fnd fd 4) := by
        unfold opMinutes; try unfold bI
        (repeat' split) <;> first | (exfalso; omega) | contradiction | rfl
      exact z_iret (pc := 37) dX4_minutes_37 (by rw [e9]) (by rw [e9])
  · skip
    refine z_aload_n (pc := 11) dX4_minutes_11 0 rfl ?_
    refine z_ldc (pc := 12) (n := -1000000001) kC_X4_44 dX4_minutes_12 (by decide) ?_
    refine z_callV (pc := 14) (st := []) (st2 := [.int (iI (-1000000001))]) (ws2 := [(m, .inr (4, [.ref mR, .ref mF, .ref mT, .ref mB, .ref mTp, .int (iI tn), .int (iI so), .int (iI be), .int (iI te), .long wd, .int (iI va), .int gd, .ref mBo, .ref mSo, .ref mSh, .ref mLe, .ref mIm, .ref mBf, .int ik])), (mR, .inl (cI, 35, .inl (rowA g))), (mF, .inl (cI, 7, .inl (ar (fnd fd 0))))]) (q0 := 0) (c_X4_finds l D cI cJ cB cS xa m mR mF mT mB mTp mBo mSo mSh mLe mIm mBf tn so be te va wd gd ik fd (-1000000001) 0 (by omega) (by omega)) mV_X4_finds kM_X4_53 dX4_minutes_14 rfl rfl [0, 2] rfl rfl rfl rfl rfl rfl rfl rfl ⟨Nat.le_of_ble_eq_true rfl, Nat.le_of_ble_eq_true rfl, Nat.le_of_ble_eq_true rfl⟩ ?_
    have e9 : opMinutes g fd n = ((iI (-1000000001)), g, fnd fd 0) := by
      unfold opMinutes; try unfold bI
      (repeat' split) <;> first | (exfalso; omega) | contradiction | rfl
    exact z_iret (pc := 17) dX4_minutes_17 (by rw [e9]) (by rw [e9])
set_option maxHeartbeats 8000000 in
set_option maxRecDepth 100000 in
theorem c_X4_on (l : Launch) (D : va_G) (cI cJ cB cS : ClassId) (xa : XA) (m mR mF mT mB mTp mBo mSo mSh mLe mIm mBf : Nat) (tn so be te va : Int) (wd : Int64) (gd ik : Int32) (g : Gd) (fd : FF) (ft : Nat → Int32) (c n w : Int) (ok : Ok g) (rc : inr c) (rn : inr n) (rw : inr w) (hm : g 4 0 ≤ 99999) : CtE (S := (Nat → Int32)) l D cI cJ cB cS xa yX4_on cX4_on 4 (some .int) 6 136 [.ref m, .int (iI c), .int (iI n), .int (iI w)] [(m, .inr (4, [.ref mR, .ref mF, .ref mT, .ref mB, .ref mTp, .int (iI tn), .int (iI so), .int (iI be), .int (iI te), .long wd, .int (iI va), .int gd, .ref mBo, .ref mSo, .ref mSh, .ref mLe, .ref mIm, .ref mBf, .int ik])), (mR, .inl (cI, 35, .inl (rowA g))), (mF, .inl (cI, 7, .inl (ar fd))), (mT, .inl (cI, 35, .inl ft))] (fun ft2 : (Nat → Int32) => True) (fun ft2 : (Nat → Int32) => (some (.int ((opOn g fd c n w).1)))) (fun ft2 : (Nat → Int32) => [(m, .inr (4, [.ref mR, .ref mF, .ref mT, .ref mB, .ref mTp, .int (iI tn), .int (iI so), .int (iI be), .int (iI te), .long wd, .int (iI va), .int gd, .ref mBo, .ref mSo, .ref mSh, .ref mLe, .ref mIm, .ref mBf, .int ik])), (mR, .inl (cI, 35, .inl (rowA g))), (mF, .inl (cI, 7, .inl (ar ((opOn g fd c n w).2)))), (mT, .inl (cI, 35, .inl ft2))]) := by
  have o0 := ok0 ok
  have o1 := ok1 ok
  have o2 := ok2 ok
  refine CtE.of (own := RX4) (lv := [(0, .ref m), (1, .int (iI c)), (2, .int (iI n)), (3, .int (iI w))]) (by decide) rfl rfl (Nat.le_of_ble_eq_true rfl) ?_
  intro xp xe xs xm xb xt xc
  refine z_aload_n (pc := 0) dX4_on_0 0 rfl ?_
  refine z_iload_n (pc := 1) dX4_on_1 1 rfl ?_
  refine z_callV (pc := 2) (st := []) (st2 := [.int (bI (0 ≤ c ∧ c < g 4 2))]) (ws2 := [(m, .inr (4, [.ref mR, .ref mF, .ref mT, .ref mB, .ref mTp, .int (iI tn), .int (iI so), .int (iI be), .int (iI te), .long wd, .int (iI va), .int gd, .ref mBo, .ref mSo, .ref mSh, .ref mLe, .ref mIm, .ref mBf, .int ik])), (mR, .inl (cI, 35, .inl (rowA g))), (mF, .inl (cI, 7, .inl (ar fd))), (mT, .inl (cI, 35, .inl ft))]) (q0 := 0) (c_X4_isOne l D cI cJ cB cS xa m mR mF mT mB mTp mBo mSo mSh mLe mIm mBf tn so be te va wd gd ik g c ok (by omega)) mV_X4_isOne kM_X4_98 dX4_on_2 rfl rfl [0, 1] rfl rfl rfl rfl rfl rfl rfl rfl ⟨Nat.le_of_ble_eq_true rfl, Nat.le_of_ble_eq_true rfl, Nat.le_of_ble_eq_true rfl⟩ ?_
  refine z_ifb_eq (pc := 5) (tgt := 28) dX4_on_5 (by decide) (fun h5 => ?_) (fun h5 => ?_)
  · skip
    refine z_aload_n (pc := 28) dX4_on_28 0 rfl ?_
    refine z_ldc (pc := 29) (n := -1000000001) kC_X4_44 dX4_on_29 (by decide) ?_
    refine z_callV (pc := 31) (st := []) (st2 := [.int (iI (-1000000001))]) (ws2 := [(m, .inr (4, [.ref mR, .ref mF, .ref mT, .ref mB, .ref mTp, .int (iI tn), .int (iI so), .int (iI be), .int (iI te), .long wd, .int (iI va), .int gd, .ref mBo, .ref mSo, .ref mSh, .ref mLe, .ref mIm, .ref mBf, .int ik])), (mR, .inl (cI, 35, .inl (rowA g))), (mF, .inl (cI, 7, .inl (ar (fnd fd 0)))), (mT, .inl (cI, 35, .inl ft))]) (q0 := 0) (c_X4_finds l D cI cJ cB cS xa m mR mF mT mB mTp mBo mSo mSh mLe mIm mBf tn so be te va wd gd ik fd (-1000000001) 0 (by omega) (by omega)) mV_X4_finds kM_X4_53 dX4_on_31 rfl rfl [0, 2] rfl rfl rfl rfl rfl rfl rfl rfl ⟨Nat.le_of_ble_eq_true rfl, Nat.le_of_ble_eq_true rfl, Nat.le_of_ble_eq_true rfl⟩ ?_
    have e9 : opOn g fd c n w = ((iI (-1000000001)), fnd fd 0) := by
      unfold opOn; try unfold bI
      (repeat' split) <;> first | (exfalso; omega) | contradiction | rfl
    exact z_iretE (pc := 34) dX4_on_34 ft trivial (by rw [e9]) (by rw [e9])
  · skip
    refine z_iload_n (pc := 8) dX4_on_8 2 rfl ?_
    refine z_iconst (pc := 9) dX4_on_9 ?_
    refine z_sipush (pc := 10) dX4_on_10 (by decide) ?_
    refine z_callS (pc := 13) (st := []) (st2 := [.int (bI (0 ≤ n ∧ n ≤ 400))]) (ws2 := [(m, .inr (4, [.ref mR, .ref mF, .ref mT, .ref mB, .ref mTp, .int (iI tn), .int (iI so), .int (iI be), .int (iI te), .long wd, .int (iI va), .int gd, .ref mBo, .ref mSo, .ref mSh, .ref mLe, .ref mIm, .ref mBf, .int ik])), (mR, .inl (cI, 35, .inl (rowA g))), (mF, .inl (cI, 7, .inl (ar fd))), (mT, .inl (cI, 35, .inl ft))]) (c_X4_in l D cI cJ cB cS xa n 0 400 (by omega) (by omega) (by omega)) mS_X4_in kM_X4_45 dX4_on_13 [] rfl rfl rfl rfl rfl rfl rfl rfl ⟨Nat.le_of_ble_eq_true rfl, Nat.le_of_ble_eq_true rfl, Nat.le_of_ble_eq_true rfl⟩ ?_
    refine z_ifb_eq (pc := 16) (tgt := 28) dX4_on_16 (by decide) (fun h16 => ?_) (fun h16 => ?_)
    · skip
      refine z_aload_n (pc := 28) dX4_on_28 0 rfl ?_
      refine z_ldc (pc := 29) (n := -1000000001) kC_X4_44 dX4_on_29 (by decide) ?_
      refine z_callV (pc := 31) (st := []) (st2 := [.int (iI (-1000000001))]) (ws2 := [(m, .inr (4, [.ref mR, .ref mF, .ref mT, .ref mB, .ref mTp, .int (iI tn), .int (iI so), .int (iI be), .int (iI te), .long wd, .int (iI va), .int gd, .ref mBo, .ref mSo, .ref mSh, .ref mLe, .ref mIm, .ref mBf, .int ik])), (mR, .inl (cI, 35, .inl (rowA g))), (mF, .inl (cI, 7, .inl (ar (fnd fd 0)))), (mT, .inl (cI, 35, .inl ft))]) (q0 := 0) (c_X4_finds l D cI cJ cB cS xa m mR mF mT mB mTp mBo mSo mSh mLe mIm mBf tn so be te va wd gd ik fd (-1000000001) 0 (by omega) (by omega)) mV_X4_finds kM_X4_53 dX4_on_31 rfl rfl [0, 2] rfl rfl rfl rfl rfl rfl rfl rfl ⟨Nat.le_of_ble_eq_true rfl, Nat.le_of_ble_eq_true rfl, Nat.le_of_ble_eq_true rfl⟩ ?_
      have e9 : opOn g fd c n w = ((iI (-1000000001)), fnd fd 0) := by
        unfold opOn; try unfold bI
        (repeat' split) <;> first | (exfalso; omega) | contradiction | rfl
      exact z_iretE (pc := 34) dX4_on_34 ft trivial (by rw [e9]) (by rw [e9])
    · skip
      refine z_iload_n (pc := 19) dX4_on_19 3 rfl ?_
      refine z_iconst (pc := 20) dX4_on_20 ?_
      refine z_iconst (pc := 21) dX4_on_21 ?_
      refine z_callS (pc := 22) (st := []) (st2 := [.int (bI (0 ≤ w ∧ w ≤ 1))]) (ws2 := [(m, .inr (4, [.ref mR, .ref mF, .ref mT, .ref mB, .ref mTp, .int (iI tn), .int (iI so), .int (iI be), .int (iI te), .long wd, .int (iI va), .int gd, .ref mBo, .ref mSo, .ref mSh, .ref mLe, .ref mIm, .ref mBf, .int ik])), (mR, .inl (cI, 35, .inl (rowA g))), (mF, .inl (cI, 7, .inl (ar fd))), (mT, .inl (cI, 35, .inl ft))]) (c_X4_in l D cI cJ cB cS xa w 0 1 (by omega) (by omega) (by omega)) mS_X4_in kM_X4_45 dX4_on_22 [] rfl rfl rfl rfl rfl rfl rfl rfl ⟨Nat.le_of_ble_eq_true rfl, Nat.le_of_ble_eq_true rfl, Nat.le_of_ble_eq_true rfl⟩ ?_
      refine z_ifb_ne (pc := 25) (tgt := 35) dX4_on_25 (by decide) (fun h25 => ?_) (fun h25 => ?_)
      · skip
        refine z_aload_n (pc := 35) dX4_on_35 0 rfl ?_
        refine z_iconst (pc := 36) dX4_on_36 ?_
        refine z_aload_n (pc := 37) dX4_on_37 0 rfl ?_
        refine z_get (pc := 38) (q0 := 0) (v := .ref mT) fL_X4_16 dX4_on_38 rfl rfl ?_
        refine z_callV (pc := 41) (st := []) (st2 := []) (ws2 := [(m, .inr (4, [.ref mR, .ref mF, .ref mT, .ref mB, .ref mTp, .int (iI tn), .int (iI so), .int (iI be), .int (iI te), .long wd, .int (iI va), .int gd, .ref mBo, .ref mSo, .ref mSh, .ref mLe, .ref mIm, .ref mBf, .int ik])), (mR, .inl (cI, 35, .inl (rowA g))), (mF, .inl (cI, 7, .inl (ar fd))), (mT, .inl (cI, 35, .inl (rowA g)))]) (q0 := 0) (c_X4_moveAll l D cI cJ cB cS xa m mR mF mT mB mTp mBo mSo mSh mLe mIm mBf tn so be te va wd gd ik mT (rowA g) ft ) mV_X4_moveAll kM_X4_151 dX4_on_41 rfl rfl [0, 1, 3] rfl rfl rfl rfl rfl rfl rfl rfl ⟨Nat.le_of_ble_eq_true rfl, Nat.le_of_ble_eq_true rfl, Nat.le_of_ble_eq_true rfl⟩ ?_
        refine z_aload_n (pc := 44) dX4_on_44 0 rfl ?_
        refine z_iload_n (pc := 45) dX4_on_45 2 rfl ?_
        refine z_iconst (pc := 46) dX4_on_46 ?_
        refine z_iconst (pc := 47) dX4_on_47 ?_
        refine z_iload_n (pc := 48) dX4_on_48 1 rfl ?_
        refine z_imul (pc := 49) dX4_on_49 ?_
        refine z_iadd (pc := 50) dX4_on_50 ?_
        refine z_iconst (pc := 51) dX4_on_51 ?_
        refine z_iadd (pc := 52) dX4_on_52 ?_
        refine z_iload_n (pc := 53) dX4_on_53 3 rfl ?_
        refine z_iadd (pc := 54) dX4_on_54 ?_
        refine z_callV (pc := 55) (st := []) (st2 := [.int (iI (minsG g (Int.toNat n) (1 + w) c))]) (ws2 := [(m, .inr (4, [.ref mR, .ref mF, .ref mT, .ref mB, .ref mTp, .int (iI tn), .int (iI so), .int (iI be), .int (iI te), .long wd, .int (iI va), .int gd, .ref mBo, .ref mSo, .ref mSh, .ref mLe, .ref mIm, .ref mBf, .int ik])), (mR, .inl (cI, 35, .inl (rowA g))), (mF, .inl (cI, 7, .inl (ar fd))), (mT, .inl (cI, 35, .inl (rowA g)))]) (q0 := 0) (c_X4_behind l D cI cJ cB cS xa m mR mF mT mB mTp mBo mSo mSh mLe mIm mBf tn so be te va wd gd ik g g n (((3 + (4 * c)) + 1) + w) (1 + w) c ok (by omega) (by omega) (by omega) (by omega) (by omega)) mV_X4_behind kM_X4_155 dX4_on_55 rfl rfl [0, 1, 3] rfl rfl rfl rfl rfl rfl rfl rfl ⟨Nat.le_of_ble_eq_true rfl, Nat.le_of_ble_eq_true rfl, Nat.le_of_ble_eq_true rfl⟩ ?_
        have e9 : opOn g fd c n w = ((iI (minsG g (Int.toNat n) (1 + w) c)), fd) := by
          unfold opOn; try unfold bI
          (repeat' split) <;> first | (exfalso; omega) | contradiction | rfl
        exact z_iretE (pc := 58) dX4_on_58 (rowA g) trivial (by rw [e9]) (by rw [e9])
      · skip
        refine z_aload_n (pc := 28) dX4_on_28 0 rfl ?_
        refine z_ldc (pc := 29) (n := -1000000001) kC_X4_44 dX4_on_29 (by decide) ?_
        refine z_callV (pc := 31) (st := []) (st2 := [.int (iI (-1000000001))]) (ws2 := [(m, .inr (4, [.ref mR, .ref mF, .ref mT, .ref mB, .ref mTp, .int (iI tn), .int (iI so), .int (iI be), .int (iI te), .long wd, .int (iI va), .int gd, .ref mBo, .ref mSo, .ref mSh, .ref mLe, .ref mIm, .ref mBf, .int ik])), (mR, .inl (cI, 35, .inl (rowA g))), (mF, .inl (cI, 7, .inl (ar (fnd fd 0)))), (mT, .inl (cI, 35, .inl ft))]) (q0 := 0) (c_X4_finds l D cI cJ cB cS xa m mR mF mT mB mTp mBo mSo mSh mLe mIm mBf tn so be te va wd gd ik fd (-1000000001) 0 (by omega) (by omega)) mV_X4_finds kM_X4_53 dX4_on_31 rfl rfl [0, 2] rfl rfl rfl rfl rfl rfl rfl rfl ⟨Nat.le_of_ble_eq_true rfl, Nat.le_of_ble_eq_true rfl, Nat.le_of_ble_eq_true rfl⟩ ?_
        have e9 : opOn g fd c n w = ((iI (-1000000001)), fnd fd 0) := by
          unfold opOn; try unfold bI
          (repeat' split) <;> first | (exfalso; omega) | contradiction | rfl
        exact z_iretE (pc := 34) dX4_on_34 ft trivial (by rw [e9]) (by rw [e9])
set_option maxHeartbeats 8000000 in
set_option maxRecDepth 100000 in
theorem c_X4_owes (l : Launch) (D : va_G) (cI cJ cB cS : ClassId) (xa : XA) (m mR mF mT mB mTp mBo mSo mSh mLe mIm mBf : Nat) (tn so be te va : Int) (wd : Int64) (gd ik : Int32) (g : Gd) (fd : FF) (ft : Nat → Int32) (c n : Int) (ok : Ok g) (rc : inr c) (rn : inr n) (hm : g 4 0 ≤ 99999) : CtE (S := (Nat → Int32)) l D cI cJ cB cS xa yX4_owes cX4_owes 3 (some .int) 6 136 [.ref m, .int (iI c), .int (iI n)] [(m, .inr (4, [.ref mR, .ref mF, .ref mT, .ref mB, .ref mTp, .int (iI tn), .int (iI so), .int (iI be), .int (iI te), .long wd, .int (iI va), .int gd, .ref mBo, .ref mSo, .ref mSh, .ref mLe, .ref mIm, .ref mBf, .int ik])), (mR, .inl (cI, 35, .inl (rowA g))), (mF, .inl (cI, 7, .inl (ar fd))), (mT, .inl (cI, 35, .inl ft))] (fun ft2 : (Nat → Int32) => True) (fun ft2 : (Nat → Int32) => (some (.int ((opOwes g fd c n).1)))) (fun ft2 : (Nat → Int32) => [(m, .inr (4, [.ref mR, .ref mF, .ref mT, .ref mB, .ref mTp, .int (iI tn), .int (iI so), .int (iI be), .int (iI te), .long wd, .int (iI va), .int gd, .ref mBo, .ref mSo, .ref mSh, .ref mLe, .ref mIm, .ref mBf, .int ik])), (mR, .inl (cI, 35, .inl (rowA g))), (mF, .inl (cI, 7, .inl (ar ((opOwes g fd c n).2)))), (mT, .inl (cI, 35, .inl ft2))]) := by
  have o0 := ok0 ok
  have o1 := ok1 ok
  have o2 := ok2 ok
  refine CtE.of (own := RX4) (lv := [(0, .ref m), (1, .int (iI c)), (2, .int (iI n))]) (by decide) rfl rfl (Nat.le_of_ble_eq_true rfl) ?_
  intro xp xe xs xm xb xt xc
  refine z_aload_n (pc := 0) dX4_owes_0 0 rfl ?_
  refine z_iload_n (pc := 1) dX4_owes_1 1 rfl ?_
  refine z_callV (pc := 2) (st := []) (st2 := [.int (bI (0 ≤ c ∧ c < g 4 2))]) (ws2 := [(m, .inr (4, [.ref mR, .ref mF, .ref mT, .ref mB, .ref mTp, .int (iI tn), .int (iI so), .int (iI be), .int (iI te), .long wd, .int (iI va), .int gd, .ref mBo, .ref mSo, .ref mSh, .ref mLe, .ref mIm, .ref mBf, .int ik])), (mR, .inl (cI, 35, .inl (rowA g))), (mF, .inl (cI, 7, .inl (ar fd))), (mT, .inl (cI, 35, .inl ft))]) (q0 := 0) (c_X4_isOne l D cI cJ cB cS xa m mR mF mT mB mTp mBo mSo mSh mLe mIm mBf tn so be te va wd gd ik g c ok (by omega)) mV_X4_isOne kM_X4_98 dX4_owes_2 rfl rfl [0, 1] rfl rfl rfl rfl rfl rfl rfl rfl ⟨Nat.le_of_ble_eq_true rfl, Nat.le_of_ble_eq_true rfl, Nat.le_of_ble_eq_true rfl⟩ ?_
  refine z_ifb_eq (pc := 5) (tgt := 19) dX4_owes_5 (by decide) (fun h5 => ?_) (fun h5 => ?_)
  · skip
    refine z_aload_n (pc := 19) dX4_owes_19 0 rfl ?_
    refine z_ldc (pc := 20) (n := -1000000001) kC_X4_44 dX4_owes_20 (by decide) ?_
    refine z_callV (pc := 22) (st := []) (st2 := [.int (iI (-1000000001))]) (ws2 := [(m, .inr (4, [.ref mR, .ref mF, .ref mT, .ref mB, .ref mTp, .int (iI tn), .int (iI so), .int (iI be), .int (iI te), .long wd, .int (iI va), .int gd, .ref mBo, .ref mSo, .ref mSh, .ref mLe, .ref mIm, .ref mBf, .int ik])), (mR, .inl (cI, 35, .inl (rowA g))), (mF, .inl (cI, 7, .inl (ar (fnd fd 0)))), (mT, .inl (cI, 35, .inl ft))]) (q0 := 0) (c_X4_finds l D cI cJ cB cS xa m mR mF mT mB mTp mBo mSo mSh mLe mIm mBf tn so be te va wd gd ik fd (-1000000001) 0 (by omega) (by omega)) mV_X4_finds kM_X4_53 dX4_owes_22 rfl rfl [0, 2] rfl rfl rfl rfl rfl rfl rfl rfl ⟨Nat.le_of_ble_eq_true rfl, Nat.le_of_ble_eq_true rfl, Nat.le_of_ble_eq_true rfl⟩ ?_
    have e9 : opOwes g fd c n = ((iI (-1000000001)), fnd fd 0) := by
      unfold opOwes; try unfold bI
      (repeat' split) <;> first | (exfalso; omega) | contradiction | rfl
    exact z_iretE (pc := 25) dX4_owes_25 ft trivial (by rw [e9]) (by rw [e9])
  · skip
    refine z_iload_n (pc := 8) dX4_owes_8 2 rfl ?_
    refine z_iconst (pc := 9) dX4_owes_9 ?_
    refine z_sipush (pc := 10) dX4_owes_10 (by decide) ?_
    refine z_callS (pc := 13) (st := []) (st2 := [.int (bI (0 ≤ n ∧ n ≤ 400))]) (ws2 := [(m, .inr (4, [.ref mR, .ref mF, .ref mT, .ref mB, .ref mTp, .int (iI tn), .int (iI so), .int (iI be), .int (iI te), .long wd, .int (iI va), .int gd, .ref mBo, .ref mSo, .ref mSh, .ref mLe, .ref mIm, .ref mBf, .int ik])), (mR, .inl (cI, 35, .inl (rowA g))), (mF, .inl (cI, 7, .inl (ar fd))), (mT, .inl (cI, 35, .inl ft))]) (c_X4_in l D cI cJ cB cS xa n 0 400 (by omega) (by omega) (by omega)) mS_X4_in kM_X4_45 dX4_owes_13 [] rfl rfl rfl rfl rfl rfl rfl rfl ⟨Nat.le_of_ble_eq_true rfl, Nat.le_of_ble_eq_true rfl, Nat.le_of_ble_eq_true rfl⟩ ?_
    refine z_ifb_ne (pc := 16) (tgt := 26) dX4_owes_16 (by decide) (fun h16 => ?_) (fun h16 => ?_)
    · skip
      refine z_aload_n (pc := 26) dX4_owes_26 0 rfl ?_
      refine z_iconst (pc := 27) dX4_owes_27 ?_
      refine z_aload_n (pc := 28) dX4_owes_28 0 rfl ?_
      refine z_get (pc := 29) (q0 := 0) (v := .ref mT) fL_X4_16 dX4_owes_29 rfl rfl ?_
      refine z_callV (pc := 32) (st := []) (st2 := []) (ws2 := [(m, .inr (4, [.ref mR, .ref mF, .ref mT, .ref mB, .ref mTp, .int (iI tn), .int (iI so), .int (iI be), .int (iI te), .long wd, .int (iI va), .int gd, .ref mBo, .ref mSo, .ref mSh, .ref mLe, .ref mIm, .ref mBf, .int ik])), (mR, .inl (cI, 35, .inl (rowA g))), (mF, .inl (cI, 7, .inl (ar fd))), (mT, .inl (cI, 35, .inl (rowA g)))]) (q0 := 0) (c_X4_moveAll l D cI cJ cB cS xa m mR mF mT mB mTp mBo mSo mSh mLe mIm mBf tn so be te va wd gd ik mT (rowA g) ft ) mV_X4_moveAll kM_X4_151 dX4_owes_32 rfl rfl [0, 1, 3] rfl rfl rfl rfl rfl rfl rfl rfl ⟨Nat.le_of_ble_eq_true rfl, Nat.le_of_ble_eq_true rfl, Nat.le_of_ble_eq_true rfl⟩ ?_
      refine z_aload_n (pc := 35) dX4_owes_35 0 rfl ?_
      refine z_iload_n (pc := 36) dX4_owes_36 2 rfl ?_
      refine z_iconst (pc := 37) dX4_owes_37 ?_
      refine z_iconst (pc := 38) dX4_owes_38 ?_
      refine z_iload_n (pc := 39) dX4_owes_39 1 rfl ?_
      refine z_imul (pc := 40) dX4_owes_40 ?_
      refine z_iadd (pc := 41) dX4_owes_41 ?_
      refine z_iconst (pc := 42) dX4_owes_42 ?_
      refine z_iadd (pc := 43) dX4_owes_43 ?_
      refine z_callV (pc := 44) (st := []) (st2 := [.int (iI (minsG g (Int.toNat n) 3 c))]) (ws2 := [(m, .inr (4, [.ref mR, .ref mF, .ref mT, .ref mB, .ref mTp, .int (iI tn), .int (iI so), .int (iI be), .int (iI te), .long wd, .int (iI va), .int gd, .ref mBo, .ref mSo, .ref mSh, .ref mLe, .ref mIm, .ref mBf, .int ik])), (mR, .inl (cI, 35, .inl (rowA g))), (mF, .inl (cI, 7, .inl (ar fd))), (mT, .inl (cI, 35, .inl (rowA g)))]) (q0 := 0) (c_X4_behind l D cI cJ cB cS xa m mR mF mT mB mTp mBo mSo mSh mLe mIm mBf tn so be te va wd gd ik g g n ((3 + (4 * c)) + 3) 3 c ok (by omega) (by omega) (by omega) (by omega) (by omega)) mV_X4_behind kM_X4_155 dX4_owes_44 rfl rfl [0, 1, 3] rfl rfl rfl rfl rfl rfl rfl rfl ⟨Nat.le_of_ble_eq_true rfl, Nat.le_of_ble_eq_true rfl, Nat.le_of_ble_eq_true rfl⟩ ?_
      have e9 : opOwes g fd c n = ((iI (minsG g (Int.toNat n) 3 c)), fd) := by
        unfold opOwes; try unfold bI
        (repeat' split) <;> first | (exfalso; omega) | contradiction | rfl
      exact z_iretE (pc := 47) dX4_owes_47 (rowA g) trivial (by rw [e9]) (by rw [e9])
    · skip
      refine z_aload_n (pc := 19) dX4_owes_19 0 rfl ?_
      refine z_ldc (pc := 20) (n := -1000000001) kC_X4_44 dX4_owes_20 (by decide) ?_
      refine z_callV (pc := 22) (st := []) (st2 := [.int (iI (-1000000001))]) (ws2 := [(m, .inr (4, [.ref mR, .ref mF, .ref mT, .ref mB, .ref mTp, .int (iI tn), .int (iI so), .int (iI be), .int (iI te), .long wd, .int (iI va), .int gd, .ref mBo, .ref mSo, .ref mSh, .ref mLe, .ref mIm, .ref mBf, .int ik])), (mR, .inl (cI, 35, .inl (rowA g))), (mF, .inl (cI, 7, .inl (ar (fnd fd 0)))), (mT, .inl (cI, 35, .inl ft))]) (q0 := 0) (c_X4_finds l D cI cJ cB cS xa m mR mF mT mB mTp mBo mSo mSh mLe mIm mBf tn so be te va wd gd ik fd (-1000000001) 0 (by omega) (by omega)) mV_X4_finds kM_X4_53 dX4_owes_22 rfl rfl [0, 2] rfl rfl rfl rfl rfl rfl rfl rfl ⟨Nat.le_of_ble_eq_true rfl, Nat.le_of_ble_eq_true rfl, Nat.le_of_ble_eq_true rfl⟩ ?_
      have e9 : opOwes g fd c n = ((iI (-1000000001)), fnd fd 0) := by
        unfold opOwes; try unfold bI
        (repeat' split) <;> first | (exfalso; omega) | contradiction | rfl
      exact z_iretE (pc := 25) dX4_owes_25 ft trivial (by rw [e9]) (by rw [e9])
set_option maxHeartbeats 8000000 in
set_option maxRecDepth 100000 in
theorem c_X4_level (l : Launch) (D : va_G) (cI cJ cB cS : ClassId) (xa : XA) (m mR mF mT mB mTp mBo mSo mSh mLe mIm mBf : Nat) (tn so be te va : Int) (wd : Int64) (gd ik : Int32) (g : Gd) (fd : FF) (ft : Nat → Int32) (ok : Ok g) (hm : g 4 0 ≤ 99999) : CtE (S := (Nat → Int32)) l D cI cJ cB cS xa yX4_level cX4_level 2 (some .int) 4 91 [.ref m] [(m, .inr (4, [.ref mR, .ref mF, .ref mT, .ref mB, .ref mTp, .int (iI tn), .int (iI so), .int (iI be), .int (iI te), .long wd, .int (iI va), .int gd, .ref mBo, .ref mSo, .ref mSh, .ref mLe, .ref mIm, .ref mBf, .int ik])), (mR, .inl (cI, 35, .inl (rowA g))), (mF, .inl (cI, 7, .inl (ar fd))), (mT, .inl (cI, 35, .inl ft))] (fun ft2 : (Nat → Int32) => True) (fun ft2 : (Nat → Int32) => (some (.int ((opLevel g fd).1)))) (fun ft2 : (Nat → Int32) => [(m, .inr (4, [.ref mR, .ref mF, .ref mT, .ref mB, .ref mTp, .int (iI tn), .int (iI so), .int (iI be), .int (iI te), .long wd, .int (iI va), .int gd, .ref mBo, .ref mSo, .ref mSh, .ref mLe, .ref mIm, .ref mBf, .int ik])), (mR, .inl (cI, 35, .inl (rowA g))), (mF, .inl (cI, 7, .inl (ar ((opLevel g fd).2)))), (mT, .inl (cI, 35, .inl ft2))]) := by
  have o0 := ok0 ok
  have o1 := ok1 ok
  have o2 := ok2 ok
  refine CtE.of (own := RX4) (lv := [(0, .ref m)]) (by decide) rfl rfl (Nat.le_of_ble_eq_true rfl) ?_
  intro xp xe xs xm xb xt xc
  refine z_aload_n (pc := 0) dX4_level_0 0 rfl ?_
  refine z_iconst (pc := 1) dX4_level_1 ?_
  refine z_aload_n (pc := 2) dX4_level_2 0 rfl ?_
  refine z_get (pc := 3) (q0 := 0) (v := .ref mT) fL_X4_16 dX4_level_3 rfl rfl ?_
  refine z_callV (pc := 6) (st := []) (st2 := []) (ws2 := [(m, .inr (4, [.ref mR, .ref mF, .ref mT, .ref mB, .ref mTp, .int (iI tn), .int (iI so), .int (iI be), .int (iI te), .long wd, .int (iI va), .int gd, .ref mBo, .ref mSo, .ref mSh, .ref mLe, .ref mIm, .ref mBf, .int ik])), (mR, .inl (cI, 35, .inl (rowA g))), (mF, .inl (cI, 7, .inl (ar fd))), (mT, .inl (cI, 35, .inl (rowA g)))]) (q0 := 0) (c_X4_moveAll l D cI cJ cB cS xa m mR mF mT mB mTp mBo mSo mSh mLe mIm mBf tn so be te va wd gd ik mT (rowA g) ft ) mV_X4_moveAll kM_X4_151 dX4_level_6 rfl rfl [0, 1, 3] rfl rfl rfl rfl rfl rfl rfl rfl ⟨Nat.le_of_ble_eq_true rfl, Nat.le_of_ble_eq_true rfl, Nat.le_of_ble_eq_true rfl⟩ ?_
  refine z_iconst (pc := 9) dX4_level_9 ?_
  refine z_istore_n (pc := 10) (lv2 := [(1, .int (iI 0)), (0, .ref m)]) dX4_level_10 rfl (by decide) rfl ?_
  have LP11 : ∀ (nn_ : Nat) (i : Int) (gg : Gd), (0 ≤ i) → (i ≤ 401) → (gg = minsG g i.toNat) → (∀ j : Int, 0 ≤ j → j < i → ¬ (diffG (minsG g (Int.toNat j)) < 2)) → (401 - i).toNat < nn_ → Z xp l xe { frames := 4, cells := 0, slots := 0, locals := 91 } xs xm ([.ref m] : List Value).toArray xb xt xc 0 0 (MQ xb (Cq (S := (Nat → Int32)) D [(m, .inr (4, [.ref mR, .ref mF, .ref mT, .ref mB, .ref mTp, .int (iI tn), .int (iI so), .int (iI be), .int (iI te), .long wd, .int (iI va), .int gd, .ref mBo, .ref mSo, .ref mSh, .ref mLe, .ref mIm, .ref mBf, .int ik])), (mR, .inl (cI, 35, .inl (rowA g))), (mF, .inl (cI, 7, .inl (ar fd))), (mT, .inl (cI, 35, .inl ft))] (fun ft2 : (Nat → Int32) => True) (fun ft2 : (Nat → Int32) => (some (.int ((opLevel g fd).1)))) (fun ft2 : (Nat → Int32) => [(m, .inr (4, [.ref mR, .ref mF, .ref mT, .ref mB, .ref mTp, .int (iI tn), .int (iI so), .int (iI be), .int (iI te), .long wd, .int (iI va), .int gd, .ref mBo, .ref mSo, .ref mSh, .ref mLe, .ref mIm, .ref mBf, .int ik])), (mR, .inl (cI, 35, .inl (rowA g))), (mF, .inl (cI, 7, .inl (ar ((opLevel g fd).2)))), (mT, .inl (cI, 35, .inl ft2))])) ([.ref m] : List Value).toArray xs 0 0 (va_A0 [(m, .inr (4, [.ref mR, .ref mF, .ref mT, .ref mB, .ref mTp, .int (iI tn), .int (iI so), .int (iI be), .int (iI te), .long wd, .int (iI va), .int gd, .ref mBo, .ref mSo, .ref mSh, .ref mLe, .ref mIm, .ref mBf, .int ik])), (mR, .inl (cI, 35, .inl (rowA g))), (mF, .inl (cI, 7, .inl (ar fd))), (mT, .inl (cI, 35, .inl ft))])) cX4_level RX4 2 (some .int) D cI cJ cB cS xa (va_A0 [(m, .inr (4, [.ref mR, .ref mF, .ref mT, .ref mB, .ref mTp, .int (iI tn), .int (iI so), .int (iI be), .int (iI te), .long wd, .int (iI va), .int gd, .ref mBo, .ref mSo, .ref mSh, .ref mLe, .ref mIm, .ref mBf, .int ik])), (mR, .inl (cI, 35, .inl (rowA g))), (mF, .inl (cI, 7, .inl (ar fd))), (mT, .inl (cI, 35, .inl ft))]) [(m, .inr (4, [.ref mR, .ref mF, .ref mT, .ref mB, .ref mTp, .int (iI tn), .int (iI so), .int (iI be), .int (iI te), .long wd, .int (iI va), .int gd, .ref mBo, .ref mSo, .ref mSh, .ref mLe, .ref mIm, .ref mBf, .int ik])), (mR, .inl (cI, 35, .inl (rowA gg))), (mF, .inl (cI, 7, .inl (ar fd))), (mT, .inl (cI, 35, .inl (rowA g)))] [(0, .ref m), (1, .int (iI i))] 11 [] := by
    intro nn_
    induction nn_ with
    | zero => intro i gg hi0 hi1 hg hq hms; exact absurd hms (Nat.not_lt_zero _)
    | succ nn_ ih =>
      intro i gg hi0 hi1 hg hq hms
      have okg : Ok gg := by rw [hg]; exact minsG_ok ok _ (by omega)
      have q0 : gg 4 0 = g 4 0 + i.toNat := by rw [hg]; exact minsG_40 g _
      have q2 : gg 4 2 = g 4 2 := by rw [hg]; exact minsG_42 g _
      have ih11 := ih
      clear ih
      refine z_iload_n (pc := 11) dX4_level_11 1 rfl ?_
      refine z_sipush (pc := 12) dX4_level_12 (by decide) ?_
      refine z_icmp_gt (pc := 15) (tgt := 36) dX4_level_15 (by decide) (by omega) (by omega) (fun h15 => ?_) (fun h15 => ?_)
      · skip
        refine z_aload_n (pc := 36) dX4_level_36 0 rfl ?_
        refine z_iconst (pc := 37) dX4_level_37 ?_
        refine z_aload_n (pc := 38) dX4_level_38 0 rfl ?_
        refine z_get (pc := 39) (q0 := 0) (v := .ref mT) fL_X4_16 dX4_level_39 rfl rfl ?_
        refine z_callV (pc := 42) (st := []) (st2 := []) (ws2 := [(m, .inr (4, [.ref mR, .ref mF, .ref mT, .ref mB, .ref mTp, .int (iI tn), .int (iI so), .int (iI be), .int (iI te), .long wd, .int (iI va), .int gd, .ref mBo, .ref mSo, .ref mSh, .ref mLe, .ref mIm, .ref mBf, .int ik])), (mR, .inl (cI, 35, .inl (rowA g))), (mF, .inl (cI, 7, .inl (ar fd))), (mT, .inl (cI, 35, .inl (rowA g)))]) (q0 := 0) (c_X4_moveAll_b l D cI cJ cB cS xa m mR mF mT mB mTp mBo mSo mSh mLe mIm mBf tn so be te va wd gd ik mT (rowA gg) (rowA g) ) mV_X4_moveAll kM_X4_151 dX4_level_42 rfl rfl [0, 1, 3] rfl rfl rfl rfl rfl rfl rfl rfl ⟨Nat.le_of_ble_eq_true rfl, Nat.le_of_ble_eq_true rfl, Nat.le_of_ble_eq_true rfl⟩ ?_
        refine z_iload_n (pc := 45) dX4_level_45 1 rfl ?_
        refine z_sipush (pc := 46) dX4_level_46 (by decide) ?_
        refine z_icmp_le (pc := 49) (tgt := 61) dX4_level_49 (by decide) (by omega) (by omega) (fun h49 => ?_) (fun h49 => ?_)
        · skip
          exfalso; omega
        · skip
          refine z_aload_n (pc := 52) dX4_level_52 0 rfl ?_
          refine z_ldc (pc := 53) (n := -1000000004) kC_X4_158 dX4_level_53 (by decide) ?_
          refine z_callV (pc := 55) (st := []) (st2 := [.int (iI (-1000000004))]) (ws2 := [(m, .inr (4, [.ref mR, .ref mF, .ref mT, .ref mB, .ref mTp, .int (iI tn), .int (iI so), .int (iI be), .int (iI te), .long wd, .int (iI va), .int gd, .ref mBo, .ref mSo, .ref mSh, .ref mLe, .ref mIm, .ref mBf, .int ik])), (mR, .inl (cI, 35, .inl (rowA g))), (mF, .inl (cI, 7, .inl (ar (fnd fd 3)))), (mT, .inl (cI, 35, .inl (rowA g)))]) (q0 := 0) (c_X4_finds l D cI cJ cB cS xa m mR mF mT mB mTp mBo mSo mSh mLe mIm mBf tn so be te va wd gd ik fd (-1000000004) 3 (by omega) (by omega)) mV_X4_finds kM_X4_53 dX4_level_55 rfl rfl [0, 2] rfl rfl rfl rfl rfl rfl rfl rfl ⟨Nat.le_of_ble_eq_true rfl, Nat.le_of_ble_eq_true rfl, Nat.le_of_ble_eq_true rfl⟩ ?_
          refine z_goto (pc := 58) (tgt := 62) dX4_level_58 (by decide) ?_
          have e9 : opLevel g fd = ((iI (-1000000004)), fnd fd 3) := by
            have ef := fst_none (fun i => diffG (minsG g (Int.toNat i)) < 2) 401 (fun j h0 h1 => hq j h0 (by omega))
            unfold opLevel foundI
            rw [ef, if_neg (by omega)]
            rfl
          exact z_iretE (pc := 62) dX4_level_62 (rowA g) trivial (by rw [e9]) (by rw [e9])
      · skip
        refine z_aload_n (pc := 18) dX4_level_18 0 rfl ?_
        refine z_callV (pc := 19) (st := []) (st2 := [.int (iI (diffG gg))]) (ws2 := [(m, .inr (4, [.ref mR, .ref mF, .ref mT, .ref mB, .ref mTp, .int (iI tn), .int (iI so), .int (iI be), .int (iI te), .long wd, .int (iI va), .int gd, .ref mBo, .ref mSo, .ref mSh, .ref mLe, .ref mIm, .ref mBf, .int ik])), (mR, .inl (cI, 35, .inl (rowA gg))), (mF, .inl (cI, 7, .inl (ar fd))), (mT, .inl (cI, 35, .inl (rowA g)))]) (q0 := 0) (c_X4_difference l D cI cJ cB cS xa m mR mF mT mB mTp mBo mSo mSh mLe mIm mBf tn so be te va wd gd ik gg okg) mV_X4_difference kM_X4_77 dX4_level_19 rfl rfl [0, 1] rfl rfl rfl rfl rfl rfl rfl rfl ⟨Nat.le_of_ble_eq_true rfl, Nat.le_of_ble_eq_true rfl, Nat.le_of_ble_eq_true rfl⟩ ?_
        have f19_1 := diffG_rng okg
        refine z_iconst (pc := 22) dX4_level_22 ?_
        refine z_icmp_le (pc := 23) (tgt := 36) dX4_level_23 (by decide) (by omega) (by omega) (fun h23 => ?_) (fun h23 => ?_)
        · skip
          refine z_aload_n (pc := 36) dX4_level_36 0 rfl ?_
          refine z_iconst (pc := 37) dX4_level_37 ?_
          refine z_aload_n (pc := 38) dX4_level_38 0 rfl ?_
          refine z_get (pc := 39) (q0 := 0) (v := .ref mT) fL_X4_16 dX4_level_39 rfl rfl ?_
          refine z_callV (pc := 42) (st := []) (st2 := []) (ws2 := [(m, .inr (4, [.ref mR, .ref mF, .ref mT, .ref mB, .ref mTp, .int (iI tn), .int (iI so), .int (iI be), .int (iI te), .long wd, .int (iI va), .int gd, .ref mBo, .ref mSo, .ref mSh, .ref mLe, .ref mIm, .ref mBf, .int ik])), (mR, .inl (cI, 35, .inl (rowA g))), (mF, .inl (cI, 7, .inl (ar fd))), (mT, .inl (cI, 35, .inl (rowA g)))]) (q0 := 0) (c_X4_moveAll_b l D cI cJ cB cS xa m mR mF mT mB mTp mBo mSo mSh mLe mIm mBf tn so be te va wd gd ik mT (rowA gg) (rowA g) ) mV_X4_moveAll kM_X4_151 dX4_level_42 rfl rfl [0, 1, 3] rfl rfl rfl rfl rfl rfl rfl rfl ⟨Nat.le_of_ble_eq_true rfl, Nat.le_of_ble_eq_true rfl, Nat.le_of_ble_eq_true rfl⟩ ?_
          refine z_iload_n (pc := 45) dX4_level_45 1 rfl ?_
          refine z_sipush (pc := 46) dX4_level_46 (by decide) ?_
          refine z_icmp_le (pc := 49) (tgt := 61) dX4_level_49 (by decide) (by omega) (by omega) (fun h49 => ?_) (fun h49 => ?_)
          · skip
            refine z_iload_n (pc := 61) dX4_level_61 1 rfl ?_
            have e9 : opLevel g fd = ((iI i), fd) := by
              have ef := fst_hit (fun i => diffG (minsG g (Int.toNat i)) < 2) 401 i (by omega) (by omega) (by show diffG (minsG g (Int.toNat i)) < 2; rw [← hg]; omega) hq
              unfold opLevel foundI
              rw [ef, if_pos (by omega)]
            exact z_iretE (pc := 62) dX4_level_62 (rowA g) trivial (by rw [e9]) (by rw [e9])
          · skip
            exfalso; omega
        · skip
          refine z_aload_n (pc := 26) dX4_level_26 0 rfl ?_
          refine z_callV (pc := 27) (st := []) (st2 := []) (ws2 := [(m, .inr (4, [.ref mR, .ref mF, .ref mT, .ref mB, .ref mTp, .int (iI tn), .int (iI so), .int (iI be), .int (iI te), .long wd, .int (iI va), .int gd, .ref mBo, .ref mSo, .ref mSh, .ref mLe, .ref mIm, .ref mBf, .int ik])), (mR, .inl (cI, 35, .inl (rowA (minG gg)))), (mF, .inl (cI, 7, .inl (ar fd))), (mT, .inl (cI, 35, .inl (rowA g)))]) (q0 := 0) (c_X4_oneMinute l D cI cJ cB cS xa m mR mF mT mB mTp mBo mSo mSh mLe mIm mBf tn so be te va wd gd ik gg okg (by omega)) mV_X4_oneMinute kM_X4_143 dX4_level_27 rfl rfl [0, 1] rfl rfl rfl rfl rfl rfl rfl rfl ⟨Nat.le_of_ble_eq_true rfl, Nat.le_of_ble_eq_true rfl, Nat.le_of_ble_eq_true rfl⟩ ?_
          have ok27_2 : Ok (minG gg) := minG_ok okg (by omega)
          have f27_3 := minG_40 gg
          have f27_4 := minG_41 gg
          have f27_5 := minG_42 gg
          refine z_iinc (pc := 30) (lv2 := [(1, .int (iI (i + 1))), (0, .ref m)]) dX4_level_30 1 rfl (by decide) rfl ?_
          refine z_goto (pc := 33) (tgt := 11) dX4_level_33 (by decide) ?_
          refine z_lv (lv2 := [(0, .ref m), (1, .int (iI (i + 1)))]) [1, 0] rfl ?_
          exact ih11 (i + 1) (minG gg) (by omega) (by omega) (by rw [minsG_s _ hi0, ← hg]) (lt_si hq (by rw [← hg]; omega)) (by omega)
  refine z_lv (lv2 := [(0, .ref m), (1, .int (iI 0))]) [1, 0] rfl ?_
  exact LP11 _ 0 g (by omega) (by omega) (by rfl) (fun j h0 h1 => absurd h1 (by omega)) (Nat.lt_succ_self _)
set_option maxHeartbeats 8000000 in
set_option maxRecDepth 100000 in
theorem c_X4_comes (l : Launch) (D : va_G) (cI cJ cB cS : ClassId) (xa : XA) (m mR mF mT mB mTp mBo mSo mSh mLe mIm mBf : Nat) (tn so be te va : Int) (wd : Int64) (gd ik : Int32) (g : Gd) (fd : FF) (ft : Nat → Int32) (c v : Int) (ok : Ok g) (rc : inr c) (rv : inr v) (hm : g 4 0 ≤ 99999) : CtE (S := (Nat → Int32)) l D cI cJ cB cS xa yX4_comes cX4_comes 4 (some .int) 4 91 [.ref m, .int (iI c), .int (iI v)] [(m, .inr (4, [.ref mR, .ref mF, .ref mT, .ref mB, .ref mTp, .int (iI tn), .int (iI so), .int (iI be), .int (iI te), .long wd, .int (iI va), .int gd, .ref mBo, .ref mSo, .ref mSh, .ref mLe, .ref mIm, .ref mBf, .int ik])), (mR, .inl (cI, 35, .inl (rowA g))), (mF, .inl (cI, 7, .inl (ar fd))), (mT, .inl (cI, 35, .inl ft))] (fun ft2 : (Nat → Int32) => True) (fun ft2 : (Nat → Int32) => (some (.int ((opComes g fd c v).1)))) (fun ft2 : (Nat → Int32) => [(m, .inr (4, [.ref mR, .ref mF, .ref mT, .ref mB, .ref mTp, .int (iI tn), .int (iI so), .int (iI be), .int (iI te), .long wd, .int (iI va), .int gd, .ref mBo, .ref mSo, .ref mSh, .ref mLe, .ref mIm, .ref mBf, .int ik])), (mR, .inl (cI, 35, .inl (rowA g))), (mF, .inl (cI, 7, .inl (ar ((opComes g fd c v).2)))), (mT, .inl (cI, 35, .inl ft2))]) := by
  have o0 := ok0 ok
  have o1 := ok1 ok
  have o2 := ok2 ok
  refine CtE.of (own := RX4) (lv := [(0, .ref m), (1, .int (iI c)), (2, .int (iI v))]) (by decide) rfl rfl (Nat.le_of_ble_eq_true rfl) ?_
  intro xp xe xs xm xb xt xc
  refine z_aload_n (pc := 0) dX4_comes_0 0 rfl ?_
  refine z_iload_n (pc := 1) dX4_comes_1 1 rfl ?_
  refine z_callV (pc := 2) (st := []) (st2 := [.int (bI (0 ≤ c ∧ c < g 4 2))]) (ws2 := [(m, .inr (4, [.ref mR, .ref mF, .ref mT, .ref mB, .ref mTp, .int (iI tn), .int (iI so), .int (iI be), .int (iI te), .long wd, .int (iI va), .int gd, .ref mBo, .ref mSo, .ref mSh, .ref mLe, .ref mIm, .ref mBf, .int ik])), (mR, .inl (cI, 35, .inl (rowA g))), (mF, .inl (cI, 7, .inl (ar fd))), (mT, .inl (cI, 35, .inl ft))]) (q0 := 0) (c_X4_isOne l D cI cJ cB cS xa m mR mF mT mB mTp mBo mSo mSh mLe mIm mBf tn so be te va wd gd ik g c ok (by omega)) mV_X4_isOne kM_X4_98 dX4_comes_2 rfl rfl [0, 1] rfl rfl rfl rfl rfl rfl rfl rfl ⟨Nat.le_of_ble_eq_true rfl, Nat.le_of_ble_eq_true rfl, Nat.le_of_ble_eq_true rfl⟩ ?_
  refine z_ifb_eq (pc := 5) (tgt := 19) dX4_comes_5 (by decide) (fun h5 => ?_) (fun h5 => ?_)
  · skip
    refine z_aload_n (pc := 19) dX4_comes_19 0 rfl ?_
    refine z_ldc (pc := 20) (n := -1000000001) kC_X4_44 dX4_comes_20 (by decide) ?_
    refine z_callV (pc := 22) (st := []) (st2 := [.int (iI (-1000000001))]) (ws2 := [(m, .inr (4, [.ref mR, .ref mF, .ref mT, .ref mB, .ref mTp, .int (iI tn), .int (iI so), .int (iI be), .int (iI te), .long wd, .int (iI va), .int gd, .ref mBo, .ref mSo, .ref mSh, .ref mLe, .ref mIm, .ref mBf, .int ik])), (mR, .inl (cI, 35, .inl (rowA g))), (mF, .inl (cI, 7, .inl (ar (fnd fd 0)))), (mT, .inl (cI, 35, .inl ft))]) (q0 := 0) (c_X4_finds l D cI cJ cB cS xa m mR mF mT mB mTp mBo mSo mSh mLe mIm mBf tn so be te va wd gd ik fd (-1000000001) 0 (by omega) (by omega)) mV_X4_finds kM_X4_53 dX4_comes_22 rfl rfl [0, 2] rfl rfl rfl rfl rfl rfl rfl rfl ⟨Nat.le_of_ble_eq_true rfl, Nat.le_of_ble_eq_true rfl, Nat.le_of_ble_eq_true rfl⟩ ?_
    have e9 : opComes g fd c v = ((iI (-1000000001)), fnd fd 0) := by
      unfold opComes; try unfold bI
      (repeat' split) <;> first | (exfalso; omega) | contradiction | rfl
    exact z_iretE (pc := 25) dX4_comes_25 ft trivial (by rw [e9]) (by rw [e9])
  · skip
    refine z_iload_n (pc := 8) dX4_comes_8 2 rfl ?_
    refine z_iconst (pc := 9) dX4_comes_9 ?_
    refine z_sipush (pc := 10) dX4_comes_10 (by decide) ?_
    refine z_callS (pc := 13) (st := []) (st2 := [.int (bI (0 ≤ v ∧ v ≤ 200))]) (ws2 := [(m, .inr (4, [.ref mR, .ref mF, .ref mT, .ref mB, .ref mTp, .int (iI tn), .int (iI so), .int (iI be), .int (iI te), .long wd, .int (iI va), .int gd, .ref mBo, .ref mSo, .ref mSh, .ref mLe, .ref mIm, .ref mBf, .int ik])), (mR, .inl (cI, 35, .inl (rowA g))), (mF, .inl (cI, 7, .inl (ar fd))), (mT, .inl (cI, 35, .inl ft))]) (c_X4_in l D cI cJ cB cS xa v 0 200 (by omega) (by omega) (by omega)) mS_X4_in kM_X4_45 dX4_comes_13 [] rfl rfl rfl rfl rfl rfl rfl rfl ⟨Nat.le_of_ble_eq_true rfl, Nat.le_of_ble_eq_true rfl, Nat.le_of_ble_eq_true rfl⟩ ?_
    refine z_ifb_ne (pc := 16) (tgt := 26) dX4_comes_16 (by decide) (fun h16 => ?_) (fun h16 => ?_)
    · skip
      refine z_aload_n (pc := 26) dX4_comes_26 0 rfl ?_
      refine z_iconst (pc := 27) dX4_comes_27 ?_
      refine z_aload_n (pc := 28) dX4_comes_28 0 rfl ?_
      refine z_get (pc := 29) (q0 := 0) (v := .ref mT) fL_X4_16 dX4_comes_29 rfl rfl ?_
      refine z_callV (pc := 32) (st := []) (st2 := []) (ws2 := [(m, .inr (4, [.ref mR, .ref mF, .ref mT, .ref mB, .ref mTp, .int (iI tn), .int (iI so), .int (iI be), .int (iI te), .long wd, .int (iI va), .int gd, .ref mBo, .ref mSo, .ref mSh, .ref mLe, .ref mIm, .ref mBf, .int ik])), (mR, .inl (cI, 35, .inl (rowA g))), (mF, .inl (cI, 7, .inl (ar fd))), (mT, .inl (cI, 35, .inl (rowA g)))]) (q0 := 0) (c_X4_moveAll l D cI cJ cB cS xa m mR mF mT mB mTp mBo mSo mSh mLe mIm mBf tn so be te va wd gd ik mT (rowA g) ft ) mV_X4_moveAll kM_X4_151 dX4_comes_32 rfl rfl [0, 1, 3] rfl rfl rfl rfl rfl rfl rfl rfl ⟨Nat.le_of_ble_eq_true rfl, Nat.le_of_ble_eq_true rfl, Nat.le_of_ble_eq_true rfl⟩ ?_
      refine z_iconst (pc := 35) dX4_comes_35 ?_
      refine z_istore_n (pc := 36) (lv2 := [(3, .int (iI 0)), (0, .ref m), (1, .int (iI c)), (2, .int (iI v))]) dX4_comes_36 rfl (by decide) rfl ?_
      have LP37 : ∀ (nn_ : Nat) (i : Int) (gg : Gd), (0 ≤ i) → (i ≤ 401) → (gg = minsG g i.toNat) → (∀ j : Int, 0 ≤ j → j < i → ¬ (v ≤ minsG g (Int.toNat j) 1 c)) → (401 - i).toNat < nn_ → Z xp l xe { frames := 4, cells := 0, slots := 0, locals := 91 } xs xm ([.ref m, .int (iI c), .int (iI v)] : List Value).toArray xb xt xc 0 0 (MQ xb (Cq (S := (Nat → Int32)) D [(m, .inr (4, [.ref mR, .ref mF, .ref mT, .ref mB, .ref mTp, .int (iI tn), .int (iI so), .int (iI be), .int (iI te), .long wd, .int (iI va), .int gd, .ref mBo, .ref mSo, .ref mSh, .ref mLe, .ref mIm, .ref mBf, .int ik])), (mR, .inl (cI, 35, .inl (rowA g))), (mF, .inl (cI, 7, .inl (ar fd))), (mT, .inl (cI, 35, .inl ft))] (fun ft2 : (Nat → Int32) => True) (fun ft2 : (Nat → Int32) => (some (.int ((opComes g fd c v).1)))) (fun ft2 : (Nat → Int32) => [(m, .inr (4, [.ref mR, .ref mF, .ref mT, .ref mB, .ref mTp, .int (iI tn), .int (iI so), .int (iI be), .int (iI te), .long wd, .int (iI va), .int gd, .ref mBo, .ref mSo, .ref mSh, .ref mLe, .ref mIm, .ref mBf, .int ik])), (mR, .inl (cI, 35, .inl (rowA g))), (mF, .inl (cI, 7, .inl (ar ((opComes g fd c v).2)))), (mT, .inl (cI, 35, .inl ft2))])) ([.ref m, .int (iI c), .int (iI v)] : List Value).toArray xs 0 0 (va_A0 [(m, .inr (4, [.ref mR, .ref mF, .ref mT, .ref mB, .ref mTp, .int (iI tn), .int (iI so), .int (iI be), .int (iI te), .long wd, .int (iI va), .int gd, .ref mBo, .ref mSo, .ref mSh, .ref mLe, .ref mIm, .ref mBf, .int ik])), (mR, .inl (cI, 35, .inl (rowA g))), (mF, .inl (cI, 7, .inl (ar fd))), (mT, .inl (cI, 35, .inl ft))])) cX4_comes RX4 4 (some .int) D cI cJ cB cS xa (va_A0 [(m, .inr (4, [.ref mR, .ref mF, .ref mT, .ref mB, .ref mTp, .int (iI tn), .int (iI so), .int (iI be), .int (iI te), .long wd, .int (iI va), .int gd, .ref mBo, .ref mSo, .ref mSh, .ref mLe, .ref mIm, .ref mBf, .int ik])), (mR, .inl (cI, 35, .inl (rowA g))), (mF, .inl (cI, 7, .inl (ar fd))), (mT, .inl (cI, 35, .inl ft))]) [(m, .inr (4, [.ref mR, .ref mF, .ref mT, .ref mB, .ref mTp, .int (iI tn), .int (iI so), .int (iI be), .int (iI te), .long wd, .int (iI va), .int gd, .ref mBo, .ref mSo, .ref mSh, .ref mLe, .ref mIm, .ref mBf, .int ik])), (mR, .inl (cI, 35, .inl (rowA gg))), (mF, .inl (cI, 7, .inl (ar fd))), (mT, .inl (cI, 35, .inl (rowA g)))] [(0, .ref m), (1, .int (iI c)), (2, .int (iI v)), (3, .int (iI i))] 37 [] := by
        intro nn_
        induction nn_ with
        | zero => intro i gg hi0 hi1 hg hq hms; exact absurd hms (Nat.not_lt_zero _)
        | succ nn_ ih =>
          intro i gg hi0 hi1 hg hq hms
          have okg : Ok gg := by rw [hg]; exact minsG_ok ok _ (by omega)
          have q0 : gg 4 0 = g 4 0 + i.toNat := by rw [hg]; exact minsG_40 g _
          have q2 : gg 4 2 = g 4 2 := by rw [hg]; exact minsG_42 g _
          have ih37 := ih
          clear ih
          refine z_iload_n (pc := 37) dX4_comes_37 3 rfl ?_
          refine z_sipush (pc := 38) dX4_comes_38 (by decide) ?_
          refine z_icmp_gt (pc := 41) (tgt := 64) dX4_comes_41 (by decide) (by omega) (by omega) (fun h41 => ?_) (fun h41 => ?_)
          · skip
            refine z_aload_n (pc := 64) dX4_comes_64 0 rfl ?_
            refine z_iconst (pc := 65) dX4_comes_65 ?_
            refine z_aload_n (pc := 66) dX4_comes_66 0 rfl ?_
            refine z_get (pc := 67) (q0 := 0) (v := .ref mT) fL_X4_16 dX4_comes_67 rfl rfl ?_
            refine z_callV (pc := 70) (st := []) (st2 := []) (ws2 := [(m, .inr (4, [.ref mR, .ref mF, .ref mT, .ref mB, .ref mTp, .int (iI tn), .int (iI so), .int (iI be), .int (iI te), .long wd, .int (iI va), .int gd, .ref mBo, .ref mSo, .ref mSh, .ref mLe, .ref mIm, .ref mBf, .int ik])), (mR, .inl (cI, 35, .inl (rowA g))), (mF, .inl (cI, 7, .inl (ar fd))), (mT, .inl (cI, 35, .inl (rowA g)))]) (q0 := 0) (c_X4_moveAll_b l D cI cJ cB cS xa m mR mF mT mB mTp mBo mSo mSh mLe mIm mBf tn so be te va wd gd ik mT (rowA gg) (rowA g) ) mV_X4_moveAll kM_X4_151 dX4_comes_70 rfl rfl [0, 1, 3] rfl rfl rfl rfl rfl rfl rfl rfl ⟨Nat.le_of_ble_eq_true rfl, Nat.le_of_ble_eq_true rfl, Nat.le_of_ble_eq_true rfl⟩ ?_
            refine z_iload_n (pc := 73) dX4_comes_73 3 rfl ?_
            refine z_sipush (pc := 74) dX4_comes_74 (by decide) ?_
            refine z_icmp_le (pc := 77) (tgt := 89) dX4_comes_77 (by decide) (by omega) (by omega) (fun h77 => ?_) (fun h77 => ?_)
            · skip
              exfalso; omega
            · skip
              refine z_aload_n (pc := 80) dX4_comes_80 0 rfl ?_
              refine z_ldc (pc := 81) (n := -1000000004) kC_X4_158 dX4_comes_81 (by decide) ?_
              refine z_callV (pc := 83) (st := []) (st2 := [.int (iI (-1000000004))]) (ws2 := [(m, .inr (4, [.ref mR, .ref mF, .ref mT, .ref mB, .ref mTp, .int (iI tn), .int (iI so), .int (iI be), .int (iI te), .long wd, .int (iI va), .int gd, .ref mBo, .ref mSo, .ref mSh, .ref mLe, .ref mIm, .ref mBf, .int ik])), (mR, .inl (cI, 35, .inl (rowA g))), (mF, .inl (cI, 7, .inl (ar (fnd fd 3)))), (mT, .inl (cI, 35, .inl (rowA g)))]) (q0 := 0) (c_X4_finds l D cI cJ cB cS xa m mR mF mT mB mTp mBo mSo mSh mLe mIm mBf tn so be te va wd gd ik fd (-1000000004) 3 (by omega) (by omega)) mV_X4_finds kM_X4_53 dX4_comes_83 rfl rfl [0, 2] rfl rfl rfl rfl rfl rfl rfl rfl ⟨Nat.le_of_ble_eq_true rfl, Nat.le_of_ble_eq_true rfl, Nat.le_of_ble_eq_true rfl⟩ ?_
              refine z_goto (pc := 86) (tgt := 90) dX4_comes_86 (by decide) ?_
              have e9 : opComes g fd c v = ((iI (-1000000004)), fnd fd 3) := by
                have ef := fst_none (fun i => v ≤ minsG g (Int.toNat i) 1 c) 401 (fun j h0 h1 => hq j h0 (by omega))
                unfold opComes foundI
                rw [if_pos ⟨⟨by omega, by omega⟩, by omega, by omega⟩]
                rw [ef, if_neg (by omega)]
                rfl
              exact z_iretE (pc := 90) dX4_comes_90 (rowA g) trivial (by rw [e9]) (by rw [e9])
          · skip
            refine z_aload_n (pc := 44) dX4_comes_44 0 rfl ?_
            refine z_iload_n (pc := 45) dX4_comes_45 1 rfl ?_
            refine z_iconst (pc := 46) dX4_comes_46 ?_
            refine z_callV (pc := 47) (st := []) (st2 := [.int (iI (gg 1 c))]) (ws2 := [(m, .inr (4, [.ref mR, .ref mF, .ref mT, .ref mB, .ref mTp, .int (iI tn), .int (iI so), .int (iI be), .int (iI te), .long wd, .int (iI va), .int gd, .ref mBo, .ref mSo, .ref mSh, .ref mLe, .ref mIm, .ref mBf, .int ik])), (mR, .inl (cI, 35, .inl (rowA gg))), (mF, .inl (cI, 7, .inl (ar fd))), (mT, .inl (cI, 35, .inl (rowA g)))]) (q0 := 0) (c_X4_its l D cI cJ cB cS xa m mR mF mT mB mTp mBo mSo mSh mLe mIm mBf tn so be te va wd gd ik gg c 1 (by omega) (by omega)) mV_X4_its kM_X4_57 dX4_comes_47 rfl rfl [0, 1] rfl rfl rfl rfl rfl rfl rfl rfl ⟨Nat.le_of_ble_eq_true rfl, Nat.le_of_ble_eq_true rfl, Nat.le_of_ble_eq_true rfl⟩ ?_
            have b1 := okH okg c
            refine z_iload_n (pc := 50) dX4_comes_50 2 rfl ?_
            refine z_icmp_ge (pc := 51) (tgt := 64) dX4_comes_51 (by decide) (by omega) (by omega) (fun h51 => ?_) (fun h51 => ?_)
            · skip
              refine z_aload_n (pc := 64) dX4_comes_64 0 rfl ?_
              refine z_iconst (pc := 65) dX4_comes_65 ?_
              refine z_aload_n (pc := 66) dX4_comes_66 0 rfl ?_
              refine z_get (pc := 67) (q0 := 0) (v := .ref mT) fL_X4_16 dX4_comes_67 rfl rfl ?_
              refine z_callV (pc := 70) (st := []) (st2 := []) (ws2 := [(m, .inr (4, [.ref mR, .ref mF, .ref mT, .ref mB, .ref mTp, .int (iI tn), .int (iI so), .int (iI be), .int (iI te), .long wd, .int (iI va), .int gd, .ref mBo, .ref mSo, .ref mSh, .ref mLe, .ref mIm, .ref mBf, .int ik])), (mR, .inl (cI, 35, .inl (rowA g))), (mF, .inl (cI, 7, .inl (ar fd))), (mT, .inl (cI, 35, .inl (rowA g)))]) (q0 := 0) (c_X4_moveAll_b l D cI cJ cB cS xa m mR mF mT mB mTp mBo mSo mSh mLe mIm mBf tn so be te va wd gd ik mT (rowA gg) (rowA g) ) mV_X4_moveAll kM_X4_151 dX4_comes_70 rfl rfl [0, 1, 3] rfl rfl rfl rfl rfl rfl rfl rfl ⟨Nat.le_of_ble_eq_true rfl, Nat.le_of_ble_eq_true rfl, Nat.le_of_ble_eq_true rfl⟩ ?_
              refine z_iload_n (pc := 73) dX4_comes_73 3 rfl ?_
              refine z_sipush (pc := 74) dX4_comes_74 (by decide) ?_
              refine z_icmp_le (pc := 77) (tgt := 89) dX4_comes_77 (by decide) (by omega) (by omega) (fun h77 => ?_) (fun h77 => ?_)
              · skip
                refine z_iload_n (pc := 89) dX4_comes_89 3 rfl ?_
                have e9 : opComes g fd c v = ((iI i), fd) := by
                  have ef := fst_hit (fun i => v ≤ minsG g (Int.toNat i) 1 c) 401 i (by omega) (by omega) (by show v ≤ minsG g (Int.toNat i) 1 c; rw [← hg]; omega) hq
                  unfold opComes foundI
                  rw [if_pos ⟨⟨by omega, by omega⟩, by omega, by omega⟩]
                  rw [ef, if_pos (by omega)]
                exact z_iretE (pc := 90) dX4_comes_90 (rowA g) trivial (by rw [e9]) (by rw [e9])
              · skip
                exfalso; omega
            · skip
              refine z_aload_n (pc := 54) dX4_comes_54 0 rfl ?_
              refine z_callV (pc := 55) (st := []) (st2 := []) (ws2 := [(m, .inr (4, [.ref mR, .ref mF, .ref mT, .ref mB, .ref mTp, .int (iI tn), .int (iI so), .int (iI be), .int (iI te), .long wd, .int (iI va), .int gd, .ref mBo, .ref mSo, .ref mSh, .ref mLe, .ref mIm, .ref mBf, .int ik])), (mR, .inl (cI, 35, .inl (rowA (minG gg)))), (mF, .inl (cI, 7, .inl (ar fd))), (mT, .inl (cI, 35, .inl (rowA g)))]) (q0 := 0) (c_X4_oneMinute l D cI cJ cB cS xa m mR mF mT mB mTp mBo mSo mSh mLe mIm mBf tn so be te va wd gd ik gg okg (by omega)) mV_X4_oneMinute kM_X4_143 dX4_comes_55 rfl rfl [0, 1] rfl rfl rfl rfl rfl rfl rfl rfl ⟨Nat.le_of_ble_eq_true rfl, Nat.le_of_ble_eq_true rfl, Nat.le_of_ble_eq_true rfl⟩ ?_
              have ok55_2 : Ok (minG gg) := minG_ok okg (by omega)
              have f55_3 := minG_40 gg
              have f55_4 := minG_41 gg
              have f55_5 := minG_42 gg
              refine z_iinc (pc := 58) (lv2 := [(3, .int (iI (i + 1))), (0, .ref m), (1, .int (iI c)), (2, .int (iI v))]) dX4_comes_58 3 rfl (by decide) rfl ?_
              refine z_goto (pc := 61) (tgt := 37) dX4_comes_61 (by decide) ?_
              refine z_lv (lv2 := [(0, .ref m), (1, .int (iI c)), (2, .int (iI v)), (3, .int (iI (i + 1)))]) [1, 2, 3, 0] rfl ?_
              exact ih37 (i + 1) (minG gg) (by omega) (by omega) (by rw [minsG_s _ hi0, ← hg]) (lt_si hq (by rw [← hg]; omega)) (by omega)
      refine z_lv (lv2 := [(0, .ref m), (1, .int (iI c)), (2, .int (iI v)), (3, .int (iI 0))]) [1, 2, 3, 0] rfl ?_
      exact LP37 _ 0 g (by omega) (by omega) (by rfl) (fun j h0 h1 => absurd h1 (by omega)) (Nat.lt_succ_self _)
    · skip
      refine z_aload_n (pc := 19) dX4_comes_19 0 rfl ?_
      refine z_ldc (pc := 20) (n := -1000000001) kC_X4_44 dX4_comes_20 (by decide) ?_
      refine z_callV (pc := 22) (st := []) (st2 := [.int (iI (-1000000001))]) (ws2 := [(m, .inr (4, [.ref mR, .ref mF, .ref mT, .ref mB, .ref mTp, .int (iI tn), .int (iI so), .int (iI be), .int (iI te), .long wd, .int (iI va), .int gd, .ref mBo, .ref mSo, .ref mSh, .ref mLe, .ref mIm, .ref mBf, .int ik])), (mR, .inl (cI, 35, .inl (rowA g))), (mF, .inl (cI, 7, .inl (ar (fnd fd 0)))), (mT, .inl (cI, 35, .inl ft))]) (q0 := 0) (c_X4_finds l D cI cJ cB cS xa m mR mF mT mB mTp mBo mSo mSh mLe mIm mBf tn so be te va wd gd ik fd (-1000000001) 0 (by omega) (by omega)) mV_X4_finds kM_X4_53 dX4_comes_22 rfl rfl [0, 2] rfl rfl rfl rfl rfl rfl rfl rfl ⟨Nat.le_of_ble_eq_true rfl, Nat.le_of_ble_eq_true rfl, Nat.le_of_ble_eq_true rfl⟩ ?_
      have e9 : opComes g fd c v = ((iI (-1000000001)), fnd fd 0) := by
        unfold opComes; try unfold bI
        (repeat' split) <;> first | (exfalso; omega) | contradiction | rfl
      exact z_iretE (pc := 25) dX4_comes_25 ft trivial (by rw [e9]) (by rw [e9])
set_option maxHeartbeats 8000000 in
set_option maxRecDepth 100000 in
theorem c_X4_dust (l : Launch) (D : va_G) (cI cJ cB cS : ClassId) (xa : XA) (m mR mF mT mB mTp mBo mSo mSh mLe mIm mBf : Nat) (tn so be te va : Int) (wd : Int64) (gd ik : Int32) (g : Gd) (fd : FF) (ft : Nat → Int32) (c : Int) (ok : Ok g) (rc : inr c) (hm : g 4 0 ≤ 99999) : CtE (S := (Nat → Int32)) l D cI cJ cB cS xa yX4_dust cX4_dust 3 (some .int) 4 91 [.ref m, .int (iI c)] [(m, .inr (4, [.ref mR, .ref mF, .ref mT, .ref mB, .ref mTp, .int (iI tn), .int (iI so), .int (iI be), .int (iI te), .long wd, .int (iI va), .int gd, .ref mBo, .ref mSo, .ref mSh, .ref mLe, .ref mIm, .ref mBf, .int ik])), (mR, .inl (cI, 35, .inl (rowA g))), (mF, .inl (cI, 7, .inl (ar fd))), (mT, .inl (cI, 35, .inl ft))] (fun ft2 : (Nat → Int32) => True) (fun ft2 : (Nat → Int32) => (some (.int ((opDust g fd c).1)))) (fun ft2 : (Nat → Int32) => [(m, .inr (4, [.ref mR, .ref mF, .ref mT, .ref mB, .ref mTp, .int (iI tn), .int (iI so), .int (iI be), .int (iI te), .long wd, .int (iI va), .int gd, .ref mBo, .ref mSo, .ref mSh, .ref mLe, .ref mIm, .ref mBf, .int ik])), (mR, .inl (cI, 35, .inl (rowA g))), (mF, .inl (cI, 7, .inl (ar ((opDust g fd c).2)))), (mT, .inl (cI, 35, .inl ft2))]) := by
  have o0 := ok0 ok
  have o1 := ok1 ok
  have o2 := ok2 ok
  refine CtE.of (own := RX4) (lv := [(0, .ref m), (1, .int (iI c))]) (by decide) rfl rfl (Nat.le_of_ble_eq_true rfl) ?_
  intro xp xe xs xm xb xt xc
  refine z_aload_n (pc := 0) dX4_dust_0 0 rfl ?_
  refine z_iload_n (pc := 1) dX4_dust_1 1 rfl ?_
  refine z_callV (pc := 2) (st := []) (st2 := [.int (bI (0 ≤ c ∧ c < g 4 2))]) (ws2 := [(m, .inr (4, [.ref mR, .ref mF, .ref mT, .ref mB, .ref mTp, .int (iI tn), .int (iI so), .int (iI be), .int (iI te), .long wd, .int (iI va), .int gd, .ref mBo, .ref mSo, .ref mSh, .ref mLe, .ref mIm, .ref mBf, .int ik])), (mR, .inl (cI, 35, .inl (rowA g))), (mF, .inl (cI, 7, .inl (ar fd))), (mT, .inl (cI, 35, .inl ft))]) (q0 := 0) (c_X4_isOne l D cI cJ cB cS xa m mR mF mT mB mTp mBo mSo mSh mLe mIm mBf tn so be te va wd gd ik g c ok (by omega)) mV_X4_isOne kM_X4_98 dX4_dust_2 rfl rfl [0, 1] rfl rfl rfl rfl rfl rfl rfl rfl ⟨Nat.le_of_ble_eq_true rfl, Nat.le_of_ble_eq_true rfl, Nat.le_of_ble_eq_true rfl⟩ ?_
  refine z_ifb_ne (pc := 5) (tgt := 15) dX4_dust_5 (by decide) (fun h5 => ?_) (fun h5 => ?_)
  · skip
    refine z_aload_n (pc := 15) dX4_dust_15 0 rfl ?_
    refine z_iconst (pc := 16) dX4_dust_16 ?_
    refine z_aload_n (pc := 17) dX4_dust_17 0 rfl ?_
    refine z_get (pc := 18) (q0 := 0) (v := .ref mT) fL_X4_16 dX4_dust_18 rfl rfl ?_
    refine z_callV (pc := 21) (st := []) (st2 := []) (ws2 := [(m, .inr (4, [.ref mR, .ref mF, .ref mT, .ref mB, .ref mTp, .int (iI tn), .int (iI so), .int (iI be), .int (iI te), .long wd, .int (iI va), .int gd, .ref mBo, .ref mSo, .ref mSh, .ref mLe, .ref mIm, .ref mBf, .int ik])), (mR, .inl (cI, 35, .inl (rowA g))), (mF, .inl (cI, 7, .inl (ar fd))), (mT, .inl (cI, 35, .inl (rowA g)))]) (q0 := 0) (c_X4_moveAll l D cI cJ cB cS xa m mR mF mT mB mTp mBo mSo mSh mLe mIm mBf tn so be te va wd gd ik mT (rowA g) ft ) mV_X4_moveAll kM_X4_151 dX4_dust_21 rfl rfl [0, 1, 3] rfl rfl rfl rfl rfl rfl rfl rfl ⟨Nat.le_of_ble_eq_true rfl, Nat.le_of_ble_eq_true rfl, Nat.le_of_ble_eq_true rfl⟩ ?_
    refine z_iconst (pc := 24) dX4_dust_24 ?_
    refine z_istore_n (pc := 25) (lv2 := [(2, .int (iI 0)), (0, .ref m), (1, .int (iI c))]) dX4_dust_25 rfl (by decide) rfl ?_
    have LP26 : ∀ (nn_ : Nat) (i : Int) (gg : Gd), (0 ≤ i) → (i ≤ 401) → (gg = minsG g i.toNat) → (∀ j : Int, 0 ≤ j → j < i → ¬ (minsG g (Int.toNat j) 1 c ≤ 0)) → (401 - i).toNat < nn_ → Z xp l xe { frames := 4, cells := 0, slots := 0, locals := 91 } xs xm ([.ref m, .int (iI c)] : List Value).toArray xb xt xc 0 0 (MQ xb (Cq (S := (Nat → Int32)) D [(m, .inr (4, [.ref mR, .ref mF, .ref mT, .ref mB, .ref mTp, .int (iI tn), .int (iI so), .int (iI be), .int (iI te), .long wd, .int (iI va), .int gd, .ref mBo, .ref mSo, .ref mSh, .ref mLe, .ref mIm, .ref mBf, .int ik])), (mR, .inl (cI, 35, .inl (rowA g))), (mF, .inl (cI, 7, .inl (ar fd))), (mT, .inl (cI, 35, .inl ft))] (fun ft2 : (Nat → Int32) => True) (fun ft2 : (Nat → Int32) => (some (.int ((opDust g fd c).1)))) (fun ft2 : (Nat → Int32) => [(m, .inr (4, [.ref mR, .ref mF, .ref mT, .ref mB, .ref mTp, .int (iI tn), .int (iI so), .int (iI be), .int (iI te), .long wd, .int (iI va), .int gd, .ref mBo, .ref mSo, .ref mSh, .ref mLe, .ref mIm, .ref mBf, .int ik])), (mR, .inl (cI, 35, .inl (rowA g))), (mF, .inl (cI, 7, .inl (ar ((opDust g fd c).2)))), (mT, .inl (cI, 35, .inl ft2))])) ([.ref m, .int (iI c)] : List Value).toArray xs 0 0 (va_A0 [(m, .inr (4, [.ref mR, .ref mF, .ref mT, .ref mB, .ref mTp, .int (iI tn), .int (iI so), .int (iI be), .int (iI te), .long wd, .int (iI va), .int gd, .ref mBo, .ref mSo, .ref mSh, .ref mLe, .ref mIm, .ref mBf, .int ik])), (mR, .inl (cI, 35, .inl (rowA g))), (mF, .inl (cI, 7, .inl (ar fd))), (mT, .inl (cI, 35, .inl ft))])) cX4_dust RX4 3 (some .int) D cI cJ cB cS xa (va_A0 [(m, .inr (4, [.ref mR, .ref mF, .ref mT, .ref mB, .ref mTp, .int (iI tn), .int (iI so), .int (iI be), .int (iI te), .long wd, .int (iI va), .int gd, .ref mBo, .ref mSo, .ref mSh, .ref mLe, .ref mIm, .ref mBf, .int ik])), (mR, .inl (cI, 35, .inl (rowA g))), (mF, .inl (cI, 7, .inl (ar fd))), (mT, .inl (cI, 35, .inl ft))]) [(m, .inr (4, [.ref mR, .ref mF, .ref mT, .ref mB, .ref mTp, .int (iI tn), .int (iI so), .int (iI be), .int (iI te), .long wd, .int (iI va), .int gd, .ref mBo, .ref mSo, .ref mSh, .ref mLe, .ref mIm, .ref mBf, .int ik])), (mR, .inl (cI, 35, .inl (rowA gg))), (mF, .inl (cI, 7, .inl (ar fd))), (mT, .inl (cI, 35, .inl (rowA g)))] [(0, .ref m), (1, .int (iI c)), (2, .int (iI i))] 26 [] := by
      intro nn_
      induction nn_ with
      | zero => intro i gg hi0 hi1 hg hq hms; exact absurd hms (Nat.not_lt_zero _)
      | succ nn_ ih =>
        intro i gg hi0 hi1 hg hq hms
        have okg : Ok gg := by rw [hg]; exact minsG_ok ok _ (by omega)
        have q0 : gg 4 0 = g 4 0 + i.toNat := by rw [hg]; exact minsG_40 g _
        have q2 : gg 4 2 = g 4 2 := by rw [hg]; exact minsG_42 g _
        have ih26 := ih
        clear ih
        refine z_iload_n (pc := 26) dX4_dust_26 2 rfl ?_
        refine z_sipush (pc := 27) dX4_dust_27 (by decide) ?_
        refine z_icmp_gt (pc := 30) (tgt := 52) dX4_dust_30 (by decide) (by omega) (by omega) (fun h30 => ?_) (fun h30 => ?_)
        · skip
          refine z_aload_n (pc := 52) dX4_dust_52 0 rfl ?_
          refine z_iconst (pc := 53) dX4_dust_53 ?_
          refine z_aload_n (pc := 54) dX4_dust_54 0 rfl ?_
          refine z_get (pc := 55) (q0 := 0) (v := .ref mT) fL_X4_16 dX4_dust_55 rfl rfl ?_
          refine z_callV (pc := 58) (st := []) (st2 := []) (ws2 := [(m, .inr (4, [.ref mR, .ref mF, .ref mT, .ref mB, .ref mTp, .int (iI tn), .int (iI so), .int (iI be), .int (iI te), .long wd, .int (iI va), .int gd, .ref mBo, .ref mSo, .ref mSh, .ref mLe, .ref mIm, .ref mBf, .int ik])), (mR, .inl (cI, 35, .inl (rowA g))), (mF, .inl (cI, 7, .inl (ar fd))), (mT, .inl (cI, 35, .inl (rowA g)))]) (q0 := 0) (c_X4_moveAll_b l D cI cJ cB cS xa m mR mF mT mB mTp mBo mSo mSh mLe mIm mBf tn so be te va wd gd ik mT (rowA gg) (rowA g) ) mV_X4_moveAll kM_X4_151 dX4_dust_58 rfl rfl [0, 1, 3] rfl rfl rfl rfl rfl rfl rfl rfl ⟨Nat.le_of_ble_eq_true rfl, Nat.le_of_ble_eq_true rfl, Nat.le_of_ble_eq_true rfl⟩ ?_
          refine z_iload_n (pc := 61) dX4_dust_61 2 rfl ?_
          refine z_sipush (pc := 62) dX4_dust_62 (by decide) ?_
          refine z_icmp_le (pc := 65) (tgt := 77) dX4_dust_65 (by decide) (by omega) (by omega) (fun h65 => ?_) (fun h65 => ?_)
          · skip
            exfalso; omega
          · skip
            refine z_aload_n (pc := 68) dX4_dust_68 0 rfl ?_
            refine z_ldc (pc := 69) (n := -1000000004) kC_X4_158 dX4_dust_69 (by decide) ?_
            refine z_callV (pc := 71) (st := []) (st2 := [.int (iI (-1000000004))]) (ws2 := [(m, .inr (4, [.ref mR, .ref mF, .ref mT, .ref mB, .ref mTp, .int (iI tn), .int (iI so), .int (iI be), .int (iI te), .long wd, .int (iI va), .int gd, .ref mBo, .ref mSo, .ref mSh, .ref mLe, .ref mIm, .ref mBf, .int ik])), (mR, .inl (cI, 35, .inl (rowA g))), (mF, .inl (cI, 7, .inl (ar (fnd fd 3)))), (mT, .inl (cI, 35, .inl (rowA g)))]) (q0 := 0) (c_X4_finds l D cI cJ cB cS xa m mR mF mT mB mTp mBo mSo mSh mLe mIm mBf tn so be te va wd gd ik fd (-1000000004) 3 (by omega) (by omega)) mV_X4_finds kM_X4_53 dX4_dust_71 rfl rfl [0, 2] rfl rfl rfl rfl rfl rfl rfl rfl ⟨Nat.le_of_ble_eq_true rfl, Nat.le_of_ble_eq_true rfl, Nat.le_of_ble_eq_true rfl⟩ ?_
            refine z_goto (pc := 74) (tgt := 78) dX4_dust_74 (by decide) ?_
            have e9 : opDust g fd c = ((iI (-1000000004)), fnd fd 3) := by
              have ef := fst_none (fun i => minsG g (Int.toNat i) 1 c ≤ 0) 401 (fun j h0 h1 => hq j h0 (by omega))
              unfold opDust foundI
              rw [if_pos ⟨by omega, by omega⟩]
              rw [ef, if_neg (by omega)]
              rfl
            exact z_iretE (pc := 78) dX4_dust_78 (rowA g) trivial (by rw [e9]) (by rw [e9])
        · skip
          refine z_aload_n (pc := 33) dX4_dust_33 0 rfl ?_
          refine z_iload_n (pc := 34) dX4_dust_34 1 rfl ?_
          refine z_iconst (pc := 35) dX4_dust_35 ?_
          refine z_callV (pc := 36) (st := []) (st2 := [.int (iI (gg 1 c))]) (ws2 := [(m, .inr (4, [.ref mR, .ref mF, .ref mT, .ref mB, .ref mTp, .int (iI tn), .int (iI so), .int (iI be), .int (iI te), .long wd, .int (iI va), .int gd, .ref mBo, .ref mSo, .ref mSh, .ref mLe, .ref mIm, .ref mBf, .int ik])), (mR, .inl (cI, 35, .inl (rowA gg))), (mF, .inl (cI, 7, .inl (ar fd))), (mT, .inl (cI, 35, .inl (rowA g)))]) (q0 := 0) (c_X4_its l D cI cJ cB cS xa m mR mF mT mB mTp mBo mSo mSh mLe mIm mBf tn so be te va wd gd ik gg c 1 (by omega) (by omega)) mV_X4_its kM_X4_57 dX4_dust_36 rfl rfl [0, 1] rfl rfl rfl rfl rfl rfl rfl rfl ⟨Nat.le_of_ble_eq_true rfl, Nat.le_of_ble_eq_true rfl, Nat.le_of_ble_eq_true rfl⟩ ?_
          have b1 := okH okg c
          refine z_if_le (pc := 39) (tgt := 52) dX4_dust_39 (by decide) (by omega) (fun h39 => ?_) (fun h39 => ?_)
          · skip
            refine z_aload_n (pc := 52) dX4_dust_52 0 rfl ?_
            refine z_iconst (pc := 53) dX4_dust_53 ?_
            refine z_aload_n (pc := 54) dX4_dust_54 0 rfl ?_
            refine z_get (pc := 55) (q0 := 0) (v := .ref mT) fL_X4_16 dX4_dust_55 rfl rfl ?_
            refine z_callV (pc := 58) (st := []) (st2 := []) (ws2 := [(m, .inr (4, [.ref mR, .ref mF, .ref mT, .ref mB, .ref mTp, .int (iI tn), .int (iI so), .int (iI be), .int (iI te), .long wd, .int (iI va), .int gd, .ref mBo, .ref mSo, .ref mSh, .ref mLe, .ref mIm, .ref mBf, .int ik])), (mR, .inl (cI, 35, .inl (rowA g))), (mF, .inl (cI, 7, .inl (ar fd))), (mT, .inl (cI, 35, .inl (rowA g)))]) (q0 := 0) (c_X4_moveAll_b l D cI cJ cB cS xa m mR mF mT mB mTp mBo mSo mSh mLe mIm mBf tn so be te va wd gd ik mT (rowA gg) (rowA g) ) mV_X4_moveAll kM_X4_151 dX4_dust_58 rfl rfl [0, 1, 3] rfl rfl rfl rfl rfl rfl rfl rfl ⟨Nat.le_of_ble_eq_true rfl, Nat.le_of_ble_eq_true rfl, Nat.le_of_ble_eq_true rfl⟩ ?_
            refine z_iload_n (pc := 61) dX4_dust_61 2 rfl ?_
            refine z_sipush (pc := 62) dX4_dust_62 (by decide) ?_
            refine z_icmp_le (pc := 65) (tgt := 77) dX4_dust_65 (by decide) (by omega) (by omega) (fun h65 => ?_) (fun h65 => ?_)
            · skip
              refine z_iload_n (pc := 77) dX4_dust_77 2 rfl ?_
              have e9 : opDust g fd c = ((iI i), fd) := by
                have ef := fst_hit (fun i => minsG g (Int.toNat i) 1 c ≤ 0) 401 i (by omega) (by omega) (by show minsG g (Int.toNat i) 1 c ≤ 0; rw [← hg]; omega) hq
                unfold opDust foundI
                rw [if_pos ⟨by omega, by omega⟩]
                rw [ef, if_pos (by omega)]
              exact z_iretE (pc := 78) dX4_dust_78 (rowA g) trivial (by rw [e9]) (by rw [e9])
            · skip
              exfalso; omega
          · skip
            refine z_aload_n (pc := 42) dX4_dust_42 0 rfl ?_
            refine z_callV (pc := 43) (st := []) (st2 := []) (ws2 := [(m, .inr (4, [.ref mR, .ref mF, .ref mT, .ref mB, .ref mTp, .int (iI tn), .int (iI so), .int (iI be), .int (iI te), .long wd, .int (iI va), .int gd, .ref mBo, .ref mSo, .ref mSh, .ref mLe, .ref mIm, .ref mBf, .int ik])), (mR, .inl (cI, 35, .inl (rowA (minG gg)))), (mF, .inl (cI, 7, .inl (ar fd))), (mT, .inl (cI, 35, .inl (rowA g)))]) (q0 := 0) (c_X4_oneMinute l D cI cJ cB cS xa m mR mF mT mB mTp mBo mSo mSh mLe mIm mBf tn so be te va wd gd ik gg okg (by omega)) mV_X4_oneMinute kM_X4_143 dX4_dust_43 rfl rfl [0, 1] rfl rfl rfl rfl rfl rfl rfl rfl ⟨Nat.le_of_ble_eq_true rfl, Nat.le_of_ble_eq_true rfl, Nat.le_of_ble_eq_true rfl⟩ ?_
            have ok43_2 : Ok (minG gg) := minG_ok okg (by omega)
            have f43_3 := minG_40 gg
            have f43_4 := minG_41 gg
            have f43_5 := minG_42 gg
            refine z_iinc (pc := 46) (lv2 := [(2, .int (iI (i + 1))), (0, .ref m), (1, .int (iI c))]) dX4_dust_46 2 rfl (by decide) rfl ?_
            refine z_goto (pc := 49) (tgt := 26) dX4_dust_49 (by decide) ?_
            refine z_lv (lv2 := [(0, .ref m), (1, .int (iI c)), (2, .int (iI (i + 1)))]) [1, 2, 0] rfl ?_
            exact ih26 (i + 1) (minG gg) (by omega) (by omega) (by rw [minsG_s _ hi0, ← hg]) (lt_si hq (by rw [← hg]; omega)) (by omega)
    refine z_lv (lv2 := [(0, .ref m), (1, .int (iI c)), (2, .int (iI 0))]) [1, 2, 0] rfl ?_
    exact LP26 _ 0 g (by omega) (by omega) (by rfl) (fun j h0 h1 => absurd h1 (by omega)) (Nat.lt_succ_self _)
  · skip
    refine z_aload_n (pc := 8) dX4_dust_8 0 rfl ?_
    refine z_ldc (pc := 9) (n := -1000000001) kC_X4_44 dX4_dust_9 (by decide) ?_
    refine z_callV (pc := 11) (st := []) (st2 := [.int (iI (-1000000001))]) (ws2 := [(m, .inr (4, [.ref mR, .ref mF, .ref mT, .ref mB, .ref mTp, .int (iI tn), .int (iI so), .int (iI be), .int (iI te), .long wd, .int (iI va), .int gd, .ref mBo, .ref mSo, .ref mSh, .ref mLe, .ref mIm, .ref mBf, .int ik])), (mR, .inl (cI, 35, .inl (rowA g))), (mF, .inl (cI, 7, .inl (ar (fnd fd 0)))), (mT, .inl (cI, 35, .inl ft))]) (q0 := 0) (c_X4_finds l D cI cJ cB cS xa m mR mF mT mB mTp mBo mSo mSh mLe mIm mBf tn so be te va wd gd ik fd (-1000000001) 0 (by omega) (by omega)) mV_X4_finds kM_X4_53 dX4_dust_11 rfl rfl [0, 2] rfl rfl rfl rfl rfl rfl rfl rfl ⟨Nat.le_of_ble_eq_true rfl, Nat.le_of_ble_eq_true rfl, Nat.le_of_ble_eq_true rfl⟩ ?_
    have e9 : opDust g fd c = ((iI (-1000000001)), fnd fd 0) := by
      unfold opDust; try unfold bI
      (repeat' split) <;> first | (exfalso; omega) | contradiction | rfl
    exact z_iretE (pc := 14) dX4_dust_14 ft trivial (by rw [e9]) (by rw [e9])
set_option maxHeartbeats 8000000 in
set_option maxRecDepth 100000 in
theorem c_X4_place (l : Launch) (D : va_G) (cI cJ cB cS : ClassId) (xa : XA) (m mR mF mT mB mTp mBo mSo mSh mLe mIm mBf : Nat) (tn so be te va : Int) (wd : Int64) (gd ik : Int32) (g : Gd) (fd : FF) (ft : Nat → Int32) (c n : Int) (ok : Ok g) (rc : inr c) (rn : inr n) (hm : g 4 0 ≤ 99999) : CtE (S := (Nat → Int32)) l D cI cJ cB cS xa yX4_place cX4_place 7 (some .int) 6 136 [.ref m, .int (iI c), .int (iI n)] [(m, .inr (4, [.ref mR, .ref mF, .ref mT, .ref mB, .ref mTp, .int (iI tn), .int (iI so), .int (iI be), .int (iI te), .long wd, .int (iI va), .int gd, .ref mBo, .ref mSo, .ref mSh, .ref mLe, .ref mIm, .ref mBf, .int ik])), (mR, .inl (cI, 35, .inl (rowA g))), (mF, .inl (cI, 7, .inl (ar fd))), (mT, .inl (cI, 35, .inl ft))] (fun ft2 : (Nat → Int32) => True) (fun ft2 : (Nat → Int32) => (some (.int ((opPlace g fd c n).1)))) (fun ft2 : (Nat → Int32) => [(m, .inr (4, [.ref mR, .ref mF, .ref mT, .ref mB, .ref mTp, .int (iI tn), .int (iI so), .int (iI be), .int (iI te), .long wd, .int (iI va), .int gd, .ref mBo, .ref mSo, .ref mSh, .ref mLe, .ref mIm, .ref mBf, .int ik])), (mR, .inl (cI, 35, .inl (rowA g))), (mF, .inl (cI, 7, .inl (ar ((opPlace g fd c n).2)))), (mT, .inl (cI, 35, .inl ft2))]) := by
  have o0 := ok0 ok
  have o1 := ok1 ok
  have o2 := ok2 ok
  refine CtE.of (own := RX4) (lv := [(0, .ref m), (1, .int (iI c)), (2, .int (iI n))]) (by decide) rfl rfl (Nat.le_of_ble_eq_true rfl) ?_
  intro xp xe xs xm xb xt xc
  refine z_aload_n (pc := 0) dX4_place_0 0 rfl ?_
  refine z_iload_n (pc := 1) dX4_place_1 1 rfl ?_
  refine z_callV (pc := 2) (st := []) (st2 := [.int (bI (0 ≤ c ∧ c < g 4 2))]) (ws2 := [(m, .inr (4, [.ref mR, .ref mF, .ref mT, .ref mB, .ref mTp, .int (iI tn), .int (iI so), .int (iI be), .int (iI te), .long wd, .int (iI va), .int gd, .ref mBo, .ref mSo, .ref mSh, .ref mLe, .ref mIm, .ref mBf, .int ik])), (mR, .inl (cI, 35, .inl (rowA g))), (mF, .inl (cI, 7, .inl (ar fd))), (mT, .inl (cI, 35, .inl ft))]) (q0 := 0) (c_X4_isOne l D cI cJ cB cS xa m mR mF mT mB mTp mBo mSo mSh mLe mIm mBf tn so be te va wd gd ik g c ok (by omega)) mV_X4_isOne kM_X4_98 dX4_place_2 rfl rfl [0, 1] rfl rfl rfl rfl rfl rfl rfl rfl ⟨Nat.le_of_ble_eq_true rfl, Nat.le_of_ble_eq_true rfl, Nat.le_of_ble_eq_true rfl⟩ ?_
  refine z_ifb_eq (pc := 5) (tgt := 18) dX4_place_5 (by decide) (fun h5 => ?_) (fun h5 => ?_)
  · skip
    refine z_aload_n (pc := 18) dX4_place_18 0 rfl ?_
    refine z_ldc (pc := 19) (n := -1000000001) kC_X4_44 dX4_place_19 (by decide) ?_
    refine z_callV (pc := 21) (st := []) (st2 := [.int (iI (-1000000001))]) (ws2 := [(m, .inr (4, [.ref mR, .ref mF, .ref mT, .ref mB, .ref mTp, .int (iI tn), .int (iI so), .int (iI be), .int (iI te), .long wd, .int (iI va), .int gd, .ref mBo, .ref mSo, .ref mSh, .ref mLe, .ref mIm, .ref mBf, .int ik])), (mR, .inl (cI, 35, .inl (rowA g))), (mF, .inl (cI, 7, .inl (ar (fnd fd 0)))), (mT, .inl (cI, 35, .inl ft))]) (q0 := 0) (c_X4_finds l D cI cJ cB cS xa m mR mF mT mB mTp mBo mSo mSh mLe mIm mBf tn so be te va wd gd ik fd (-1000000001) 0 (by omega) (by omega)) mV_X4_finds kM_X4_53 dX4_place_21 rfl rfl [0, 2] rfl rfl rfl rfl rfl rfl rfl rfl ⟨Nat.le_of_ble_eq_true rfl, Nat.le_of_ble_eq_true rfl, Nat.le_of_ble_eq_true rfl⟩ ?_
    have e9 : opPlace g fd c n = ((iI (-1000000001)), fnd fd 0) := by
      unfold opPlace; try unfold bI
      (repeat' split) <;> first | (exfalso; omega) | contradiction | rfl
    exact z_iretE (pc := 24) dX4_place_24 ft trivial (by rw [e9]) (by rw [e9])
  · skip
    refine z_iload_n (pc := 8) dX4_place_8 2 rfl ?_
    refine z_iconst (pc := 9) dX4_place_9 ?_
    refine z_bipush (pc := 10) dX4_place_10 (by decide) ?_
    refine z_callS (pc := 12) (st := []) (st2 := [.int (bI (1 ≤ n ∧ n ≤ 100))]) (ws2 := [(m, .inr (4, [.ref mR, .ref mF, .ref mT, .ref mB, .ref mTp, .int (iI tn), .int (iI so), .int (iI be), .int (iI te), .long wd, .int (iI va), .int gd, .ref mBo, .ref mSo, .ref mSh, .ref mLe, .ref mIm, .ref mBf, .int ik])), (mR, .inl (cI, 35, .inl (rowA g))), (mF, .inl (cI, 7, .inl (ar fd))), (mT, .inl (cI, 35, .inl ft))]) (c_X4_in l D cI cJ cB cS xa n 1 100 (by omega) (by omega) (by omega)) mS_X4_in kM_X4_45 dX4_place_12 [] rfl rfl rfl rfl rfl rfl rfl rfl ⟨Nat.le_of_ble_eq_true rfl, Nat.le_of_ble_eq_true rfl, Nat.le_of_ble_eq_true rfl⟩ ?_
    refine z_ifb_ne (pc := 15) (tgt := 25) dX4_place_15 (by decide) (fun h15 => ?_) (fun h15 => ?_)
    · skip
      refine z_aload_n (pc := 25) dX4_place_25 0 rfl ?_
      refine z_iconst (pc := 26) dX4_place_26 ?_
      refine z_aload_n (pc := 27) dX4_place_27 0 rfl ?_
      refine z_get (pc := 28) (q0 := 0) (v := .ref mT) fL_X4_16 dX4_place_28 rfl rfl ?_
      refine z_callV (pc := 31) (st := []) (st2 := []) (ws2 := [(m, .inr (4, [.ref mR, .ref mF, .ref mT, .ref mB, .ref mTp, .int (iI tn), .int (iI so), .int (iI be), .int (iI te), .long wd, .int (iI va), .int gd, .ref mBo, .ref mSo, .ref mSh, .ref mLe, .ref mIm, .ref mBf, .int ik])), (mR, .inl (cI, 35, .inl (rowA g))), (mF, .inl (cI, 7, .inl (ar fd))), (mT, .inl (cI, 35, .inl (rowA g)))]) (q0 := 0) (c_X4_moveAll l D cI cJ cB cS xa m mR mF mT mB mTp mBo mSo mSh mLe mIm mBf tn so be te va wd gd ik mT (rowA g) ft ) mV_X4_moveAll kM_X4_151 dX4_place_31 rfl rfl [0, 1, 3] rfl rfl rfl rfl rfl rfl rfl rfl ⟨Nat.le_of_ble_eq_true rfl, Nat.le_of_ble_eq_true rfl, Nat.le_of_ble_eq_true rfl⟩ ?_
      refine z_iconst (pc := 34) dX4_place_34 ?_
      refine z_istore_n (pc := 35) (lv2 := [(3, .int (iI (-1))), (0, .ref m), (1, .int (iI c)), (2, .int (iI n))]) dX4_place_35 rfl (by decide) rfl ?_
      refine z_aload_n (pc := 36) dX4_place_36 1 rfl ?_
      refine z_iload_n (pc := 37) dX4_place_37 3 rfl ?_
      refine z_iload_n (pc := 38) dX4_place_38 2 rfl ?_
      refine z_callS (pc := 39) (st := [.int (iI n), .ref m]) (st2 := [.int (iI (3 + 4 * c + 1)), .int (iI n), .ref m]) (ws2 := [(m, .inr (4, [.ref mR, .ref mF, .ref mT, .ref mB, .ref mTp, .int (iI tn), .int (iI so), .int (iI be), .int (iI te), .long wd, .int (iI va), .int gd, .ref mBo, .ref mSo, .ref mSh, .ref mLe, .ref mIm, .ref mBf, .int ik])), (mR, .inl (cI, 35, .inl (rowA g))), (mF, .inl (cI, 7, .inl (ar fd))), (mT, .inl (cI, 35, .inl (rowA g)))]) (c_X4_heightAt l D cI cJ cB cS xa c ) mS_X4_heightAt kM_X4_159 dX4_place_39 [] rfl rfl rfl rfl rfl rfl rfl rfl ⟨Nat.le_of_ble_eq_true rfl, Nat.le_of_ble_eq_true rfl, Nat.le_of_ble_eq_true rfl⟩ ?_
      refine z_callV (pc := 42) (st := []) (st2 := [.int (iI (minsG g (Int.toNat n) 1 c))]) (ws2 := [(m, .inr (4, [.ref mR, .ref mF, .ref mT, .ref mB, .ref mTp, .int (iI tn), .int (iI so), .int (iI be), .int (iI te), .long wd, .int (iI va), .int gd, .ref mBo, .ref mSo, .ref mSh, .ref mLe, .ref mIm, .ref mBf, .int ik])), (mR, .inl (cI, 35, .inl (rowA g))), (mF, .inl (cI, 7, .inl (ar fd))), (mT, .inl (cI, 35, .inl (rowA g)))]) (q0 := 0) (c_X4_behind l D cI cJ cB cS xa m mR mF mT mB mTp mBo mSo mSh mLe mIm mBf tn so be te va wd gd ik g g n (3 + 4 * c + 1) 1 c ok (by omega) (by omega) (by omega) (by omega) (by omega)) mV_X4_behind kM_X4_155 dX4_place_42 rfl rfl [0, 1, 3] rfl rfl rfl rfl rfl rfl rfl rfl ⟨Nat.le_of_ble_eq_true rfl, Nat.le_of_ble_eq_true rfl, Nat.le_of_ble_eq_true rfl⟩ ?_
      have bm := okH (minsG_ok ok (Int.toNat n) (by omega)) c
      refine z_istore (pc := 45) (lv2 := [(4, .int (iI (minsG g (Int.toNat n) 1 c))), (3, .int (iI (-1))), (0, .ref m), (1, .int (iI c)), (2, .int (iI n))]) dX4_place_45 (by decide) rfl ?_
      refine z_iconst (pc := 47) dX4_place_47 ?_
      refine z_istore (pc := 48) (lv2 := [(5, .int (iI 0)), (4, .int (iI (minsG g (Int.toNat n) 1 c))), (3, .int (iI (-1))), (0, .ref m), (1, .int (iI c)), (2, .int (iI n))]) dX4_place_48 (by decide) rfl ?_
      have LP50 : ∀ (nn_ : Nat) (i : Int) (b : Int) (mx : Int), (0 ≤ i) → (i ≤ g 4 2) → (-1 ≤ b ∧ b < 10 ∧ -1 ≤ mx ∧ mx ≤ 200) → ((b, mx) = amx (plV g c n) (plS c) (-1) (minsG g (Int.toNat n) 1 c) i.toNat) → (g 4 2 - i).toNat < nn_ → Z xp l xe { frames := 6, cells := 0, slots := 0, locals := 136 } xs xm ([.ref m, .int (iI c), .int (iI n)] : List Value).toArray xb xt xc 0 0 (MQ xb (Cq (S := (Nat → Int32)) D [(m, .inr (4, [.ref mR, .ref mF, .ref mT, .ref mB, .ref mTp, .int (iI tn), .int (iI so), .int (iI be), .int (iI te), .long wd, .int (iI va), .int gd, .ref mBo, .ref mSo, .ref mSh, .ref mLe, .ref mIm, .ref mBf, .int ik])), (mR, .inl (cI, 35, .inl (rowA g))), (mF, .inl (cI, 7, .inl (ar fd))), (mT, .inl (cI, 35, .inl ft))] (fun ft2 : (Nat → Int32) => True) (fun ft2 : (Nat → Int32) => (some (.int ((opPlace g fd c n).1)))) (fun ft2 : (Nat → Int32) => [(m, .inr (4, [.ref mR, .ref mF, .ref mT, .ref mB, .ref mTp, .int (iI tn), .int (iI so), .int (iI be), .int (iI te), .long wd, .int (iI va), .int gd, .ref mBo, .ref mSo, .ref mSh, .ref mLe, .ref mIm, .ref mBf, .int ik])), (mR, .inl (cI, 35, .inl (rowA g))), (mF, .inl (cI, 7, .inl (ar ((opPlace g fd c n).2)))), (mT, .inl (cI, 35, .inl ft2))])) ([.ref m, .int (iI c), .int (iI n)] : List Value).toArray xs 0 0 (va_A0 [(m, .inr (4, [.ref mR, .ref mF, .ref mT, .ref mB, .ref mTp, .int (iI tn), .int (iI so), .int (iI be), .int (iI te), .long wd, .int (iI va), .int gd, .ref mBo, .ref mSo, .ref mSh, .ref mLe, .ref mIm, .ref mBf, .int ik])), (mR, .inl (cI, 35, .inl (rowA g))), (mF, .inl (cI, 7, .inl (ar fd))), (mT, .inl (cI, 35, .inl ft))])) cX4_place RX4 7 (some .int) D cI cJ cB cS xa (va_A0 [(m, .inr (4, [.ref mR, .ref mF, .ref mT, .ref mB, .ref mTp, .int (iI tn), .int (iI so), .int (iI be), .int (iI te), .long wd, .int (iI va), .int gd, .ref mBo, .ref mSo, .ref mSh, .ref mLe, .ref mIm, .ref mBf, .int ik])), (mR, .inl (cI, 35, .inl (rowA g))), (mF, .inl (cI, 7, .inl (ar fd))), (mT, .inl (cI, 35, .inl ft))]) [(m, .inr (4, [.ref mR, .ref mF, .ref mT, .ref mB, .ref mTp, .int (iI tn), .int (iI so), .int (iI be), .int (iI te), .long wd, .int (iI va), .int gd, .ref mBo, .ref mSo, .ref mSh, .ref mLe, .ref mIm, .ref mBf, .int ik])), (mR, .inl (cI, 35, .inl (rowA g))), (mF, .inl (cI, 7, .inl (ar fd))), (mT, .inl (cI, 35, .inl (rowA g)))] [(0, .ref m), (1, .int (iI c)), (2, .int (iI n)), (3, .int (iI b)), (4, .int (iI mx)), (5, .int (iI i))] 50 [] := by
        intro nn_
        induction nn_ with
        | zero => intro i b mx hi0 hi1 hr hb hms; exact absurd hms (Nat.not_lt_zero _)
        | succ nn_ ih =>
          intro i b mx hi0 hi1 hr hb hms
          have ih50 := ih
          clear ih
          refine z_iload (pc := 50) dX4_place_50 5 rfl ?_
          refine z_aload_n (pc := 52) dX4_place_52 0 rfl ?_
          refine z_get (pc := 53) (q0 := 0) (v := .ref mR) fL_X4_7 dX4_place_53 rfl rfl ?_
          refine z_iconst (pc := 56) dX4_place_56 ?_
          refine z_iald (pc := 57) (q0 := 1) (v := (iI (g 4 2))) dX4_place_57 rfl (by omega) (by decide) (rowA_4 (by decide) (by decide)) ?_
          refine z_icmp_ge (pc := 58) (tgt := 122) dX4_place_58 (by decide) (by omega) (by omega) (fun h58 => ?_) (fun h58 => ?_)
          · skip
            obtain rfl : i = g 4 2 := by omega
            refine z_iload_n (pc := 122) dX4_place_122 3 rfl ?_
            refine z_if_ge (pc := 123) (tgt := 135) dX4_place_123 (by decide) (by omega) (fun h123 => ?_) (fun h123 => ?_)
            · skip
              refine z_iload_n (pc := 135) dX4_place_135 3 rfl ?_
              have e9 : opPlace g fd c n = ((iI b), fd) := by
                unfold opPlace noneI
                rw [if_pos ⟨⟨by omega, by omega⟩, by omega, by omega⟩, ← hb, if_neg (by omega)]
              exact z_iretE (pc := 136) dX4_place_136 (rowA g) trivial (by rw [e9]) (by rw [e9])
            · skip
              refine z_aload_n (pc := 126) dX4_place_126 0 rfl ?_
              refine z_ldc (pc := 127) (n := -1000000004) kC_X4_158 dX4_place_127 (by decide) ?_
              refine z_callV (pc := 129) (st := []) (st2 := [.int (iI (-1000000004))]) (ws2 := [(m, .inr (4, [.ref mR, .ref mF, .ref mT, .ref mB, .ref mTp, .int (iI tn), .int (iI so), .int (iI be), .int (iI te), .long wd, .int (iI va), .int gd, .ref mBo, .ref mSo, .ref mSh, .ref mLe, .ref mIm, .ref mBf, .int ik])), (mR, .inl (cI, 35, .inl (rowA g))), (mF, .inl (cI, 7, .inl (ar (fnd fd 3)))), (mT, .inl (cI, 35, .inl (rowA g)))]) (q0 := 0) (c_X4_finds l D cI cJ cB cS xa m mR mF mT mB mTp mBo mSo mSh mLe mIm mBf tn so be te va wd gd ik fd (-1000000004) 3 (by omega) (by omega)) mV_X4_finds kM_X4_53 dX4_place_129 rfl rfl [0, 2] rfl rfl rfl rfl rfl rfl rfl rfl ⟨Nat.le_of_ble_eq_true rfl, Nat.le_of_ble_eq_true rfl, Nat.le_of_ble_eq_true rfl⟩ ?_
              refine z_goto (pc := 132) (tgt := 136) dX4_place_132 (by decide) ?_
              have e9 : opPlace g fd c n = ((iI (-1000000004)), fnd fd 3) := by
                unfold opPlace noneI
                rw [if_pos ⟨⟨by omega, by omega⟩, by omega, by omega⟩, ← hb, if_pos (by omega)]
                rfl
              exact z_iretE (pc := 136) dX4_place_136 (rowA g) trivial (by rw [e9]) (by rw [e9])
          · skip
            refine z_iload (pc := 61) dX4_place_61 5 rfl ?_
            refine z_iload_n (pc := 63) dX4_place_63 1 rfl ?_
            refine z_icmp_eq (pc := 64) (tgt := 116) dX4_place_64 (by decide) (by omega) (by omega) (fun h64 => ?_) (fun h64 => ?_)
            · skip
              refine z_iinc (pc := 116) (lv2 := [(5, .int (iI (i + 1))), (0, .ref m), (1, .int (iI c)), (2, .int (iI n)), (3, .int (iI b)), (4, .int (iI mx))]) dX4_place_116 5 rfl (by decide) rfl ?_
              refine z_goto (pc := 119) (tgt := 50) dX4_place_119 (by decide) ?_
              refine z_lv (lv2 := [(0, .ref m), (1, .int (iI c)), (2, .int (iI n)), (3, .int (iI b)), (4, .int (iI mx)), (5, .int (iI (i + 1)))]) [1, 2, 3, 4, 5, 0] rfl ?_
              exact ih50 (i + 1) b mx (by omega) (by omega) (by omega) (amx_f hi0 hb (fun q => by have q1 := of_decide_eq_false q.1; omega)) (by omega)
            · skip
              refine z_aload_n (pc := 67) dX4_place_67 0 rfl ?_
              refine z_iload_n (pc := 68) dX4_place_68 1 rfl ?_
              refine z_iload (pc := 69) dX4_place_69 5 rfl ?_
              refine z_callV (pc := 71) (st := []) (st2 := []) (ws2 := [(m, .inr (4, [.ref mR, .ref mF, .ref mT, .ref mB, .ref mTp, .int (iI tn), .int (iI so), .int (iI be), .int (iI te), .long wd, .int (iI va), .int gd, .ref mBo, .ref mSo, .ref mSh, .ref mLe, .ref mIm, .ref mBf, .int ik])), (mR, .inl (cI, 35, .inl (rowA (swapG g c i)))), (mF, .inl (cI, 7, .inl (ar fd))), (mT, .inl (cI, 35, .inl (rowA g)))]) (q0 := 0) (c_X4_swaps l D cI cJ cB cS xa m mR mF mT mB mTp mBo mSo mSh mLe mIm mBf tn so be te va wd gd ik g c i ok (by omega) (by omega)) mV_X4_swaps kM_X4_123 dX4_place_71 rfl rfl [0, 1] rfl rfl rfl rfl rfl rfl rfl rfl ⟨Nat.le_of_ble_eq_true rfl, Nat.le_of_ble_eq_true rfl, Nat.le_of_ble_eq_true rfl⟩ ?_
              have ok71_1 : Ok (swapG g c i) := swapG_ok ok c i
              refine z_aload_n (pc := 74) dX4_place_74 0 rfl ?_
              refine z_iload_n (pc := 75) dX4_place_75 2 rfl ?_
              refine z_iload (pc := 76) dX4_place_76 5 rfl ?_
              refine z_callS (pc := 78) (st := [.int (iI n), .ref m]) (st2 := [.int (iI (3 + 4 * i + 1)), .int (iI n), .ref m]) (ws2 := [(m, .inr (4, [.ref mR, .ref mF, .ref mT, .ref mB, .ref mTp, .int (iI tn), .int (iI so), .int (iI be), .int (iI te), .long wd, .int (iI va), .int gd, .ref mBo, .ref mSo, .ref mSh, .ref mLe, .ref mIm, .ref mBf, .int ik])), (mR, .inl (cI, 35, .inl (rowA (swapG g c i)))), (mF, .inl (cI, 7, .inl (ar fd))), (mT, .inl (cI, 35, .inl (rowA g)))]) (c_X4_heightAt l D cI cJ cB cS xa i ) mS_X4_heightAt kM_X4_159 dX4_place_78 [] rfl rfl rfl rfl rfl rfl rfl rfl ⟨Nat.le_of_ble_eq_true rfl, Nat.le_of_ble_eq_true rfl, Nat.le_of_ble_eq_true rfl⟩ ?_
              refine z_callV (pc := 81) (st := []) (st2 := [.int (iI (minsG (swapG g c i) (Int.toNat n) 1 i))]) (ws2 := [(m, .inr (4, [.ref mR, .ref mF, .ref mT, .ref mB, .ref mTp, .int (iI tn), .int (iI so), .int (iI be), .int (iI te), .long wd, .int (iI va), .int gd, .ref mBo, .ref mSo, .ref mSh, .ref mLe, .ref mIm, .ref mBf, .int ik])), (mR, .inl (cI, 35, .inl (rowA g))), (mF, .inl (cI, 7, .inl (ar fd))), (mT, .inl (cI, 35, .inl (rowA g)))]) (q0 := 0) (c_X4_behind l D cI cJ cB cS xa m mR mF mT mB mTp mBo mSo mSh mLe mIm mBf tn so be te va wd gd ik (swapG g c i) g n (3 + 4 * i + 1) 1 i ok71_1 (by omega) (by show g 4 0 + n ≤ 1000000; omega) (by omega) (by omega) (by omega)) mV_X4_behind kM_X4_155 dX4_place_81 rfl rfl [0, 1, 3] rfl rfl rfl rfl rfl rfl rfl rfl ⟨Nat.le_of_ble_eq_true rfl, Nat.le_of_ble_eq_true rfl, Nat.le_of_ble_eq_true rfl⟩ ?_
              have bv := okH (minsG_ok (swapG_ok ok c i) (Int.toNat n) (by show g 4 0 + _ ≤ _; omega)) i
              refine z_istore (pc := 84) (lv2 := [(6, .int (iI (minsG (swapG g c i) (Int.toNat n) 1 i))), (0, .ref m), (1, .int (iI c)), (2, .int (iI n)), (3, .int (iI b)), (4, .int (iI mx)), (5, .int (iI i))]) dX4_place_84 (by decide) rfl ?_
              refine z_iload (pc := 86) dX4_place_86 0 rfl ?_
              refine z_iload (pc := 88) dX4_place_88 5 rfl ?_
              refine z_icmp_le (pc := 90) (tgt := 98) dX4_place_90 (by decide) (by omega) (by omega) (fun h90 => ?_) (fun h90 => ?_)
              · skip
                refine z_iload_n (pc := 98) dX4_place_98 4 rfl ?_
                refine z_istore_n (pc := 99) (lv2 := [(3, .int (iI b)), (6, .int (iI (minsG (swapG g c i) (Int.toNat n) 1 i))), (0, .ref m), (1, .int (iI c)), (2, .int (iI n)), (4, .int (iI mx)), (5, .int (iI i))]) dX4_place_99 rfl (by decide) rfl ?_
                refine z_iload (pc := 100) dX4_place_100 1 rfl ?_
                refine z_iload (pc := 102) dX4_place_102 5 rfl ?_
                refine z_icmp_le (pc := 104) (tgt := 112) dX4_place_104 (by decide) (by omega) (by omega) (fun h104 => ?_) (fun h104 => ?_)
                · skip
                  refine z_iload (pc := 112) dX4_place_112 5 rfl ?_
                  refine z_istore (pc := 114) (lv2 := [(4, .int (iI mx)), (3, .int (iI b)), (6, .int (iI (minsG (swapG g c i) (Int.toNat n) 1 i))), (0, .ref m), (1, .int (iI c)), (2, .int (iI n)), (5, .int (iI i))]) dX4_place_114 (by decide) rfl ?_
                  refine z_iinc (pc := 116) (lv2 := [(5, .int (iI (i + 1))), (4, .int (iI mx)), (3, .int (iI b)), (6, .int (iI (minsG (swapG g c i) (Int.toNat n) 1 i))), (0, .ref m), (1, .int (iI c)), (2, .int (iI n))]) dX4_place_116 6 rfl (by decide) rfl ?_
                  refine z_goto (pc := 119) (tgt := 50) dX4_place_119 (by decide) ?_
                  refine z_lv (lv2 := [(0, .ref m), (1, .int (iI c)), (2, .int (iI n)), (3, .int (iI b)), (4, .int (iI mx)), (5, .int (iI (i + 1)))]) [4, 5, 6, 2, 1, 0] rfl ?_
                  exact ih50 (i + 1) b mx (by omega) (by omega) (by omega) (amx_f hi0 hb (fun q => by have q2 : mx < minsG (swapG g c i) (Int.toNat n) 1 i := q.2; omega)) (by omega)
                · skip
                  exfalso; omega
              · skip
                refine z_iload (pc := 93) dX4_place_93 6 rfl ?_
                refine z_goto (pc := 95) (tgt := 99) dX4_place_95 (by decide) ?_
                refine z_istore_n (pc := 99) (lv2 := [(3, .int (iI i)), (6, .int (iI (minsG (swapG g c i) (Int.toNat n) 1 i))), (0, .ref m), (1, .int (iI c)), (2, .int (iI n)), (4, .int (iI mx)), (5, .int (iI i))]) dX4_place_99 rfl (by decide) rfl ?_
                refine z_iload (pc := 100) dX4_place_100 1 rfl ?_
                refine z_iload (pc := 102) dX4_place_102 5 rfl ?_
                refine z_icmp_le (pc := 104) (tgt := 112) dX4_place_104 (by decide) (by omega) (by omega) (fun h104 => ?_) (fun h104 => ?_)
                · skip
                  exfalso; omega
                · skip
                  refine z_iload (pc := 107) dX4_place_107 1 rfl ?_
                  refine z_goto (pc := 109) (tgt := 114) dX4_place_109 (by decide) ?_
                  refine z_istore (pc := 114) (lv2 := [(4, .int (iI (minsG (swapG g c i) (Int.toNat n) 1 i))), (3, .int (iI i)), (6, .int (iI (minsG (swapG g c i) (Int.toNat n) 1 i))), (0, .ref m), (1, .int (iI c)), (2, .int (iI n)), (5, .int (iI i))]) dX4_place_114 (by decide) rfl ?_
                  refine z_iinc (pc := 116) (lv2 := [(5, .int (iI (i + 1))), (4, .int (iI (minsG (swapG g c i) (Int.toNat n) 1 i))), (3, .int (iI i)), (6, .int (iI (minsG (swapG g c i) (Int.toNat n) 1 i))), (0, .ref m), (1, .int (iI c)), (2, .int (iI n))]) dX4_place_116 6 rfl (by decide) rfl ?_
                  refine z_goto (pc := 119) (tgt := 50) dX4_place_119 (by decide) ?_
                  refine z_lv (lv2 := [(0, .ref m), (1, .int (iI c)), (2, .int (iI n)), (3, .int (iI i)), (4, .int (iI (minsG (swapG g c i) (Int.toNat n) 1 i))), (5, .int (iI (i + 1)))]) [4, 5, 6, 2, 1, 0] rfl ?_
                  exact ih50 (i + 1) i (minsG (swapG g c i) (Int.toNat n) 1 i) (by omega) (by omega) (by omega) (amx_t hi0 hb (by simp only [plS]; exact decide_eq_false (by omega)) (by show mx < minsG (swapG g c i) (Int.toNat n) 1 i; omega)) (by omega)
      refine z_lv (lv2 := [(0, .ref m), (1, .int (iI c)), (2, .int (iI n)), (3, .int (iI (-1))), (4, .int (iI (minsG g (Int.toNat n) 1 c))), (5, .int (iI 0))]) [3, 4, 5, 2, 1, 0] rfl ?_
      exact LP50 _ 0 (-1) (minsG g (Int.toNat n) 1 c) (by omega) (by omega) (by omega) (by rfl) (Nat.lt_succ_self _)
    · skip
      refine z_aload_n (pc := 18) dX4_place_18 0 rfl ?_
      refine z_ldc (pc := 19) (n := -1000000001) kC_X4_44 dX4_place_19 (by decide) ?_
      refine z_callV (pc := 21) (st := []) (st2 := [.int (iI (-1000000001))]) (ws2 := [(m, .inr (4, [.ref mR, .ref mF, .ref mT, .ref mB, .ref mTp, .int (iI tn), .int (iI so), .int (iI be), .int (iI te), .long wd, .int (iI va), .int gd, .ref mBo, .ref mSo, .ref mSh, .ref mLe, .ref mIm, .ref mBf, .int ik])), (mR, .inl (cI, 35, .inl (rowA g))), (mF, .inl (cI, 7, .inl (ar (fnd fd 0)))), (mT, .inl (cI, 35, .inl ft))]) (q0 := 0) (c_X4_finds l D cI cJ cB cS xa m mR mF mT mB mTp mBo mSo mSh mLe mIm mBf tn so be te va wd gd ik fd (-1000000001) 0 (by omega) (by omega)) mV_X4_finds kM_X4_53 dX4_place_21 rfl rfl [0, 2] rfl rfl rfl rfl rfl rfl rfl rfl ⟨Nat.le_of_ble_eq_true rfl, Nat.le_of_ble_eq_true rfl, Nat.le_of_ble_eq_true rfl⟩ ?_
      have e9 : opPlace g fd c n = ((iI (-1000000001)), fnd fd 0) := by
        unfold opPlace; try unfold bI
        (repeat' split) <;> first | (exfalso; omega) | contradiction | rfl
      exact z_iretE (pc := 24) dX4_place_24 ft trivial (by rw [e9]) (by rw [e9])
set_option maxHeartbeats 8000000 in
set_option maxRecDepth 100000 in
theorem c_X4_kind (l : Launch) (D : va_G) (cI cJ cB cS : ClassId) (xa : XA) (m mR mF mT mB mTp mBo mSo mSh mLe mIm mBf : Nat) (tn so be te va : Int) (wd : Int64) (gd ik : Int32) (g : Gd) (fd : FF) (ft : Nat → Int32) (c n : Int) (ok : Ok g) (rc : inr c) (rn : inr n) (hm : g 4 0 ≤ 99999) : CtE (S := (Nat → Int32)) l D cI cJ cB cS xa yX4_kind cX4_kind 7 (some .int) 6 136 [.ref m, .int (iI c), .int (iI n)] [(m, .inr (4, [.ref mR, .ref mF, .ref mT, .ref mB, .ref mTp, .int (iI tn), .int (iI so), .int (iI be), .int (iI te), .long wd, .int (iI va), .int gd, .ref mBo, .ref mSo, .ref mSh, .ref mLe, .ref mIm, .ref mBf, .int ik])), (mR, .inl (cI, 35, .inl (rowA g))), (mF, .inl (cI, 7, .inl (ar fd))), (mT, .inl (cI, 35, .inl ft))] (fun ft2 : (Nat → Int32) => True) (fun ft2 : (Nat → Int32) => (some (.int ((opKind g fd c n).1)))) (fun ft2 : (Nat → Int32) => [(m, .inr (4, [.ref mR, .ref mF, .ref mT, .ref mB, .ref mTp, .int (iI tn), .int (iI so), .int (iI be), .int (iI te), .long wd, .int (iI va), .int gd, .ref mBo, .ref mSo, .ref mSh, .ref mLe, .ref mIm, .ref mBf, .int ik])), (mR, .inl (cI, 35, .inl (rowA g))), (mF, .inl (cI, 7, .inl (ar ((opKind g fd c n).2)))), (mT, .inl (cI, 35, .inl ft2))]) := by
  have o0 := ok0 ok
  have o1 := ok1 ok
  have o2 := ok2 ok
  refine CtE.of (own := RX4) (lv := [(0, .ref m), (1, .int (iI c)), (2, .int (iI n))]) (by decide) rfl rfl (Nat.le_of_ble_eq_true rfl) ?_
  intro xp xe xs xm xb xt xc
  refine z_aload_n (pc := 0) dX4_kind_0 0 rfl ?_
  refine z_iload_n (pc := 1) dX4_kind_1 1 rfl ?_
  refine z_callV (pc := 2) (st := []) (st2 := [.int (bI (0 ≤ c ∧ c < g 4 2))]) (ws2 := [(m, .inr (4, [.ref mR, .ref mF, .ref mT, .ref mB, .ref mTp, .int (iI tn), .int (iI so), .int (iI be), .int (iI te), .long wd, .int (iI va), .int gd, .ref mBo, .ref mSo, .ref mSh, .ref mLe, .ref mIm, .ref mBf, .int ik])), (mR, .inl (cI, 35, .inl (rowA g))), (mF, .inl (cI, 7, .inl (ar fd))), (mT, .inl (cI, 35, .inl ft))]) (q0 := 0) (c_X4_isOne l D cI cJ cB cS xa m mR mF mT mB mTp mBo mSo mSh mLe mIm mBf tn so be te va wd gd ik g c ok (by omega)) mV_X4_isOne kM_X4_98 dX4_kind_2 rfl rfl [0, 1] rfl rfl rfl rfl rfl rfl rfl rfl ⟨Nat.le_of_ble_eq_true rfl, Nat.le_of_ble_eq_true rfl, Nat.le_of_ble_eq_true rfl⟩ ?_
  refine z_ifb_eq (pc := 5) (tgt := 18) dX4_kind_5 (by decide) (fun h5 => ?_) (fun h5 => ?_)
  · skip
    refine z_aload_n (pc := 18) dX4_kind_18 0 rfl ?_
    refine z_ldc (pc := 19) (n := -1000000001) kC_X4_44 dX4_kind_19 (by decide) ?_
    refine z_callV (pc := 21) (st := []) (st2 := [.int (iI (-1000000001))]) (ws2 := [(m, .inr (4, [.ref mR, .ref mF, .ref mT, .ref mB, .ref mTp, .int (iI tn), .int (iI so), .int (iI be), .int (iI te), .long wd, .int (iI va), .int gd, .ref mBo, .ref mSo, .ref mSh, .ref mLe, .ref mIm, .ref mBf, .int ik])), (mR, .inl (cI, 35, .inl (rowA g))), (mF, .inl (cI, 7, .inl (ar (fnd fd 0)))), (mT, .inl (cI, 35, .inl ft))]) (q0 := 0) (c_X4_finds l D cI cJ cB cS xa m mR mF mT mB mTp mBo mSo mSh mLe mIm mBf tn so be te va wd gd ik fd (-1000000001) 0 (by omega) (by omega)) mV_X4_finds kM_X4_53 dX4_kind_21 rfl rfl [0, 2] rfl rfl rfl rfl rfl rfl rfl rfl ⟨Nat.le_of_ble_eq_true rfl, Nat.le_of_ble_eq_true rfl, Nat.le_of_ble_eq_true rfl⟩ ?_
    have e9 : opKind g fd c n = ((iI (-1000000001)), fnd fd 0) := by
      unfold opKind; try unfold bI
      (repeat' split) <;> first | (exfalso; omega) | contradiction | rfl
    exact z_iretE (pc := 24) dX4_kind_24 ft trivial (by rw [e9]) (by rw [e9])
  · skip
    refine z_iload_n (pc := 8) dX4_kind_8 2 rfl ?_
    refine z_iconst (pc := 9) dX4_kind_9 ?_
    refine z_bipush (pc := 10) dX4_kind_10 (by decide) ?_
    refine z_callS (pc := 12) (st := []) (st2 := [.int (bI (1 ≤ n ∧ n ≤ 100))]) (ws2 := [(m, .inr (4, [.ref mR, .ref mF, .ref mT, .ref mB, .ref mTp, .int (iI tn), .int (iI so), .int (iI be), .int (iI te), .long wd, .int (iI va), .int gd, .ref mBo, .ref mSo, .ref mSh, .ref mLe, .ref mIm, .ref mBf, .int ik])), (mR, .inl (cI, 35, .inl (rowA g))), (mF, .inl (cI, 7, .inl (ar fd))), (mT, .inl (cI, 35, .inl ft))]) (c_X4_in l D cI cJ cB cS xa n 1 100 (by omega) (by omega) (by omega)) mS_X4_in kM_X4_45 dX4_kind_12 [] rfl rfl rfl rfl rfl rfl rfl rfl ⟨Nat.le_of_ble_eq_true rfl, Nat.le_of_ble_eq_true rfl, Nat.le_of_ble_eq_true rfl⟩ ?_
    refine z_ifb_ne (pc := 15) (tgt := 25) dX4_kind_15 (by decide) (fun h15 => ?_) (fun h15 => ?_)
    · skip
      refine z_aload_n (pc := 25) dX4_kind_25 0 rfl ?_
      refine z_iconst (pc := 26) dX4_kind_26 ?_
      refine z_aload_n (pc := 27) dX4_kind_27 0 rfl ?_
      refine z_get (pc := 28) (q0 := 0) (v := .ref mT) fL_X4_16 dX4_kind_28 rfl rfl ?_
      refine z_callV (pc := 31) (st := []) (st2 := []) (ws2 := [(m, .inr (4, [.ref mR, .ref mF, .ref mT, .ref mB, .ref mTp, .int (iI tn), .int (iI so), .int (iI be), .int (iI te), .long wd, .int (iI va), .int gd, .ref mBo, .ref mSo, .ref mSh, .ref mLe, .ref mIm, .ref mBf, .int ik])), (mR, .inl (cI, 35, .inl (rowA g))), (mF, .inl (cI, 7, .inl (ar fd))), (mT, .inl (cI, 35, .inl (rowA g)))]) (q0 := 0) (c_X4_moveAll l D cI cJ cB cS xa m mR mF mT mB mTp mBo mSo mSh mLe mIm mBf tn so be te va wd gd ik mT (rowA g) ft ) mV_X4_moveAll kM_X4_151 dX4_kind_31 rfl rfl [0, 1, 3] rfl rfl rfl rfl rfl rfl rfl rfl ⟨Nat.le_of_ble_eq_true rfl, Nat.le_of_ble_eq_true rfl, Nat.le_of_ble_eq_true rfl⟩ ?_
      refine z_iconst (pc := 34) dX4_kind_34 ?_
      refine z_istore_n (pc := 35) (lv2 := [(3, .int (iI 0)), (0, .ref m), (1, .int (iI c)), (2, .int (iI n))]) dX4_kind_35 rfl (by decide) rfl ?_
      refine z_iconst (pc := 36) dX4_kind_36 ?_
      refine z_istore (pc := 37) (lv2 := [(4, .int (iI (-1))), (3, .int (iI 0)), (0, .ref m), (1, .int (iI c)), (2, .int (iI n))]) dX4_kind_37 (by decide) rfl ?_
      refine z_iconst (pc := 39) dX4_kind_39 ?_
      refine z_istore (pc := 40) (lv2 := [(5, .int (iI 0)), (4, .int (iI (-1))), (3, .int (iI 0)), (0, .ref m), (1, .int (iI c)), (2, .int (iI n))]) dX4_kind_40 (by decide) rfl ?_
      have LP42 : ∀ (nn_ : Nat) (i : Int) (b : Int) (mx : Int), (0 ≤ i) → (i ≤ 6) → (-1 ≤ b ∧ b < 10 ∧ -1 ≤ mx ∧ mx ≤ 200) → ((b, mx) = amx (knV g c n) (fun _ => false) 0 (-1) i.toNat) → (6 - i).toNat < nn_ → Z xp l xe { frames := 6, cells := 0, slots := 0, locals := 136 } xs xm ([.ref m, .int (iI c), .int (iI n)] : List Value).toArray xb xt xc 0 0 (MQ xb (Cq (S := (Nat → Int32)) D [(m, .inr (4, [.ref mR, .ref mF, .ref mT, .ref mB, .ref mTp, .int (iI tn), .int (iI so), .int (iI be), .int (iI te), .long wd, .int (iI va), .int gd, .ref mBo, .ref mSo, .ref mSh, .ref mLe, .ref mIm, .ref mBf, .int ik])), (mR, .inl (cI, 35, .inl (rowA g))), (mF, .inl (cI, 7, .inl (ar fd))), (mT, .inl (cI, 35, .inl ft))] (fun ft2 : (Nat → Int32) => True) (fun ft2 : (Nat → Int32) => (some (.int ((opKind g fd c n).1)))) (fun ft2 : (Nat → Int32) => [(m, .inr (4, [.ref mR, .ref mF, .ref mT, .ref mB, .ref mTp, .int (iI tn), .int (iI so), .int (iI be), .int (iI te), .long wd, .int (iI va), .int gd, .ref mBo, .ref mSo, .ref mSh, .ref mLe, .ref mIm, .ref mBf, .int ik])), (mR, .inl (cI, 35, .inl (rowA g))), (mF, .inl (cI, 7, .inl (ar ((opKind g fd c n).2)))), (mT, .inl (cI, 35, .inl ft2))])) ([.ref m, .int (iI c), .int (iI n)] : List Value).toArray xs 0 0 (va_A0 [(m, .inr (4, [.ref mR, .ref mF, .ref mT, .ref mB, .ref mTp, .int (iI tn), .int (iI so), .int (iI be), .int (iI te), .long wd, .int (iI va), .int gd, .ref mBo, .ref mSo, .ref mSh, .ref mLe, .ref mIm, .ref mBf, .int ik])), (mR, .inl (cI, 35, .inl (rowA g))), (mF, .inl (cI, 7, .inl (ar fd))), (mT, .inl (cI, 35, .inl ft))])) cX4_kind RX4 7 (some .int) D cI cJ cB cS xa (va_A0 [(m, .inr (4, [.ref mR, .ref mF, .ref mT, .ref mB, .ref mTp, .int (iI tn), .int (iI so), .int (iI be), .int (iI te), .long wd, .int (iI va), .int gd, .ref mBo, .ref mSo, .ref mSh, .ref mLe, .ref mIm, .ref mBf, .int ik])), (mR, .inl (cI, 35, .inl (rowA g))), (mF, .inl (cI, 7, .inl (ar fd))), (mT, .inl (cI, 35, .inl ft))]) [(m, .inr (4, [.ref mR, .ref mF, .ref mT, .ref mB, .ref mTp, .int (iI tn), .int (iI so), .int (iI be), .int (iI te), .long wd, .int (iI va), .int gd, .ref mBo, .ref mSo, .ref mSh, .ref mLe, .ref mIm, .ref mBf, .int ik])), (mR, .inl (cI, 35, .inl (rowA g))), (mF, .inl (cI, 7, .inl (ar fd))), (mT, .inl (cI, 35, .inl (rowA g)))] [(0, .ref m), (1, .int (iI c)), (2, .int (iI n)), (3, .int (iI b)), (4, .int (iI mx)), (5, .int (iI i))] 42 [] := by
        intro nn_
        induction nn_ with
        | zero => intro i b mx hi0 hi1 hr hb hms; exact absurd hms (Nat.not_lt_zero _)
        | succ nn_ ih =>
          intro i b mx hi0 hi1 hr hb hms
          have ih42 := ih
          clear ih
          refine z_iload (pc := 42) dX4_kind_42 5 rfl ?_
          refine z_bipush (pc := 44) dX4_kind_44 (by decide) ?_
          refine z_icmp_ge (pc := 46) (tgt := 104) dX4_kind_46 (by decide) (by omega) (by omega) (fun h46 => ?_) (fun h46 => ?_)
          · skip
            obtain rfl : i = 6 := by omega
            refine z_iload_n (pc := 104) dX4_kind_104 3 rfl ?_
            have e9 : opKind g fd c n = ((iI b), fd) := by
              unfold opKind
              rw [if_pos ⟨⟨by omega, by omega⟩, by omega, by omega⟩, show (6 : Nat) = Int.toNat 6 from rfl, ← hb]
            exact z_iretE (pc := 105) dX4_kind_105 (rowA g) trivial (by rw [e9]) (by rw [e9])
          · skip
            refine z_aload_n (pc := 49) dX4_kind_49 0 rfl ?_
            refine z_iload_n (pc := 50) dX4_kind_50 1 rfl ?_
            refine z_iconst (pc := 51) dX4_kind_51 ?_
            refine z_iload (pc := 52) dX4_kind_52 5 rfl ?_
            refine z_callV (pc := 54) (st := []) (st2 := []) (ws2 := [(m, .inr (4, [.ref mR, .ref mF, .ref mT, .ref mB, .ref mTp, .int (iI tn), .int (iI so), .int (iI be), .int (iI te), .long wd, .int (iI va), .int gd, .ref mBo, .ref mSo, .ref mSh, .ref mLe, .ref mIm, .ref mBf, .int ik])), (mR, .inl (cI, 35, .inl (rowA (up2 g 0 c i)))), (mF, .inl (cI, 7, .inl (ar fd))), (mT, .inl (cI, 35, .inl (rowA g)))]) (q0 := 0) (c_X4_puts l D cI cJ cB cS xa m mR mF mT mB mTp mBo mSo mSh mLe mIm mBf tn so be te va wd gd ik g c 0 i (by omega) (by omega)) mV_X4_puts kM_X4_86 dX4_kind_54 rfl rfl [0, 1] rfl rfl rfl rfl rfl rfl rfl rfl ⟨Nat.le_of_ble_eq_true rfl, Nat.le_of_ble_eq_true rfl, Nat.le_of_ble_eq_true rfl⟩ ?_
            refine z_aload_n (pc := 57) dX4_kind_57 0 rfl ?_
            refine z_iload_n (pc := 58) dX4_kind_58 2 rfl ?_
            refine z_iload_n (pc := 59) dX4_kind_59 1 rfl ?_
            refine z_callS (pc := 60) (st := [.int (iI n), .ref m]) (st2 := [.int (iI (3 + 4 * c + 1)), .int (iI n), .ref m]) (ws2 := [(m, .inr (4, [.ref mR, .ref mF, .ref mT, .ref mB, .ref mTp, .int (iI tn), .int (iI so), .int (iI be), .int (iI te), .long wd, .int (iI va), .int gd, .ref mBo, .ref mSo, .ref mSh, .ref mLe, .ref mIm, .ref mBf, .int ik])), (mR, .inl (cI, 35, .inl (rowA (up2 g 0 c i)))), (mF, .inl (cI, 7, .inl (ar fd))), (mT, .inl (cI, 35, .inl (rowA g)))]) (c_X4_heightAt l D cI cJ cB cS xa c ) mS_X4_heightAt kM_X4_159 dX4_kind_60 [] rfl rfl rfl rfl rfl rfl rfl rfl ⟨Nat.le_of_ble_eq_true rfl, Nat.le_of_ble_eq_true rfl, Nat.le_of_ble_eq_true rfl⟩ ?_
            refine z_callV (pc := 63) (st := []) (st2 := [.int (iI (minsG (up2 g 0 c i) (Int.toNat n) 1 c))]) (ws2 := [(m, .inr (4, [.ref mR, .ref mF, .ref mT, .ref mB, .ref mTp, .int (iI tn), .int (iI so), .int (iI be), .int (iI te), .long wd, .int (iI va), .int gd, .ref mBo, .ref mSo, .ref mSh, .ref mLe, .ref mIm, .ref mBf, .int ik])), (mR, .inl (cI, 35, .inl (rowA g))), (mF, .inl (cI, 7, .inl (ar fd))), (mT, .inl (cI, 35, .inl (rowA g)))]) (q0 := 0) (c_X4_behind l D cI cJ cB cS xa m mR mF mT mB mTp mBo mSo mSh mLe mIm mBf tn so be te va wd gd ik (up2 g 0 c i) g n (3 + 4 * c + 1) 1 c (ok.upK c (by omega)) (by omega) (by show g 4 0 + n ≤ 1000000; omega) (by omega) (by omega) (by omega)) mV_X4_behind kM_X4_155 dX4_kind_63 rfl rfl [0, 1, 3] rfl rfl rfl rfl rfl rfl rfl rfl ⟨Nat.le_of_ble_eq_true rfl, Nat.le_of_ble_eq_true rfl, Nat.le_of_ble_eq_true rfl⟩ ?_
            have bv := okH (minsG_ok (ok.upK c (v := i) (by omega)) (Int.toNat n) (by show g 4 0 + _ ≤ _; omega)) c
            refine z_istore (pc := 66) (lv2 := [(6, .int (iI (minsG (up2 g 0 c i) (Int.toNat n) 1 c))), (0, .ref m), (1, .int (iI c)), (2, .int (iI n)), (3, .int (iI b)), (4, .int (iI mx)), (5, .int (iI i))]) dX4_kind_66 (by decide) rfl ?_
            refine z_iload (pc := 68) dX4_kind_68 0 rfl ?_
            refine z_iload (pc := 70) dX4_kind_70 5 rfl ?_
            refine z_icmp_le (pc := 72) (tgt := 80) dX4_kind_72 (by decide) (by omega) (by omega) (fun h72 => ?_) (fun h72 => ?_)
            · skip
              refine z_iload_n (pc := 80) dX4_kind_80 4 rfl ?_
              refine z_istore_n (pc := 81) (lv2 := [(3, .int (iI b)), (6, .int (iI (minsG (up2 g 0 c i) (Int.toNat n) 1 c))), (0, .ref m), (1, .int (iI c)), (2, .int (iI n)), (4, .int (iI mx)), (5, .int (iI i))]) dX4_kind_81 rfl (by decide) rfl ?_
              refine z_iload (pc := 82) dX4_kind_82 1 rfl ?_
              refine z_iload (pc := 84) dX4_kind_84 5 rfl ?_
              refine z_icmp_le (pc := 86) (tgt := 94) dX4_kind_86 (by decide) (by omega) (by omega) (fun h86 => ?_) (fun h86 => ?_)
              · skip
                refine z_iload (pc := 94) dX4_kind_94 5 rfl ?_
                refine z_istore (pc := 96) (lv2 := [(4, .int (iI mx)), (3, .int (iI b)), (6, .int (iI (minsG (up2 g 0 c i) (Int.toNat n) 1 c))), (0, .ref m), (1, .int (iI c)), (2, .int (iI n)), (5, .int (iI i))]) dX4_kind_96 (by decide) rfl ?_
                refine z_iinc (pc := 98) (lv2 := [(5, .int (iI (i + 1))), (4, .int (iI mx)), (3, .int (iI b)), (6, .int (iI (minsG (up2 g 0 c i) (Int.toNat n) 1 c))), (0, .ref m), (1, .int (iI c)), (2, .int (iI n))]) dX4_kind_98 6 rfl (by decide) rfl ?_
                refine z_goto (pc := 101) (tgt := 42) dX4_kind_101 (by decide) ?_
                refine z_lv (lv2 := [(0, .ref m), (1, .int (iI c)), (2, .int (iI n)), (3, .int (iI b)), (4, .int (iI mx)), (5, .int (iI (i + 1)))]) [4, 5, 6, 2, 1, 0] rfl ?_
                exact ih42 (i + 1) b mx (by omega) (by omega) (by omega) (amx_f hi0 hb (fun q => by have q2 : mx < minsG (up2 g 0 c i) (Int.toNat n) 1 c := q.2; omega)) (by omega)
              · skip
                exfalso; omega
            · skip
              refine z_iload (pc := 75) dX4_kind_75 6 rfl ?_
              refine z_goto (pc := 77) (tgt := 81) dX4_kind_77 (by decide) ?_
              refine z_istore_n (pc := 81) (lv2 := [(3, .int (iI i)), (6, .int (iI (minsG (up2 g 0 c i) (Int.toNat n) 1 c))), (0, .ref m), (1, .int (iI c)), (2, .int (iI n)), (4, .int (iI mx)), (5, .int (iI i))]) dX4_kind_81 rfl (by decide) rfl ?_
              refine z_iload (pc := 82) dX4_kind_82 1 rfl ?_
              refine z_iload (pc := 84) dX4_kind_84 5 rfl ?_
              refine z_icmp_le (pc := 86) (tgt := 94) dX4_kind_86 (by decide) (by omega) (by omega) (fun h86 => ?_) (fun h86 => ?_)
              · skip
                exfalso; omega
              · skip
                refine z_iload (pc := 89) dX4_kind_89 1 rfl ?_
                refine z_goto (pc := 91) (tgt := 96) dX4_kind_91 (by decide) ?_
                refine z_istore (pc := 96) (lv2 := [(4, .int (iI (minsG (up2 g 0 c i) (Int.toNat n) 1 c))), (3, .int (iI i)), (6, .int (iI (minsG (up2 g 0 c i) (Int.toNat n) 1 c))), (0, .ref m), (1, .int (iI c)), (2, .int (iI n)), (5, .int (iI i))]) dX4_kind_96 (by decide) rfl ?_
                refine z_iinc (pc := 98) (lv2 := [(5, .int (iI (i + 1))), (4, .int (iI (minsG (up2 g 0 c i) (Int.toNat n) 1 c))), (3, .int (iI i)), (6, .int (iI (minsG (up2 g 0 c i) (Int.toNat n) 1 c))), (0, .ref m), (1, .int (iI c)), (2, .int (iI n))]) dX4_kind_98 6 rfl (by decide) rfl ?_
                refine z_goto (pc := 101) (tgt := 42) dX4_kind_101 (by decide) ?_
                refine z_lv (lv2 := [(0, .ref m), (1, .int (iI c)), (2, .int (iI n)), (3, .int (iI i)), (4, .int (iI (minsG (up2 g 0 c i) (Int.toNat n) 1 c))), (5, .int (iI (i + 1)))]) [4, 5, 6, 2, 1, 0] rfl ?_
                exact ih42 (i + 1) i (minsG (up2 g 0 c i) (Int.toNat n) 1 c) (by omega) (by omega) (by omega) (amx_t hi0 hb (by rfl) (by show mx < minsG (up2 g 0 c i) (Int.toNat n) 1 c; omega)) (by omega)
      refine z_lv (lv2 := [(0, .ref m), (1, .int (iI c)), (2, .int (iI n)), (3, .int (iI 0)), (4, .int (iI (-1))), (5, .int (iI 0))]) [3, 4, 5, 2, 1, 0] rfl ?_
      exact LP42 _ 0 0 (-1) (by omega) (by omega) (by omega) (by rfl) (Nat.lt_succ_self _)
    · skip
      refine z_aload_n (pc := 18) dX4_kind_18 0 rfl ?_
      refine z_ldc (pc := 19) (n := -1000000001) kC_X4_44 dX4_kind_19 (by decide) ?_
      refine z_callV (pc := 21) (st := []) (st2 := [.int (iI (-1000000001))]) (ws2 := [(m, .inr (4, [.ref mR, .ref mF, .ref mT, .ref mB, .ref mTp, .int (iI tn), .int (iI so), .int (iI be), .int (iI te), .long wd, .int (iI va), .int gd, .ref mBo, .ref mSo, .ref mSh, .ref mLe, .ref mIm, .ref mBf, .int ik])), (mR, .inl (cI, 35, .inl (rowA g))), (mF, .inl (cI, 7, .inl (ar (fnd fd 0)))), (mT, .inl (cI, 35, .inl ft))]) (q0 := 0) (c_X4_finds l D cI cJ cB cS xa m mR mF mT mB mTp mBo mSo mSh mLe mIm mBf tn so be te va wd gd ik fd (-1000000001) 0 (by omega) (by omega)) mV_X4_finds kM_X4_53 dX4_kind_21 rfl rfl [0, 2] rfl rfl rfl rfl rfl rfl rfl rfl ⟨Nat.le_of_ble_eq_true rfl, Nat.le_of_ble_eq_true rfl, Nat.le_of_ble_eq_true rfl⟩ ?_
      have e9 : opKind g fd c n = ((iI (-1000000001)), fnd fd 0) := by
        unfold opKind; try unfold bI
        (repeat' split) <;> first | (exfalso; omega) | contradiction | rfl
      exact z_iretE (pc := 24) dX4_kind_24 ft trivial (by rw [e9]) (by rw [e9])
set_option maxHeartbeats 8000000 in
set_option maxRecDepth 100000 in
theorem c_X4_whom (l : Launch) (D : va_G) (cI cJ cB cS : ClassId) (xa : XA) (m mR mF mT mB mTp mBo mSo mSh mLe mIm mBf : Nat) (tn so be te va : Int) (wd : Int64) (gd ik : Int32) (g : Gd) (fd : FF) (ft : Nat → Int32) (v n : Int) (ok : Ok g) (rv : inr v) (rn : inr n) (hm : g 4 0 ≤ 99999) : CtE (S := (Nat → Int32)) l D cI cJ cB cS xa yX4_whom cX4_whom 7 (some .int) 6 136 [.ref m, .int (iI v), .int (iI n)] [(m, .inr (4, [.ref mR, .ref mF, .ref mT, .ref mB, .ref mTp, .int (iI tn), .int (iI so), .int (iI be), .int (iI te), .long wd, .int (iI va), .int gd, .ref mBo, .ref mSo, .ref mSh, .ref mLe, .ref mIm, .ref mBf, .int ik])), (mR, .inl (cI, 35, .inl (rowA g))), (mF, .inl (cI, 7, .inl (ar fd))), (mT, .inl (cI, 35, .inl ft))] (fun ft2 : (Nat → Int32) => True) (fun ft2 : (Nat → Int32) => (some (.int ((opWhom g fd v n).1)))) (fun ft2 : (Nat → Int32) => [(m, .inr (4, [.ref mR, .ref mF, .ref mT, .ref mB, .ref mTp, .int (iI tn), .int (iI so), .int (iI be), .int (iI te), .long wd, .int (iI va), .int gd, .ref mBo, .ref mSo, .ref mSh, .ref mLe, .ref mIm, .ref mBf, .int ik])), (mR, .inl (cI, 35, .inl (rowA g))), (mF, .inl (cI, 7, .inl (ar ((opWhom g fd v n).2)))), (mT, .inl (cI, 35, .inl ft2))]) := by
  have o0 := ok0 ok
  have o1 := ok1 ok
  have o2 := ok2 ok
  refine CtE.of (own := RX4) (lv := [(0, .ref m), (1, .int (iI v)), (2, .int (iI n))]) (by decide) rfl rfl (Nat.le_of_ble_eq_true rfl) ?_
  intro xp xe xs xm xb xt xc
  refine z_iload_n (pc := 0) dX4_whom_0 1 rfl ?_
  refine z_iconst (pc := 1) dX4_whom_1 ?_
  refine z_bipush (pc := 2) dX4_whom_2 (by decide) ?_
  refine z_callS (pc := 4) (st := []) (st2 := [.int (bI (1 ≤ v ∧ v ≤ 99))]) (ws2 := [(m, .inr (4, [.ref mR, .ref mF, .ref mT, .ref mB, .ref mTp, .int (iI tn), .int (iI so), .int (iI be), .int (iI te), .long wd, .int (iI va), .int gd, .ref mBo, .ref mSo, .ref mSh, .ref mLe, .ref mIm, .ref mBf, .int ik])), (mR, .inl (cI, 35, .inl (rowA g))), (mF, .inl (cI, 7, .inl (ar fd))), (mT, .inl (cI, 35, .inl ft))]) (c_X4_in l D cI cJ cB cS xa v 1 99 (by omega) (by omega) (by omega)) mS_X4_in kM_X4_45 dX4_whom_4 [] rfl rfl rfl rfl rfl rfl rfl rfl ⟨Nat.le_of_ble_eq_true rfl, Nat.le_of_ble_eq_true rfl, Nat.le_of_ble_eq_true rfl⟩ ?_
  refine z_ifb_eq (pc := 7) (tgt := 20) dX4_whom_7 (by decide) (fun h7 => ?_) (fun h7 => ?_)
  · skip
    refine z_aload_n (pc := 20) dX4_whom_20 0 rfl ?_
    refine z_ldc (pc := 21) (n := -1000000001) kC_X4_44 dX4_whom_21 (by decide) ?_
    refine z_callV (pc := 23) (st := []) (st2 := [.int (iI (-1000000001))]) (ws2 := [(m, .inr (4, [.ref mR, .ref mF, .ref mT, .ref mB, .ref mTp, .int (iI tn), .int (iI so), .int (iI be), .int (iI te), .long wd, .int (iI va), .int gd, .ref mBo, .ref mSo, .ref mSh, .ref mLe, .ref mIm, .ref mBf, .int ik])), (mR, .inl (cI, 35, .inl (rowA g))), (mF, .inl (cI, 7, .inl (ar (fnd fd 0)))), (mT, .inl (cI, 35, .inl ft))]) (q0 := 0) (c_X4_finds l D cI cJ cB cS xa m mR mF mT mB mTp mBo mSo mSh mLe mIm mBf tn so be te va wd gd ik fd (-1000000001) 0 (by omega) (by omega)) mV_X4_finds kM_X4_53 dX4_whom_23 rfl rfl [0, 2] rfl rfl rfl rfl rfl rfl rfl rfl ⟨Nat.le_of_ble_eq_true rfl, Nat.le_of_ble_eq_true rfl, Nat.le_of_ble_eq_true rfl⟩ ?_
    have e9 : opWhom g fd v n = ((iI (-1000000001)), fnd fd 0) := by
      unfold opWhom; try unfold bI
      (repeat' split) <;> first | (exfalso; omega) | contradiction | rfl
    exact z_iretE (pc := 26) dX4_whom_26 ft trivial (by rw [e9]) (by rw [e9])
  · skip
    refine z_iload_n (pc := 10) dX4_whom_10 2 rfl ?_
    refine z_iconst (pc := 11) dX4_whom_11 ?_
    refine z_bipush (pc := 12) dX4_whom_12 (by decide) ?_
    refine z_callS (pc := 14) (st := []) (st2 := [.int (bI (0 ≤ n ∧ n ≤ 100))]) (ws2 := [(m, .inr (4, [.ref mR, .ref mF, .ref mT, .ref mB, .ref mTp, .int (iI tn), .int (iI so), .int (iI be), .int (iI te), .long wd, .int (iI va), .int gd, .ref mBo, .ref mSo, .ref mSh, .ref mLe, .ref mIm, .ref mBf, .int ik])), (mR, .inl (cI, 35, .inl (rowA g))), (mF, .inl (cI, 7, .inl (ar fd))), (mT, .inl (cI, 35, .inl ft))]) (c_X4_in l D cI cJ cB cS xa n 0 100 (by omega) (by omega) (by omega)) mS_X4_in kM_X4_45 dX4_whom_14 [] rfl rfl rfl rfl rfl rfl rfl rfl ⟨Nat.le_of_ble_eq_true rfl, Nat.le_of_ble_eq_true rfl, Nat.le_of_ble_eq_true rfl⟩ ?_
    refine z_ifb_ne (pc := 17) (tgt := 27) dX4_whom_17 (by decide) (fun h17 => ?_) (fun h17 => ?_)
    · skip
      refine z_aload_n (pc := 27) dX4_whom_27 0 rfl ?_
      refine z_iconst (pc := 28) dX4_whom_28 ?_
      refine z_aload_n (pc := 29) dX4_whom_29 0 rfl ?_
      refine z_get (pc := 30) (q0 := 0) (v := .ref mT) fL_X4_16 dX4_whom_30 rfl rfl ?_
      refine z_callV (pc := 33) (st := []) (st2 := []) (ws2 := [(m, .inr (4, [.ref mR, .ref mF, .ref mT, .ref mB, .ref mTp, .int (iI tn), .int (iI so), .int (iI be), .int (iI te), .long wd, .int (iI va), .int gd, .ref mBo, .ref mSo, .ref mSh, .ref mLe, .ref mIm, .ref mBf, .int ik])), (mR, .inl (cI, 35, .inl (rowA g))), (mF, .inl (cI, 7, .inl (ar fd))), (mT, .inl (cI, 35, .inl (rowA g)))]) (q0 := 0) (c_X4_moveAll l D cI cJ cB cS xa m mR mF mT mB mTp mBo mSo mSh mLe mIm mBf tn so be te va wd gd ik mT (rowA g) ft ) mV_X4_moveAll kM_X4_151 dX4_whom_33 rfl rfl [0, 1, 3] rfl rfl rfl rfl rfl rfl rfl rfl ⟨Nat.le_of_ble_eq_true rfl, Nat.le_of_ble_eq_true rfl, Nat.le_of_ble_eq_true rfl⟩ ?_
      refine z_iconst (pc := 36) dX4_whom_36 ?_
      refine z_istore_n (pc := 37) (lv2 := [(3, .int (iI (-1))), (0, .ref m), (1, .int (iI v)), (2, .int (iI n))]) dX4_whom_37 rfl (by decide) rfl ?_
      refine z_iconst (pc := 38) dX4_whom_38 ?_
      refine z_istore (pc := 39) (lv2 := [(4, .int (iI (-1))), (3, .int (iI (-1))), (0, .ref m), (1, .int (iI v)), (2, .int (iI n))]) dX4_whom_39 (by decide) rfl ?_
      refine z_iconst (pc := 41) dX4_whom_41 ?_
      refine z_istore (pc := 42) (lv2 := [(5, .int (iI 0)), (4, .int (iI (-1))), (3, .int (iI (-1))), (0, .ref m), (1, .int (iI v)), (2, .int (iI n))]) dX4_whom_42 (by decide) rfl ?_
      have LP44 : ∀ (nn_ : Nat) (i : Int) (b : Int) (mx : Int), (0 ≤ i) → (i ≤ g 4 2) → (-1 ≤ b ∧ b < 10 ∧ -1 ≤ mx ∧ mx ≤ 200) → ((b, mx) = amx (whV g v n) (fun _ => false) (-1) (-1) i.toNat) → (g 4 2 - i).toNat < nn_ → Z xp l xe { frames := 6, cells := 0, slots := 0, locals := 136 } xs xm ([.ref m, .int (iI v), .int (iI n)] : List Value).toArray xb xt xc 0 0 (MQ xb (Cq (S := (Nat → Int32)) D [(m, .inr (4, [.ref mR, .ref mF, .ref mT, .ref mB, .ref mTp, .int (iI tn), .int (iI so), .int (iI be), .int (iI te), .long wd, .int (iI va), .int gd, .ref mBo, .ref mSo, .ref mSh, .ref mLe, .ref mIm, .ref mBf, .int ik])), (mR, .inl (cI, 35, .inl (rowA g))), (mF, .inl (cI, 7, .inl (ar fd))), (mT, .inl (cI, 35, .inl ft))] (fun ft2 : (Nat → Int32) => True) (fun ft2 : (Nat → Int32) => (some (.int ((opWhom g fd v n).1)))) (fun ft2 : (Nat → Int32) => [(m, .inr (4, [.ref mR, .ref mF, .ref mT, .ref mB, .ref mTp, .int (iI tn), .int (iI so), .int (iI be), .int (iI te), .long wd, .int (iI va), .int gd, .ref mBo, .ref mSo, .ref mSh, .ref mLe, .ref mIm, .ref mBf, .int ik])), (mR, .inl (cI, 35, .inl (rowA g))), (mF, .inl (cI, 7, .inl (ar ((opWhom g fd v n).2)))), (mT, .inl (cI, 35, .inl ft2))])) ([.ref m, .int (iI v), .int (iI n)] : List Value).toArray xs 0 0 (va_A0 [(m, .inr (4, [.ref mR, .ref mF, .ref mT, .ref mB, .ref mTp, .int (iI tn), .int (iI so), .int (iI be), .int (iI te), .long wd, .int (iI va), .int gd, .ref mBo, .ref mSo, .ref mSh, .ref mLe, .ref mIm, .ref mBf, .int ik])), (mR, .inl (cI, 35, .inl (rowA g))), (mF, .inl (cI, 7, .inl (ar fd))), (mT, .inl (cI, 35, .inl ft))])) cX4_whom RX4 7 (some .int) D cI cJ cB cS xa (va_A0 [(m, .inr (4, [.ref mR, .ref mF, .ref mT, .ref mB, .ref mTp, .int (iI tn), .int (iI so), .int (iI be), .int (iI te), .long wd, .int (iI va), .int gd, .ref mBo, .ref mSo, .ref mSh, .ref mLe, .ref mIm, .ref mBf, .int ik])), (mR, .inl (cI, 35, .inl (rowA g))), (mF, .inl (cI, 7, .inl (ar fd))), (mT, .inl (cI, 35, .inl ft))]) [(m, .inr (4, [.ref mR, .ref mF, .ref mT, .ref mB, .ref mTp, .int (iI tn), .int (iI so), .int (iI be), .int (iI te), .long wd, .int (iI va), .int gd, .ref mBo, .ref mSo, .ref mSh, .ref mLe, .ref mIm, .ref mBf, .int ik])), (mR, .inl (cI, 35, .inl (rowA g))), (mF, .inl (cI, 7, .inl (ar fd))), (mT, .inl (cI, 35, .inl (rowA g)))] [(0, .ref m), (1, .int (iI v)), (2, .int (iI n)), (3, .int (iI b)), (4, .int (iI mx)), (5, .int (iI i))] 44 [] := by
        intro nn_
        induction nn_ with
        | zero => intro i b mx hi0 hi1 hr hb hms; exact absurd hms (Nat.not_lt_zero _)
        | succ nn_ ih =>
          intro i b mx hi0 hi1 hr hb hms
          have ih44 := ih
          clear ih
          refine z_iload (pc := 44) dX4_whom_44 5 rfl ?_
          refine z_aload_n (pc := 46) dX4_whom_46 0 rfl ?_
          refine z_get (pc := 47) (q0 := 0) (v := .ref mR) fL_X4_7 dX4_whom_47 rfl rfl ?_
          refine z_iconst (pc := 50) dX4_whom_50 ?_
          refine z_iald (pc := 51) (q0 := 1) (v := (iI (g 4 2))) dX4_whom_51 rfl (by omega) (by decide) (rowA_4 (by decide) (by decide)) ?_
          refine z_icmp_ge (pc := 52) (tgt := 110) dX4_whom_52 (by decide) (by omega) (by omega) (fun h52 => ?_) (fun h52 => ?_)
          · skip
            obtain rfl : i = g 4 2 := by omega
            refine z_iload_n (pc := 110) dX4_whom_110 3 rfl ?_
            refine z_if_ge (pc := 111) (tgt := 123) dX4_whom_111 (by decide) (by omega) (fun h111 => ?_) (fun h111 => ?_)
            · skip
              refine z_iload_n (pc := 123) dX4_whom_123 3 rfl ?_
              have e9 : opWhom g fd v n = ((iI b), fd) := by
                unfold opWhom noneI
                rw [if_pos ⟨⟨by omega, by omega⟩, by omega, by omega⟩, ← hb, if_neg (by omega)]
              exact z_iretE (pc := 124) dX4_whom_124 (rowA g) trivial (by rw [e9]) (by rw [e9])
            · skip
              refine z_aload_n (pc := 114) dX4_whom_114 0 rfl ?_
              refine z_ldc (pc := 115) (n := -1000000004) kC_X4_158 dX4_whom_115 (by decide) ?_
              refine z_callV (pc := 117) (st := []) (st2 := [.int (iI (-1000000004))]) (ws2 := [(m, .inr (4, [.ref mR, .ref mF, .ref mT, .ref mB, .ref mTp, .int (iI tn), .int (iI so), .int (iI be), .int (iI te), .long wd, .int (iI va), .int gd, .ref mBo, .ref mSo, .ref mSh, .ref mLe, .ref mIm, .ref mBf, .int ik])), (mR, .inl (cI, 35, .inl (rowA g))), (mF, .inl (cI, 7, .inl (ar (fnd fd 3)))), (mT, .inl (cI, 35, .inl (rowA g)))]) (q0 := 0) (c_X4_finds l D cI cJ cB cS xa m mR mF mT mB mTp mBo mSo mSh mLe mIm mBf tn so be te va wd gd ik fd (-1000000004) 3 (by omega) (by omega)) mV_X4_finds kM_X4_53 dX4_whom_117 rfl rfl [0, 2] rfl rfl rfl rfl rfl rfl rfl rfl ⟨Nat.le_of_ble_eq_true rfl, Nat.le_of_ble_eq_true rfl, Nat.le_of_ble_eq_true rfl⟩ ?_
              refine z_goto (pc := 120) (tgt := 124) dX4_whom_120 (by decide) ?_
              have e9 : opWhom g fd v n = ((iI (-1000000004)), fnd fd 3) := by
                unfold opWhom noneI
                rw [if_pos ⟨⟨by omega, by omega⟩, by omega, by omega⟩, ← hb, if_pos (by omega)]
                rfl
              exact z_iretE (pc := 124) dX4_whom_124 (rowA g) trivial (by rw [e9]) (by rw [e9])
          · skip
            refine z_aload_n (pc := 55) dX4_whom_55 0 rfl ?_
            refine z_iload (pc := 56) dX4_whom_56 5 rfl ?_
            refine z_iload_n (pc := 58) dX4_whom_58 1 rfl ?_
            refine z_callV (pc := 59) (st := []) (st2 := []) (ws2 := [(m, .inr (4, [.ref mR, .ref mF, .ref mT, .ref mB, .ref mTp, .int (iI tn), .int (iI so), .int (iI be), .int (iI te), .long wd, .int (iI va), .int gd, .ref mBo, .ref mSo, .ref mSh, .ref mLe, .ref mIm, .ref mBf, .int ik])), (mR, .inl (cI, 35, .inl (rowA (pushG g i v)))), (mF, .inl (cI, 7, .inl (ar fd))), (mT, .inl (cI, 35, .inl (rowA g)))]) (q0 := 0) (c_X4_pushes l D cI cJ cB cS xa m mR mF mT mB mTp mBo mSo mSh mLe mIm mBf tn so be te va wd gd ik g i v ok (by omega) (by omega)) mV_X4_pushes kM_X4_119 dX4_whom_59 rfl rfl [0, 1] rfl rfl rfl rfl rfl rfl rfl rfl ⟨Nat.le_of_ble_eq_true rfl, Nat.le_of_ble_eq_true rfl, Nat.le_of_ble_eq_true rfl⟩ ?_
            have ok59_1 : Ok (pushG g i v) := pushG_ok ok i (by omega)
            refine z_aload_n (pc := 62) dX4_whom_62 0 rfl ?_
            refine z_iload_n (pc := 63) dX4_whom_63 2 rfl ?_
            refine z_iload (pc := 64) dX4_whom_64 5 rfl ?_
            refine z_callS (pc := 66) (st := [.int (iI n), .ref m]) (st2 := [.int (iI (3 + 4 * i + 1)), .int (iI n), .ref m]) (ws2 := [(m, .inr (4, [.ref mR, .ref mF, .ref mT, .ref mB, .ref mTp, .int (iI tn), .int (iI so), .int (iI be), .int (iI te), .long wd, .int (iI va), .int gd, .ref mBo, .ref mSo, .ref mSh, .ref mLe, .ref mIm, .ref mBf, .int ik])), (mR, .inl (cI, 35, .inl (rowA (pushG g i v)))), (mF, .inl (cI, 7, .inl (ar fd))), (mT, .inl (cI, 35, .inl (rowA g)))]) (c_X4_heightAt l D cI cJ cB cS xa i ) mS_X4_heightAt kM_X4_159 dX4_whom_66 [] rfl rfl rfl rfl rfl rfl rfl rfl ⟨Nat.le_of_ble_eq_true rfl, Nat.le_of_ble_eq_true rfl, Nat.le_of_ble_eq_true rfl⟩ ?_
            refine z_callV (pc := 69) (st := []) (st2 := [.int (iI (minsG (pushG g i v) (Int.toNat n) 1 i))]) (ws2 := [(m, .inr (4, [.ref mR, .ref mF, .ref mT, .ref mB, .ref mTp, .int (iI tn), .int (iI so), .int (iI be), .int (iI te), .long wd, .int (iI va), .int gd, .ref mBo, .ref mSo, .ref mSh, .ref mLe, .ref mIm, .ref mBf, .int ik])), (mR, .inl (cI, 35, .inl (rowA g))), (mF, .inl (cI, 7, .inl (ar fd))), (mT, .inl (cI, 35, .inl (rowA g)))]) (q0 := 0) (c_X4_behind l D cI cJ cB cS xa m mR mF mT mB mTp mBo mSo mSh mLe mIm mBf tn so be te va wd gd ik (pushG g i v) g n (3 + 4 * i + 1) 1 i ok59_1 (by omega) (by show g 4 0 + n ≤ 1000000; omega) (by omega) (by omega) (by omega)) mV_X4_behind kM_X4_155 dX4_whom_69 rfl rfl [0, 1, 3] rfl rfl rfl rfl rfl rfl rfl rfl ⟨Nat.le_of_ble_eq_true rfl, Nat.le_of_ble_eq_true rfl, Nat.le_of_ble_eq_true rfl⟩ ?_
            have bv := okH (minsG_ok (pushG_ok ok i (v := v) (by omega)) (Int.toNat n) (by show g 4 0 + _ ≤ _; omega)) i
            refine z_istore (pc := 72) (lv2 := [(6, .int (iI (minsG (pushG g i v) (Int.toNat n) 1 i))), (0, .ref m), (1, .int (iI v)), (2, .int (iI n)), (3, .int (iI b)), (4, .int (iI mx)), (5, .int (iI i))]) dX4_whom_72 (by decide) rfl ?_
            refine z_iload (pc := 74) dX4_whom_74 0 rfl ?_
            refine z_iload (pc := 76) dX4_whom_76 5 rfl ?_
            refine z_icmp_le (pc := 78) (tgt := 86) dX4_whom_78 (by decide) (by omega) (by omega) (fun h78 => ?_) (fun h78 => ?_)
            · skip
              refine z_iload_n (pc := 86) dX4_whom_86 4 rfl ?_
              refine z_istore_n (pc := 87) (lv2 := [(3, .int (iI b)), (6, .int (iI (minsG (pushG g i v) (Int.toNat n) 1 i))), (0, .ref m), (1, .int (iI v)), (2, .int (iI n)), (4, .int (iI mx)), (5, .int (iI i))]) dX4_whom_87 rfl (by decide) rfl ?_
              refine z_iload (pc := 88) dX4_whom_88 1 rfl ?_
              refine z_iload (pc := 90) dX4_whom_90 5 rfl ?_
              refine z_icmp_le (pc := 92) (tgt := 100) dX4_whom_92 (by decide) (by omega) (by omega) (fun h92 => ?_) (fun h92 => ?_)
              · skip
                refine z_iload (pc := 100) dX4_whom_100 5 rfl ?_
                refine z_istore (pc := 102) (lv2 := [(4, .int (iI mx)), (3, .int (iI b)), (6, .int (iI (minsG (pushG g i v) (Int.toNat n) 1 i))), (0, .ref m), (1, .int (iI v)), (2, .int (iI n)), (5, .int (iI i))]) dX4_whom_102 (by decide) rfl ?_
                refine z_iinc (pc := 104) (lv2 := [(5, .int (iI (i + 1))), (4, .int (iI mx)), (3, .int (iI b)), (6, .int (iI (minsG (pushG g i v) (Int.toNat n) 1 i))), (0, .ref m), (1, .int (iI v)), (2, .int (iI n))]) dX4_whom_104 6 rfl (by decide) rfl ?_
                refine z_goto (pc := 107) (tgt := 44) dX4_whom_107 (by decide) ?_
                refine z_lv (lv2 := [(0, .ref m), (1, .int (iI v)), (2, .int (iI n)), (3, .int (iI b)), (4, .int (iI mx)), (5, .int (iI (i + 1)))]) [4, 5, 6, 2, 1, 0] rfl ?_
                exact ih44 (i + 1) b mx (by omega) (by omega) (by omega) (amx_f hi0 hb (fun q => by have q2 : mx < minsG (pushG g i v) (Int.toNat n) 1 i := q.2; omega)) (by omega)
              · skip
                exfalso; omega
            · skip
              refine z_iload (pc := 81) dX4_whom_81 6 rfl ?_
              refine z_goto (pc := 83) (tgt := 87) dX4_whom_83 (by decide) ?_
              refine z_istore_n (pc := 87) (lv2 := [(3, .int (iI i)), (6, .int (iI (minsG (pushG g i v) (Int.toNat n) 1 i))), (0, .ref m), (1, .int (iI v)), (2, .int (iI n)), (4, .int (iI mx)), (5, .int (iI i))]) dX4_whom_87 rfl (by decide) rfl ?_
              refine z_iload (pc := 88) dX4_whom_88 1 rfl ?_
              refine z_iload (pc := 90) dX4_whom_90 5 rfl ?_
              refine z_icmp_le (pc := 92) (tgt := 100) dX4_whom_92 (by decide) (by omega) (by omega) (fun h92 => ?_) (fun h92 => ?_)
              · skip
                exfalso; omega
              · skip
                refine z_iload (pc := 95) dX4_whom_95 1 rfl ?_
                refine z_goto (pc := 97) (tgt := 102) dX4_whom_97 (by decide) ?_
                refine z_istore (pc := 102) (lv2 := [(4, .int (iI (minsG (pushG g i v) (Int.toNat n) 1 i))), (3, .int (iI i)), (6, .int (iI (minsG (pushG g i v) (Int.toNat n) 1 i))), (0, .ref m), (1, .int (iI v)), (2, .int (iI n)), (5, .int (iI i))]) dX4_whom_102 (by decide) rfl ?_
                refine z_iinc (pc := 104) (lv2 := [(5, .int (iI (i + 1))), (4, .int (iI (minsG (pushG g i v) (Int.toNat n) 1 i))), (3, .int (iI i)), (6, .int (iI (minsG (pushG g i v) (Int.toNat n) 1 i))), (0, .ref m), (1, .int (iI v)), (2, .int (iI n))]) dX4_whom_104 6 rfl (by decide) rfl ?_
                refine z_goto (pc := 107) (tgt := 44) dX4_whom_107 (by decide) ?_
                refine z_lv (lv2 := [(0, .ref m), (1, .int (iI v)), (2, .int (iI n)), (3, .int (iI i)), (4, .int (iI (minsG (pushG g i v) (Int.toNat n) 1 i))), (5, .int (iI (i + 1)))]) [4, 5, 6, 2, 1, 0] rfl ?_
                exact ih44 (i + 1) i (minsG (pushG g i v) (Int.toNat n) 1 i) (by omega) (by omega) (by omega) (amx_t hi0 hb (by rfl) (by show mx < minsG (pushG g i v) (Int.toNat n) 1 i; omega)) (by omega)
      refine z_lv (lv2 := [(0, .ref m), (1, .int (iI v)), (2, .int (iI n)), (3, .int (iI (-1))), (4, .int (iI (-1))), (5, .int (iI 0))]) [3, 4, 5, 2, 1, 0] rfl ?_
      exact LP44 _ 0 (-1) (-1) (by omega) (by omega) (by omega) (by rfl) (Nat.lt_succ_self _)
    · skip
      refine z_aload_n (pc := 20) dX4_whom_20 0 rfl ?_
      refine z_ldc (pc := 21) (n := -1000000001) kC_X4_44 dX4_whom_21 (by decide) ?_
      refine z_callV (pc := 23) (st := []) (st2 := [.int (iI (-1000000001))]) (ws2 := [(m, .inr (4, [.ref mR, .ref mF, .ref mT, .ref mB, .ref mTp, .int (iI tn), .int (iI so), .int (iI be), .int (iI te), .long wd, .int (iI va), .int gd, .ref mBo, .ref mSo, .ref mSh, .ref mLe, .ref mIm, .ref mBf, .int ik])), (mR, .inl (cI, 35, .inl (rowA g))), (mF, .inl (cI, 7, .inl (ar (fnd fd 0)))), (mT, .inl (cI, 35, .inl ft))]) (q0 := 0) (c_X4_finds l D cI cJ cB cS xa m mR mF mT mB mTp mBo mSo mSh mLe mIm mBf tn so be te va wd gd ik fd (-1000000001) 0 (by omega) (by omega)) mV_X4_finds kM_X4_53 dX4_whom_23 rfl rfl [0, 2] rfl rfl rfl rfl rfl rfl rfl rfl ⟨Nat.le_of_ble_eq_true rfl, Nat.le_of_ble_eq_true rfl, Nat.le_of_ble_eq_true rfl⟩ ?_
      have e9 : opWhom g fd v n = ((iI (-1000000001)), fnd fd 0) := by
        unfold opWhom; try unfold bI
        (repeat' split) <;> first | (exfalso; omega) | contradiction | rfl
      exact z_iretE (pc := 26) dX4_whom_26 ft trivial (by rw [e9]) (by rw [e9])
set_option maxHeartbeats 8000000 in
set_option maxRecDepth 100000 in
theorem c_X4_night (l : Launch) (D : va_G) (cI cJ cB cS : ClassId) (xa : XA) (m mR mF mT mB mTp mBo mSo mSh mLe mIm mBf : Nat) (tn so be te va : Int) (wd : Int64) (gd ik : Int32) (g : Gd) (fd : FF) (ft : Nat → Int32) (n : Int) (ok : Ok g) (rn : inr n) (hm : g 4 0 ≤ 99999) : CtE (S := (Nat → Int32)) l D cI cJ cB cS xa yX4_night cX4_night 6 (some .int) 5 113 [.ref m, .int (iI n)] [(m, .inr (4, [.ref mR, .ref mF, .ref mT, .ref mB, .ref mTp, .int (iI tn), .int (iI so), .int (iI be), .int (iI te), .long wd, .int (iI va), .int gd, .ref mBo, .ref mSo, .ref mSh, .ref mLe, .ref mIm, .ref mBf, .int ik])), (mR, .inl (cI, 35, .inl (rowA g))), (mF, .inl (cI, 7, .inl (ar fd))), (mT, .inl (cI, 35, .inl ft))] (fun ft2 : (Nat → Int32) => True) (fun ft2 : (Nat → Int32) => (some (.int ((opNight g fd n).1)))) (fun ft2 : (Nat → Int32) => [(m, .inr (4, [.ref mR, .ref mF, .ref mT, .ref mB, .ref mTp, .int (iI tn), .int (iI so), .int (iI be), .int (iI te), .long wd, .int (iI va), .int gd, .ref mBo, .ref mSo, .ref mSh, .ref mLe, .ref mIm, .ref mBf, .int ik])), (mR, .inl (cI, 35, .inl (rowA g))), (mF, .inl (cI, 7, .inl (ar ((opNight g fd n).2)))), (mT, .inl (cI, 35, .inl ft2))]) := by
  have o0 := ok0 ok
  have o1 := ok1 ok
  have o2 := ok2 ok
  refine CtE.of (own := RX4) (lv := [(0, .ref m), (1, .int (iI n))]) (by decide) rfl rfl (Nat.le_of_ble_eq_true rfl) ?_
  intro xp xe xs xm xb xt xc
  refine z_iload_n (pc := 0) dX4_night_0 1 rfl ?_
  refine z_iconst (pc := 1) dX4_night_1 ?_
  refine z_bipush (pc := 2) dX4_night_2 (by decide) ?_
  refine z_callS (pc := 4) (st := []) (st2 := [.int (bI (1 ≤ n ∧ n ≤ 120))]) (ws2 := [(m, .inr (4, [.ref mR, .ref mF, .ref mT, .ref mB, .ref mTp, .int (iI tn), .int (iI so), .int (iI be), .int (iI te), .long wd, .int (iI va), .int gd, .ref mBo, .ref mSo, .ref mSh, .ref mLe, .ref mIm, .ref mBf, .int ik])), (mR, .inl (cI, 35, .inl (rowA g))), (mF, .inl (cI, 7, .inl (ar fd))), (mT, .inl (cI, 35, .inl ft))]) (c_X4_in l D cI cJ cB cS xa n 1 120 (by omega) (by omega) (by omega)) mS_X4_in kM_X4_45 dX4_night_4 [] rfl rfl rfl rfl rfl rfl rfl rfl ⟨Nat.le_of_ble_eq_true rfl, Nat.le_of_ble_eq_true rfl, Nat.le_of_ble_eq_true rfl⟩ ?_
  refine z_ifb_ne (pc := 7) (tgt := 17) dX4_night_7 (by decide) (fun h7 => ?_) (fun h7 => ?_)
  · skip
    refine z_iconst (pc := 17) dX4_night_17 ?_
    refine z_istore_n (pc := 18) (lv2 := [(2, .int (iI 0)), (0, .ref m), (1, .int (iI n))]) dX4_night_18 rfl (by decide) rfl ?_
    refine z_sipush (pc := 19) dX4_night_19 (by decide) ?_
    refine z_istore_n (pc := 22) (lv2 := [(3, .int (iI 201)), (2, .int (iI 0)), (0, .ref m), (1, .int (iI n))]) dX4_night_22 rfl (by decide) rfl ?_
    refine z_aload_n (pc := 23) dX4_night_23 2 rfl ?_
    refine z_iconst (pc := 24) dX4_night_24 ?_
    refine z_aload_n (pc := 25) dX4_night_25 2 rfl ?_
    refine z_get (pc := 26) (q0 := 0) (v := .ref mT) fL_X4_16 dX4_night_26 rfl rfl ?_
    refine z_callV (pc := 29) (st := []) (st2 := []) (ws2 := [(m, .inr (4, [.ref mR, .ref mF, .ref mT, .ref mB, .ref mTp, .int (iI tn), .int (iI so), .int (iI be), .int (iI te), .long wd, .int (iI va), .int gd, .ref mBo, .ref mSo, .ref mSh, .ref mLe, .ref mIm, .ref mBf, .int ik])), (mR, .inl (cI, 35, .inl (rowA g))), (mF, .inl (cI, 7, .inl (ar fd))), (mT, .inl (cI, 35, .inl (rowA g)))]) (q0 := 0) (c_X4_moveAll l D cI cJ cB cS xa m mR mF mT mB mTp mBo mSo mSh mLe mIm mBf tn so be te va wd gd ik mT (rowA g) ft ) mV_X4_moveAll kM_X4_151 dX4_night_29 rfl rfl [0, 1, 3] rfl rfl rfl rfl rfl rfl rfl rfl ⟨Nat.le_of_ble_eq_true rfl, Nat.le_of_ble_eq_true rfl, Nat.le_of_ble_eq_true rfl⟩ ?_
    refine z_iconst (pc := 32) dX4_night_32 ?_
    refine z_istore (pc := 33) (lv2 := [(4, .int (iI 0)), (3, .int (iI 201)), (2, .int (iI 0)), (0, .ref m), (1, .int (iI n))]) dX4_night_33 (by decide) rfl ?_
    have LP35 : ∀ (nn_ : Nat) (i : Int) (b : Int) (mx : Int), (0 ≤ i) → (i ≤ 60) → (0 ≤ b ∧ b < 60 ∧ 0 ≤ mx ∧ mx ≤ 201) → ((b, mx) = amn (niV g n) 0 201 i.toNat) → (60 - i).toNat < nn_ → Z xp l xe { frames := 5, cells := 0, slots := 0, locals := 113 } xs xm ([.ref m, .int (iI n)] : List Value).toArray xb xt xc 0 0 (MQ xb (Cq (S := (Nat → Int32)) D [(m, .inr (4, [.ref mR, .ref mF, .ref mT, .ref mB, .ref mTp, .int (iI tn), .int (iI so), .int (iI be), .int (iI te), .long wd, .int (iI va), .int gd, .ref mBo, .ref mSo, .ref mSh, .ref mLe, .ref mIm, .ref mBf, .int ik])), (mR, .inl (cI, 35, .inl (rowA g))), (mF, .inl (cI, 7, .inl (ar fd))), (mT, .inl (cI, 35, .inl ft))] (fun ft2 : (Nat → Int32) => True) (fun ft2 : (Nat → Int32) => (some (.int ((opNight g fd n).1)))) (fun ft2 : (Nat → Int32) => [(m, .inr (4, [.ref mR, .ref mF, .ref mT, .ref mB, .ref mTp, .int (iI tn), .int (iI so), .int (iI be), .int (iI te), .long wd, .int (iI va), .int gd, .ref mBo, .ref mSo, .ref mSh, .ref mLe, .ref mIm, .ref mBf, .int ik])), (mR, .inl (cI, 35, .inl (rowA g))), (mF, .inl (cI, 7, .inl (ar ((opNight g fd n).2)))), (mT, .inl (cI, 35, .inl ft2))])) ([.ref m, .int (iI n)] : List Value).toArray xs 0 0 (va_A0 [(m, .inr (4, [.ref mR, .ref mF, .ref mT, .ref mB, .ref mTp, .int (iI tn), .int (iI so), .int (iI be), .int (iI te), .long wd, .int (iI va), .int gd, .ref mBo, .ref mSo, .ref mSh, .ref mLe, .ref mIm, .ref mBf, .int ik])), (mR, .inl (cI, 35, .inl (rowA g))), (mF, .inl (cI, 7, .inl (ar fd))), (mT, .inl (cI, 35, .inl ft))])) cX4_night RX4 6 (some .int) D cI cJ cB cS xa (va_A0 [(m, .inr (4, [.ref mR, .ref mF, .ref mT, .ref mB, .ref mTp, .int (iI tn), .int (iI so), .int (iI be), .int (iI te), .long wd, .int (iI va), .int gd, .ref mBo, .ref mSo, .ref mSh, .ref mLe, .ref mIm, .ref mBf, .int ik])), (mR, .inl (cI, 35, .inl (rowA g))), (mF, .inl (cI, 7, .inl (ar fd))), (mT, .inl (cI, 35, .inl ft))]) [(m, .inr (4, [.ref mR, .ref mF, .ref mT, .ref mB, .ref mTp, .int (iI tn), .int (iI so), .int (iI be), .int (iI te), .long wd, .int (iI va), .int gd, .ref mBo, .ref mSo, .ref mSh, .ref mLe, .ref mIm, .ref mBf, .int ik])), (mR, .inl (cI, 35, .inl (rowA g))), (mF, .inl (cI, 7, .inl (ar fd))), (mT, .inl (cI, 35, .inl (rowA g)))] [(0, .ref m), (1, .int (iI n)), (2, .int (iI b)), (3, .int (iI mx)), (4, .int (iI i))] 35 [] := by
      intro nn_
      induction nn_ with
      | zero => intro i b mx hi0 hi1 hr hb hms; exact absurd hms (Nat.not_lt_zero _)
      | succ nn_ ih =>
        intro i b mx hi0 hi1 hr hb hms
        have ih35 := ih
        clear ih
        refine z_iload (pc := 35) dX4_night_35 4 rfl ?_
        refine z_bipush (pc := 37) dX4_night_37 (by decide) ?_
        refine z_icmp_ge (pc := 39) (tgt := 102) dX4_night_39 (by decide) (by omega) (by omega) (fun h39 => ?_) (fun h39 => ?_)
        · skip
          obtain rfl : i = 60 := by omega
          refine z_iload_n (pc := 102) dX4_night_102 2 rfl ?_
          have e9 : opNight g fd n = ((iI b), fd) := by
            unfold opNight
            rw [if_pos ⟨by omega, by omega⟩, show (60 : Nat) = Int.toNat 60 from rfl, ← hb]
          exact z_iretE (pc := 103) dX4_night_103 (rowA g) trivial (by rw [e9]) (by rw [e9])
        · skip
          refine z_aload_n (pc := 42) dX4_night_42 0 rfl ?_
          refine z_get (pc := 43) (q0 := 0) (v := .ref mR) fL_X4_7 dX4_night_43 rfl rfl ?_
          refine z_iconst (pc := 46) dX4_night_46 ?_
          refine z_iload (pc := 47) dX4_night_47 4 rfl ?_
          refine z_iast (pc := 49) (q0 := 1) (ws2 := [(m, .inr (4, [.ref mR, .ref mF, .ref mT, .ref mB, .ref mTp, .int (iI tn), .int (iI so), .int (iI be), .int (iI te), .long wd, .int (iI va), .int gd, .ref mBo, .ref mSo, .ref mSh, .ref mLe, .ref mIm, .ref mBf, .int ik])), (mR, .inl (cI, 35, .inl (rowA (up2 g 4 1 i)))), (mF, .inl (cI, 7, .inl (ar fd))), (mT, .inl (cI, 35, .inl (rowA g)))]) dX4_night_49 rfl (by omega) (by decide) (by rw [rowA_up4 (z := 1) (by decide) (by decide)]; try rfl) ?_
          have u0 : up2 g 4 1 i 4 0 = g 4 0 := rfl
          refine z_aload_n (pc := 50) dX4_night_50 0 rfl ?_
          refine z_iload_n (pc := 51) dX4_night_51 1 rfl ?_
          refine z_callV (pc := 52) (st := []) (st2 := []) (ws2 := [(m, .inr (4, [.ref mR, .ref mF, .ref mT, .ref mB, .ref mTp, .int (iI tn), .int (iI so), .int (iI be), .int (iI te), .long wd, .int (iI va), .int gd, .ref mBo, .ref mSo, .ref mSh, .ref mLe, .ref mIm, .ref mBf, .int ik])), (mR, .inl (cI, 35, .inl (rowA (minsG (up2 g 4 1 i) (Int.toNat n))))), (mF, .inl (cI, 7, .inl (ar fd))), (mT, .inl (cI, 35, .inl (rowA g)))]) (q0 := 0) (c_X4_passes l D cI cJ cB cS xa m mR mF mT mB mTp mBo mSo mSh mLe mIm mBf tn so be te va wd gd ik (up2 g 4 1 i) n (ok.up1 (by omega)) (by omega) (by show g 4 0 + n ≤ 1000000; omega)) mV_X4_passes kM_X4_148 dX4_night_52 rfl rfl [0, 1] rfl rfl rfl rfl rfl rfl rfl rfl ⟨Nat.le_of_ble_eq_true rfl, Nat.le_of_ble_eq_true rfl, Nat.le_of_ble_eq_true rfl⟩ ?_
          have ok52_1 : Ok (minsG (up2 g 4 1 i) (Int.toNat n)) := minsG_ok (ok.up1 (by omega)) _ (by omega)
          have f52_2 := minsG_40 (up2 g 4 1 i) (Int.toNat n)
          have f52_3 := minsG_41 (up2 g 4 1 i) (Int.toNat n)
          have f52_4 := minsG_42 (up2 g 4 1 i) (Int.toNat n)
          refine z_aload_n (pc := 55) dX4_night_55 0 rfl ?_
          refine z_callV (pc := 56) (st := []) (st2 := [.int (iI (diffG (minsG (up2 g 4 1 i) (Int.toNat n))))]) (ws2 := [(m, .inr (4, [.ref mR, .ref mF, .ref mT, .ref mB, .ref mTp, .int (iI tn), .int (iI so), .int (iI be), .int (iI te), .long wd, .int (iI va), .int gd, .ref mBo, .ref mSo, .ref mSh, .ref mLe, .ref mIm, .ref mBf, .int ik])), (mR, .inl (cI, 35, .inl (rowA (minsG (up2 g 4 1 i) (Int.toNat n))))), (mF, .inl (cI, 7, .inl (ar fd))), (mT, .inl (cI, 35, .inl (rowA g)))]) (q0 := 0) (c_X4_difference l D cI cJ cB cS xa m mR mF mT mB mTp mBo mSo mSh mLe mIm mBf tn so be te va wd gd ik (minsG (up2 g 4 1 i) (Int.toNat n)) ok52_1) mV_X4_difference kM_X4_77 dX4_night_56 rfl rfl [0, 1] rfl rfl rfl rfl rfl rfl rfl rfl ⟨Nat.le_of_ble_eq_true rfl, Nat.le_of_ble_eq_true rfl, Nat.le_of_ble_eq_true rfl⟩ ?_
          have f56_5 := diffG_rng ok52_1
          refine z_istore (pc := 59) (lv2 := [(5, .int (iI (diffG (minsG (up2 g 4 1 i) (Int.toNat n))))), (0, .ref m), (1, .int (iI n)), (2, .int (iI b)), (3, .int (iI mx)), (4, .int (iI i))]) dX4_night_59 (by decide) rfl ?_
          refine z_aload_n (pc := 61) dX4_night_61 1 rfl ?_
          refine z_iconst (pc := 62) dX4_night_62 ?_
          refine z_aload_n (pc := 63) dX4_night_63 1 rfl ?_
          refine z_get (pc := 64) (q0 := 0) (v := .ref mT) fL_X4_16 dX4_night_64 rfl rfl ?_
          refine z_callV (pc := 67) (st := []) (st2 := []) (ws2 := [(m, .inr (4, [.ref mR, .ref mF, .ref mT, .ref mB, .ref mTp, .int (iI tn), .int (iI so), .int (iI be), .int (iI te), .long wd, .int (iI va), .int gd, .ref mBo, .ref mSo, .ref mSh, .ref mLe, .ref mIm, .ref mBf, .int ik])), (mR, .inl (cI, 35, .inl (rowA g))), (mF, .inl (cI, 7, .inl (ar fd))), (mT, .inl (cI, 35, .inl (rowA g)))]) (q0 := 0) (c_X4_moveAll_b l D cI cJ cB cS xa m mR mF mT mB mTp mBo mSo mSh mLe mIm mBf tn so be te va wd gd ik mT (rowA (minsG (up2 g 4 1 i) (Int.toNat n))) (rowA g) ) mV_X4_moveAll kM_X4_151 dX4_night_67 rfl rfl [0, 1, 3] rfl rfl rfl rfl rfl rfl rfl rfl ⟨Nat.le_of_ble_eq_true rfl, Nat.le_of_ble_eq_true rfl, Nat.le_of_ble_eq_true rfl⟩ ?_
          refine z_iload (pc := 70) dX4_night_70 0 rfl ?_
          refine z_iload_n (pc := 72) dX4_night_72 4 rfl ?_
          refine z_icmp_ge (pc := 73) (tgt := 81) dX4_night_73 (by decide) (by omega) (by omega) (fun h73 => ?_) (fun h73 => ?_)
          · skip
            refine z_iload_n (pc := 81) dX4_night_81 3 rfl ?_
            refine z_istore_n (pc := 82) (lv2 := [(2, .int (iI b)), (5, .int (iI (diffG (minsG (up2 g 4 1 i) (Int.toNat n))))), (0, .ref m), (1, .int (iI n)), (3, .int (iI mx)), (4, .int (iI i))]) dX4_night_82 rfl (by decide) rfl ?_
            refine z_iload (pc := 83) dX4_night_83 1 rfl ?_
            refine z_iload_n (pc := 85) dX4_night_85 4 rfl ?_
            refine z_icmp_ge (pc := 86) (tgt := 94) dX4_night_86 (by decide) (by omega) (by omega) (fun h86 => ?_) (fun h86 => ?_)
            · skip
              refine z_iload_n (pc := 94) dX4_night_94 4 rfl ?_
              refine z_istore_n (pc := 95) (lv2 := [(3, .int (iI mx)), (2, .int (iI b)), (5, .int (iI (diffG (minsG (up2 g 4 1 i) (Int.toNat n))))), (0, .ref m), (1, .int (iI n)), (4, .int (iI i))]) dX4_night_95 rfl (by decide) rfl ?_
              refine z_iinc (pc := 96) (lv2 := [(4, .int (iI (i + 1))), (3, .int (iI mx)), (2, .int (iI b)), (5, .int (iI (diffG (minsG (up2 g 4 1 i) (Int.toNat n))))), (0, .ref m), (1, .int (iI n))]) dX4_night_96 5 rfl (by decide) rfl ?_
              refine z_goto (pc := 99) (tgt := 35) dX4_night_99 (by decide) ?_
              refine z_lv (lv2 := [(0, .ref m), (1, .int (iI n)), (2, .int (iI b)), (3, .int (iI mx)), (4, .int (iI (i + 1)))]) [4, 5, 2, 1, 0] rfl ?_
              exact ih35 (i + 1) b mx (by omega) (by omega) (by omega) (amn_f hi0 hb (fun q => by have q2 : diffG (minsG (up2 g 4 1 i) (Int.toNat n)) < mx := q; omega)) (by omega)
            · skip
              exfalso; omega
          · skip
            refine z_iload (pc := 76) dX4_night_76 5 rfl ?_
            refine z_goto (pc := 78) (tgt := 82) dX4_night_78 (by decide) ?_
            refine z_istore_n (pc := 82) (lv2 := [(2, .int (iI i)), (5, .int (iI (diffG (minsG (up2 g 4 1 i) (Int.toNat n))))), (0, .ref m), (1, .int (iI n)), (3, .int (iI mx)), (4, .int (iI i))]) dX4_night_82 rfl (by decide) rfl ?_
            refine z_iload (pc := 83) dX4_night_83 1 rfl ?_
            refine z_iload_n (pc := 85) dX4_night_85 4 rfl ?_
            refine z_icmp_ge (pc := 86) (tgt := 94) dX4_night_86 (by decide) (by omega) (by omega) (fun h86 => ?_) (fun h86 => ?_)
            · skip
              exfalso; omega
            · skip
              refine z_iload (pc := 89) dX4_night_89 1 rfl ?_
              refine z_goto (pc := 91) (tgt := 95) dX4_night_91 (by decide) ?_
              refine z_istore_n (pc := 95) (lv2 := [(3, .int (iI (diffG (minsG (up2 g 4 1 i) (Int.toNat n))))), (2, .int (iI i)), (5, .int (iI (diffG (minsG (up2 g 4 1 i) (Int.toNat n))))), (0, .ref m), (1, .int (iI n)), (4, .int (iI i))]) dX4_night_95 rfl (by decide) rfl ?_
              refine z_iinc (pc := 96) (lv2 := [(4, .int (iI (i + 1))), (3, .int (iI (diffG (minsG (up2 g 4 1 i) (Int.toNat n))))), (2, .int (iI i)), (5, .int (iI (diffG (minsG (up2 g 4 1 i) (Int.toNat n))))), (0, .ref m), (1, .int (iI n))]) dX4_night_96 5 rfl (by decide) rfl ?_
              refine z_goto (pc := 99) (tgt := 35) dX4_night_99 (by decide) ?_
              refine z_lv (lv2 := [(0, .ref m), (1, .int (iI n)), (2, .int (iI i)), (3, .int (iI (diffG (minsG (up2 g 4 1 i) (Int.toNat n))))), (4, .int (iI (i + 1)))]) [4, 5, 2, 1, 0] rfl ?_
              exact ih35 (i + 1) i (diffG (minsG (up2 g 4 1 i) (Int.toNat n))) (by omega) (by omega) (by omega) (amn_t hi0 hb (by show diffG (minsG (up2 g 4 1 i) (Int.toNat n)) < mx; omega)) (by omega)
    refine z_lv (lv2 := [(0, .ref m), (1, .int (iI n)), (2, .int (iI 0)), (3, .int (iI 201)), (4, .int (iI 0))]) [3, 4, 2, 1, 0] rfl ?_
    exact LP35 _ 0 0 201 (by omega) (by omega) (by omega) (by rfl) (Nat.lt_succ_self _)
  · skip
    refine z_aload_n (pc := 10) dX4_night_10 0 rfl ?_
    refine z_ldc (pc := 11) (n := -1000000001) kC_X4_44 dX4_night_11 (by decide) ?_
    refine z_callV (pc := 13) (st := []) (st2 := [.int (iI (-1000000001))]) (ws2 := [(m, .inr (4, [.ref mR, .ref mF, .ref mT, .ref mB, .ref mTp, .int (iI tn), .int (iI so), .int (iI be), .int (iI te), .long wd, .int (iI va), .int gd, .ref mBo, .ref mSo, .ref mSh, .ref mLe, .ref mIm, .ref mBf, .int ik])), (mR, .inl (cI, 35, .inl (rowA g))), (mF, .inl (cI, 7, .inl (ar (fnd fd 0)))), (mT, .inl (cI, 35, .inl ft))]) (q0 := 0) (c_X4_finds l D cI cJ cB cS xa m mR mF mT mB mTp mBo mSo mSh mLe mIm mBf tn so be te va wd gd ik fd (-1000000001) 0 (by omega) (by omega)) mV_X4_finds kM_X4_53 dX4_night_13 rfl rfl [0, 2] rfl rfl rfl rfl rfl rfl rfl rfl ⟨Nat.le_of_ble_eq_true rfl, Nat.le_of_ble_eq_true rfl, Nat.le_of_ble_eq_true rfl⟩ ?_
    have e9 : opNight g fd n = ((iI (-1000000001)), fnd fd 0) := by
      unfold opNight; try unfold bI
      (repeat' split) <;> first | (exfalso; omega) | contradiction | rfl
    exact z_iretE (pc := 16) dX4_night_16 ft trivial (by rw [e9]) (by rw [e9])
set_option maxHeartbeats 8000000 in
set_option maxRecDepth 100000 in
theorem c_X4_debtor (l : Launch) (D : va_G) (cI cJ cB cS : ClassId) (xa : XA) (m mR mF mT mB mTp mBo mSo mSh mLe mIm mBf : Nat) (tn so be te va : Int) (wd : Int64) (gd ik : Int32) (g : Gd) (fd : FF) (ft : Nat → Int32) (n : Int) (ok : Ok g) (rn : inr n) (hm : g 4 0 ≤ 99999) : CtE (S := (Nat → Int32)) l D cI cJ cB cS xa yX4_debtor cX4_debtor 3 (some .int) 5 113 [.ref m, .int (iI n)] [(m, .inr (4, [.ref mR, .ref mF, .ref mT, .ref mB, .ref mTp, .int (iI tn), .int (iI so), .int (iI be), .int (iI te), .long wd, .int (iI va), .int gd, .ref mBo, .ref mSo, .ref mSh, .ref mLe, .ref mIm, .ref mBf, .int ik])), (mR, .inl (cI, 35, .inl (rowA g))), (mF, .inl (cI, 7, .inl (ar fd))), (mT, .inl (cI, 35, .inl ft))] (fun ft2 : (Nat → Int32) => True) (fun ft2 : (Nat → Int32) => (some (.int ((opDebtor g fd n).1)))) (fun ft2 : (Nat → Int32) => [(m, .inr (4, [.ref mR, .ref mF, .ref mT, .ref mB, .ref mTp, .int (iI tn), .int (iI so), .int (iI be), .int (iI te), .long wd, .int (iI va), .int gd, .ref mBo, .ref mSo, .ref mSh, .ref mLe, .ref mIm, .ref mBf, .int ik])), (mR, .inl (cI, 35, .inl (rowA g))), (mF, .inl (cI, 7, .inl (ar ((opDebtor g fd n).2)))), (mT, .inl (cI, 35, .inl ft2))]) := by
  have o0 := ok0 ok
  have o1 := ok1 ok
  have o2 := ok2 ok
  refine CtE.of (own := RX4) (lv := [(0, .ref m), (1, .int (iI n))]) (by decide) rfl rfl (Nat.le_of_ble_eq_true rfl) ?_
  intro xp xe xs xm xb xt xc
  refine z_iload_n (pc := 0) dX4_debtor_0 1 rfl ?_
  refine z_iconst (pc := 1) dX4_debtor_1 ?_
  refine z_sipush (pc := 2) dX4_debtor_2 (by decide) ?_
  refine z_callS (pc := 5) (st := []) (st2 := [.int (bI (0 ≤ n ∧ n ≤ 400))]) (ws2 := [(m, .inr (4, [.ref mR, .ref mF, .ref mT, .ref mB, .ref mTp, .int (iI tn), .int (iI so), .int (iI be), .int (iI te), .long wd, .int (iI va), .int gd, .ref mBo, .ref mSo, .ref mSh, .ref mLe, .ref mIm, .ref mBf, .int ik])), (mR, .inl (cI, 35, .inl (rowA g))), (mF, .inl (cI, 7, .inl (ar fd))), (mT, .inl (cI, 35, .inl ft))]) (c_X4_in l D cI cJ cB cS xa n 0 400 (by omega) (by omega) (by omega)) mS_X4_in kM_X4_45 dX4_debtor_5 [] rfl rfl rfl rfl rfl rfl rfl rfl ⟨Nat.le_of_ble_eq_true rfl, Nat.le_of_ble_eq_true rfl, Nat.le_of_ble_eq_true rfl⟩ ?_
  refine z_ifb_ne (pc := 8) (tgt := 18) dX4_debtor_8 (by decide) (fun h8 => ?_) (fun h8 => ?_)
  · skip
    refine z_aload_n (pc := 18) dX4_debtor_18 0 rfl ?_
    refine z_iconst (pc := 19) dX4_debtor_19 ?_
    refine z_aload_n (pc := 20) dX4_debtor_20 0 rfl ?_
    refine z_get (pc := 21) (q0 := 0) (v := .ref mT) fL_X4_16 dX4_debtor_21 rfl rfl ?_
    refine z_callV (pc := 24) (st := []) (st2 := []) (ws2 := [(m, .inr (4, [.ref mR, .ref mF, .ref mT, .ref mB, .ref mTp, .int (iI tn), .int (iI so), .int (iI be), .int (iI te), .long wd, .int (iI va), .int gd, .ref mBo, .ref mSo, .ref mSh, .ref mLe, .ref mIm, .ref mBf, .int ik])), (mR, .inl (cI, 35, .inl (rowA g))), (mF, .inl (cI, 7, .inl (ar fd))), (mT, .inl (cI, 35, .inl (rowA g)))]) (q0 := 0) (c_X4_moveAll l D cI cJ cB cS xa m mR mF mT mB mTp mBo mSo mSh mLe mIm mBf tn so be te va wd gd ik mT (rowA g) ft ) mV_X4_moveAll kM_X4_151 dX4_debtor_24 rfl rfl [0, 1, 3] rfl rfl rfl rfl rfl rfl rfl rfl ⟨Nat.le_of_ble_eq_true rfl, Nat.le_of_ble_eq_true rfl, Nat.le_of_ble_eq_true rfl⟩ ?_
    refine z_aload_n (pc := 27) dX4_debtor_27 0 rfl ?_
    refine z_iload_n (pc := 28) dX4_debtor_28 1 rfl ?_
    refine z_callV (pc := 29) (st := []) (st2 := []) (ws2 := [(m, .inr (4, [.ref mR, .ref mF, .ref mT, .ref mB, .ref mTp, .int (iI tn), .int (iI so), .int (iI be), .int (iI te), .long wd, .int (iI va), .int gd, .ref mBo, .ref mSo, .ref mSh, .ref mLe, .ref mIm, .ref mBf, .int ik])), (mR, .inl (cI, 35, .inl (rowA (minsG g (Int.toNat n))))), (mF, .inl (cI, 7, .inl (ar fd))), (mT, .inl (cI, 35, .inl (rowA g)))]) (q0 := 0) (c_X4_passes l D cI cJ cB cS xa m mR mF mT mB mTp mBo mSo mSh mLe mIm mBf tn so be te va wd gd ik g n ok (by omega) (by omega)) mV_X4_passes kM_X4_148 dX4_debtor_29 rfl rfl [0, 1] rfl rfl rfl rfl rfl rfl rfl rfl ⟨Nat.le_of_ble_eq_true rfl, Nat.le_of_ble_eq_true rfl, Nat.le_of_ble_eq_true rfl⟩ ?_
    have ok29_1 : Ok (minsG g (Int.toNat n)) := minsG_ok ok _ (by omega)
    have f29_2 := minsG_40 g (Int.toNat n)
    have f29_3 := minsG_41 g (Int.toNat n)
    have f29_4 := minsG_42 g (Int.toNat n)
    refine z_aload_n (pc := 32) dX4_debtor_32 0 rfl ?_
    refine z_iconst (pc := 33) dX4_debtor_33 ?_
    refine z_callV (pc := 34) (st := []) (st2 := [.int (iI (mostN ((minsG g (Int.toNat n)) 3) (many (minsG g (Int.toNat n)))))]) (ws2 := [(m, .inr (4, [.ref mR, .ref mF, .ref mT, .ref mB, .ref mTp, .int (iI tn), .int (iI so), .int (iI be), .int (iI te), .long wd, .int (iI va), .int gd, .ref mBo, .ref mSo, .ref mSh, .ref mLe, .ref mIm, .ref mBf, .int ik])), (mR, .inl (cI, 35, .inl (rowA (minsG g (Int.toNat n))))), (mF, .inl (cI, 7, .inl (ar fd))), (mT, .inl (cI, 35, .inl (rowA g)))]) (q0 := 0) (c_X4_mostOf l D cI cJ cB cS xa m mR mF mT mB mTp mBo mSo mSh mLe mIm mBf tn so be te va wd gd ik (minsG g (Int.toNat n)) 3 ok29_1 (by omega)) mV_X4_mostOf kM_X4_60 dX4_debtor_34 rfl rfl [0, 1] rfl rfl rfl rfl rfl rfl rfl rfl ⟨Nat.le_of_ble_eq_true rfl, Nat.le_of_ble_eq_true rfl, Nat.le_of_ble_eq_true rfl⟩ ?_
    have f34_5 := mostG_rng ok29_1 3
    refine z_istore_n (pc := 37) (lv2 := [(2, .int (iI (mostN ((minsG g (Int.toNat n)) 3) (many (minsG g (Int.toNat n)))))), (0, .ref m), (1, .int (iI n))]) dX4_debtor_37 rfl (by decide) rfl ?_
    refine z_aload_n (pc := 38) dX4_debtor_38 1 rfl ?_
    refine z_iconst (pc := 39) dX4_debtor_39 ?_
    refine z_aload_n (pc := 40) dX4_debtor_40 1 rfl ?_
    refine z_get (pc := 41) (q0 := 0) (v := .ref mT) fL_X4_16 dX4_debtor_41 rfl rfl ?_
    refine z_callV (pc := 44) (st := []) (st2 := []) (ws2 := [(m, .inr (4, [.ref mR, .ref mF, .ref mT, .ref mB, .ref mTp, .int (iI tn), .int (iI so), .int (iI be), .int (iI te), .long wd, .int (iI va), .int gd, .ref mBo, .ref mSo, .ref mSh, .ref mLe, .ref mIm, .ref mBf, .int ik])), (mR, .inl (cI, 35, .inl (rowA g))), (mF, .inl (cI, 7, .inl (ar fd))), (mT, .inl (cI, 35, .inl (rowA g)))]) (q0 := 0) (c_X4_moveAll_b l D cI cJ cB cS xa m mR mF mT mB mTp mBo mSo mSh mLe mIm mBf tn so be te va wd gd ik mT (rowA (minsG g (Int.toNat n))) (rowA g) ) mV_X4_moveAll kM_X4_151 dX4_debtor_44 rfl rfl [0, 1, 3] rfl rfl rfl rfl rfl rfl rfl rfl ⟨Nat.le_of_ble_eq_true rfl, Nat.le_of_ble_eq_true rfl, Nat.le_of_ble_eq_true rfl⟩ ?_
    refine z_iload_n (pc := 47) dX4_debtor_47 0 rfl ?_
    refine z_if_ge (pc := 48) (tgt := 60) dX4_debtor_48 (by decide) (by omega) (fun h48 => ?_) (fun h48 => ?_)
    · skip
      refine z_iload_n (pc := 60) dX4_debtor_60 0 rfl ?_
      have e9 : opDebtor g fd n = ((iI (mostN ((minsG g (Int.toNat n)) 3) (many (minsG g (Int.toNat n))))), fd) := by
        unfold opDebtor noneI
        rw [if_pos ⟨by omega, by omega⟩, if_neg (by omega)]
      exact z_iretE (pc := 61) dX4_debtor_61 (rowA g) trivial (by rw [e9]) (by rw [e9])
    · skip
      refine z_aload_n (pc := 51) dX4_debtor_51 1 rfl ?_
      refine z_ldc (pc := 52) (n := -1000000004) kC_X4_158 dX4_debtor_52 (by decide) ?_
      refine z_callV (pc := 54) (st := []) (st2 := [.int (iI (-1000000004))]) (ws2 := [(m, .inr (4, [.ref mR, .ref mF, .ref mT, .ref mB, .ref mTp, .int (iI tn), .int (iI so), .int (iI be), .int (iI te), .long wd, .int (iI va), .int gd, .ref mBo, .ref mSo, .ref mSh, .ref mLe, .ref mIm, .ref mBf, .int ik])), (mR, .inl (cI, 35, .inl (rowA g))), (mF, .inl (cI, 7, .inl (ar (fnd fd 3)))), (mT, .inl (cI, 35, .inl (rowA g)))]) (q0 := 0) (c_X4_finds l D cI cJ cB cS xa m mR mF mT mB mTp mBo mSo mSh mLe mIm mBf tn so be te va wd gd ik fd (-1000000004) 3 (by omega) (by omega)) mV_X4_finds kM_X4_53 dX4_debtor_54 rfl rfl [0, 2] rfl rfl rfl rfl rfl rfl rfl rfl ⟨Nat.le_of_ble_eq_true rfl, Nat.le_of_ble_eq_true rfl, Nat.le_of_ble_eq_true rfl⟩ ?_
      refine z_goto (pc := 57) (tgt := 61) dX4_debtor_57 (by decide) ?_
      have e9 : opDebtor g fd n = ((iI (-1000000004)), fnd fd 3) := by
        unfold opDebtor noneI
        rw [if_pos ⟨by omega, by omega⟩, if_pos (by omega)]
        rfl
      exact z_iretE (pc := 61) dX4_debtor_61 (rowA g) trivial (by rw [e9]) (by rw [e9])
  · skip
    refine z_aload_n (pc := 11) dX4_debtor_11 0 rfl ?_
    refine z_ldc (pc := 12) (n := -1000000001) kC_X4_44 dX4_debtor_12 (by decide) ?_
    refine z_callV (pc := 14) (st := []) (st2 := [.int (iI (-1000000001))]) (ws2 := [(m, .inr (4, [.ref mR, .ref mF, .ref mT, .ref mB, .ref mTp, .int (iI tn), .int (iI so), .int (iI be), .int (iI te), .long wd, .int (iI va), .int gd, .ref mBo, .ref mSo, .ref mSh, .ref mLe, .ref mIm, .ref mBf, .int ik])), (mR, .inl (cI, 35, .inl (rowA g))), (mF, .inl (cI, 7, .inl (ar (fnd fd 0)))), (mT, .inl (cI, 35, .inl ft))]) (q0 := 0) (c_X4_finds l D cI cJ cB cS xa m mR mF mT mB mTp mBo mSo mSh mLe mIm mBf tn so be te va wd gd ik fd (-1000000001) 0 (by omega) (by omega)) mV_X4_finds kM_X4_53 dX4_debtor_14 rfl rfl [0, 2] rfl rfl rfl rfl rfl rfl rfl rfl ⟨Nat.le_of_ble_eq_true rfl, Nat.le_of_ble_eq_true rfl, Nat.le_of_ble_eq_true rfl⟩ ?_
    have e9 : opDebtor g fd n = ((iI (-1000000001)), fnd fd 0) := by
      unfold opDebtor; try unfold bI
      (repeat' split) <;> first | (exfalso; omega) | contradiction | rfl
    exact z_iretE (pc := 17) dX4_debtor_17 ft trivial (by rw [e9]) (by rw [e9])
set_option maxHeartbeats 8000000 in
set_option maxRecDepth 100000 in
theorem c_X4_marbles (l : Launch) (D : va_G) (cI cJ cB cS : ClassId) (xa : XA) (m mR mF mT mB mTp mBo mSo mSh mLe mIm mBf : Nat) (tn so be te va : Int) (wd : Int64) (gd ik : Int32) (g : Gd) (fd : FF) (ft : Nat → Int32) (c n v : Int) (ok : Ok g) (rc : inr c) (rn : inr n) (rv : inr v) (hm : g 4 0 ≤ 99999) : CtE (S := (Nat → Int32)) l D cI cJ cB cS xa yX4_marbles cX4_marbles 6 (some .int) 6 136 [.ref m, .int (iI c), .int (iI n), .int (iI v)] [(m, .inr (4, [.ref mR, .ref mF, .ref mT, .ref mB, .ref mTp, .int (iI tn), .int (iI so), .int (iI be), .int (iI te), .long wd, .int (iI va), .int gd, .ref mBo, .ref mSo, .ref mSh, .ref mLe, .ref mIm, .ref mBf, .int ik])), (mR, .inl (cI, 35, .inl (rowA g))), (mF, .inl (cI, 7, .inl (ar fd))), (mT, .inl (cI, 35, .inl ft))] (fun ft2 : (Nat → Int32) => True) (fun ft2 : (Nat → Int32) => (some (.int ((opMarbles g fd c n v).1)))) (fun ft2 : (Nat → Int32) => [(m, .inr (4, [.ref mR, .ref mF, .ref mT, .ref mB, .ref mTp, .int (iI tn), .int (iI so), .int (iI be), .int (iI te), .long wd, .int (iI va), .int gd, .ref mBo, .ref mSo, .ref mSh, .ref mLe, .ref mIm, .ref mBf, .int ik])), (mR, .inl (cI, 35, .inl (rowA g))), (mF, .inl (cI, 7, .inl (ar ((opMarbles g fd c n v).2)))), (mT, .inl (cI, 35, .inl ft2))]) := by
  have o0 := ok0 ok
  have o1 := ok1 ok
  have o2 := ok2 ok
  refine CtE.of (own := RX4) (lv := [(0, .ref m), (1, .int (iI c)), (2, .int (iI n)), (3, .int (iI v))]) (by decide) rfl rfl (Nat.le_of_ble_eq_true rfl) ?_
  intro xp xe xs xm xb xt xc
  refine z_aload_n (pc := 0) dX4_marbles_0 0 rfl ?_
  refine z_iload_n (pc := 1) dX4_marbles_1 1 rfl ?_
  refine z_callV (pc := 2) (st := []) (st2 := [.int (bI (0 ≤ c ∧ c < g 4 2))]) (ws2 := [(m, .inr (4, [.ref mR, .ref mF, .ref mT, .ref mB, .ref mTp, .int (iI tn), .int (iI so), .int (iI be), .int (iI te), .long wd, .int (iI va), .int gd, .ref mBo, .ref mSo, .ref mSh, .ref mLe, .ref mIm, .ref mBf, .int ik])), (mR, .inl (cI, 35, .inl (rowA g))), (mF, .inl (cI, 7, .inl (ar fd))), (mT, .inl (cI, 35, .inl ft))]) (q0 := 0) (c_X4_isOne l D cI cJ cB cS xa m mR mF mT mB mTp mBo mSo mSh mLe mIm mBf tn so be te va wd gd ik g c ok (by omega)) mV_X4_isOne kM_X4_98 dX4_marbles_2 rfl rfl [0, 1] rfl rfl rfl rfl rfl rfl rfl rfl ⟨Nat.le_of_ble_eq_true rfl, Nat.le_of_ble_eq_true rfl, Nat.le_of_ble_eq_true rfl⟩ ?_
  refine z_ifb_eq (pc := 5) (tgt := 29) dX4_marbles_5 (by decide) (fun h5 => ?_) (fun h5 => ?_)
  · skip
    refine z_aload_n (pc := 29) dX4_marbles_29 0 rfl ?_
    refine z_ldc (pc := 30) (n := -1000000001) kC_X4_44 dX4_marbles_30 (by decide) ?_
    refine z_callV (pc := 32) (st := []) (st2 := [.int (iI (-1000000001))]) (ws2 := [(m, .inr (4, [.ref mR, .ref mF, .ref mT, .ref mB, .ref mTp, .int (iI tn), .int (iI so), .int (iI be), .int (iI te), .long wd, .int (iI va), .int gd, .ref mBo, .ref mSo, .ref mSh, .ref mLe, .ref mIm, .ref mBf, .int ik])), (mR, .inl (cI, 35, .inl (rowA g))), (mF, .inl (cI, 7, .inl (ar (fnd fd 0)))), (mT, .inl (cI, 35, .inl ft))]) (q0 := 0) (c_X4_finds l D cI cJ cB cS xa m mR mF mT mB mTp mBo mSo mSh mLe mIm mBf tn so be te va wd gd ik fd (-1000000001) 0 (by omega) (by omega)) mV_X4_finds kM_X4_53 dX4_marbles_32 rfl rfl [0, 2] rfl rfl rfl rfl rfl rfl rfl rfl ⟨Nat.le_of_ble_eq_true rfl, Nat.le_of_ble_eq_true rfl, Nat.le_of_ble_eq_true rfl⟩ ?_
    have e9 : opMarbles g fd c n v = ((iI (-1000000001)), fnd fd 0) := by
      unfold opMarbles; try unfold bI
      (repeat' split) <;> first | (exfalso; omega) | contradiction | rfl
    exact z_iretE (pc := 35) dX4_marbles_35 ft trivial (by rw [e9]) (by rw [e9])
  · skip
    refine z_iload_n (pc := 8) dX4_marbles_8 2 rfl ?_
    refine z_iconst (pc := 9) dX4_marbles_9 ?_
    refine z_bipush (pc := 10) dX4_marbles_10 (by decide) ?_
    refine z_callS (pc := 12) (st := []) (st2 := [.int (bI (1 ≤ n ∧ n ≤ 100))]) (ws2 := [(m, .inr (4, [.ref mR, .ref mF, .ref mT, .ref mB, .ref mTp, .int (iI tn), .int (iI so), .int (iI be), .int (iI te), .long wd, .int (iI va), .int gd, .ref mBo, .ref mSo, .ref mSh, .ref mLe, .ref mIm, .ref mBf, .int ik])), (mR, .inl (cI, 35, .inl (rowA g))), (mF, .inl (cI, 7, .inl (ar fd))), (mT, .inl (cI, 35, .inl ft))]) (c_X4_in l D cI cJ cB cS xa n 1 100 (by omega) (by omega) (by omega)) mS_X4_in kM_X4_45 dX4_marbles_12 [] rfl rfl rfl rfl rfl rfl rfl rfl ⟨Nat.le_of_ble_eq_true rfl, Nat.le_of_ble_eq_true rfl, Nat.le_of_ble_eq_true rfl⟩ ?_
    refine z_ifb_eq (pc := 15) (tgt := 29) dX4_marbles_15 (by decide) (fun h15 => ?_) (fun h15 => ?_)
    · skip
      refine z_aload_n (pc := 29) dX4_marbles_29 0 rfl ?_
      refine z_ldc (pc := 30) (n := -1000000001) kC_X4_44 dX4_marbles_30 (by decide) ?_
      refine z_callV (pc := 32) (st := []) (st2 := [.int (iI (-1000000001))]) (ws2 := [(m, .inr (4, [.ref mR, .ref mF, .ref mT, .ref mB, .ref mTp, .int (iI tn), .int (iI so), .int (iI be), .int (iI te), .long wd, .int (iI va), .int gd, .ref mBo, .ref mSo, .ref mSh, .ref mLe, .ref mIm, .ref mBf, .int ik])), (mR, .inl (cI, 35, .inl (rowA g))), (mF, .inl (cI, 7, .inl (ar (fnd fd 0)))), (mT, .inl (cI, 35, .inl ft))]) (q0 := 0) (c_X4_finds l D cI cJ cB cS xa m mR mF mT mB mTp mBo mSo mSh mLe mIm mBf tn so be te va wd gd ik fd (-1000000001) 0 (by omega) (by omega)) mV_X4_finds kM_X4_53 dX4_marbles_32 rfl rfl [0, 2] rfl rfl rfl rfl rfl rfl rfl rfl ⟨Nat.le_of_ble_eq_true rfl, Nat.le_of_ble_eq_true rfl, Nat.le_of_ble_eq_true rfl⟩ ?_
      have e9 : opMarbles g fd c n v = ((iI (-1000000001)), fnd fd 0) := by
        unfold opMarbles; try unfold bI
        (repeat' split) <;> first | (exfalso; omega) | contradiction | rfl
      exact z_iretE (pc := 35) dX4_marbles_35 ft trivial (by rw [e9]) (by rw [e9])
    · skip
      refine z_iload_n (pc := 18) dX4_marbles_18 3 rfl ?_
      refine z_iconst (pc := 19) dX4_marbles_19 ?_
      refine z_sipush (pc := 20) dX4_marbles_20 (by decide) ?_
      refine z_callS (pc := 23) (st := []) (st2 := [.int (bI (0 ≤ v ∧ v ≤ 200))]) (ws2 := [(m, .inr (4, [.ref mR, .ref mF, .ref mT, .ref mB, .ref mTp, .int (iI tn), .int (iI so), .int (iI be), .int (iI te), .long wd, .int (iI va), .int gd, .ref mBo, .ref mSo, .ref mSh, .ref mLe, .ref mIm, .ref mBf, .int ik])), (mR, .inl (cI, 35, .inl (rowA g))), (mF, .inl (cI, 7, .inl (ar fd))), (mT, .inl (cI, 35, .inl ft))]) (c_X4_in l D cI cJ cB cS xa v 0 200 (by omega) (by omega) (by omega)) mS_X4_in kM_X4_45 dX4_marbles_23 [] rfl rfl rfl rfl rfl rfl rfl rfl ⟨Nat.le_of_ble_eq_true rfl, Nat.le_of_ble_eq_true rfl, Nat.le_of_ble_eq_true rfl⟩ ?_
      refine z_ifb_ne (pc := 26) (tgt := 36) dX4_marbles_26 (by decide) (fun h26 => ?_) (fun h26 => ?_)
      · skip
        refine z_aload_n (pc := 36) dX4_marbles_36 0 rfl ?_
        refine z_iconst (pc := 37) dX4_marbles_37 ?_
        refine z_aload_n (pc := 38) dX4_marbles_38 0 rfl ?_
        refine z_get (pc := 39) (q0 := 0) (v := .ref mT) fL_X4_16 dX4_marbles_39 rfl rfl ?_
        refine z_callV (pc := 42) (st := []) (st2 := []) (ws2 := [(m, .inr (4, [.ref mR, .ref mF, .ref mT, .ref mB, .ref mTp, .int (iI tn), .int (iI so), .int (iI be), .int (iI te), .long wd, .int (iI va), .int gd, .ref mBo, .ref mSo, .ref mSh, .ref mLe, .ref mIm, .ref mBf, .int ik])), (mR, .inl (cI, 35, .inl (rowA g))), (mF, .inl (cI, 7, .inl (ar fd))), (mT, .inl (cI, 35, .inl (rowA g)))]) (q0 := 0) (c_X4_moveAll l D cI cJ cB cS xa m mR mF mT mB mTp mBo mSo mSh mLe mIm mBf tn so be te va wd gd ik mT (rowA g) ft ) mV_X4_moveAll kM_X4_151 dX4_marbles_42 rfl rfl [0, 1, 3] rfl rfl rfl rfl rfl rfl rfl rfl ⟨Nat.le_of_ble_eq_true rfl, Nat.le_of_ble_eq_true rfl, Nat.le_of_ble_eq_true rfl⟩ ?_
        refine z_iconst (pc := 45) dX4_marbles_45 ?_
        refine z_istore (pc := 46) (lv2 := [(4, .int (iI (-1))), (0, .ref m), (1, .int (iI c)), (2, .int (iI n)), (3, .int (iI v))]) dX4_marbles_46 (by decide) rfl ?_
        refine z_iconst (pc := 48) dX4_marbles_48 ?_
        refine z_istore (pc := 49) (lv2 := [(5, .int (iI 0)), (4, .int (iI (-1))), (0, .ref m), (1, .int (iI c)), (2, .int (iI n)), (3, .int (iI v))]) dX4_marbles_49 (by decide) rfl ?_
        have LP51 : ∀ (nn_ : Nat) (k : Int) (f : Int), (-1 ≤ k ∧ k ≤ 99) → (f = 0 ∨ f = 1) → (∀ j : Int, 0 ≤ j → j < k → ¬ (v ≤ minsG (up2 g 2 c j) (Int.toNat n) 1 c)) → (f = 0 → 0 ≤ k → ¬ (v ≤ minsG (up2 g 2 c k) (Int.toNat n) 1 c)) → (f = 1 → 0 ≤ k ∧ (v ≤ minsG (up2 g 2 c k) (Int.toNat n) 1 c)) → (100 - k).toNat < nn_ → Z xp l xe { frames := 6, cells := 0, slots := 0, locals := 136 } xs xm ([.ref m, .int (iI c), .int (iI n), .int (iI v)] : List Value).toArray xb xt xc 0 0 (MQ xb (Cq (S := (Nat → Int32)) D [(m, .inr (4, [.ref mR, .ref mF, .ref mT, .ref mB, .ref mTp, .int (iI tn), .int (iI so), .int (iI be), .int (iI te), .long wd, .int (iI va), .int gd, .ref mBo, .ref mSo, .ref mSh, .ref mLe, .ref mIm, .ref mBf, .int ik])), (mR, .inl (cI, 35, .inl (rowA g))), (mF, .inl (cI, 7, .inl (ar fd))), (mT, .inl (cI, 35, .inl ft))] (fun ft2 : (Nat → Int32) => True) (fun ft2 : (Nat → Int32) => (some (.int ((opMarbles g fd c n v).1)))) (fun ft2 : (Nat → Int32) => [(m, .inr (4, [.ref mR, .ref mF, .ref mT, .ref mB, .ref mTp, .int (iI tn), .int (iI so), .int (iI be), .int (iI te), .long wd, .int (iI va), .int gd, .ref mBo, .ref mSo, .ref mSh, .ref mLe, .ref mIm, .ref mBf, .int ik])), (mR, .inl (cI, 35, .inl (rowA g))), (mF, .inl (cI, 7, .inl (ar ((opMarbles g fd c n v).2)))), (mT, .inl (cI, 35, .inl ft2))])) ([.ref m, .int (iI c), .int (iI n), .int (iI v)] : List Value).toArray xs 0 0 (va_A0 [(m, .inr (4, [.ref mR, .ref mF, .ref mT, .ref mB, .ref mTp, .int (iI tn), .int (iI so), .int (iI be), .int (iI te), .long wd, .int (iI va), .int gd, .ref mBo, .ref mSo, .ref mSh, .ref mLe, .ref mIm, .ref mBf, .int ik])), (mR, .inl (cI, 35, .inl (rowA g))), (mF, .inl (cI, 7, .inl (ar fd))), (mT, .inl (cI, 35, .inl ft))])) cX4_marbles RX4 6 (some .int) D cI cJ cB cS xa (va_A0 [(m, .inr (4, [.ref mR, .ref mF, .ref mT, .ref mB, .ref mTp, .int (iI tn), .int (iI so), .int (iI be), .int (iI te), .long wd, .int (iI va), .int gd, .ref mBo, .ref mSo, .ref mSh, .ref mLe, .ref mIm, .ref mBf, .int ik])), (mR, .inl (cI, 35, .inl (rowA g))), (mF, .inl (cI, 7, .inl (ar fd))), (mT, .inl (cI, 35, .inl ft))]) [(m, .inr (4, [.ref mR, .ref mF, .ref mT, .ref mB, .ref mTp, .int (iI tn), .int (iI so), .int (iI be), .int (iI te), .long wd, .int (iI va), .int gd, .ref mBo, .ref mSo, .ref mSh, .ref mLe, .ref mIm, .ref mBf, .int ik])), (mR, .inl (cI, 35, .inl (rowA g))), (mF, .inl (cI, 7, .inl (ar fd))), (mT, .inl (cI, 35, .inl (rowA g)))] [(0, .ref m), (1, .int (iI c)), (2, .int (iI n)), (3, .int (iI v)), (4, .int (iI k)), (5, .int (iI f))] 51 [] := by
          intro nn_
          induction nn_ with
          | zero => intro k f hk hf hq hf0 hf1 hms; exact absurd hms (Nat.not_lt_zero _)
          | succ nn_ ih =>
            intro k f hk hf hq hf0 hf1 hms
            have ih51 := ih
            clear ih
            refine z_iload (pc := 51) dX4_marbles_51 4 rfl ?_
            refine z_bipush (pc := 53) dX4_marbles_53 (by decide) ?_
            refine z_icmp_ge (pc := 55) (tgt := 97) dX4_marbles_55 (by decide) (by omega) (by omega) (fun h55 => ?_) (fun h55 => ?_)
            · skip
              refine z_iload (pc := 97) dX4_marbles_97 5 rfl ?_
              refine z_if_eq (pc := 99) (tgt := 107) dX4_marbles_99 (by decide) (by omega) (fun h99 => ?_) (fun h99 => ?_)
              · skip
                refine z_aload_n (pc := 107) dX4_marbles_107 0 rfl ?_
                refine z_ldc (pc := 108) (n := -1000000004) kC_X4_158 dX4_marbles_108 (by decide) ?_
                refine z_callV (pc := 110) (st := []) (st2 := [.int (iI (-1000000004))]) (ws2 := [(m, .inr (4, [.ref mR, .ref mF, .ref mT, .ref mB, .ref mTp, .int (iI tn), .int (iI so), .int (iI be), .int (iI te), .long wd, .int (iI va), .int gd, .ref mBo, .ref mSo, .ref mSh, .ref mLe, .ref mIm, .ref mBf, .int ik])), (mR, .inl (cI, 35, .inl (rowA g))), (mF, .inl (cI, 7, .inl (ar (fnd fd 3)))), (mT, .inl (cI, 35, .inl (rowA g)))]) (q0 := 0) (c_X4_finds l D cI cJ cB cS xa m mR mF mT mB mTp mBo mSo mSh mLe mIm mBf tn so be te va wd gd ik fd (-1000000004) 3 (by omega) (by omega)) mV_X4_finds kM_X4_53 dX4_marbles_110 rfl rfl [0, 2] rfl rfl rfl rfl rfl rfl rfl rfl ⟨Nat.le_of_ble_eq_true rfl, Nat.le_of_ble_eq_true rfl, Nat.le_of_ble_eq_true rfl⟩ ?_
                have e9 : opMarbles g fd c n v = ((iI (-1000000004)), fnd fd 3) := by
                  have ef := fst_none (fun k => v ≤ minsG (up2 g 2 c k) (Int.toNat n) 1 c) 100 (fun j h0 h1 => by
                    by_cases q : j < k
                    · exact hq j h0 q
                    · obtain rfl : j = k := by omega
                      exact hf0 (by omega) h0)
                  unfold opMarbles foundI
                  rw [if_pos ⟨⟨by omega, by omega⟩, ⟨by omega, by omega⟩, by omega, by omega⟩]
                  rw [ef, if_neg (by omega)]
                  rfl
                exact z_iretE (pc := 113) dX4_marbles_113 (rowA g) trivial (by rw [e9]) (by rw [e9])
              · skip
                refine z_iload (pc := 102) dX4_marbles_102 4 rfl ?_
                refine z_goto (pc := 104) (tgt := 113) dX4_marbles_104 (by decide) ?_
                have e9 : opMarbles g fd c n v = ((iI k), fd) := by
                  have ef := fst_hit (fun k => v ≤ minsG (up2 g 2 c k) (Int.toNat n) 1 c) 100 k (by omega) (by omega) (hf1 (by omega)).2 hq
                  unfold opMarbles foundI
                  rw [if_pos ⟨⟨by omega, by omega⟩, ⟨by omega, by omega⟩, by omega, by omega⟩]
                  rw [ef, if_pos (by omega)]
                exact z_iretE (pc := 113) dX4_marbles_113 (rowA g) trivial (by rw [e9]) (by rw [e9])
            · skip
              refine z_iload (pc := 58) dX4_marbles_58 5 rfl ?_
              refine z_if_ne (pc := 60) (tgt := 97) dX4_marbles_60 (by decide) (by omega) (fun h60 => ?_) (fun h60 => ?_)
              · skip
                refine z_iload (pc := 97) dX4_marbles_97 5 rfl ?_
                refine z_if_eq (pc := 99) (tgt := 107) dX4_marbles_99 (by decide) (by omega) (fun h99 => ?_) (fun h99 => ?_)
                · skip
                  exfalso; omega
                · skip
                  refine z_iload (pc := 102) dX4_marbles_102 4 rfl ?_
                  refine z_goto (pc := 104) (tgt := 113) dX4_marbles_104 (by decide) ?_
                  have e9 : opMarbles g fd c n v = ((iI k), fd) := by
                    have ef := fst_hit (fun k => v ≤ minsG (up2 g 2 c k) (Int.toNat n) 1 c) 100 k (by omega) (by omega) (hf1 (by omega)).2 hq
                    unfold opMarbles foundI
                    rw [if_pos ⟨⟨by omega, by omega⟩, ⟨by omega, by omega⟩, by omega, by omega⟩]
                    rw [ef, if_pos (by omega)]
                  exact z_iretE (pc := 113) dX4_marbles_113 (rowA g) trivial (by rw [e9]) (by rw [e9])
              · skip
                refine z_iinc (pc := 63) (lv2 := [(4, .int (iI (k + 1))), (0, .ref m), (1, .int (iI c)), (2, .int (iI n)), (3, .int (iI v)), (5, .int (iI f))]) dX4_marbles_63 4 rfl (by decide) rfl ?_
                refine z_aload_n (pc := 66) dX4_marbles_66 1 rfl ?_
                refine z_iload_n (pc := 67) dX4_marbles_67 2 rfl ?_
                refine z_iconst (pc := 68) dX4_marbles_68 ?_
                refine z_iload (pc := 69) dX4_marbles_69 0 rfl ?_
                refine z_callV (pc := 71) (st := []) (st2 := []) (ws2 := [(m, .inr (4, [.ref mR, .ref mF, .ref mT, .ref mB, .ref mTp, .int (iI tn), .int (iI so), .int (iI be), .int (iI te), .long wd, .int (iI va), .int gd, .ref mBo, .ref mSo, .ref mSh, .ref mLe, .ref mIm, .ref mBf, .int ik])), (mR, .inl (cI, 35, .inl (rowA (up2 g 2 c (k + 1))))), (mF, .inl (cI, 7, .inl (ar fd))), (mT, .inl (cI, 35, .inl (rowA g)))]) (q0 := 0) (c_X4_puts l D cI cJ cB cS xa m mR mF mT mB mTp mBo mSo mSh mLe mIm mBf tn so be te va wd gd ik g c 2 (k + 1) (by omega) (by omega)) mV_X4_puts kM_X4_86 dX4_marbles_71 rfl rfl [0, 1] rfl rfl rfl rfl rfl rfl rfl rfl ⟨Nat.le_of_ble_eq_true rfl, Nat.le_of_ble_eq_true rfl, Nat.le_of_ble_eq_true rfl⟩ ?_
                refine z_aload_n (pc := 74) dX4_marbles_74 1 rfl ?_
                refine z_iload_n (pc := 75) dX4_marbles_75 3 rfl ?_
                refine z_iload_n (pc := 76) dX4_marbles_76 2 rfl ?_
                refine z_callS (pc := 77) (st := [.int (iI n), .ref m]) (st2 := [.int (iI (3 + 4 * c + 1)), .int (iI n), .ref m]) (ws2 := [(m, .inr (4, [.ref mR, .ref mF, .ref mT, .ref mB, .ref mTp, .int (iI tn), .int (iI so), .int (iI be), .int (iI te), .long wd, .int (iI va), .int gd, .ref mBo, .ref mSo, .ref mSh, .ref mLe, .ref mIm, .ref mBf, .int ik])), (mR, .inl (cI, 35, .inl (rowA (up2 g 2 c (k + 1))))), (mF, .inl (cI, 7, .inl (ar fd))), (mT, .inl (cI, 35, .inl (rowA g)))]) (c_X4_heightAt l D cI cJ cB cS xa c ) mS_X4_heightAt kM_X4_159 dX4_marbles_77 [] rfl rfl rfl rfl rfl rfl rfl rfl ⟨Nat.le_of_ble_eq_true rfl, Nat.le_of_ble_eq_true rfl, Nat.le_of_ble_eq_true rfl⟩ ?_
                refine z_callV (pc := 80) (st := []) (st2 := [.int (iI (minsG (up2 g 2 c (k + 1)) (Int.toNat n) 1 c))]) (ws2 := [(m, .inr (4, [.ref mR, .ref mF, .ref mT, .ref mB, .ref mTp, .int (iI tn), .int (iI so), .int (iI be), .int (iI te), .long wd, .int (iI va), .int gd, .ref mBo, .ref mSo, .ref mSh, .ref mLe, .ref mIm, .ref mBf, .int ik])), (mR, .inl (cI, 35, .inl (rowA g))), (mF, .inl (cI, 7, .inl (ar fd))), (mT, .inl (cI, 35, .inl (rowA g)))]) (q0 := 0) (c_X4_behind l D cI cJ cB cS xa m mR mF mT mB mTp mBo mSo mSh mLe mIm mBf tn so be te va wd gd ik (up2 g 2 c (k + 1)) g n (3 + 4 * c + 1) 1 c (ok.upM c (by omega)) (by omega) (by show g 4 0 + n ≤ 1000000; omega) (by omega) (by omega) (by omega)) mV_X4_behind kM_X4_155 dX4_marbles_80 rfl rfl [0, 1, 3] rfl rfl rfl rfl rfl rfl rfl rfl ⟨Nat.le_of_ble_eq_true rfl, Nat.le_of_ble_eq_true rfl, Nat.le_of_ble_eq_true rfl⟩ ?_
                have bv := okH (minsG_ok (ok.upM c (v := k + 1) (by omega)) (Int.toNat n) (by show g 4 0 + _ ≤ _; omega)) c
                refine z_iload_n (pc := 83) dX4_marbles_83 4 rfl ?_
                refine z_icmp_lt (pc := 84) (tgt := 91) dX4_marbles_84 (by decide) (by omega) (by omega) (fun h84 => ?_) (fun h84 => ?_)
                · skip
                  refine z_iconst (pc := 91) dX4_marbles_91 ?_
                  refine z_istore (pc := 92) (lv2 := [(5, .int (iI 0)), (4, .int (iI (k + 1))), (0, .ref m), (1, .int (iI c)), (2, .int (iI n)), (3, .int (iI v))]) dX4_marbles_92 (by decide) rfl ?_
                  refine z_goto (pc := 94) (tgt := 51) dX4_marbles_94 (by decide) ?_
                  refine z_lv (lv2 := [(0, .ref m), (1, .int (iI c)), (2, .int (iI n)), (3, .int (iI v)), (4, .int (iI (k + 1))), (5, .int (iI 0))]) [2, 3, 4, 5, 1, 0] rfl ?_
                  exact ih51 (k + 1) 0 (by omega) (by omega) (lt_sk hq hf0 (by omega)) (fun _ _ => (by show ¬ (v ≤ minsG (up2 g 2 c (k + 1)) (Int.toNat n) 1 c); omega)) (fun q => absurd q (by omega)) (by omega)
                · skip
                  refine z_iconst (pc := 87) dX4_marbles_87 ?_
                  refine z_goto (pc := 88) (tgt := 92) dX4_marbles_88 (by decide) ?_
                  refine z_istore (pc := 92) (lv2 := [(5, .int (iI 1)), (4, .int (iI (k + 1))), (0, .ref m), (1, .int (iI c)), (2, .int (iI n)), (3, .int (iI v))]) dX4_marbles_92 (by decide) rfl ?_
                  refine z_goto (pc := 94) (tgt := 51) dX4_marbles_94 (by decide) ?_
                  refine z_lv (lv2 := [(0, .ref m), (1, .int (iI c)), (2, .int (iI n)), (3, .int (iI v)), (4, .int (iI (k + 1))), (5, .int (iI 1))]) [2, 3, 4, 5, 1, 0] rfl ?_
                  exact ih51 (k + 1) 1 (by omega) (by omega) (lt_sk hq hf0 (by omega)) (fun q => absurd q (by omega)) (fun _ => ⟨by omega, (by show v ≤ minsG (up2 g 2 c (k + 1)) (Int.toNat n) 1 c; omega)⟩) (by omega)
        refine z_lv (lv2 := [(0, .ref m), (1, .int (iI c)), (2, .int (iI n)), (3, .int (iI v)), (4, .int (iI (-1))), (5, .int (iI 0))]) [2, 3, 4, 5, 1, 0] rfl ?_
        exact LP51 _ (-1) 0 (by omega) (by omega) (fun j h0 h1 => absurd h1 (by omega)) (fun _ q => absurd q (by omega)) (fun q => absurd q (by omega)) (Nat.lt_succ_self _)
      · skip
        refine z_aload_n (pc := 29) dX4_marbles_29 0 rfl ?_
        refine z_ldc (pc := 30) (n := -1000000001) kC_X4_44 dX4_marbles_30 (by decide) ?_
        refine z_callV (pc := 32) (st := []) (st2 := [.int (iI (-1000000001))]) (ws2 := [(m, .inr (4, [.ref mR, .ref mF, .ref mT, .ref mB, .ref mTp, .int (iI tn), .int (iI so), .int (iI be), .int (iI te), .long wd, .int (iI va), .int gd, .ref mBo, .ref mSo, .ref mSh, .ref mLe, .ref mIm, .ref mBf, .int ik])), (mR, .inl (cI, 35, .inl (rowA g))), (mF, .inl (cI, 7, .inl (ar (fnd fd 0)))), (mT, .inl (cI, 35, .inl ft))]) (q0 := 0) (c_X4_finds l D cI cJ cB cS xa m mR mF mT mB mTp mBo mSo mSh mLe mIm mBf tn so be te va wd gd ik fd (-1000000001) 0 (by omega) (by omega)) mV_X4_finds kM_X4_53 dX4_marbles_32 rfl rfl [0, 2] rfl rfl rfl rfl rfl rfl rfl rfl ⟨Nat.le_of_ble_eq_true rfl, Nat.le_of_ble_eq_true rfl, Nat.le_of_ble_eq_true rfl⟩ ?_
        have e9 : opMarbles g fd c n v = ((iI (-1000000001)), fnd fd 0) := by
          unfold opMarbles; try unfold bI
          (repeat' split) <;> first | (exfalso; omega) | contradiction | rfl
        exact z_iretE (pc := 35) dX4_marbles_35 ft trivial (by rw [e9]) (by rw [e9])
set_option maxHeartbeats 8000000 in
set_option maxRecDepth 100000 in
theorem c_X4_enough (l : Launch) (D : va_G) (cI cJ cB cS : ClassId) (xa : XA) (m mR mF mT mB mTp mBo mSo mSh mLe mIm mBf : Nat) (tn so be te va : Int) (wd : Int64) (gd ik : Int32) (g : Gd) (fd : FF) (ft : Nat → Int32) (c n v : Int) (ok : Ok g) (rc : inr c) (rn : inr n) (rv : inr v) (hm : g 4 0 ≤ 99999) : CtE (S := (Nat → Int32)) l D cI cJ cB cS xa yX4_enough cX4_enough 6 (some .int) 6 136 [.ref m, .int (iI c), .int (iI n), .int (iI v)] [(m, .inr (4, [.ref mR, .ref mF, .ref mT, .ref mB, .ref mTp, .int (iI tn), .int (iI so), .int (iI be), .int (iI te), .long wd, .int (iI va), .int gd, .ref mBo, .ref mSo, .ref mSh, .ref mLe, .ref mIm, .ref mBf, .int ik])), (mR, .inl (cI, 35, .inl (rowA g))), (mF, .inl (cI, 7, .inl (ar fd))), (mT, .inl (cI, 35, .inl ft))] (fun ft2 : (Nat → Int32) => True) (fun ft2 : (Nat → Int32) => (some (.int ((opEnough g fd c n v).1)))) (fun ft2 : (Nat → Int32) => [(m, .inr (4, [.ref mR, .ref mF, .ref mT, .ref mB, .ref mTp, .int (iI tn), .int (iI so), .int (iI be), .int (iI te), .long wd, .int (iI va), .int gd, .ref mBo, .ref mSo, .ref mSh, .ref mLe, .ref mIm, .ref mBf, .int ik])), (mR, .inl (cI, 35, .inl (rowA g))), (mF, .inl (cI, 7, .inl (ar ((opEnough g fd c n v).2)))), (mT, .inl (cI, 35, .inl ft2))]) := by
  have o0 := ok0 ok
  have o1 := ok1 ok
  have o2 := ok2 ok
  refine CtE.of (own := RX4) (lv := [(0, .ref m), (1, .int (iI c)), (2, .int (iI n)), (3, .int (iI v))]) (by decide) rfl rfl (Nat.le_of_ble_eq_true rfl) ?_
  intro xp xe xs xm xb xt xc
  refine z_aload_n (pc := 0) dX4_enough_0 0 rfl ?_
  refine z_iload_n (pc := 1) dX4_enough_1 1 rfl ?_
  refine z_callV (pc := 2) (st := []) (st2 := [.int (bI (0 ≤ c ∧ c < g 4 2))]) (ws2 := [(m, .inr (4, [.ref mR, .ref mF, .ref mT, .ref mB, .ref mTp, .int (iI tn), .int (iI so), .int (iI be), .int (iI te), .long wd, .int (iI va), .int gd, .ref mBo, .ref mSo, .ref mSh, .ref mLe, .ref mIm, .ref mBf, .int ik])), (mR, .inl (cI, 35, .inl (rowA g))), (mF, .inl (cI, 7, .inl (ar fd))), (mT, .inl (cI, 35, .inl ft))]) (q0 := 0) (c_X4_isOne l D cI cJ cB cS xa m mR mF mT mB mTp mBo mSo mSh mLe mIm mBf tn so be te va wd gd ik g c ok (by omega)) mV_X4_isOne kM_X4_98 dX4_enough_2 rfl rfl [0, 1] rfl rfl rfl rfl rfl rfl rfl rfl ⟨Nat.le_of_ble_eq_true rfl, Nat.le_of_ble_eq_true rfl, Nat.le_of_ble_eq_true rfl⟩ ?_
  refine z_ifb_eq (pc := 5) (tgt := 29) dX4_enough_5 (by decide) (fun h5 => ?_) (fun h5 => ?_)
  · skip
    refine z_aload_n (pc := 29) dX4_enough_29 0 rfl ?_
    refine z_ldc (pc := 30) (n := -1000000001) kC_X4_44 dX4_enough_30 (by decide) ?_
    refine z_callV (pc := 32) (st := []) (st2 := [.int (iI (-1000000001))]) (ws2 := [(m, .inr (4, [.ref mR, .ref mF, .ref mT, .ref mB, .ref mTp, .int (iI tn), .int (iI so), .int (iI be), .int (iI te), .long wd, .int (iI va), .int gd, .ref mBo, .ref mSo, .ref mSh, .ref mLe, .ref mIm, .ref mBf, .int ik])), (mR, .inl (cI, 35, .inl (rowA g))), (mF, .inl (cI, 7, .inl (ar (fnd fd 0)))), (mT, .inl (cI, 35, .inl ft))]) (q0 := 0) (c_X4_finds l D cI cJ cB cS xa m mR mF mT mB mTp mBo mSo mSh mLe mIm mBf tn so be te va wd gd ik fd (-1000000001) 0 (by omega) (by omega)) mV_X4_finds kM_X4_53 dX4_enough_32 rfl rfl [0, 2] rfl rfl rfl rfl rfl rfl rfl rfl ⟨Nat.le_of_ble_eq_true rfl, Nat.le_of_ble_eq_true rfl, Nat.le_of_ble_eq_true rfl⟩ ?_
    have e9 : opEnough g fd c n v = ((iI (-1000000001)), fnd fd 0) := by
      unfold opEnough; try unfold bI
      (repeat' split) <;> first | (exfalso; omega) | contradiction | rfl
    exact z_iretE (pc := 35) dX4_enough_35 ft trivial (by rw [e9]) (by rw [e9])
  · skip
    refine z_iload_n (pc := 8) dX4_enough_8 2 rfl ?_
    refine z_iconst (pc := 9) dX4_enough_9 ?_
    refine z_bipush (pc := 10) dX4_enough_10 (by decide) ?_
    refine z_callS (pc := 12) (st := []) (st2 := [.int (bI (0 ≤ n ∧ n ≤ 100))]) (ws2 := [(m, .inr (4, [.ref mR, .ref mF, .ref mT, .ref mB, .ref mTp, .int (iI tn), .int (iI so), .int (iI be), .int (iI te), .long wd, .int (iI va), .int gd, .ref mBo, .ref mSo, .ref mSh, .ref mLe, .ref mIm, .ref mBf, .int ik])), (mR, .inl (cI, 35, .inl (rowA g))), (mF, .inl (cI, 7, .inl (ar fd))), (mT, .inl (cI, 35, .inl ft))]) (c_X4_in l D cI cJ cB cS xa n 0 100 (by omega) (by omega) (by omega)) mS_X4_in kM_X4_45 dX4_enough_12 [] rfl rfl rfl rfl rfl rfl rfl rfl ⟨Nat.le_of_ble_eq_true rfl, Nat.le_of_ble_eq_true rfl, Nat.le_of_ble_eq_true rfl⟩ ?_
    refine z_ifb_eq (pc := 15) (tgt := 29) dX4_enough_15 (by decide) (fun h15 => ?_) (fun h15 => ?_)
    · skip
      refine z_aload_n (pc := 29) dX4_enough_29 0 rfl ?_
      refine z_ldc (pc := 30) (n := -1000000001) kC_X4_44 dX4_enough_30 (by decide) ?_
      refine z_callV (pc := 32) (st := []) (st2 := [.int (iI (-1000000001))]) (ws2 := [(m, .inr (4, [.ref mR, .ref mF, .ref mT, .ref mB, .ref mTp, .int (iI tn), .int (iI so), .int (iI be), .int (iI te), .long wd, .int (iI va), .int gd, .ref mBo, .ref mSo, .ref mSh, .ref mLe, .ref mIm, .ref mBf, .int ik])), (mR, .inl (cI, 35, .inl (rowA g))), (mF, .inl (cI, 7, .inl (ar (fnd fd 0)))), (mT, .inl (cI, 35, .inl ft))]) (q0 := 0) (c_X4_finds l D cI cJ cB cS xa m mR mF mT mB mTp mBo mSo mSh mLe mIm mBf tn so be te va wd gd ik fd (-1000000001) 0 (by omega) (by omega)) mV_X4_finds kM_X4_53 dX4_enough_32 rfl rfl [0, 2] rfl rfl rfl rfl rfl rfl rfl rfl ⟨Nat.le_of_ble_eq_true rfl, Nat.le_of_ble_eq_true rfl, Nat.le_of_ble_eq_true rfl⟩ ?_
      have e9 : opEnough g fd c n v = ((iI (-1000000001)), fnd fd 0) := by
        unfold opEnough; try unfold bI
        (repeat' split) <;> first | (exfalso; omega) | contradiction | rfl
      exact z_iretE (pc := 35) dX4_enough_35 ft trivial (by rw [e9]) (by rw [e9])
    · skip
      refine z_iload_n (pc := 18) dX4_enough_18 3 rfl ?_
      refine z_iconst (pc := 19) dX4_enough_19 ?_
      refine z_sipush (pc := 20) dX4_enough_20 (by decide) ?_
      refine z_callS (pc := 23) (st := []) (st2 := [.int (bI (0 ≤ v ∧ v ≤ 200))]) (ws2 := [(m, .inr (4, [.ref mR, .ref mF, .ref mT, .ref mB, .ref mTp, .int (iI tn), .int (iI so), .int (iI be), .int (iI te), .long wd, .int (iI va), .int gd, .ref mBo, .ref mSo, .ref mSh, .ref mLe, .ref mIm, .ref mBf, .int ik])), (mR, .inl (cI, 35, .inl (rowA g))), (mF, .inl (cI, 7, .inl (ar fd))), (mT, .inl (cI, 35, .inl ft))]) (c_X4_in l D cI cJ cB cS xa v 0 200 (by omega) (by omega) (by omega)) mS_X4_in kM_X4_45 dX4_enough_23 [] rfl rfl rfl rfl rfl rfl rfl rfl ⟨Nat.le_of_ble_eq_true rfl, Nat.le_of_ble_eq_true rfl, Nat.le_of_ble_eq_true rfl⟩ ?_
      refine z_ifb_ne (pc := 26) (tgt := 36) dX4_enough_26 (by decide) (fun h26 => ?_) (fun h26 => ?_)
      · skip
        refine z_aload_n (pc := 36) dX4_enough_36 0 rfl ?_
        refine z_iconst (pc := 37) dX4_enough_37 ?_
        refine z_aload_n (pc := 38) dX4_enough_38 0 rfl ?_
        refine z_get (pc := 39) (q0 := 0) (v := .ref mT) fL_X4_16 dX4_enough_39 rfl rfl ?_
        refine z_callV (pc := 42) (st := []) (st2 := []) (ws2 := [(m, .inr (4, [.ref mR, .ref mF, .ref mT, .ref mB, .ref mTp, .int (iI tn), .int (iI so), .int (iI be), .int (iI te), .long wd, .int (iI va), .int gd, .ref mBo, .ref mSo, .ref mSh, .ref mLe, .ref mIm, .ref mBf, .int ik])), (mR, .inl (cI, 35, .inl (rowA g))), (mF, .inl (cI, 7, .inl (ar fd))), (mT, .inl (cI, 35, .inl (rowA g)))]) (q0 := 0) (c_X4_moveAll l D cI cJ cB cS xa m mR mF mT mB mTp mBo mSo mSh mLe mIm mBf tn so be te va wd gd ik mT (rowA g) ft ) mV_X4_moveAll kM_X4_151 dX4_enough_42 rfl rfl [0, 1, 3] rfl rfl rfl rfl rfl rfl rfl rfl ⟨Nat.le_of_ble_eq_true rfl, Nat.le_of_ble_eq_true rfl, Nat.le_of_ble_eq_true rfl⟩ ?_
        refine z_iconst (pc := 45) dX4_enough_45 ?_
        refine z_istore (pc := 46) (lv2 := [(4, .int (iI (-1))), (0, .ref m), (1, .int (iI c)), (2, .int (iI n)), (3, .int (iI v))]) dX4_enough_46 (by decide) rfl ?_
        refine z_iconst (pc := 48) dX4_enough_48 ?_
        refine z_istore (pc := 49) (lv2 := [(5, .int (iI 0)), (4, .int (iI (-1))), (0, .ref m), (1, .int (iI c)), (2, .int (iI n)), (3, .int (iI v))]) dX4_enough_49 (by decide) rfl ?_
        have LP51 : ∀ (nn_ : Nat) (k : Int) (f : Int), (-1 ≤ k ∧ k ≤ 99) → (f = 0 ∨ f = 1) → (∀ j : Int, 0 ≤ j → j < k → ¬ (v ≤ minsG (pushG g c j) (Int.toNat n) 1 c)) → (f = 0 → 0 ≤ k → ¬ (v ≤ minsG (pushG g c k) (Int.toNat n) 1 c)) → (f = 1 → 0 ≤ k ∧ (v ≤ minsG (pushG g c k) (Int.toNat n) 1 c)) → (100 - k).toNat < nn_ → Z xp l xe { frames := 6, cells := 0, slots := 0, locals := 136 } xs xm ([.ref m, .int (iI c), .int (iI n), .int (iI v)] : List Value).toArray xb xt xc 0 0 (MQ xb (Cq (S := (Nat → Int32)) D [(m, .inr (4, [.ref mR, .ref mF, .ref mT, .ref mB, .ref mTp, .int (iI tn), .int (iI so), .int (iI be), .int (iI te), .long wd, .int (iI va), .int gd, .ref mBo, .ref mSo, .ref mSh, .ref mLe, .ref mIm, .ref mBf, .int ik])), (mR, .inl (cI, 35, .inl (rowA g))), (mF, .inl (cI, 7, .inl (ar fd))), (mT, .inl (cI, 35, .inl ft))] (fun ft2 : (Nat → Int32) => True) (fun ft2 : (Nat → Int32) => (some (.int ((opEnough g fd c n v).1)))) (fun ft2 : (Nat → Int32) => [(m, .inr (4, [.ref mR, .ref mF, .ref mT, .ref mB, .ref mTp, .int (iI tn), .int (iI so), .int (iI be), .int (iI te), .long wd, .int (iI va), .int gd, .ref mBo, .ref mSo, .ref mSh, .ref mLe, .ref mIm, .ref mBf, .int ik])), (mR, .inl (cI, 35, .inl (rowA g))), (mF, .inl (cI, 7, .inl (ar ((opEnough g fd c n v).2)))), (mT, .inl (cI, 35, .inl ft2))])) ([.ref m, .int (iI c), .int (iI n), .int (iI v)] : List Value).toArray xs 0 0 (va_A0 [(m, .inr (4, [.ref mR, .ref mF, .ref mT, .ref mB, .ref mTp, .int (iI tn), .int (iI so), .int (iI be), .int (iI te), .long wd, .int (iI va), .int gd, .ref mBo, .ref mSo, .ref mSh, .ref mLe, .ref mIm, .ref mBf, .int ik])), (mR, .inl (cI, 35, .inl (rowA g))), (mF, .inl (cI, 7, .inl (ar fd))), (mT, .inl (cI, 35, .inl ft))])) cX4_enough RX4 6 (some .int) D cI cJ cB cS xa (va_A0 [(m, .inr (4, [.ref mR, .ref mF, .ref mT, .ref mB, .ref mTp, .int (iI tn), .int (iI so), .int (iI be), .int (iI te), .long wd, .int (iI va), .int gd, .ref mBo, .ref mSo, .ref mSh, .ref mLe, .ref mIm, .ref mBf, .int ik])), (mR, .inl (cI, 35, .inl (rowA g))), (mF, .inl (cI, 7, .inl (ar fd))), (mT, .inl (cI, 35, .inl ft))]) [(m, .inr (4, [.ref mR, .ref mF, .ref mT, .ref mB, .ref mTp, .int (iI tn), .int (iI so), .int (iI be), .int (iI te), .long wd, .int (iI va), .int gd, .ref mBo, .ref mSo, .ref mSh, .ref mLe, .ref mIm, .ref mBf, .int ik])), (mR, .inl (cI, 35, .inl (rowA g))), (mF, .inl (cI, 7, .inl (ar fd))), (mT, .inl (cI, 35, .inl (rowA g)))] [(0, .ref m), (1, .int (iI c)), (2, .int (iI n)), (3, .int (iI v)), (4, .int (iI k)), (5, .int (iI f))] 51 [] := by
          intro nn_
          induction nn_ with
          | zero => intro k f hk hf hq hf0 hf1 hms; exact absurd hms (Nat.not_lt_zero _)
          | succ nn_ ih =>
            intro k f hk hf hq hf0 hf1 hms
            have ih51 := ih
            clear ih
            refine z_iload (pc := 51) dX4_enough_51 4 rfl ?_
            refine z_bipush (pc := 53) dX4_enough_53 (by decide) ?_
            refine z_icmp_ge (pc := 55) (tgt := 96) dX4_enough_55 (by decide) (by omega) (by omega) (fun h55 => ?_) (fun h55 => ?_)
            · skip
              refine z_iload (pc := 96) dX4_enough_96 5 rfl ?_
              refine z_if_eq (pc := 98) (tgt := 106) dX4_enough_98 (by decide) (by omega) (fun h98 => ?_) (fun h98 => ?_)
              · skip
                refine z_aload_n (pc := 106) dX4_enough_106 0 rfl ?_
                refine z_ldc (pc := 107) (n := -1000000004) kC_X4_158 dX4_enough_107 (by decide) ?_
                refine z_callV (pc := 109) (st := []) (st2 := [.int (iI (-1000000004))]) (ws2 := [(m, .inr (4, [.ref mR, .ref mF, .ref mT, .ref mB, .ref mTp, .int (iI tn), .int (iI so), .int (iI be), .int (iI te), .long wd, .int (iI va), .int gd, .ref mBo, .ref mSo, .ref mSh, .ref mLe, .ref mIm, .ref mBf, .int ik])), (mR, .inl (cI, 35, .inl (rowA g))), (mF, .inl (cI, 7, .inl (ar (fnd fd 3)))), (mT, .inl (cI, 35, .inl (rowA g)))]) (q0 := 0) (c_X4_finds l D cI cJ cB cS xa m mR mF mT mB mTp mBo mSo mSh mLe mIm mBf tn so be te va wd gd ik fd (-1000000004) 3 (by omega) (by omega)) mV_X4_finds kM_X4_53 dX4_enough_109 rfl rfl [0, 2] rfl rfl rfl rfl rfl rfl rfl rfl ⟨Nat.le_of_ble_eq_true rfl, Nat.le_of_ble_eq_true rfl, Nat.le_of_ble_eq_true rfl⟩ ?_
                have e9 : opEnough g fd c n v = ((iI (-1000000004)), fnd fd 3) := by
                  have ef := fst_none (fun k => v ≤ minsG (pushG g c k) (Int.toNat n) 1 c) 100 (fun j h0 h1 => by
                    by_cases q : j < k
                    · exact hq j h0 q
                    · obtain rfl : j = k := by omega
                      exact hf0 (by omega) h0)
                  unfold opEnough foundI
                  rw [if_pos ⟨⟨by omega, by omega⟩, ⟨by omega, by omega⟩, by omega, by omega⟩]
                  rw [ef, if_neg (by omega)]
                  rfl
                exact z_iretE (pc := 112) dX4_enough_112 (rowA g) trivial (by rw [e9]) (by rw [e9])
              · skip
                refine z_iload (pc := 101) dX4_enough_101 4 rfl ?_
                refine z_goto (pc := 103) (tgt := 112) dX4_enough_103 (by decide) ?_
                have e9 : opEnough g fd c n v = ((iI k), fd) := by
                  have ef := fst_hit (fun k => v ≤ minsG (pushG g c k) (Int.toNat n) 1 c) 100 k (by omega) (by omega) (hf1 (by omega)).2 hq
                  unfold opEnough foundI
                  rw [if_pos ⟨⟨by omega, by omega⟩, ⟨by omega, by omega⟩, by omega, by omega⟩]
                  rw [ef, if_pos (by omega)]
                exact z_iretE (pc := 112) dX4_enough_112 (rowA g) trivial (by rw [e9]) (by rw [e9])
            · skip
              refine z_iload (pc := 58) dX4_enough_58 5 rfl ?_
              refine z_if_ne (pc := 60) (tgt := 96) dX4_enough_60 (by decide) (by omega) (fun h60 => ?_) (fun h60 => ?_)
              · skip
                refine z_iload (pc := 96) dX4_enough_96 5 rfl ?_
                refine z_if_eq (pc := 98) (tgt := 106) dX4_enough_98 (by decide) (by omega) (fun h98 => ?_) (fun h98 => ?_)
                · skip
                  exfalso; omega
                · skip
                  refine z_iload (pc := 101) dX4_enough_101 4 rfl ?_
                  refine z_goto (pc := 103) (tgt := 112) dX4_enough_103 (by decide) ?_
                  have e9 : opEnough g fd c n v = ((iI k), fd) := by
                    have ef := fst_hit (fun k => v ≤ minsG (pushG g c k) (Int.toNat n) 1 c) 100 k (by omega) (by omega) (hf1 (by omega)).2 hq
                    unfold opEnough foundI
                    rw [if_pos ⟨⟨by omega, by omega⟩, ⟨by omega, by omega⟩, by omega, by omega⟩]
                    rw [ef, if_pos (by omega)]
                  exact z_iretE (pc := 112) dX4_enough_112 (rowA g) trivial (by rw [e9]) (by rw [e9])
              · skip
                refine z_iinc (pc := 63) (lv2 := [(4, .int (iI (k + 1))), (0, .ref m), (1, .int (iI c)), (2, .int (iI n)), (3, .int (iI v)), (5, .int (iI f))]) dX4_enough_63 4 rfl (by decide) rfl ?_
                refine z_aload_n (pc := 66) dX4_enough_66 1 rfl ?_
                refine z_iload_n (pc := 67) dX4_enough_67 2 rfl ?_
                refine z_iload (pc := 68) dX4_enough_68 0 rfl ?_
                refine z_callV (pc := 70) (st := []) (st2 := []) (ws2 := [(m, .inr (4, [.ref mR, .ref mF, .ref mT, .ref mB, .ref mTp, .int (iI tn), .int (iI so), .int (iI be), .int (iI te), .long wd, .int (iI va), .int gd, .ref mBo, .ref mSo, .ref mSh, .ref mLe, .ref mIm, .ref mBf, .int ik])), (mR, .inl (cI, 35, .inl (rowA (pushG g c (k + 1))))), (mF, .inl (cI, 7, .inl (ar fd))), (mT, .inl (cI, 35, .inl (rowA g)))]) (q0 := 0) (c_X4_pushes l D cI cJ cB cS xa m mR mF mT mB mTp mBo mSo mSh mLe mIm mBf tn so be te va wd gd ik g c (k + 1) ok (by omega) (by omega)) mV_X4_pushes kM_X4_119 dX4_enough_70 rfl rfl [0, 1] rfl rfl rfl rfl rfl rfl rfl rfl ⟨Nat.le_of_ble_eq_true rfl, Nat.le_of_ble_eq_true rfl, Nat.le_of_ble_eq_true rfl⟩ ?_
                have ok70_1 : Ok (pushG g c (k + 1)) := pushG_ok ok c (by omega)
                refine z_aload_n (pc := 73) dX4_enough_73 1 rfl ?_
                refine z_iload_n (pc := 74) dX4_enough_74 3 rfl ?_
                refine z_iload_n (pc := 75) dX4_enough_75 2 rfl ?_
                refine z_callS (pc := 76) (st := [.int (iI n), .ref m]) (st2 := [.int (iI (3 + 4 * c + 1)), .int (iI n), .ref m]) (ws2 := [(m, .inr (4, [.ref mR, .ref mF, .ref mT, .ref mB, .ref mTp, .int (iI tn), .int (iI so), .int (iI be), .int (iI te), .long wd, .int (iI va), .int gd, .ref mBo, .ref mSo, .ref mSh, .ref mLe, .ref mIm, .ref mBf, .int ik])), (mR, .inl (cI, 35, .inl (rowA (pushG g c (k + 1))))), (mF, .inl (cI, 7, .inl (ar fd))), (mT, .inl (cI, 35, .inl (rowA g)))]) (c_X4_heightAt l D cI cJ cB cS xa c ) mS_X4_heightAt kM_X4_159 dX4_enough_76 [] rfl rfl rfl rfl rfl rfl rfl rfl ⟨Nat.le_of_ble_eq_true rfl, Nat.le_of_ble_eq_true rfl, Nat.le_of_ble_eq_true rfl⟩ ?_
                refine z_callV (pc := 79) (st := []) (st2 := [.int (iI (minsG (pushG g c (k + 1)) (Int.toNat n) 1 c))]) (ws2 := [(m, .inr (4, [.ref mR, .ref mF, .ref mT, .ref mB, .ref mTp, .int (iI tn), .int (iI so), .int (iI be), .int (iI te), .long wd, .int (iI va), .int gd, .ref mBo, .ref mSo, .ref mSh, .ref mLe, .ref mIm, .ref mBf, .int ik])), (mR, .inl (cI, 35, .inl (rowA g))), (mF, .inl (cI, 7, .inl (ar fd))), (mT, .inl (cI, 35, .inl (rowA g)))]) (q0 := 0) (c_X4_behind l D cI cJ cB cS xa m mR mF mT mB mTp mBo mSo mSh mLe mIm mBf tn so be te va wd gd ik (pushG g c (k + 1)) g n (3 + 4 * c + 1) 1 c ok70_1 (by omega) (by show g 4 0 + n ≤ 1000000; omega) (by omega) (by omega) (by omega)) mV_X4_behind kM_X4_155 dX4_enough_79 rfl rfl [0, 1, 3] rfl rfl rfl rfl rfl rfl rfl rfl ⟨Nat.le_of_ble_eq_true rfl, Nat.le_of_ble_eq_true rfl, Nat.le_of_ble_eq_true rfl⟩ ?_
                have bv := okH (minsG_ok (pushG_ok ok c (v := k + 1) (by omega)) (Int.toNat n) (by show g 4 0 + _ ≤ _; omega)) c
                refine z_iload_n (pc := 82) dX4_enough_82 4 rfl ?_
                refine z_icmp_lt (pc := 83) (tgt := 90) dX4_enough_83 (by decide) (by omega) (by omega) (fun h83 => ?_) (fun h83 => ?_)
                · skip
                  refine z_iconst (pc := 90) dX4_enough_90 ?_
                  refine z_istore (pc := 91) (lv2 := [(5, .int (iI 0)), (4, .int (iI (k + 1))), (0, .ref m), (1, .int (iI c)), (2, .int (iI n)), (3, .int (iI v))]) dX4_enough_91 (by decide) rfl ?_
                  refine z_goto (pc := 93) (tgt := 51) dX4_enough_93 (by decide) ?_
                  refine z_lv (lv2 := [(0, .ref m), (1, .int (iI c)), (2, .int (iI n)), (3, .int (iI v)), (4, .int (iI (k + 1))), (5, .int (iI 0))]) [2, 3, 4, 5, 1, 0] rfl ?_
                  exact ih51 (k + 1) 0 (by omega) (by omega) (lt_sk hq hf0 (by omega)) (fun _ _ => (by show ¬ (v ≤ minsG (pushG g c (k + 1)) (Int.toNat n) 1 c); omega)) (fun q => absurd q (by omega)) (by omega)
                · skip
                  refine z_iconst (pc := 86) dX4_enough_86 ?_
                  refine z_goto (pc := 87) (tgt := 91) dX4_enough_87 (by decide) ?_
                  refine z_istore (pc := 91) (lv2 := [(5, .int (iI 1)), (4, .int (iI (k + 1))), (0, .ref m), (1, .int (iI c)), (2, .int (iI n)), (3, .int (iI v))]) dX4_enough_91 (by decide) rfl ?_
                  refine z_goto (pc := 93) (tgt := 51) dX4_enough_93 (by decide) ?_
                  refine z_lv (lv2 := [(0, .ref m), (1, .int (iI c)), (2, .int (iI n)), (3, .int (iI v)), (4, .int (iI (k + 1))), (5, .int (iI 1))]) [2, 3, 4, 5, 1, 0] rfl ?_
                  exact ih51 (k + 1) 1 (by omega) (by omega) (lt_sk hq hf0 (by omega)) (fun q => absurd q (by omega)) (fun _ => ⟨by omega, (by show v ≤ minsG (pushG g c (k + 1)) (Int.toNat n) 1 c; omega)⟩) (by omega)
        refine z_lv (lv2 := [(0, .ref m), (1, .int (iI c)), (2, .int (iI n)), (3, .int (iI v)), (4, .int (iI (-1))), (5, .int (iI 0))]) [2, 3, 4, 5, 1, 0] rfl ?_
        exact LP51 _ (-1) 0 (by omega) (by omega) (fun j h0 h1 => absurd h1 (by omega)) (fun _ q => absurd q (by omega)) (fun q => absurd q (by omega)) (Nat.lt_succ_self _)
      · skip
        refine z_aload_n (pc := 29) dX4_enough_29 0 rfl ?_
        refine z_ldc (pc := 30) (n := -1000000001) kC_X4_44 dX4_enough_30 (by decide) ?_
        refine z_callV (pc := 32) (st := []) (st2 := [.int (iI (-1000000001))]) (ws2 := [(m, .inr (4, [.ref mR, .ref mF, .ref mT, .ref mB, .ref mTp, .int (iI tn), .int (iI so), .int (iI be), .int (iI te), .long wd, .int (iI va), .int gd, .ref mBo, .ref mSo, .ref mSh, .ref mLe, .ref mIm, .ref mBf, .int ik])), (mR, .inl (cI, 35, .inl (rowA g))), (mF, .inl (cI, 7, .inl (ar (fnd fd 0)))), (mT, .inl (cI, 35, .inl ft))]) (q0 := 0) (c_X4_finds l D cI cJ cB cS xa m mR mF mT mB mTp mBo mSo mSh mLe mIm mBf tn so be te va wd gd ik fd (-1000000001) 0 (by omega) (by omega)) mV_X4_finds kM_X4_53 dX4_enough_32 rfl rfl [0, 2] rfl rfl rfl rfl rfl rfl rfl rfl ⟨Nat.le_of_ble_eq_true rfl, Nat.le_of_ble_eq_true rfl, Nat.le_of_ble_eq_true rfl⟩ ?_
        have e9 : opEnough g fd c n v = ((iI (-1000000001)), fnd fd 0) := by
          unfold opEnough; try unfold bI
          (repeat' split) <;> first | (exfalso; omega) | contradiction | rfl
        exact z_iretE (pc := 35) dX4_enough_35 ft trivial (by rw [e9]) (by rw [e9])
