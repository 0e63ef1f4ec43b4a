set_option maxHeartbeats 8000000 in
set_option maxRecDepth 100000 in
theorem c_X4_isSheet (l : Launch) (D : va_G) (cI cJ cB cS : ClassId) (xa : XA) (s : Int) (rs : inr s) : Ct l D cI cJ cB cS xa yX4_isSheet cX4_isSheet 1 (some .boolean) 1 22 [.int (iI s)] [] (some (.int (bI (0 ≤ s ∧ s ≤ 3)))) [] := by
  refine CtE.of (own := RX4) (lv := [(0, .int (iI s))]) (by decide) rfl rfl (Nat.le_of_ble_eq_true rfl) ?_
  intro xp xe xs xm xb xt xc
  refine z_iload_n (pc := 0) dX4_isSheet_0 0 rfl ?_
  refine z_iconst (pc := 1) dX4_isSheet_1 ?_
  refine z_iconst (pc := 2) dX4_isSheet_2 ?_
  refine z_callS (pc := 3) (st := []) (st2 := [.int (bI (0 ≤ s ∧ s ≤ 3))]) (ws2 := []) (c_X4_in l D cI cJ cB cS xa s 0 3 (by omega) (by omega) (by omega)) mS_X4_in kM_X4_45 dX4_isSheet_3 [] rfl rfl rfl rfl rfl rfl rfl rfl ⟨Nat.le_of_ble_eq_true rfl, Nat.le_of_ble_eq_true rfl, Nat.le_of_ble_eq_true rfl⟩ ?_
  exact z_zret (pc := 6) (bI_nar _) dX4_isSheet_6 rfl rfl
set_option maxHeartbeats 8000000 in
set_option maxRecDepth 100000 in
theorem c_X4_narrow (l : Launch) (D : va_G) (cI cJ cB cS : ClassId) (xa : XA) (b : Int) (v : Int64) (rb : inr b) : Ct l D cI cJ cB cS xa yX4_narrow cX4_narrow 3 (some .long) 0 0 [.int (iI b), .long v] [] (some (.long (nrw b v))) [] := by
  refine CtE.of (own := RX4) (lv := [(0, .int (iI b)), (1, .long v)]) (by decide) rfl rfl (Nat.le_of_ble_eq_true rfl) ?_
  intro xp xe xs xm xb xt xc
  refine z_iload_n (pc := 0) dX4_narrow_0 0 rfl ?_
  refine z_bipush (pc := 1) dX4_narrow_1 (by decide) ?_
  refine z_icmp_ne (pc := 3) (tgt := 16) dX4_narrow_3 (by decide) (by omega) (by omega) (fun h3 => ?_) (fun h3 => ?_)
  · skip
    refine z_iload_n (pc := 16) dX4_narrow_16 0 rfl ?_
    refine z_bipush (pc := 17) dX4_narrow_17 (by decide) ?_
    refine z_icmp_ne (pc := 19) (tgt := 32) dX4_narrow_19 (by decide) (by omega) (by omega) (fun h19 => ?_) (fun h19 => ?_)
    · skip
      refine z_lload_n (pc := 32) dX4_narrow_32 1 rfl ?_
      exact z_lret (pc := 33) dX4_narrow_33 (congrArg (fun z => some (Value.long z)) (show nrw b v = v from by unfold nrw; rw [if_neg h3, if_neg h19])) rfl
    · skip
      refine z_lload_n (pc := 22) dX4_narrow_22 1 rfl ?_
      refine z_bipush (pc := 23) dX4_narrow_23 (by decide) ?_
      refine z_lshl (pc := 25) dX4_narrow_25 ?_
      refine z_bipush (pc := 26) dX4_narrow_26 (by decide) ?_
      refine z_lshr (pc := 28) dX4_narrow_28 ?_
      refine z_goto (pc := 29) (tgt := 33) dX4_narrow_29 (by decide) ?_
      exact z_lret (pc := 33) dX4_narrow_33 (congrArg (fun z => some (Value.long z)) (show nrw b v = (v <<< (((iI 48)).toInt64 &&& 63)) >>> (((iI 48)).toInt64 &&& 63) from by unfold nrw; rw [if_neg h3, if_pos h19, nrw16])) rfl
  · skip
    refine z_lload_n (pc := 6) dX4_narrow_6 1 rfl ?_
    refine z_bipush (pc := 7) dX4_narrow_7 (by decide) ?_
    refine z_lshl (pc := 9) dX4_narrow_9 ?_
    refine z_bipush (pc := 10) dX4_narrow_10 (by decide) ?_
    refine z_lshr (pc := 12) dX4_narrow_12 ?_
    refine z_goto (pc := 13) (tgt := 33) dX4_narrow_13 (by decide) ?_
    exact z_lret (pc := 33) dX4_narrow_33 (congrArg (fun z => some (Value.long z)) (show nrw b v = (v <<< (((iI 56)).toInt64 &&& 63)) >>> (((iI 56)).toInt64 &&& 63) from by unfold nrw; rw [if_pos h3, nrw8])) rfl
set_option maxHeartbeats 8000000 in
set_option maxRecDepth 100000 in
theorem c_X4_isPart_ (l : Launch) (D : va_G) (cI cJ cB cS : ClassId) (xa : XA) (m mR mF mT mB mTp mBo mSo mSh mLe mIm mBf : Nat) (tn so be te va : Int) (wd : Int64) (gd ik : Int32) (si : FF) (s f n : Int) (hs : 0 ≤ s ∧ s ≤ 3) (rf : inr f) (rn : inr n) (hss : 0 ≤ si s ∧ si s ≤ 40) : Ct l D cI cJ cB cS xa yX4_isPart_ cX4_isPart_ 4 (some .boolean) 0 0 [.ref m, .int (iI s), .int (iI f), .int (iI n)] [(m, .inr (4, [.ref mR, .ref mF, .ref mT, .ref mB, .ref mTp, .int (iI tn), .int (iI so), .int (iI be), .int (iI te), .long wd, .int (iI va), .int gd, .ref mBo, .ref mSo, .ref mSh, .ref mLe, .ref mIm, .ref mBf, .int ik])), (mSo, .inl (cI, 4, .inl (ar si)))] (some (.int (bI (0 ≤ f ∧ 0 ≤ n ∧ f ≤ si s - n)))) [(m, .inr (4, [.ref mR, .ref mF, .ref mT, .ref mB, .ref mTp, .int (iI tn), .int (iI so), .int (iI be), .int (iI te), .long wd, .int (iI va), .int gd, .ref mBo, .ref mSo, .ref mSh, .ref mLe, .ref mIm, .ref mBf, .int ik])), (mSo, .inl (cI, 4, .inl (ar si)))] := by
  refine CtE.of (own := RX4) (lv := [(0, .ref m), (1, .int (iI s)), (2, .int (iI f)), (3, .int (iI n))]) (by decide) rfl rfl (Nat.le_of_ble_eq_true rfl) ?_
  intro xp xe xs xm xb xt xc
  refine z_iload_n (pc := 0) dX4_isPart__0 2 rfl ?_
  refine z_if_lt (pc := 1) (tgt := 34) dX4_isPart__1 (by decide) (by omega) (fun h1 => ?_) (fun h1 => ?_)
  · skip
    refine z_iconst (pc := 34) dX4_isPart__34 ?_
    exact z_zret (pc := 35) (by decide) dX4_isPart__35 (congrArg (fun z => some (Value.int z)) (bI_f (by omega))) rfl
  · skip
    refine z_iload_n (pc := 4) dX4_isPart__4 3 rfl ?_
    refine z_if_lt (pc := 5) (tgt := 34) dX4_isPart__5 (by decide) (by omega) (fun h5 => ?_) (fun h5 => ?_)
    · skip
      refine z_iconst (pc := 34) dX4_isPart__34 ?_
      exact z_zret (pc := 35) (by decide) dX4_isPart__35 (congrArg (fun z => some (Value.int z)) (bI_f (by omega))) rfl
    · skip
      refine z_iload_n (pc := 8) dX4_isPart__8 3 rfl ?_
      refine z_aload_n (pc := 9) dX4_isPart__9 0 rfl ?_
      refine z_get (pc := 10) (q0 := 0) (v := .ref mSo) fL_X4_28 dX4_isPart__10 rfl rfl ?_
      refine z_iload_n (pc := 13) dX4_isPart__13 1 rfl ?_
      refine z_iald (pc := 14) (q0 := 1) (v := (iI (si s))) dX4_isPart__14 rfl (by omega) (by decide) (ar_at (by omega)) ?_
      refine z_icmp_gt (pc := 15) (tgt := 34) dX4_isPart__15 (by decide) (by omega) (by omega) (fun h15 => ?_) (fun h15 => ?_)
      · skip
        refine z_iconst (pc := 34) dX4_isPart__34 ?_
        exact z_zret (pc := 35) (by decide) dX4_isPart__35 (congrArg (fun z => some (Value.int z)) (bI_f (by omega))) rfl
      · skip
        refine z_iload_n (pc := 18) dX4_isPart__18 2 rfl ?_
        refine z_aload_n (pc := 19) dX4_isPart__19 0 rfl ?_
        refine z_get (pc := 20) (q0 := 0) (v := .ref mSo) fL_X4_28 dX4_isPart__20 rfl rfl ?_
        refine z_iload_n (pc := 23) dX4_isPart__23 1 rfl ?_
        refine z_iald (pc := 24) (q0 := 1) (v := (iI (si s))) dX4_isPart__24 rfl (by omega) (by decide) (ar_at (by omega)) ?_
        refine z_iload_n (pc := 25) dX4_isPart__25 3 rfl ?_
        refine z_isub (pc := 26) dX4_isPart__26 ?_
        refine z_icmp_gt (pc := 27) (tgt := 34) dX4_isPart__27 (by decide) (by omega) (by omega) (fun h27 => ?_) (fun h27 => ?_)
        · skip
          refine z_iconst (pc := 34) dX4_isPart__34 ?_
          exact z_zret (pc := 35) (by decide) dX4_isPart__35 (congrArg (fun z => some (Value.int z)) (bI_f (by omega))) rfl
        · skip
          refine z_iconst (pc := 30) dX4_isPart__30 ?_
          refine z_goto (pc := 31) (tgt := 35) dX4_isPart__31 (by decide) ?_
          exact z_zret (pc := 35) (by decide) dX4_isPart__35 (congrArg (fun z => some (Value.int z)) (bI_t (by omega))) rfl
set_option maxHeartbeats 8000000 in
set_option maxRecDepth 100000 in
theorem c_X4_badSheet_o (l : Launch) (D : va_G) (cI cJ cB cS : ClassId) (xa : XA) (m mR mF mT mB mTp mBo mSo mSh mLe mIm mBf : Nat) (tn so be te va : Int) (wd : Int64) (gd ik : Int32) (s : Int) (hs : ¬ (0 ≤ s ∧ s ≤ 3)) (rs : inr s) : Ct l D cI cJ cB cS xa yX4_badSheet cX4_badSheet 2 (some .int) 2 42 [.ref m, .int (iI s)] [(m, .inr (4, [.ref mR, .ref mF, .ref mT, .ref mB, .ref mTp, .int (iI tn), .int (iI so), .int (iI be), .int (iI te), .long wd, .int (iI va), .int gd, .ref mBo, .ref mSo, .ref mSh, .ref mLe, .ref mIm, .ref mBf, .int ik]))] (some (.int (iI (-1000000001)))) [(m, .inr (4, [.ref mR, .ref mF, .ref mT, .ref mB, .ref mTp, .int (iI tn), .int (iI so), .int (iI be), .int (iI te), .long wd, .int (iI va), .int gd, .ref mBo, .ref mSo, .ref mSh, .ref mLe, .ref mIm, .ref mBf, .int ik]))] := by
  refine CtE.of (own := RX4) (lv := [(0, .ref m), (1, .int (iI s))]) (by decide) rfl rfl (Nat.le_of_ble_eq_true rfl) ?_
  intro xp xe xs xm xb xt xc
  refine z_iload_n (pc := 0) dX4_badSheet_0 1 rfl ?_
  refine z_callS (pc := 1) (st := []) (st2 := [.int (bI (0 ≤ s ∧ s ≤ 3))]) (ws2 := [(m, .inr (4, [.ref mR, .ref mF, .ref mT, .ref mB, .ref mTp, .int (iI tn), .int (iI so), .int (iI be), .int (iI te), .long wd, .int (iI va), .int gd, .ref mBo, .ref mSo, .ref mSh, .ref mLe, .ref mIm, .ref mBf, .int ik]))]) (c_X4_isSheet l D cI cJ cB cS xa s (by omega)) mS_X4_isSheet kM_X4_247 dX4_badSheet_1 [] rfl rfl rfl rfl rfl rfl rfl rfl ⟨Nat.le_of_ble_eq_true rfl, Nat.le_of_ble_eq_true rfl, Nat.le_of_ble_eq_true rfl⟩ ?_
  refine z_ifb_ne (pc := 4) (tgt := 12) dX4_badSheet_4 (by decide) (fun h4 => ?_) (fun h4 => ?_)
  · skip
    exfalso; omega
  · skip
    refine z_ldc (pc := 7) (n := -1000000001) kC_X4_44 dX4_badSheet_7 (by decide) ?_
    refine z_goto (pc := 9) (tgt := 27) dX4_badSheet_9 (by decide) ?_
    exact z_iret (pc := 27) dX4_badSheet_27 rfl rfl
set_option maxHeartbeats 8000000 in
set_option maxRecDepth 100000 in
theorem c_X4_badSheet_m (l : Launch) (D : va_G) (cI cJ cB cS : ClassId) (xa : XA) (m mR mF mT mB mTp mBo mSo mSh mLe mIm mBf : Nat) (tn so be te va : Int) (wd : Int64) (gd ik : Int32) (bi : FF) (s : Int) (hs : 0 ≤ s ∧ s ≤ 3) (h0 : bi s = 0) : Ct l D cI cJ cB cS xa yX4_badSheet cX4_badSheet 2 (some .int) 2 42 [.ref m, .int (iI s)] [(m, .inr (4, [.ref mR, .ref mF, .ref mT, .ref mB, .ref mTp, .int (iI tn), .int (iI so), .int (iI be), .int (iI te), .long wd, .int (iI va), .int gd, .ref mBo, .ref mSo, .ref mSh, .ref mLe, .ref mIm, .ref mBf, .int ik])), (mBo, .inl (cI, 4, .inl (ar bi)))] (some (.int (iI (-1000000006)))) [(m, .inr (4, [.ref mR, .ref mF, .ref mT, .ref mB, .ref mTp, .int (iI tn), .int (iI so), .int (iI be), .int (iI te), .long wd, .int (iI va), .int gd, .ref mBo, .ref mSo, .ref mSh, .ref mLe, .ref mIm, .ref mBf, .int ik])), (mBo, .inl (cI, 4, .inl (ar bi)))] := by
  refine CtE.of (own := RX4) (lv := [(0, .ref m), (1, .int (iI s))]) (by decide) rfl rfl (Nat.le_of_ble_eq_true rfl) ?_
  intro xp xe xs xm xb xt xc
  refine z_iload_n (pc := 0) dX4_badSheet_0 1 rfl ?_
  refine z_callS (pc := 1) (st := []) (st2 := [.int (bI (0 ≤ s ∧ s ≤ 3))]) (ws2 := [(m, .inr (4, [.ref mR, .ref mF, .ref mT, .ref mB, .ref mTp, .int (iI tn), .int (iI so), .int (iI be), .int (iI te), .long wd, .int (iI va), .int gd, .ref mBo, .ref mSo, .ref mSh, .ref mLe, .ref mIm, .ref mBf, .int ik])), (mBo, .inl (cI, 4, .inl (ar bi)))]) (c_X4_isSheet l D cI cJ cB cS xa s (by omega)) mS_X4_isSheet kM_X4_247 dX4_badSheet_1 [] rfl rfl rfl rfl rfl rfl rfl rfl ⟨Nat.le_of_ble_eq_true rfl, Nat.le_of_ble_eq_true rfl, Nat.le_of_ble_eq_true rfl⟩ ?_
  refine z_ifb_ne (pc := 4) (tgt := 12) dX4_badSheet_4 (by decide) (fun h4 => ?_) (fun h4 => ?_)
  · skip
    refine z_aload_n (pc := 12) dX4_badSheet_12 0 rfl ?_
    refine z_get (pc := 13) (q0 := 0) (v := .ref mBo) fL_X4_25 dX4_badSheet_13 rfl rfl ?_
    refine z_iload_n (pc := 16) dX4_badSheet_16 1 rfl ?_
    refine z_iald (pc := 17) (q0 := 1) (v := (iI (bi s))) dX4_badSheet_17 rfl (by omega) (by decide) (ar_at (by omega)) ?_
    refine z_if_ne (pc := 18) (tgt := 26) dX4_badSheet_18 (by decide) (by omega) (fun h18 => ?_) (fun h18 => ?_)
    · skip
      exfalso; omega
    · skip
      refine z_ldc (pc := 21) (n := -1000000006) kC_X4_251 dX4_badSheet_21 (by decide) ?_
      refine z_goto (pc := 23) (tgt := 27) dX4_badSheet_23 (by decide) ?_
      exact z_iret (pc := 27) dX4_badSheet_27 rfl rfl
  · skip
    exfalso; omega
set_option maxHeartbeats 8000000 in
set_option maxRecDepth 100000 in
theorem c_X4_badSheet_g (l : Launch) (D : va_G) (cI cJ cB cS : ClassId) (xa : XA) (m mR mF mT mB mTp mBo mSo mSh mLe mIm mBf : Nat) (tn so be te va : Int) (wd : Int64) (gd ik : Int32) (bi : FF) (s : Int) (hs : 0 ≤ s ∧ s ≤ 3) (h0 : bi s ≠ 0) (hbs : 0 ≤ bi s ∧ bi s ≤ 64) : Ct l D cI cJ cB cS xa yX4_badSheet cX4_badSheet 2 (some .int) 2 42 [.ref m, .int (iI s)] [(m, .inr (4, [.ref mR, .ref mF, .ref mT, .ref mB, .ref mTp, .int (iI tn), .int (iI so), .int (iI be), .int (iI te), .long wd, .int (iI va), .int gd, .ref mBo, .ref mSo, .ref mSh, .ref mLe, .ref mIm, .ref mBf, .int ik])), (mBo, .inl (cI, 4, .inl (ar bi)))] (some (.int (iI 0))) [(m, .inr (4, [.ref mR, .ref mF, .ref mT, .ref mB, .ref mTp, .int (iI tn), .int (iI so), .int (iI be), .int (iI te), .long wd, .int (iI va), .int gd, .ref mBo, .ref mSo, .ref mSh, .ref mLe, .ref mIm, .ref mBf, .int ik])), (mBo, .inl (cI, 4, .inl (ar bi)))] := by
  refine CtE.of (own := RX4) (lv := [(0, .ref m), (1, .int (iI s))]) (by decide) rfl rfl (Nat.le_of_ble_eq_true rfl) ?_
  intro xp xe xs xm xb xt xc
  refine z_iload_n (pc := 0) dX4_badSheet_0 1 rfl ?_
  refine z_callS (pc := 1) (st := []) (st2 := [.int (bI (0 ≤ s ∧ s ≤ 3))]) (ws2 := [(m, .inr (4, [.ref mR, .ref mF, .ref mT, .ref mB, .ref mTp, .int (iI tn), .int (iI so), .int (iI be), .int (iI te), .long wd, .int (iI va), .int gd, .ref mBo, .ref mSo, .ref mSh, .ref mLe, .ref mIm, .ref mBf, .int ik])), (mBo, .inl (cI, 4, .inl (ar bi)))]) (c_X4_isSheet l D cI cJ cB cS xa s (by omega)) mS_X4_isSheet kM_X4_247 dX4_badSheet_1 [] rfl rfl rfl rfl rfl rfl rfl rfl ⟨Nat.le_of_ble_eq_true rfl, Nat.le_of_ble_eq_true rfl, Nat.le_of_ble_eq_true rfl⟩ ?_
  refine z_ifb_ne (pc := 4) (tgt := 12) dX4_badSheet_4 (by decide) (fun h4 => ?_) (fun h4 => ?_)
  · skip
    refine z_aload_n (pc := 12) dX4_badSheet_12 0 rfl ?_
    refine z_get (pc := 13) (q0 := 0) (v := .ref mBo) fL_X4_25 dX4_badSheet_13 rfl rfl ?_
    refine z_iload_n (pc := 16) dX4_badSheet_16 1 rfl ?_
    refine z_iald (pc := 17) (q0 := 1) (v := (iI (bi s))) dX4_badSheet_17 rfl (by omega) (by decide) (ar_at (by omega)) ?_
    refine z_if_ne (pc := 18) (tgt := 26) dX4_badSheet_18 (by decide) (by omega) (fun h18 => ?_) (fun h18 => ?_)
    · skip
      refine z_iconst (pc := 26) dX4_badSheet_26 ?_
      exact z_iret (pc := 27) dX4_badSheet_27 rfl rfl
    · skip
      exfalso; omega
  · skip
    exfalso; omega
set_option maxHeartbeats 8000000 in
set_option maxRecDepth 100000 in
theorem c_X4_sheet (l : Launch) (D : va_G) (cI cJ cB cS : ClassId) (xa : XA) (m mR mF mT mB mTp mBo mSo mSh mLe mIm mBf : Nat) (tn so be te va : Int) (wd : Int64) (gd ik : Int32) (bi si : FF) (sv : Int → LL) (fd : FF) (s b n : Int) (hs : 0 ≤ s ∧ s ≤ 3) (rb : inr b) (rn : inr n) : Ct l D cI cJ cB cS xa yX4_sheet cX4_sheet 5 (some .int) 2 42 [.ref m, .int (iI s), .int (iI b), .int (iI n)] [(m, .inr (4, [.ref mR, .ref mF, .ref mT, .ref mB, .ref mTp, .int (iI tn), .int (iI so), .int (iI be), .int (iI te), .long wd, .int (iI va), .int gd, .ref mBo, .ref mSo, .ref mSh, .ref mLe, .ref mIm, .ref mBf, .int ik])), (mF, .inl (cI, 7, .inl (ar fd))), (mBo, .inl (cI, 4, .inl (ar bi))), (mSo, .inl (cI, 4, .inl (ar si))), (mSh, .inl (cJ, 160, .inr (.inl (shA sv))))] (some (.int ((opSheet (bi s) (si s) (sv s) fd b n).1))) [(m, .inr (4, [.ref mR, .ref mF, .ref mT, .ref mB, .ref mTp, .int (iI tn), .int (iI so), .int (iI be), .int (iI te), .long wd, .int (iI va), .int gd, .ref mBo, .ref mSo, .ref mSh, .ref mLe, .ref mIm, .ref mBf, .int ik])), (mF, .inl (cI, 7, .inl (ar ((opSheet (bi s) (si s) (sv s) fd b n).2.2.2.2)))), (mBo, .inl (cI, 4, .inl (ar (up1 bi s (opSheet (bi s) (si s) (sv s) fd b n).2.1)))), (mSo, .inl (cI, 4, .inl (ar (up1 si s (opSheet (bi s) (si s) (sv s) fd b n).2.2.1)))), (mSh, .inl (cJ, 160, .inr (.inl (shA (setS sv s (opSheet (bi s) (si s) (sv s) fd b n).2.2.2.1)))))] := by
  refine CtE.of (own := RX4) (lv := [(0, .ref m), (1, .int (iI s)), (2, .int (iI b)), (3, .int (iI n))]) (by decide) rfl rfl (Nat.le_of_ble_eq_true rfl) ?_
  intro xp xe xs xm xb xt xc
  refine z_iload_n (pc := 0) dX4_sheet_0 1 rfl ?_
  refine z_callS (pc := 1) (st := []) (st2 := [.int (bI (0 ≤ s ∧ s ≤ 3))]) (ws2 := [(m, .inr (4, [.ref mR, .ref mF, .ref mT, .ref mB, .ref mTp, .int (iI tn), .int (iI so), .int (iI be), .int (iI te), .long wd, .int (iI va), .int gd, .ref mBo, .ref mSo, .ref mSh, .ref mLe, .ref mIm, .ref mBf, .int ik])), (mF, .inl (cI, 7, .inl (ar fd))), (mBo, .inl (cI, 4, .inl (ar bi))), (mSo, .inl (cI, 4, .inl (ar si))), (mSh, .inl (cJ, 160, .inr (.inl (shA sv))))]) (c_X4_isSheet l D cI cJ cB cS xa s (by omega)) mS_X4_isSheet kM_X4_247 dX4_sheet_1 [] rfl rfl rfl rfl rfl rfl rfl rfl ⟨Nat.le_of_ble_eq_true rfl, Nat.le_of_ble_eq_true rfl, Nat.le_of_ble_eq_true rfl⟩ ?_
  refine z_ifb_eq (pc := 4) (tgt := 29) dX4_sheet_4 (by decide) (fun h4 => ?_) (fun h4 => ?_)
  · skip
    exfalso; omega
  · skip
    refine z_iload_n (pc := 7) dX4_sheet_7 2 rfl ?_
    refine z_if_eq (pc := 8) (tgt := 36) dX4_sheet_8 (by decide) (by omega) (fun h8 => ?_) (fun h8 => ?_)
    · skip
      refine z_iload_n (pc := 36) dX4_sheet_36 3 rfl ?_
      refine z_if_ge (pc := 37) (tgt := 47) dX4_sheet_37 (by decide) (by omega) (fun h37 => ?_) (fun h37 => ?_)
      · skip
        refine z_iload_n (pc := 47) dX4_sheet_47 3 rfl ?_
        refine z_bipush (pc := 48) dX4_sheet_48 (by decide) ?_
        refine z_icmp_le (pc := 50) (tgt := 60) dX4_sheet_50 (by decide) (by omega) (by omega) (fun h50 => ?_) (fun h50 => ?_)
        · skip
          refine z_aload_n (pc := 60) dX4_sheet_60 0 rfl ?_
          refine z_get (pc := 61) (q0 := 0) (v := .ref mBo) fL_X4_25 dX4_sheet_61 rfl rfl ?_
          refine z_iload_n (pc := 64) dX4_sheet_64 1 rfl ?_
          refine z_iload_n (pc := 65) dX4_sheet_65 2 rfl ?_
          refine z_iast (pc := 66) (q0 := 2) (ws2 := [(m, .inr (4, [.ref mR, .ref mF, .ref mT, .ref mB, .ref mTp, .int (iI tn), .int (iI so), .int (iI be), .int (iI te), .long wd, .int (iI va), .int gd, .ref mBo, .ref mSo, .ref mSh, .ref mLe, .ref mIm, .ref mBf, .int ik])), (mF, .inl (cI, 7, .inl (ar fd))), (mBo, .inl (cI, 4, .inl (ar (up1 bi s b)))), (mSo, .inl (cI, 4, .inl (ar si))), (mSh, .inl (cJ, 160, .inr (.inl (shA sv))))]) dX4_sheet_66 rfl (by omega) (by decide) (by rw [ar_up (by omega)]; rfl) ?_
          refine z_aload_n (pc := 67) dX4_sheet_67 0 rfl ?_
          refine z_get (pc := 68) (q0 := 0) (v := .ref mSo) fL_X4_28 dX4_sheet_68 rfl rfl ?_
          refine z_iload_n (pc := 71) dX4_sheet_71 1 rfl ?_
          refine z_iload_n (pc := 72) dX4_sheet_72 2 rfl ?_
          refine z_if_ne (pc := 73) (tgt := 80) dX4_sheet_73 (by decide) (by omega) (fun h73 => ?_) (fun h73 => ?_)
          · skip
            refine z_iload_n (pc := 80) dX4_sheet_80 3 rfl ?_
            refine z_iast (pc := 81) (q0 := 3) (ws2 := [(m, .inr (4, [.ref mR, .ref mF, .ref mT, .ref mB, .ref mTp, .int (iI tn), .int (iI so), .int (iI be), .int (iI te), .long wd, .int (iI va), .int gd, .ref mBo, .ref mSo, .ref mSh, .ref mLe, .ref mIm, .ref mBf, .int ik])), (mF, .inl (cI, 7, .inl (ar fd))), (mBo, .inl (cI, 4, .inl (ar (up1 bi s b)))), (mSo, .inl (cI, 4, .inl (ar (up1 si s n)))), (mSh, .inl (cJ, 160, .inr (.inl (shA sv))))]) dX4_sheet_81 rfl (by omega) (by decide) (by rw [ar_up (by omega)]; rfl) ?_
            refine z_iconst (pc := 82) dX4_sheet_82 ?_
            refine z_istore (pc := 83) (lv2 := [(4, .int (iI 0)), (0, .ref m), (1, .int (iI s)), (2, .int (iI b)), (3, .int (iI n))]) dX4_sheet_83 (by decide) rfl ?_
            have LP85 : ∀ (nn_ : Nat) (k : Int), (0 ≤ k ∧ k ≤ 40) → (40 - k).toNat < nn_ → Z xp l xe { frames := 2, cells := 0, slots := 0, locals := 42 } xs xm ([.ref m, .int (iI s), .int (iI b), .int (iI n)] : List Value).toArray xb xt xc 0 0 (MQ xb (Cq (S := Unit) D [(m, .inr (4, [.ref mR, .ref mF, .ref mT, .ref mB, .ref mTp, .int (iI tn), .int (iI so), .int (iI be), .int (iI te), .long wd, .int (iI va), .int gd, .ref mBo, .ref mSo, .ref mSh, .ref mLe, .ref mIm, .ref mBf, .int ik])), (mF, .inl (cI, 7, .inl (ar fd))), (mBo, .inl (cI, 4, .inl (ar bi))), (mSo, .inl (cI, 4, .inl (ar si))), (mSh, .inl (cJ, 160, .inr (.inl (shA sv))))] (fun _ => True) (fun _ => (some (.int ((opSheet (bi s) (si s) (sv s) fd b n).1)))) (fun _ => [(m, .inr (4, [.ref mR, .ref mF, .ref mT, .ref mB, .ref mTp, .int (iI tn), .int (iI so), .int (iI be), .int (iI te), .long wd, .int (iI va), .int gd, .ref mBo, .ref mSo, .ref mSh, .ref mLe, .ref mIm, .ref mBf, .int ik])), (mF, .inl (cI, 7, .inl (ar ((opSheet (bi s) (si s) (sv s) fd b n).2.2.2.2)))), (mBo, .inl (cI, 4, .inl (ar (up1 bi s (opSheet (bi s) (si s) (sv s) fd b n).2.1)))), (mSo, .inl (cI, 4, .inl (ar (up1 si s (opSheet (bi s) (si s) (sv s) fd b n).2.2.1)))), (mSh, .inl (cJ, 160, .inr (.inl (shA (setS sv s (opSheet (bi s) (si s) (sv s) fd b n).2.2.2.1)))))])) ([.ref m, .int (iI s), .int (iI b), .int (iI n)] : List Value).toArray xs 0 0 (va_A0 [(m, .inr (4, [.ref mR, .ref mF, .ref mT, .ref mB, .ref mTp, .int (iI tn), .int (iI so), .int (iI be), .int (iI te), .long wd, .int (iI va), .int gd, .ref mBo, .ref mSo, .ref mSh, .ref mLe, .ref mIm, .ref mBf, .int ik])), (mF, .inl (cI, 7, .inl (ar fd))), (mBo, .inl (cI, 4, .inl (ar bi))), (mSo, .inl (cI, 4, .inl (ar si))), (mSh, .inl (cJ, 160, .inr (.inl (shA sv))))])) cX4_sheet RX4 5 (some .int) D cI cJ cB cS xa (va_A0 [(m, .inr (4, [.ref mR, .ref mF, .ref mT, .ref mB, .ref mTp, .int (iI tn), .int (iI so), .int (iI be), .int (iI te), .long wd, .int (iI va), .int gd, .ref mBo, .ref mSo, .ref mSh, .ref mLe, .ref mIm, .ref mBf, .int ik])), (mF, .inl (cI, 7, .inl (ar fd))), (mBo, .inl (cI, 4, .inl (ar bi))), (mSo, .inl (cI, 4, .inl (ar si))), (mSh, .inl (cJ, 160, .inr (.inl (shA sv))))]) [(m, .inr (4, [.ref mR, .ref mF, .ref mT, .ref mB, .ref mTp, .int (iI tn), .int (iI so), .int (iI be), .int (iI te), .long wd, .int (iI va), .int gd, .ref mBo, .ref mSo, .ref mSh, .ref mLe, .ref mIm, .ref mBf, .int ik])), (mF, .inl (cI, 7, .inl (ar fd))), (mBo, .inl (cI, 4, .inl (ar (up1 bi s b)))), (mSo, .inl (cI, 4, .inl (ar (up1 si s n)))), (mSh, .inl (cJ, 160, .inr (.inl (shA (zerS sv s k)))))] [(0, .ref m), (1, .int (iI s)), (2, .int (iI b)), (3, .int (iI n)), (4, .int (iI k))] 85 [] := by
              intro nn_
              induction nn_ with
              | zero => intro k hk hms; exact absurd hms (Nat.not_lt_zero _)
              | succ nn_ ih =>
                intro k hk hms
                have ih85 := ih
                clear ih
                refine z_iload (pc := 85) dX4_sheet_85 4 rfl ?_
                refine z_bipush (pc := 87) dX4_sheet_87 (by decide) ?_
                refine z_icmp_ge (pc := 89) (tgt := 111) dX4_sheet_89 (by decide) (by omega) (by omega) (fun h89 => ?_) (fun h89 => ?_)
                · skip
                  obtain rfl : k = 40 := by omega
                  refine z_ws (ws2 := [(m, .inr (4, [.ref mR, .ref mF, .ref mT, .ref mB, .ref mTp, .int (iI tn), .int (iI so), .int (iI be), .int (iI te), .long wd, .int (iI va), .int gd, .ref mBo, .ref mSo, .ref mSh, .ref mLe, .ref mIm, .ref mBf, .int ik])), (mF, .inl (cI, 7, .inl (ar fd))), (mBo, .inl (cI, 4, .inl (ar (up1 bi s b)))), (mSo, .inl (cI, 4, .inl (ar (up1 si s n)))), (mSh, .inl (cJ, 160, .inr (.inl (shA (setS sv s (fun _ => 0))))))]) (by rw [zerS_40]) ?_
                  refine z_aload_n (pc := 111) dX4_sheet_111 0 rfl ?_
                  refine z_get (pc := 112) (q0 := 0) (v := .ref mSo) fL_X4_28 dX4_sheet_112 rfl rfl ?_
                  refine z_iload_n (pc := 115) dX4_sheet_115 1 rfl ?_
                  refine z_iald (pc := 116) (q0 := 3) (v := (iI n)) dX4_sheet_116 rfl (by omega) (by decide) (by rw [ar_at (by omega), up1_same]) ?_
                  have e9 : opSheet (bi s) (si s) (sv s) fd b n = ((iI n), b, n, fun _ => 0, fd) := by
                    unfold opSheet; try unfold bI
                    (repeat' split) <;> first | (exfalso; omega) | contradiction | rfl
                  exact z_iret (pc := 117) dX4_sheet_117 (by rw [e9]) (by rw [e9])
                · skip
                  refine z_aload_n (pc := 92) dX4_sheet_92 0 rfl ?_
                  refine z_get (pc := 93) (q0 := 0) (v := .ref mSh) fL_X4_31 dX4_sheet_93 rfl rfl ?_
                  refine z_bipush (pc := 96) dX4_sheet_96 (by decide) ?_
                  refine z_iload_n (pc := 98) dX4_sheet_98 1 rfl ?_
                  refine z_imul (pc := 99) dX4_sheet_99 ?_
                  refine z_iload (pc := 100) dX4_sheet_100 4 rfl ?_
                  refine z_iadd (pc := 102) dX4_sheet_102 ?_
                  refine z_lconst (pc := 103) (v := 0) dX4_sheet_103 (by decide) ?_
                  refine z_last (pc := 104) (q0 := 4) (ws2 := [(m, .inr (4, [.ref mR, .ref mF, .ref mT, .ref mB, .ref mTp, .int (iI tn), .int (iI so), .int (iI be), .int (iI te), .long wd, .int (iI va), .int gd, .ref mBo, .ref mSo, .ref mSh, .ref mLe, .ref mIm, .ref mBf, .int ik])), (mF, .inl (cI, 7, .inl (ar fd))), (mBo, .inl (cI, 4, .inl (ar (up1 bi s b)))), (mSo, .inl (cI, 4, .inl (ar (up1 si s n)))), (mSh, .inl (cJ, 160, .inr (.inl (shA (upS (zerS sv s k) s k 0)))))]) dX4_sheet_104 rfl (by omega) (by decide) (by rw [shA_up (s := s) (i := k) (by omega) (by omega) (by omega) (by omega)]; rfl) ?_
                  refine z_iinc (pc := 105) (lv2 := [(4, .int (iI (k + 1))), (0, .ref m), (1, .int (iI s)), (2, .int (iI b)), (3, .int (iI n))]) dX4_sheet_105 4 rfl (by decide) rfl ?_
                  refine z_goto (pc := 108) (tgt := 85) dX4_sheet_108 (by decide) ?_
                  refine z_lv (lv2 := [(0, .ref m), (1, .int (iI s)), (2, .int (iI b)), (3, .int (iI n)), (4, .int (iI (k + 1)))]) [1, 2, 3, 4, 0] rfl ?_
                  refine z_ws (ws2 := [(m, .inr (4, [.ref mR, .ref mF, .ref mT, .ref mB, .ref mTp, .int (iI tn), .int (iI so), .int (iI be), .int (iI te), .long wd, .int (iI va), .int gd, .ref mBo, .ref mSo, .ref mSh, .ref mLe, .ref mIm, .ref mBf, .int ik])), (mF, .inl (cI, 7, .inl (ar fd))), (mBo, .inl (cI, 4, .inl (ar (up1 bi s b)))), (mSo, .inl (cI, 4, .inl (ar (up1 si s n)))), (mSh, .inl (cJ, 160, .inr (.inl (shA (zerS sv s (k + 1))))))]) (by rw [← zerS_s _ _ _ hk.1]) ?_
                  exact ih85 (k + 1) (by omega) (by omega)
            refine z_ws (ws2 := [(m, .inr (4, [.ref mR, .ref mF, .ref mT, .ref mB, .ref mTp, .int (iI tn), .int (iI so), .int (iI be), .int (iI te), .long wd, .int (iI va), .int gd, .ref mBo, .ref mSo, .ref mSh, .ref mLe, .ref mIm, .ref mBf, .int ik])), (mF, .inl (cI, 7, .inl (ar fd))), (mBo, .inl (cI, 4, .inl (ar (up1 bi s b)))), (mSo, .inl (cI, 4, .inl (ar (up1 si s n)))), (mSh, .inl (cJ, 160, .inr (.inl (shA (zerS sv s 0)))))]) (by rw [zerS_0]) ?_
            refine z_lv (lv2 := [(0, .ref m), (1, .int (iI s)), (2, .int (iI b)), (3, .int (iI n)), (4, .int (iI 0))]) [1, 2, 3, 4, 0] rfl ?_
            exact LP85 _ 0 (by omega) (Nat.lt_succ_self _)
          · skip
            refine z_iconst (pc := 76) dX4_sheet_76 ?_
            refine z_goto (pc := 77) (tgt := 81) dX4_sheet_77 (by decide) ?_
            refine z_iast (pc := 81) (q0 := 3) (ws2 := [(m, .inr (4, [.ref mR, .ref mF, .ref mT, .ref mB, .ref mTp, .int (iI tn), .int (iI so), .int (iI be), .int (iI te), .long wd, .int (iI va), .int gd, .ref mBo, .ref mSo, .ref mSh, .ref mLe, .ref mIm, .ref mBf, .int ik])), (mF, .inl (cI, 7, .inl (ar fd))), (mBo, .inl (cI, 4, .inl (ar (up1 bi s b)))), (mSo, .inl (cI, 4, .inl (ar (up1 si s 0)))), (mSh, .inl (cJ, 160, .inr (.inl (shA sv))))]) dX4_sheet_81 rfl (by omega) (by decide) (by rw [ar_up (by omega)]; rfl) ?_
            refine z_iconst (pc := 82) dX4_sheet_82 ?_
            refine z_istore (pc := 83) (lv2 := [(4, .int (iI 0)), (0, .ref m), (1, .int (iI s)), (2, .int (iI b)), (3, .int (iI n))]) dX4_sheet_83 (by decide) rfl ?_
            have LP85 : ∀ (nn_ : Nat) (k : Int), (0 ≤ k ∧ k ≤ 40) → (40 - k).toNat < nn_ → Z xp l xe { frames := 2, cells := 0, slots := 0, locals := 42 } xs xm ([.ref m, .int (iI s), .int (iI b), .int (iI n)] : List Value).toArray xb xt xc 0 0 (MQ xb (Cq (S := Unit) D [(m, .inr (4, [.ref mR, .ref mF, .ref mT, .ref mB, .ref mTp, .int (iI tn), .int (iI so), .int (iI be), .int (iI te), .long wd, .int (iI va), .int gd, .ref mBo, .ref mSo, .ref mSh, .ref mLe, .ref mIm, .ref mBf, .int ik])), (mF, .inl (cI, 7, .inl (ar fd))), (mBo, .inl (cI, 4, .inl (ar bi))), (mSo, .inl (cI, 4, .inl (ar si))), (mSh, .inl (cJ, 160, .inr (.inl (shA sv))))] (fun _ => True) (fun _ => (some (.int ((opSheet (bi s) (si s) (sv s) fd b n).1)))) (fun _ => [(m, .inr (4, [.ref mR, .ref mF, .ref mT, .ref mB, .ref mTp, .int (iI tn), .int (iI so), .int (iI be), .int (iI te), .long wd, .int (iI va), .int gd, .ref mBo, .ref mSo, .ref mSh, .ref mLe, .ref mIm, .ref mBf, .int ik])), (mF, .inl (cI, 7, .inl (ar ((opSheet (bi s) (si s) (sv s) fd b n).2.2.2.2)))), (mBo, .inl (cI, 4, .inl (ar (up1 bi s (opSheet (bi s) (si s) (sv s) fd b n).2.1)))), (mSo, .inl (cI, 4, .inl (ar (up1 si s (opSheet (bi s) (si s) (sv s) fd b n).2.2.1)))), (mSh, .inl (cJ, 160, .inr (.inl (shA (setS sv s (opSheet (bi s) (si s) (sv s) fd b n).2.2.2.1)))))])) ([.ref m, .int (iI s), .int (iI b), .int (iI n)] : List Value).toArray xs 0 0 (va_A0 [(m, .inr (4, [.ref mR, .ref mF, .ref mT, .ref mB, .ref mTp, .int (iI tn), .int (iI so), .int (iI be), .int (iI te), .long wd, .int (iI va), .int gd, .ref mBo, .ref mSo, .ref mSh, .ref mLe, .ref mIm, .ref mBf, .int ik])), (mF, .inl (cI, 7, .inl (ar fd))), (mBo, .inl (cI, 4, .inl (ar bi))), (mSo, .inl (cI, 4, .inl (ar si))), (mSh, .inl (cJ, 160, .inr (.inl (shA sv))))])) cX4_sheet RX4 5 (some .int) D cI cJ cB cS xa (va_A0 [(m, .inr (4, [.ref mR, .ref mF, .ref mT, .ref mB, .ref mTp, .int (iI tn), .int (iI so), .int (iI be), .int (iI te), .long wd, .int (iI va), .int gd, .ref mBo, .ref mSo, .ref mSh, .ref mLe, .ref mIm, .ref mBf, .int ik])), (mF, .inl (cI, 7, .inl (ar fd))), (mBo, .inl (cI, 4, .inl (ar bi))), (mSo, .inl (cI, 4, .inl (ar si))), (mSh, .inl (cJ, 160, .inr (.inl (shA sv))))]) [(m, .inr (4, [.ref mR, .ref mF, .ref mT, .ref mB, .ref mTp, .int (iI tn), .int (iI so), .int (iI be), .int (iI te), .long wd, .int (iI va), .int gd, .ref mBo, .ref mSo, .ref mSh, .ref mLe, .ref mIm, .ref mBf, .int ik])), (mF, .inl (cI, 7, .inl (ar fd))), (mBo, .inl (cI, 4, .inl (ar (up1 bi s b)))), (mSo, .inl (cI, 4, .inl (ar (up1 si s 0)))), (mSh, .inl (cJ, 160, .inr (.inl (shA (zerS sv s k)))))] [(0, .ref m), (1, .int (iI s)), (2, .int (iI b)), (3, .int (iI n)), (4, .int (iI k))] 85 [] := by
              intro nn_
              induction nn_ with
              | zero => intro k hk hms; exact absurd hms (Nat.not_lt_zero _)
              | succ nn_ ih =>
                intro k hk hms
                have ih85 := ih
                clear ih
                refine z_iload (pc := 85) dX4_sheet_85 4 rfl ?_
                refine z_bipush (pc := 87) dX4_sheet_87 (by decide) ?_
                refine z_icmp_ge (pc := 89) (tgt := 111) dX4_sheet_89 (by decide) (by omega) (by omega) (fun h89 => ?_) (fun h89 => ?_)
                · skip
                  obtain rfl : k = 40 := by omega
                  refine z_ws (ws2 := [(m, .inr (4, [.ref mR, .ref mF, .ref mT, .ref mB, .ref mTp, .int (iI tn), .int (iI so), .int (iI be), .int (iI te), .long wd, .int (iI va), .int gd, .ref mBo, .ref mSo, .ref mSh, .ref mLe, .ref mIm, .ref mBf, .int ik])), (mF, .inl (cI, 7, .inl (ar fd))), (mBo, .inl (cI, 4, .inl (ar (up1 bi s b)))), (mSo, .inl (cI, 4, .inl (ar (up1 si s 0)))), (mSh, .inl (cJ, 160, .inr (.inl (shA (setS sv s (fun _ => 0))))))]) (by rw [zerS_40]) ?_
                  refine z_aload_n (pc := 111) dX4_sheet_111 0 rfl ?_
                  refine z_get (pc := 112) (q0 := 0) (v := .ref mSo) fL_X4_28 dX4_sheet_112 rfl rfl ?_
                  refine z_iload_n (pc := 115) dX4_sheet_115 1 rfl ?_
                  refine z_iald (pc := 116) (q0 := 3) (v := (iI 0)) dX4_sheet_116 rfl (by omega) (by decide) (by rw [ar_at (by omega), up1_same]) ?_
                  have e9 : opSheet (bi s) (si s) (sv s) fd b n = ((iI 0), b, 0, fun _ => 0, fd) := by
                    unfold opSheet; try unfold bI
                    (repeat' split) <;> first | (exfalso; omega) | contradiction | rfl
                  exact z_iret (pc := 117) dX4_sheet_117 (by rw [e9]) (by rw [e9])
                · skip
                  refine z_aload_n (pc := 92) dX4_sheet_92 0 rfl ?_
                  refine z_get (pc := 93) (q0 := 0) (v := .ref mSh) fL_X4_31 dX4_sheet_93 rfl rfl ?_
                  refine z_bipush (pc := 96) dX4_sheet_96 (by decide) ?_
                  refine z_iload_n (pc := 98) dX4_sheet_98 1 rfl ?_
                  refine z_imul (pc := 99) dX4_sheet_99 ?_
                  refine z_iload (pc := 100) dX4_sheet_100 4 rfl ?_
                  refine z_iadd (pc := 102) dX4_sheet_102 ?_
                  refine z_lconst (pc := 103) (v := 0) dX4_sheet_103 (by decide) ?_
                  refine z_last (pc := 104) (q0 := 4) (ws2 := [(m, .inr (4, [.ref mR, .ref mF, .ref mT, .ref mB, .ref mTp, .int (iI tn), .int (iI so), .int (iI be), .int (iI te), .long wd, .int (iI va), .int gd, .ref mBo, .ref mSo, .ref mSh, .ref mLe, .ref mIm, .ref mBf, .int ik])), (mF, .inl (cI, 7, .inl (ar fd))), (mBo, .inl (cI, 4, .inl (ar (up1 bi s b)))), (mSo, .inl (cI, 4, .inl (ar (up1 si s 0)))), (mSh, .inl (cJ, 160, .inr (.inl (shA (upS (zerS sv s k) s k 0)))))]) dX4_sheet_104 rfl (by omega) (by decide) (by rw [shA_up (s := s) (i := k) (by omega) (by omega) (by omega) (by omega)]; rfl) ?_
                  refine z_iinc (pc := 105) (lv2 := [(4, .int (iI (k + 1))), (0, .ref m), (1, .int (iI s)), (2, .int (iI b)), (3, .int (iI n))]) dX4_sheet_105 4 rfl (by decide) rfl ?_
                  refine z_goto (pc := 108) (tgt := 85) dX4_sheet_108 (by decide) ?_
                  refine z_lv (lv2 := [(0, .ref m), (1, .int (iI s)), (2, .int (iI b)), (3, .int (iI n)), (4, .int (iI (k + 1)))]) [1, 2, 3, 4, 0] rfl ?_
                  refine z_ws (ws2 := [(m, .inr (4, [.ref mR, .ref mF, .ref mT, .ref mB, .ref mTp, .int (iI tn), .int (iI so), .int (iI be), .int (iI te), .long wd, .int (iI va), .int gd, .ref mBo, .ref mSo, .ref mSh, .ref mLe, .ref mIm, .ref mBf, .int ik])), (mF, .inl (cI, 7, .inl (ar fd))), (mBo, .inl (cI, 4, .inl (ar (up1 bi s b)))), (mSo, .inl (cI, 4, .inl (ar (up1 si s 0)))), (mSh, .inl (cJ, 160, .inr (.inl (shA (zerS sv s (k + 1))))))]) (by rw [← zerS_s _ _ _ hk.1]) ?_
                  exact ih85 (k + 1) (by omega) (by omega)
            refine z_ws (ws2 := [(m, .inr (4, [.ref mR, .ref mF, .ref mT, .ref mB, .ref mTp, .int (iI tn), .int (iI so), .int (iI be), .int (iI te), .long wd, .int (iI va), .int gd, .ref mBo, .ref mSo, .ref mSh, .ref mLe, .ref mIm, .ref mBf, .int ik])), (mF, .inl (cI, 7, .inl (ar fd))), (mBo, .inl (cI, 4, .inl (ar (up1 bi s b)))), (mSo, .inl (cI, 4, .inl (ar (up1 si s 0)))), (mSh, .inl (cJ, 160, .inr (.inl (shA (zerS sv s 0)))))]) (by rw [zerS_0]) ?_
            refine z_lv (lv2 := [(0, .ref m), (1, .int (iI s)), (2, .int (iI b)), (3, .int (iI n)), (4, .int (iI 0))]) [1, 2, 3, 4, 0] rfl ?_
            exact LP85 _ 0 (by omega) (Nat.lt_succ_self _)
        · skip
          refine z_aload_n (pc := 53) dX4_sheet_53 0 rfl ?_
          refine z_ldc (pc := 54) (n := -1000000001) kC_X4_44 dX4_sheet_54 (by decide) ?_
          refine z_callV (pc := 56) (st := []) (st2 := [.int (iI (-1000000001))]) (ws2 := [(m, .inr (4, [.ref mR, .ref mF, .ref mT, .ref mB, .ref mTp, .int (iI tn), .int (iI so), .int (iI be), .int (iI te), .long wd, .int (iI va), .int gd, .ref mBo, .ref mSo, .ref mSh, .ref mLe, .ref mIm, .ref mBf, .int ik])), (mF, .inl (cI, 7, .inl (ar (fnd fd 0)))), (mBo, .inl (cI, 4, .inl (ar bi))), (mSo, .inl (cI, 4, .inl (ar si))), (mSh, .inl (cJ, 160, .inr (.inl (shA sv))))]) (q0 := 0) (c_X4_finds l D cI cJ cB cS xa m mR mF mT mB mTp mBo mSo mSh mLe mIm mBf tn so be te va wd gd ik fd (-1000000001) 0 (by omega) (by omega)) mV_X4_finds kM_X4_53 dX4_sheet_56 rfl rfl [0, 1] rfl rfl rfl rfl rfl rfl rfl rfl ⟨Nat.le_of_ble_eq_true rfl, Nat.le_of_ble_eq_true rfl, Nat.le_of_ble_eq_true rfl⟩ ?_
          refine z_ws (ws2 := [(m, .inr (4, [.ref mR, .ref mF, .ref mT, .ref mB, .ref mTp, .int (iI tn), .int (iI so), .int (iI be), .int (iI te), .long wd, .int (iI va), .int gd, .ref mBo, .ref mSo, .ref mSh, .ref mLe, .ref mIm, .ref mBf, .int ik])), (mF, .inl (cI, 7, .inl (ar (fnd fd 0)))), (mBo, .inl (cI, 4, .inl (ar (up1 bi s (bi s))))), (mSo, .inl (cI, 4, .inl (ar (up1 si s (si s))))), (mSh, .inl (cJ, 160, .inr (.inl (shA (setS sv s (sv s))))))]) (by simp only [setS_self, up1_self]) ?_
          have e9 : opSheet (bi s) (si s) (sv s) fd b n = ((iI (-1000000001)), bi s, si s, sv s, fnd fd 0) := by
            unfold opSheet; try unfold bI
            (repeat' split) <;> first | (exfalso; omega) | contradiction | rfl
          exact z_iret (pc := 59) dX4_sheet_59 (by rw [e9]) (by rw [e9])
      · skip
        refine z_aload_n (pc := 40) dX4_sheet_40 0 rfl ?_
        refine z_ldc (pc := 41) (n := -1000000007) kC_X4_250 dX4_sheet_41 (by decide) ?_
        refine z_callV (pc := 43) (st := []) (st2 := [.int (iI (-1000000007))]) (ws2 := [(m, .inr (4, [.ref mR, .ref mF, .ref mT, .ref mB, .ref mTp, .int (iI tn), .int (iI so), .int (iI be), .int (iI te), .long wd, .int (iI va), .int gd, .ref mBo, .ref mSo, .ref mSh, .ref mLe, .ref mIm, .ref mBf, .int ik])), (mF, .inl (cI, 7, .inl (ar (fnd fd 6)))), (mBo, .inl (cI, 4, .inl (ar bi))), (mSo, .inl (cI, 4, .inl (ar si))), (mSh, .inl (cJ, 160, .inr (.inl (shA sv))))]) (q0 := 0) (c_X4_finds l D cI cJ cB cS xa m mR mF mT mB mTp mBo mSo mSh mLe mIm mBf tn so be te va wd gd ik fd (-1000000007) 6 (by omega) (by omega)) mV_X4_finds kM_X4_53 dX4_sheet_43 rfl rfl [0, 1] rfl rfl rfl rfl rfl rfl rfl rfl ⟨Nat.le_of_ble_eq_true rfl, Nat.le_of_ble_eq_true rfl, Nat.le_of_ble_eq_true rfl⟩ ?_
        refine z_ws (ws2 := [(m, .inr (4, [.ref mR, .ref mF, .ref mT, .ref mB, .ref mTp, .int (iI tn), .int (iI so), .int (iI be), .int (iI te), .long wd, .int (iI va), .int gd, .ref mBo, .ref mSo, .ref mSh, .ref mLe, .ref mIm, .ref mBf, .int ik])), (mF, .inl (cI, 7, .inl (ar (fnd fd 6)))), (mBo, .inl (cI, 4, .inl (ar (up1 bi s (bi s))))), (mSo, .inl (cI, 4, .inl (ar (up1 si s (si s))))), (mSh, .inl (cJ, 160, .inr (.inl (shA (setS sv s (sv s))))))]) (by simp only [setS_self, up1_self]) ?_
        have e9 : opSheet (bi s) (si s) (sv s) fd b n = ((iI (-1000000007)), bi s, si s, sv s, fnd fd 6) := by
          unfold opSheet; try unfold bI
          (repeat' split) <;> first | (exfalso; omega) | contradiction | rfl
        exact z_iret (pc := 46) dX4_sheet_46 (by rw [e9]) (by rw [e9])
    · skip
      refine z_iload_n (pc := 11) dX4_sheet_11 2 rfl ?_
      refine z_bipush (pc := 12) dX4_sheet_12 (by decide) ?_
      refine z_icmp_eq (pc := 14) (tgt := 36) dX4_sheet_14 (by decide) (by omega) (by omega) (fun h14 => ?_) (fun h14 => ?_)
      · skip
        refine z_iload_n (pc := 36) dX4_sheet_36 3 rfl ?_
        refine z_if_ge (pc := 37) (tgt := 47) dX4_sheet_37 (by decide) (by omega) (fun h37 => ?_) (fun h37 => ?_)
        · skip
          refine z_iload_n (pc := 47) dX4_sheet_47 3 rfl ?_
          refine z_bipush (pc := 48) dX4_sheet_48 (by decide) ?_
          refine z_icmp_le (pc := 50) (tgt := 60) dX4_sheet_50 (by decide) (by omega) (by omega) (fun h50 => ?_) (fun h50 => ?_)
          · skip
            refine z_aload_n (pc := 60) dX4_sheet_60 0 rfl ?_
            refine z_get (pc := 61) (q0 := 0) (v := .ref mBo) fL_X4_25 dX4_sheet_61 rfl rfl ?_
            refine z_iload_n (pc := 64) dX4_sheet_64 1 rfl ?_
            refine z_iload_n (pc := 65) dX4_sheet_65 2 rfl ?_
            refine z_iast (pc := 66) (q0 := 2) (ws2 := [(m, .inr (4, [.ref mR, .ref mF, .ref mT, .ref mB, .ref mTp, .int (iI tn), .int (iI so), .int (iI be), .int (iI te), .long wd, .int (iI va), .int gd, .ref mBo, .ref mSo, .ref mSh, .ref mLe, .ref mIm, .ref mBf, .int ik])), (mF, .inl (cI, 7, .inl (ar fd))), (mBo, .inl (cI, 4, .inl (ar (up1 bi s b)))), (mSo, .inl (cI, 4, .inl (ar si))), (mSh, .inl (cJ, 160, .inr (.inl (shA sv))))]) dX4_sheet_66 rfl (by omega) (by decide) (by rw [ar_up (by omega)]; rfl) ?_
            refine z_aload_n (pc := 67) dX4_sheet_67 0 rfl ?_
            refine z_get (pc := 68) (q0 := 0) (v := .ref mSo) fL_X4_28 dX4_sheet_68 rfl rfl ?_
            refine z_iload_n (pc := 71) dX4_sheet_71 1 rfl ?_
            refine z_iload_n (pc := 72) dX4_sheet_72 2 rfl ?_
            refine z_if_ne (pc := 73) (tgt := 80) dX4_sheet_73 (by decide) (by omega) (fun h73 => ?_) (fun h73 => ?_)
            · skip
              refine z_iload_n (pc := 80) dX4_sheet_80 3 rfl ?_
              refine z_iast (pc := 81) (q0 := 3) (ws2 := [(m, .inr (4, [.ref mR, .ref mF, .ref mT, .ref mB, .ref mTp, .int (iI tn), .int (iI so), .int (iI be), .int (iI te), .long wd, .int (iI va), .int gd, .ref mBo, .ref mSo, .ref mSh, .ref mLe, .ref mIm, .ref mBf, .int ik])), (mF, .inl (cI, 7, .inl (ar fd))), (mBo, .inl (cI, 4, .inl (ar (up1 bi s b)))), (mSo, .inl (cI, 4, .inl (ar (up1 si s n)))), (mSh, .inl (cJ, 160, .inr (.inl (shA sv))))]) dX4_sheet_81 rfl (by omega) (by decide) (by rw [ar_up (by omega)]; rfl) ?_
              refine z_iconst (pc := 82) dX4_sheet_82 ?_
              refine z_istore (pc := 83) (lv2 := [(4, .int (iI 0)), (0, .ref m), (1, .int (iI s)), (2, .int (iI b)), (3, .int (iI n))]) dX4_sheet_83 (by decide) rfl ?_
              have LP85 : ∀ (nn_ : Nat) (k : Int), (0 ≤ k ∧ k ≤ 40) → (40 - k).toNat < nn_ → Z xp l xe { frames := 2, cells := 0, slots := 0, locals := 42 } xs xm ([.ref m, .int (iI s), .int (iI b), .int (iI n)] : List Value).toArray xb xt xc 0 0 (MQ xb (Cq (S := Unit) D [(m, .inr (4, [.ref mR, .ref mF, .ref mT, .ref mB, .ref mTp, .int (iI tn), .int (iI so), .int (iI be), .int (iI te), .long wd, .int (iI va), .int gd, .ref mBo, .ref mSo, .ref mSh, .ref mLe, .ref mIm, .ref mBf, .int ik])), (mF, .inl (cI, 7, .inl (ar fd))), (mBo, .inl (cI, 4, .inl (ar bi))), (mSo, .inl (cI, 4, .inl (ar si))), (mSh, .inl (cJ, 160, .inr (.inl (shA sv))))] (fun _ => True) (fun _ => (some (.int ((opSheet (bi s) (si s) (sv s) fd b n).1)))) (fun _ => [(m, .inr (4, [.ref mR, .ref mF, .ref mT, .ref mB, .ref mTp, .int (iI tn), .int (iI so), .int (iI be), .int (iI te), .long wd, .int (iI va), .int gd, .ref mBo, .ref mSo, .ref mSh, .ref mLe, .ref mIm, .ref mBf, .int ik])), (mF, .inl (cI, 7, .inl (ar ((opSheet (bi s) (si s) (sv s) fd b n).2.2.2.2)))), (mBo, .inl (cI, 4, .inl (ar (up1 bi s (opSheet (bi s) (si s) (sv s) fd b n).2.1)))), (mSo, .inl (cI, 4, .inl (ar (up1 si s (opSheet (bi s) (si s) (sv s) fd b n).2.2.1)))), (mSh, .inl (cJ, 160, .inr (.inl (shA (setS sv s (opSheet (bi s) (si s) (sv s) fd b n).2.2.2.1)))))])) ([.ref m, .int (iI s), .int (iI b), .int (iI n)] : List Value).toArray xs 0 0 (va_A0 [(m, .inr (4, [.ref mR, .ref mF, .ref mT, .ref mB, .ref mTp, .int (iI tn), .int (iI so), .int (iI be), .int (iI te), .long wd, .int (iI va), .int gd, .ref mBo, .ref mSo, .ref mSh, .ref mLe, .ref mIm, .ref mBf, .int ik])), (mF, .inl (cI, 7, .inl (ar fd))), (mBo, .inl (cI, 4, .inl (ar bi))), (mSo, .inl (cI, 4, .inl (ar si))), (mSh, .inl (cJ, 160, .inr (.inl (shA sv))))])) cX4_sheet RX4 5 (some .int) D cI cJ cB cS xa (va_A0 [(m, .inr (4, [.ref mR, .ref mF, .ref mT, .ref mB, .ref mTp, .int (iI tn), .int (iI so), .int (iI be), .int (iI te), .long wd, .int (iI va), .int gd, .ref mBo, .ref mSo, .ref mSh, .ref mLe, .ref mIm, .ref mBf, .int ik])), (mF, .inl (cI, 7, .inl (ar fd))), (mBo, .inl (cI, 4, .inl (ar bi))), (mSo, .inl (cI, 4, .inl (ar si))), (mSh, .inl (cJ, 160, .inr (.inl (shA sv))))]) [(m, .inr (4, [.ref mR, .ref mF, .ref mT, .ref mB, .ref mTp, .int (iI tn), .int (iI so), .int (iI be), .int (iI te), .long wd, .int (iI va), .int gd, .ref mBo, .ref mSo, .ref mSh, .ref mLe, .ref mIm, .ref mBf, .int ik])), (mF, .inl (cI, 7, .inl (ar fd))), (mBo, .inl (cI, 4, .inl (ar (up1 bi s b)))), (mSo, .inl (cI, 4, .inl (ar (up1 si s n)))), (mSh, .inl (cJ, 160, .inr (.inl (shA (zerS sv s k)))))] [(0, .ref m), (1, .int (iI s)), (2, .int (iI b)), (3, .int (iI n)), (4, .int (iI k))] 85 [] := by
                intro nn_
                induction nn_ with
                | zero => intro k hk hms; exact absurd hms (Nat.not_lt_zero _)
                | succ nn_ ih =>
                  intro k hk hms
                  have ih85 := ih
                  clear ih
                  refine z_iload (pc := 85) dX4_sheet_85 4 rfl ?_
                  refine z_bipush (pc := 87) dX4_sheet_87 (by decide) ?_
                  refine z_icmp_ge (pc := 89) (tgt := 111) dX4_sheet_89 (by decide) (by omega) (by omega) (fun h89 => ?_) (fun h89 => ?_)
                  · skip
                    obtain rfl : k = 40 := by omega
                    refine z_ws (ws2 := [(m, .inr (4, [.ref mR, .ref mF, .ref mT, .ref mB, .ref mTp, .int (iI tn), .int (iI so), .int (iI be), .int (iI te), .long wd, .int (iI va), .int gd, .ref mBo, .ref mSo, .ref mSh, .ref mLe, .ref mIm, .ref mBf, .int ik])), (mF, .inl (cI, 7, .inl (ar fd))), (mBo, .inl (cI, 4, .inl (ar (up1 bi s b)))), (mSo, .inl (cI, 4, .inl (ar (up1 si s n)))), (mSh, .inl (cJ, 160, .inr (.inl (shA (setS sv s (fun _ => 0))))))]) (by rw [zerS_40]) ?_
                    refine z_aload_n (pc := 111) dX4_sheet_111 0 rfl ?_
                    refine z_get (pc := 112) (q0 := 0) (v := .ref mSo) fL_X4_28 dX4_sheet_112 rfl rfl ?_
                    refine z_iload_n (pc := 115) dX4_sheet_115 1 rfl ?_
                    refine z_iald (pc := 116) (q0 := 3) (v := (iI n)) dX4_sheet_116 rfl (by omega) (by decide) (by rw [ar_at (by omega), up1_same]) ?_
                    have e9 : opSheet (bi s) (si s) (sv s) fd b n = ((iI n), b, n, fun _ => 0, fd) := by
                      unfold opSheet; try unfold bI
                      (repeat' split) <;> first | (exfalso; omega) | contradiction | rfl
                    exact z_iret (pc := 117) dX4_sheet_117 (by rw [e9]) (by rw [e9])
                  · skip
                    refine z_aload_n (pc := 92) dX4_sheet_92 0 rfl ?_
                    refine z_get (pc := 93) (q0 := 0) (v := .ref mSh) fL_X4_31 dX4_sheet_93 rfl rfl ?_
                    refine z_bipush (pc := 96) dX4_sheet_96 (by decide) ?_
                    refine z_iload_n (pc := 98) dX4_sheet_98 1 rfl ?_
                    refine z_imul (pc := 99) dX4_sheet_99 ?_
                    refine z_iload (pc := 100) dX4_sheet_100 4 rfl ?_
                    refine z_iadd (pc := 102) dX4_sheet_102 ?_
                    refine z_lconst (pc := 103) (v := 0) dX4_sheet_103 (by decide) ?_
                    refine z_last (pc := 104) (q0 := 4) (ws2 := [(m, .inr (4, [.ref mR, .ref mF, .ref mT, .ref mB, .ref mTp, .int (iI tn), .int (iI so), .int (iI be), .int (iI te), .long wd, .int (iI va), .int gd, .ref mBo, .ref mSo, .ref mSh, .ref mLe, .ref mIm, .ref mBf, .int ik])), (mF, .inl (cI, 7, .inl (ar fd))), (mBo, .inl (cI, 4, .inl (ar (up1 bi s b)))), (mSo, .inl (cI, 4, .inl (ar (up1 si s n)))), (mSh, .inl (cJ, 160, .inr (.inl (shA (upS (zerS sv s k) s k 0)))))]) dX4_sheet_104 rfl (by omega) (by decide) (by rw [shA_up (s := s) (i := k) (by omega) (by omega) (by omega) (by omega)]; rfl) ?_
                    refine z_iinc (pc := 105) (lv2 := [(4, .int (iI (k + 1))), (0, .ref m), (1, .int (iI s)), (2, .int (iI b)), (3, .int (iI n))]) dX4_sheet_105 4 rfl (by decide) rfl ?_
                    refine z_goto (pc := 108) (tgt := 85) dX4_sheet_108 (by decide) ?_
                    refine z_lv (lv2 := [(0, .ref m), (1, .int (iI s)), (2, .int (iI b)), (3, .int (iI n)), (4, .int (iI (k + 1)))]) [1, 2, 3, 4, 0] rfl ?_
                    refine z_ws (ws2 := [(m, .inr (4, [.ref mR, .ref mF, .ref mT, .ref mB, .ref mTp, .int (iI tn), .int (iI so), .int (iI be), .int (iI te), .long wd, .int (iI va), .int gd, .ref mBo, .ref mSo, .ref mSh, .ref mLe, .ref mIm, .ref mBf, .int ik])), (mF, .inl (cI, 7, .inl (ar fd))), (mBo, .inl (cI, 4, .inl (ar (up1 bi s b)))), (mSo, .inl (cI, 4, .inl (ar (up1 si s n)))), (mSh, .inl (cJ, 160, .inr (.inl (shA (zerS sv s (k + 1))))))]) (by rw [← zerS_s _ _ _ hk.1]) ?_
                    exact ih85 (k + 1) (by omega) (by omega)
              refine z_ws (ws2 := [(m, .inr (4, [.ref mR, .ref mF, .ref mT, .ref mB, .ref mTp, .int (iI tn), .int (iI so), .int (iI be), .int (iI te), .long wd, .int (iI va), .int gd, .ref mBo, .ref mSo, .ref mSh, .ref mLe, .ref mIm, .ref mBf, .int ik])), (mF, .inl (cI, 7, .inl (ar fd))), (mBo, .inl (cI, 4, .inl (ar (up1 bi s b)))), (mSo, .inl (cI, 4, .inl (ar (up1 si s n)))), (mSh, .inl (cJ, 160, .inr (.inl (shA (zerS sv s 0)))))]) (by rw [zerS_0]) ?_
              refine z_lv (lv2 := [(0, .ref m), (1, .int (iI s)), (2, .int (iI b)), (3, .int (iI n)), (4, .int (iI 0))]) [1, 2, 3, 4, 0] rfl ?_
              exact LP85 _ 0 (by omega) (Nat.lt_succ_self _)
            · skip
              refine z_iconst (pc := 76) dX4_sheet_76 ?_
              refine z_goto (pc := 77) (tgt := 81) dX4_sheet_77 (by decide) ?_
              refine z_iast (pc := 81) (q0 := 3) (ws2 := [(m, .inr (4, [.ref mR, .ref mF, .ref mT, .ref mB, .ref mTp, .int (iI tn), .int (iI so), .int (iI be), .int (iI te), .long wd, .int (iI va), .int gd, .ref mBo, .ref mSo, .ref mSh, .ref mLe, .ref mIm, .ref mBf, .int ik])), (mF, .inl (cI, 7, .inl (ar fd))), (mBo, .inl (cI, 4, .inl (ar (up1 bi s b)))), (mSo, .inl (cI, 4, .inl (ar (up1 si s 0)))), (mSh, .inl (cJ, 160, .inr (.inl (shA sv))))]) dX4_sheet_81 rfl (by omega) (by decide) (by rw [ar_up (by omega)]; rfl) ?_
              refine z_iconst (pc := 82) dX4_sheet_82 ?_
              refine z_istore (pc := 83) (lv2 := [(4, .int (iI 0)), (0, .ref m), (1, .int (iI s)), (2, .int (iI b)), (3, .int (iI n))]) dX4_sheet_83 (by decide) rfl ?_
              have LP85 : ∀ (nn_ : Nat) (k : Int), (0 ≤ k ∧ k ≤ 40) → (40 - k).toNat < nn_ → Z xp l xe { frames := 2, cells := 0, slots := 0, locals := 42 } xs xm ([.ref m, .int (iI s), .int (iI b), .int (iI n)] : List Value).toArray xb xt xc 0 0 (MQ xb (Cq (S := Unit) D [(m, .inr (4, [.ref mR, .ref mF, .ref mT, .ref mB, .ref mTp, .int (iI tn), .int (iI so), .int (iI be), .int (iI te), .long wd, .int (iI va), .int gd, .ref mBo, .ref mSo, .ref mSh, .ref mLe, .ref mIm, .ref mBf, .int ik])), (mF, .inl (cI, 7, .inl (ar fd))), (mBo, .inl (cI, 4, .inl (ar bi))), (mSo, .inl (cI, 4, .inl (ar si))), (mSh, .inl (cJ, 160, .inr (.inl (shA sv))))] (fun _ => True) (fun _ => (some (.int ((opSheet (bi s) (si s) (sv s) fd b n).1)))) (fun _ => [(m, .inr (4, [.ref mR, .ref mF, .ref mT, .ref mB, .ref mTp, .int (iI tn), .int (iI so), .int (iI be), .int (iI te), .long wd, .int (iI va), .int gd, .ref mBo, .ref mSo, .ref mSh, .ref mLe, .ref mIm, .ref mBf, .int ik])), (mF, .inl (cI, 7, .inl (ar ((opSheet (bi s) (si s) (sv s) fd b n).2.2.2.2)))), (mBo, .inl (cI, 4, .inl (ar (up1 bi s (opSheet (bi s) (si s) (sv s) fd b n).2.1)))), (mSo, .inl (cI, 4, .inl (ar (up1 si s (opSheet (bi s) (si s) (sv s) fd b n).2.2.1)))), (mSh, .inl (cJ, 160, .inr (.inl (shA (setS sv s (opSheet (bi s) (si s) (sv s) fd b n).2.2.2.1)))))])) ([.ref m, .int (iI s), .int (iI b), .int (iI n)] : List Value).toArray xs 0 0 (va_A0 [(m, .inr (4, [.ref mR, .ref mF, .ref mT, .ref mB, .ref mTp, .int (iI tn), .int (iI so), .int (iI be), .int (iI te), .long wd, .int (iI va), .int gd, .ref mBo, .ref mSo, .ref mSh, .ref mLe, .ref mIm, .ref mBf, .int ik])), (mF, .inl (cI, 7, .inl (ar fd))), (mBo, .inl (cI, 4, .inl (ar bi))), (mSo, .inl (cI, 4, .inl (ar si))), (mSh, .inl (cJ, 160, .inr (.inl (shA sv))))])) cX4_sheet RX4 5 (some .int) D cI cJ cB cS xa (va_A0 [(m, .inr (4, [.ref mR, .ref mF, .ref mT, .ref mB, .ref mTp, .int (iI tn), .int (iI so), .int (iI be), .int (iI te), .long wd, .int (iI va), .int gd, .ref mBo, .ref mSo, .ref mSh, .ref mLe, .ref mIm, .ref mBf, .int ik])), (mF, .inl (cI, 7, .inl (ar fd))), (mBo, .inl (cI, 4, .inl (ar bi))), (mSo, .inl (cI, 4, .inl (ar si))), (mSh, .inl (cJ, 160, .inr (.inl (shA sv))))]) [(m, .inr (4, [.ref mR, .ref mF, .ref mT, .ref mB, .ref mTp, .int (iI tn), .int (iI so), .int (iI be), .int (iI te), .long wd, .int (iI va), .int gd, .ref mBo, .ref mSo, .ref mSh, .ref mLe, .ref mIm, .ref mBf, .int ik])), (mF, .inl (cI, 7, .inl (ar fd))), (mBo, .inl (cI, 4, .inl (ar (up1 bi s b)))), (mSo, .inl (cI, 4, .inl (ar (up1 si s 0)))), (mSh, .inl (cJ, 160, .inr (.inl (shA (zerS sv s k)))))] [(0, .ref m), (1, .int (iI s)), (2, .int (iI b)), (3, .int (iI n)), (4, .int (iI k))] 85 [] := by
                intro nn_
                induction nn_ with
                | zero => intro k hk hms; exact absurd hms (Nat.not_lt_zero _)
                | succ nn_ ih =>
                  intro k hk hms
                  have ih85 := ih
                  clear ih
                  refine z_iload (pc := 85) dX4_sheet_85 4 rfl ?_
                  refine z_bipush (pc := 87) dX4_sheet_87 (by decide) ?_
                  refine z_icmp_ge (pc := 89) (tgt := 111) dX4_sheet_89 (by decide) (by omega) (by omega) (fun h89 => ?_) (fun h89 => ?_)
                  · skip
                    obtain rfl : k = 40 := by omega
                    refine z_ws (ws2 := [(m, .inr (4, [.ref mR, .ref mF, .ref mT, .ref mB, .ref mTp, .int (iI tn), .int (iI so), .int (iI be), .int (iI te), .long wd, .int (iI va), .int gd, .ref mBo, .ref mSo, .ref mSh, .ref mLe, .ref mIm, .ref mBf, .int ik])), (mF, .inl (cI, 7, .inl (ar fd))), (mBo, .inl (cI, 4, .inl (ar (up1 bi s b)))), (mSo, .inl (cI, 4, .inl (ar (up1 si s 0)))), (mSh, .inl (cJ, 160, .inr (.inl (shA (setS sv s (fun _ => 0))))))]) (by rw [zerS_40]) ?_
                    refine z_aload_n (pc := 111) dX4_sheet_111 0 rfl ?_
                    refine z_get (pc := 112) (q0 := 0) (v := .ref mSo) fL_X4_28 dX4_sheet_112 rfl rfl ?_
                    refine z_iload_n (pc := 115) dX4_sheet_115 1 rfl ?_
                    refine z_iald (pc := 116) (q0 := 3) (v := (iI 0)) dX4_sheet_116 rfl (by omega) (by decide) (by rw [ar_at (by omega), up1_same]) ?_
                    have e9 : opSheet (bi s) (si s) (sv s) fd b n = ((iI 0), b, 0, fun _ => 0, fd) := by
                      unfold opSheet; try unfold bI
                      (repeat' split) <;> first | (exfalso; omega) | contradiction | rfl
                    exact z_iret (pc := 117) dX4_sheet_117 (by rw [e9]) (by rw [e9])
                  · skip
                    refine z_aload_n (pc := 92) dX4_sheet_92 0 rfl ?_
                    refine z_get (pc := 93) (q0 := 0) (v := .ref mSh) fL_X4_31 dX4_sheet_93 rfl rfl ?_
                    refine z_bipush (pc := 96) dX4_sheet_96 (by decide) ?_
                    refine z_iload_n (pc := 98) dX4_sheet_98 1 rfl ?_
                    refine z_imul (pc := 99) dX4_sheet_99 ?_
                    refine z_iload (pc := 100) dX4_sheet_100 4 rfl ?_
                    refine z_iadd (pc := 102) dX4_sheet_102 ?_
                    refine z_lconst (pc := 103) (v := 0) dX4_sheet_103 (by decide) ?_
                    refine z_last (pc := 104) (q0 := 4) (ws2 := [(m, .inr (4, [.ref mR, .ref mF, .ref mT, .ref mB, .ref mTp, .int (iI tn), .int (iI so), .int (iI be), .int (iI te), .long wd, .int (iI va), .int gd, .ref mBo, .ref mSo, .ref mSh, .ref mLe, .ref mIm, .ref mBf, .int ik])), (mF, .inl (cI, 7, .inl (ar fd))), (mBo, .inl (cI, 4, .inl (ar (up1 bi s b)))), (mSo, .inl (cI, 4, .inl (ar (up1 si s 0)))), (mSh, .inl (cJ, 160, .inr (.inl (shA (upS (zerS sv s k) s k 0)))))]) dX4_sheet_104 rfl (by omega) (by decide) (by rw [shA_up (s := s) (i := k) (by omega) (by omega) (by omega) (by omega)]; rfl) ?_
                    refine z_iinc (pc := 105) (lv2 := [(4, .int (iI (k + 1))), (0, .ref m), (1, .int (iI s)), (2, .int (iI b)), (3, .int (iI n))]) dX4_sheet_105 4 rfl (by decide) rfl ?_
                    refine z_goto (pc := 108) (tgt := 85) dX4_sheet_108 (by decide) ?_
                    refine z_lv (lv2 := [(0, .ref m), (1, .int (iI s)), (2, .int (iI b)), (3, .int (iI n)), (4, .int (iI (k + 1)))]) [1, 2, 3, 4, 0] rfl ?_
                    refine z_ws (ws2 := [(m, .inr (4, [.ref mR, .ref mF, .ref mT, .ref mB, .ref mTp, .int (iI tn), .int (iI so), .int (iI be), .int (iI te), .long wd, .int (iI va), .int gd, .ref mBo, .ref mSo, .ref mSh, .ref mLe, .ref mIm, .ref mBf, .int ik])), (mF, .inl (cI, 7, .inl (ar fd))), (mBo, .inl (cI, 4, .inl (ar (up1 bi s b)))), (mSo, .inl (cI, 4, .inl (ar (up1 si s 0)))), (mSh, .inl (cJ, 160, .inr (.inl (shA (zerS sv s (k + 1))))))]) (by rw [← zerS_s _ _ _ hk.1]) ?_
                    exact ih85 (k + 1) (by omega) (by omega)
              refine z_ws (ws2 := [(m, .inr (4, [.ref mR, .ref mF, .ref mT, .ref mB, .ref mTp, .int (iI tn), .int (iI so), .int (iI be), .int (iI te), .long wd, .int (iI va), .int gd, .ref mBo, .ref mSo, .ref mSh, .ref mLe, .ref mIm, .ref mBf, .int ik])), (mF, .inl (cI, 7, .inl (ar fd))), (mBo, .inl (cI, 4, .inl (ar (up1 bi s b)))), (mSo, .inl (cI, 4, .inl (ar (up1 si s 0)))), (mSh, .inl (cJ, 160, .inr (.inl (shA (zerS sv s 0)))))]) (by rw [zerS_0]) ?_
              refine z_lv (lv2 := [(0, .ref m), (1, .int (iI s)), (2, .int (iI b)), (3, .int (iI n)), (4, .int (iI 0))]) [1, 2, 3, 4, 0] rfl ?_
              exact LP85 _ 0 (by omega) (Nat.lt_succ_self _)
          · skip
            refine z_aload_n (pc := 53) dX4_sheet_53 0 rfl ?_
            refine z_ldc (pc := 54) (n := -1000000001) kC_X4_44 dX4_sheet_54 (by decide) ?_
            refine z_callV (pc := 56) (st := []) (st2 := [.int (iI (-1000000001))]) (ws2 := [(m, .inr (4, [.ref mR, .ref mF, .ref mT, .ref mB, .ref mTp, .int (iI tn), .int (iI so), .int (iI be), .int (iI te), .long wd, .int (iI va), .int gd, .ref mBo, .ref mSo, .ref mSh, .ref mLe, .ref mIm, .ref mBf, .int ik])), (mF, .inl (cI, 7, .inl (ar (fnd fd 0)))), (mBo, .inl (cI, 4, .inl (ar bi))), (mSo, .inl (cI, 4, .inl (ar si))), (mSh, .inl (cJ, 160, .inr (.inl (shA sv))))]) (q0 := 0) (c_X4_finds l D cI cJ cB cS xa m mR mF mT mB mTp mBo mSo mSh mLe mIm mBf tn so be te va wd gd ik fd (-1000000001) 0 (by omega) (by omega)) mV_X4_finds kM_X4_53 dX4_sheet_56 rfl rfl [0, 1] rfl rfl rfl rfl rfl rfl rfl rfl ⟨Nat.le_of_ble_eq_true rfl, Nat.le_of_ble_eq_true rfl, Nat.le_of_ble_eq_true rfl⟩ ?_
            refine z_ws (ws2 := [(m, .inr (4, [.ref mR, .ref mF, .ref mT, .ref mB, .ref mTp, .int (iI tn), .int (iI so), .int (iI be), .int (iI te), .long wd, .int (iI va), .int gd, .ref mBo, .ref mSo, .ref mSh, .ref mLe, .ref mIm, .ref mBf, .int ik])), (mF, .inl (cI, 7, .inl (ar (fnd fd 0)))), (mBo, .inl (cI, 4, .inl (ar (up1 bi s (bi s))))), (mSo, .inl (cI, 4, .inl (ar (up1 si s (si s))))), (mSh, .inl (cJ, 160, .inr (.inl (shA (setS sv s (sv s))))))]) (by simp only [setS_self, up1_self]) ?_
            have e9 : opSheet (bi s) (si s) (sv s) fd b n = ((iI (-1000000001)), bi s, si s, sv s, fnd fd 0) := by
              unfold opSheet; try unfold bI
              (repeat' split) <;> first | (exfalso; omega) | contradiction | rfl
            exact z_iret (pc := 59) dX4_sheet_59 (by rw [e9]) (by rw [e9])
        · skip
          refine z_aload_n (pc := 40) dX4_sheet_40 0 rfl ?_
          refine z_ldc (pc := 41) (n := -1000000007) kC_X4_250 dX4_sheet_41 (by decide) ?_
          refine z_callV (pc := 43) (st := []) (st2 := [.int (iI (-1000000007))]) (ws2 := [(m, .inr (4, [.ref mR, .ref mF, .ref mT, .ref mB, .ref mTp, .int (iI tn), .int (iI so), .int (iI be), .int (iI te), .long wd, .int (iI va), .int gd, .ref mBo, .ref mSo, .ref mSh, .ref mLe, .ref mIm, .ref mBf, .int ik])), (mF, .inl (cI, 7, .inl (ar (fnd fd 6)))), (mBo, .inl (cI, 4, .inl (ar bi))), (mSo, .inl (cI, 4, .inl (ar si))), (mSh, .inl (cJ, 160, .inr (.inl (shA sv))))]) (q0 := 0) (c_X4_finds l D cI cJ cB cS xa m mR mF mT mB mTp mBo mSo mSh mLe mIm mBf tn so be te va wd gd ik fd (-1000000007) 6 (by omega) (by omega)) mV_X4_finds kM_X4_53 dX4_sheet_43 rfl rfl [0, 1] rfl rfl rfl rfl rfl rfl rfl rfl ⟨Nat.le_of_ble_eq_true rfl, Nat.le_of_ble_eq_true rfl, Nat.le_of_ble_eq_true rfl⟩ ?_
          refine z_ws (ws2 := [(m, .inr (4, [.ref mR, .ref mF, .ref mT, .ref mB, .ref mTp, .int (iI tn), .int (iI so), .int (iI be), .int (iI te), .long wd, .int (iI va), .int gd, .ref mBo, .ref mSo, .ref mSh, .ref mLe, .ref mIm, .ref mBf, .int ik])), (mF, .inl (cI, 7, .inl (ar (fnd fd 6)))), (mBo, .inl (cI, 4, .inl (ar (up1 bi s (bi s))))), (mSo, .inl (cI, 4, .inl (ar (up1 si s (si s))))), (mSh, .inl (cJ, 160, .inr (.inl (shA (setS sv s (sv s))))))]) (by simp only [setS_self, up1_self]) ?_
          have e9 : opSheet (bi s) (si s) (sv s) fd b n = ((iI (-1000000007)), bi s, si s, sv s, fnd fd 6) := by
            unfold opSheet; try unfold bI
            (repeat' split) <;> first | (exfalso; omega) | contradiction | rfl
          exact z_iret (pc := 46) dX4_sheet_46 (by rw [e9]) (by rw [e9])
      · skip
        refine z_iload_n (pc := 17) dX4_sheet_17 2 rfl ?_
        refine z_bipush (pc := 18) dX4_sheet_18 (by decide) ?_
        refine z_icmp_eq (pc := 20) (tgt := 36) dX4_sheet_20 (by decide) (by omega) (by omega) (fun h20 => ?_) (fun h20 => ?_)
        · skip
          refine z_iload_n (pc := 36) dX4_sheet_36 3 rfl ?_
          refine z_if_ge (pc := 37) (tgt := 47) dX4_sheet_37 (by decide) (by omega) (fun h37 => ?_) (fun h37 => ?_)
          · skip
            refine z_iload_n (pc := 47) dX4_sheet_47 3 rfl ?_
            refine z_bipush (pc := 48) dX4_sheet_48 (by decide) ?_
            refine z_icmp_le (pc := 50) (tgt := 60) dX4_sheet_50 (by decide) (by omega) (by omega) (fun h50 => ?_) (fun h50 => ?_)
            · skip
              refine z_aload_n (pc := 60) dX4_sheet_60 0 rfl ?_
              refine z_get (pc := 61) (q0 := 0) (v := .ref mBo) fL_X4_25 dX4_sheet_61 rfl rfl ?_
              refine z_iload_n (pc := 64) dX4_sheet_64 1 rfl ?_
              refine z_iload_n (pc := 65) dX4_sheet_65 2 rfl ?_
              refine z_iast (pc := 66) (q0 := 2) (ws2 := [(m, .inr (4, [.ref mR, .ref mF, .ref mT, .ref mB, .ref mTp, .int (iI tn), .int (iI so), .int (iI be), .int (iI te), .long wd, .int (iI va), .int gd, .ref mBo, .ref mSo, .ref mSh, .ref mLe, .ref mIm, .ref mBf, .int ik])), (mF, .inl (cI, 7, .inl (ar fd))), (mBo, .inl (cI, 4, .inl (ar (up1 bi s b)))), (mSo, .inl (cI, 4, .inl (ar si))), (mSh, .inl (cJ, 160, .inr (.inl (shA sv))))]) dX4_sheet_66 rfl (by omega) (by decide) (by rw [ar_up (by omega)]; rfl) ?_
              refine z_aload_n (pc := 67) dX4_sheet_67 0 rfl ?_
              refine z_get (pc := 68) (q0 := 0) (v := .ref mSo) fL_X4_28 dX4_sheet_68 rfl rfl ?_
              refine z_iload_n (pc := 71) dX4_sheet_71 1 rfl ?_
              refine z_iload_n (pc := 72) dX4_sheet_72 2 rfl ?_
              refine z_if_ne (pc := 73) (tgt := 80) dX4_sheet_73 (by decide) (by omega) (fun h73 => ?_) (fun h73 => ?_)
              · skip
                refine z_iload_n (pc := 80) dX4_sheet_80 3 rfl ?_
                refine z_iast (pc := 81) (q0 := 3) (ws2 := [(m, .inr (4, [.ref mR, .ref mF, .ref mT, .ref mB, .ref mTp, .int (iI tn), .int (iI so), .int (iI be), .int (iI te), .long wd, .int (iI va), .int gd, .ref mBo, .ref mSo, .ref mSh, .ref mLe, .ref mIm, .ref mBf, .int ik])), (mF, .inl (cI, 7, .inl (ar fd))), (mBo, .inl (cI, 4, .inl (ar (up1 bi s b)))), (mSo, .inl (cI, 4, .inl (ar (up1 si s n)))), (mSh, .inl (cJ, 160, .inr (.inl (shA sv))))]) dX4_sheet_81 rfl (by omega) (by decide) (by rw [ar_up (by omega)]; rfl) ?_
                refine z_iconst (pc := 82) dX4_sheet_82 ?_
                refine z_istore (pc := 83) (lv2 := [(4, .int (iI 0)), (0, .ref m), (1, .int (iI s)), (2, .int (iI b)), (3, .int (iI n))]) dX4_sheet_83 (by decide) rfl ?_
                have LP85 : ∀ (nn_ : Nat) (k : Int), (0 ≤ k ∧ k ≤ 40) → (40 - k).toNat < nn_ → Z xp l xe { frames := 2, cells := 0, slots := 0, locals := 42 } xs xm ([.ref m, .int (iI s), .int (iI b), .int (iI n)] : List Value).toArray xb xt xc 0 0 (MQ xb (Cq (S := Unit) D [(m, .inr (4, [.ref mR, .ref mF, .ref mT, .ref mB, .ref mTp, .int (iI tn), .int (iI so), .int (iI be), .int (iI te), .long wd, .int (iI va), .int gd, .ref mBo, .ref mSo, .ref mSh, .ref mLe, .ref mIm, .ref mBf, .int ik])), (mF, .inl (cI, 7, .inl (ar fd))), (mBo, .inl (cI, 4, .inl (ar bi))), (mSo, .inl (cI, 4, .inl (ar si))), (mSh, .inl (cJ, 160, .inr (.inl (shA sv))))] (fun _ => True) (fun _ => (some (.int ((opSheet (bi s) (si s) (sv s) fd b n).1)))) (fun _ => [(m, .inr (4, [.ref mR, .ref mF, .ref mT, .ref mB, .ref mTp, .int (iI tn), .int (iI so), .int (iI be), .int (iI te), .long wd, .int (iI va), .int gd, .ref mBo, .ref mSo, .ref mSh, .ref mLe, .ref mIm, .ref mBf, .int ik])), (mF, .inl (cI, 7, .inl (ar ((opSheet (bi s) (si s) (sv s) fd b n).2.2.2.2)))), (mBo, .inl (cI, 4, .inl (ar (up1 bi s (opSheet (bi s) (si s) (sv s) fd b n).2.1)))), (mSo, .inl (cI, 4, .inl (ar (up1 si s (opSheet (bi s) (si s) (sv s) fd b n).2.2.1)))), (mSh, .inl (cJ, 160, .inr (.inl (shA (setS sv s (opSheet (bi s) (si s) (sv s) fd b n).2.2.2.1)))))])) ([.ref m, .int (iI s), .int (iI b), .int (iI n)] : List Value).toArray xs 0 0 (va_A0 [(m, .inr (4, [.ref mR, .ref mF, .ref mT, .ref mB, .ref mTp, .int (iI tn), .int (iI so), .int (iI be), .int (iI te), .long wd, .int (iI va), .int gd, .ref mBo, .ref mSo, .ref mSh, .ref mLe, .ref mIm, .ref mBf, .int ik])), (mF, .inl (cI, 7, .inl (ar fd))), (mBo, .inl (cI, 4, .inl (ar bi))), (mSo, .inl (cI, 4, .inl (ar si))), (mSh, .inl (cJ, 160, .inr (.inl (shA sv))))])) cX4_sheet RX4 5 (some .int) D cI cJ cB cS xa (va_A0 [(m, .inr (4, [.ref mR, .ref mF, .ref mT, .ref mB, .ref mTp, .int (iI tn), .int (iI so), .int (iI be), .int (iI te), .long wd, .int (iI va), .int gd, .ref mBo, .ref mSo, .ref mSh, .ref mLe, .ref mIm, .ref mBf, .int ik])), (mF, .inl (cI, 7, .inl (ar fd))), (mBo, .inl (cI, 4, .inl (ar bi))), (mSo, .inl (cI, 4, .inl (ar si))), (mSh, .inl (cJ, 160, .inr (.inl (shA sv))))]) [(m, .inr (4, [.ref mR, .ref mF, .ref mT, .ref mB, .ref mTp, .int (iI tn), .int (iI so), .int (iI be), .int (iI te), .long wd, .int (iI va), .int gd, .ref mBo, .ref mSo, .ref mSh, .ref mLe, .ref mIm, .ref mBf, .int ik])), (mF, .inl (cI, 7, .inl (ar fd))), (mBo, .inl (cI, 4, .inl (ar (up1 bi s b)))), (mSo, .inl (cI, 4, .inl (ar (up1 si s n)))), (mSh, .inl (cJ, 160, .inr (.inl (shA (zerS sv s k)))))] [(0, .ref m), (1, .int (iI s)), (2, .int (iI b)), (3, .int (iI n)), (4, .int (iI k))] 85 [] := by
                  intro nn_
                  induction nn_ with
                  | zero => intro k hk hms; exact absurd hms (Nat.not_lt_zero _)
                  | succ nn_ ih =>
                    intro k hk hms
                    have ih85 := ih
                    clear ih
                    refine z_iload (pc := 85) dX4_sheet_85 4 rfl ?_
                    refine z_bipush (pc := 87) dX4_sheet_87 (by decide) ?_
                    refine z_icmp_ge (pc := 89) (tgt := 111) dX4_sheet_89 (by decide) (by omega) (by omega) (fun h89 => ?_) (fun h89 => ?_)
                    · skip
                      obtain rfl : k = 40 := by omega
                      refine z_ws (ws2 := [(m, .inr (4, [.ref mR, .ref mF, .ref mT, .ref mB, .ref mTp, .int (iI tn), .int (iI so), .int (iI be), .int (iI te), .long wd, .int (iI va), .int gd, .ref mBo, .ref mSo, .ref mSh, .ref mLe, .ref mIm, .ref mBf, .int ik])), (mF, .inl (cI, 7, .inl (ar fd))), (mBo, .inl (cI, 4, .inl (ar (up1 bi s b)))), (mSo, .inl (cI, 4, .inl (ar (up1 si s n)))), (mSh, .inl (cJ, 160, .inr (.inl (shA (setS sv s (fun _ => 0))))))]) (by rw [zerS_40]) ?_
                      refine z_aload_n (pc := 111) dX4_sheet_111 0 rfl ?_
                      refine z_get (pc := 112) (q0 := 0) (v := .ref mSo) fL_X4_28 dX4_sheet_112 rfl rfl ?_
                      refine z_iload_n (pc := 115) dX4_sheet_115 1 rfl ?_
                      refine z_iald (pc := 116) (q0 := 3) (v := (iI n)) dX4_sheet_116 rfl (by omega) (by decide) (by rw [ar_at (by omega), up1_same]) ?_
                      have e9 : opSheet (bi s) (si s) (sv s) fd b n = ((iI n), b, n, fun _ => 0, fd) := by
                        unfold opSheet; try unfold bI
                        (repeat' split) <;> first | (exfalso; omega) | contradiction | rfl
                      exact z_iret (pc := 117) dX4_sheet_117 (by rw [e9]) (by rw [e9])
                    · skip
                      refine z_aload_n (pc := 92) dX4_sheet_92 0 rfl ?_
                      refine z_get (pc := 93) (q0 := 0) (v := .ref mSh) fL_X4_31 dX4_sheet_93 rfl rfl ?_
                      refine z_bipush (pc := 96) dX4_sheet_96 (by decide) ?_
                      refine z_iload_n (pc := 98) dX4_sheet_98 1 rfl ?_
                      refine z_imul (pc := 99) dX4_sheet_99 ?_
                      refine z_iload (pc := 100) dX4_sheet_100 4 rfl ?_
                      refine z_iadd (pc := 102) dX4_sheet_102 ?_
                      refine z_lconst (pc := 103) (v := 0) dX4_sheet_103 (by decide) ?_
                      refine z_last (pc := 104) (q0 := 4) (ws2 := [(m, .inr (4, [.ref mR, .ref mF, .ref mT, .ref mB, .ref mTp, .int (iI tn), .int (iI so), .int (iI be), .int (iI te), .long wd, .int (iI va), .int gd, .ref mBo, .ref mSo, .ref mSh, .ref mLe, .ref mIm, .ref mBf, .int ik])), (mF, .inl (cI, 7, .inl (ar fd))), (mBo, .inl (cI, 4, .inl (ar (up1 bi s b)))), (mSo, .inl (cI, 4, .inl (ar (up1 si s n)))), (mSh, .inl (cJ, 160, .inr (.inl (shA (upS (zerS sv s k) s k 0)))))]) dX4_sheet_104 rfl (by omega) (by decide) (by rw [shA_up (s := s) (i := k) (by omega) (by omega) (by omega) (by omega)]; rfl) ?_
                      refine z_iinc (pc := 105) (lv2 := [(4, .int (iI (k + 1))), (0, .ref m), (1, .int (iI s)), (2, .int (iI b)), (3, .int (iI n))]) dX4_sheet_105 4 rfl (by decide) rfl ?_
                      refine z_goto (pc := 108) (tgt := 85) dX4_sheet_108 (by decide) ?_
                      refine z_lv (lv2 := [(0, .ref m), (1, .int (iI s)), (2, .int (iI b)), (3, .int (iI n)), (4, .int (iI (k + 1)))]) [1, 2, 3, 4, 0] rfl ?_
                      refine z_ws (ws2 := [(m, .inr (4, [.ref mR, .ref mF, .ref mT, .ref mB, .ref mTp, .int (iI tn), .int (iI so), .int (iI be), .int (iI te), .long wd, .int (iI va), .int gd, .ref mBo, .ref mSo, .ref mSh, .ref mLe, .ref mIm, .ref mBf, .int ik])), (mF, .inl (cI, 7, .inl (ar fd))), (mBo, .inl (cI, 4, .inl (ar (up1 bi s b)))), (mSo, .inl (cI, 4, .inl (ar (up1 si s n)))), (mSh, .inl (cJ, 160, .inr (.inl (shA (zerS sv s (k + 1))))))]) (by rw [← zerS_s _ _ _ hk.1]) ?_
                      exact ih85 (k + 1) (by omega) (by omega)
                refine z_ws (ws2 := [(m, .inr (4, [.ref mR, .ref mF, .ref mT, .ref mB, .ref mTp, .int (iI tn), .int (iI so), .int (iI be), .int (iI te), .long wd, .int (iI va), .int gd, .ref mBo, .ref mSo, .ref mSh, .ref mLe, .ref mIm, .ref mBf, .int ik])), (mF, .inl (cI, 7, .inl (ar fd))), (mBo, .inl (cI, 4, .inl (ar (up1 bi s b)))), (mSo, .inl (cI, 4, .inl (ar (up1 si s n)))), (mSh, .inl (cJ, 160, .inr (.inl (shA (zerS sv s 0)))))]) (by rw [zerS_0]) ?_
                refine z_lv (lv2 := [(0, .ref m), (1, .int (iI s)), (2, .int (iI b)), (3, .int (iI n)), (4, .int (iI 0))]) [1, 2, 3, 4, 0] rfl ?_
                exact LP85 _ 0 (by omega) (Nat.lt_succ_self _)
              · skip
                refine z_iconst (pc := 76) dX4_sheet_76 ?_
                refine z_goto (pc := 77) (tgt := 81) dX4_sheet_77 (by decide) ?_
                refine z_iast (pc := 81) (q0 := 3) (ws2 := [(m, .inr (4, [.ref mR, .ref mF, .ref mT, .ref mB, .ref mTp, .int (iI tn), .int (iI so), .int (iI be), .int (iI te), .long wd, .int (iI va), .int gd, .ref mBo, .ref mSo, .ref mSh, .ref mLe, .ref mIm, .ref mBf, .int ik])), (mF, .inl (cI, 7, .inl (ar fd))), (mBo, .inl (cI, 4, .inl (ar (up1 bi s b)))), (mSo, .inl (cI, 4, .inl (ar (up1 si s 0)))), (mSh, .inl (cJ, 160, .inr (.inl (shA sv))))]) dX4_sheet_81 rfl (by omega) (by decide) (by rw [ar_up (by omega)]; rfl) ?_
                refine z_iconst (pc := 82) dX4_sheet_82 ?_
                refine z_istore (pc := 83) (lv2 := [(4, .int (iI 0)), (0, .ref m), (1, .int (iI s)), (2, .int (iI b)), (3, .int (iI n))]) dX4_sheet_83 (by decide) rfl ?_
                have LP85 : ∀ (nn_ : Nat) (k : Int), (0 ≤ k ∧ k ≤ 40) → (40 - k).toNat < nn_ → Z xp l xe { frames := 2, cells := 0, slots := 0, locals := 42 } xs xm ([.ref m, .int (iI s), .int (iI b), .int (iI n)] : List Value).toArray xb xt xc 0 0 (MQ xb (Cq (S := Unit) D [(m, .inr (4, [.ref mR, .ref mF, .ref mT, .ref mB, .ref mTp, .int (iI tn), .int (iI so), .int (iI be), .int (iI te), .long wd, .int (iI va), .int gd, .ref mBo, .ref mSo, .ref mSh, .ref mLe, .ref mIm, .ref mBf, .int ik])), (mF, .inl (cI, 7, .inl (ar fd))), (mBo, .inl (cI, 4, .inl (ar bi))), (mSo, .inl (cI, 4, .inl (ar si))), (mSh, .inl (cJ, 160, .inr (.inl (shA sv))))] (fun _ => True) (fun _ => (some (.int ((opSheet (bi s) (si s) (sv s) fd b n).1)))) (fun _ => [(m, .inr (4, [.ref mR, .ref mF, .ref mT, .ref mB, .ref mTp, .int (iI tn), .int (iI so), .int (iI be), .int (iI te), .long wd, .int (iI va), .int gd, .ref mBo, .ref mSo, .ref mSh, .ref mLe, .ref mIm, .ref mBf, .int ik])), (mF, .inl (cI, 7, .inl (ar ((opSheet (bi s) (si s) (sv s) fd b n).2.2.2.2)))), (mBo, .inl (cI, 4, .inl (ar (up1 bi s (opSheet (bi s) (si s) (sv s) fd b n).2.1)))), (mSo, .inl (cI, 4, .inl (ar (up1 si s (opSheet (bi s) (si s) (sv s) fd b n).2.2.1)))), (mSh, .inl (cJ, 160, .inr (.inl (shA (setS sv s (opSheet (bi s) (si s) (sv s) fd b n).2.2.2.1)))))])) ([.ref m, .int (iI s), .int (iI b), .int (iI n)] : List Value).toArray xs 0 0 (va_A0 [(m, .inr (4, [.ref mR, .ref mF, .ref mT, .ref mB, .ref mTp, .int (iI tn), .int (iI so), .int (iI be), .int (iI te), .long wd, .int (iI va), .int gd, .ref mBo, .ref mSo, .ref mSh, .ref mLe, .ref mIm, .ref mBf, .int ik])), (mF, .inl (cI, 7, .inl (ar fd))), (mBo, .inl (cI, 4, .inl (ar bi))), (mSo, .inl (cI, 4, .inl (ar si))), (mSh, .inl (cJ, 160, .inr (.inl (shA sv))))])) cX4_sheet RX4 5 (some .int) D cI cJ cB cS xa (va_A0 [(m, .inr (4, [.ref mR, .ref mF, .ref mT, .ref mB, .ref mTp, .int (iI tn), .int (iI so), .int (iI be), .int (iI te), .long wd, .int (iI va), .int gd, .ref mBo, .ref mSo, .ref mSh, .ref mLe, .ref mIm, .ref mBf, .int ik])), (mF, .inl (cI, 7, .inl (ar fd))), (mBo, .inl (cI, 4, .inl (ar bi))), (mSo, .inl (cI, 4, .inl (ar si))), (mSh, .inl (cJ, 160, .inr (.inl (shA sv))))]) [(m, .inr (4, [.ref mR, .ref mF, .ref mT, .ref mB, .ref mTp, .int (iI tn), .int (iI so), .int (iI be), .int (iI te), .long wd, .int (iI va), .int gd, .ref mBo, .ref mSo, .ref mSh, .ref mLe, .ref mIm, .ref mBf, .int ik])), (mF, .inl (cI, 7, .inl (ar fd))), (mBo, .inl (cI, 4, .inl (ar (up1 bi s b)))), (mSo, .inl (cI, 4, .inl (ar (up1 si s 0)))), (mSh, .inl (cJ, 160, .inr (.inl (shA (zerS sv s k)))))] [(0, .ref m), (1, .int (iI s)), (2, .int (iI b)), (3, .int (iI n)), (4, .int (iI k))] 85 [] := by
                  intro nn_
                  induction nn_ with
                  | zero => intro k hk hms; exact absurd hms (Nat.not_lt_zero _)
                  | succ nn_ ih =>
                    intro k hk hms
                    have ih85 := ih
                    clear ih
                    refine z_iload (pc := 85) dX4_sheet_85 4 rfl ?_
                    refine z_bipush (pc := 87) dX4_sheet_87 (by decide) ?_
                    refine z_icmp_ge (pc := 89) (tgt := 111) dX4_sheet_89 (by decide) (by omega) (by omega) (fun h89 => ?_) (fun h89 => ?_)
                    · skip
                      obtain rfl : k = 40 := by omega
                      refine z_ws (ws2 := [(m, .inr (4, [.ref mR, .ref mF, .ref mT, .ref mB, .ref mTp, .int (iI tn), .int (iI so), .int (iI be), .int (iI te), .long wd, .int (iI va), .int gd, .ref mBo, .ref mSo, .ref mSh, .ref mLe, .ref mIm, .ref mBf, .int ik])), (mF, .inl (cI, 7, .inl (ar fd))), (mBo, .inl (cI, 4, .inl (ar (up1 bi s b)))), (mSo, .inl (cI, 4, .inl (ar (up1 si s 0)))), (mSh, .inl (cJ, 160, .inr (.inl (shA (setS sv s (fun _ => 0))))))]) (by rw [zerS_40]) ?_
                      refine z_aload_n (pc := 111) dX4_sheet_111 0 rfl ?_
                      refine z_get (pc := 112) (q0 := 0) (v := .ref mSo) fL_X4_28 dX4_sheet_112 rfl rfl ?_
                      refine z_iload_n (pc := 115) dX4_sheet_115 1 rfl ?_
                      refine z_iald (pc := 116) (q0 := 3) (v := (iI 0)) dX4_sheet_116 rfl (by omega) (by decide) (by rw [ar_at (by omega), up1_same]) ?_
                      have e9 : opSheet (bi s) (si s) (sv s) fd b n = ((iI 0), b, 0, fun _ => 0, fd) := by
                        unfold opSheet; try unfold bI
                        (repeat' split) <;> first | (exfalso; omega) | contradiction | rfl
                      exact z_iret (pc := 117) dX4_sheet_117 (by rw [e9]) (by rw [e9])
                    · skip
                      refine z_aload_n (pc := 92) dX4_sheet_92 0 rfl ?_
                      refine z_get (pc := 93) (q0 := 0) (v := .ref mSh) fL_X4_31 dX4_sheet_93 rfl rfl ?_
                      refine z_bipush (pc := 96) dX4_sheet_96 (by decide) ?_
                      refine z_iload_n (pc := 98) dX4_sheet_98 1 rfl ?_
                      refine z_imul (pc := 99) dX4_sheet_99 ?_
                      refine z_iload (pc := 100) dX4_sheet_100 4 rfl ?_
                      refine z_iadd (pc := 102) dX4_sheet_102 ?_
                      refine z_lconst (pc := 103) (v := 0) dX4_sheet_103 (by decide) ?_
                      refine z_last (pc := 104) (q0 := 4) (ws2 := [(m, .inr (4, [.ref mR, .ref mF, .ref mT, .ref mB, .ref mTp, .int (iI tn), .int (iI so), .int (iI be), .int (iI te), .long wd, .int (iI va), .int gd, .ref mBo, .ref mSo, .ref mSh, .ref mLe, .ref mIm, .ref mBf, .int ik])), (mF, .inl (cI, 7, .inl (ar fd))), (mBo, .inl (cI, 4, .inl (ar (up1 bi s b)))), (mSo, .inl (cI, 4, .inl (ar (up1 si s 0)))), (mSh, .inl (cJ, 160, .inr (.inl (shA (upS (zerS sv s k) s k 0)))))]) dX4_sheet_104 rfl (by omega) (by decide) (by rw [shA_up (s := s) (i := k) (by omega) (by omega) (by omega) (by omega)]; rfl) ?_
                      refine z_iinc (pc := 105) (lv2 := [(4, .int (iI (k + 1))), (0, .ref m), (1, .int (iI s)), (2, .int (iI b)), (3, .int (iI n))]) dX4_sheet_105 4 rfl (by decide) rfl ?_
                      refine z_goto (pc := 108) (tgt := 85) dX4_sheet_108 (by decide) ?_
                      refine z_lv (lv2 := [(0, .ref m), (1, .int (iI s)), (2, .int (iI b)), (3, .int (iI n)), (4, .int (iI (k + 1)))]) [1, 2, 3, 4, 0] rfl ?_
                      refine z_ws (ws2 := [(m, .inr (4, [.ref mR, .ref mF, .ref mT, .ref mB, .ref mTp, .int (iI tn), .int (iI so), .int (iI be), .int (iI te), .long wd, .int (iI va), .int gd, .ref mBo, .ref mSo, .ref mSh, .ref mLe, .ref mIm, .ref mBf, .int ik])), (mF, .inl (cI, 7, .inl (ar fd))), (mBo, .inl (cI, 4, .inl (ar (up1 bi s b)))), (mSo, .inl (cI, 4, .inl (ar (up1 si s 0)))), (mSh, .inl (cJ, 160, .inr (.inl (shA (zerS sv s (k + 1))))))]) (by rw [← zerS_s _ _ _ hk.1]) ?_
                      exact ih85 (k + 1) (by omega) (by omega)
                refine z_ws (ws2 := [(m, .inr (4, [.ref mR, .ref mF, .ref mT, .ref mB, .ref mTp, .int (iI tn), .int (iI so), .int (iI be), .int (iI te), .long wd, .int (iI va), .int gd, .ref mBo, .ref mSo, .ref mSh, .ref mLe, .ref mIm, .ref mBf, .int ik])), (mF, .inl (cI, 7, .inl (ar fd))), (mBo, .inl (cI, 4, .inl (ar (up1 bi s b)))), (mSo, .inl (cI, 4, .inl (ar (up1 si s 0)))), (mSh, .inl (cJ, 160, .inr (.inl (shA (zerS sv s 0)))))]) (by rw [zerS_0]) ?_
                refine z_lv (lv2 := [(0, .ref m), (1, .int (iI s)), (2, .int (iI b)), (3, .int (iI n)), (4, .int (iI 0))]) [1, 2, 3, 4, 0] rfl ?_
                exact LP85 _ 0 (by omega) (Nat.lt_succ_self _)
            · skip
              refine z_aload_n (pc := 53) dX4_sheet_53 0 rfl ?_
              refine z_ldc (pc := 54) (n := -1000000001) kC_X4_44 dX4_sheet_54 (by decide) ?_
              refine z_callV (pc := 56) (st := []) (st2 := [.int (iI (-1000000001))]) (ws2 := [(m, .inr (4, [.ref mR, .ref mF, .ref mT, .ref mB, .ref mTp, .int (iI tn), .int (iI so), .int (iI be), .int (iI te), .long wd, .int (iI va), .int gd, .ref mBo, .ref mSo, .ref mSh, .ref mLe, .ref mIm, .ref mBf, .int ik])), (mF, .inl (cI, 7, .inl (ar (fnd fd 0)))), (mBo, .inl (cI, 4, .inl (ar bi))), (mSo, .inl (cI, 4, .inl (ar si))), (mSh, .inl (cJ, 160, .inr (.inl (shA sv))))]) (q0 := 0) (c_X4_finds l D cI cJ cB cS xa m mR mF mT mB mTp mBo mSo mSh mLe mIm mBf tn so be te va wd gd ik fd (-1000000001) 0 (by omega) (by omega)) mV_X4_finds kM_X4_53 dX4_sheet_56 rfl rfl [0, 1] rfl rfl rfl rfl rfl rfl rfl rfl ⟨Nat.le_of_ble_eq_true rfl, Nat.le_of_ble_eq_true rfl, Nat.le_of_ble_eq_true rfl⟩ ?_
              refine z_ws (ws2 := [(m, .inr (4, [.ref mR, .ref mF, .ref mT, .ref mB, .ref mTp, .int (iI tn), .int (iI so), .int (iI be), .int (iI te), .long wd, .int (iI va), .int gd, .ref mBo, .ref mSo, .ref mSh, .ref mLe, .ref mIm, .ref mBf, .int ik])), (mF, .inl (cI, 7, .inl (ar (fnd fd 0)))), (mBo, .inl (cI, 4, .inl (ar (up1 bi s (bi s))))), (mSo, .inl (cI, 4, .inl (ar (up1 si s (si s))))), (mSh, .inl (cJ, 160, .inr (.inl (shA (setS sv s (sv s))))))]) (by simp only [setS_self, up1_self]) ?_
              have e9 : opSheet (bi s) (si s) (sv s) fd b n = ((iI (-1000000001)), bi s, si s, sv s, fnd fd 0) := by
                unfold opSheet; try unfold bI
                (repeat' split) <;> first | (exfalso; omega) | contradiction | rfl
              exact z_iret (pc := 59) dX4_sheet_59 (by rw [e9]) (by rw [e9])
          · skip
            refine z_aload_n (pc := 40) dX4_sheet_40 0 rfl ?_
            refine z_ldc (pc := 41) (n := -1000000007) kC_X4_250 dX4_sheet_41 (by decide) ?_
            refine z_callV (pc := 43) (st := []) (st2 := [.int (iI (-1000000007))]) (ws2 := [(m, .inr (4, [.ref mR, .ref mF, .ref mT, .ref mB, .ref mTp, .int (iI tn), .int (iI so), .int (iI be), .int (iI te), .long wd, .int (iI va), .int gd, .ref mBo, .ref mSo, .ref mSh, .ref mLe, .ref mIm, .ref mBf, .int ik])), (mF, .inl (cI, 7, .inl (ar (fnd fd 6)))), (mBo, .inl (cI, 4, .inl (ar bi))), (mSo, .inl (cI, 4, .inl (ar si))), (mSh, .inl (cJ, 160, .inr (.inl (shA sv))))]) (q0 := 0) (c_X4_finds l D cI cJ cB cS xa m mR mF mT mB mTp mBo mSo mSh mLe mIm mBf tn so be te va wd gd ik fd (-1000000007) 6 (by omega) (by omega)) mV_X4_finds kM_X4_53 dX4_sheet_43 rfl rfl [0, 1] rfl rfl rfl rfl rfl rfl rfl rfl ⟨Nat.le_of_ble_eq_true rfl, Nat.le_of_ble_eq_true rfl, Nat.le_of_ble_eq_true rfl⟩ ?_
            refine z_ws (ws2 := [(m, .inr (4, [.ref mR, .ref mF, .ref mT, .ref mB, .ref mTp, .int (iI tn), .int (iI so), .int (iI be), .int (iI te), .long wd, .int (iI va), .int gd, .ref mBo, .ref mSo, .ref mSh, .ref mLe, .ref mIm, .ref mBf, .int ik])), (mF, .inl (cI, 7, .inl (ar (fnd fd 6)))), (mBo, .inl (cI, 4, .inl (ar (up1 bi s (bi s))))), (mSo, .inl (cI, 4, .inl (ar (up1 si s (si s))))), (mSh, .inl (cJ, 160, .inr (.inl (shA (setS sv s (sv s))))))]) (by simp only [setS_self, up1_self]) ?_
            have e9 : opSheet (bi s) (si s) (sv s) fd b n = ((iI (-1000000007)), bi s, si s, sv s, fnd fd 6) := by
              unfold opSheet; try unfold bI
              (repeat' split) <;> first | (exfalso; omega) | contradiction | rfl
            exact z_iret (pc := 46) dX4_sheet_46 (by rw [e9]) (by rw [e9])
        · skip
          refine z_iload_n (pc := 23) dX4_sheet_23 2 rfl ?_
          refine z_bipush (pc := 24) dX4_sheet_24 (by decide) ?_
          refine z_icmp_eq (pc := 26) (tgt := 36) dX4_sheet_26 (by decide) (by omega) (by omega) (fun h26 => ?_) (fun h26 => ?_)
          · skip
            refine z_iload_n (pc := 36) dX4_sheet_36 3 rfl ?_
            refine z_if_ge (pc := 37) (tgt := 47) dX4_sheet_37 (by decide) (by omega) (fun h37 => ?_) (fun h37 => ?_)
            · skip
              refine z_iload_n (pc := 47) dX4_sheet_47 3 rfl ?_
              refine z_bipush (pc := 48) dX4_sheet_48 (by decide) ?_
              refine z_icmp_le (pc := 50) (tgt := 60) dX4_sheet_50 (by decide) (by omega) (by omega) (fun h50 => ?_) (fun h50 => ?_)
              · skip
                refine z_aload_n (pc := 60) dX4_sheet_60 0 rfl ?_
                refine z_get (pc := 61) (q0 := 0) (v := .ref mBo) fL_X4_25 dX4_sheet_61 rfl rfl ?_
                refine z_iload_n (pc := 64) dX4_sheet_64 1 rfl ?_
                refine z_iload_n (pc := 65) dX4_sheet_65 2 rfl ?_
                refine z_iast (pc := 66) (q0 := 2) (ws2 := [(m, .inr (4, [.ref mR, .ref mF, .ref mT, .ref mB, .ref mTp, .int (iI tn), .int (iI so), .int (iI be), .int (iI te), .long wd, .int (iI va), .int gd, .ref mBo, .ref mSo, .ref mSh, .ref mLe, .ref mIm, .ref mBf, .int ik])), (mF, .inl (cI, 7, .inl (ar fd))), (mBo, .inl (cI, 4, .inl (ar (up1 bi s b)))), (mSo, .inl (cI, 4, .inl (ar si))), (mSh, .inl (cJ, 160, .inr (.inl (shA sv))))]) dX4_sheet_66 rfl (by omega) (by decide) (by rw [ar_up (by omega)]; rfl) ?_
                refine z_aload_n (pc := 67) dX4_sheet_67 0 rfl ?_
                refine z_get (pc := 68) (q0 := 0) (v := .ref mSo) fL_X4_28 dX4_sheet_68 rfl rfl ?_
                refine z_iload_n (pc := 71) dX4_sheet_71 1 rfl ?_
                refine z_iload_n (pc := 72) dX4_sheet_72 2 rfl ?_
                refine z_if_ne (pc := 73) (tgt := 80) dX4_sheet_73 (by decide) (by omega) (fun h73 => ?_) (fun h73 => ?_)
                · skip
                  refine z_iload_n (pc := 80) dX4_sheet_80 3 rfl ?_
                  refine z_iast (pc := 81) (q0 := 3) (ws2 := [(m, .inr (4, [.ref mR, .ref mF, .ref mT, .ref mB, .ref mTp, .int (iI tn), .int (iI so), .int (iI be), .int (iI te), .long wd, .int (iI va), .int gd, .ref mBo, .ref mSo, .ref mSh, .ref mLe, .ref mIm, .ref mBf, .int ik])), (mF, .inl (cI, 7, .inl (ar fd))), (mBo, .inl (cI, 4, .inl (ar (up1 bi s b)))), (mSo, .inl (cI, 4, .inl (ar (up1 si s n)))), (mSh, .inl (cJ, 160, .inr (.inl (shA sv))))]) dX4_sheet_81 rfl (by omega) (by decide) (by rw [ar_up (by omega)]; rfl) ?_
                  refine z_iconst (pc := 82) dX4_sheet_82 ?_
                  refine z_istore (pc := 83) (lv2 := [(4, .int (iI 0)), (0, .ref m), (1, .int (iI s)), (2, .int (iI b)), (3, .int (iI n))]) dX4_sheet_83 (by decide) rfl ?_
                  have LP85 : ∀ (nn_ : Nat) (k : Int), (0 ≤ k ∧ k ≤ 40) → (40 - k).toNat < nn_ → Z xp l xe { frames := 2, cells := 0, slots := 0, locals := 42 } xs xm ([.ref m, .int (iI s), .int (iI b), .int (iI n)] : List Value).toArray xb xt xc 0 0 (MQ xb (Cq (S := Unit) D [(m, .inr (4, [.ref mR, .ref mF, .ref mT, .ref mB, .ref mTp, .int (iI tn), .int (iI so), .int (iI be), .int (iI te), .long wd, .int (iI va), .int gd, .ref mBo, .ref mSo, .ref mSh, .ref mLe, .ref mIm, .ref mBf, .int ik])), (mF, .inl (cI, 7, .inl (ar fd))), (mBo, .inl (cI, 4, .inl (ar bi))), (mSo, .inl (cI, 4, .inl (ar si))), (mSh, .inl (cJ, 160, .inr (.inl (shA sv))))] (fun _ => True) (fun _ => (some (.int ((opSheet (bi s) (si s) (sv s) fd b n).1)))) (fun _ => [(m, .inr (4, [.ref mR, .ref mF, .ref mT, .ref mB, .ref mTp, .int (iI tn), .int (iI so), .int (iI be), .int (iI te), .long wd, .int (iI va), .int gd, .ref mBo, .ref mSo, .ref mSh, .ref mLe, .ref mIm, .ref mBf, .int ik])), (mF, .inl (cI, 7, .inl (ar ((opSheet (bi s) (si s) (sv s) fd b n).2.2.2.2)))), (mBo, .inl (cI, 4, .inl (ar (up1 bi s (opSheet (bi s) (si s) (sv s) fd b n).2.1)))), (mSo, .inl (cI, 4, .inl (ar (up1 si s (opSheet (bi s) (si s) (sv s) fd b n).2.2.1)))), (mSh, .inl (cJ, 160, .inr (.inl (shA (setS sv s (opSheet (bi s) (si s) (sv s) fd b n).2.2.2.1)))))])) ([.ref m, .int (iI s), .int (iI b), .int (iI n)] : List Value).toArray xs 0 0 (va_A0 [(m, .inr (4, [.ref mR, .ref mF, .ref mT, .ref mB, .ref mTp, .int (iI tn), .int (iI so), .int (iI be), .int (iI te), .long wd, .int (iI va), .int gd, .ref mBo, .ref mSo, .ref mSh, .ref mLe, .ref mIm, .ref mBf, .int ik])), (mF, .inl (cI, 7, .inl (ar fd))), (mBo, .inl (cI, 4, .inl (ar bi))), (mSo, .inl (cI, 4, .inl (ar si))), (mSh, .inl (cJ, 160, .inr (.inl (shA sv))))])) cX4_sheet RX4 5 (some .int) D cI cJ cB cS xa (va_A0 [(m, .inr (4, [.ref mR, .ref mF, .ref mT, .ref mB, .ref mTp, .int (iI tn), .int (iI so), .int (iI be), .int (iI te), .long wd, .int (iI va), .int gd, .ref mBo, .ref mSo, .ref mSh, .ref mLe, .ref mIm, .ref mBf, .int ik])), (mF, .inl (cI, 7, .inl (ar fd))), (mBo, .inl (cI, 4, .inl (ar bi))), (mSo, .inl (cI, 4, .inl (ar si))), (mSh, .inl (cJ, 160, .inr (.inl (shA sv))))]) [(m, .inr (4, [.ref mR, .ref mF, .ref mT, .ref mB, .ref mTp, .int (iI tn), .int (iI so), .int (iI be), .int (iI te), .long wd, .int (iI va), .int gd, .ref mBo, .ref mSo, .ref mSh, .ref mLe, .ref mIm, .ref mBf, .int ik])), (mF, .inl (cI, 7, .inl (ar fd))), (mBo, .inl (cI, 4, .inl (ar (up1 bi s b)))), (mSo, .inl (cI, 4, .inl (ar (up1 si s n)))), (mSh, .inl (cJ, 160, .inr (.inl (shA (zerS sv s k)))))] [(0, .ref m), (1, .int (iI s)), (2, .int (iI b)), (3, .int (iI n)), (4, .int (iI k))] 85 [] := by
                    intro nn_
                    induction nn_ with
                    | zero => intro k hk hms; exact absurd hms (Nat.not_lt_zero _)
                    | succ nn_ ih =>
                      intro k hk hms
                      have ih85 := ih
                      clear ih
                      refine z_iload (pc := 85) dX4_sheet_85 4 rfl ?_
                      refine z_bipush (pc := 87) dX4_sheet_87 (by decide) ?_
                      refine z_icmp_ge (pc := 89) (tgt := 111) dX4_sheet_89 (by decide) (by omega) (by omega) (fun h89 => ?_) (fun h89 => ?_)
                      · skip
                        obtain rfl : k = 40 := by omega
                        refine z_ws (ws2 := [(m, .inr (4, [.ref mR, .ref mF, .ref mT, .ref mB, .ref mTp, .int (iI tn), .int (iI so), .int (iI be), .int (iI te), .long wd, .int (iI va), .int gd, .ref mBo, .ref mSo, .ref mSh, .ref mLe, .ref mIm, .ref mBf, .int ik])), (mF, .inl (cI, 7, .inl (ar fd))), (mBo, .inl (cI, 4, .inl (ar (up1 bi s b)))), (mSo, .inl (cI, 4, .inl (ar (up1 si s n)))), (mSh, .inl (cJ, 160, .inr (.inl (shA (setS sv s (fun _ => 0))))))]) (by rw [zerS_40]) ?_
                        refine z_aload_n (pc := 111) dX4_sheet_111 0 rfl ?_
                        refine z_get (pc := 112) (q0 := 0) (v := .ref mSo) fL_X4_28 dX4_sheet_112 rfl rfl ?_
                        refine z_iload_n (pc := 115) dX4_sheet_115 1 rfl ?_
                        refine z_iald (pc := 116) (q0 := 3) (v := (iI n)) dX4_sheet_116 rfl (by omega) (by decide) (by rw [ar_at (by omega), up1_same]) ?_
                        have e9 : opSheet (bi s) (si s) (sv s) fd b n = ((iI n), b, n, fun _ => 0, fd) := by
                          unfold opSheet; try unfold bI
                          (repeat' split) <;> first | (exfalso; omega) | contradiction | rfl
                        exact z_iret (pc := 117) dX4_sheet_117 (by rw [e9]) (by rw [e9])
                      · skip
                        refine z_aload_n (pc := 92) dX4_sheet_92 0 rfl ?_
                        refine z_get (pc := 93) (q0 := 0) (v := .ref mSh) fL_X4_31 dX4_sheet_93 rfl rfl ?_
                        refine z_bipush (pc := 96) dX4_sheet_96 (by decide) ?_
                        refine z_iload_n (pc := 98) dX4_sheet_98 1 rfl ?_
                        refine z_imul (pc := 99) dX4_sheet_99 ?_
                        refine z_iload (pc := 100) dX4_sheet_100 4 rfl ?_
                        refine z_iadd (pc := 102) dX4_sheet_102 ?_
                        refine z_lconst (pc := 103) (v := 0) dX4_sheet_103 (by decide) ?_
                        refine z_last (pc := 104) (q0 := 4) (ws2 := [(m, .inr (4, [.ref mR, .ref mF, .ref mT, .ref mB, .ref mTp, .int (iI tn), .int (iI so), .int (iI be), .int (iI te), .long wd, .int (iI va), .int gd, .ref mBo, .ref mSo, .ref mSh, .ref mLe, .ref mIm, .ref mBf, .int ik])), (mF, .inl (cI, 7, .inl (ar fd))), (mBo, .inl (cI, 4, .inl (ar (up1 bi s b)))), (mSo, .inl (cI, 4, .inl (ar (up1 si s n)))), (mSh, .inl (cJ, 160, .inr (.inl (shA (upS (zerS sv s k) s k 0)))))]) dX4_sheet_104 rfl (by omega) (by decide) (by rw [shA_up (s := s) (i := k) (by omega) (by omega) (by omega) (by omega)]; rfl) ?_
                        refine z_iinc (pc := 105) (lv2 := [(4, .int (iI (k + 1))), (0, .ref m), (1, .int (iI s)), (2, .int (iI b)), (3, .int (iI n))]) dX4_sheet_105 4 rfl (by decide) rfl ?_
                        refine z_goto (pc := 108) (tgt := 85) dX4_sheet_108 (by decide) ?_
                        refine z_lv (lv2 := [(0, .ref m), (1, .int (iI s)), (2, .int (iI b)), (3, .int (iI n)), (4, .int (iI (k + 1)))]) [1, 2, 3, 4, 0] rfl ?_
                        refine z_ws (ws2 := [(m, .inr (4, [.ref mR, .ref mF, .ref mT, .ref mB, .ref mTp, .int (iI tn), .int (iI so), .int (iI be), .int (iI te), .long wd, .int (iI va), .int gd, .ref mBo, .ref mSo, .ref mSh, .ref mLe, .ref mIm, .ref mBf, .int ik])), (mF, .inl (cI, 7, .inl (ar fd))), (mBo, .inl (cI, 4, .inl (ar (up1 bi s b)))), (mSo, .inl (cI, 4, .inl (ar (up1 si s n)))), (mSh, .inl (cJ, 160, .inr (.inl (shA (zerS sv s (k + 1))))))]) (by rw [← zerS_s _ _ _ hk.1]) ?_
                        exact ih85 (k + 1) (by omega) (by omega)
                  refine z_ws (ws2 := [(m, .inr (4, [.ref mR, .ref mF, .ref mT, .ref mB, .ref mTp, .int (iI tn), .int (iI so), .int (iI be), .int (iI te), .long wd, .int (iI va), .int gd, .ref mBo, .ref mSo, .ref mSh, .ref mLe, .ref mIm, .ref mBf, .int ik])), (mF, .inl (cI, 7, .inl (ar fd))), (mBo, .inl (cI, 4, .inl (ar (up1 bi s b)))), (mSo, .inl (cI, 4, .inl (ar (up1 si s n)))), (mSh, .inl (cJ, 160, .inr (.inl (shA (zerS sv s 0)))))]) (by rw [zerS_0]) ?_
                  refine z_lv (lv2 := [(0, .ref m), (1, .int (iI s)), (2, .int (iI b)), (3, .int (iI n)), (4, .int (iI 0))]) [1, 2, 3, 4, 0] rfl ?_
                  exact LP85 _ 0 (by omega) (Nat.lt_succ_self _)
                · skip
                  refine z_iconst (pc := 76) dX4_sheet_76 ?_
                  refine z_goto (pc := 77) (tgt := 81) dX4_sheet_77 (by decide) ?_
                  refine z_iast (pc := 81) (q0 := 3) (ws2 := [(m, .inr (4, [.ref mR, .ref mF, .ref mT, .ref mB, .ref mTp, .int (iI tn), .int (iI so), .int (iI be), .int (iI te), .long wd, .int (iI va), .int gd, .ref mBo, .ref mSo, .ref mSh, .ref mLe, .ref mIm, .ref mBf, .int ik])), (mF, .inl (cI, 7, .inl (ar fd))), (mBo, .inl (cI, 4, .inl (ar (up1 bi s b)))), (mSo, .inl (cI, 4, .inl (ar (up1 si s 0)))), (mSh, .inl (cJ, 160, .inr (.inl (shA sv))))]) dX4_sheet_81 rfl (by omega) (by decide) (by rw [ar_up (by omega)]; rfl) ?_
                  refine z_iconst (pc := 82) dX4_sheet_82 ?_
                  refine z_istore (pc := 83) (lv2 := [(4, .int (iI 0)), (0, .ref m), (1, .int (iI s)), (2, .int (iI b)), (3, .int (iI n))]) dX4_sheet_83 (by decide) rfl ?_
                  have LP85 : ∀ (nn_ : Nat) (k : Int), (0 ≤ k ∧ k ≤ 40) → (40 - k).toNat < nn_ → Z xp l xe { frames := 2, cells := 0, slots := 0, locals := 42 } xs xm ([.ref m, .int (iI s), .int (iI b), .int (iI n)] : List Value).toArray xb xt xc 0 0 (MQ xb (Cq (S := Unit) D [(m, .inr (4, [.ref mR, .ref mF, .ref mT, .ref mB, .ref mTp, .int (iI tn), .int (iI so), .int (iI be), .int (iI te), .long wd, .int (iI va), .int gd, .ref mBo, .ref mSo, .ref mSh, .ref mLe, .ref mIm, .ref mBf, .int ik])), (mF, .inl (cI, 7, .inl (ar fd))), (mBo, .inl (cI, 4, .inl (ar bi))), (mSo, .inl (cI, 4, .inl (ar si))), (mSh, .inl (cJ, 160, .inr (.inl (shA sv))))] (fun _ => True) (fun _ => (some (.int ((opSheet (bi s) (si s) (sv s) fd b n).1)))) (fun _ => [(m, .inr (4, [.ref mR, .ref mF, .ref mT, .ref mB, .ref mTp, .int (iI tn), .int (iI so), .int (iI be), .int (iI te), .long wd, .int (iI va), .int gd, .ref mBo, .ref mSo, .ref mSh, .ref mLe, .ref mIm, .ref mBf, .int ik])), (mF, .inl (cI, 7, .inl (ar ((opSheet (bi s) (si s) (sv s) fd b n).2.2.2.2)))), (mBo, .inl (cI, 4, .inl (ar (up1 bi s (opSheet (bi s) (si s) (sv s) fd b n).2.1)))), (mSo, .inl (cI, 4, .inl (ar (up1 si s (opSheet (bi s) (si s) (sv s) fd b n).2.2.1)))), (mSh, .inl (cJ, 160, .inr (.inl (shA (setS sv s (opSheet (bi s) (si s) (sv s) fd b n).2.2.2.1)))))])) ([.ref m, .int (iI s), .int (iI b), .int (iI n)] : List Value).toArray xs 0 0 (va_A0 [(m, .inr (4, [.ref mR, .ref mF, .ref mT, .ref mB, .ref mTp, .int (iI tn), .int (iI so), .int (iI be), .int (iI te), .long wd, .int (iI va), .int gd, .ref mBo, .ref mSo, .ref mSh, .ref mLe, .ref mIm, .ref mBf, .int ik])), (mF, .inl (cI, 7, .inl (ar fd))), (mBo, .inl (cI, 4, .inl (ar bi))), (mSo, .inl (cI, 4, .inl (ar si))), (mSh, .inl (cJ, 160, .inr (.inl (shA sv))))])) cX4_sheet RX4 5 (some .int) D cI cJ cB cS xa (va_A0 [(m, .inr (4, [.ref mR, .ref mF, .ref mT, .ref mB, .ref mTp, .int (iI tn), .int (iI so), .int (iI be), .int (iI te), .long wd, .int (iI va), .int gd, .ref mBo, .ref mSo, .ref mSh, .ref mLe, .ref mIm, .ref mBf, .int ik])), (mF, .inl (cI, 7, .inl (ar fd))), (mBo, .inl (cI, 4, .inl (ar bi))), (mSo, .inl (cI, 4, .inl (ar si))), (mSh, .inl (cJ, 160, .inr (.inl (shA sv))))]) [(m, .inr (4, [.ref mR, .ref mF, .ref mT, .ref mB, .ref mTp, .int (iI tn), .int (iI so), .int (iI be), .int (iI te), .long wd, .int (iI va), .int gd, .ref mBo, .ref mSo, .ref mSh, .ref mLe, .ref mIm, .ref mBf, .int ik])), (mF, .inl (cI, 7, .inl (ar fd))), (mBo, .inl (cI, 4, .inl (ar (up1 bi s b)))), (mSo, .inl (cI, 4, .inl (ar (up1 si s 0)))), (mSh, .inl (cJ, 160, .inr (.inl (shA (zerS sv s k)))))] [(0, .ref m), (1, .int (iI s)), (2, .int (iI b)), (3, .int (iI n)), (4, .int (iI k))] 85 [] := by
                    intro nn_
                    induction nn_ with
                    | zero => intro k hk hms; exact absurd hms (Nat.not_lt_zero _)
                    | succ nn_ ih =>
                      intro k hk hms
                      have ih85 := ih
                      clear ih
                      refine z_iload (pc := 85) dX4_sheet_85 4 rfl ?_
                      refine z_bipush (pc := 87) dX4_sheet_87 (by decide) ?_
                      refine z_icmp_ge (pc := 89) (tgt := 111) dX4_sheet_89 (by decide) (by omega) (by omega) (fun h89 => ?_) (fun h89 => ?_)
                      · skip
                        obtain rfl : k = 40 := by omega
                        refine z_ws (ws2 := [(m, .inr (4, [.ref mR, .ref mF, .ref mT, .ref mB, .ref mTp, .int (iI tn), .int (iI so), .int (iI be), .int (iI te), .long wd, .int (iI va), .int gd, .ref mBo, .ref mSo, .ref mSh, .ref mLe, .ref mIm, .ref mBf, .int ik])), (mF, .inl (cI, 7, .inl (ar fd))), (mBo, .inl (cI, 4, .inl (ar (up1 bi s b)))), (mSo, .inl (cI, 4, .inl (ar (up1 si s 0)))), (mSh, .inl (cJ, 160, .inr (.inl (shA (setS sv s (fun _ => 0))))))]) (by rw [zerS_40]) ?_
                        refine z_aload_n (pc := 111) dX4_sheet_111 0 rfl ?_
                        refine z_get (pc := 112) (q0 := 0) (v := .ref mSo) fL_X4_28 dX4_sheet_112 rfl rfl ?_
                        refine z_iload_n (pc := 115) dX4_sheet_115 1 rfl ?_
                        refine z_iald (pc := 116) (q0 := 3) (v := (iI 0)) dX4_sheet_116 rfl (by omega) (by decide) (by rw [ar_at (by omega), up1_same]) ?_
                        have e9 : opSheet (bi s) (si s) (sv s) fd b n = ((iI 0), b, 0, fun _ => 0, fd) := by
                          unfold opSheet; try unfold bI
                          (repeat' split) <;> first | (exfalso; omega) | contradiction | rfl
                        exact z_iret (pc := 117) dX4_sheet_117 (by rw [e9]) (by rw [e9])
                      · skip
                        refine z_aload_n (pc := 92) dX4_sheet_92 0 rfl ?_
                        refine z_get (pc := 93) (q0 := 0) (v := .ref mSh) fL_X4_31 dX4_sheet_93 rfl rfl ?_
                        refine z_bipush (pc := 96) dX4_sheet_96 (by decide) ?_
                        refine z_iload_n (pc := 98) dX4_sheet_98 1 rfl ?_
                        refine z_imul (pc := 99) dX4_sheet_99 ?_
                        refine z_iload (pc := 100) dX4_sheet_100 4 rfl ?_
                        refine z_iadd (pc := 102) dX4_sheet_102 ?_
                        refine z_lconst (pc := 103) (v := 0) dX4_sheet_103 (by decide) ?_
                        refine z_last (pc := 104) (q0 := 4) (ws2 := [(m, .inr (4, [.ref mR, .ref mF, .ref mT, .ref mB, .ref mTp, .int (iI tn), .int (iI so), .int (iI be), .int (iI te), .long wd, .int (iI va), .int gd, .ref mBo, .ref mSo, .ref mSh, .ref mLe, .ref mIm, .ref mBf, .int ik])), (mF, .inl (cI, 7, .inl (ar fd))), (mBo, .inl (cI, 4, .inl (ar (up1 bi s b)))), (mSo, .inl (cI, 4, .inl (ar (up1 si s 0)))), (mSh, .inl (cJ, 160, .inr (.inl (shA (upS (zerS sv s k) s k 0)))))]) dX4_sheet_104 rfl (by omega) (by decide) (by rw [shA_up (s := s) (i := k) (by omega) (by omega) (by omega) (by omega)]; rfl) ?_
                        refine z_iinc (pc := 105) (lv2 := [(4, .int (iI (k + 1))), (0, .ref m), (1, .int (iI s)), (2, .int (iI b)), (3, .int (iI n))]) dX4_sheet_105 4 rfl (by decide) rfl ?_
                        refine z_goto (pc := 108) (tgt := 85) dX4_sheet_108 (by decide) ?_
                        refine z_lv (lv2 := [(0, .ref m), (1, .int (iI s)), (2, .int (iI b)), (3, .int (iI n)), (4, .int (iI (k + 1)))]) [1, 2, 3, 4, 0] rfl ?_
                        refine z_ws (ws2 := [(m, .inr (4, [.ref mR, .ref mF, .ref mT, .ref mB, .ref mTp, .int (iI tn), .int (iI so), .int (iI be), .int (iI te), .long wd, .int (iI va), .int gd, .ref mBo, .ref mSo, .ref mSh, .ref mLe, .ref mIm, .ref mBf, .int ik])), (mF, .inl (cI, 7, .inl (ar fd))), (mBo, .inl (cI, 4, .inl (ar (up1 bi s b)))), (mSo, .inl (cI, 4, .inl (ar (up1 si s 0)))), (mSh, .inl (cJ, 160, .inr (.inl (shA (zerS sv s (k + 1))))))]) (by rw [← zerS_s _ _ _ hk.1]) ?_
                        exact ih85 (k + 1) (by omega) (by omega)
                  refine z_ws (ws2 := [(m, .inr (4, [.ref mR, .ref mF, .ref mT, .ref mB, .ref mTp, .int (iI tn), .int (iI so), .int (iI be), .int (iI te), .long wd, .int (iI va), .int gd, .ref mBo, .ref mSo, .ref mSh, .ref mLe, .ref mIm, .ref mBf, .int ik])), (mF, .inl (cI, 7, .inl (ar fd))), (mBo, .inl (cI, 4, .inl (ar (up1 bi s b)))), (mSo, .inl (cI, 4, .inl (ar (up1 si s 0)))), (mSh, .inl (cJ, 160, .inr (.inl (shA (zerS sv s 0)))))]) (by rw [zerS_0]) ?_
                  refine z_lv (lv2 := [(0, .ref m), (1, .int (iI s)), (2, .int (iI b)), (3, .int (iI n)), (4, .int (iI 0))]) [1, 2, 3, 4, 0] rfl ?_
                  exact LP85 _ 0 (by omega) (Nat.lt_succ_self _)
              · skip
                refine z_aload_n (pc := 53) dX4_sheet_53 0 rfl ?_
                refine z_ldc (pc := 54) (n := -1000000001) kC_X4_44 dX4_sheet_54 (by decide) ?_
                refine z_callV (pc := 56) (st := []) (st2 := [.int (iI (-1000000001))]) (ws2 := [(m, .inr (4, [.ref mR, .ref mF, .ref mT, .ref mB, .ref mTp, .int (iI tn), .int (iI so), .int (iI be), .int (iI te), .long wd, .int (iI va), .int gd, .ref mBo, .ref mSo, .ref mSh, .ref mLe, .ref mIm, .ref mBf, .int ik])), (mF, .inl (cI, 7, .inl (ar (fnd fd 0)))), (mBo, .inl (cI, 4, .inl (ar bi))), (mSo, .inl (cI, 4, .inl (ar si))), (mSh, .inl (cJ, 160, .inr (.inl (shA sv))))]) (q0 := 0) (c_X4_finds l D cI cJ cB cS xa m mR mF mT mB mTp mBo mSo mSh mLe mIm mBf tn so be te va wd gd ik fd (-1000000001) 0 (by omega) (by omega)) mV_X4_finds kM_X4_53 dX4_sheet_56 rfl rfl [0, 1] rfl rfl rfl rfl rfl rfl rfl rfl ⟨Nat.le_of_ble_eq_true rfl, Nat.le_of_ble_eq_true rfl, Nat.le_of_ble_eq_true rfl⟩ ?_
                refine z_ws (ws2 := [(m, .inr (4, [.ref mR, .ref mF, .ref mT, .ref mB, .ref mTp, .int (iI tn), .int (iI so), .int (iI be), .int (iI te), .long wd, .int (iI va), .int gd, .ref mBo, .ref mSo, .ref mSh, .ref mLe, .ref mIm, .ref mBf, .int ik])), (mF, .inl (cI, 7, .inl (ar (fnd fd 0)))), (mBo, .inl (cI, 4, .inl (ar (up1 bi s (bi s))))), (mSo, .inl (cI, 4, .inl (ar (up1 si s (si s))))), (mSh, .inl (cJ, 160, .inr (.inl (shA (setS sv s (sv s))))))]) (by simp only [setS_self, up1_self]) ?_
                have e9 : opSheet (bi s) (si s) (sv s) fd b n = ((iI (-1000000001)), bi s, si s, sv s, fnd fd 0) := by
                  unfold opSheet; try unfold bI
                  (repeat' split) <;> first | (exfalso; omega) | contradiction | rfl
                exact z_iret (pc := 59) dX4_sheet_59 (by rw [e9]) (by rw [e9])
            · skip
              refine z_aload_n (pc := 40) dX4_sheet_40 0 rfl ?_
              refine z_ldc (pc := 41) (n := -1000000007) kC_X4_250 dX4_sheet_41 (by decide) ?_
              refine z_callV (pc := 43) (st := []) (st2 := [.int (iI (-1000000007))]) (ws2 := [(m, .inr (4, [.ref mR, .ref mF, .ref mT, .ref mB, .ref mTp, .int (iI tn), .int (iI so), .int (iI be), .int (iI te), .long wd, .int (iI va), .int gd, .ref mBo, .ref mSo, .ref mSh, .ref mLe, .ref mIm, .ref mBf, .int ik])), (mF, .inl (cI, 7, .inl (ar (fnd fd 6)))), (mBo, .inl (cI, 4, .inl (ar bi))), (mSo, .inl (cI, 4, .inl (ar si))), (mSh, .inl (cJ, 160, .inr (.inl (shA sv))))]) (q0 := 0) (c_X4_finds l D cI cJ cB cS xa m mR mF mT mB mTp mBo mSo mSh mLe mIm mBf tn so be te va wd gd ik fd (-1000000007) 6 (by omega) (by omega)) mV_X4_finds kM_X4_53 dX4_sheet_43 rfl rfl [0, 1] rfl rfl rfl rfl rfl rfl rfl rfl ⟨Nat.le_of_ble_eq_true rfl, Nat.le_of_ble_eq_true rfl, Nat.le_of_ble_eq_true rfl⟩ ?_
              refine z_ws (ws2 := [(m, .inr (4, [.ref mR, .ref mF, .ref mT, .ref mB, .ref mTp, .int (iI tn), .int (iI so), .int (iI be), .int (iI te), .long wd, .int (iI va), .int gd, .ref mBo, .ref mSo, .ref mSh, .ref mLe, .ref mIm, .ref mBf, .int ik])), (mF, .inl (cI, 7, .inl (ar (fnd fd 6)))), (mBo, .inl (cI, 4, .inl (ar (up1 bi s (bi s))))), (mSo, .inl (cI, 4, .inl (ar (up1 si s (si s))))), (mSh, .inl (cJ, 160, .inr (.inl (shA (setS sv s (sv s))))))]) (by simp only [setS_self, up1_self]) ?_
              have e9 : opSheet (bi s) (si s) (sv s) fd b n = ((iI (-1000000007)), bi s, si s, sv s, fnd fd 6) := by
                unfold opSheet; try unfold bI
                (repeat' split) <;> first | (exfalso; omega) | contradiction | rfl
              exact z_iret (pc := 46) dX4_sheet_46 (by rw [e9]) (by rw [e9])
          · skip
            refine z_aload_n (pc := 29) dX4_sheet_29 0 rfl ?_
            refine z_ldc (pc := 30) (n := -1000000001) kC_X4_44 dX4_sheet_30 (by decide) ?_
            refine z_callV (pc := 32) (st := []) (st2 := [.int (iI (-1000000001))]) (ws2 := [(m, .inr (4, [.ref mR, .ref mF, .ref mT, .ref mB, .ref mTp, .int (iI tn), .int (iI so), .int (iI be), .int (iI te), .long wd, .int (iI va), .int gd, .ref mBo, .ref mSo, .ref mSh, .ref mLe, .ref mIm, .ref mBf, .int ik])), (mF, .inl (cI, 7, .inl (ar (fnd fd 0)))), (mBo, .inl (cI, 4, .inl (ar bi))), (mSo, .inl (cI, 4, .inl (ar si))), (mSh, .inl (cJ, 160, .inr (.inl (shA sv))))]) (q0 := 0) (c_X4_finds l D cI cJ cB cS xa m mR mF mT mB mTp mBo mSo mSh mLe mIm mBf tn so be te va wd gd ik fd (-1000000001) 0 (by omega) (by omega)) mV_X4_finds kM_X4_53 dX4_sheet_32 rfl rfl [0, 1] rfl rfl rfl rfl rfl rfl rfl rfl ⟨Nat.le_of_ble_eq_true rfl, Nat.le_of_ble_eq_true rfl, Nat.le_of_ble_eq_true rfl⟩ ?_
            refine z_ws (ws2 := [(m, .inr (4, [.ref mR, .ref mF, .ref mT, .ref mB, .ref mTp, .int (iI tn), .int (iI so), .int (iI be), .int (iI te), .long wd, .int (iI va), .int gd, .ref mBo, .ref mSo, .ref mSh, .ref mLe, .ref mIm, .ref mBf, .int ik])), (mF, .inl (cI, 7, .inl (ar (fnd fd 0)))), (mBo, .inl (cI, 4, .inl (ar (up1 bi s (bi s))))), (mSo, .inl (cI, 4, .inl (ar (up1 si s (si s))))), (mSh, .inl (cJ, 160, .inr (.inl (shA (setS sv s (sv s))))))]) (by simp only [setS_self, up1_self]) ?_
            have e9 : opSheet (bi s) (si s) (sv s) fd b n = ((iI (-1000000001)), bi s, si s, sv s, fnd fd 0) := by
              unfold opSheet; try unfold bI
              (repeat' split) <;> first | (exfalso; omega) | contradiction | rfl
            exact z_iret (pc := 35) dX4_sheet_35 (by rw [e9]) (by rw [e9])
set_option maxHeartbeats 8000000 in
set_option maxRecDepth 100000 in
theorem c_X4_sheet_o (l : Launch) (D : va_G) (cI cJ cB cS : ClassId) (xa : XA) (m mR mF mT mB mTp mBo mSo mSh mLe mIm mBf : Nat) (tn so be te va : Int) (wd : Int64) (gd ik : Int32) (fd : FF) (s b n : Int) (hs : ¬ (0 ≤ s ∧ s ≤ 3)) (rs : inr s) (rb : inr b) (rn : inr n) : Ct l D cI cJ cB cS xa yX4_sheet cX4_sheet 5 (some .int) 2 42 [.ref m, .int (iI s), .int (iI b), .int (iI n)] [(m, .inr (4, [.ref mR, .ref mF, .ref mT, .ref mB, .ref mTp, .int (iI tn), .int (iI so), .int (iI be), .int (iI te), .long wd, .int (iI va), .int gd, .ref mBo, .ref mSo, .ref mSh, .ref mLe, .ref mIm, .ref mBf, .int ik])), (mF, .inl (cI, 7, .inl (ar fd)))] (some (.int (iI (-1000000001)))) [(m, .inr (4, [.ref mR, .ref mF, .ref mT, .ref mB, .ref mTp, .int (iI tn), .int (iI so), .int (iI be), .int (iI te), .long wd, .int (iI va), .int gd, .ref mBo, .ref mSo, .ref mSh, .ref mLe, .ref mIm, .ref mBf, .int ik])), (mF, .inl (cI, 7, .inl (ar (fnd fd 0))))] := by
  refine CtE.of (own := RX4) (lv := [(0, .ref m), (1, .int (iI s)), (2, .int (iI b)), (3, .int (iI n))]) (by decide) rfl rfl (Nat.le_of_ble_eq_true rfl) ?_
  intro xp xe xs xm xb xt xc
  refine z_iload_n (pc := 0) dX4_sheet_0 1 rfl ?_
  refine z_callS (pc := 1) (st := []) (st2 := [.int (bI (0 ≤ s ∧ s ≤ 3))]) (ws2 := [(m, .inr (4, [.ref mR, .ref mF, .ref mT, .ref mB, .ref mTp, .int (iI tn), .int (iI so), .int (iI be), .int (iI te), .long wd, .int (iI va), .int gd, .ref mBo, .ref mSo, .ref mSh, .ref mLe, .ref mIm, .ref mBf, .int ik])), (mF, .inl (cI, 7, .inl (ar fd)))]) (c_X4_isSheet l D cI cJ cB cS xa s (by omega)) mS_X4_isSheet kM_X4_247 dX4_sheet_1 [] rfl rfl rfl rfl rfl rfl rfl rfl ⟨Nat.le_of_ble_eq_true rfl, Nat.le_of_ble_eq_true rfl, Nat.le_of_ble_eq_true rfl⟩ ?_
  refine z_ifb_eq (pc := 4) (tgt := 29) dX4_sheet_4 (by decide) (fun h4 => ?_) (fun h4 => ?_)
  · skip
    refine z_aload_n (pc := 29) dX4_sheet_29 0 rfl ?_
    refine z_ldc (pc := 30) (n := -1000000001) kC_X4_44 dX4_sheet_30 (by decide) ?_
    refine z_callV (pc := 32) (st := []) (st2 := [.int (iI (-1000000001))]) (ws2 := [(m, .inr (4, [.ref mR, .ref mF, .ref mT, .ref mB, .ref mTp, .int (iI tn), .int (iI so), .int (iI be), .int (iI te), .long wd, .int (iI va), .int gd, .ref mBo, .ref mSo, .ref mSh, .ref mLe, .ref mIm, .ref mBf, .int ik])), (mF, .inl (cI, 7, .inl (ar (fnd fd 0))))]) (q0 := 0) (c_X4_finds l D cI cJ cB cS xa m mR mF mT mB mTp mBo mSo mSh mLe mIm mBf tn so be te va wd gd ik fd (-1000000001) 0 (by omega) (by omega)) mV_X4_finds kM_X4_53 dX4_sheet_32 rfl rfl [0, 1] rfl rfl rfl rfl rfl rfl rfl rfl ⟨Nat.le_of_ble_eq_true rfl, Nat.le_of_ble_eq_true rfl, Nat.le_of_ble_eq_true rfl⟩ ?_
    exact z_iret (pc := 35) dX4_sheet_35 rfl rfl
  · skip
    exfalso; omega
set_option maxHeartbeats 8000000 in
set_option maxRecDepth 100000 in
theorem c_X4_write (l : Launch) (D : va_G) (cI cJ cB cS : ClassId) (xa : XA) (m mR mF mT mB mTp mBo mSo mSh mLe mIm mBf : Nat) (tn so be te va : Int) (wd : Int64) (gd ik : Int32) (bi si : FF) (sv : Int → LL) (fd : FF) (s i : Int) (v : Int64) (hs : 0 ≤ s ∧ s ≤ 3) (hbs : 0 ≤ bi s ∧ bi s ≤ 64) (hss : 0 ≤ si s ∧ si s ≤ 40) (ri : inr i) : Ct l D cI cJ cB cS xa yX4_write cX4_write 7 (some .long) 2 42 [.ref m, .int (iI s), .int (iI i), .long v] [(m, .inr (4, [.ref mR, .ref mF, .ref mT, .ref mB, .ref mTp, .int (iI tn), .int (iI so), .int (iI be), .int (iI te), .long wd, .int (iI va), .int gd, .ref mBo, .ref mSo, .ref mSh, .ref mLe, .ref mIm, .ref mBf, .int ik])), (mF, .inl (cI, 7, .inl (ar fd))), (mBo, .inl (cI, 4, .inl (ar bi))), (mSo, .inl (cI, 4, .inl (ar si))), (mSh, .inl (cJ, 160, .inr (.inl (shA sv))))] (some (.long ((opWrite (bi s) (si s) (sv s) fd i v).1))) [(m, .inr (4, [.ref mR, .ref mF, .ref mT, .ref mB, .ref mTp, .int (iI tn), .int (iI so), .int (iI be), .int (iI te), .long wd, .int (iI va), .int gd, .ref mBo, .ref mSo, .ref mSh, .ref mLe, .ref mIm, .ref mBf, .int ik])), (mF, .inl (cI, 7, .inl (ar ((opWrite (bi s) (si s) (sv s) fd i v).2.2)))), (mBo, .inl (cI, 4, .inl (ar bi))), (mSo, .inl (cI, 4, .inl (ar si))), (mSh, .inl (cJ, 160, .inr (.inl (shA (setS sv s (opWrite (bi s) (si s) (sv s) fd i v).2.1)))))] := by
  refine CtE.of (own := RX4) (lv := [(0, .ref m), (1, .int (iI s)), (2, .int (iI i)), (3, .long v)]) (by decide) rfl rfl (Nat.le_of_ble_eq_true rfl) ?_
  intro xp xe xs xm xb xt xc
  refine z_iload_n (pc := 0) dX4_write_0 1 rfl ?_
  refine z_callS (pc := 1) (st := []) (st2 := [.int (bI (0 ≤ s ∧ s ≤ 3))]) (ws2 := [(m, .inr (4, [.ref mR, .ref mF, .ref mT, .ref mB, .ref mTp, .int (iI tn), .int (iI so), .int (iI be), .int (iI te), .long wd, .int (iI va), .int gd, .ref mBo, .ref mSo, .ref mSh, .ref mLe, .ref mIm, .ref mBf, .int ik])), (mF, .inl (cI, 7, .inl (ar fd))), (mBo, .inl (cI, 4, .inl (ar bi))), (mSo, .inl (cI, 4, .inl (ar si))), (mSh, .inl (cJ, 160, .inr (.inl (shA sv))))]) (c_X4_isSheet l D cI cJ cB cS xa s (by omega)) mS_X4_isSheet kM_X4_247 dX4_write_1 [] rfl rfl rfl rfl rfl rfl rfl rfl ⟨Nat.le_of_ble_eq_true rfl, Nat.le_of_ble_eq_true rfl, Nat.le_of_ble_eq_true rfl⟩ ?_
  refine z_ifb_ne (pc := 4) (tgt := 15) dX4_write_4 (by decide) (fun h4 => ?_) (fun h4 => ?_)
  · skip
    refine z_aload_n (pc := 15) dX4_write_15 0 rfl ?_
    refine z_get (pc := 16) (q0 := 0) (v := .ref mBo) fL_X4_25 dX4_write_16 rfl rfl ?_
    refine z_iload_n (pc := 19) dX4_write_19 1 rfl ?_
    refine z_iald (pc := 20) (q0 := 2) (v := (iI (bi s))) dX4_write_20 rfl (by omega) (by decide) (ar_at (by omega)) ?_
    refine z_if_ne (pc := 21) (tgt := 32) dX4_write_21 (by decide) (by omega) (fun h21 => ?_) (fun h21 => ?_)
    · skip
      refine z_iload_n (pc := 32) dX4_write_32 2 rfl ?_
      refine z_iconst (pc := 33) dX4_write_33 ?_
      refine z_aload_n (pc := 34) dX4_write_34 0 rfl ?_
      refine z_get (pc := 35) (q0 := 0) (v := .ref mSo) fL_X4_28 dX4_write_35 rfl rfl ?_
      refine z_iload_n (pc := 38) dX4_write_38 1 rfl ?_
      refine z_iald (pc := 39) (q0 := 3) (v := (iI (si s))) dX4_write_39 rfl (by omega) (by decide) (ar_at (by omega)) ?_
      refine z_iconst (pc := 40) dX4_write_40 ?_
      refine z_isub (pc := 41) dX4_write_41 ?_
      refine z_callS (pc := 42) (st := []) (st2 := [.int (bI (0 ≤ i ∧ i ≤ ((si s) - 1)))]) (ws2 := [(m, .inr (4, [.ref mR, .ref mF, .ref mT, .ref mB, .ref mTp, .int (iI tn), .int (iI so), .int (iI be), .int (iI te), .long wd, .int (iI va), .int gd, .ref mBo, .ref mSo, .ref mSh, .ref mLe, .ref mIm, .ref mBf, .int ik])), (mF, .inl (cI, 7, .inl (ar fd))), (mBo, .inl (cI, 4, .inl (ar bi))), (mSo, .inl (cI, 4, .inl (ar si))), (mSh, .inl (cJ, 160, .inr (.inl (shA sv))))]) (c_X4_in l D cI cJ cB cS xa i 0 ((si s) - 1) (by omega) (by omega) (by omega)) mS_X4_in kM_X4_45 dX4_write_42 [] rfl rfl rfl rfl rfl rfl rfl rfl ⟨Nat.le_of_ble_eq_true rfl, Nat.le_of_ble_eq_true rfl, Nat.le_of_ble_eq_true rfl⟩ ?_
      refine z_ifb_ne (pc := 45) (tgt := 56) dX4_write_45 (by decide) (fun h45 => ?_) (fun h45 => ?_)
      · skip
        refine z_aload_n (pc := 56) dX4_write_56 0 rfl ?_
        refine z_get (pc := 57) (q0 := 0) (v := .ref mSh) fL_X4_31 dX4_write_57 rfl rfl ?_
        refine z_bipush (pc := 60) dX4_write_60 (by decide) ?_
        refine z_iload_n (pc := 62) dX4_write_62 1 rfl ?_
        refine z_imul (pc := 63) dX4_write_63 ?_
        refine z_iload_n (pc := 64) dX4_write_64 2 rfl ?_
        refine z_iadd (pc := 65) dX4_write_65 ?_
        refine z_lald (pc := 66) (q0 := 4) (v := (sv s i)) dX4_write_66 rfl (by omega) (by decide) (shA_at (by omega) (by omega) (by omega) (by omega)) ?_
        refine z_lstore (pc := 67) (lv2 := [(5, .long (sv s i)), (0, .ref m), (1, .int (iI s)), (2, .int (iI i)), (3, .long v)]) dX4_write_67 (by decide) rfl ?_
        refine z_aload_n (pc := 69) dX4_write_69 1 rfl ?_
        refine z_get (pc := 70) (q0 := 0) (v := .ref mSh) fL_X4_31 dX4_write_70 rfl rfl ?_
        refine z_bipush (pc := 73) dX4_write_73 (by decide) ?_
        refine z_iload_n (pc := 75) dX4_write_75 2 rfl ?_
        refine z_imul (pc := 76) dX4_write_76 ?_
        refine z_iload_n (pc := 77) dX4_write_77 3 rfl ?_
        refine z_iadd (pc := 78) dX4_write_78 ?_
        refine z_aload_n (pc := 79) dX4_write_79 1 rfl ?_
        refine z_get (pc := 80) (q0 := 0) (v := .ref mBo) fL_X4_25 dX4_write_80 rfl rfl ?_
        refine z_iload_n (pc := 83) dX4_write_83 2 rfl ?_
        refine z_iald (pc := 84) (q0 := 2) (v := (iI (bi s))) dX4_write_84 rfl (by omega) (by decide) (ar_at (by omega)) ?_
        refine z_lload_n (pc := 85) dX4_write_85 4 rfl ?_
        refine z_callS (pc := 86) (st := [.int (iI ((40 * s) + i)), .ref mSh]) (st2 := [.long (nrw (bi s) v), .int (iI ((40 * s) + i)), .ref mSh]) (ws2 := [(m, .inr (4, [.ref mR, .ref mF, .ref mT, .ref mB, .ref mTp, .int (iI tn), .int (iI so), .int (iI be), .int (iI te), .long wd, .int (iI va), .int gd, .ref mBo, .ref mSo, .ref mSh, .ref mLe, .ref mIm, .ref mBf, .int ik])), (mF, .inl (cI, 7, .inl (ar fd))), (mBo, .inl (cI, 4, .inl (ar bi))), (mSo, .inl (cI, 4, .inl (ar si))), (mSh, .inl (cJ, 160, .inr (.inl (shA sv))))]) (c_X4_narrow l D cI cJ cB cS xa (bi s) v (by omega)) mS_X4_narrow kM_X4_252 dX4_write_86 [] rfl rfl rfl rfl rfl rfl rfl rfl ⟨Nat.le_of_ble_eq_true rfl, Nat.le_of_ble_eq_true rfl, Nat.le_of_ble_eq_true rfl⟩ ?_
        refine z_last (pc := 89) (q0 := 4) (ws2 := [(m, .inr (4, [.ref mR, .ref mF, .ref mT, .ref mB, .ref mTp, .int (iI tn), .int (iI so), .int (iI be), .int (iI te), .long wd, .int (iI va), .int gd, .ref mBo, .ref mSo, .ref mSh, .ref mLe, .ref mIm, .ref mBf, .int ik])), (mF, .inl (cI, 7, .inl (ar fd))), (mBo, .inl (cI, 4, .inl (ar bi))), (mSo, .inl (cI, 4, .inl (ar si))), (mSh, .inl (cJ, 160, .inr (.inl (shA (upS sv s i (nrw (bi s) v))))))]) dX4_write_89 rfl (by omega) (by decide) (by rw [shA_up (s := s) (i := i) (by omega) (by omega) (by omega) (by omega)]; rfl) ?_
        refine z_lload (pc := 90) dX4_write_90 0 rfl ?_
        refine z_ws (ws2 := [(m, .inr (4, [.ref mR, .ref mF, .ref mT, .ref mB, .ref mTp, .int (iI tn), .int (iI so), .int (iI be), .int (iI te), .long wd, .int (iI va), .int gd, .ref mBo, .ref mSo, .ref mSh, .ref mLe, .ref mIm, .ref mBf, .int ik])), (mF, .inl (cI, 7, .inl (ar fd))), (mBo, .inl (cI, 4, .inl (ar bi))), (mSo, .inl (cI, 4, .inl (ar si))), (mSh, .inl (cJ, 160, .inr (.inl (shA (setS sv s (upL (sv s) i (nrw (bi s) v)))))))]) (by simp only [setS_up]) ?_
        have e9 : opWrite (bi s) (si s) (sv s) fd i v = (sv s i, upL (sv s) i (nrw (bi s) v), fd) := by
          unfold opWrite; try unfold bI
          (repeat' split) <;> first | (exfalso; omega) | contradiction | rfl
        exact z_lret (pc := 92) dX4_write_92 (by rw [e9]) (by rw [e9])
      · skip
        refine z_aload_n (pc := 48) dX4_write_48 0 rfl ?_
        refine z_ldc (pc := 49) (n := -1000000001) kC_X4_44 dX4_write_49 (by decide) ?_
        refine z_callV (pc := 51) (st := []) (st2 := [.int (iI (-1000000001))]) (ws2 := [(m, .inr (4, [.ref mR, .ref mF, .ref mT, .ref mB, .ref mTp, .int (iI tn), .int (iI so), .int (iI be), .int (iI te), .long wd, .int (iI va), .int gd, .ref mBo, .ref mSo, .ref mSh, .ref mLe, .ref mIm, .ref mBf, .int ik])), (mF, .inl (cI, 7, .inl (ar (fnd fd 0)))), (mBo, .inl (cI, 4, .inl (ar bi))), (mSo, .inl (cI, 4, .inl (ar si))), (mSh, .inl (cJ, 160, .inr (.inl (shA sv))))]) (q0 := 0) (c_X4_finds l D cI cJ cB cS xa m mR mF mT mB mTp mBo mSo mSh mLe mIm mBf tn so be te va wd gd ik fd (-1000000001) 0 (by omega) (by omega)) mV_X4_finds kM_X4_53 dX4_write_51 rfl rfl [0, 1] rfl rfl rfl rfl rfl rfl rfl rfl ⟨Nat.le_of_ble_eq_true rfl, Nat.le_of_ble_eq_true rfl, Nat.le_of_ble_eq_true rfl⟩ ?_
        refine z_i2l (pc := 54) dX4_write_54 ?_
        refine z_ws (ws2 := [(m, .inr (4, [.ref mR, .ref mF, .ref mT, .ref mB, .ref mTp, .int (iI tn), .int (iI so), .int (iI be), .int (iI te), .long wd, .int (iI va), .int gd, .ref mBo, .ref mSo, .ref mSh, .ref mLe, .ref mIm, .ref mBf, .int ik])), (mF, .inl (cI, 7, .inl (ar (fnd fd 0)))), (mBo, .inl (cI, 4, .inl (ar bi))), (mSo, .inl (cI, 4, .inl (ar si))), (mSh, .inl (cJ, 160, .inr (.inl (shA (setS sv s (sv s))))))]) (by simp only [setS_self]) ?_
        have e9 : opWrite (bi s) (si s) (sv s) fd i v = (((iI (-1000000001))).toInt64, sv s, fnd fd 0) := by
          unfold opWrite; try unfold bI
          (repeat' split) <;> first | (exfalso; omega) | contradiction | rfl
        exact z_lret (pc := 55) dX4_write_55 (by rw [e9]) (by rw [e9])
    · skip
      refine z_aload_n (pc := 24) dX4_write_24 0 rfl ?_
      refine z_ldc (pc := 25) (n := -1000000006) kC_X4_251 dX4_write_25 (by decide) ?_
      refine z_callV (pc := 27) (st := []) (st2 := [.int (iI (-1000000006))]) (ws2 := [(m, .inr (4, [.ref mR, .ref mF, .ref mT, .ref mB, .ref mTp, .int (iI tn), .int (iI so), .int (iI be), .int (iI te), .long wd, .int (iI va), .int gd, .ref mBo, .ref mSo, .ref mSh, .ref mLe, .ref mIm, .ref mBf, .int ik])), (mF, .inl (cI, 7, .inl (ar (fnd fd 5)))), (mBo, .inl (cI, 4, .inl (ar bi))), (mSo, .inl (cI, 4, .inl (ar si))), (mSh, .inl (cJ, 160, .inr (.inl (shA sv))))]) (q0 := 0) (c_X4_finds l D cI cJ cB cS xa m mR mF mT mB mTp mBo mSo mSh mLe mIm mBf tn so be te va wd gd ik fd (-1000000006) 5 (by omega) (by omega)) mV_X4_finds kM_X4_53 dX4_write_27 rfl rfl [0, 1] rfl rfl rfl rfl rfl rfl rfl rfl ⟨Nat.le_of_ble_eq_true rfl, Nat.le_of_ble_eq_true rfl, Nat.le_of_ble_eq_true rfl⟩ ?_
      refine z_i2l (pc := 30) dX4_write_30 ?_
      refine z_ws (ws2 := [(m, .inr (4, [.ref mR, .ref mF, .ref mT, .ref mB, .ref mTp, .int (iI tn), .int (iI so), .int (iI be), .int (iI te), .long wd, .int (iI va), .int gd, .ref mBo, .ref mSo, .ref mSh, .ref mLe, .ref mIm, .ref mBf, .int ik])), (mF, .inl (cI, 7, .inl (ar (fnd fd 5)))), (mBo, .inl (cI, 4, .inl (ar bi))), (mSo, .inl (cI, 4, .inl (ar si))), (mSh, .inl (cJ, 160, .inr (.inl (shA (setS sv s (sv s))))))]) (by simp only [setS_self]) ?_
      have e9 : opWrite (bi s) (si s) (sv s) fd i v = (((iI (-1000000006))).toInt64, sv s, fnd fd 5) := by
        unfold opWrite; try unfold bI
        (repeat' split) <;> first | (exfalso; omega) | contradiction | rfl
      exact z_lret (pc := 31) dX4_write_31 (by rw [e9]) (by rw [e9])
  · skip
    exfalso; omega
set_option maxHeartbeats 8000000 in
set_option maxRecDepth 100000 in
theorem c_X4_write_o (l : Launch) (D : va_G) (cI cJ cB cS : ClassId) (xa : XA) (m mR mF mT mB mTp mBo mSo mSh mLe mIm mBf : Nat) (tn so be te va : Int) (wd : Int64) (gd ik : Int32) (fd : FF) (s i : Int) (v : Int64) (hs : ¬ (0 ≤ s ∧ s ≤ 3)) (rs : inr s) (ri : inr i) : Ct l D cI cJ cB cS xa yX4_write cX4_write 7 (some .long) 2 42 [.ref m, .int (iI s), .int (iI i), .long v] [(m, .inr (4, [.ref mR, .ref mF, .ref mT, .ref mB, .ref mTp, .int (iI tn), .int (iI so), .int (iI be), .int (iI te), .long wd, .int (iI va), .int gd, .ref mBo, .ref mSo, .ref mSh, .ref mLe, .ref mIm, .ref mBf, .int ik])), (mF, .inl (cI, 7, .inl (ar fd)))] (some (.long ((fin 0).toInt64))) [(m, .inr (4, [.ref mR, .ref mF, .ref mT, .ref mB, .ref mTp, .int (iI tn), .int (iI so), .int (iI be), .int (iI te), .long wd, .int (iI va), .int gd, .ref mBo, .ref mSo, .ref mSh, .ref mLe, .ref mIm, .ref mBf, .int ik])), (mF, .inl (cI, 7, .inl (ar (fnd fd 0))))] := by
  refine CtE.of (own := RX4) (lv := [(0, .ref m), (1, .int (iI s)), (2, .int (iI i)), (3, .long v)]) (by decide) rfl rfl (Nat.le_of_ble_eq_true rfl) ?_
  intro xp xe xs xm xb xt xc
  refine z_iload_n (pc := 0) dX4_write_0 1 rfl ?_
  refine z_callS (pc := 1) (st := []) (st2 := [.int (bI (0 ≤ s ∧ s ≤ 3))]) (ws2 := [(m, .inr (4, [.ref mR, .ref mF, .ref mT, .ref mB, .ref mTp, .int (iI tn), .int (iI so), .int (iI be), .int (iI te), .long wd, .int (iI va), .int gd, .ref mBo, .ref mSo, .ref mSh, .ref mLe, .ref mIm, .ref mBf, .int ik])), (mF, .inl (cI, 7, .inl (ar fd)))]) (c_X4_isSheet l D cI cJ cB cS xa s (by omega)) mS_X4_isSheet kM_X4_247 dX4_write_1 [] rfl rfl rfl rfl rfl rfl rfl rfl ⟨Nat.le_of_ble_eq_true rfl, Nat.le_of_ble_eq_true rfl, Nat.le_of_ble_eq_true rfl⟩ ?_
  refine z_ifb_ne (pc := 4) (tgt := 15) dX4_write_4 (by decide) (fun h4 => ?_) (fun h4 => ?_)
  · skip
    exfalso; omega
  · skip
    refine z_aload_n (pc := 7) dX4_write_7 0 rfl ?_
    refine z_ldc (pc := 8) (n := -1000000001) kC_X4_44 dX4_write_8 (by decide) ?_
    refine z_callV (pc := 10) (st := []) (st2 := [.int (iI (-1000000001))]) (ws2 := [(m, .inr (4, [.ref mR, .ref mF, .ref mT, .ref mB, .ref mTp, .int (iI tn), .int (iI so), .int (iI be), .int (iI te), .long wd, .int (iI va), .int gd, .ref mBo, .ref mSo, .ref mSh, .ref mLe, .ref mIm, .ref mBf, .int ik])), (mF, .inl (cI, 7, .inl (ar (fnd fd 0))))]) (q0 := 0) (c_X4_finds l D cI cJ cB cS xa m mR mF mT mB mTp mBo mSo mSh mLe mIm mBf tn so be te va wd gd ik fd (-1000000001) 0 (by omega) (by omega)) mV_X4_finds kM_X4_53 dX4_write_10 rfl rfl [0, 1] rfl rfl rfl rfl rfl rfl rfl rfl ⟨Nat.le_of_ble_eq_true rfl, Nat.le_of_ble_eq_true rfl, Nat.le_of_ble_eq_true rfl⟩ ?_
    refine z_i2l (pc := 13) dX4_write_13 ?_
    exact z_lret (pc := 14) dX4_write_14 (congrArg (fun z => some (Value.long z)) (show (fin 0).toInt64 = ((iI (-1000000001))).toInt64 from by rfl)) rfl
set_option maxHeartbeats 8000000 in
set_option maxRecDepth 100000 in
theorem c_X4_copy (l : Launch) (D : va_G) (cI cJ cB cS : ClassId) (xa : XA) (m mR mF mT mB mTp mBo mSo mSh mLe mIm mBf : Nat) (tn so be te va : Int) (wd : Int64) (gd ik : Int32) (bi si : FF) (sv : Int → LL) (fd : FF) (fl : Nat → Int64) (s f t o n : Int) (hs : 0 ≤ s ∧ s ≤ 3) (ht : 0 ≤ t ∧ t ≤ 3) (hbs : 0 ≤ bi s ∧ bi s ≤ 64) (hss : 0 ≤ si s ∧ si s ≤ 40) (hbt : 0 ≤ bi t ∧ bi t ≤ 64) (hst : 0 ≤ si t ∧ si t ≤ 40) (rf : inr f) (ro : inr o) (rn : inr n) : CtE (S := (Nat → Int64)) l D cI cJ cB cS xa yX4_copy cX4_copy 7 (some .int) 2 42 [.ref m, .int (iI s), .int (iI f), .int (iI t), .int (iI o), .int (iI n)] [(m, .inr (4, [.ref mR, .ref mF, .ref mT, .ref mB, .ref mTp, .int (iI tn), .int (iI so), .int (iI be), .int (iI te), .long wd, .int (iI va), .int gd, .ref mBo, .ref mSo, .ref mSh, .ref mLe, .ref mIm, .ref mBf, .int ik])), (mF, .inl (cI, 7, .inl (ar fd))), (mBo, .inl (cI, 4, .inl (ar bi))), (mSo, .inl (cI, 4, .inl (ar si))), (mSh, .inl (cJ, 160, .inr (.inl (shA sv)))), (mLe, .inl (cJ, 40, .inr (.inl fl)))] (fun fl2 : (Nat → Int64) => True) (fun fl2 : (Nat → Int64) => (some (.int ((opCopy (bi s) (si s) (sv s) (bi t) (si t) (sv t) fd f o n).1)))) (fun fl2 : (Nat → Int64) => [(m, .inr (4, [.ref mR, .ref mF, .ref mT, .ref mB, .ref mTp, .int (iI tn), .int (iI so), .int (iI be), .int (iI te), .long wd, .int (iI va), .int gd, .ref mBo, .ref mSo, .ref mSh, .ref mLe, .ref mIm, .ref mBf, .int ik])), (mF, .inl (cI, 7, .inl (ar ((opCopy (bi s) (si s) (sv s) (bi t) (si t) (sv t) fd f o n).2.2)))), (mBo, .inl (cI, 4, .inl (ar bi))), (mSo, .inl (cI, 4, .inl (ar si))), (mSh, .inl (cJ, 160, .inr (.inl (shA (setS sv t (opCopy (bi s) (si s) (sv s) (bi t) (si t) (sv t) fd f o n).2.1))))), (mLe, .inl (cJ, 40, .inr (.inl fl2)))]) := by
  refine CtE.of (own := RX4) (lv := [(0, .ref m), (1, .int (iI s)), (2, .int (iI f)), (3, .int (iI t)), (4, .int (iI o)), (5, .int (iI n))]) (by decide) rfl rfl (Nat.le_of_ble_eq_true rfl) ?_
  intro xp xe xs xm xb xt xc
  refine z_iload_n (pc := 0) dX4_copy_0 1 rfl ?_
  refine z_callS (pc := 1) (st := []) (st2 := [.int (bI (0 ≤ s ∧ s ≤ 3))]) (ws2 := [(m, .inr (4, [.ref mR, .ref mF, .ref mT, .ref mB, .ref mTp, .int (iI tn), .int (iI so), .int (iI be), .int (iI te), .long wd, .int (iI va), .int gd, .ref mBo, .ref mSo, .ref mSh, .ref mLe, .ref mIm, .ref mBf, .int ik])), (mF, .inl (cI, 7, .inl (ar fd))), (mBo, .inl (cI, 4, .inl (ar bi))), (mSo, .inl (cI, 4, .inl (ar si))), (mSh, .inl (cJ, 160, .inr (.inl (shA sv)))), (mLe, .inl (cJ, 40, .inr (.inl fl)))]) (c_X4_isSheet l D cI cJ cB cS xa s (by omega)) mS_X4_isSheet kM_X4_247 dX4_copy_1 [] rfl rfl rfl rfl rfl rfl rfl rfl ⟨Nat.le_of_ble_eq_true rfl, Nat.le_of_ble_eq_true rfl, Nat.le_of_ble_eq_true rfl⟩ ?_
  refine z_ifb_eq (pc := 4) (tgt := 14) dX4_copy_4 (by decide) (fun h4 => ?_) (fun h4 => ?_)
  · skip
    exfalso; omega
  · skip
    refine z_iload_n (pc := 7) dX4_copy_7 3 rfl ?_
    refine z_callS (pc := 8) (st := []) (st2 := [.int (bI (0 ≤ t ∧ t ≤ 3))]) (ws2 := [(m, .inr (4, [.ref mR, .ref mF, .ref mT, .ref mB, .ref mTp, .int (iI tn), .int (iI so), .int (iI be), .int (iI te), .long wd, .int (iI va), .int gd, .ref mBo, .ref mSo, .ref mSh, .ref mLe, .ref mIm, .ref mBf, .int ik])), (mF, .inl (cI, 7, .inl (ar fd))), (mBo, .inl (cI, 4, .inl (ar bi))), (mSo, .inl (cI, 4, .inl (ar si))), (mSh, .inl (cJ, 160, .inr (.inl (shA sv)))), (mLe, .inl (cJ, 40, .inr (.inl fl)))]) (c_X4_isSheet l D cI cJ cB cS xa t (by omega)) mS_X4_isSheet kM_X4_247 dX4_copy_8 [] rfl rfl rfl rfl rfl rfl rfl rfl ⟨Nat.le_of_ble_eq_true rfl, Nat.le_of_ble_eq_true rfl, Nat.le_of_ble_eq_true rfl⟩ ?_
    refine z_ifb_ne (pc := 11) (tgt := 21) dX4_copy_11 (by decide) (fun h11 => ?_) (fun h11 => ?_)
    · skip
      refine z_aload_n (pc := 21) dX4_copy_21 0 rfl ?_
      refine z_get (pc := 22) (q0 := 0) (v := .ref mBo) fL_X4_25 dX4_copy_22 rfl rfl ?_
      refine z_iload_n (pc := 25) dX4_copy_25 1 rfl ?_
      refine z_iald (pc := 26) (q0 := 2) (v := (iI (bi s))) dX4_copy_26 rfl (by omega) (by decide) (ar_at (by omega)) ?_
      refine z_if_eq (pc := 27) (tgt := 39) dX4_copy_27 (by decide) (by omega) (fun h27 => ?_) (fun h27 => ?_)
      · skip
        refine z_aload_n (pc := 39) dX4_copy_39 0 rfl ?_
        refine z_ldc (pc := 40) (n := -1000000006) kC_X4_251 dX4_copy_40 (by decide) ?_
        refine z_callV (pc := 42) (st := []) (st2 := [.int (iI (-1000000006))]) (ws2 := [(m, .inr (4, [.ref mR, .ref mF, .ref mT, .ref mB, .ref mTp, .int (iI tn), .int (iI so), .int (iI be), .int (iI te), .long wd, .int (iI va), .int gd, .ref mBo, .ref mSo, .ref mSh, .ref mLe, .ref mIm, .ref mBf, .int ik])), (mF, .inl (cI, 7, .inl (ar (fnd fd 5)))), (mBo, .inl (cI, 4, .inl (ar bi))), (mSo, .inl (cI, 4, .inl (ar si))), (mSh, .inl (cJ, 160, .inr (.inl (shA sv)))), (mLe, .inl (cJ, 40, .inr (.inl fl)))]) (q0 := 0) (c_X4_finds l D cI cJ cB cS xa m mR mF mT mB mTp mBo mSo mSh mLe mIm mBf tn so be te va wd gd ik fd (-1000000006) 5 (by omega) (by omega)) mV_X4_finds kM_X4_53 dX4_copy_42 rfl rfl [0, 1] rfl rfl rfl rfl rfl rfl rfl rfl ⟨Nat.le_of_ble_eq_true rfl, Nat.le_of_ble_eq_true rfl, Nat.le_of_ble_eq_true rfl⟩ ?_
        refine z_ws (ws2 := [(m, .inr (4, [.ref mR, .ref mF, .ref mT, .ref mB, .ref mTp, .int (iI tn), .int (iI so), .int (iI be), .int (iI te), .long wd, .int (iI va), .int gd, .ref mBo, .ref mSo, .ref mSh, .ref mLe, .ref mIm, .ref mBf, .int ik])), (mF, .inl (cI, 7, .inl (ar (fnd fd 5)))), (mBo, .inl (cI, 4, .inl (ar bi))), (mSo, .inl (cI, 4, .inl (ar si))), (mSh, .inl (cJ, 160, .inr (.inl (shA (setS sv t (sv t)))))), (mLe, .inl (cJ, 40, .inr (.inl fl)))]) (by rw [setS_self]) ?_
        have e9 : opCopy (bi s) (si s) (sv s) (bi t) (si t) (sv t) fd f o n = ((iI (-1000000006)), sv t, fnd fd 5) := by
          unfold opCopy; try unfold bI
          (repeat' split) <;> first | (exfalso; omega) | contradiction | rfl
        exact z_iretE (pc := 45) dX4_copy_45 fl trivial (by rw [e9]) (by rw [e9])
      · skip
        refine z_aload_n (pc := 30) dX4_copy_30 0 rfl ?_
        refine z_get (pc := 31) (q0 := 0) (v := .ref mBo) fL_X4_25 dX4_copy_31 rfl rfl ?_
        refine z_iload_n (pc := 34) dX4_copy_34 3 rfl ?_
        refine z_iald (pc := 35) (q0 := 2) (v := (iI (bi t))) dX4_copy_35 rfl (by omega) (by decide) (ar_at (by omega)) ?_
        refine z_if_ne (pc := 36) (tgt := 46) dX4_copy_36 (by decide) (by omega) (fun h36 => ?_) (fun h36 => ?_)
        · skip
          refine z_aload_n (pc := 46) dX4_copy_46 0 rfl ?_
          refine z_get (pc := 47) (q0 := 0) (v := .ref mBo) fL_X4_25 dX4_copy_47 rfl rfl ?_
          refine z_iload_n (pc := 50) dX4_copy_50 1 rfl ?_
          refine z_iald (pc := 51) (q0 := 2) (v := (iI (bi s))) dX4_copy_51 rfl (by omega) (by decide) (ar_at (by omega)) ?_
          refine z_aload_n (pc := 52) dX4_copy_52 0 rfl ?_
          refine z_get (pc := 53) (q0 := 0) (v := .ref mBo) fL_X4_25 dX4_copy_53 rfl rfl ?_
          refine z_iload_n (pc := 56) dX4_copy_56 3 rfl ?_
          refine z_iald (pc := 57) (q0 := 2) (v := (iI (bi t))) dX4_copy_57 rfl (by omega) (by decide) (ar_at (by omega)) ?_
          refine z_icmp_eq (pc := 58) (tgt := 68) dX4_copy_58 (by decide) (by omega) (by omega) (fun h58 => ?_) (fun h58 => ?_)
          · skip
            refine z_aload_n (pc := 68) dX4_copy_68 0 rfl ?_
            refine z_iload_n (pc := 69) dX4_copy_69 1 rfl ?_
            refine z_iload_n (pc := 70) dX4_copy_70 2 rfl ?_
            refine z_iload (pc := 71) dX4_copy_71 5 rfl ?_
            refine z_callV (pc := 73) (st := []) (st2 := [.int (bI (0 ≤ f ∧ 0 ≤ n ∧ f ≤ si s - n))]) (ws2 := [(m, .inr (4, [.ref mR, .ref mF, .ref mT, .ref mB, .ref mTp, .int (iI tn), .int (iI so), .int (iI be), .int (iI te), .long wd, .int (iI va), .int gd, .ref mBo, .ref mSo, .ref mSh, .ref mLe, .ref mIm, .ref mBf, .int ik])), (mF, .inl (cI, 7, .inl (ar fd))), (mBo, .inl (cI, 4, .inl (ar bi))), (mSo, .inl (cI, 4, .inl (ar si))), (mSh, .inl (cJ, 160, .inr (.inl (shA sv)))), (mLe, .inl (cJ, 40, .inr (.inl fl)))]) (q0 := 0) (c_X4_isPart_ l D cI cJ cB cS xa m mR mF mT mB mTp mBo mSo mSh mLe mIm mBf tn so be te va wd gd ik si s f n (by omega) (by omega) (by omega) (by omega)) mV_X4_isPart_ kM_X4_256 dX4_copy_73 rfl rfl [0, 3] rfl rfl rfl rfl rfl rfl rfl rfl ⟨Nat.le_of_ble_eq_true rfl, Nat.le_of_ble_eq_true rfl, Nat.le_of_ble_eq_true rfl⟩ ?_
            refine z_ifb_eq (pc := 76) (tgt := 91) dX4_copy_76 (by decide) (fun h76 => ?_) (fun h76 => ?_)
            · skip
              refine z_aload_n (pc := 91) dX4_copy_91 0 rfl ?_
              refine z_ldc (pc := 92) (n := -1000000001) kC_X4_44 dX4_copy_92 (by decide) ?_
              refine z_callV (pc := 94) (st := []) (st2 := [.int (iI (-1000000001))]) (ws2 := [(m, .inr (4, [.ref mR, .ref mF, .ref mT, .ref mB, .ref mTp, .int (iI tn), .int (iI so), .int (iI be), .int (iI te), .long wd, .int (iI va), .int gd, .ref mBo, .ref mSo, .ref mSh, .ref mLe, .ref mIm, .ref mBf, .int ik])), (mF, .inl (cI, 7, .inl (ar (fnd fd 0)))), (mBo, .inl (cI, 4, .inl (ar bi))), (mSo, .inl (cI, 4, .inl (ar si))), (mSh, .inl (cJ, 160, .inr (.inl (shA sv)))), (mLe, .inl (cJ, 40, .inr (.inl fl)))]) (q0 := 0) (c_X4_finds l D cI cJ cB cS xa m mR mF mT mB mTp mBo mSo mSh mLe mIm mBf tn so be te va wd gd ik fd (-1000000001) 0 (by omega) (by omega)) mV_X4_finds kM_X4_53 dX4_copy_94 rfl rfl [0, 1] rfl rfl rfl rfl rfl rfl rfl rfl ⟨Nat.le_of_ble_eq_true rfl, Nat.le_of_ble_eq_true rfl, Nat.le_of_ble_eq_true rfl⟩ ?_
              refine z_ws (ws2 := [(m, .inr (4, [.ref mR, .ref mF, .ref mT, .ref mB, .ref mTp, .int (iI tn), .int (iI so), .int (iI be), .int (iI te), .long wd, .int (iI va), .int gd, .ref mBo, .ref mSo, .ref mSh, .ref mLe, .ref mIm, .ref mBf, .int ik])), (mF, .inl (cI, 7, .inl (ar (fnd fd 0)))), (mBo, .inl (cI, 4, .inl (ar bi))), (mSo, .inl (cI, 4, .inl (ar si))), (mSh, .inl (cJ, 160, .inr (.inl (shA (setS sv t (sv t)))))), (mLe, .inl (cJ, 40, .inr (.inl fl)))]) (by rw [setS_self]) ?_
              have e9 : opCopy (bi s) (si s) (sv s) (bi t) (si t) (sv t) fd f o n = ((iI (-1000000001)), sv t, fnd fd 0) := by
                unfold opCopy; try unfold bI
                (repeat' split) <;> first | (exfalso; omega) | contradiction | rfl
              exact z_iretE (pc := 97) dX4_copy_97 fl trivial (by rw [e9]) (by rw [e9])
            · skip
              refine z_aload_n (pc := 79) dX4_copy_79 0 rfl ?_
              refine z_iload_n (pc := 80) dX4_copy_80 3 rfl ?_
              refine z_iload (pc := 81) dX4_copy_81 4 rfl ?_
              refine z_iload (pc := 83) dX4_copy_83 5 rfl ?_
              refine z_callV (pc := 85) (st := []) (st2 := [.int (bI (0 ≤ o ∧ 0 ≤ n ∧ o ≤ si t - n))]) (ws2 := [(m, .inr (4, [.ref mR, .ref mF, .ref mT, .ref mB, .ref mTp, .int (iI tn), .int (iI so), .int (iI be), .int (iI te), .long wd, .int (iI va), .int gd, .ref mBo, .ref mSo, .ref mSh, .ref mLe, .ref mIm, .ref mBf, .int ik])), (mF, .inl (cI, 7, .inl (ar fd))), (mBo, .inl (cI, 4, .inl (ar bi))), (mSo, .inl (cI, 4, .inl (ar si))), (mSh, .inl (cJ, 160, .inr (.inl (shA sv)))), (mLe, .inl (cJ, 40, .inr (.inl fl)))]) (q0 := 0) (c_X4_isPart_ l D cI cJ cB cS xa m mR mF mT mB mTp mBo mSo mSh mLe mIm mBf tn so be te va wd gd ik si t o n (by omega) (by omega) (by omega) (by omega)) mV_X4_isPart_ kM_X4_256 dX4_copy_85 rfl rfl [0, 3] rfl rfl rfl rfl rfl rfl rfl rfl ⟨Nat.le_of_ble_eq_true rfl, Nat.le_of_ble_eq_true rfl, Nat.le_of_ble_eq_true rfl⟩ ?_
              refine z_ifb_ne (pc := 88) (tgt := 98) dX4_copy_88 (by decide) (fun h88 => ?_) (fun h88 => ?_)
              · skip
                refine z_iconst (pc := 98) dX4_copy_98 ?_
                refine z_istore (pc := 99) (lv2 := [(6, .int (iI 0)), (0, .ref m), (1, .int (iI s)), (2, .int (iI f)), (3, .int (iI t)), (4, .int (iI o)), (5, .int (iI n))]) dX4_copy_99 (by decide) rfl ?_
                have LP101 : ∀ (nn_ : Nat) (k : Int) (fx : Nat → Int64), (0 ≤ k ∧ k ≤ n) → (∀ j : Nat, (j : Int) < k → fx j = sv s (f + j)) → (n - k).toNat < nn_ → Z xp l xe { frames := 2, cells := 0, slots := 0, locals := 42 } xs xm ([.ref m, .int (iI s), .int (iI f), .int (iI t), .int (iI o), .int (iI n)] : List Value).toArray xb xt xc 0 0 (MQ xb (Cq (S := (Nat → Int64)) D [(m, .inr (4, [.ref mR, .ref mF, .ref mT, .ref mB, .ref mTp, .int (iI tn), .int (iI so), .int (iI be), .int (iI te), .long wd, .int (iI va), .int gd, .ref mBo, .ref mSo, .ref mSh, .ref mLe, .ref mIm, .ref mBf, .int ik])), (mF, .inl (cI, 7, .inl (ar fd))), (mBo, .inl (cI, 4, .inl (ar bi))), (mSo, .inl (cI, 4, .inl (ar si))), (mSh, .inl (cJ, 160, .inr (.inl (shA sv)))), (mLe, .inl (cJ, 40, .inr (.inl fl)))] (fun fl2 : (Nat → Int64) => True) (fun fl2 : (Nat → Int64) => (some (.int ((opCopy (bi s) (si s) (sv s) (bi t) (si t) (sv t) fd f o n).1)))) (fun fl2 : (Nat → Int64) => [(m, .inr (4, [.ref mR, .ref mF, .ref mT, .ref mB, .ref mTp, .int (iI tn), .int (iI so), .int (iI be), .int (iI te), .long wd, .int (iI va), .int gd, .ref mBo, .ref mSo, .ref mSh, .ref mLe, .ref mIm, .ref mBf, .int ik])), (mF, .inl (cI, 7, .inl (ar ((opCopy (bi s) (si s) (sv s) (bi t) (si t) (sv t) fd f o n).2.2)))), (mBo, .inl (cI, 4, .inl (ar bi))), (mSo, .inl (cI, 4, .inl (ar si))), (mSh, .inl (cJ, 160, .inr (.inl (shA (setS sv t (opCopy (bi s) (si s) (sv s) (bi t) (si t) (sv t) fd f o n).2.1))))), (mLe, .inl (cJ, 40, .inr (.inl fl2)))])) ([.ref m, .int (iI s), .int (iI f), .int (iI t), .int (iI o), .int (iI n)] : List Value).toArray xs 0 0 (va_A0 [(m, .inr (4, [.ref mR, .ref mF, .ref mT, .ref mB, .ref mTp, .int (iI tn), .int (iI so), .int (iI be), .int (iI te), .long wd, .int (iI va), .int gd, .ref mBo, .ref mSo, .ref mSh, .ref mLe, .ref mIm, .ref mBf, .int ik])), (mF, .inl (cI, 7, .inl (ar fd))), (mBo, .inl (cI, 4, .inl (ar bi))), (mSo, .inl (cI, 4, .inl (ar si))), (mSh, .inl (cJ, 160, .inr (.inl (shA sv)))), (mLe, .inl (cJ, 40, .inr (.inl fl)))])) cX4_copy RX4 7 (some .int) D cI cJ cB cS xa (va_A0 [(m, .inr (4, [.ref mR, .ref mF, .ref mT, .ref mB, .ref mTp, .int (iI tn), .int (iI so), .int (iI be), .int (iI te), .long wd, .int (iI va), .int gd, .ref mBo, .ref mSo, .ref mSh, .ref mLe, .ref mIm, .ref mBf, .int ik])), (mF, .inl (cI, 7, .inl (ar fd))), (mBo, .inl (cI, 4, .inl (ar bi))), (mSo, .inl (cI, 4, .inl (ar si))), (mSh, .inl (cJ, 160, .inr (.inl (shA sv)))), (mLe, .inl (cJ, 40, .inr (.inl fl)))]) [(m, .inr (4, [.ref mR, .ref mF, .ref mT, .ref mB, .ref mTp, .int (iI tn), .int (iI so), .int (iI be), .int (iI te), .long wd, .int (iI va), .int gd, .ref mBo, .ref mSo, .ref mSh, .ref mLe, .ref mIm, .ref mBf, .int ik])), (mF, .inl (cI, 7, .inl (ar fd))), (mBo, .inl (cI, 4, .inl (ar bi))), (mSo, .inl (cI, 4, .inl (ar si))), (mSh, .inl (cJ, 160, .inr (.inl (shA sv)))), (mLe, .inl (cJ, 40, .inr (.inl fx)))] [(0, .ref m), (1, .int (iI s)), (2, .int (iI f)), (3, .int (iI t)), (4, .int (iI o)), (5, .int (iI n)), (6, .int (iI k))] 101 [] := by
                  intro nn_
                  induction nn_ with
                  | zero => intro k fx hk hl hms; exact absurd hms (Nat.not_lt_zero _)
                  | succ nn_ ih =>
                    intro k fx hk hl hms
                    have ih101 := ih
                    clear ih
                    refine z_iload (pc := 101) dX4_copy_101 6 rfl ?_
                    refine z_iload (pc := 103) dX4_copy_103 5 rfl ?_
                    refine z_icmp_ge (pc := 105) (tgt := 135) dX4_copy_105 (by decide) (by omega) (by omega) (fun h105 => ?_) (fun h105 => ?_)
                    · skip
                      have hl2 : ∀ j : Nat, (j : Int) < n → fx j = sv s (f + j) := fun j hj => hl j (by omega)
                      refine z_iconst (pc := 135) dX4_copy_135 ?_
                      refine z_istore (pc := 136) (lv2 := [(6, .int (iI 0)), (0, .ref m), (1, .int (iI s)), (2, .int (iI f)), (3, .int (iI t)), (4, .int (iI o)), (5, .int (iI n))]) dX4_copy_136 (by decide) rfl ?_
                      have LP138 : ∀ (nn_ : Nat) (k : Int), (0 ≤ k ∧ k ≤ n) → (n - k).toNat < nn_ → Z xp l xe { frames := 2, cells := 0, slots := 0, locals := 42 } xs xm ([.ref m, .int (iI s), .int (iI f), .int (iI t), .int (iI o), .int (iI n)] : List Value).toArray xb xt xc 0 0 (MQ xb (Cq (S := (Nat → Int64)) D [(m, .inr (4, [.ref mR, .ref mF, .ref mT, .ref mB, .ref mTp, .int (iI tn), .int (iI so), .int (iI be), .int (iI te), .long wd, .int (iI va), .int gd, .ref mBo, .ref mSo, .ref mSh, .ref mLe, .ref mIm, .ref mBf, .int ik])), (mF, .inl (cI, 7, .inl (ar fd))), (mBo, .inl (cI, 4, .inl (ar bi))), (mSo, .inl (cI, 4, .inl (ar si))), (mSh, .inl (cJ, 160, .inr (.inl (shA sv)))), (mLe, .inl (cJ, 40, .inr (.inl fl)))] (fun fl2 : (Nat → Int64) => True) (fun fl2 : (Nat → Int64) => (some (.int ((opCopy (bi s) (si s) (sv s) (bi t) (si t) (sv t) fd f o n).1)))) (fun fl2 : (Nat → Int64) => [(m, .inr (4, [.ref mR, .ref mF, .ref mT, .ref mB, .ref mTp, .int (iI tn), .int (iI so), .int (iI be), .int (iI te), .long wd, .int (iI va), .int gd, .ref mBo, .ref mSo, .ref mSh, .ref mLe, .ref mIm, .ref mBf, .int ik])), (mF, .inl (cI, 7, .inl (ar ((opCopy (bi s) (si s) (sv s) (bi t) (si t) (sv t) fd f o n).2.2)))), (mBo, .inl (cI, 4, .inl (ar bi))), (mSo, .inl (cI, 4, .inl (ar si))), (mSh, .inl (cJ, 160, .inr (.inl (shA (setS sv t (opCopy (bi s) (si s) (sv s) (bi t) (si t) (sv t) fd f o n).2.1))))), (mLe, .inl (cJ, 40, .inr (.inl fl2)))])) ([.ref m, .int (iI s), .int (iI f), .int (iI t), .int (iI o), .int (iI n)] : List Value).toArray xs 0 0 (va_A0 [(m, .inr (4, [.ref mR, .ref mF, .ref mT, .ref mB, .ref mTp, .int (iI tn), .int (iI so), .int (iI be), .int (iI te), .long wd, .int (iI va), .int gd, .ref mBo, .ref mSo, .ref mSh, .ref mLe, .ref mIm, .ref mBf, .int ik])), (mF, .inl (cI, 7, .inl (ar fd))), (mBo, .inl (cI, 4, .inl (ar bi))), (mSo, .inl (cI, 4, .inl (ar si))), (mSh, .inl (cJ, 160, .inr (.inl (shA sv)))), (mLe, .inl (cJ, 40, .inr (.inl fl)))])) cX4_copy RX4 7 (some .int) D cI cJ cB cS xa (va_A0 [(m, .inr (4, [.ref mR, .ref mF, .ref mT, .ref mB, .ref mTp, .int (iI tn), .int (iI so), .int (iI be), .int (iI te), .long wd, .int (iI va), .int gd, .ref mBo, .ref mSo, .ref mSh, .ref mLe, .ref mIm, .ref mBf, .int ik])), (mF, .inl (cI, 7, .inl (ar fd))), (mBo, .inl (cI, 4, .inl (ar bi))), (mSo, .inl (cI, 4, .inl (ar si))), (mSh, .inl (cJ, 160, .inr (.inl (shA sv)))), (mLe, .inl (cJ, 40, .inr (.inl fl)))]) [(m, .inr (4, [.ref mR, .ref mF, .ref mT, .ref mB, .ref mTp, .int (iI tn), .int (iI so), .int (iI be), .int (iI te), .long wd, .int (iI va), .int gd, .ref mBo, .ref mSo, .ref mSh, .ref mLe, .ref mIm, .ref mBf, .int ik])), (mF, .inl (cI, 7, .inl (ar fd))), (mBo, .inl (cI, 4, .inl (ar bi))), (mSo, .inl (cI, 4, .inl (ar si))), (mSh, .inl (cJ, 160, .inr (.inl (shA (setS sv t (cpL (sv s) (sv t) f o k)))))), (mLe, .inl (cJ, 40, .inr (.inl fx)))] [(0, .ref m), (1, .int (iI s)), (2, .int (iI f)), (3, .int (iI t)), (4, .int (iI o)), (5, .int (iI n)), (6, .int (iI k))] 138 [] := by
                        intro nn_
                        induction nn_ with
                        | zero => intro k hk hms; exact absurd hms (Nat.not_lt_zero _)
                        | succ nn_ ih =>
                          intro k hk hms
                          have ih138 := ih
                          clear ih
                          refine z_iload (pc := 138) dX4_copy_138 6 rfl ?_
                          refine z_iload (pc := 140) dX4_copy_140 5 rfl ?_
                          refine z_icmp_ge (pc := 142) (tgt := 173) dX4_copy_142 (by decide) (by omega) (by omega) (fun h142 => ?_) (fun h142 => ?_)
                          · skip
                            have hkn : k = n := by omega
                            refine z_iload (pc := 173) dX4_copy_173 5 rfl ?_
                            have e9 : opCopy (bi s) (si s) (sv s) (bi t) (si t) (sv t) fd f o n = ((iI n), cpL (sv s) (sv t) f o k, fd) := by
                              unfold opCopy; rw [if_neg (by omega), if_pos (by omega), if_pos ⟨by omega, by omega⟩, hkn]
                            exact z_iretE (pc := 175) dX4_copy_175 fx trivial (by rw [e9]) (by rw [e9])
                          · skip
                            refine z_aload_n (pc := 145) dX4_copy_145 0 rfl ?_
                            refine z_get (pc := 146) (q0 := 0) (v := .ref mSh) fL_X4_31 dX4_copy_146 rfl rfl ?_
                            refine z_bipush (pc := 149) dX4_copy_149 (by decide) ?_
                            refine z_iload_n (pc := 151) dX4_copy_151 3 rfl ?_
                            refine z_imul (pc := 152) dX4_copy_152 ?_
                            refine z_iload (pc := 153) dX4_copy_153 4 rfl ?_
                            refine z_iadd (pc := 155) dX4_copy_155 ?_
                            refine z_iload (pc := 156) dX4_copy_156 6 rfl ?_
                            refine z_iadd (pc := 158) dX4_copy_158 ?_
                            refine z_aload_n (pc := 159) dX4_copy_159 0 rfl ?_
                            refine z_get (pc := 160) (q0 := 0) (v := .ref mLe) fL_X4_35 dX4_copy_160 rfl rfl ?_
                            refine z_iload (pc := 163) dX4_copy_163 6 rfl ?_
                            refine z_lald (pc := 165) (q0 := 5) (v := (sv s (f + k))) dX4_copy_165 rfl (by omega) (by decide) (by rw [hl2 _ (by omega)]; congr 1; omega) ?_
                            refine z_last (pc := 166) (q0 := 4) (ws2 := [(m, .inr (4, [.ref mR, .ref mF, .ref mT, .ref mB, .ref mTp, .int (iI tn), .int (iI so), .int (iI be), .int (iI te), .long wd, .int (iI va), .int gd, .ref mBo, .ref mSo, .ref mSh, .ref mLe, .ref mIm, .ref mBf, .int ik])), (mF, .inl (cI, 7, .inl (ar fd))), (mBo, .inl (cI, 4, .inl (ar bi))), (mSo, .inl (cI, 4, .inl (ar si))), (mSh, .inl (cJ, 160, .inr (.inl (shA (upS (setS sv t (cpL (sv s) (sv t) f o k)) t (o + k) (sv s (f + k))))))), (mLe, .inl (cJ, 40, .inr (.inl fx)))]) dX4_copy_166 rfl (by omega) (by decide) (by rw [shA_up (s := t) (i := o + k) (by omega) (by omega) (by omega) (by omega)]; rfl) ?_
                            refine z_iinc (pc := 167) (lv2 := [(6, .int (iI (k + 1))), (0, .ref m), (1, .int (iI s)), (2, .int (iI f)), (3, .int (iI t)), (4, .int (iI o)), (5, .int (iI n))]) dX4_copy_167 6 rfl (by decide) rfl ?_
                            refine z_goto (pc := 170) (tgt := 138) dX4_copy_170 (by decide) ?_
                            refine z_lv (lv2 := [(0, .ref m), (1, .int (iI s)), (2, .int (iI f)), (3, .int (iI t)), (4, .int (iI o)), (5, .int (iI n)), (6, .int (iI (k + 1)))]) [1, 2, 3, 4, 5, 6, 0] rfl ?_
                            refine z_ws (ws2 := [(m, .inr (4, [.ref mR, .ref mF, .ref mT, .ref mB, .ref mTp, .int (iI tn), .int (iI so), .int (iI be), .int (iI te), .long wd, .int (iI va), .int gd, .ref mBo, .ref mSo, .ref mSh, .ref mLe, .ref mIm, .ref mBf, .int ik])), (mF, .inl (cI, 7, .inl (ar fd))), (mBo, .inl (cI, 4, .inl (ar bi))), (mSo, .inl (cI, 4, .inl (ar si))), (mSh, .inl (cJ, 160, .inr (.inl (shA (setS sv t (cpL (sv s) (sv t) f o (k + 1))))))), (mLe, .inl (cJ, 40, .inr (.inl fx)))]) (by rw [← setS_cp _ _ _ _ _ _ hk.1]) ?_
                            exact ih138 (k + 1) (by omega) (by omega)
                      refine z_ws (ws2 := [(m, .inr (4, [.ref mR, .ref mF, .ref mT, .ref mB, .ref mTp, .int (iI tn), .int (iI so), .int (iI be), .int (iI te), .long wd, .int (iI va), .int gd, .ref mBo, .ref mSo, .ref mSh, .ref mLe, .ref mIm, .ref mBf, .int ik])), (mF, .inl (cI, 7, .inl (ar fd))), (mBo, .inl (cI, 4, .inl (ar bi))), (mSo, .inl (cI, 4, .inl (ar si))), (mSh, .inl (cJ, 160, .inr (.inl (shA (setS sv t (cpL (sv s) (sv t) f o 0)))))), (mLe, .inl (cJ, 40, .inr (.inl fx)))]) (by rw [cpL_0, setS_self]) ?_
                      refine z_lv (lv2 := [(0, .ref m), (1, .int (iI s)), (2, .int (iI f)), (3, .int (iI t)), (4, .int (iI o)), (5, .int (iI n)), (6, .int (iI 0))]) [1, 2, 3, 4, 5, 6, 0] rfl ?_
                      exact LP138 _ 0 (by omega) (Nat.lt_succ_self _)
                    · skip
                      refine z_aload_n (pc := 108) dX4_copy_108 0 rfl ?_
                      refine z_get (pc := 109) (q0 := 0) (v := .ref mLe) fL_X4_35 dX4_copy_109 rfl rfl ?_
                      refine z_iload (pc := 112) dX4_copy_112 6 rfl ?_
                      refine z_aload_n (pc := 114) dX4_copy_114 0 rfl ?_
                      refine z_get (pc := 115) (q0 := 0) (v := .ref mSh) fL_X4_31 dX4_copy_115 rfl rfl ?_
                      refine z_bipush (pc := 118) dX4_copy_118 (by decide) ?_
                      refine z_iload_n (pc := 120) dX4_copy_120 1 rfl ?_
                      refine z_imul (pc := 121) dX4_copy_121 ?_
                      refine z_iload_n (pc := 122) dX4_copy_122 2 rfl ?_
                      refine z_iadd (pc := 123) dX4_copy_123 ?_
                      refine z_iload (pc := 124) dX4_copy_124 6 rfl ?_
                      refine z_iadd (pc := 126) dX4_copy_126 ?_
                      refine z_lald (pc := 127) (q0 := 4) (v := (sv s (f + k))) dX4_copy_127 rfl (by omega) (by decide) (shA_at (by omega) (by omega) (by omega) (by omega)) ?_
                      refine z_last (pc := 128) (q0 := 5) (ws2 := [(m, .inr (4, [.ref mR, .ref mF, .ref mT, .ref mB, .ref mTp, .int (iI tn), .int (iI so), .int (iI be), .int (iI te), .long wd, .int (iI va), .int gd, .ref mBo, .ref mSo, .ref mSh, .ref mLe, .ref mIm, .ref mBf, .int ik])), (mF, .inl (cI, 7, .inl (ar fd))), (mBo, .inl (cI, 4, .inl (ar bi))), (mSo, .inl (cI, 4, .inl (ar si))), (mSh, .inl (cJ, 160, .inr (.inl (shA sv)))), (mLe, .inl (cJ, 40, .inr (.inl (vp_updL fx (Int.toNat k) (sv s (f + k))))))]) dX4_copy_128 rfl (by omega) (by decide) rfl ?_
                      refine z_iinc (pc := 129) (lv2 := [(6, .int (iI (k + 1))), (0, .ref m), (1, .int (iI s)), (2, .int (iI f)), (3, .int (iI t)), (4, .int (iI o)), (5, .int (iI n))]) dX4_copy_129 6 rfl (by decide) rfl ?_
                      refine z_goto (pc := 132) (tgt := 101) dX4_copy_132 (by decide) ?_
                      refine z_lv (lv2 := [(0, .ref m), (1, .int (iI s)), (2, .int (iI f)), (3, .int (iI t)), (4, .int (iI o)), (5, .int (iI n)), (6, .int (iI (k + 1)))]) [1, 2, 3, 4, 5, 6, 0] rfl ?_
                      exact ih101 (k + 1) (vp_updL fx (Int.toNat k) (sv s (f + k))) (by omega) (lent_s hk.1 hl) (by omega)
                refine z_lv (lv2 := [(0, .ref m), (1, .int (iI s)), (2, .int (iI f)), (3, .int (iI t)), (4, .int (iI o)), (5, .int (iI n)), (6, .int (iI 0))]) [1, 2, 3, 4, 5, 6, 0] rfl ?_
                exact LP101 _ 0 fl (by omega) (fun j hj => absurd hj (by omega)) (Nat.lt_succ_self _)
              · skip
                refine z_aload_n (pc := 91) dX4_copy_91 0 rfl ?_
                refine z_ldc (pc := 92) (n := -1000000001) kC_X4_44 dX4_copy_92 (by decide) ?_
                refine z_callV (pc := 94) (st := []) (st2 := [.int (iI (-1000000001))]) (ws2 := [(m, .inr (4, [.ref mR, .ref mF, .ref mT, .ref mB, .ref mTp, .int (iI tn), .int (iI so), .int (iI be), .int (iI te), .long wd, .int (iI va), .int gd, .ref mBo, .ref mSo, .ref mSh, .ref mLe, .ref mIm, .ref mBf, .int ik])), (mF, .inl (cI, 7, .inl (ar (fnd fd 0)))), (mBo, .inl (cI, 4, .inl (ar bi))), (mSo, .inl (cI, 4, .inl (ar si))), (mSh, .inl (cJ, 160, .inr (.inl (shA sv)))), (mLe, .inl (cJ, 40, .inr (.inl fl)))]) (q0 := 0) (c_X4_finds l D cI cJ cB cS xa m mR mF mT mB mTp mBo mSo mSh mLe mIm mBf tn so be te va wd gd ik fd (-1000000001) 0 (by omega) (by omega)) mV_X4_finds kM_X4_53 dX4_copy_94 rfl rfl [0, 1] rfl rfl rfl rfl rfl rfl rfl rfl ⟨Nat.le_of_ble_eq_true rfl, Nat.le_of_ble_eq_true rfl, Nat.le_of_ble_eq_true rfl⟩ ?_
                refine z_ws (ws2 := [(m, .inr (4, [.ref mR, .ref mF, .ref mT, .ref mB, .ref mTp, .int (iI tn), .int (iI so), .int (iI be), .int (iI te), .long wd, .int (iI va), .int gd, .ref mBo, .ref mSo, .ref mSh, .ref mLe, .ref mIm, .ref mBf, .int ik])), (mF, .inl (cI, 7, .inl (ar (fnd fd 0)))), (mBo, .inl (cI, 4, .inl (ar bi))), (mSo, .inl (cI, 4, .inl (ar si))), (mSh, .inl (cJ, 160, .inr (.inl (shA (setS sv t (sv t)))))), (mLe, .inl (cJ, 40, .inr (.inl fl)))]) (by rw [setS_self]) ?_
                have e9 : opCopy (bi s) (si s) (sv s) (bi t) (si t) (sv t) fd f o n = ((iI (-1000000001)), sv t, fnd fd 0) := by
                  unfold opCopy; try unfold bI
                  (repeat' split) <;> first | (exfalso; omega) | contradiction | rfl
                exact z_iretE (pc := 97) dX4_copy_97 fl trivial (by rw [e9]) (by rw [e9])
          · skip
            refine z_aload_n (pc := 61) dX4_copy_61 0 rfl ?_
            refine z_ldc (pc := 62) (n := -1000000003) kC_X4_115 dX4_copy_62 (by decide) ?_
            refine z_callV (pc := 64) (st := []) (st2 := [.int (iI (-1000000003))]) (ws2 := [(m, .inr (4, [.ref mR, .ref mF, .ref mT, .ref mB, .ref mTp, .int (iI tn), .int (iI so), .int (iI be), .int (iI te), .long wd, .int (iI va), .int gd, .ref mBo, .ref mSo, .ref mSh, .ref mLe, .ref mIm, .ref mBf, .int ik])), (mF, .inl (cI, 7, .inl (ar (fnd fd 2)))), (mBo, .inl (cI, 4, .inl (ar bi))), (mSo, .inl (cI, 4, .inl (ar si))), (mSh, .inl (cJ, 160, .inr (.inl (shA sv)))), (mLe, .inl (cJ, 40, .inr (.inl fl)))]) (q0 := 0) (c_X4_finds l D cI cJ cB cS xa m mR mF mT mB mTp mBo mSo mSh mLe mIm mBf tn so be te va wd gd ik fd (-1000000003) 2 (by omega) (by omega)) mV_X4_finds kM_X4_53 dX4_copy_64 rfl rfl [0, 1] rfl rfl rfl rfl rfl rfl rfl rfl ⟨Nat.le_of_ble_eq_true rfl, Nat.le_of_ble_eq_true rfl, Nat.le_of_ble_eq_true rfl⟩ ?_
            refine z_ws (ws2 := [(m, .inr (4, [.ref mR, .ref mF, .ref mT, .ref mB, .ref mTp, .int (iI tn), .int (iI so), .int (iI be), .int (iI te), .long wd, .int (iI va), .int gd, .ref mBo, .ref mSo, .ref mSh, .ref mLe, .ref mIm, .ref mBf, .int ik])), (mF, .inl (cI, 7, .inl (ar (fnd fd 2)))), (mBo, .inl (cI, 4, .inl (ar bi))), (mSo, .inl (cI, 4, .inl (ar si))), (mSh, .inl (cJ, 160, .inr (.inl (shA (setS sv t (sv t)))))), (mLe, .inl (cJ, 40, .inr (.inl fl)))]) (by rw [setS_self]) ?_
            have e9 : opCopy (bi s) (si s) (sv s) (bi t) (si t) (sv t) fd f o n = ((iI (-1000000003)), sv t, fnd fd 2) := by
              unfold opCopy; try unfold bI
              (repeat' split) <;> first | (exfalso; omega) | contradiction | rfl
            exact z_iretE (pc := 67) dX4_copy_67 fl trivial (by rw [e9]) (by rw [e9])
        · skip
          refine z_aload_n (pc := 39) dX4_copy_39 0 rfl ?_
          refine z_ldc (pc := 40) (n := -1000000006) kC_X4_251 dX4_copy_40 (by decide) ?_
          refine z_callV (pc := 42) (st := []) (st2 := [.int (iI (-1000000006))]) (ws2 := [(m, .inr (4, [.ref mR, .ref mF, .ref mT, .ref mB, .ref mTp, .int (iI tn), .int (iI so), .int (iI be), .int (iI te), .long wd, .int (iI va), .int gd, .ref mBo, .ref mSo, .ref mSh, .ref mLe, .ref mIm, .ref mBf, .int ik])), (mF, .inl (cI, 7, .inl (ar (fnd fd 5)))), (mBo, .inl (cI, 4, .inl (ar bi))), (mSo, .inl (cI, 4, .inl (ar si))), (mSh, .inl (cJ, 160, .inr (.inl (shA sv)))), (mLe, .inl (cJ, 40, .inr (.inl fl)))]) (q0 := 0) (c_X4_finds l D cI cJ cB cS xa m mR mF mT mB mTp mBo mSo mSh mLe mIm mBf tn so be te va wd gd ik fd (-1000000006) 5 (by omega) (by omega)) mV_X4_finds kM_X4_53 dX4_copy_42 rfl rfl [0, 1] rfl rfl rfl rfl rfl rfl rfl rfl ⟨Nat.le_of_ble_eq_true rfl, Nat.le_of_ble_eq_true rfl, Nat.le_of_ble_eq_true rfl⟩ ?_
          refine z_ws (ws2 := [(m, .inr (4, [.ref mR, .ref mF, .ref mT, .ref mB, .ref mTp, .int (iI tn), .int (iI so), .int (iI be), .int (iI te), .long wd, .int (iI va), .int gd, .ref mBo, .ref mSo, .ref mSh, .ref mLe, .ref mIm, .ref mBf, .int ik])), (mF, .inl (cI, 7, .inl (ar (fnd fd 5)))), (mBo, .inl (cI, 4, .inl (ar bi))), (mSo, .inl (cI, 4, .inl (ar si))), (mSh, .inl (cJ, 160, .inr (.inl (shA (setS sv t (sv t)))))), (mLe, .inl (cJ, 40, .inr (.inl fl)))]) (by rw [setS_self]) ?_
          have e9 : opCopy (bi s) (si s) (sv s) (bi t) (si t) (sv t) fd f o n = ((iI (-1000000006)), sv t, fnd fd 5) := by
            unfold opCopy; try unfold bI
            (repeat' split) <;> first | (exfalso; omega) | contradiction | rfl
          exact z_iretE (pc := 45) dX4_copy_45 fl trivial (by rw [e9]) (by rw [e9])
    · skip
      exfalso; omega
set_option maxHeartbeats 8000000 in
set_option maxRecDepth 100000 in
theorem c_X4_copy_o (l : Launch) (D : va_G) (cI cJ cB cS : ClassId) (xa : XA) (m mR mF mT mB mTp mBo mSo mSh mLe mIm mBf : Nat) (tn so be te va : Int) (wd : Int64) (gd ik : Int32) (fd : FF) (s f t o n : Int) (hs : ¬ ((0 ≤ s ∧ s ≤ 3) ∧ (0 ≤ t ∧ t ≤ 3))) (rs : inr s) (rt : inr t) (rf : inr f) (ro : inr o) (rn : inr n) : Ct l D cI cJ cB cS xa yX4_copy cX4_copy 7 (some .int) 2 42 [.ref m, .int (iI s), .int (iI f), .int (iI t), .int (iI o), .int (iI n)] [(m, .inr (4, [.ref mR, .ref mF, .ref mT, .ref mB, .ref mTp, .int (iI tn), .int (iI so), .int (iI be), .int (iI te), .long wd, .int (iI va), .int gd, .ref mBo, .ref mSo, .ref mSh, .ref mLe, .ref mIm, .ref mBf, .int ik])), (mF, .inl (cI, 7, .inl (ar fd)))] (some (.int (iI (-1000000001)))) [(m, .inr (4, [.ref mR, .ref mF, .ref mT, .ref mB, .ref mTp, .int (iI tn), .int (iI so), .int (iI be), .int (iI te), .long wd, .int (iI va), .int gd, .ref mBo, .ref mSo, .ref mSh, .ref mLe, .ref mIm, .ref mBf, .int ik])), (mF, .inl (cI, 7, .inl (ar (fnd fd 0))))] := by
  refine CtE.of (own := RX4) (lv := [(0, .ref m), (1, .int (iI s)), (2, .int (iI f)), (3, .int (iI t)), (4, .int (iI o)), (5, .int (iI n))]) (by decide) rfl rfl (Nat.le_of_ble_eq_true rfl) ?_
  intro xp xe xs xm xb xt xc
  refine z_iload_n (pc := 0) dX4_copy_0 1 rfl ?_
  refine z_callS (pc := 1) (st := []) (st2 := [.int (bI (0 ≤ s ∧ s ≤ 3))]) (ws2 := [(m, .inr (4, [.ref mR, .ref mF, .ref mT, .ref mB, .ref mTp, .int (iI tn), .int (iI so), .int (iI be), .int (iI te), .long wd, .int (iI va), .int gd, .ref mBo, .ref mSo, .ref mSh, .ref mLe, .ref mIm, .ref mBf, .int ik])), (mF, .inl (cI, 7, .inl (ar fd)))]) (c_X4_isSheet l D cI cJ cB cS xa s (by omega)) mS_X4_isSheet kM_X4_247 dX4_copy_1 [] rfl rfl rfl rfl rfl rfl rfl rfl ⟨Nat.le_of_ble_eq_true rfl, Nat.le_of_ble_eq_true rfl, Nat.le_of_ble_eq_true rfl⟩ ?_
  refine z_ifb_eq (pc := 4) (tgt := 14) dX4_copy_4 (by decide) (fun h4 => ?_) (fun h4 => ?_)
  · skip
    refine z_aload_n (pc := 14) dX4_copy_14 0 rfl ?_
    refine z_ldc (pc := 15) (n := -1000000001) kC_X4_44 dX4_copy_15 (by decide) ?_
    refine z_callV (pc := 17) (st := []) (st2 := [.int (iI (-1000000001))]) (ws2 := [(m, .inr (4, [.ref mR, .ref mF, .ref mT, .ref mB, .ref mTp, .int (iI tn), .int (iI so), .int (iI be), .int (iI te), .long wd, .int (iI va), .int gd, .ref mBo, .ref mSo, .ref mSh, .ref mLe, .ref mIm, .ref mBf, .int ik])), (mF, .inl (cI, 7, .inl (ar (fnd fd 0))))]) (q0 := 0) (c_X4_finds l D cI cJ cB cS xa m mR mF mT mB mTp mBo mSo mSh mLe mIm mBf tn so be te va wd gd ik fd (-1000000001) 0 (by omega) (by omega)) mV_X4_finds kM_X4_53 dX4_copy_17 rfl rfl [0, 1] rfl rfl rfl rfl rfl rfl rfl rfl ⟨Nat.le_of_ble_eq_true rfl, Nat.le_of_ble_eq_true rfl, Nat.le_of_ble_eq_true rfl⟩ ?_
    exact z_iret (pc := 20) dX4_copy_20 rfl rfl
  · skip
    refine z_iload_n (pc := 7) dX4_copy_7 3 rfl ?_
    refine z_callS (pc := 8) (st := []) (st2 := [.int (bI (0 ≤ t ∧ t ≤ 3))]) (ws2 := [(m, .inr (4, [.ref mR, .ref mF, .ref mT, .ref mB, .ref mTp, .int (iI tn), .int (iI so), .int (iI be), .int (iI te), .long wd, .int (iI va), .int gd, .ref mBo, .ref mSo, .ref mSh, .ref mLe, .ref mIm, .ref mBf, .int ik])), (mF, .inl (cI, 7, .inl (ar fd)))]) (c_X4_isSheet l D cI cJ cB cS xa t (by omega)) mS_X4_isSheet kM_X4_247 dX4_copy_8 [] rfl rfl rfl rfl rfl rfl rfl rfl ⟨Nat.le_of_ble_eq_true rfl, Nat.le_of_ble_eq_true rfl, Nat.le_of_ble_eq_true rfl⟩ ?_
    refine z_ifb_ne (pc := 11) (tgt := 21) dX4_copy_11 (by decide) (fun h11 => ?_) (fun h11 => ?_)
    · skip
      exfalso; omega
    · skip
      refine z_aload_n (pc := 14) dX4_copy_14 0 rfl ?_
      refine z_ldc (pc := 15) (n := -1000000001) kC_X4_44 dX4_copy_15 (by decide) ?_
      refine z_callV (pc := 17) (st := []) (st2 := [.int (iI (-1000000001))]) (ws2 := [(m, .inr (4, [.ref mR, .ref mF, .ref mT, .ref mB, .ref mTp, .int (iI tn), .int (iI so), .int (iI be), .int (iI te), .long wd, .int (iI va), .int gd, .ref mBo, .ref mSo, .ref mSh, .ref mLe, .ref mIm, .ref mBf, .int ik])), (mF, .inl (cI, 7, .inl (ar (fnd fd 0))))]) (q0 := 0) (c_X4_finds l D cI cJ cB cS xa m mR mF mT mB mTp mBo mSo mSh mLe mIm mBf tn so be te va wd gd ik fd (-1000000001) 0 (by omega) (by omega)) mV_X4_finds kM_X4_53 dX4_copy_17 rfl rfl [0, 1] rfl rfl rfl rfl rfl rfl rfl rfl ⟨Nat.le_of_ble_eq_true rfl, Nat.le_of_ble_eq_true rfl, Nat.le_of_ble_eq_true rfl⟩ ?_
      exact z_iret (pc := 20) dX4_copy_20 rfl rfl
set_option maxHeartbeats 8000000 in
set_option maxRecDepth 100000 in
theorem c_X4_lays_o (l : Launch) (D : va_G) (cI cJ cB cS : ClassId) (xa : XA) (m mR mF mT mB mTp mBo mSo mSh mLe mIm mBf : Nat) (tn so be te va : Int) (wd : Int64) (gd ik : Int32) (fd : FF) (s : Int) (hs : ¬ (0 ≤ s ∧ s ≤ 3)) (rs : inr s) : Ct l D cI cJ cB cS xa yX4_lays cX4_lays 7 (some .int) 3 63 [.ref m, .int (iI s)] [(m, .inr (4, [.ref mR, .ref mF, .ref mT, .ref mB, .ref mTp, .int (iI tn), .int (iI so), .int (iI be), .int (iI te), .long wd, .int (iI va), .int gd, .ref mBo, .ref mSo, .ref mSh, .ref mLe, .ref mIm, .ref mBf, .int ik])), (mF, .inl (cI, 7, .inl (ar fd)))] (some (.int (iI (-1000000001)))) [(m, .inr (4, [.ref mR, .ref mF, .ref mT, .ref mB, .ref mTp, .int (iI tn), .int (iI so), .int (iI be), .int (iI te), .long wd, .int (iI va), .int gd, .ref mBo, .ref mSo, .ref mSh, .ref mLe, .ref mIm, .ref mBf, .int ik])), (mF, .inl (cI, 7, .inl (ar (fnd fd 0))))] := by
  refine CtE.of (own := RX4) (lv := [(0, .ref m), (1, .int (iI s))]) (by decide) rfl rfl (Nat.le_of_ble_eq_true rfl) ?_
  intro xp xe xs xm xb xt xc
  refine z_aload_n (pc := 0) dX4_lays_0 0 rfl ?_
  refine z_iload_n (pc := 1) dX4_lays_1 1 rfl ?_
  refine z_callV (pc := 2) (st := []) (st2 := [.int (iI (-1000000001))]) (ws2 := [(m, .inr (4, [.ref mR, .ref mF, .ref mT, .ref mB, .ref mTp, .int (iI tn), .int (iI so), .int (iI be), .int (iI te), .long wd, .int (iI va), .int gd, .ref mBo, .ref mSo, .ref mSh, .ref mLe, .ref mIm, .ref mBf, .int ik])), (mF, .inl (cI, 7, .inl (ar fd)))]) (q0 := 0) (c_X4_badSheet_o l D cI cJ cB cS xa m mR mF mT mB mTp mBo mSo mSh mLe mIm mBf tn so be te va wd gd ik s (by omega) (by omega)) mV_X4_badSheet kM_X4_258 dX4_lays_2 rfl rfl [0] rfl rfl rfl rfl rfl rfl rfl rfl ⟨Nat.le_of_ble_eq_true rfl, Nat.le_of_ble_eq_true rfl, Nat.le_of_ble_eq_true rfl⟩ ?_
  refine z_istore_n (pc := 5) (lv2 := [(2, .int (iI (-1000000001))), (0, .ref m), (1, .int (iI s))]) dX4_lays_5 rfl (by decide) rfl ?_
  refine z_iload_n (pc := 6) dX4_lays_6 0 rfl ?_
  refine z_if_eq (pc := 7) (tgt := 16) dX4_lays_7 (by decide) (by omega) (fun h7 => ?_) (fun h7 => ?_)
  · skip
    exfalso; omega
  · skip
    refine z_aload_n (pc := 10) dX4_lays_10 1 rfl ?_
    refine z_iload_n (pc := 11) dX4_lays_11 0 rfl ?_
    refine z_callV (pc := 12) (st := []) (st2 := [.int (iI (-1000000001))]) (ws2 := [(m, .inr (4, [.ref mR, .ref mF, .ref mT, .ref mB, .ref mTp, .int (iI tn), .int (iI so), .int (iI be), .int (iI te), .long wd, .int (iI va), .int gd, .ref mBo, .ref mSo, .ref mSh, .ref mLe, .ref mIm, .ref mBf, .int ik])), (mF, .inl (cI, 7, .inl (ar (fnd fd 0))))]) (q0 := 0) (c_X4_finds l D cI cJ cB cS xa m mR mF mT mB mTp mBo mSo mSh mLe mIm mBf tn so be te va wd gd ik fd (-1000000001) 0 (by omega) (by omega)) mV_X4_finds kM_X4_53 dX4_lays_12 rfl rfl [0, 1] rfl rfl rfl rfl rfl rfl rfl rfl ⟨Nat.le_of_ble_eq_true rfl, Nat.le_of_ble_eq_true rfl, Nat.le_of_ble_eq_true rfl⟩ ?_
    exact z_iret (pc := 15) dX4_lays_15 rfl rfl
set_option maxHeartbeats 8000000 in
set_option maxRecDepth 100000 in
theorem c_X4_book_o (l : Launch) (D : va_G) (cI cJ cB cS : ClassId) (xa : XA) (m mR mF mT mB mTp mBo mSo mSh mLe mIm mBf : Nat) (tn so be te va : Int) (wd : Int64) (gd ik : Int32) (fd : FF) (s c : Int) (hs : ¬ (0 ≤ s ∧ s ≤ 3)) (rs : inr s) (rc : inr c) : Ct l D cI cJ cB cS xa yX4_book cX4_book 5 (some .int) 3 63 [.ref m, .int (iI s), .int (iI c)] [(m, .inr (4, [.ref mR, .ref mF, .ref mT, .ref mB, .ref mTp, .int (iI tn), .int (iI so), .int (iI be), .int (iI te), .long wd, .int (iI va), .int gd, .ref mBo, .ref mSo, .ref mSh, .ref mLe, .ref mIm, .ref mBf, .int ik])), (mF, .inl (cI, 7, .inl (ar fd)))] (some (.int (iI (-1000000001)))) [(m, .inr (4, [.ref mR, .ref mF, .ref mT, .ref mB, .ref mTp, .int (iI tn), .int (iI so), .int (iI be), .int (iI te), .long wd, .int (iI va), .int gd, .ref mBo, .ref mSo, .ref mSh, .ref mLe, .ref mIm, .ref mBf, .int ik])), (mF, .inl (cI, 7, .inl (ar (fnd fd 0))))] := by
  refine CtE.of (own := RX4) (lv := [(0, .ref m), (1, .int (iI s)), (2, .int (iI c))]) (by decide) rfl rfl (Nat.le_of_ble_eq_true rfl) ?_
  intro xp xe xs xm xb xt xc
  refine z_aload_n (pc := 0) dX4_book_0 0 rfl ?_
  refine z_iload_n (pc := 1) dX4_book_1 1 rfl ?_
  refine z_callV (pc := 2) (st := []) (st2 := [.int (iI (-1000000001))]) (ws2 := [(m, .inr (4, [.ref mR, .ref mF, .ref mT, .ref mB, .ref mTp, .int (iI tn), .int (iI so), .int (iI be), .int (iI te), .long wd, .int (iI va), .int gd, .ref mBo, .ref mSo, .ref mSh, .ref mLe, .ref mIm, .ref mBf, .int ik])), (mF, .inl (cI, 7, .inl (ar fd)))]) (q0 := 0) (c_X4_badSheet_o l D cI cJ cB cS xa m mR mF mT mB mTp mBo mSo mSh mLe mIm mBf tn so be te va wd gd ik s (by omega) (by omega)) mV_X4_badSheet kM_X4_258 dX4_book_2 rfl rfl [0] rfl rfl rfl rfl rfl rfl rfl rfl ⟨Nat.le_of_ble_eq_true rfl, Nat.le_of_ble_eq_true rfl, Nat.le_of_ble_eq_true rfl⟩ ?_
  refine z_istore_n (pc := 5) (lv2 := [(3, .int (iI (-1000000001))), (0, .ref m), (1, .int (iI s)), (2, .int (iI c))]) dX4_book_5 rfl (by decide) rfl ?_
  refine z_iload_n (pc := 6) dX4_book_6 0 rfl ?_
  refine z_if_eq (pc := 7) (tgt := 16) dX4_book_7 (by decide) (by omega) (fun h7 => ?_) (fun h7 => ?_)
  · skip
    exfalso; omega
  · skip
    refine z_aload_n (pc := 10) dX4_book_10 1 rfl ?_
    refine z_iload_n (pc := 11) dX4_book_11 0 rfl ?_
    refine z_callV (pc := 12) (st := []) (st2 := [.int (iI (-1000000001))]) (ws2 := [(m, .inr (4, [.ref mR, .ref mF, .ref mT, .ref mB, .ref mTp, .int (iI tn), .int (iI so), .int (iI be), .int (iI te), .long wd, .int (iI va), .int gd, .ref mBo, .ref mSo, .ref mSh, .ref mLe, .ref mIm, .ref mBf, .int ik])), (mF, .inl (cI, 7, .inl (ar (fnd fd 0))))]) (q0 := 0) (c_X4_finds l D cI cJ cB cS xa m mR mF mT mB mTp mBo mSo mSh mLe mIm mBf tn so be te va wd gd ik fd (-1000000001) 0 (by omega) (by omega)) mV_X4_finds kM_X4_53 dX4_book_12 rfl rfl [0, 1] rfl rfl rfl rfl rfl rfl rfl rfl ⟨Nat.le_of_ble_eq_true rfl, Nat.le_of_ble_eq_true rfl, Nat.le_of_ble_eq_true rfl⟩ ?_
    exact z_iret (pc := 15) dX4_book_15 rfl rfl
set_option maxHeartbeats 8000000 in
set_option maxRecDepth 100000 in
theorem c_X4_read_o (l : Launch) (D : va_G) (cI cJ cB cS : ClassId) (xa : XA) (m mR mF mT mB mTp mBo mSo mSh mLe mIm mBf : Nat) (tn so be te va : Int) (wd : Int64) (gd ik : Int32) (fd : FF) (s c o : Int) (hs : ¬ (0 ≤ s ∧ s ≤ 3)) (rs : inr s) (rc : inr c) (ro : inr o) : Ct l D cI cJ cB cS xa yX4_read cX4_read 7 (some .int) 3 63 [.ref m, .int (iI s), .int (iI c), .int (iI o)] [(m, .inr (4, [.ref mR, .ref mF, .ref mT, .ref mB, .ref mTp, .int (iI tn), .int (iI so), .int (iI be), .int (iI te), .long wd, .int (iI va), .int gd, .ref mBo, .ref mSo, .ref mSh, .ref mLe, .ref mIm, .ref mBf, .int ik])), (mF, .inl (cI, 7, .inl (ar fd)))] (some (.int (iI (-1000000001)))) [(m, .inr (4, [.ref mR, .ref mF, .ref mT, .ref mB, .ref mTp, .int (iI tn), .int (iI so), .int (iI be), .int (iI te), .long wd, .int (iI va), .int gd, .ref mBo, .ref mSo, .ref mSh, .ref mLe, .ref mIm, .ref mBf, .int ik])), (mF, .inl (cI, 7, .inl (ar (fnd fd 0))))] := by
  refine CtE.of (own := RX4) (lv := [(0, .ref m), (1, .int (iI s)), (2, .int (iI c)), (3, .int (iI o))]) (by decide) rfl rfl (Nat.le_of_ble_eq_true rfl) ?_
  intro xp xe xs xm xb xt xc
  refine z_aload_n (pc := 0) dX4_read_0 0 rfl ?_
  refine z_iload_n (pc := 1) dX4_read_1 1 rfl ?_
  refine z_callV (pc := 2) (st := []) (st2 := [.int (iI (-1000000001))]) (ws2 := [(m, .inr (4, [.ref mR, .ref mF, .ref mT, .ref mB, .ref mTp, .int (iI tn), .int (iI so), .int (iI be), .int (iI te), .long wd, .int (iI va), .int gd, .ref mBo, .ref mSo, .ref mSh, .ref mLe, .ref mIm, .ref mBf, .int ik])), (mF, .inl (cI, 7, .inl (ar fd)))]) (q0 := 0) (c_X4_badSheet_o l D cI cJ cB cS xa m mR mF mT mB mTp mBo mSo mSh mLe mIm mBf tn so be te va wd gd ik s (by omega) (by omega)) mV_X4_badSheet kM_X4_258 dX4_read_2 rfl rfl [0] rfl rfl rfl rfl rfl rfl rfl rfl ⟨Nat.le_of_ble_eq_true rfl, Nat.le_of_ble_eq_true rfl, Nat.le_of_ble_eq_true rfl⟩ ?_
  refine z_istore (pc := 5) (lv2 := [(4, .int (iI (-1000000001))), (0, .ref m), (1, .int (iI s)), (2, .int (iI c)), (3, .int (iI o))]) dX4_read_5 (by decide) rfl ?_
  refine z_iload (pc := 7) dX4_read_7 0 rfl ?_
  refine z_if_eq (pc := 9) (tgt := 19) dX4_read_9 (by decide) (by omega) (fun h9 => ?_) (fun h9 => ?_)
  · skip
    exfalso; omega
  · skip
    refine z_aload_n (pc := 12) dX4_read_12 1 rfl ?_
    refine z_iload (pc := 13) dX4_read_13 0 rfl ?_
    refine z_callV (pc := 15) (st := []) (st2 := [.int (iI (-1000000001))]) (ws2 := [(m, .inr (4, [.ref mR, .ref mF, .ref mT, .ref mB, .ref mTp, .int (iI tn), .int (iI so), .int (iI be), .int (iI te), .long wd, .int (iI va), .int gd, .ref mBo, .ref mSo, .ref mSh, .ref mLe, .ref mIm, .ref mBf, .int ik])), (mF, .inl (cI, 7, .inl (ar (fnd fd 0))))]) (q0 := 0) (c_X4_finds l D cI cJ cB cS xa m mR mF mT mB mTp mBo mSo mSh mLe mIm mBf tn so be te va wd gd ik fd (-1000000001) 0 (by omega) (by omega)) mV_X4_finds kM_X4_53 dX4_read_15 rfl rfl [0, 1] rfl rfl rfl rfl rfl rfl rfl rfl ⟨Nat.le_of_ble_eq_true rfl, Nat.le_of_ble_eq_true rfl, Nat.le_of_ble_eq_true rfl⟩ ?_
    exact z_iret (pc := 18) dX4_read_18 rfl rfl
set_option maxHeartbeats 8000000 in
set_option maxRecDepth 100000 in
theorem c_X4_lays_m (l : Launch) (D : va_G) (cI cJ cB cS : ClassId) (xa : XA) (m mR mF mT mB mTp mBo mSo mSh mLe mIm mBf : Nat) (tn so be te va : Int) (wd : Int64) (gd ik : Int32) (bi : FF) (fd : FF) (s : Int) (hs : 0 ≤ s ∧ s ≤ 3) (h0 : bi s = 0) : Ct l D cI cJ cB cS xa yX4_lays cX4_lays 7 (some .int) 3 63 [.ref m, .int (iI s)] [(m, .inr (4, [.ref mR, .ref mF, .ref mT, .ref mB, .ref mTp, .int (iI tn), .int (iI so), .int (iI be), .int (iI te), .long wd, .int (iI va), .int gd, .ref mBo, .ref mSo, .ref mSh, .ref mLe, .ref mIm, .ref mBf, .int ik])), (mF, .inl (cI, 7, .inl (ar fd))), (mBo, .inl (cI, 4, .inl (ar bi)))] (some (.int (iI (-1000000006)))) [(m, .inr (4, [.ref mR, .ref mF, .ref mT, .ref mB, .ref mTp, .int (iI tn), .int (iI so), .int (iI be), .int (iI te), .long wd, .int (iI va), .int gd, .ref mBo, .ref mSo, .ref mSh, .ref mLe, .ref mIm, .ref mBf, .int ik])), (mF, .inl (cI, 7, .inl (ar (fnd fd 5)))), (mBo, .inl (cI, 4, .inl (ar bi)))] := by
  refine CtE.of (own := RX4) (lv := [(0, .ref m), (1, .int (iI s))]) (by decide) rfl rfl (Nat.le_of_ble_eq_true rfl) ?_
  intro xp xe xs xm xb xt xc
  refine z_aload_n (pc := 0) dX4_lays_0 0 rfl ?_
  refine z_iload_n (pc := 1) dX4_lays_1 1 rfl ?_
  refine z_callV (pc := 2) (st := []) (st2 := [.int (iI (-1000000006))]) (ws2 := [(m, .inr (4, [.ref mR, .ref mF, .ref mT, .ref mB, .ref mTp, .int (iI tn), .int (iI so), .int (iI be), .int (iI te), .long wd, .int (iI va), .int gd, .ref mBo, .ref mSo, .ref mSh, .ref mLe, .ref mIm, .ref mBf, .int ik])), (mF, .inl (cI, 7, .inl (ar fd))), (mBo, .inl (cI, 4, .inl (ar bi)))]) (q0 := 0) (c_X4_badSheet_m l D cI cJ cB cS xa m mR mF mT mB mTp mBo mSo mSh mLe mIm mBf tn so be te va wd gd ik bi s (by omega) (by assumption)) mV_X4_badSheet kM_X4_258 dX4_lays_2 rfl rfl [0, 2] rfl rfl rfl rfl rfl rfl rfl rfl ⟨Nat.le_of_ble_eq_true rfl, Nat.le_of_ble_eq_true rfl, Nat.le_of_ble_eq_true rfl⟩ ?_
  refine z_istore_n (pc := 5) (lv2 := [(2, .int (iI (-1000000006))), (0, .ref m), (1, .int (iI s))]) dX4_lays_5 rfl (by decide) rfl ?_
  refine z_iload_n (pc := 6) dX4_lays_6 0 rfl ?_
  refine z_if_eq (pc := 7) (tgt := 16) dX4_lays_7 (by decide) (by omega) (fun h7 => ?_) (fun h7 => ?_)
  · skip
    exfalso; omega
  · skip
    refine z_aload_n (pc := 10) dX4_lays_10 1 rfl ?_
    refine z_iload_n (pc := 11) dX4_lays_11 0 rfl ?_
    refine z_callV (pc := 12) (st := []) (st2 := [.int (iI (-1000000006))]) (ws2 := [(m, .inr (4, [.ref mR, .ref mF, .ref mT, .ref mB, .ref mTp, .int (iI tn), .int (iI so), .int (iI be), .int (iI te), .long wd, .int (iI va), .int gd, .ref mBo, .ref mSo, .ref mSh, .ref mLe, .ref mIm, .ref mBf, .int ik])), (mF, .inl (cI, 7, .inl (ar (fnd fd 5)))), (mBo, .inl (cI, 4, .inl (ar bi)))]) (q0 := 0) (c_X4_finds l D cI cJ cB cS xa m mR mF mT mB mTp mBo mSo mSh mLe mIm mBf tn so be te va wd gd ik fd (-1000000006) 5 (by omega) (by omega)) mV_X4_finds kM_X4_53 dX4_lays_12 rfl rfl [0, 1] rfl rfl rfl rfl rfl rfl rfl rfl ⟨Nat.le_of_ble_eq_true rfl, Nat.le_of_ble_eq_true rfl, Nat.le_of_ble_eq_true rfl⟩ ?_
    exact z_iret (pc := 15) dX4_lays_15 rfl rfl
set_option maxHeartbeats 8000000 in
set_option maxRecDepth 100000 in
theorem c_X4_book_m (l : Launch) (D : va_G) (cI cJ cB cS : ClassId) (xa : XA) (m mR mF mT mB mTp mBo mSo mSh mLe mIm mBf : Nat) (tn so be te va : Int) (wd : Int64) (gd ik : Int32) (bi : FF) (fd : FF) (s c : Int) (hs : 0 ≤ s ∧ s ≤ 3) (h0 : bi s = 0) (rc : inr c) : Ct l D cI cJ cB cS xa yX4_book cX4_book 5 (some .int) 3 63 [.ref m, .int (iI s), .int (iI c)] [(m, .inr (4, [.ref mR, .ref mF, .ref mT, .ref mB, .ref mTp, .int (iI tn), .int (iI so), .int (iI be), .int (iI te), .long wd, .int (iI va), .int gd, .ref mBo, .ref mSo, .ref mSh, .ref mLe, .ref mIm, .ref mBf, .int ik])), (mF, .inl (cI, 7, .inl (ar fd))), (mBo, .inl (cI, 4, .inl (ar bi)))] (some (.int (iI (-1000000006)))) [(m, .inr (4, [.ref mR, .ref mF, .ref mT, .ref mB, .ref mTp, .int (iI tn), .int (iI so), .int (iI be), .int (iI te), .long wd, .int (iI va), .int gd, .ref mBo, .ref mSo, .ref mSh, .ref mLe, .ref mIm, .ref mBf, .int ik])), (mF, .inl (cI, 7, .inl (ar (fnd fd 5)))), (mBo, .inl (cI, 4, .inl (ar bi)))] := by
  refine CtE.of (own := RX4) (lv := [(0, .ref m), (1, .int (iI s)), (2, .int (iI c))]) (by decide) rfl rfl (Nat.le_of_ble_eq_true rfl) ?_
  intro xp xe xs xm xb xt xc
  refine z_aload_n (pc := 0) dX4_book_0 0 rfl ?_
  refine z_iload_n (pc := 1) dX4_book_1 1 rfl ?_
  refine z_callV (pc := 2) (st := []) (st2 := [.int (iI (-1000000006))]) (ws2 := [(m, .inr (4, [.ref mR, .ref mF, .ref mT, .ref mB, .ref mTp, .int (iI tn), .int (iI so), .int (iI be), .int (iI te), .long wd, .int (iI va), .int gd, .ref mBo, .ref mSo, .ref mSh, .ref mLe, .ref mIm, .ref mBf, .int ik])), (mF, .inl (cI, 7, .inl (ar fd))), (mBo, .inl (cI, 4, .inl (ar bi)))]) (q0 := 0) (c_X4_badSheet_m l D cI cJ cB cS xa m mR mF mT mB mTp mBo mSo mSh mLe mIm mBf tn so be te va wd gd ik bi s (by omega) (by assumption)) mV_X4_badSheet kM_X4_258 dX4_book_2 rfl rfl [0, 2] rfl rfl rfl rfl rfl rfl rfl rfl ⟨Nat.le_of_ble_eq_true rfl, Nat.le_of_ble_eq_true rfl, Nat.le_of_ble_eq_true rfl⟩ ?_
  refine z_istore_n (pc := 5) (lv2 := [(3, .int (iI (-1000000006))), (0, .ref m), (1, .int (iI s)), (2, .int (iI c))]) dX4_book_5 rfl (by decide) rfl ?_
  refine z_iload_n (pc := 6) dX4_book_6 0 rfl ?_
  refine z_if_eq (pc := 7) (tgt := 16) dX4_book_7 (by decide) (by omega) (fun h7 => ?_) (fun h7 => ?_)
  · skip
    exfalso; omega
  · skip
    refine z_aload_n (pc := 10) dX4_book_10 1 rfl ?_
    refine z_iload_n (pc := 11) dX4_book_11 0 rfl ?_
    refine z_callV (pc := 12) (st := []) (st2 := [.int (iI (-1000000006))]) (ws2 := [(m, .inr (4, [.ref mR, .ref mF, .ref mT, .ref mB, .ref mTp, .int (iI tn), .int (iI so), .int (iI be), .int (iI te), .long wd, .int (iI va), .int gd, .ref mBo, .ref mSo, .ref mSh, .ref mLe, .ref mIm, .ref mBf, .int ik])), (mF, .inl (cI, 7, .inl (ar (fnd fd 5)))), (mBo, .inl (cI, 4, .inl (ar bi)))]) (q0 := 0) (c_X4_finds l D cI cJ cB cS xa m mR mF mT mB mTp mBo mSo mSh mLe mIm mBf tn so be te va wd gd ik fd (-1000000006) 5 (by omega) (by omega)) mV_X4_finds kM_X4_53 dX4_book_12 rfl rfl [0, 1] rfl rfl rfl rfl rfl rfl rfl rfl ⟨Nat.le_of_ble_eq_true rfl, Nat.le_of_ble_eq_true rfl, Nat.le_of_ble_eq_true rfl⟩ ?_
    exact z_iret (pc := 15) dX4_book_15 rfl rfl
set_option maxHeartbeats 8000000 in
set_option maxRecDepth 100000 in
theorem c_X4_read_m (l : Launch) (D : va_G) (cI cJ cB cS : ClassId) (xa : XA) (m mR mF mT mB mTp mBo mSo mSh mLe mIm mBf : Nat) (tn so be te va : Int) (wd : Int64) (gd ik : Int32) (bi : FF) (fd : FF) (s c o : Int) (hs : 0 ≤ s ∧ s ≤ 3) (h0 : bi s = 0) (rc : inr c) (ro : inr o) : Ct l D cI cJ cB cS xa yX4_read cX4_read 7 (some .int) 3 63 [.ref m, .int (iI s), .int (iI c), .int (iI o)] [(m, .inr (4, [.ref mR, .ref mF, .ref mT, .ref mB, .ref mTp, .int (iI tn), .int (iI so), .int (iI be), .int (iI te), .long wd, .int (iI va), .int gd, .ref mBo, .ref mSo, .ref mSh, .ref mLe, .ref mIm, .ref mBf, .int ik])), (mF, .inl (cI, 7, .inl (ar fd))), (mBo, .inl (cI, 4, .inl (ar bi)))] (some (.int (iI (-1000000006)))) [(m, .inr (4, [.ref mR, .ref mF, .ref mT, .ref mB, .ref mTp, .int (iI tn), .int (iI so), .int (iI be), .int (iI te), .long wd, .int (iI va), .int gd, .ref mBo, .ref mSo, .ref mSh, .ref mLe, .ref mIm, .ref mBf, .int ik])), (mF, .inl (cI, 7, .inl (ar (fnd fd 5)))), (mBo, .inl (cI, 4, .inl (ar bi)))] := by
  refine CtE.of (own := RX4) (lv := [(0, .ref m), (1, .int (iI s)), (2, .int (iI c)), (3, .int (iI o))]) (by decide) rfl rfl (Nat.le_of_ble_eq_true rfl) ?_
  intro xp xe xs xm xb xt xc
  refine z_aload_n (pc := 0) dX4_read_0 0 rfl ?_
  refine z_iload_n (pc := 1) dX4_read_1 1 rfl ?_
  refine z_callV (pc := 2) (st := []) (st2 := [.int (iI (-1000000006))]) (ws2 := [(m, .inr (4, [.ref mR, .ref mF, .ref mT, .ref mB, .ref mTp, .int (iI tn), .int (iI so), .int (iI be), .int (iI te), .long wd, .int (iI va), .int gd, .ref mBo, .ref mSo, .ref mSh, .ref mLe, .ref mIm, .ref mBf, .int ik])), (mF, .inl (cI, 7, .inl (ar fd))), (mBo, .inl (cI, 4, .inl (ar bi)))]) (q0 := 0) (c_X4_badSheet_m l D cI cJ cB cS xa m mR mF mT mB mTp mBo mSo mSh mLe mIm mBf tn so be te va wd gd ik bi s (by omega) (by assumption)) mV_X4_badSheet kM_X4_258 dX4_read_2 rfl rfl [0, 2] rfl rfl rfl rfl rfl rfl rfl rfl ⟨Nat.le_of_ble_eq_true rfl, Nat.le_of_ble_eq_true rfl, Nat.le_of_ble_eq_true rfl⟩ ?_
  refine z_istore (pc := 5) (lv2 := [(4, .int (iI (-1000000006))), (0, .ref m), (1, .int (iI s)), (2, .int (iI c)), (3, .int (iI o))]) dX4_read_5 (by decide) rfl ?_
  refine z_iload (pc := 7) dX4_read_7 0 rfl ?_
  refine z_if_eq (pc := 9) (tgt := 19) dX4_read_9 (by decide) (by omega) (fun h9 => ?_) (fun h9 => ?_)
  · skip
    exfalso; omega
  · skip
    refine z_aload_n (pc := 12) dX4_read_12 1 rfl ?_
    refine z_iload (pc := 13) dX4_read_13 0 rfl ?_
    refine z_callV (pc := 15) (st := []) (st2 := [.int (iI (-1000000006))]) (ws2 := [(m, .inr (4, [.ref mR, .ref mF, .ref mT, .ref mB, .ref mTp, .int (iI tn), .int (iI so), .int (iI be), .int (iI te), .long wd, .int (iI va), .int gd, .ref mBo, .ref mSo, .ref mSh, .ref mLe, .ref mIm, .ref mBf, .int ik])), (mF, .inl (cI, 7, .inl (ar (fnd fd 5)))), (mBo, .inl (cI, 4, .inl (ar bi)))]) (q0 := 0) (c_X4_finds l D cI cJ cB cS xa m mR mF mT mB mTp mBo mSo mSh mLe mIm mBf tn so be te va wd gd ik fd (-1000000006) 5 (by omega) (by omega)) mV_X4_finds kM_X4_53 dX4_read_15 rfl rfl [0, 1] rfl rfl rfl rfl rfl rfl rfl rfl ⟨Nat.le_of_ble_eq_true rfl, Nat.le_of_ble_eq_true rfl, Nat.le_of_ble_eq_true rfl⟩ ?_
    exact z_iret (pc := 18) dX4_read_18 rfl rfl
set_option maxHeartbeats 8000000 in
set_option maxRecDepth 100000 in
theorem c_X4_lays_g (l : Launch) (D : va_G) (cI cJ cB cS : ClassId) (xa : XA) (m mR mF mT mB mTp mBo mSo mSh mLe mIm mBf : Nat) (tn so be te va : Int) (wd : Int64) (gd ik : Int32) (g : Gd) (bi si : FF) (sv : Int → LL) (fd : FF) (s : Int) (ok : Ok g) (hs : 0 ≤ s ∧ s ≤ 3) (h0 : bi s ≠ 0) (hbs : 0 ≤ bi s ∧ bi s ≤ 64) (hss : 0 ≤ si s ∧ si s ≤ 40) : Ct l D cI cJ cB cS xa yX4_lays cX4_lays 7 (some .int) 3 63 [.ref m, .int (iI s)] [(m, .inr (4, [.ref mR, .ref mF, .ref mT, .ref mB, .ref mTp, .int (iI tn), .int (iI so), .int (iI be), .int (iI te), .long wd, .int (iI va), .int gd, .ref mBo, .ref mSo, .ref mSh, .ref mLe, .ref mIm, .ref mBf, .int ik])), (mR, .inl (cI, 35, .inl (rowA g))), (mF, .inl (cI, 7, .inl (ar fd))), (mBo, .inl (cI, 4, .inl (ar bi))), (mSo, .inl (cI, 4, .inl (ar si))), (mSh, .inl (cJ, 160, .inr (.inl (shA sv))))] (some (.int ((opLays g (bi s) (si s) (sv s) fd).1))) [(m, .inr (4, [.ref mR, .ref mF, .ref mT, .ref mB, .ref mTp, .int (iI tn), .int (iI so), .int (iI be), .int (iI te), .long wd, .int (iI va), .int gd, .ref mBo, .ref mSo, .ref mSh, .ref mLe, .ref mIm, .ref mBf, .int ik])), (mR, .inl (cI, 35, .inl (rowA ((opLays g (bi s) (si s) (sv s) fd).2.1)))), (mF, .inl (cI, 7, .inl (ar ((opLays g (bi s) (si s) (sv s) fd).2.2)))), (mBo, .inl (cI, 4, .inl (ar bi))), (mSo, .inl (cI, 4, .inl (ar si))), (mSh, .inl (cJ, 160, .inr (.inl (shA sv))))] := by
  have o0 := ok0 ok
  have o1 := ok1 ok
  have o2 := ok2 ok
  refine CtE.of (own := RX4) (lv := [(0, .ref m), (1, .int (iI s))]) (by decide) rfl rfl (Nat.le_of_ble_eq_true rfl) ?_
  intro xp xe xs xm xb xt xc
  refine z_aload_n (pc := 0) dX4_lays_0 0 rfl ?_
  refine z_iload_n (pc := 1) dX4_lays_1 1 rfl ?_
  refine z_callV (pc := 2) (st := []) (st2 := [.int (iI 0)]) (ws2 := [(m, .inr (4, [.ref mR, .ref mF, .ref mT, .ref mB, .ref mTp, .int (iI tn), .int (iI so), .int (iI be), .int (iI te), .long wd, .int (iI va), .int gd, .ref mBo, .ref mSo, .ref mSh, .ref mLe, .ref mIm, .ref mBf, .int ik])), (mR, .inl (cI, 35, .inl (rowA g))), (mF, .inl (cI, 7, .inl (ar fd))), (mBo, .inl (cI, 4, .inl (ar bi))), (mSo, .inl (cI, 4, .inl (ar si))), (mSh, .inl (cJ, 160, .inr (.inl (shA sv))))]) (q0 := 0) (c_X4_badSheet_g l D cI cJ cB cS xa m mR mF mT mB mTp mBo mSo mSh mLe mIm mBf tn so be te va wd gd ik bi s (by omega) (by assumption) (by omega)) mV_X4_badSheet kM_X4_258 dX4_lays_2 rfl rfl [0, 3] rfl rfl rfl rfl rfl rfl rfl rfl ⟨Nat.le_of_ble_eq_true rfl, Nat.le_of_ble_eq_true rfl, Nat.le_of_ble_eq_true rfl⟩ ?_
  refine z_istore_n (pc := 5) (lv2 := [(2, .int (iI 0)), (0, .ref m), (1, .int (iI s))]) dX4_lays_5 rfl (by decide) rfl ?_
  refine z_iload_n (pc := 6) dX4_lays_6 0 rfl ?_
  refine z_if_eq (pc := 7) (tgt := 16) dX4_lays_7 (by decide) (by omega) (fun h7 => ?_) (fun h7 => ?_)
  · skip
    refine z_iconst (pc := 16) dX4_lays_16 ?_
    refine z_istore_n (pc := 17) (lv2 := [(3, .int (iI 0)), (2, .int (iI 0)), (0, .ref m), (1, .int (iI s))]) dX4_lays_17 rfl (by decide) rfl ?_
    refine z_iconst (pc := 18) dX4_lays_18 ?_
    refine z_istore (pc := 19) (lv2 := [(4, .int (iI 0)), (3, .int (iI 0)), (2, .int (iI 0)), (0, .ref m), (1, .int (iI s))]) dX4_lays_19 (by decide) rfl ?_
    have LP21 : ∀ (nn_ : Nat) (i : Int) (n : Int) (gg : Gd), (0 ≤ i) → (i ≤ si s ∧ i ≤ g 4 2) → ((gg, n) = layN g (sv s) i.toNat) → (40 - i).toNat < nn_ → Z xp l xe { frames := 3, cells := 0, slots := 0, locals := 63 } xs xm ([.ref m, .int (iI s)] : List Value).toArray xb xt xc 0 0 (MQ xb (Cq (S := Unit) D [(m, .inr (4, [.ref mR, .ref mF, .ref mT, .ref mB, .ref mTp, .int (iI tn), .int (iI so), .int (iI be), .int (iI te), .long wd, .int (iI va), .int gd, .ref mBo, .ref mSo, .ref mSh, .ref mLe, .ref mIm, .ref mBf, .int ik])), (mR, .inl (cI, 35, .inl (rowA g))), (mF, .inl (cI, 7, .inl (ar fd))), (mBo, .inl (cI, 4, .inl (ar bi))), (mSo, .inl (cI, 4, .inl (ar si))), (mSh, .inl (cJ, 160, .inr (.inl (shA sv))))] (fun _ => True) (fun _ => (some (.int ((opLays g (bi s) (si s) (sv s) fd).1)))) (fun _ => [(m, .inr (4, [.ref mR, .ref mF, .ref mT, .ref mB, .ref mTp, .int (iI tn), .int (iI so), .int (iI be), .int (iI te), .long wd, .int (iI va), .int gd, .ref mBo, .ref mSo, .ref mSh, .ref mLe, .ref mIm, .ref mBf, .int ik])), (mR, .inl (cI, 35, .inl (rowA ((opLays g (bi s) (si s) (sv s) fd).2.1)))), (mF, .inl (cI, 7, .inl (ar ((opLays g (bi s) (si s) (sv s) fd).2.2)))), (mBo, .inl (cI, 4, .inl (ar bi))), (mSo, .inl (cI, 4, .inl (ar si))), (mSh, .inl (cJ, 160, .inr (.inl (shA sv))))])) ([.ref m, .int (iI s)] : List Value).toArray xs 0 0 (va_A0 [(m, .inr (4, [.ref mR, .ref mF, .ref mT, .ref mB, .ref mTp, .int (iI tn), .int (iI so), .int (iI be), .int (iI te), .long wd, .int (iI va), .int gd, .ref mBo, .ref mSo, .ref mSh, .ref mLe, .ref mIm, .ref mBf, .int ik])), (mR, .inl (cI, 35, .inl (rowA g))), (mF, .inl (cI, 7, .inl (ar fd))), (mBo, .inl (cI, 4, .inl (ar bi))), (mSo, .inl (cI, 4, .inl (ar si))), (mSh, .inl (cJ, 160, .inr (.inl (shA sv))))])) cX4_lays RX4 7 (some .int) D cI cJ cB cS xa (va_A0 [(m, .inr (4, [.ref mR, .ref mF, .ref mT, .ref mB, .ref mTp, .int (iI tn), .int (iI so), .int (iI be), .int (iI te), .long wd, .int (iI va), .int gd, .ref mBo, .ref mSo, .ref mSh, .ref mLe, .ref mIm, .ref mBf, .int ik])), (mR, .inl (cI, 35, .inl (rowA g))), (mF, .inl (cI, 7, .inl (ar fd))), (mBo, .inl (cI, 4, .inl (ar bi))), (mSo, .inl (cI, 4, .inl (ar si))), (mSh, .inl (cJ, 160, .inr (.inl (shA sv))))]) [(m, .inr (4, [.ref mR, .ref mF, .ref mT, .ref mB, .ref mTp, .int (iI tn), .int (iI so), .int (iI be), .int (iI te), .long wd, .int (iI va), .int gd, .ref mBo, .ref mSo, .ref mSh, .ref mLe, .ref mIm, .ref mBf, .int ik])), (mR, .inl (cI, 35, .inl (rowA gg))), (mF, .inl (cI, 7, .inl (ar fd))), (mBo, .inl (cI, 4, .inl (ar bi))), (mSo, .inl (cI, 4, .inl (ar si))), (mSh, .inl (cJ, 160, .inr (.inl (shA sv))))] [(0, .ref m), (1, .int (iI s)), (2, .int (iI 0)), (3, .int (iI n)), (4, .int (iI i))] 21 [] := by
      intro nn_
      induction nn_ with
      | zero => intro i n gg hi0 hi1 hb hms; exact absurd hms (Nat.not_lt_zero _)
      | succ nn_ ih =>
        intro i n gg hi0 hi1 hb hms
        have q4 : gg 4 2 = g 4 2 := by have := layN_4 g (sv s) 2 i.toNat; rw [← hb] at this; exact this
        have ih21 := ih
        clear ih
        refine z_iload (pc := 21) dX4_lays_21 4 rfl ?_
        refine z_aload_n (pc := 23) dX4_lays_23 0 rfl ?_
        refine z_get (pc := 24) (q0 := 0) (v := .ref mSo) fL_X4_28 dX4_lays_24 rfl rfl ?_
        refine z_iload_n (pc := 27) dX4_lays_27 1 rfl ?_
        refine z_iald (pc := 28) (q0 := 4) (v := (iI (si s))) dX4_lays_28 rfl (by omega) (by decide) (ar_at (by omega)) ?_
        refine z_icmp_ge (pc := 29) (tgt := 92) dX4_lays_29 (by decide) (by omega) (by omega) (fun h29 => ?_) (fun h29 => ?_)
        · skip
          refine z_iload_n (pc := 92) dX4_lays_92 3 rfl ?_
          have e9 : opLays g (bi s) (si s) (sv s) fd = ((iI n), gg, fd) := by
            unfold opLays; rw [if_neg h0, show min (si s) (g 4 2) = i by omega, ← hb]
          exact z_iret (pc := 93) dX4_lays_93 (by rw [e9]) (by rw [e9])
        · skip
          refine z_iload (pc := 32) dX4_lays_32 4 rfl ?_
          refine z_aload_n (pc := 34) dX4_lays_34 0 rfl ?_
          refine z_get (pc := 35) (q0 := 0) (v := .ref mR) fL_X4_7 dX4_lays_35 rfl rfl ?_
          refine z_iconst (pc := 38) dX4_lays_38 ?_
          refine z_iald (pc := 39) (q0 := 1) (v := (iI (gg 4 2))) dX4_lays_39 rfl (by omega) (by decide) (rowA_4 (by decide) (by decide)) ?_
          refine z_icmp_ge (pc := 40) (tgt := 92) dX4_lays_40 (by decide) (by omega) (by omega) (fun h40 => ?_) (fun h40 => ?_)
          · skip
            refine z_iload_n (pc := 92) dX4_lays_92 3 rfl ?_
            have e9 : opLays g (bi s) (si s) (sv s) fd = ((iI n), gg, fd) := by
              unfold opLays; rw [if_neg h0, show min (si s) (g 4 2) = i by omega, ← hb]
            exact z_iret (pc := 93) dX4_lays_93 (by rw [e9]) (by rw [e9])
          · skip
            refine z_aload_n (pc := 43) dX4_lays_43 0 rfl ?_
            refine z_get (pc := 44) (q0 := 0) (v := .ref mSh) fL_X4_31 dX4_lays_44 rfl rfl ?_
            refine z_bipush (pc := 47) dX4_lays_47 (by decide) ?_
            refine z_iload_n (pc := 49) dX4_lays_49 1 rfl ?_
            refine z_imul (pc := 50) dX4_lays_50 ?_
            refine z_iload (pc := 51) dX4_lays_51 4 rfl ?_
            refine z_iadd (pc := 53) dX4_lays_53 ?_
            refine z_lald (pc := 54) (q0 := 5) (v := (sv s i)) dX4_lays_54 rfl (by omega) (by decide) (shA_at (by omega) (by omega) (by omega) (by omega)) ?_
            refine z_lstore (pc := 55) (lv2 := [(5, .long (sv s i)), (0, .ref m), (1, .int (iI s)), (2, .int (iI 0)), (3, .int (iI n)), (4, .int (iI i))]) dX4_lays_55 (by decide) rfl ?_
            refine z_lload (pc := 57) dX4_lays_57 0 rfl ?_
            refine z_lconst (pc := 59) (v := 0) dX4_lays_59 (by decide) ?_
            refine z_lcmp (pc := 60) dX4_lays_60 ?_
            refine z_ifr_lt (pc := 61) (tgt := 86) dX4_lays_61 (by decide) (fun h61 => ?_) (fun h61 => ?_)
            · skip
              have h61b := (cmp_lt _ _).mp h61
              have e0 : (0 : Int64).toInt = 0 := by decide
              refine z_iinc (pc := 86) (lv2 := [(4, .int (iI (i + 1))), (5, .long (sv s i)), (0, .ref m), (1, .int (iI s)), (2, .int (iI 0)), (3, .int (iI n))]) dX4_lays_86 5 rfl (by decide) rfl ?_
              refine z_goto (pc := 89) (tgt := 21) dX4_lays_89 (by decide) ?_
              refine z_lv (lv2 := [(0, .ref m), (1, .int (iI s)), (2, .int (iI 0)), (3, .int (iI n)), (4, .int (iI (i + 1)))]) [2, 3, 4, 5, 0] rfl ?_
              exact ih21 (i + 1) n gg (by omega) (by omega) ((layp_f hi0 hb (by omega))) (by omega)
            · skip
              have h61b := Int.not_lt.mp (fun z => h61 ((cmp_lt _ _).mpr z))
              have e0 : (0 : Int64).toInt = 0 := by decide
              refine z_lload (pc := 64) dX4_lays_64 0 rfl ?_
              refine z_ldc2 (pc := 66) kL_X4_261 dX4_lays_66 ?_
              refine z_lcmp (pc := 69) dX4_lays_69 ?_
              refine z_ifr_gt (pc := 70) (tgt := 86) dX4_lays_70 (by decide) (fun h70 => ?_) (fun h70 => ?_)
              · skip
                have h70b := (cmp_gt _ _).mp h70
                have e2 : (200 : Int64).toInt = 200 := by decide
                refine z_iinc (pc := 86) (lv2 := [(4, .int (iI (i + 1))), (5, .long (sv s i)), (0, .ref m), (1, .int (iI s)), (2, .int (iI 0)), (3, .int (iI n))]) dX4_lays_86 5 rfl (by decide) rfl ?_
                refine z_goto (pc := 89) (tgt := 21) dX4_lays_89 (by decide) ?_
                refine z_lv (lv2 := [(0, .ref m), (1, .int (iI s)), (2, .int (iI 0)), (3, .int (iI n)), (4, .int (iI (i + 1)))]) [2, 3, 4, 5, 0] rfl ?_
                exact ih21 (i + 1) n gg (by omega) (by omega) ((layp_f hi0 hb (by omega))) (by omega)
              · skip
                have h70b := Int.not_lt.mp (fun z => h70 ((cmp_gt _ _).mpr z))
                have e2 : (200 : Int64).toInt = 200 := by decide
                refine z_aload_n (pc := 73) dX4_lays_73 1 rfl ?_
                refine z_iload (pc := 74) dX4_lays_74 5 rfl ?_
                refine z_iconst (pc := 76) dX4_lays_76 ?_
                refine z_lload (pc := 77) dX4_lays_77 0 rfl ?_
                refine z_l2i (pc := 79) dX4_lays_79 ?_
                refine z_st (st2 := [.int (iI ((sv s i).toInt)), .int (iI 1), .int (iI i), .ref m]) (by rw [l2i_I]) ?_
                refine z_callV (pc := 80) (st := []) (st2 := []) (ws2 := [(m, .inr (4, [.ref mR, .ref mF, .ref mT, .ref mB, .ref mTp, .int (iI tn), .int (iI so), .int (iI be), .int (iI te), .long wd, .int (iI va), .int gd, .ref mBo, .ref mSo, .ref mSh, .ref mLe, .ref mIm, .ref mBf, .int ik])), (mR, .inl (cI, 35, .inl (rowA (up2 gg 1 i ((sv s i).toInt))))), (mF, .inl (cI, 7, .inl (ar fd))), (mBo, .inl (cI, 4, .inl (ar bi))), (mSo, .inl (cI, 4, .inl (ar si))), (mSh, .inl (cJ, 160, .inr (.inl (shA sv))))]) (q0 := 0) (c_X4_puts l D cI cJ cB cS xa m mR mF mT mB mTp mBo mSo mSh mLe mIm mBf tn so be te va wd gd ik gg i 1 ((sv s i).toInt) (by omega) (by omega)) mV_X4_puts kM_X4_86 dX4_lays_80 rfl rfl [0, 1] rfl rfl rfl rfl rfl rfl rfl rfl ⟨Nat.le_of_ble_eq_true rfl, Nat.le_of_ble_eq_true rfl, Nat.le_of_ble_eq_true rfl⟩ ?_
                refine z_iinc (pc := 83) (lv2 := [(3, .int (iI (n + 1))), (5, .long (sv s i)), (0, .ref m), (1, .int (iI s)), (2, .int (iI 0)), (4, .int (iI i))]) dX4_lays_83 4 rfl (by decide) rfl ?_
                refine z_iinc (pc := 86) (lv2 := [(4, .int (iI (i + 1))), (3, .int (iI (n + 1))), (5, .long (sv s i)), (0, .ref m), (1, .int (iI s)), (2, .int (iI 0))]) dX4_lays_86 5 rfl (by decide) rfl ?_
                refine z_goto (pc := 89) (tgt := 21) dX4_lays_89 (by decide) ?_
                refine z_lv (lv2 := [(0, .ref m), (1, .int (iI s)), (2, .int (iI 0)), (3, .int (iI (n + 1))), (4, .int (iI (i + 1)))]) [3, 4, 5, 1, 0] rfl ?_
                exact ih21 (i + 1) (n + 1) (up2 gg 1 i ((sv s i).toInt)) (by omega) (by omega) ((layp_t hi0 hb (by omega))) (by omega)
    refine z_lv (lv2 := [(0, .ref m), (1, .int (iI s)), (2, .int (iI 0)), (3, .int (iI 0)), (4, .int (iI 0))]) [3, 4, 2, 1, 0] rfl ?_
    exact LP21 _ 0 0 g (by omega) (by omega) (by rfl) (Nat.lt_succ_self _)
  · skip
    exfalso; omega
set_option maxHeartbeats 8000000 in
set_option maxRecDepth 100000 in
theorem c_X4_book_g (l : Launch) (D : va_G) (cI cJ cB cS : ClassId) (xa : XA) (m mR mF mT mB mTp mBo mSo mSh mLe mIm mBf : Nat) (tn so be te va : Int) (wd : Int64) (gd ik : Int32) (g : Gd) (bi si : FF) (sv : Int → LL) (fd : FF) (ft : Nat → Int32) (s c : Int) (ok : Ok g) (hs : 0 ≤ s ∧ s ≤ 3) (h0 : bi s ≠ 0) (hbs : 0 ≤ bi s ∧ bi s ≤ 64) (hss : 0 ≤ si s ∧ si s ≤ 40) (rc : inr c) (hm : g 4 0 ≤ 99999) : CtE (S := (Nat → Int32)) l D cI cJ cB cS xa yX4_book cX4_book 5 (some .int) 4 91 [.ref m, .int (iI s), .int (iI c)] [(m, .inr (4, [.ref mR, .ref mF, .ref mT, .ref mB, .ref mTp, .int (iI tn), .int (iI so), .int (iI be), .int (iI te), .long wd, .int (iI va), .int gd, .ref mBo, .ref mSo, .ref mSh, .ref mLe, .ref mIm, .ref mBf, .int ik])), (mR, .inl (cI, 35, .inl (rowA g))), (mF, .inl (cI, 7, .inl (ar fd))), (mBo, .inl (cI, 4, .inl (ar bi))), (mSo, .inl (cI, 4, .inl (ar si))), (mSh, .inl (cJ, 160, .inr (.inl (shA sv)))), (mT, .inl (cI, 35, .inl ft))] (fun ft2 : (Nat → Int32) => True) (fun ft2 : (Nat → Int32) => (some (.int ((opBook g c (bi s) (si s) (sv s) fd).1)))) (fun ft2 : (Nat → Int32) => [(m, .inr (4, [.ref mR, .ref mF, .ref mT, .ref mB, .ref mTp, .int (iI tn), .int (iI so), .int (iI be), .int (iI te), .long wd, .int (iI va), .int gd, .ref mBo, .ref mSo, .ref mSh, .ref mLe, .ref mIm, .ref mBf, .int ik])), (mR, .inl (cI, 35, .inl (rowA g))), (mF, .inl (cI, 7, .inl (ar ((opBook g c (bi s) (si s) (sv s) fd).2.2)))), (mBo, .inl (cI, 4, .inl (ar bi))), (mSo, .inl (cI, 4, .inl (ar si))), (mSh, .inl (cJ, 160, .inr (.inl (shA (setS sv s (opBook g c (bi s) (si s) (sv s) fd).2.1))))), (mT, .inl (cI, 35, .inl ft2))]) := by
  have o0 := ok0 ok
  have o1 := ok1 ok
  have o2 := ok2 ok
  refine CtE.of (own := RX4) (lv := [(0, .ref m), (1, .int (iI s)), (2, .int (iI c))]) (by decide) rfl rfl (Nat.le_of_ble_eq_true rfl) ?_
  intro xp xe xs xm xb xt xc
  refine z_aload_n (pc := 0) dX4_book_0 0 rfl ?_
  refine z_iload_n (pc := 1) dX4_book_1 1 rfl ?_
  refine z_callV (pc := 2) (st := []) (st2 := [.int (iI 0)]) (ws2 := [(m, .inr (4, [.ref mR, .ref mF, .ref mT, .ref mB, .ref mTp, .int (iI tn), .int (iI so), .int (iI be), .int (iI te), .long wd, .int (iI va), .int gd, .ref mBo, .ref mSo, .ref mSh, .ref mLe, .ref mIm, .ref mBf, .int ik])), (mR, .inl (cI, 35, .inl (rowA g))), (mF, .inl (cI, 7, .inl (ar fd))), (mBo, .inl (cI, 4, .inl (ar bi))), (mSo, .inl (cI, 4, .inl (ar si))), (mSh, .inl (cJ, 160, .inr (.inl (shA sv)))), (mT, .inl (cI, 35, .inl ft))]) (q0 := 0) (c_X4_badSheet_g l D cI cJ cB cS xa m mR mF mT mB mTp mBo mSo mSh mLe mIm mBf tn so be te va wd gd ik bi s (by omega) (by assumption) (by omega)) mV_X4_badSheet kM_X4_258 dX4_book_2 rfl rfl [0, 3] rfl rfl rfl rfl rfl rfl rfl rfl ⟨Nat.le_of_ble_eq_true rfl, Nat.le_of_ble_eq_true rfl, Nat.le_of_ble_eq_true rfl⟩ ?_
  refine z_istore_n (pc := 5) (lv2 := [(3, .int (iI 0)), (0, .ref m), (1, .int (iI s)), (2, .int (iI c))]) dX4_book_5 rfl (by decide) rfl ?_
  refine z_iload_n (pc := 6) dX4_book_6 0 rfl ?_
  refine z_if_eq (pc := 7) (tgt := 16) dX4_book_7 (by decide) (by omega) (fun h7 => ?_) (fun h7 => ?_)
  · skip
    refine z_aload_n (pc := 16) dX4_book_16 1 rfl ?_
    refine z_iload_n (pc := 17) dX4_book_17 3 rfl ?_
    refine z_callV (pc := 18) (st := []) (st2 := [.int (bI (0 ≤ c ∧ c < g 4 2))]) (ws2 := [(m, .inr (4, [.ref mR, .ref mF, .ref mT, .ref mB, .ref mTp, .int (iI tn), .int (iI so), .int (iI be), .int (iI te), .long wd, .int (iI va), .int gd, .ref mBo, .ref mSo, .ref mSh, .ref mLe, .ref mIm, .ref mBf, .int ik])), (mR, .inl (cI, 35, .inl (rowA g))), (mF, .inl (cI, 7, .inl (ar fd))), (mBo, .inl (cI, 4, .inl (ar bi))), (mSo, .inl (cI, 4, .inl (ar si))), (mSh, .inl (cJ, 160, .inr (.inl (shA sv)))), (mT, .inl (cI, 35, .inl ft))]) (q0 := 0) (c_X4_isOne l D cI cJ cB cS xa m mR mF mT mB mTp mBo mSo mSh mLe mIm mBf tn so be te va wd gd ik g c ok (by omega)) mV_X4_isOne kM_X4_98 dX4_book_18 rfl rfl [0, 1] rfl rfl rfl rfl rfl rfl rfl rfl ⟨Nat.le_of_ble_eq_true rfl, Nat.le_of_ble_eq_true rfl, Nat.le_of_ble_eq_true rfl⟩ ?_
    refine z_ifb_ne (pc := 21) (tgt := 31) dX4_book_21 (by decide) (fun h21 => ?_) (fun h21 => ?_)
    · skip
      refine z_aload_n (pc := 31) dX4_book_31 1 rfl ?_
      refine z_iconst (pc := 32) dX4_book_32 ?_
      refine z_aload_n (pc := 33) dX4_book_33 1 rfl ?_
      refine z_get (pc := 34) (q0 := 0) (v := .ref mT) fL_X4_16 dX4_book_34 rfl rfl ?_
      refine z_callV (pc := 37) (st := []) (st2 := []) (ws2 := [(m, .inr (4, [.ref mR, .ref mF, .ref mT, .ref mB, .ref mTp, .int (iI tn), .int (iI so), .int (iI be), .int (iI te), .long wd, .int (iI va), .int gd, .ref mBo, .ref mSo, .ref mSh, .ref mLe, .ref mIm, .ref mBf, .int ik])), (mR, .inl (cI, 35, .inl (rowA g))), (mF, .inl (cI, 7, .inl (ar fd))), (mBo, .inl (cI, 4, .inl (ar bi))), (mSo, .inl (cI, 4, .inl (ar si))), (mSh, .inl (cJ, 160, .inr (.inl (shA sv)))), (mT, .inl (cI, 35, .inl (rowA g)))]) (q0 := 0) (c_X4_moveAll l D cI cJ cB cS xa m mR mF mT mB mTp mBo mSo mSh mLe mIm mBf tn so be te va wd gd ik mT (rowA g) ft ) mV_X4_moveAll kM_X4_151 dX4_book_37 rfl rfl [0, 1, 6] rfl rfl rfl rfl rfl rfl rfl rfl ⟨Nat.le_of_ble_eq_true rfl, Nat.le_of_ble_eq_true rfl, Nat.le_of_ble_eq_true rfl⟩ ?_
      refine z_iconst (pc := 40) dX4_book_40 ?_
      refine z_istore (pc := 41) (lv2 := [(4, .int (iI 0)), (3, .int (iI 0)), (0, .ref m), (1, .int (iI s)), (2, .int (iI c))]) dX4_book_41 (by decide) rfl ?_
      have LP43 : ∀ (nn_ : Nat) (i : Int) (gg : Gd), (0 ≤ i) → (i ≤ si s) → (gg = minsG g i.toNat) → (40 - i).toNat < nn_ → Z xp l xe { frames := 4, cells := 0, slots := 0, locals := 91 } xs xm ([.ref m, .int (iI s), .int (iI c)] : List Value).toArray xb xt xc 0 0 (MQ xb (Cq (S := (Nat → Int32)) D [(m, .inr (4, [.ref mR, .ref mF, .ref mT, .ref mB, .ref mTp, .int (iI tn), .int (iI so), .int (iI be), .int (iI te), .long wd, .int (iI va), .int gd, .ref mBo, .ref mSo, .ref mSh, .ref mLe, .ref mIm, .ref mBf, .int ik])), (mR, .inl (cI, 35, .inl (rowA g))), (mF, .inl (cI, 7, .inl (ar fd))), (mBo, .inl (cI, 4, .inl (ar bi))), (mSo, .inl (cI, 4, .inl (ar si))), (mSh, .inl (cJ, 160, .inr (.inl (shA sv)))), (mT, .inl (cI, 35, .inl ft))] (fun ft2 : (Nat → Int32) => True) (fun ft2 : (Nat → Int32) => (some (.int ((opBook g c (bi s) (si s) (sv s) fd).1)))) (fun ft2 : (Nat → Int32) => [(m, .inr (4, [.ref mR, .ref mF, .ref mT, .ref mB, .ref mTp, .int (iI tn), .int (iI so), .int (iI be), .int (iI te), .long wd, .int (iI va), .int gd, .ref mBo, .ref mSo, .ref mSh, .ref mLe, .ref mIm, .ref mBf, .int ik])), (mR, .inl (cI, 35, .inl (rowA g))), (mF, .inl (cI, 7, .inl (ar ((opBook g c (bi s) (si s) (sv s) fd).2.2)))), (mBo, .inl (cI, 4, .inl (ar bi))), (mSo, .inl (cI, 4, .inl (ar si))), (mSh, .inl (cJ, 160, .inr (.inl (shA (setS sv s (opBook g c (bi s) (si s) (sv s) fd).2.1))))), (mT, .inl (cI, 35, .inl ft2))])) ([.ref m, .int (iI s), .int (iI c)] : List Value).toArray xs 0 0 (va_A0 [(m, .inr (4, [.ref mR, .ref mF, .ref mT, .ref mB, .ref mTp, .int (iI tn), .int (iI so), .int (iI be), .int (iI te), .long wd, .int (iI va), .int gd, .ref mBo, .ref mSo, .ref mSh, .ref mLe, .ref mIm, .ref mBf, .int ik])), (mR, .inl (cI, 35, .inl (rowA g))), (mF, .inl (cI, 7, .inl (ar fd))), (mBo, .inl (cI, 4, .inl (ar bi))), (mSo, .inl (cI, 4, .inl (ar si))), (mSh, .inl (cJ, 160, .inr (.inl (shA sv)))), (mT, .inl (cI, 35, .inl ft))])) cX4_book RX4 5 (some .int) D cI cJ cB cS xa (va_A0 [(m, .inr (4, [.ref mR, .ref mF, .ref mT, .ref mB, .ref mTp, .int (iI tn), .int (iI so), .int (iI be), .int (iI te), .long wd, .int (iI va), .int gd, .ref mBo, .ref mSo, .ref mSh, .ref mLe, .ref mIm, .ref mBf, .int ik])), (mR, .inl (cI, 35, .inl (rowA g))), (mF, .inl (cI, 7, .inl (ar fd))), (mBo, .inl (cI, 4, .inl (ar bi))), (mSo, .inl (cI, 4, .inl (ar si))), (mSh, .inl (cJ, 160, .inr (.inl (shA sv)))), (mT, .inl (cI, 35, .inl ft))]) [(m, .inr (4, [.ref mR, .ref mF, .ref mT, .ref mB, .ref mTp, .int (iI tn), .int (iI so), .int (iI be), .int (iI te), .long wd, .int (iI va), .int gd, .ref mBo, .ref mSo, .ref mSh, .ref mLe, .ref mIm, .ref mBf, .int ik])), (mR, .inl (cI, 35, .inl (rowA gg))), (mF, .inl (cI, 7, .inl (ar fd))), (mBo, .inl (cI, 4, .inl (ar bi))), (mSo, .inl (cI, 4, .inl (ar si))), (mSh, .inl (cJ, 160, .inr (.inl (shA (setS sv s (bkL g c (bi s) (sv s) i)))))), (mT, .inl (cI, 35, .inl (rowA g)))] [(0, .ref m), (1, .int (iI s)), (2, .int (iI c)), (3, .int (iI 0)), (4, .int (iI i))] 43 [] := by
        intro nn_
        induction nn_ with
        | zero => intro i gg hi0 hi1 hg hms; exact absurd hms (Nat.not_lt_zero _)
        | succ nn_ ih =>
          intro i gg hi0 hi1 hg hms
          have okg : Ok gg := by rw [hg]; exact minsG_ok ok _ (by omega)
          have q0 : gg 4 0 = g 4 0 + i.toNat := by rw [hg]; exact minsG_40 g _
          have q2 : gg 4 2 = g 4 2 := by rw [hg]; exact minsG_42 g _
          have ih43 := ih
          clear ih
          refine z_iload (pc := 43) dX4_book_43 4 rfl ?_
          refine z_aload_n (pc := 45) dX4_book_45 0 rfl ?_
          refine z_get (pc := 46) (q0 := 0) (v := .ref mSo) fL_X4_28 dX4_book_46 rfl rfl ?_
          refine z_iload_n (pc := 49) dX4_book_49 1 rfl ?_
          refine z_iald (pc := 50) (q0 := 4) (v := (iI (si s))) dX4_book_50 rfl (by omega) (by decide) (ar_at (by omega)) ?_
          refine z_icmp_ge (pc := 51) (tgt := 92) dX4_book_51 (by decide) (by omega) (by omega) (fun h51 => ?_) (fun h51 => ?_)
          · skip
            have hie : i = si s := by omega
            refine z_aload_n (pc := 92) dX4_book_92 0 rfl ?_
            refine z_iconst (pc := 93) dX4_book_93 ?_
            refine z_aload_n (pc := 94) dX4_book_94 0 rfl ?_
            refine z_get (pc := 95) (q0 := 0) (v := .ref mT) fL_X4_16 dX4_book_95 rfl rfl ?_
            refine z_callV (pc := 98) (st := []) (st2 := []) (ws2 := [(m, .inr (4, [.ref mR, .ref mF, .ref mT, .ref mB, .ref mTp, .int (iI tn), .int (iI so), .int (iI be), .int (iI te), .long wd, .int (iI va), .int gd, .ref mBo, .ref mSo, .ref mSh, .ref mLe, .ref mIm, .ref mBf, .int ik])), (mR, .inl (cI, 35, .inl (rowA g))), (mF, .inl (cI, 7, .inl (ar fd))), (mBo, .inl (cI, 4, .inl (ar bi))), (mSo, .inl (cI, 4, .inl (ar si))), (mSh, .inl (cJ, 160, .inr (.inl (shA (setS sv s (bkL g c (bi s) (sv s) i)))))), (mT, .inl (cI, 35, .inl (rowA g)))]) (q0 := 0) (c_X4_moveAll_b l D cI cJ cB cS xa m mR mF mT mB mTp mBo mSo mSh mLe mIm mBf tn so be te va wd gd ik mT (rowA gg) (rowA g) ) mV_X4_moveAll kM_X4_151 dX4_book_98 rfl rfl [0, 1, 6] rfl rfl rfl rfl rfl rfl rfl rfl ⟨Nat.le_of_ble_eq_true rfl, Nat.le_of_ble_eq_true rfl, Nat.le_of_ble_eq_true rfl⟩ ?_
            refine z_aload_n (pc := 101) dX4_book_101 0 rfl ?_
            refine z_get (pc := 102) (q0 := 0) (v := .ref mSo) fL_X4_28 dX4_book_102 rfl rfl ?_
            refine z_iload_n (pc := 105) dX4_book_105 1 rfl ?_
            refine z_iald (pc := 106) (q0 := 4) (v := (iI (si s))) dX4_book_106 rfl (by omega) (by decide) (ar_at (by omega)) ?_
            have e9 : opBook g c (bi s) (si s) (sv s) fd = ((iI (si s)), bkL g c (bi s) (sv s) i, fd) := by
              unfold opBook; rw [if_neg h0, if_pos (by omega), hie]
            exact z_iretE (pc := 107) dX4_book_107 (rowA g) trivial (by rw [e9]) (by rw [e9])
          · skip
            refine z_aload_n (pc := 54) dX4_book_54 0 rfl ?_
            refine z_get (pc := 55) (q0 := 0) (v := .ref mSh) fL_X4_31 dX4_book_55 rfl rfl ?_
            refine z_bipush (pc := 58) dX4_book_58 (by decide) ?_
            refine z_iload_n (pc := 60) dX4_book_60 1 rfl ?_
            refine z_imul (pc := 61) dX4_book_61 ?_
            refine z_iload (pc := 62) dX4_book_62 4 rfl ?_
            refine z_iadd (pc := 64) dX4_book_64 ?_
            refine z_aload_n (pc := 65) dX4_book_65 0 rfl ?_
            refine z_get (pc := 66) (q0 := 0) (v := .ref mBo) fL_X4_25 dX4_book_66 rfl rfl ?_
            refine z_iload_n (pc := 69) dX4_book_69 1 rfl ?_
            refine z_iald (pc := 70) (q0 := 3) (v := (iI (bi s))) dX4_book_70 rfl (by omega) (by decide) (ar_at (by omega)) ?_
            refine z_aload_n (pc := 71) dX4_book_71 0 rfl ?_
            refine z_iload_n (pc := 72) dX4_book_72 2 rfl ?_
            refine z_iconst (pc := 73) dX4_book_73 ?_
            refine z_callV (pc := 74) (st := [.int (iI (bi s)), .int (iI ((40 * s) + i)), .ref mSh]) (st2 := [.int (iI (gg 1 c)), .int (iI (bi s)), .int (iI ((40 * s) + i)), .ref mSh]) (ws2 := [(m, .inr (4, [.ref mR, .ref mF, .ref mT, .ref mB, .ref mTp, .int (iI tn), .int (iI so), .int (iI be), .int (iI te), .long wd, .int (iI va), .int gd, .ref mBo, .ref mSo, .ref mSh, .ref mLe, .ref mIm, .ref mBf, .int ik])), (mR, .inl (cI, 35, .inl (rowA gg))), (mF, .inl (cI, 7, .inl (ar fd))), (mBo, .inl (cI, 4, .inl (ar bi))), (mSo, .inl (cI, 4, .inl (ar si))), (mSh, .inl (cJ, 160, .inr (.inl (shA (setS sv s (bkL g c (bi s) (sv s) i)))))), (mT, .inl (cI, 35, .inl (rowA g)))]) (q0 := 0) (c_X4_its l D cI cJ cB cS xa m mR mF mT mB mTp mBo mSo mSh mLe mIm mBf tn so be te va wd gd ik gg c 1 (by omega) (by omega)) mV_X4_its kM_X4_57 dX4_book_74 rfl rfl [0, 1] rfl rfl rfl rfl rfl rfl rfl rfl ⟨Nat.le_of_ble_eq_true rfl, Nat.le_of_ble_eq_true rfl, Nat.le_of_ble_eq_true rfl⟩ ?_
            have b1 := okH okg c
            refine z_i2l (pc := 77) dX4_book_77 ?_
            refine z_callS (pc := 78) (st := [.int (iI ((40 * s) + i)), .ref mSh]) (st2 := [.long (nrw (bi s) (((iI (gg 1 c))).toInt64)), .int (iI ((40 * s) + i)), .ref mSh]) (ws2 := [(m, .inr (4, [.ref mR, .ref mF, .ref mT, .ref mB, .ref mTp, .int (iI tn), .int (iI so), .int (iI be), .int (iI te), .long wd, .int (iI va), .int gd, .ref mBo, .ref mSo, .ref mSh, .ref mLe, .ref mIm, .ref mBf, .int ik])), (mR, .inl (cI, 35, .inl (rowA gg))), (mF, .inl (cI, 7, .inl (ar fd))), (mBo, .inl (cI, 4, .inl (ar bi))), (mSo, .inl (cI, 4, .inl (ar si))), (mSh, .inl (cJ, 160, .inr (.inl (shA (setS sv s (bkL g c (bi s) (sv s) i)))))), (mT, .inl (cI, 35, .inl (rowA g)))]) (c_X4_narrow l D cI cJ cB cS xa (bi s) (((iI (gg 1 c))).toInt64) (by omega)) mS_X4_narrow kM_X4_252 dX4_book_78 [] rfl rfl rfl rfl rfl rfl rfl rfl ⟨Nat.le_of_ble_eq_true rfl, Nat.le_of_ble_eq_true rfl, Nat.le_of_ble_eq_true rfl⟩ ?_
            refine z_st (st2 := [.long (nrw (bi s) (iI (minsG g (Int.toNat i) 1 c)).toInt64), .int (iI ((40 * s) + i)), .ref mSh]) (by rw [hg]) ?_
            refine z_last (pc := 81) (q0 := 5) (ws2 := [(m, .inr (4, [.ref mR, .ref mF, .ref mT, .ref mB, .ref mTp, .int (iI tn), .int (iI so), .int (iI be), .int (iI te), .long wd, .int (iI va), .int gd, .ref mBo, .ref mSo, .ref mSh, .ref mLe, .ref mIm, .ref mBf, .int ik])), (mR, .inl (cI, 35, .inl (rowA gg))), (mF, .inl (cI, 7, .inl (ar fd))), (mBo, .inl (cI, 4, .inl (ar bi))), (mSo, .inl (cI, 4, .inl (ar si))), (mSh, .inl (cJ, 160, .inr (.inl (shA (upS (setS sv s (bkL g c (bi s) (sv s) i)) s i (nrw (bi s) (iI (minsG g (Int.toNat i) 1 c)).toInt64)))))), (mT, .inl (cI, 35, .inl (rowA g)))]) dX4_book_81 rfl (by omega) (by decide) (by rw [shA_up (s := s) (i := i) (by omega) (by omega) (by omega) (by omega)]; rfl) ?_
            refine z_aload_n (pc := 82) dX4_book_82 0 rfl ?_
            refine z_callV (pc := 83) (st := []) (st2 := []) (ws2 := [(m, .inr (4, [.ref mR, .ref mF, .ref mT, .ref mB, .ref mTp, .int (iI tn), .int (iI so), .int (iI be), .int (iI te), .long wd, .int (iI va), .int gd, .ref mBo, .ref mSo, .ref mSh, .ref mLe, .ref mIm, .ref mBf, .int ik])), (mR, .inl (cI, 35, .inl (rowA (minG gg)))), (mF, .inl (cI, 7, .inl (ar fd))), (mBo, .inl (cI, 4, .inl (ar bi))), (mSo, .inl (cI, 4, .inl (ar si))), (mSh, .inl (cJ, 160, .inr (.inl (shA (upS (setS sv s (bkL g c (bi s) (sv s) i)) s i (nrw (bi s) (iI (minsG g (Int.toNat i) 1 c)).toInt64)))))), (mT, .inl (cI, 35, .inl (rowA g)))]) (q0 := 0) (c_X4_oneMinute l D cI cJ cB cS xa m mR mF mT mB mTp mBo mSo mSh mLe mIm mBf tn so be te va wd gd ik gg okg (by omega)) mV_X4_oneMinute kM_X4_143 dX4_book_83 rfl rfl [0, 1] rfl rfl rfl rfl rfl rfl rfl rfl ⟨Nat.le_of_ble_eq_true rfl, Nat.le_of_ble_eq_true rfl, Nat.le_of_ble_eq_true rfl⟩ ?_
            have ok83_2 : Ok (minG gg) := minG_ok okg (by omega)
            have f83_3 := minG_40 gg
            have f83_4 := minG_41 gg
            have f83_5 := minG_42 gg
            refine z_iinc (pc := 86) (lv2 := [(4, .int (iI (i + 1))), (0, .ref m), (1, .int (iI s)), (2, .int (iI c)), (3, .int (iI 0))]) dX4_book_86 4 rfl (by decide) rfl ?_
            refine z_goto (pc := 89) (tgt := 43) dX4_book_89 (by decide) ?_
            refine z_lv (lv2 := [(0, .ref m), (1, .int (iI s)), (2, .int (iI c)), (3, .int (iI 0)), (4, .int (iI (i + 1)))]) [1, 2, 3, 4, 0] rfl ?_
            refine z_ws (ws2 := [(m, .inr (4, [.ref mR, .ref mF, .ref mT, .ref mB, .ref mTp, .int (iI tn), .int (iI so), .int (iI be), .int (iI te), .long wd, .int (iI va), .int gd, .ref mBo, .ref mSo, .ref mSh, .ref mLe, .ref mIm, .ref mBf, .int ik])), (mR, .inl (cI, 35, .inl (rowA (minG gg)))), (mF, .inl (cI, 7, .inl (ar fd))), (mBo, .inl (cI, 4, .inl (ar bi))), (mSo, .inl (cI, 4, .inl (ar si))), (mSh, .inl (cJ, 160, .inr (.inl (shA (setS sv s (bkL g c (bi s) (sv s) (i + 1))))))), (mT, .inl (cI, 35, .inl (rowA g)))]) (by rw [← bkS_s _ _ _ _ _ hi0]) ?_
            exact ih43 (i + 1) (minG gg) (by omega) (by omega) (by rw [minsG_s _ hi0, ← hg]) (by omega)
      refine z_ws (ws2 := [(m, .inr (4, [.ref mR, .ref mF, .ref mT, .ref mB, .ref mTp, .int (iI tn), .int (iI so), .int (iI be), .int (iI te), .long wd, .int (iI va), .int gd, .ref mBo, .ref mSo, .ref mSh, .ref mLe, .ref mIm, .ref mBf, .int ik])), (mR, .inl (cI, 35, .inl (rowA g))), (mF, .inl (cI, 7, .inl (ar fd))), (mBo, .inl (cI, 4, .inl (ar bi))), (mSo, .inl (cI, 4, .inl (ar si))), (mSh, .inl (cJ, 160, .inr (.inl (shA (setS sv s (bkL g c (bi s) (sv s) 0)))))), (mT, .inl (cI, 35, .inl (rowA g)))]) (by rw [bkL_0, setS_self]) ?_
      refine z_lv (lv2 := [(0, .ref m), (1, .int (iI s)), (2, .int (iI c)), (3, .int (iI 0)), (4, .int (iI 0))]) [2, 3, 4, 1, 0] rfl ?_
      exact LP43 _ 0 g (by omega) (by omega) (by rfl) (Nat.lt_succ_self _)
    · skip
      refine z_aload_n (pc := 24) dX4_book_24 1 rfl ?_
      refine z_ldc (pc := 25) (n := -1000000001) kC_X4_44 dX4_book_25 (by decide) ?_
      refine z_callV (pc := 27) (st := []) (st2 := [.int (iI (-1000000001))]) (ws2 := [(m, .inr (4, [.ref mR, .ref mF, .ref mT, .ref mB, .ref mTp, .int (iI tn), .int (iI so), .int (iI be), .int (iI te), .long wd, .int (iI va), .int gd, .ref mBo, .ref mSo, .ref mSh, .ref mLe, .ref mIm, .ref mBf, .int ik])), (mR, .inl (cI, 35, .inl (rowA g))), (mF, .inl (cI, 7, .inl (ar (fnd fd 0)))), (mBo, .inl (cI, 4, .inl (ar bi))), (mSo, .inl (cI, 4, .inl (ar si))), (mSh, .inl (cJ, 160, .inr (.inl (shA sv)))), (mT, .inl (cI, 35, .inl ft))]) (q0 := 0) (c_X4_finds l D cI cJ cB cS xa m mR mF mT mB mTp mBo mSo mSh mLe mIm mBf tn so be te va wd gd ik fd (-1000000001) 0 (by omega) (by omega)) mV_X4_finds kM_X4_53 dX4_book_27 rfl rfl [0, 2] rfl rfl rfl rfl rfl rfl rfl rfl ⟨Nat.le_of_ble_eq_true rfl, Nat.le_of_ble_eq_true rfl, Nat.le_of_ble_eq_true rfl⟩ ?_
      refine z_ws (ws2 := [(m, .inr (4, [.ref mR, .ref mF, .ref mT, .ref mB, .ref mTp, .int (iI tn), .int (iI so), .int (iI be), .int (iI te), .long wd, .int (iI va), .int gd, .ref mBo, .ref mSo, .ref mSh, .ref mLe, .ref mIm, .ref mBf, .int ik])), (mR, .inl (cI, 35, .inl (rowA g))), (mF, .inl (cI, 7, .inl (ar (fnd fd 0)))), (mBo, .inl (cI, 4, .inl (ar bi))), (mSo, .inl (cI, 4, .inl (ar si))), (mSh, .inl (cJ, 160, .inr (.inl (shA (setS sv s (sv s)))))), (mT, .inl (cI, 35, .inl ft))]) (by simp only [setS_self]) ?_
      have e9 : opBook g c (bi s) (si s) (sv s) fd = ((iI (-1000000001)), sv s, fnd fd 0) := by
        unfold opBook; rw [if_neg h0, if_neg (by omega)]; rfl
      exact z_iretE (pc := 30) dX4_book_30 ft trivial (by rw [e9]) (by rw [e9])
  · skip
    exfalso; omega
set_option maxHeartbeats 8000000 in
set_option maxRecDepth 100000 in
theorem c_X4_isSo (l : Launch) (D : va_G) (cI cJ cB cS : ClassId) (xa : XA) (m mR mF mT mB mTp mBo mSo mSh mLe mIm mBf : Nat) (tn so be te va : Int) (wd : Int64) (gd ik : Int32) (g : Gd) (si : FF) (sv : Int → LL) (s c : Int) (ok : Ok g) (hs : 0 ≤ s ∧ s ≤ 3) (hss : 0 ≤ si s ∧ si s ≤ 40) (hc : 0 ≤ c ∧ c < g 4 2) (hm : g 4 0 ≤ 99999) : CtE (S := Gd) l D cI cJ cB cS xa yX4_isSo cX4_isSo 5 (some .boolean) 4 91 [.ref m, .int (iI s), .int (iI c)] [(m, .inr (4, [.ref mR, .ref mF, .ref mT, .ref mB, .ref mTp, .int (iI tn), .int (iI so), .int (iI be), .int (iI te), .long wd, .int (iI va), .int gd, .ref mBo, .ref mSo, .ref mSh, .ref mLe, .ref mIm, .ref mBf, .int ik])), (mR, .inl (cI, 35, .inl (rowA g))), (mSo, .inl (cI, 4, .inl (ar si))), (mSh, .inl (cJ, 160, .inr (.inl (shA sv))))] (fun g2 : Gd => True) (fun g2 : Gd => (some (.int (bI (soN g c (sv s) (Int.toNat (si s)) = true))))) (fun g2 : Gd => [(m, .inr (4, [.ref mR, .ref mF, .ref mT, .ref mB, .ref mTp, .int (iI tn), .int (iI so), .int (iI be), .int (iI te), .long wd, .int (iI va), .int gd, .ref mBo, .ref mSo, .ref mSh, .ref mLe, .ref mIm, .ref mBf, .int ik])), (mR, .inl (cI, 35, .inl (rowA g2))), (mSo, .inl (cI, 4, .inl (ar si))), (mSh, .inl (cJ, 160, .inr (.inl (shA sv))))]) := by
  have o0 := ok0 ok
  have o1 := ok1 ok
  have o2 := ok2 ok
  refine CtE.of (own := RX4) (lv := [(0, .ref m), (1, .int (iI s)), (2, .int (iI c))]) (by decide) rfl rfl (Nat.le_of_ble_eq_true rfl) ?_
  intro xp xe xs xm xb xt xc
  refine z_iconst (pc := 0) dX4_isSo_0 ?_
  refine z_istore_n (pc := 1) (lv2 := [(3, .int (iI 1)), (0, .ref m), (1, .int (iI s)), (2, .int (iI c))]) dX4_isSo_1 rfl (by decide) rfl ?_
  refine z_iconst (pc := 2) dX4_isSo_2 ?_
  refine z_istore (pc := 3) (lv2 := [(4, .int (iI 0)), (3, .int (iI 1)), (0, .ref m), (1, .int (iI s)), (2, .int (iI c))]) dX4_isSo_3 (by decide) rfl ?_
  have LP5 : ∀ (nn_ : Nat) (i : Int) (gg : Gd) (f : Int), (0 ≤ i) → (i ≤ si s) → (gg = minsG g i.toNat) → (f = 0 ∨ f = 1) → (f = 1 → ∀ j : Int, 0 ≤ j → j < i → sv s j = (iI (minsG g (Int.toNat j) 1 c)).toInt64) → (f = 0 → ¬ soN g c (sv s) (Int.toNat (si s)) = true) → (41 - i).toNat < nn_ → Z xp l xe { frames := 4, cells := 0, slots := 0, locals := 91 } xs xm ([.ref m, .int (iI s), .int (iI c)] : List Value).toArray xb xt xc 0 0 (MQ xb (Cq (S := Gd) D [(m, .inr (4, [.ref mR, .ref mF, .ref mT, .ref mB, .ref mTp, .int (iI tn), .int (iI so), .int (iI be), .int (iI te), .long wd, .int (iI va), .int gd, .ref mBo, .ref mSo, .ref mSh, .ref mLe, .ref mIm, .ref mBf, .int ik])), (mR, .inl (cI, 35, .inl (rowA g))), (mSo, .inl (cI, 4, .inl (ar si))), (mSh, .inl (cJ, 160, .inr (.inl (shA sv))))] (fun g2 : Gd => True) (fun g2 : Gd => (some (.int (bI (soN g c (sv s) (Int.toNat (si s)) = true))))) (fun g2 : Gd => [(m, .inr (4, [.ref mR, .ref mF, .ref mT, .ref mB, .ref mTp, .int (iI tn), .int (iI so), .int (iI be), .int (iI te), .long wd, .int (iI va), .int gd, .ref mBo, .ref mSo, .ref mSh, .ref mLe, .ref mIm, .ref mBf, .int ik])), (mR, .inl (cI, 35, .inl (rowA g2))), (mSo, .inl (cI, 4, .inl (ar si))), (mSh, .inl (cJ, 160, .inr (.inl (shA sv))))])) ([.ref m, .int (iI s), .int (iI c)] : List Value).toArray xs 0 0 (va_A0 [(m, .inr (4, [.ref mR, .ref mF, .ref mT, .ref mB, .ref mTp, .int (iI tn), .int (iI so), .int (iI be), .int (iI te), .long wd, .int (iI va), .int gd, .ref mBo, .ref mSo, .ref mSh, .ref mLe, .ref mIm, .ref mBf, .int ik])), (mR, .inl (cI, 35, .inl (rowA g))), (mSo, .inl (cI, 4, .inl (ar si))), (mSh, .inl (cJ, 160, .inr (.inl (shA sv))))])) cX4_isSo RX4 5 (some .boolean) D cI cJ cB cS xa (va_A0 [(m, .inr (4, [.ref mR, .ref mF, .ref mT, .ref mB, .ref mTp, .int (iI tn), .int (iI so), .int (iI be), .int (iI te), .long wd, .int (iI va), .int gd, .ref mBo, .ref mSo, .ref mSh, .ref mLe, .ref mIm, .ref mBf, .int ik])), (mR, .inl (cI, 35, .inl (rowA g))), (mSo, .inl (cI, 4, .inl (ar si))), (mSh, .inl (cJ, 160, .inr (.inl (shA sv))))]) [(m, .inr (4, [.ref mR, .ref mF, .ref mT, .ref mB, .ref mTp, .int (iI tn), .int (iI so), .int (iI be), .int (iI te), .long wd, .int (iI va), .int gd, .ref mBo, .ref mSo, .ref mSh, .ref mLe, .ref mIm, .ref mBf, .int ik])), (mR, .inl (cI, 35, .inl (rowA gg))), (mSo, .inl (cI, 4, .inl (ar si))), (mSh, .inl (cJ, 160, .inr (.inl (shA sv))))] [(0, .ref m), (1, .int (iI s)), (2, .int (iI c)), (3, .int (iI f)), (4, .int (iI i))] 5 [] := by
    intro nn_
    induction nn_ with
    | zero => intro i gg f hi0 hi1 hg hf hq hn hms; exact absurd hms (Nat.not_lt_zero _)
    | succ nn_ ih =>
      intro i gg f hi0 hi1 hg hf hq hn hms
      have okg : Ok gg := by rw [hg]; exact minsG_ok ok _ (by omega)
      have q0 : gg 4 0 = g 4 0 + i.toNat := by rw [hg]; exact minsG_40 g _
      have q2 : gg 4 2 = g 4 2 := by rw [hg]; exact minsG_42 g _
      have ih5 := ih
      clear ih
      refine z_iload (pc := 5) dX4_isSo_5 4 rfl ?_
      refine z_aload_n (pc := 7) dX4_isSo_7 0 rfl ?_
      refine z_get (pc := 8) (q0 := 0) (v := .ref mSo) fL_X4_28 dX4_isSo_8 rfl rfl ?_
      refine z_iload_n (pc := 11) dX4_isSo_11 1 rfl ?_
      refine z_iald (pc := 12) (q0 := 2) (v := (iI (si s))) dX4_isSo_12 rfl (by omega) (by decide) (ar_at (by omega)) ?_
      refine z_icmp_ge (pc := 13) (tgt := 59) dX4_isSo_13 (by decide) (by omega) (by omega) (fun h13 => ?_) (fun h13 => ?_)
      · skip
        refine z_iload_n (pc := 59) dX4_isSo_59 3 rfl ?_
        have e60 : bI (soN g c (sv s) (Int.toNat (si s)) = true) = iI f := by
          rcases hf with q | q
          · rw [q]; exact bI_f (hn q)
          · rw [q]; refine bI_t (so_all (by omega) ?_)
            intro j h0 h1; exact hq q j h0 (by omega)
        refine z_st (st2 := [.int (bI (soN g c (sv s) (Int.toNat (si s)) = true))]) (by rw [e60]) ?_
        exact z_zretE (pc := 60) (bI_nar _) dX4_isSo_60 gg trivial rfl rfl
      · skip
        refine z_iload_n (pc := 16) dX4_isSo_16 3 rfl ?_
        refine z_if_eq (pc := 17) (tgt := 59) dX4_isSo_17 (by decide) (by omega) (fun h17 => ?_) (fun h17 => ?_)
        · skip
          refine z_iload_n (pc := 59) dX4_isSo_59 3 rfl ?_
          have e60 : bI (soN g c (sv s) (Int.toNat (si s)) = true) = iI f := by
            rcases hf with q | q
            · rw [q]; exact bI_f (hn q)
            · rw [q]; refine bI_t (so_all (by omega) ?_)
              intro j h0 h1; exact hq q j h0 (by omega)
          refine z_st (st2 := [.int (bI (soN g c (sv s) (Int.toNat (si s)) = true))]) (by rw [e60]) ?_
          exact z_zretE (pc := 60) (bI_nar _) dX4_isSo_60 gg trivial rfl rfl
        · skip
          refine z_aload_n (pc := 20) dX4_isSo_20 0 rfl ?_
          refine z_get (pc := 21) (q0 := 0) (v := .ref mSh) fL_X4_31 dX4_isSo_21 rfl rfl ?_
          refine z_bipush (pc := 24) dX4_isSo_24 (by decide) ?_
          refine z_iload_n (pc := 26) dX4_isSo_26 1 rfl ?_
          refine z_imul (pc := 27) dX4_isSo_27 ?_
          refine z_iload (pc := 28) dX4_isSo_28 4 rfl ?_
          refine z_iadd (pc := 30) dX4_isSo_30 ?_
          refine z_lald (pc := 31) (q0 := 3) (v := (sv s i)) dX4_isSo_31 rfl (by omega) (by decide) (shA_at (by omega) (by omega) (by omega) (by omega)) ?_
          refine z_aload_n (pc := 32) dX4_isSo_32 0 rfl ?_
          refine z_iload_n (pc := 33) dX4_isSo_33 2 rfl ?_
          refine z_iconst (pc := 34) dX4_isSo_34 ?_
          refine z_callV (pc := 35) (st := [.long (sv s i)]) (st2 := [.int (iI (gg 1 c)), .long (sv s i)]) (ws2 := [(m, .inr (4, [.ref mR, .ref mF, .ref mT, .ref mB, .ref mTp, .int (iI tn), .int (iI so), .int (iI be), .int (iI te), .long wd, .int (iI va), .int gd, .ref mBo, .ref mSo, .ref mSh, .ref mLe, .ref mIm, .ref mBf, .int ik])), (mR, .inl (cI, 35, .inl (rowA gg))), (mSo, .inl (cI, 4, .inl (ar si))), (mSh, .inl (cJ, 160, .inr (.inl (shA sv))))]) (q0 := 0) (c_X4_its l D cI cJ cB cS xa m mR mF mT mB mTp mBo mSo mSh mLe mIm mBf tn so be te va wd gd ik gg c 1 (by omega) (by omega)) mV_X4_its kM_X4_57 dX4_isSo_35 rfl rfl [0, 1] rfl rfl rfl rfl rfl rfl rfl rfl ⟨Nat.le_of_ble_eq_true rfl, Nat.le_of_ble_eq_true rfl, Nat.le_of_ble_eq_true rfl⟩ ?_
          have b1 := okH okg c
          refine z_i2l (pc := 38) dX4_isSo_38 ?_
          refine z_lcmp (pc := 39) dX4_isSo_39 ?_
          refine z_ifr_ne (pc := 40) (tgt := 47) dX4_isSo_40 (by decide) (fun h40 => ?_) (fun h40 => ?_)
          · skip
            have h40b := fun z => h40 ((lg_cmp_eq _ _).mpr z)
            refine z_iconst (pc := 47) dX4_isSo_47 ?_
            refine z_istore_n (pc := 48) (lv2 := [(3, .int (iI 0)), (0, .ref m), (1, .int (iI s)), (2, .int (iI c)), (4, .int (iI i))]) dX4_isSo_48 rfl (by decide) rfl ?_
            refine z_aload_n (pc := 49) dX4_isSo_49 1 rfl ?_
            refine z_callV (pc := 50) (st := []) (st2 := []) (ws2 := [(m, .inr (4, [.ref mR, .ref mF, .ref mT, .ref mB, .ref mTp, .int (iI tn), .int (iI so), .int (iI be), .int (iI te), .long wd, .int (iI va), .int gd, .ref mBo, .ref mSo, .ref mSh, .ref mLe, .ref mIm, .ref mBf, .int ik])), (mR, .inl (cI, 35, .inl (rowA (minG gg)))), (mSo, .inl (cI, 4, .inl (ar si))), (mSh, .inl (cJ, 160, .inr (.inl (shA sv))))]) (q0 := 0) (c_X4_oneMinute l D cI cJ cB cS xa m mR mF mT mB mTp mBo mSo mSh mLe mIm mBf tn so be te va wd gd ik gg okg (by omega)) mV_X4_oneMinute kM_X4_143 dX4_isSo_50 rfl rfl [0, 1] rfl rfl rfl rfl rfl rfl rfl rfl ⟨Nat.le_of_ble_eq_true rfl, Nat.le_of_ble_eq_true rfl, Nat.le_of_ble_eq_true rfl⟩ ?_
            have ok50_2 : Ok (minG gg) := minG_ok okg (by omega)
            have f50_3 := minG_40 gg
            have f50_4 := minG_41 gg
            have f50_5 := minG_42 gg
            refine z_iinc (pc := 53) (lv2 := [(4, .int (iI (i + 1))), (3, .int (iI 0)), (0, .ref m), (1, .int (iI s)), (2, .int (iI c))]) dX4_isSo_53 4 rfl (by decide) rfl ?_
            refine z_goto (pc := 56) (tgt := 5) dX4_isSo_56 (by decide) ?_
            refine z_lv (lv2 := [(0, .ref m), (1, .int (iI s)), (2, .int (iI c)), (3, .int (iI 0)), (4, .int (iI (i + 1)))]) [2, 3, 4, 1, 0] rfl ?_
            exact ih5 (i + 1) (minG gg) 0 (by omega) (by omega) (by rw [minsG_s _ hi0, ← hg]) (by omega) (fun q => absurd q (by omega)) (fun _ => so_hit hi0 (by omega) (by rw [← hg]; exact h40b)) (by omega)
          · skip
            have h40b := (lg_cmp_eq _ _).mp h40
            refine z_iconst (pc := 43) dX4_isSo_43 ?_
            refine z_goto (pc := 44) (tgt := 48) dX4_isSo_44 (by decide) ?_
            refine z_istore_n (pc := 48) (lv2 := [(3, .int (iI 1)), (0, .ref m), (1, .int (iI s)), (2, .int (iI c)), (4, .int (iI i))]) dX4_isSo_48 rfl (by decide) rfl ?_
            refine z_aload_n (pc := 49) dX4_isSo_49 1 rfl ?_
            refine z_callV (pc := 50) (st := []) (st2 := []) (ws2 := [(m, .inr (4, [.ref mR, .ref mF, .ref mT, .ref mB, .ref mTp, .int (iI tn), .int (iI so), .int (iI be), .int (iI te), .long wd, .int (iI va), .int gd, .ref mBo, .ref mSo, .ref mSh, .ref mLe, .ref mIm, .ref mBf, .int ik])), (mR, .inl (cI, 35, .inl (rowA (minG gg)))), (mSo, .inl (cI, 4, .inl (ar si))), (mSh, .inl (cJ, 160, .inr (.inl (shA sv))))]) (q0 := 0) (c_X4_oneMinute l D cI cJ cB cS xa m mR mF mT mB mTp mBo mSo mSh mLe mIm mBf tn so be te va wd gd ik gg okg (by omega)) mV_X4_oneMinute kM_X4_143 dX4_isSo_50 rfl rfl [0, 1] rfl rfl rfl rfl rfl rfl rfl rfl ⟨Nat.le_of_ble_eq_true rfl, Nat.le_of_ble_eq_true rfl, Nat.le_of_ble_eq_true rfl⟩ ?_
            have ok50_6 : Ok (minG gg) := minG_ok okg (by omega)
            have f50_7 := minG_40 gg
            have f50_8 := minG_41 gg
            have f50_9 := minG_42 gg
            refine z_iinc (pc := 53) (lv2 := [(4, .int (iI (i + 1))), (3, .int (iI 1)), (0, .ref m), (1, .int (iI s)), (2, .int (iI c))]) dX4_isSo_53 4 rfl (by decide) rfl ?_
            refine z_goto (pc := 56) (tgt := 5) dX4_isSo_56 (by decide) ?_
            refine z_lv (lv2 := [(0, .ref m), (1, .int (iI s)), (2, .int (iI c)), (3, .int (iI 1)), (4, .int (iI (i + 1)))]) [2, 3, 4, 1, 0] rfl ?_
            exact ih5 (i + 1) (minG gg) 1 (by omega) (by omega) (by rw [minsG_s _ hi0, ← hg]) (by omega) (fun _ => so_si (hq (by omega)) (by rw [← hg]; exact h40b)) (fun q => absurd q (by omega)) (by omega)
  refine z_lv (lv2 := [(0, .ref m), (1, .int (iI s)), (2, .int (iI c)), (3, .int (iI 1)), (4, .int (iI 0))]) [2, 3, 4, 1, 0] rfl ?_
  exact LP5 _ 0 g 1 (by omega) (by omega) (by rfl) (by omega) (fun _ j h0 h1 => absurd h1 (by omega)) (fun q => absurd q (by omega)) (Nat.lt_succ_self _)
set_option maxHeartbeats 8000000 in
set_option maxRecDepth 100000 in
theorem c_X4_read_g (l : Launch) (D : va_G) (cI cJ cB cS : ClassId) (xa : XA) (m mR mF mT mB mTp mBo mSo mSh mLe mIm mBf : Nat) (tn so be te va : Int) (wd : Int64) (gd ik : Int32) (g : Gd) (bi si : FF) (sv : Int → LL) (fd : FF) (fb : Nat → Int32) (s c o : Int) (ok : Ok g) (hs : 0 ≤ s ∧ s ≤ 3) (h0 : bi s ≠ 0) (hbs : 0 ≤ bi s ∧ bi s ≤ 64) (hss : 0 ≤ si s ∧ si s ≤ 40) (rc : inr c) (ro : inr o) (hm : g 4 0 ≤ 99999) : CtE (S := (Nat → Int32)) l D cI cJ cB cS xa yX4_read cX4_read 7 (some .int) 5 115 [.ref m, .int (iI s), .int (iI c), .int (iI o)] [(m, .inr (4, [.ref mR, .ref mF, .ref mT, .ref mB, .ref mTp, .int (iI tn), .int (iI so), .int (iI be), .int (iI te), .long wd, .int (iI va), .int gd, .ref mBo, .ref mSo, .ref mSh, .ref mLe, .ref mIm, .ref mBf, .int ik])), (mR, .inl (cI, 35, .inl (rowA g))), (mF, .inl (cI, 7, .inl (ar fd))), (mBo, .inl (cI, 4, .inl (ar bi))), (mSo, .inl (cI, 4, .inl (ar si))), (mSh, .inl (cJ, 160, .inr (.inl (shA sv)))), (mB, .inl (cI, 35, .inl fb))] (fun fb2 : (Nat → Int32) => True) (fun fb2 : (Nat → Int32) => (some (.int ((opRead g c o (bi s) (si s) (sv s) fd).1)))) (fun fb2 : (Nat → Int32) => [(m, .inr (4, [.ref mR, .ref mF, .ref mT, .ref mB, .ref mTp, .int (iI tn), .int (iI so), .int (iI be), .int (iI te), .long wd, .int (iI va), .int gd, .ref mBo, .ref mSo, .ref mSh, .ref mLe, .ref mIm, .ref mBf, .int ik])), (mR, .inl (cI, 35, .inl (rowA g))), (mF, .inl (cI, 7, .inl (ar ((opRead g c o (bi s) (si s) (sv s) fd).2)))), (mBo, .inl (cI, 4, .inl (ar bi))), (mSo, .inl (cI, 4, .inl (ar si))), (mSh, .inl (cJ, 160, .inr (.inl (shA sv)))), (mB, .inl (cI, 35, .inl fb2))]) := by
  have o0 := ok0 ok
  have o1 := ok1 ok
  have o2 := ok2 ok
  refine CtE.of (own := RX4) (lv := [(0, .ref m), (1, .int (iI s)), (2, .int (iI c)), (3, .int (iI o))]) (by decide) rfl rfl (Nat.le_of_ble_eq_true rfl) ?_
  intro xp xe xs xm xb xt xc
  refine z_aload_n (pc := 0) dX4_read_0 0 rfl ?_
  refine z_iload_n (pc := 1) dX4_read_1 1 rfl ?_
  refine z_callV (pc := 2) (st := []) (st2 := [.int (iI 0)]) (ws2 := [(m, .inr (4, [.ref mR, .ref mF, .ref mT, .ref mB, .ref mTp, .int (iI tn), .int (iI so), .int (iI be), .int (iI te), .long wd, .int (iI va), .int gd, .ref mBo, .ref mSo, .ref mSh, .ref mLe, .ref mIm, .ref mBf, .int ik])), (mR, .inl (cI, 35, .inl (rowA g))), (mF, .inl (cI, 7, .inl (ar fd))), (mBo, .inl (cI, 4, .inl (ar bi))), (mSo, .inl (cI, 4, .inl (ar si))), (mSh, .inl (cJ, 160, .inr (.inl (shA sv)))), (mB, .inl (cI, 35, .inl fb))]) (q0 := 0) (c_X4_badSheet_g l D cI cJ cB cS xa m mR mF mT mB mTp mBo mSo mSh mLe mIm mBf tn so be te va wd gd ik bi s (by omega) (by assumption) (by omega)) mV_X4_badSheet kM_X4_258 dX4_read_2 rfl rfl [0, 3] rfl rfl rfl rfl rfl rfl rfl rfl ⟨Nat.le_of_ble_eq_true rfl, Nat.le_of_ble_eq_true rfl, Nat.le_of_ble_eq_true rfl⟩ ?_
  refine z_istore (pc := 5) (lv2 := [(4, .int (iI 0)), (0, .ref m), (1, .int (iI s)), (2, .int (iI c)), (3, .int (iI o))]) dX4_read_5 (by decide) rfl ?_
  refine z_iload (pc := 7) dX4_read_7 0 rfl ?_
  refine z_if_eq (pc := 9) (tgt := 19) dX4_read_9 (by decide) (by omega) (fun h9 => ?_) (fun h9 => ?_)
  · skip
    refine z_aload_n (pc := 19) dX4_read_19 1 rfl ?_
    refine z_iload_n (pc := 20) dX4_read_20 3 rfl ?_
    refine z_callV (pc := 21) (st := []) (st2 := [.int (bI (0 ≤ c ∧ c < g 4 2))]) (ws2 := [(m, .inr (4, [.ref mR, .ref mF, .ref mT, .ref mB, .ref mTp, .int (iI tn), .int (iI so), .int (iI be), .int (iI te), .long wd, .int (iI va), .int gd, .ref mBo, .ref mSo, .ref mSh, .ref mLe, .ref mIm, .ref mBf, .int ik])), (mR, .inl (cI, 35, .inl (rowA g))), (mF, .inl (cI, 7, .inl (ar fd))), (mBo, .inl (cI, 4, .inl (ar bi))), (mSo, .inl (cI, 4, .inl (ar si))), (mSh, .inl (cJ, 160, .inr (.inl (shA sv)))), (mB, .inl (cI, 35, .inl fb))]) (q0 := 0) (c_X4_isOne l D cI cJ cB cS xa m mR mF mT mB mTp mBo mSo mSh mLe mIm mBf tn so be te va wd gd ik g c ok (by omega)) mV_X4_isOne kM_X4_98 dX4_read_21 rfl rfl [0, 1] rfl rfl rfl rfl rfl rfl rfl rfl ⟨Nat.le_of_ble_eq_true rfl, Nat.le_of_ble_eq_true rfl, Nat.le_of_ble_eq_true rfl⟩ ?_
    refine z_ifb_eq (pc := 24) (tgt := 40) dX4_read_24 (by decide) (fun h24 => ?_) (fun h24 => ?_)
    · skip
      refine z_aload_n (pc := 40) dX4_read_40 1 rfl ?_
      refine z_ldc (pc := 41) (n := -1000000001) kC_X4_44 dX4_read_41 (by decide) ?_
      refine z_callV (pc := 43) (st := []) (st2 := [.int (iI (-1000000001))]) (ws2 := [(m, .inr (4, [.ref mR, .ref mF, .ref mT, .ref mB, .ref mTp, .int (iI tn), .int (iI so), .int (iI be), .int (iI te), .long wd, .int (iI va), .int gd, .ref mBo, .ref mSo, .ref mSh, .ref mLe, .ref mIm, .ref mBf, .int ik])), (mR, .inl (cI, 35, .inl (rowA g))), (mF, .inl (cI, 7, .inl (ar (fnd fd 0)))), (mBo, .inl (cI, 4, .inl (ar bi))), (mSo, .inl (cI, 4, .inl (ar si))), (mSh, .inl (cJ, 160, .inr (.inl (shA sv)))), (mB, .inl (cI, 35, .inl fb))]) (q0 := 0) (c_X4_finds l D cI cJ cB cS xa m mR mF mT mB mTp mBo mSo mSh mLe mIm mBf tn so be te va wd gd ik fd (-1000000001) 0 (by omega) (by omega)) mV_X4_finds kM_X4_53 dX4_read_43 rfl rfl [0, 2] rfl rfl rfl rfl rfl rfl rfl rfl ⟨Nat.le_of_ble_eq_true rfl, Nat.le_of_ble_eq_true rfl, Nat.le_of_ble_eq_true rfl⟩ ?_
      have e9 : opRead g c o (bi s) (si s) (sv s) fd = ((iI (-1000000001)), fnd fd 0) := by
        unfold opRead; rw [if_neg h0, if_neg (by omega)]; rfl
      exact z_iretE (pc := 46) dX4_read_46 fb trivial (by rw [e9]) (by rw [e9])
    · skip
      refine z_aload_n (pc := 27) dX4_read_27 1 rfl ?_
      refine z_iload_n (pc := 28) dX4_read_28 4 rfl ?_
      refine z_callV (pc := 29) (st := []) (st2 := [.int (bI (0 ≤ o ∧ o < g 4 2))]) (ws2 := [(m, .inr (4, [.ref mR, .ref mF, .ref mT, .ref mB, .ref mTp, .int (iI tn), .int (iI so), .int (iI be), .int (iI te), .long wd, .int (iI va), .int gd, .ref mBo, .ref mSo, .ref mSh, .ref mLe, .ref mIm, .ref mBf, .int ik])), (mR, .inl (cI, 35, .inl (rowA g))), (mF, .inl (cI, 7, .inl (ar fd))), (mBo, .inl (cI, 4, .inl (ar bi))), (mSo, .inl (cI, 4, .inl (ar si))), (mSh, .inl (cJ, 160, .inr (.inl (shA sv)))), (mB, .inl (cI, 35, .inl fb))]) (q0 := 0) (c_X4_isOne l D cI cJ cB cS xa m mR mF mT mB mTp mBo mSo mSh mLe mIm mBf tn so be te va wd gd ik g o ok (by omega)) mV_X4_isOne kM_X4_98 dX4_read_29 rfl rfl [0, 1] rfl rfl rfl rfl rfl rfl rfl rfl ⟨Nat.le_of_ble_eq_true rfl, Nat.le_of_ble_eq_true rfl, Nat.le_of_ble_eq_true rfl⟩ ?_
      refine z_ifb_eq (pc := 32) (tgt := 40) dX4_read_32 (by decide) (fun h32 => ?_) (fun h32 => ?_)
      · skip
        refine z_aload_n (pc := 40) dX4_read_40 1 rfl ?_
        refine z_ldc (pc := 41) (n := -1000000001) kC_X4_44 dX4_read_41 (by decide) ?_
        refine z_callV (pc := 43) (st := []) (st2 := [.int (iI (-1000000001))]) (ws2 := [(m, .inr (4, [.ref mR, .ref mF, .ref mT, .ref mB, .ref mTp, .int (iI tn), .int (iI so), .int (iI be), .int (iI te), .long wd, .int (iI va), .int gd, .ref mBo, .ref mSo, .ref mSh, .ref mLe, .ref mIm, .ref mBf, .int ik])), (mR, .inl (cI, 35, .inl (rowA g))), (mF, .inl (cI, 7, .inl (ar (fnd fd 0)))), (mBo, .inl (cI, 4, .inl (ar bi))), (mSo, .inl (cI, 4, .inl (ar si))), (mSh, .inl (cJ, 160, .inr (.inl (shA sv)))), (mB, .inl (cI, 35, .inl fb))]) (q0 := 0) (c_X4_finds l D cI cJ cB cS xa m mR mF mT mB mTp mBo mSo mSh mLe mIm mBf tn so be te va wd gd ik fd (-1000000001) 0 (by omega) (by omega)) mV_X4_finds kM_X4_53 dX4_read_43 rfl rfl [0, 2] rfl rfl rfl rfl rfl rfl rfl rfl ⟨Nat.le_of_ble_eq_true rfl, Nat.le_of_ble_eq_true rfl, Nat.le_of_ble_eq_true rfl⟩ ?_
        have e9 : opRead g c o (bi s) (si s) (sv s) fd = ((iI (-1000000001)), fnd fd 0) := by
          unfold opRead; rw [if_neg h0, if_neg (by omega)]; rfl
        exact z_iretE (pc := 46) dX4_read_46 fb trivial (by rw [e9]) (by rw [e9])
      · skip
        refine z_iload_n (pc := 35) dX4_read_35 3 rfl ?_
        refine z_iload_n (pc := 36) dX4_read_36 4 rfl ?_
        refine z_icmp_ne (pc := 37) (tgt := 47) dX4_read_37 (by decide) (by omega) (by omega) (fun h37 => ?_) (fun h37 => ?_)
        · skip
          refine z_iconst (pc := 47) dX4_read_47 ?_
          refine z_istore (pc := 48) (lv2 := [(5, .int (iI 0)), (4, .int (iI 0)), (0, .ref m), (1, .int (iI s)), (2, .int (iI c)), (3, .int (iI o))]) dX4_read_48 (by decide) rfl ?_
          refine z_aload_n (pc := 50) dX4_read_50 2 rfl ?_
          refine z_iconst (pc := 51) dX4_read_51 ?_
          refine z_aload_n (pc := 52) dX4_read_52 2 rfl ?_
          refine z_get (pc := 53) (q0 := 0) (v := .ref mB) fL_X4_19 dX4_read_53 rfl rfl ?_
          refine z_callV (pc := 56) (st := []) (st2 := []) (ws2 := [(m, .inr (4, [.ref mR, .ref mF, .ref mT, .ref mB, .ref mTp, .int (iI tn), .int (iI so), .int (iI be), .int (iI te), .long wd, .int (iI va), .int gd, .ref mBo, .ref mSo, .ref mSh, .ref mLe, .ref mIm, .ref mBf, .int ik])), (mR, .inl (cI, 35, .inl (rowA g))), (mF, .inl (cI, 7, .inl (ar fd))), (mBo, .inl (cI, 4, .inl (ar bi))), (mSo, .inl (cI, 4, .inl (ar si))), (mSh, .inl (cJ, 160, .inr (.inl (shA sv)))), (mB, .inl (cI, 35, .inl (rowA g)))]) (q0 := 0) (c_X4_moveAll l D cI cJ cB cS xa m mR mF mT mB mTp mBo mSo mSh mLe mIm mBf tn so be te va wd gd ik mB (rowA g) fb ) mV_X4_moveAll kM_X4_151 dX4_read_56 rfl rfl [0, 1, 6] rfl rfl rfl rfl rfl rfl rfl rfl ⟨Nat.le_of_ble_eq_true rfl, Nat.le_of_ble_eq_true rfl, Nat.le_of_ble_eq_true rfl⟩ ?_
          refine z_iconst (pc := 59) dX4_read_59 ?_
          refine z_istore (pc := 60) (lv2 := [(6, .int (iI 0)), (5, .int (iI 0)), (4, .int (iI 0)), (0, .ref m), (1, .int (iI s)), (2, .int (iI c)), (3, .int (iI o))]) dX4_read_60 (by decide) rfl ?_
          have LP62 : ∀ (nn_ : Nat) (k : Int) (n : Int), (0 ≤ k ∧ k ≤ 36) → (n = rdN g c o (sv s) (Int.toNat (si s)) k.toNat) → (36 - k).toNat < nn_ → Z xp l xe { frames := 5, cells := 0, slots := 0, locals := 115 } xs xm ([.ref m, .int (iI s), .int (iI c), .int (iI o)] : List Value).toArray xb xt xc 0 0 (MQ xb (Cq (S := (Nat → Int32)) D [(m, .inr (4, [.ref mR, .ref mF, .ref mT, .ref mB, .ref mTp, .int (iI tn), .int (iI so), .int (iI be), .int (iI te), .long wd, .int (iI va), .int gd, .ref mBo, .ref mSo, .ref mSh, .ref mLe, .ref mIm, .ref mBf, .int ik])), (mR, .inl (cI, 35, .inl (rowA g))), (mF, .inl (cI, 7, .inl (ar fd))), (mBo, .inl (cI, 4, .inl (ar bi))), (mSo, .inl (cI, 4, .inl (ar si))), (mSh, .inl (cJ, 160, .inr (.inl (shA sv)))), (mB, .inl (cI, 35, .inl fb))] (fun fb2 : (Nat → Int32) => True) (fun fb2 : (Nat → Int32) => (some (.int ((opRead g c o (bi s) (si s) (sv s) fd).1)))) (fun fb2 : (Nat → Int32) => [(m, .inr (4, [.ref mR, .ref mF, .ref mT, .ref mB, .ref mTp, .int (iI tn), .int (iI so), .int (iI be), .int (iI te), .long wd, .int (iI va), .int gd, .ref mBo, .ref mSo, .ref mSh, .ref mLe, .ref mIm, .ref mBf, .int ik])), (mR, .inl (cI, 35, .inl (rowA g))), (mF, .inl (cI, 7, .inl (ar ((opRead g c o (bi s) (si s) (sv s) fd).2)))), (mBo, .inl (cI, 4, .inl (ar bi))), (mSo, .inl (cI, 4, .inl (ar si))), (mSh, .inl (cJ, 160, .inr (.inl (shA sv)))), (mB, .inl (cI, 35, .inl fb2))])) ([.ref m, .int (iI s), .int (iI c), .int (iI o)] : List Value).toArray xs 0 0 (va_A0 [(m, .inr (4, [.ref mR, .ref mF, .ref mT, .ref mB, .ref mTp, .int (iI tn), .int (iI so), .int (iI be), .int (iI te), .long wd, .int (iI va), .int gd, .ref mBo, .ref mSo, .ref mSh, .ref mLe, .ref mIm, .ref mBf, .int ik])), (mR, .inl (cI, 35, .inl (rowA g))), (mF, .inl (cI, 7, .inl (ar fd))), (mBo, .inl (cI, 4, .inl (ar bi))), (mSo, .inl (cI, 4, .inl (ar si))), (mSh, .inl (cJ, 160, .inr (.inl (shA sv)))), (mB, .inl (cI, 35, .inl fb))])) cX4_read RX4 7 (some .int) D cI cJ cB cS xa (va_A0 [(m, .inr (4, [.ref mR, .ref mF, .ref mT, .ref mB, .ref mTp, .int (iI tn), .int (iI so), .int (iI be), .int (iI te), .long wd, .int (iI va), .int gd, .ref mBo, .ref mSo, .ref mSh, .ref mLe, .ref mIm, .ref mBf, .int ik])), (mR, .inl (cI, 35, .inl (rowA g))), (mF, .inl (cI, 7, .inl (ar fd))), (mBo, .inl (cI, 4, .inl (ar bi))), (mSo, .inl (cI, 4, .inl (ar si))), (mSh, .inl (cJ, 160, .inr (.inl (shA sv)))), (mB, .inl (cI, 35, .inl fb))]) [(m, .inr (4, [.ref mR, .ref mF, .ref mT, .ref mB, .ref mTp, .int (iI tn), .int (iI so), .int (iI be), .int (iI te), .long wd, .int (iI va), .int gd, .ref mBo, .ref mSo, .ref mSh, .ref mLe, .ref mIm, .ref mBf, .int ik])), (mR, .inl (cI, 35, .inl (rowA g))), (mF, .inl (cI, 7, .inl (ar fd))), (mBo, .inl (cI, 4, .inl (ar bi))), (mSo, .inl (cI, 4, .inl (ar si))), (mSh, .inl (cJ, 160, .inr (.inl (shA sv)))), (mB, .inl (cI, 35, .inl (rowA g)))] [(0, .ref m), (1, .int (iI s)), (2, .int (iI c)), (3, .int (iI o)), (4, .int (iI 0)), (5, .int (iI n)), (6, .int (iI k))] 62 [] := by
            intro nn_
            induction nn_ with
            | zero => intro k n hk hb hms; exact absurd hms (Nat.not_lt_zero _)
            | succ nn_ ih =>
              intro k n hk hb hms
              have ih62 := ih
              clear ih
              refine z_iload (pc := 62) dX4_read_62 6 rfl ?_
              refine z_bipush (pc := 64) dX4_read_64 (by decide) ?_
              refine z_icmp_ge (pc := 66) (tgt := 125) dX4_read_66 (by decide) (by omega) (by omega) (fun h66 => ?_) (fun h66 => ?_)
              · skip
                obtain rfl : k = 36 := by omega
                refine z_iload (pc := 125) dX4_read_125 5 rfl ?_
                have e9 : opRead g c o (bi s) (si s) (sv s) fd = ((iI n), fd) := by
                  unfold opRead; rw [if_neg h0, if_pos (by omega), show (36 : Nat) = Int.toNat 36 from rfl, ← hb]
                exact z_iretE (pc := 127) dX4_read_127 (rowA g) trivial (by rw [e9]) (by rw [e9])
              · skip
                refine z_aload_n (pc := 69) dX4_read_69 0 rfl ?_
                refine z_iload_n (pc := 70) dX4_read_70 2 rfl ?_
                refine z_iconst (pc := 71) dX4_read_71 ?_
                refine z_iload (pc := 72) dX4_read_72 6 rfl ?_
                refine z_bipush (pc := 74) dX4_read_74 (by decide) ?_
                refine z_idiv (pc := 76) dX4_read_76 (by omega) ?_
                refine z_callV (pc := 77) (st := []) (st2 := []) (ws2 := [(m, .inr (4, [.ref mR, .ref mF, .ref mT, .ref mB, .ref mTp, .int (iI tn), .int (iI so), .int (iI be), .int (iI te), .long wd, .int (iI va), .int gd, .ref mBo, .ref mSo, .ref mSh, .ref mLe, .ref mIm, .ref mBf, .int ik])), (mR, .inl (cI, 35, .inl (rowA (up2 g 0 c (k / 6))))), (mF, .inl (cI, 7, .inl (ar fd))), (mBo, .inl (cI, 4, .inl (ar bi))), (mSo, .inl (cI, 4, .inl (ar si))), (mSh, .inl (cJ, 160, .inr (.inl (shA sv)))), (mB, .inl (cI, 35, .inl (rowA g)))]) (q0 := 0) (c_X4_puts l D cI cJ cB cS xa m mR mF mT mB mTp mBo mSo mSh mLe mIm mBf tn so be te va wd gd ik g c 0 (k / 6) (by omega) (by omega)) mV_X4_puts kM_X4_86 dX4_read_77 rfl rfl [0, 1] rfl rfl rfl rfl rfl rfl rfl rfl ⟨Nat.le_of_ble_eq_true rfl, Nat.le_of_ble_eq_true rfl, Nat.le_of_ble_eq_true rfl⟩ ?_
                refine z_aload_n (pc := 80) dX4_read_80 0 rfl ?_
                refine z_iload_n (pc := 81) dX4_read_81 3 rfl ?_
                refine z_iconst (pc := 82) dX4_read_82 ?_
                refine z_iload (pc := 83) dX4_read_83 6 rfl ?_
                refine z_bipush (pc := 85) dX4_read_85 (by decide) ?_
                refine z_irem (pc := 87) dX4_read_87 (by omega) ?_
                refine z_callV (pc := 88) (st := []) (st2 := []) (ws2 := [(m, .inr (4, [.ref mR, .ref mF, .ref mT, .ref mB, .ref mTp, .int (iI tn), .int (iI so), .int (iI be), .int (iI te), .long wd, .int (iI va), .int gd, .ref mBo, .ref mSo, .ref mSh, .ref mLe, .ref mIm, .ref mBf, .int ik])), (mR, .inl (cI, 35, .inl (rowA (up2 (up2 g 0 c (k / 6)) 0 o (k % 6))))), (mF, .inl (cI, 7, .inl (ar fd))), (mBo, .inl (cI, 4, .inl (ar bi))), (mSo, .inl (cI, 4, .inl (ar si))), (mSh, .inl (cJ, 160, .inr (.inl (shA sv)))), (mB, .inl (cI, 35, .inl (rowA g)))]) (q0 := 0) (c_X4_puts l D cI cJ cB cS xa m mR mF mT mB mTp mBo mSo mSh mLe mIm mBf tn so be te va wd gd ik (up2 g 0 c (k / 6)) o 0 (k % 6) (by omega) (by omega)) mV_X4_puts kM_X4_86 dX4_read_88 rfl rfl [0, 1] rfl rfl rfl rfl rfl rfl rfl rfl ⟨Nat.le_of_ble_eq_true rfl, Nat.le_of_ble_eq_true rfl, Nat.le_of_ble_eq_true rfl⟩ ?_
                have okr : Ok (rdG g c o k) := (ok.upK c (v := k / 6) (by omega)).upK o (by omega)
                refine z_iload (pc := 91) dX4_read_91 5 rfl ?_
                refine z_aload_n (pc := 93) dX4_read_93 0 rfl ?_
                refine z_iload_n (pc := 94) dX4_read_94 1 rfl ?_
                refine z_iload_n (pc := 95) dX4_read_95 2 rfl ?_
                refine z_callVE (pc := 96) (st := [.int (iI n)]) (q0 := 0) (c_X4_isSo l D cI cJ cB cS xa m mR mF mT mB mTp mBo mSo mSh mLe mIm mBf tn so be te va wd gd ik (up2 (up2 g 0 c (k / 6)) 0 o (k % 6)) si sv s c (okr) (by omega) (by omega) (⟨by omega, by show c < g 4 2; omega⟩) (by show g 4 0 ≤ 99999; omega)) mV_X4_isSo kM_X4_263 dX4_read_96 rfl rfl [0, 1, 4, 5] rfl rfl (fun _ => rfl) (fun _ => rfl) rfl rfl ⟨Nat.le_of_ble_eq_true rfl, Nat.le_of_ble_eq_true rfl, Nat.le_of_ble_eq_true rfl⟩ (fun u96 hu96 => ?_)
                obtain ⟨g296, hz96⟩ : ∃ z, z = u96 := ⟨_, rfl⟩
                subst hz96
                refine z_ws (ws2 := [(m, .inr (4, [.ref mR, .ref mF, .ref mT, .ref mB, .ref mTp, .int (iI tn), .int (iI so), .int (iI be), .int (iI te), .long wd, .int (iI va), .int gd, .ref mBo, .ref mSo, .ref mSh, .ref mLe, .ref mIm, .ref mBf, .int ik])), (mR, .inl (cI, 35, .inl (rowA g296))), (mF, .inl (cI, 7, .inl (ar fd))), (mBo, .inl (cI, 4, .inl (ar bi))), (mSo, .inl (cI, 4, .inl (ar si))), (mSh, .inl (cJ, 160, .inr (.inl (shA sv)))), (mB, .inl (cI, 35, .inl (rowA g)))]) rfl ?_
                refine z_st (st2 := [.int (bI (soN (up2 (up2 g 0 c (k / 6)) 0 o (k % 6)) c (sv s) (Int.toNat (si s)) = true)), .int (iI n)]) rfl ?_
                refine z_ifb_eq (pc := 99) (tgt := 106) dX4_read_99 (by decide) (fun h99 => ?_) (fun h99 => ?_)
                · skip
                  refine z_iconst (pc := 106) dX4_read_106 ?_
                  refine z_iadd (pc := 107) dX4_read_107 ?_
                  refine z_istore (pc := 108) (lv2 := [(5, .int (iI (n + 0))), (0, .ref m), (1, .int (iI s)), (2, .int (iI c)), (3, .int (iI o)), (4, .int (iI 0)), (6, .int (iI k))]) dX4_read_108 (by decide) rfl ?_
                  refine z_aload_n (pc := 110) dX4_read_110 1 rfl ?_
                  refine z_iconst (pc := 111) dX4_read_111 ?_
                  refine z_aload_n (pc := 112) dX4_read_112 1 rfl ?_
                  refine z_get (pc := 113) (q0 := 0) (v := .ref mB) fL_X4_19 dX4_read_113 rfl rfl ?_
                  refine z_callV (pc := 116) (st := []) (st2 := []) (ws2 := [(m, .inr (4, [.ref mR, .ref mF, .ref mT, .ref mB, .ref mTp, .int (iI tn), .int (iI so), .int (iI be), .int (iI te), .long wd, .int (iI va), .int gd, .ref mBo, .ref mSo, .ref mSh, .ref mLe, .ref mIm, .ref mBf, .int ik])), (mR, .inl (cI, 35, .inl (rowA g))), (mF, .inl (cI, 7, .inl (ar fd))), (mBo, .inl (cI, 4, .inl (ar bi))), (mSo, .inl (cI, 4, .inl (ar si))), (mSh, .inl (cJ, 160, .inr (.inl (shA sv)))), (mB, .inl (cI, 35, .inl (rowA g)))]) (q0 := 0) (c_X4_moveAll_b l D cI cJ cB cS xa m mR mF mT mB mTp mBo mSo mSh mLe mIm mBf tn so be te va wd gd ik mB (rowA g296) (rowA g) ) mV_X4_moveAll kM_X4_151 dX4_read_116 rfl rfl [0, 1, 6] rfl rfl rfl rfl rfl rfl rfl rfl ⟨Nat.le_of_ble_eq_true rfl, Nat.le_of_ble_eq_true rfl, Nat.le_of_ble_eq_true rfl⟩ ?_
                  refine z_iinc (pc := 119) (lv2 := [(6, .int (iI (k + 1))), (5, .int (iI (n + 0))), (0, .ref m), (1, .int (iI s)), (2, .int (iI c)), (3, .int (iI o)), (4, .int (iI 0))]) dX4_read_119 6 rfl (by decide) rfl ?_
                  refine z_goto (pc := 122) (tgt := 62) dX4_read_122 (by decide) ?_
                  refine z_lv (lv2 := [(0, .ref m), (1, .int (iI s)), (2, .int (iI c)), (3, .int (iI o)), (4, .int (iI 0)), (5, .int (iI (n + 0))), (6, .int (iI (k + 1)))]) [2, 3, 4, 5, 6, 1, 0] rfl ?_
                  exact ih62 (k + 1) (n + 0) (by omega) (by rw [rdN_s _ _ _ _ _ hk.1, ← hb, if_neg (show ¬ soN (rdG g c o k) c (sv s) (Int.toNat (si s)) = true from h99)]) (by omega)
                · skip
                  refine z_iconst (pc := 102) dX4_read_102 ?_
                  refine z_goto (pc := 103) (tgt := 107) dX4_read_103 (by decide) ?_
                  refine z_iadd (pc := 107) dX4_read_107 ?_
                  refine z_istore (pc := 108) (lv2 := [(5, .int (iI (n + 1))), (0, .ref m), (1, .int (iI s)), (2, .int (iI c)), (3, .int (iI o)), (4, .int (iI 0)), (6, .int (iI k))]) dX4_read_108 (by decide) rfl ?_
                  refine z_aload_n (pc := 110) dX4_read_110 1 rfl ?_
                  refine z_iconst (pc := 111) dX4_read_111 ?_
                  refine z_aload_n (pc := 112) dX4_read_112 1 rfl ?_
                  refine z_get (pc := 113) (q0 := 0) (v := .ref mB) fL_X4_19 dX4_read_113 rfl rfl ?_
                  refine z_callV (pc := 116) (st := []) (st2 := []) (ws2 := [(m, .inr (4, [.ref mR, .ref mF, .ref mT, .ref mB, .ref mTp, .int (iI tn), .int (iI so), .int (iI be), .int (iI te), .long wd, .int (iI va), .int gd, .ref mBo, .ref mSo, .ref mSh, .ref mLe, .ref mIm, .ref mBf, .int ik])), (mR, .inl (cI, 35, .inl (rowA g))), (mF, .inl (cI, 7, .inl (ar fd))), (mBo, .inl (cI, 4, .inl (ar bi))), (mSo, .inl (cI, 4, .inl (ar si))), (mSh, .inl (cJ, 160, .inr (.inl (shA sv)))), (mB, .inl (cI, 35, .inl (rowA g)))]) (q0 := 0) (c_X4_moveAll_b l D cI cJ cB cS xa m mR mF mT mB mTp mBo mSo mSh mLe mIm mBf tn so be te va wd gd ik mB (rowA g296) (rowA g) ) mV_X4_moveAll kM_X4_151 dX4_read_116 rfl rfl [0, 1, 6] rfl rfl rfl rfl rfl rfl rfl rfl ⟨Nat.le_of_ble_eq_true rfl, Nat.le_of_ble_eq_true rfl, Nat.le_of_ble_eq_true rfl⟩ ?_
                  refine z_iinc (pc := 119) (lv2 := [(6, .int (iI (k + 1))), (5, .int (iI (n + 1))), (0, .ref m), (1, .int (iI s)), (2, .int (iI c)), (3, .int (iI o)), (4, .int (iI 0))]) dX4_read_119 6 rfl (by decide) rfl ?_
                  refine z_goto (pc := 122) (tgt := 62) dX4_read_122 (by decide) ?_
                  refine z_lv (lv2 := [(0, .ref m), (1, .int (iI s)), (2, .int (iI c)), (3, .int (iI o)), (4, .int (iI 0)), (5, .int (iI (n + 1))), (6, .int (iI (k + 1)))]) [2, 3, 4, 5, 6, 1, 0] rfl ?_
                  exact ih62 (k + 1) (n + 1) (by omega) (by rw [rdN_s _ _ _ _ _ hk.1, ← hb, if_pos (show soN (rdG g c o k) c (sv s) (Int.toNat (si s)) = true from h99)]) (by omega)
          refine z_lv (lv2 := [(0, .ref m), (1, .int (iI s)), (2, .int (iI c)), (3, .int (iI o)), (4, .int (iI 0)), (5, .int (iI 0)), (6, .int (iI 0))]) [3, 4, 5, 6, 2, 1, 0] rfl ?_
          exact LP62 _ 0 0 (by omega) (by rfl) (Nat.lt_succ_self _)
        · skip
          refine z_aload_n (pc := 40) dX4_read_40 1 rfl ?_
          refine z_ldc (pc := 41) (n := -1000000001) kC_X4_44 dX4_read_41 (by decide) ?_
          refine z_callV (pc := 43) (st := []) (st2 := [.int (iI (-1000000001))]) (ws2 := [(m, .inr (4, [.ref mR, .ref mF, .ref mT, .ref mB, .ref mTp, .int (iI tn), .int (iI so), .int (iI be), .int (iI te), .long wd, .int (iI va), .int gd, .ref mBo, .ref mSo, .ref mSh, .ref mLe, .ref mIm, .ref mBf, .int ik])), (mR, .inl (cI, 35, .inl (rowA g))), (mF, .inl (cI, 7, .inl (ar (fnd fd 0)))), (mBo, .inl (cI, 4, .inl (ar bi))), (mSo, .inl (cI, 4, .inl (ar si))), (mSh, .inl (cJ, 160, .inr (.inl (shA sv)))), (mB, .inl (cI, 35, .inl fb))]) (q0 := 0) (c_X4_finds l D cI cJ cB cS xa m mR mF mT mB mTp mBo mSo mSh mLe mIm mBf tn so be te va wd gd ik fd (-1000000001) 0 (by omega) (by omega)) mV_X4_finds kM_X4_53 dX4_read_43 rfl rfl [0, 2] rfl rfl rfl rfl rfl rfl rfl rfl ⟨Nat.le_of_ble_eq_true rfl, Nat.le_of_ble_eq_true rfl, Nat.le_of_ble_eq_true rfl⟩ ?_
          have e9 : opRead g c o (bi s) (si s) (sv s) fd = ((iI (-1000000001)), fnd fd 0) := by
            unfold opRead; rw [if_neg h0, if_neg (by omega)]; rfl
          exact z_iretE (pc := 46) dX4_read_46 fb trivial (by rw [e9]) (by rw [e9])
  · skip
    exfalso; omega
set_option maxHeartbeats 8000000 in
set_option maxRecDepth 100000 in
theorem c_J7_fill_d0a16 (l : Launch) (D : va_G) (cI cJ cB cS : ClassId) (xa : XA) (r : Nat) (F : LL) (v : Int64)  : Ct l D cI cJ cB cS xa yJ7_fill_d0a16 cJ7_fill_d0a16 5 none 0 0 [.ref r, .long v] [(r, .inl (cJ, 40, .inr (.inl (shN F))))] none [(r, .inl (cJ, 40, .inr (.inl (shN (fun _ => v)))))] := by
  refine CtE.of (own := RJ7) (lv := [(0, .ref r), (1, .long v)]) (by decide) rfl rfl (Nat.le_of_ble_eq_true rfl) ?_
  intro xp xe xs xm xb xt xc
  refine z_iconst (pc := 0) dJ7_fill_d0a16_0 ?_
  refine z_istore_n (pc := 1) (lv2 := [(3, .int (iI 0)), (0, .ref r), (1, .long v)]) dJ7_fill_d0a16_1 rfl (by decide) rfl ?_
  refine z_aload_n (pc := 2) dJ7_fill_d0a16_2 1 rfl ?_
  refine z_alen_l (pc := 3) (q0 := 0) dJ7_fill_d0a16_3 rfl ?_
  refine z_istore (pc := 4) (lv2 := [(4, .int (iI 40)), (3, .int (iI 0)), (0, .ref r), (1, .long v)]) dJ7_fill_d0a16_4 (by decide) rfl ?_
  have LP6 : ∀ (nn_ : Nat) (i : Int) (G : LL), (0 ≤ i ∧ i ≤ 40) → (∀ j : Int, 0 ≤ j → j < i → G j = v) → (40 - i).toNat < nn_ → Z xp l xe { frames := 0, cells := 0, slots := 0, locals := 0 } xs xm ([.ref r, .long v] : List Value).toArray xb xt xc 0 0 (MQ xb (Cq (S := Unit) D [(r, .inl (cJ, 40, .inr (.inl (shN F))))] (fun _ => True) (fun _ => none) (fun _ => [(r, .inl (cJ, 40, .inr (.inl (shN (fun _ => v)))))])) ([.ref r, .long v] : List Value).toArray xs 0 0 (va_A0 [(r, .inl (cJ, 40, .inr (.inl (shN F))))])) cJ7_fill_d0a16 RJ7 5 none D cI cJ cB cS xa (va_A0 [(r, .inl (cJ, 40, .inr (.inl (shN F))))]) [(r, .inl (cJ, 40, .inr (.inl (shN G))))] [(0, .ref r), (1, .long v), (3, .int (iI i)), (4, .int (iI 40))] 6 [] := by
    intro nn_
    induction nn_ with
    | zero => intro i G hi hf hms; exact absurd hms (Nat.not_lt_zero _)
    | succ nn_ ih =>
      intro i G hi hf hms
      have ih6 := ih
      clear ih
      refine z_iload_n (pc := 6) dJ7_fill_d0a16_6 2 rfl ?_
      refine z_iload (pc := 7) dJ7_fill_d0a16_7 3 rfl ?_
      refine z_icmp_ge (pc := 9) (tgt := 22) dJ7_fill_d0a16_9 (by decide) (by omega) (by omega) (fun h9 => ?_) (fun h9 => ?_)
      · skip
        refine z_extL (q0 := 0) (ws2 := [(r, .inl (cJ, 40, .inr (.inl (shN (fun _ => v)))))]) rfl (fun j hj => hf j (by omega) (by omega)) rfl ?_
        exact z_vret (pc := 22) dJ7_fill_d0a16_22 rfl rfl
      · skip
        refine z_aload_n (pc := 12) dJ7_fill_d0a16_12 0 rfl ?_
        refine z_iload_n (pc := 13) dJ7_fill_d0a16_13 2 rfl ?_
        refine z_lload_n (pc := 14) dJ7_fill_d0a16_14 1 rfl ?_
        refine z_last (pc := 15) (q0 := 0) (ws2 := [(r, .inl (cJ, 40, .inr (.inl (shN (upL G i v)))))]) dJ7_fill_d0a16_15 rfl (by omega) (by decide) (by rw [shN_up (by omega)]; rfl) ?_
        refine z_iinc (pc := 16) (lv2 := [(3, .int (iI (i + 1))), (0, .ref r), (1, .long v), (4, .int (iI 40))]) dJ7_fill_d0a16_16 2 rfl (by decide) rfl ?_
        refine z_goto (pc := 19) (tgt := 6) dJ7_fill_d0a16_19 (by decide) ?_
        refine z_lv (lv2 := [(0, .ref r), (1, .long v), (3, .int (iI (i + 1))), (4, .int (iI 40))]) [1, 2, 0, 3] rfl ?_
        exact ih6 (i + 1) (upL G i v) (by omega) (fill_s hf) (by omega)
  refine z_lv (lv2 := [(0, .ref r), (1, .long v), (3, .int (iI 0)), (4, .int (iI 40))]) [2, 3, 1, 0] rfl ?_
  exact LP6 _ 0 F (by omega) (fun j h0 h1 => absurd h1 (by omega)) (Nat.lt_succ_self _)
set_option maxHeartbeats 8000000 in
set_option maxRecDepth 100000 in
theorem c_X1_areBits (l : Launch) (D : va_G) (cI cJ cB cS : ClassId) (xa : XA) (b : Int) (rb : inr b) : Ct l D cI cJ cB cS xa yX1_areBits cX1_areBits 1 (some .boolean) 0 0 [.int (iI b)] [] (some (.int (bI (b = 0 ∨ b = 8 ∨ b = 16 ∨ b = 64)))) [] := by
  refine CtE.of (own := RX1) (lv := [(0, .int (iI b))]) (by decide) rfl rfl (Nat.le_of_ble_eq_true rfl) ?_
  intro xp xe xs xm xb xt xc
  refine z_iload_n (pc := 0) dX1_areBits_0 0 rfl ?_
  refine z_if_eq (pc := 1) (tgt := 22) dX1_areBits_1 (by decide) (by omega) (fun h1 => ?_) (fun h1 => ?_)
  · skip
    refine z_iconst (pc := 22) dX1_areBits_22 ?_
    refine z_goto (pc := 23) (tgt := 27) dX1_areBits_23 (by decide) ?_
    exact z_zret (pc := 27) (by decide) dX1_areBits_27 (congrArg (fun z => some (Value.int z)) (bI_t (by omega))) rfl
  · skip
    refine z_iload_n (pc := 4) dX1_areBits_4 0 rfl ?_
    refine z_bipush (pc := 5) dX1_areBits_5 (by decide) ?_
    refine z_icmp_eq (pc := 7) (tgt := 22) dX1_areBits_7 (by decide) (by omega) (by omega) (fun h7 => ?_) (fun h7 => ?_)
    · skip
      refine z_iconst (pc := 22) dX1_areBits_22 ?_
      refine z_goto (pc := 23) (tgt := 27) dX1_areBits_23 (by decide) ?_
      exact z_zret (pc := 27) (by decide) dX1_areBits_27 (congrArg (fun z => some (Value.int z)) (bI_t (by omega))) rfl
    · skip
      refine z_iload_n (pc := 10) dX1_areBits_10 0 rfl ?_
      refine z_bipush (pc := 11) dX1_areBits_11 (by decide) ?_
      refine z_icmp_eq (pc := 13) (tgt := 22) dX1_areBits_13 (by decide) (by omega) (by omega) (fun h13 => ?_) (fun h13 => ?_)
      · skip
        refine z_iconst (pc := 22) dX1_areBits_22 ?_
        refine z_goto (pc := 23) (tgt := 27) dX1_areBits_23 (by decide) ?_
        exact z_zret (pc := 27) (by decide) dX1_areBits_27 (congrArg (fun z => some (Value.int z)) (bI_t (by omega))) rfl
      · skip
        refine z_iload_n (pc := 16) dX1_areBits_16 0 rfl ?_
        refine z_bipush (pc := 17) dX1_areBits_17 (by decide) ?_
        refine z_icmp_ne (pc := 19) (tgt := 26) dX1_areBits_19 (by decide) (by omega) (by omega) (fun h19 => ?_) (fun h19 => ?_)
        · skip
          refine z_iconst (pc := 26) dX1_areBits_26 ?_
          exact z_zret (pc := 27) (by decide) dX1_areBits_27 (congrArg (fun z => some (Value.int z)) (bI_f (by omega))) rfl
        · skip
          refine z_iconst (pc := 22) dX1_areBits_22 ?_
          refine z_goto (pc := 23) (tgt := 27) dX1_areBits_23 (by decide) ?_
          exact z_zret (pc := 27) (by decide) dX1_areBits_27 (congrArg (fun z => some (Value.int z)) (bI_t (by omega))) rfl
set_option maxHeartbeats 8000000 in
set_option maxRecDepth 100000 in
theorem c_X1_isMissing (l : Launch) (D : va_G) (cI cJ cB cS : ClassId) (xa : XA) (z zn : Nat) (bt sz : Int) (hbt : 0 ≤ bt ∧ bt ≤ 64) : Ct l D cI cJ cB cS xa yX1_isMissing cX1_isMissing 1 (some .boolean) 0 0 [.ref z] [(z, .inr (1, [.ref zn, .int (iI bt), .int (iI sz)]))] (some (.int (bI (bt = 0)))) [(z, .inr (1, [.ref zn, .int (iI bt), .int (iI sz)]))] := by
  refine CtE.of (own := RX1) (lv := [(0, .ref z)]) (by decide) rfl rfl (Nat.le_of_ble_eq_true rfl) ?_
  intro xp xe xs xm xb xt xc
  refine z_aload_n (pc := 0) dX1_isMissing_0 0 rfl ?_
  refine z_get (pc := 1) (q0 := 0) (v := .int (iI bt)) fL_X1_13 dX1_isMissing_1 rfl rfl ?_
  refine z_if_ne (pc := 4) (tgt := 11) dX1_isMissing_4 (by decide) (by omega) (fun h4 => ?_) (fun h4 => ?_)
  · skip
    refine z_iconst (pc := 11) dX1_isMissing_11 ?_
    exact z_zret (pc := 12) (by decide) dX1_isMissing_12 (congrArg (fun z => some (Value.int z)) (bI_f (by omega))) rfl
  · skip
    refine z_iconst (pc := 7) dX1_isMissing_7 ?_
    refine z_goto (pc := 8) (tgt := 12) dX1_isMissing_8 (by decide) ?_
    exact z_zret (pc := 12) (by decide) dX1_isMissing_12 (congrArg (fun z => some (Value.int z)) (bI_t (by omega))) rfl
set_option maxHeartbeats 8000000 in
set_option maxRecDepth 100000 in
theorem c_X1_renew (l : Launch) (D : va_G) (cI cJ cB cS : ClassId) (xa : XA) (z zn : Nat) (bt sz : Int) (F : LL) (b n : Int) (rb : inr b) : Ct l D cI cJ cB cS xa yX1_renew cX1_renew 3 none 1 24 [.ref z, .int (iI b), .int (iI n)] [(z, .inr (1, [.ref zn, .int (iI bt), .int (iI sz)])), (zn, .inl (cJ, 40, .inr (.inl (shN F))))] none [(z, .inr (1, [.ref zn, .int (iI b), .int (iI (if b = 0 then 0 else n))])), (zn, .inl (cJ, 40, .inr (.inl (shN (fun _ => 0)))))] := by
  refine CtE.of (own := RX1) (lv := [(0, .ref z), (1, .int (iI b)), (2, .int (iI n))]) (by decide) rfl rfl (Nat.le_of_ble_eq_true rfl) ?_
  intro xp xe xs xm xb xt xc
  refine z_aload_n (pc := 0) dX1_renew_0 0 rfl ?_
  refine z_iload_n (pc := 1) dX1_renew_1 1 rfl ?_
  refine z_put (pc := 2) (q0 := 0) (ws2 := [(z, .inr (1, [.ref zn, .int (iI b), .int (iI sz)])), (zn, .inl (cJ, 40, .inr (.inl (shN F))))]) fP_X1_13 dX1_renew_2 rfl rfl rfl (Nat.le_of_ble_eq_true rfl) rfl ?_
  refine z_aload_n (pc := 5) dX1_renew_5 0 rfl ?_
  refine z_iload_n (pc := 6) dX1_renew_6 1 rfl ?_
  refine z_if_ne (pc := 7) (tgt := 14) dX1_renew_7 (by decide) (by omega) (fun h7 => ?_) (fun h7 => ?_)
  · skip
    refine z_iload_n (pc := 14) dX1_renew_14 2 rfl ?_
    refine z_put (pc := 15) (q0 := 0) (ws2 := [(z, .inr (1, [.ref zn, .int (iI b), .int (iI n)])), (zn, .inl (cJ, 40, .inr (.inl (shN F))))]) fP_X1_17 dX1_renew_15 rfl rfl rfl (Nat.le_of_ble_eq_true rfl) rfl ?_
    refine z_aload_n (pc := 18) dX1_renew_18 0 rfl ?_
    refine z_get (pc := 19) (q0 := 0) (v := .ref zn) fL_X1_9 dX1_renew_19 rfl rfl ?_
    refine z_lconst (pc := 22) (v := 0) dX1_renew_22 (by decide) ?_
    refine z_callS (pc := 23) (st := []) (st2 := []) (ws2 := [(z, .inr (1, [.ref zn, .int (iI b), .int (iI n)])), (zn, .inl (cJ, 40, .inr (.inl (shN (fun _ => 0)))))]) (c_J7_fill_d0a16 l D cI cJ cB cS xa zn F 0 ) mS_J7_fill_d0a16 kM_X1_20 dX1_renew_23 [1] rfl rfl rfl rfl rfl rfl rfl rfl ⟨Nat.le_of_ble_eq_true rfl, Nat.le_of_ble_eq_true rfl, Nat.le_of_ble_eq_true rfl⟩ ?_
    exact z_vret (pc := 26) dX1_renew_26 rfl (by rw [if_neg (by omega)])
  · skip
    refine z_iconst (pc := 10) dX1_renew_10 ?_
    refine z_goto (pc := 11) (tgt := 15) dX1_renew_11 (by decide) ?_
    refine z_put (pc := 15) (q0 := 0) (ws2 := [(z, .inr (1, [.ref zn, .int (iI b), .int (iI 0)])), (zn, .inl (cJ, 40, .inr (.inl (shN F))))]) fP_X1_17 dX1_renew_15 rfl rfl rfl (Nat.le_of_ble_eq_true rfl) rfl ?_
    refine z_aload_n (pc := 18) dX1_renew_18 0 rfl ?_
    refine z_get (pc := 19) (q0 := 0) (v := .ref zn) fL_X1_9 dX1_renew_19 rfl rfl ?_
    refine z_lconst (pc := 22) (v := 0) dX1_renew_22 (by decide) ?_
    refine z_callS (pc := 23) (st := []) (st2 := []) (ws2 := [(z, .inr (1, [.ref zn, .int (iI b), .int (iI 0)])), (zn, .inl (cJ, 40, .inr (.inl (shN (fun _ => 0)))))]) (c_J7_fill_d0a16 l D cI cJ cB cS xa zn F 0 ) mS_J7_fill_d0a16 kM_X1_20 dX1_renew_23 [1] rfl rfl rfl rfl rfl rfl rfl rfl ⟨Nat.le_of_ble_eq_true rfl, Nat.le_of_ble_eq_true rfl, Nat.le_of_ble_eq_true rfl⟩ ?_
    exact z_vret (pc := 26) dX1_renew_26 rfl (by rw [if_pos (by omega)])
set_option maxHeartbeats 8000000 in
set_option maxRecDepth 100000 in
theorem c_X1_has (l : Launch) (D : va_G) (cI cJ cB cS : ClassId) (xa : XA) (z zn : Nat) (bt sz : Int) (f n : Int) (rf : inr f) (rn : inr n) (hsz : 0 ≤ sz ∧ sz ≤ 40) : Ct l D cI cJ cB cS xa yX1_has cX1_has 3 (some .boolean) 0 0 [.ref z, .int (iI f), .int (iI n)] [(z, .inr (1, [.ref zn, .int (iI bt), .int (iI sz)]))] (some (.int (bI (0 ≤ f ∧ 0 ≤ n ∧ f ≤ sz - n)))) [(z, .inr (1, [.ref zn, .int (iI bt), .int (iI sz)]))] := by
  refine CtE.of (own := RX1) (lv := [(0, .ref z), (1, .int (iI f)), (2, .int (iI n))]) (by decide) rfl rfl (Nat.le_of_ble_eq_true rfl) ?_
  intro xp xe xs xm xb xt xc
  refine z_iload_n (pc := 0) dX1_has_0 1 rfl ?_
  refine z_if_lt (pc := 1) (tgt := 22) dX1_has_1 (by decide) (by omega) (fun h1 => ?_) (fun h1 => ?_)
  · skip
    refine z_iconst (pc := 22) dX1_has_22 ?_
    exact z_zret (pc := 23) (by decide) dX1_has_23 (congrArg (fun z => some (Value.int z)) (bI_f (by omega))) rfl
  · skip
    refine z_iload_n (pc := 4) dX1_has_4 2 rfl ?_
    refine z_if_lt (pc := 5) (tgt := 22) dX1_has_5 (by decide) (by omega) (fun h5 => ?_) (fun h5 => ?_)
    · skip
      refine z_iconst (pc := 22) dX1_has_22 ?_
      exact z_zret (pc := 23) (by decide) dX1_has_23 (congrArg (fun z => some (Value.int z)) (bI_f (by omega))) rfl
    · skip
      refine z_iload_n (pc := 8) dX1_has_8 1 rfl ?_
      refine z_aload_n (pc := 9) dX1_has_9 0 rfl ?_
      refine z_get (pc := 10) (q0 := 0) (v := .int (iI sz)) fL_X1_17 dX1_has_10 rfl rfl ?_
      refine z_iload_n (pc := 13) dX1_has_13 2 rfl ?_
      refine z_isub (pc := 14) dX1_has_14 ?_
      refine z_icmp_gt (pc := 15) (tgt := 22) dX1_has_15 (by decide) (by omega) (by omega) (fun h15 => ?_) (fun h15 => ?_)
      · skip
        refine z_iconst (pc := 22) dX1_has_22 ?_
        exact z_zret (pc := 23) (by decide) dX1_has_23 (congrArg (fun z => some (Value.int z)) (bI_f (by omega))) rfl
      · skip
        refine z_iconst (pc := 18) dX1_has_18 ?_
        refine z_goto (pc := 19) (tgt := 23) dX1_has_19 (by decide) ?_
        exact z_zret (pc := 23) (by decide) dX1_has_23 (congrArg (fun z => some (Value.int z)) (bI_t (by omega))) rfl
set_option maxHeartbeats 8000000 in
set_option maxRecDepth 100000 in
theorem c_X1_store (l : Launch) (D : va_G) (cI cJ cB cS : ClassId) (xa : XA) (z zn : Nat) (bt sz : Int) (F : LL) (i : Int) (v : Int64) (hi : 0 ≤ i ∧ i < 40) (hbt : 0 ≤ bt ∧ bt ≤ 64) : Ct l D cI cJ cB cS xa yX1_store cX1_store 4 none 0 0 [.ref z, .int (iI i), .long v] [(z, .inr (1, [.ref zn, .int (iI bt), .int (iI sz)])), (zn, .inl (cJ, 40, .inr (.inl (shN F))))] none [(z, .inr (1, [.ref zn, .int (iI bt), .int (iI sz)])), (zn, .inl (cJ, 40, .inr (.inl (shN (upL F i (nrw bt v))))))] := by
  refine CtE.of (own := RX1) (lv := [(0, .ref z), (1, .int (iI i)), (2, .long v)]) (by decide) rfl rfl (Nat.le_of_ble_eq_true rfl) ?_
  intro xp xe xs xm xb xt xc
  refine z_aload_n (pc := 0) dX1_store_0 0 rfl ?_
  refine z_get (pc := 1) (q0 := 0) (v := .int (iI bt)) fL_X1_13 dX1_store_1 rfl rfl ?_
  refine z_bipush (pc := 4) dX1_store_4 (by decide) ?_
  refine z_icmp_ne (pc := 6) (tgt := 22) dX1_store_6 (by decide) (by omega) (by omega) (fun h6 => ?_) (fun h6 => ?_)
  · skip
    refine z_aload_n (pc := 22) dX1_store_22 0 rfl ?_
    refine z_get (pc := 23) (q0 := 0) (v := .int (iI bt)) fL_X1_13 dX1_store_23 rfl rfl ?_
    refine z_bipush (pc := 26) dX1_store_26 (by decide) ?_
    refine z_icmp_ne (pc := 28) (tgt := 44) dX1_store_28 (by decide) (by omega) (by omega) (fun h28 => ?_) (fun h28 => ?_)
    · skip
      refine z_aload_n (pc := 44) dX1_store_44 0 rfl ?_
      refine z_get (pc := 45) (q0 := 0) (v := .ref zn) fL_X1_9 dX1_store_45 rfl rfl ?_
      refine z_iload_n (pc := 48) dX1_store_48 1 rfl ?_
      refine z_lload_n (pc := 49) dX1_store_49 2 rfl ?_
      refine z_last (pc := 50) (q0 := 1) (ws2 := [(z, .inr (1, [.ref zn, .int (iI bt), .int (iI sz)])), (zn, .inl (cJ, 40, .inr (.inl (shN (upL F i v)))))]) dX1_store_50 rfl (by omega) (by decide) (by rw [shN_up (by omega)]; rfl) ?_
      exact z_vret (pc := 51) dX1_store_51 rfl (by unfold nrw; rw [if_neg h6, if_neg h28])
    · skip
      refine z_aload_n (pc := 31) dX1_store_31 0 rfl ?_
      refine z_get (pc := 32) (q0 := 0) (v := .ref zn) fL_X1_9 dX1_store_32 rfl rfl ?_
      refine z_iload_n (pc := 35) dX1_store_35 1 rfl ?_
      refine z_lload_n (pc := 36) dX1_store_36 2 rfl ?_
      refine z_l2i (pc := 37) dX1_store_37 ?_
      refine z_i2s (pc := 38) dX1_store_38 ?_
      refine z_i2l (pc := 39) dX1_store_39 ?_
      refine z_last (pc := 40) (q0 := 1) (ws2 := [(z, .inr (1, [.ref zn, .int (iI bt), .int (iI sz)])), (zn, .inl (cJ, 40, .inr (.inl (shN (upL F i ((((((v).toInt32)).toInt16.toInt32)).toInt64))))))]) dX1_store_40 rfl (by omega) (by decide) (by rw [shN_up (by omega)]; rfl) ?_
      refine z_goto (pc := 41) (tgt := 51) dX1_store_41 (by decide) ?_
      exact z_vret (pc := 51) dX1_store_51 rfl (by unfold nrw; rw [if_neg h6, if_pos h28])
  · skip
    refine z_aload_n (pc := 9) dX1_store_9 0 rfl ?_
    refine z_get (pc := 10) (q0 := 0) (v := .ref zn) fL_X1_9 dX1_store_10 rfl rfl ?_
    refine z_iload_n (pc := 13) dX1_store_13 1 rfl ?_
    refine z_lload_n (pc := 14) dX1_store_14 2 rfl ?_
    refine z_l2i (pc := 15) dX1_store_15 ?_
    refine z_i2b (pc := 16) dX1_store_16 ?_
    refine z_i2l (pc := 17) dX1_store_17 ?_
    refine z_last (pc := 18) (q0 := 1) (ws2 := [(z, .inr (1, [.ref zn, .int (iI bt), .int (iI sz)])), (zn, .inl (cJ, 40, .inr (.inl (shN (upL F i ((((((v).toInt32)).toInt8.toInt32)).toInt64))))))]) dX1_store_18 rfl (by omega) (by decide) (by rw [shN_up (by omega)]; rfl) ?_
    refine z_goto (pc := 19) (tgt := 51) dX1_store_19 (by decide) ?_
    exact z_vret (pc := 51) dX1_store_51 rfl (by unfold nrw; rw [if_pos h6])
set_option maxHeartbeats 8000000 in
set_option maxRecDepth 100000 in
theorem c_X3_sheet (l : Launch) (D : va_G) (cI cJ cB cS : ClassId) (xa : XA) (x h t k0 tp sh fi : Nat) (ik : Int32) (fs : Nat → Option Nat) (z zn : Nat) (bt sz : Int) (F : LL) (fd : FF) (s b n : Int) (hs : 0 ≤ s ∧ s ≤ 3) (hfs : fs (Int.toNat s) = some z) (rb : inr b) (rn : inr n) : Ct l D cI cJ cB cS xa yX3_sheet cX3_sheet 4 (some .int) 2 46 [.ref x, .int (iI s), .int (iI b), .int (iI n)] [(x, .inr (3, [.ref h, .ref t, .ref k0, .int ik, .ref tp, .ref sh, .ref fi])), (fi, .inl (cI, 7, .inl (ar fd))), (sh, .inl (cS, 4, .inr (.inr (.inr (.inr fs))))), (z, .inr (1, [.ref zn, .int (iI bt), .int (iI sz)])), (zn, .inl (cJ, 40, .inr (.inl (shN F))))] (some (.int ((opSheet bt sz F fd b n).1))) [(x, .inr (3, [.ref h, .ref t, .ref k0, .int ik, .ref tp, .ref sh, .ref fi])), (fi, .inl (cI, 7, .inl (ar ((opSheet bt sz F fd b n).2.2.2.2)))), (sh, .inl (cS, 4, .inr (.inr (.inr (.inr fs))))), (z, .inr (1, [.ref zn, .int (iI ((opSheet bt sz F fd b n).2.1)), .int (iI ((opSheet bt sz F fd b n).2.2.1))])), (zn, .inl (cJ, 40, .inr (.inl (shN ((opSheet bt sz F fd b n).2.2.2.1)))))] := by
  refine CtE.of (own := RX3) (lv := [(0, .ref x), (1, .int (iI s)), (2, .int (iI b)), (3, .int (iI n))]) (by decide) rfl rfl (Nat.le_of_ble_eq_true rfl) ?_
  intro xp xe xs xm xb xt xc
  refine z_iload_n (pc := 0) dX3_sheet_0 1 rfl ?_
  refine z_callS (pc := 1) (st := []) (st2 := [.int (bI (0 ≤ s ∧ s ≤ 3))]) (ws2 := [(x, .inr (3, [.ref h, .ref t, .ref k0, .int ik, .ref tp, .ref sh, .ref fi])), (fi, .inl (cI, 7, .inl (ar fd))), (sh, .inl (cS, 4, .inr (.inr (.inr (.inr fs))))), (z, .inr (1, [.ref zn, .int (iI bt), .int (iI sz)])), (zn, .inl (cJ, 40, .inr (.inl (shN F))))]) (c_X3_isSheet l D cI cJ cB cS xa s (by omega)) mS_X3_isSheet kM_X3_186 dX3_sheet_1 [] rfl rfl rfl rfl rfl rfl rfl rfl ⟨Nat.le_of_ble_eq_true rfl, Nat.le_of_ble_eq_true rfl, Nat.le_of_ble_eq_true rfl⟩ ?_
  refine z_ifb_eq (pc := 4) (tgt := 14) dX3_sheet_4 (by decide) (fun h4 => ?_) (fun h4 => ?_)
  · skip
    exfalso; omega
  · skip
    refine z_iload_n (pc := 7) dX3_sheet_7 2 rfl ?_
    refine z_callS (pc := 8) (st := []) (st2 := [.int (bI (b = 0 ∨ b = 8 ∨ b = 16 ∨ b = 64))]) (ws2 := [(x, .inr (3, [.ref h, .ref t, .ref k0, .int ik, .ref tp, .ref sh, .ref fi])), (fi, .inl (cI, 7, .inl (ar fd))), (sh, .inl (cS, 4, .inr (.inr (.inr (.inr fs))))), (z, .inr (1, [.ref zn, .int (iI bt), .int (iI sz)])), (zn, .inl (cJ, 40, .inr (.inl (shN F))))]) (c_X1_areBits l D cI cJ cB cS xa b (by omega)) mS_X1_areBits kM_X3_189 dX3_sheet_8 [] rfl rfl rfl rfl rfl rfl rfl rfl ⟨Nat.le_of_ble_eq_true rfl, Nat.le_of_ble_eq_true rfl, Nat.le_of_ble_eq_true rfl⟩ ?_
    refine z_ifb_ne (pc := 11) (tgt := 20) dX3_sheet_11 (by decide) (fun h11 => ?_) (fun h11 => ?_)
    · skip
      refine z_iload_n (pc := 20) dX3_sheet_20 3 rfl ?_
      refine z_if_ge (pc := 21) (tgt := 31) dX3_sheet_21 (by decide) (by omega) (fun h21 => ?_) (fun h21 => ?_)
      · skip
        refine z_iload_n (pc := 31) dX3_sheet_31 3 rfl ?_
        refine z_bipush (pc := 32) dX3_sheet_32 (by decide) ?_
        refine z_icmp_le (pc := 34) (tgt := 43) dX3_sheet_34 (by decide) (by omega) (by omega) (fun h34 => ?_) (fun h34 => ?_)
        · skip
          refine z_aload_n (pc := 43) dX3_sheet_43 0 rfl ?_
          refine z_get (pc := 44) (q0 := 0) (v := .ref sh) fL_X3_35 dX3_sheet_44 rfl rfl ?_
          refine z_iload_n (pc := 47) dX3_sheet_47 1 rfl ?_
          refine z_aald (pc := 48) (q0 := 2) dX3_sheet_48 rfl (by omega) (by decide) (hfs) ?_
          refine z_iload_n (pc := 49) dX3_sheet_49 2 rfl ?_
          refine z_iload_n (pc := 50) dX3_sheet_50 3 rfl ?_
          refine z_callV (pc := 51) (st := []) (st2 := []) (ws2 := [(x, .inr (3, [.ref h, .ref t, .ref k0, .int ik, .ref tp, .ref sh, .ref fi])), (fi, .inl (cI, 7, .inl (ar fd))), (sh, .inl (cS, 4, .inr (.inr (.inr (.inr fs))))), (z, .inr (1, [.ref zn, .int (iI b), .int (iI (if b = 0 then 0 else n))])), (zn, .inl (cJ, 40, .inr (.inl (shN (fun _ => 0)))))]) (q0 := 3) (c_X1_renew l D cI cJ cB cS xa z zn bt sz F b n (by omega)) mV_X1_renew kM_X3_192 dX3_sheet_51 rfl rfl [3, 4] rfl rfl rfl rfl rfl rfl rfl rfl ⟨Nat.le_of_ble_eq_true rfl, Nat.le_of_ble_eq_true rfl, Nat.le_of_ble_eq_true rfl⟩ ?_
          refine z_aload_n (pc := 54) dX3_sheet_54 0 rfl ?_
          refine z_get (pc := 55) (q0 := 0) (v := .ref sh) fL_X3_35 dX3_sheet_55 rfl rfl ?_
          refine z_iload_n (pc := 58) dX3_sheet_58 1 rfl ?_
          refine z_aald (pc := 59) (q0 := 2) dX3_sheet_59 rfl (by omega) (by decide) (hfs) ?_
          refine z_get (pc := 60) (q0 := 3) (v := .int (iI (if b = 0 then 0 else n))) fL_X3_195 dX3_sheet_60 rfl rfl ?_
          have e9 : opSheet bt sz F fd b n = ((iI (if b = 0 then 0 else n)), b, if b = 0 then 0 else n, fun _ => 0, fd) := by
            unfold opSheet; try unfold bI
            (repeat' split) <;> first | (exfalso; omega) | contradiction | rfl
          exact z_iret (pc := 63) dX3_sheet_63 (by rw [e9]) (by rw [e9])
        · skip
          refine z_aload_n (pc := 37) dX3_sheet_37 0 rfl ?_
          refine z_iconst (pc := 38) dX3_sheet_38 ?_
          refine z_callV (pc := 39) (st := []) (st2 := [.int (iI (-1000000001 - 0))]) (ws2 := [(x, .inr (3, [.ref h, .ref t, .ref k0, .int ik, .ref tp, .ref sh, .ref fi])), (fi, .inl (cI, 7, .inl (ar (fnd fd 0)))), (sh, .inl (cS, 4, .inr (.inr (.inr (.inr fs))))), (z, .inr (1, [.ref zn, .int (iI bt), .int (iI sz)])), (zn, .inl (cJ, 40, .inr (.inl (shN F))))]) (q0 := 0) (c_X3_found l D cI cJ cB cS xa x h t k0 tp sh fi ik fd 0 (by omega)) mV_X3_found kM_X3_48 dX3_sheet_39 rfl rfl [0, 1] rfl rfl rfl rfl rfl rfl rfl rfl ⟨Nat.le_of_ble_eq_true rfl, Nat.le_of_ble_eq_true rfl, Nat.le_of_ble_eq_true rfl⟩ ?_
          have e9 : opSheet bt sz F fd b n = ((iI (-1000000001 - 0)), bt, sz, F, fnd fd 0) := by
            unfold opSheet; try unfold bI
            (repeat' split) <;> first | (exfalso; omega) | contradiction | rfl
          exact z_iret (pc := 42) dX3_sheet_42 (by rw [e9]) (by rw [e9])
      · skip
        refine z_aload_n (pc := 24) dX3_sheet_24 0 rfl ?_
        refine z_bipush (pc := 25) dX3_sheet_25 (by decide) ?_
        refine z_callV (pc := 27) (st := []) (st2 := [.int (iI (-1000000001 - 6))]) (ws2 := [(x, .inr (3, [.ref h, .ref t, .ref k0, .int ik, .ref tp, .ref sh, .ref fi])), (fi, .inl (cI, 7, .inl (ar (fnd fd 6)))), (sh, .inl (cS, 4, .inr (.inr (.inr (.inr fs))))), (z, .inr (1, [.ref zn, .int (iI bt), .int (iI sz)])), (zn, .inl (cJ, 40, .inr (.inl (shN F))))]) (q0 := 0) (c_X3_found l D cI cJ cB cS xa x h t k0 tp sh fi ik fd 6 (by omega)) mV_X3_found kM_X3_48 dX3_sheet_27 rfl rfl [0, 1] rfl rfl rfl rfl rfl rfl rfl rfl ⟨Nat.le_of_ble_eq_true rfl, Nat.le_of_ble_eq_true rfl, Nat.le_of_ble_eq_true rfl⟩ ?_
        have e9 : opSheet bt sz F fd b n = ((iI (-1000000001 - 6)), bt, sz, F, fnd fd 6) := by
          unfold opSheet; try unfold bI
          (repeat' split) <;> first | (exfalso; omega) | contradiction | rfl
        exact z_iret (pc := 30) dX3_sheet_30 (by rw [e9]) (by rw [e9])
    · skip
      refine z_aload_n (pc := 14) dX3_sheet_14 0 rfl ?_
      refine z_iconst (pc := 15) dX3_sheet_15 ?_
      refine z_callV (pc := 16) (st := []) (st2 := [.int (iI (-1000000001 - 0))]) (ws2 := [(x, .inr (3, [.ref h, .ref t, .ref k0, .int ik, .ref tp, .ref sh, .ref fi])), (fi, .inl (cI, 7, .inl (ar (fnd fd 0)))), (sh, .inl (cS, 4, .inr (.inr (.inr (.inr fs))))), (z, .inr (1, [.ref zn, .int (iI bt), .int (iI sz)])), (zn, .inl (cJ, 40, .inr (.inl (shN F))))]) (q0 := 0) (c_X3_found l D cI cJ cB cS xa x h t k0 tp sh fi ik fd 0 (by omega)) mV_X3_found kM_X3_48 dX3_sheet_16 rfl rfl [0, 1] rfl rfl rfl rfl rfl rfl rfl rfl ⟨Nat.le_of_ble_eq_true rfl, Nat.le_of_ble_eq_true rfl, Nat.le_of_ble_eq_true rfl⟩ ?_
      have e9 : opSheet bt sz F fd b n = ((iI (-1000000001 - 0)), bt, sz, F, fnd fd 0) := by
        unfold opSheet; try unfold bI
        (repeat' split) <;> first | (exfalso; omega) | contradiction | rfl
      exact z_iret (pc := 19) dX3_sheet_19 (by rw [e9]) (by rw [e9])
set_option maxHeartbeats 8000000 in
set_option maxRecDepth 100000 in
theorem c_X3_sheet_o (l : Launch) (D : va_G) (cI cJ cB cS : ClassId) (xa : XA) (x h t k0 tp sh fi : Nat) (ik : Int32) (fd : FF) (s b n : Int) (hs : ¬ (0 ≤ s ∧ s ≤ 3)) (rs : inr s) (rb : inr b) (rn : inr n) : Ct l D cI cJ cB cS xa yX3_sheet cX3_sheet 4 (some .int) 2 42 [.ref x, .int (iI s), .int (iI b), .int (iI n)] [(x, .inr (3, [.ref h, .ref t, .ref k0, .int ik, .ref tp, .ref sh, .ref fi])), (fi, .inl (cI, 7, .inl (ar fd)))] (some (.int (iI (-1000000001)))) [(x, .inr (3, [.ref h, .ref t, .ref k0, .int ik, .ref tp, .ref sh, .ref fi])), (fi, .inl (cI, 7, .inl (ar (fnd fd 0))))] := by
  refine CtE.of (own := RX3) (lv := [(0, .ref x), (1, .int (iI s)), (2, .int (iI b)), (3, .int (iI n))]) (by decide) rfl rfl (Nat.le_of_ble_eq_true rfl) ?_
  intro xp xe xs xm xb xt xc
  refine z_iload_n (pc := 0) dX3_sheet_0 1 rfl ?_
  refine z_callS (pc := 1) (st := []) (st2 := [.int (bI (0 ≤ s ∧ s ≤ 3))]) (ws2 := [(x, .inr (3, [.ref h, .ref t, .ref k0, .int ik, .ref tp, .ref sh, .ref fi])), (fi, .inl (cI, 7, .inl (ar fd)))]) (c_X3_isSheet l D cI cJ cB cS xa s (by omega)) mS_X3_isSheet kM_X3_186 dX3_sheet_1 [] rfl rfl rfl rfl rfl rfl rfl rfl ⟨Nat.le_of_ble_eq_true rfl, Nat.le_of_ble_eq_true rfl, Nat.le_of_ble_eq_true rfl⟩ ?_
  refine z_ifb_eq (pc := 4) (tgt := 14) dX3_sheet_4 (by decide) (fun h4 => ?_) (fun h4 => ?_)
  · skip
    refine z_aload_n (pc := 14) dX3_sheet_14 0 rfl ?_
    refine z_iconst (pc := 15) dX3_sheet_15 ?_
    refine z_callV (pc := 16) (st := []) (st2 := [.int (iI (-1000000001 - 0))]) (ws2 := [(x, .inr (3, [.ref h, .ref t, .ref k0, .int ik, .ref tp, .ref sh, .ref fi])), (fi, .inl (cI, 7, .inl (ar (fnd fd 0))))]) (q0 := 0) (c_X3_found l D cI cJ cB cS xa x h t k0 tp sh fi ik fd 0 (by omega)) mV_X3_found kM_X3_48 dX3_sheet_16 rfl rfl [0, 1] rfl rfl rfl rfl rfl rfl rfl rfl ⟨Nat.le_of_ble_eq_true rfl, Nat.le_of_ble_eq_true rfl, Nat.le_of_ble_eq_true rfl⟩ ?_
    exact z_iret (pc := 19) dX3_sheet_19 (congrArg (fun z => some (Value.int (iI z))) (show (-1000000001) = -1000000001 - 0 from by rfl)) rfl
  · skip
    exfalso; omega
set_option maxHeartbeats 8000000 in
set_option maxRecDepth 100000 in
theorem c_X3_write (l : Launch) (D : va_G) (cI cJ cB cS : ClassId) (xa : XA) (x h t k0 tp sh fi : Nat) (ik : Int32) (fs : Nat → Option Nat) (z zn : Nat) (bt sz : Int) (F : LL) (fd : FF) (s i : Int) (v : Int64) (hs : 0 ≤ s ∧ s ≤ 3) (hfs : fs (Int.toNat s) = some z) (hbt : 0 ≤ bt ∧ bt ≤ 64) (hsz : 0 ≤ sz ∧ sz ≤ 40) (ri : inr i) : Ct l D cI cJ cB cS xa yX3_write cX3_write 8 (some .long) 2 42 [.ref x, .int (iI s), .int (iI i), .long v] [(x, .inr (3, [.ref h, .ref t, .ref k0, .int ik, .ref tp, .ref sh, .ref fi])), (fi, .inl (cI, 7, .inl (ar fd))), (sh, .inl (cS, 4, .inr (.inr (.inr (.inr fs))))), (z, .inr (1, [.ref zn, .int (iI bt), .int (iI sz)])), (zn, .inl (cJ, 40, .inr (.inl (shN F))))] (some (.long ((opWrite bt sz F fd i v).1))) [(x, .inr (3, [.ref h, .ref t, .ref k0, .int ik, .ref tp, .ref sh, .ref fi])), (fi, .inl (cI, 7, .inl (ar ((opWrite bt sz F fd i v).2.2)))), (sh, .inl (cS, 4, .inr (.inr (.inr (.inr fs))))), (z, .inr (1, [.ref zn, .int (iI bt), .int (iI sz)])), (zn, .inl (cJ, 40, .inr (.inl (shN ((opWrite bt sz F fd i v).2.1)))))] := by
  refine CtE.of (own := RX3) (lv := [(0, .ref x), (1, .int (iI s)), (2, .int (iI i)), (3, .long v)]) (by decide) rfl rfl (Nat.le_of_ble_eq_true rfl) ?_
  intro xp xe xs xm xb xt xc
  refine z_iload_n (pc := 0) dX3_write_0 1 rfl ?_
  refine z_callS (pc := 1) (st := []) (st2 := [.int (bI (0 ≤ s ∧ s ≤ 3))]) (ws2 := [(x, .inr (3, [.ref h, .ref t, .ref k0, .int ik, .ref tp, .ref sh, .ref fi])), (fi, .inl (cI, 7, .inl (ar fd))), (sh, .inl (cS, 4, .inr (.inr (.inr (.inr fs))))), (z, .inr (1, [.ref zn, .int (iI bt), .int (iI sz)])), (zn, .inl (cJ, 40, .inr (.inl (shN F))))]) (c_X3_isSheet l D cI cJ cB cS xa s (by omega)) mS_X3_isSheet kM_X3_186 dX3_write_1 [] rfl rfl rfl rfl rfl rfl rfl rfl ⟨Nat.le_of_ble_eq_true rfl, Nat.le_of_ble_eq_true rfl, Nat.le_of_ble_eq_true rfl⟩ ?_
  refine z_ifb_ne (pc := 4) (tgt := 14) dX3_write_4 (by decide) (fun h4 => ?_) (fun h4 => ?_)
  · skip
    refine z_aload_n (pc := 14) dX3_write_14 0 rfl ?_
    refine z_get (pc := 15) (q0 := 0) (v := .ref sh) fL_X3_35 dX3_write_15 rfl rfl ?_
    refine z_iload_n (pc := 18) dX3_write_18 1 rfl ?_
    refine z_aald (pc := 19) (q0 := 2) dX3_write_19 rfl (by omega) (by decide) (hfs) ?_
    refine z_astore (pc := 20) (lv2 := [(5, .ref z), (0, .ref x), (1, .int (iI s)), (2, .int (iI i)), (3, .long v)]) dX3_write_20 (by decide) rfl ?_
    refine z_aload (pc := 22) dX3_write_22 0 rfl ?_
    refine z_callV (pc := 24) (st := []) (st2 := [.int (bI (bt = 0))]) (ws2 := [(x, .inr (3, [.ref h, .ref t, .ref k0, .int ik, .ref tp, .ref sh, .ref fi])), (fi, .inl (cI, 7, .inl (ar fd))), (sh, .inl (cS, 4, .inr (.inr (.inr (.inr fs))))), (z, .inr (1, [.ref zn, .int (iI bt), .int (iI sz)])), (zn, .inl (cJ, 40, .inr (.inl (shN F))))]) (q0 := 3) (c_X1_isMissing l D cI cJ cB cS xa z zn bt sz (by omega)) mV_X1_isMissing kM_X3_196 dX3_write_24 rfl rfl [3] rfl rfl rfl rfl rfl rfl rfl rfl ⟨Nat.le_of_ble_eq_true rfl, Nat.le_of_ble_eq_true rfl, Nat.le_of_ble_eq_true rfl⟩ ?_
    refine z_ifb_eq (pc := 27) (tgt := 37) dX3_write_27 (by decide) (fun h27 => ?_) (fun h27 => ?_)
    · skip
      refine z_aload (pc := 37) dX3_write_37 0 rfl ?_
      refine z_iload_n (pc := 39) dX3_write_39 3 rfl ?_
      refine z_iconst (pc := 40) dX3_write_40 ?_
      refine z_callV (pc := 41) (st := []) (st2 := [.int (bI (0 ≤ i ∧ 0 ≤ 1 ∧ i ≤ sz - 1))]) (ws2 := [(x, .inr (3, [.ref h, .ref t, .ref k0, .int ik, .ref tp, .ref sh, .ref fi])), (fi, .inl (cI, 7, .inl (ar fd))), (sh, .inl (cS, 4, .inr (.inr (.inr (.inr fs))))), (z, .inr (1, [.ref zn, .int (iI bt), .int (iI sz)])), (zn, .inl (cJ, 40, .inr (.inl (shN F))))]) (q0 := 3) (c_X1_has l D cI cJ cB cS xa z zn bt sz i 1 (by omega) (by omega) (by omega)) mV_X1_has kM_X3_199 dX3_write_41 rfl rfl [3] rfl rfl rfl rfl rfl rfl rfl rfl ⟨Nat.le_of_ble_eq_true rfl, Nat.le_of_ble_eq_true rfl, Nat.le_of_ble_eq_true rfl⟩ ?_
      refine z_ifb_ne (pc := 44) (tgt := 54) dX3_write_44 (by decide) (fun h44 => ?_) (fun h44 => ?_)
      · skip
        refine z_aload (pc := 54) dX3_write_54 0 rfl ?_
        refine z_get (pc := 56) (q0 := 3) (v := .ref zn) fL_X3_202 dX3_write_56 rfl rfl ?_
        refine z_iload_n (pc := 59) dX3_write_59 3 rfl ?_
        refine z_lald (pc := 60) (q0 := 4) (v := (F i)) dX3_write_60 rfl (by omega) (by decide) (shN_at (by omega)) ?_
        refine z_lstore (pc := 61) (lv2 := [(6, .long (F i)), (5, .ref z), (0, .ref x), (1, .int (iI s)), (2, .int (iI i)), (3, .long v)]) dX3_write_61 (by decide) rfl ?_
        refine z_aload (pc := 63) dX3_write_63 1 rfl ?_
        refine z_iload_n (pc := 65) dX3_write_65 4 rfl ?_
        refine z_lload_n (pc := 66) dX3_write_66 5 rfl ?_
        refine z_callV (pc := 67) (st := []) (st2 := []) (ws2 := [(x, .inr (3, [.ref h, .ref t, .ref k0, .int ik, .ref tp, .ref sh, .ref fi])), (fi, .inl (cI, 7, .inl (ar fd))), (sh, .inl (cS, 4, .inr (.inr (.inr (.inr fs))))), (z, .inr (1, [.ref zn, .int (iI bt), .int (iI sz)])), (zn, .inl (cJ, 40, .inr (.inl (shN (upL F i (nrw bt v))))))]) (q0 := 3) (c_X1_store l D cI cJ cB cS xa z zn bt sz F i v (by omega) (by omega)) mV_X1_store kM_X3_206 dX3_write_67 rfl rfl [3, 4] rfl rfl rfl rfl rfl rfl rfl rfl ⟨Nat.le_of_ble_eq_true rfl, Nat.le_of_ble_eq_true rfl, Nat.le_of_ble_eq_true rfl⟩ ?_
        refine z_lload (pc := 70) dX3_write_70 0 rfl ?_
        have e9 : opWrite bt sz F fd i v = (F i, upL F i (nrw bt v), fd) := by
          unfold opWrite; try unfold bI
          (repeat' split) <;> first | (exfalso; omega) | contradiction | rfl
        exact z_lret (pc := 72) dX3_write_72 (by rw [e9]) (by rw [e9])
      · skip
        refine z_aload_n (pc := 47) dX3_write_47 1 rfl ?_
        refine z_iconst (pc := 48) dX3_write_48 ?_
        refine z_callV (pc := 49) (st := []) (st2 := [.int (iI (-1000000001 - 0))]) (ws2 := [(x, .inr (3, [.ref h, .ref t, .ref k0, .int ik, .ref tp, .ref sh, .ref fi])), (fi, .inl (cI, 7, .inl (ar (fnd fd 0)))), (sh, .inl (cS, 4, .inr (.inr (.inr (.inr fs))))), (z, .inr (1, [.ref zn, .int (iI bt), .int (iI sz)])), (zn, .inl (cJ, 40, .inr (.inl (shN F))))]) (q0 := 0) (c_X3_found l D cI cJ cB cS xa x h t k0 tp sh fi ik fd 0 (by omega)) mV_X3_found kM_X3_48 dX3_write_49 rfl rfl [0, 1] rfl rfl rfl rfl rfl rfl rfl rfl ⟨Nat.le_of_ble_eq_true rfl, Nat.le_of_ble_eq_true rfl, Nat.le_of_ble_eq_true rfl⟩ ?_
        refine z_i2l (pc := 52) dX3_write_52 ?_
        have e9 : opWrite bt sz F fd i v = (((iI (-1000000001 - 0))).toInt64, F, fnd fd 0) := by
          unfold opWrite; try unfold bI
          (repeat' split) <;> first | (exfalso; omega) | contradiction | rfl
        exact z_lret (pc := 53) dX3_write_53 (by rw [e9]) (by rw [e9])
    · skip
      refine z_aload_n (pc := 30) dX3_write_30 1 rfl ?_
      refine z_iconst (pc := 31) dX3_write_31 ?_
      refine z_callV (pc := 32) (st := []) (st2 := [.int (iI (-1000000001 - 5))]) (ws2 := [(x, .inr (3, [.ref h, .ref t, .ref k0, .int ik, .ref tp, .ref sh, .ref fi])), (fi, .inl (cI, 7, .inl (ar (fnd fd 5)))), (sh, .inl (cS, 4, .inr (.inr (.inr (.inr fs))))), (z, .inr (1, [.ref zn, .int (iI bt), .int (iI sz)])), (zn, .inl (cJ, 40, .inr (.inl (shN F))))]) (q0 := 0) (c_X3_found l D cI cJ cB cS xa x h t k0 tp sh fi ik fd 5 (by omega)) mV_X3_found kM_X3_48 dX3_write_32 rfl rfl [0, 1] rfl rfl rfl rfl rfl rfl rfl rfl ⟨Nat.le_of_ble_eq_true rfl, Nat.le_of_ble_eq_true rfl, Nat.le_of_ble_eq_true rfl⟩ ?_
      refine z_i2l (pc := 35) dX3_write_35 ?_
      have e9 : opWrite bt sz F fd i v = (((iI (-1000000001 - 5))).toInt64, F, fnd fd 5) := by
        unfold opWrite; try unfold bI
        (repeat' split) <;> first | (exfalso; omega) | contradiction | rfl
      exact z_lret (pc := 36) dX3_write_36 (by rw [e9]) (by rw [e9])
  · skip
    exfalso; omega
set_option maxHeartbeats 8000000 in
set_option maxRecDepth 100000 in
theorem c_X3_write_o (l : Launch) (D : va_G) (cI cJ cB cS : ClassId) (xa : XA) (x h t k0 tp sh fi : Nat) (ik : Int32) (fd : FF) (s i : Int) (v : Int64) (hs : ¬ (0 ≤ s ∧ s ≤ 3)) (rs : inr s) (ri : inr i) : Ct l D cI cJ cB cS xa yX3_write cX3_write 8 (some .long) 2 42 [.ref x, .int (iI s), .int (iI i), .long v] [(x, .inr (3, [.ref h, .ref t, .ref k0, .int ik, .ref tp, .ref sh, .ref fi])), (fi, .inl (cI, 7, .inl (ar fd)))] (some (.long ((fin 0).toInt64))) [(x, .inr (3, [.ref h, .ref t, .ref k0, .int ik, .ref tp, .ref sh, .ref fi])), (fi, .inl (cI, 7, .inl (ar (fnd fd 0))))] := by
  refine CtE.of (own := RX3) (lv := [(0, .ref x), (1, .int (iI s)), (2, .int (iI i)), (3, .long v)]) (by decide) rfl rfl (Nat.le_of_ble_eq_true rfl) ?_
  intro xp xe xs xm xb xt xc
  refine z_iload_n (pc := 0) dX3_write_0 1 rfl ?_
  refine z_callS (pc := 1) (st := []) (st2 := [.int (bI (0 ≤ s ∧ s ≤ 3))]) (ws2 := [(x, .inr (3, [.ref h, .ref t, .ref k0, .int ik, .ref tp, .ref sh, .ref fi])), (fi, .inl (cI, 7, .inl (ar fd)))]) (c_X3_isSheet l D cI cJ cB cS xa s (by omega)) mS_X3_isSheet kM_X3_186 dX3_write_1 [] rfl rfl rfl rfl rfl rfl rfl rfl ⟨Nat.le_of_ble_eq_true rfl, Nat.le_of_ble_eq_true rfl, Nat.le_of_ble_eq_true rfl⟩ ?_
  refine z_ifb_ne (pc := 4) (tgt := 14) dX3_write_4 (by decide) (fun h4 => ?_) (fun h4 => ?_)
  · skip
    exfalso; omega
  · skip
    refine z_aload_n (pc := 7) dX3_write_7 0 rfl ?_
    refine z_iconst (pc := 8) dX3_write_8 ?_
    refine z_callV (pc := 9) (st := []) (st2 := [.int (iI (-1000000001 - 0))]) (ws2 := [(x, .inr (3, [.ref h, .ref t, .ref k0, .int ik, .ref tp, .ref sh, .ref fi])), (fi, .inl (cI, 7, .inl (ar (fnd fd 0))))]) (q0 := 0) (c_X3_found l D cI cJ cB cS xa x h t k0 tp sh fi ik fd 0 (by omega)) mV_X3_found kM_X3_48 dX3_write_9 rfl rfl [0, 1] rfl rfl rfl rfl rfl rfl rfl rfl ⟨Nat.le_of_ble_eq_true rfl, Nat.le_of_ble_eq_true rfl, Nat.le_of_ble_eq_true rfl⟩ ?_
    refine z_i2l (pc := 12) dX3_write_12 ?_
    exact z_lret (pc := 13) dX3_write_13 (congrArg (fun z => some (Value.long z)) (show (fin 0).toInt64 = ((iI (-1000000001 - 0))).toInt64 from by rfl)) rfl
set_option maxHeartbeats 8000000 in
set_option maxRecDepth 100000 in
theorem c_X3_copy (l : Launch) (D : va_G) (cI cJ cB cS : ClassId) (xa : XA) (x h t k0 tp sh fi : Nat) (ik : Int32) (fs : Nat → Option Nat) (z zn : Nat) (bt sz : Int) (F : LL) (y yn : Nat) (b2 s2 : Int) (F2 : LL) (fd : FF) (s f t1 o n : Int) (hs : 0 ≤ s ∧ s ≤ 3) (ht : 0 ≤ t1 ∧ t1 ≤ 3) (hfs : fs (Int.toNat s) = some z) (hft : fs (Int.toNat t1) = some y) (hbt : 0 ≤ bt ∧ bt ≤ 64) (hsz : 0 ≤ sz ∧ sz ≤ 40) (hb2 : 0 ≤ b2 ∧ b2 ≤ 64) (hs2 : 0 ≤ s2 ∧ s2 ≤ 40) (rf : inr f) (ro : inr o) (rn : inr n) : Ct l D cI cJ cB cS xa yX3_copy cX3_copy 8 (some .int) 2 42 [.ref x, .int (iI s), .int (iI f), .int (iI t1), .int (iI o), .int (iI n)] [(x, .inr (3, [.ref h, .ref t, .ref k0, .int ik, .ref tp, .ref sh, .ref fi])), (fi, .inl (cI, 7, .inl (ar fd))), (sh, .inl (cS, 4, .inr (.inr (.inr (.inr fs))))), (z, .inr (1, [.ref zn, .int (iI bt), .int (iI sz)])), (zn, .inl (cJ, 40, .inr (.inl (shN F)))), (y, .inr (1, [.ref yn, .int (iI b2), .int (iI s2)])), (yn, .inl (cJ, 40, .inr (.inl (shN F2))))] (some (.int ((opCopy bt sz F b2 s2 F2 fd f o n).1))) [(x, .inr (3, [.ref h, .ref t, .ref k0, .int ik, .ref tp, .ref sh, .ref fi])), (fi, .inl (cI, 7, .inl (ar ((opCopy bt sz F b2 s2 F2 fd f o n).2.2)))), (sh, .inl (cS, 4, .inr (.inr (.inr (.inr fs))))), (z, .inr (1, [.ref zn, .int (iI bt), .int (iI sz)])), (zn, .inl (cJ, 40, .inr (.inl (shN F)))), (y, .inr (1, [.ref yn, .int (iI b2), .int (iI s2)])), (yn, .inl (cJ, 40, .inr (.inl (shN ((opCopy bt sz F b2 s2 F2 fd f o n).2.1)))))] := by
  refine CtE.of (own := RX3) (lv := [(0, .ref x), (1, .int (iI s)), (2, .int (iI f)), (3, .int (iI t1)), (4, .int (iI o)), (5, .int (iI n))]) (by decide) rfl rfl (Nat.le_of_ble_eq_true rfl) ?_
  intro xp xe xs xm xb xt xc
  refine z_iload_n (pc := 0) dX3_copy_0 1 rfl ?_
  refine z_callS (pc := 1) (st := []) (st2 := [.int (bI (0 ≤ s ∧ s ≤ 3))]) (ws2 := [(x, .inr (3, [.ref h, .ref t, .ref k0, .int ik, .ref tp, .ref sh, .ref fi])), (fi, .inl (cI, 7, .inl (ar fd))), (sh, .inl (cS, 4, .inr (.inr (.inr (.inr fs))))), (z, .inr (1, [.ref zn, .int (iI bt), .int (iI sz)])), (zn, .inl (cJ, 40, .inr (.inl (shN F)))), (y, .inr (1, [.ref yn, .int (iI b2), .int (iI s2)])), (yn, .inl (cJ, 40, .inr (.inl (shN F2))))]) (c_X3_isSheet l D cI cJ cB cS xa s (by omega)) mS_X3_isSheet kM_X3_186 dX3_copy_1 [] rfl rfl rfl rfl rfl rfl rfl rfl ⟨Nat.le_of_ble_eq_true rfl, Nat.le_of_ble_eq_true rfl, Nat.le_of_ble_eq_true rfl⟩ ?_
  refine z_ifb_eq (pc := 4) (tgt := 14) dX3_copy_4 (by decide) (fun h4 => ?_) (fun h4 => ?_)
  · skip
    exfalso; omega
  · skip
    refine z_iload_n (pc := 7) dX3_copy_7 3 rfl ?_
    refine z_callS (pc := 8) (st := []) (st2 := [.int (bI (0 ≤ t1 ∧ t1 ≤ 3))]) (ws2 := [(x, .inr (3, [.ref h, .ref t, .ref k0, .int ik, .ref tp, .ref sh, .ref fi])), (fi, .inl (cI, 7, .inl (ar fd))), (sh, .inl (cS, 4, .inr (.inr (.inr (.inr fs))))), (z, .inr (1, [.ref zn, .int (iI bt), .int (iI sz)])), (zn, .inl (cJ, 40, .inr (.inl (shN F)))), (y, .inr (1, [.ref yn, .int (iI b2), .int (iI s2)])), (yn, .inl (cJ, 40, .inr (.inl (shN F2))))]) (c_X3_isSheet l D cI cJ cB cS xa t1 (by omega)) mS_X3_isSheet kM_X3_186 dX3_copy_8 [] rfl rfl rfl rfl rfl rfl rfl rfl ⟨Nat.le_of_ble_eq_true rfl, Nat.le_of_ble_eq_true rfl, Nat.le_of_ble_eq_true rfl⟩ ?_
    refine z_ifb_ne (pc := 11) (tgt := 20) dX3_copy_11 (by decide) (fun h11 => ?_) (fun h11 => ?_)
    · skip
      refine z_aload_n (pc := 20) dX3_copy_20 0 rfl ?_
      refine z_get (pc := 21) (q0 := 0) (v := .ref sh) fL_X3_35 dX3_copy_21 rfl rfl ?_
      refine z_iload_n (pc := 24) dX3_copy_24 1 rfl ?_
      refine z_aald (pc := 25) (q0 := 2) dX3_copy_25 rfl (by omega) (by decide) (hfs) ?_
      refine z_astore (pc := 26) (lv2 := [(6, .ref z), (0, .ref x), (1, .int (iI s)), (2, .int (iI f)), (3, .int (iI t1)), (4, .int (iI o)), (5, .int (iI n))]) dX3_copy_26 (by decide) rfl ?_
      refine z_aload_n (pc := 28) dX3_copy_28 1 rfl ?_
      refine z_get (pc := 29) (q0 := 0) (v := .ref sh) fL_X3_35 dX3_copy_29 rfl rfl ?_
      refine z_iload_n (pc := 32) dX3_copy_32 4 rfl ?_
      refine z_aald (pc := 33) (q0 := 2) dX3_copy_33 rfl (by omega) (by decide) (hft) ?_
      refine z_astore (pc := 34) (lv2 := [(7, .ref y), (6, .ref z), (0, .ref x), (1, .int (iI s)), (2, .int (iI f)), (3, .int (iI t1)), (4, .int (iI o)), (5, .int (iI n))]) dX3_copy_34 (by decide) rfl ?_
      refine z_aload (pc := 36) dX3_copy_36 1 rfl ?_
      refine z_callV (pc := 38) (st := []) (st2 := [.int (bI (bt = 0))]) (ws2 := [(x, .inr (3, [.ref h, .ref t, .ref k0, .int ik, .ref tp, .ref sh, .ref fi])), (fi, .inl (cI, 7, .inl (ar fd))), (sh, .inl (cS, 4, .inr (.inr (.inr (.inr fs))))), (z, .inr (1, [.ref zn, .int (iI bt), .int (iI sz)])), (zn, .inl (cJ, 40, .inr (.inl (shN F)))), (y, .inr (1, [.ref yn, .int (iI b2), .int (iI s2)])), (yn, .inl (cJ, 40, .inr (.inl (shN F2))))]) (q0 := 3) (c_X1_isMissing l D cI cJ cB cS xa z zn bt sz (by omega)) mV_X1_isMissing kM_X3_196 dX3_copy_38 rfl rfl [3] rfl rfl rfl rfl rfl rfl rfl rfl ⟨Nat.le_of_ble_eq_true rfl, Nat.le_of_ble_eq_true rfl, Nat.le_of_ble_eq_true rfl⟩ ?_
      refine z_ifb_ne (pc := 41) (tgt := 52) dX3_copy_41 (by decide) (fun h41 => ?_) (fun h41 => ?_)
      · skip
        refine z_aload_n (pc := 52) dX3_copy_52 2 rfl ?_
        refine z_iconst (pc := 53) dX3_copy_53 ?_
        refine z_callV (pc := 54) (st := []) (st2 := [.int (iI (-1000000001 - 5))]) (ws2 := [(x, .inr (3, [.ref h, .ref t, .ref k0, .int ik, .ref tp, .ref sh, .ref fi])), (fi, .inl (cI, 7, .inl (ar (fnd fd 5)))), (sh, .inl (cS, 4, .inr (.inr (.inr (.inr fs))))), (z, .inr (1, [.ref zn, .int (iI bt), .int (iI sz)])), (zn, .inl (cJ, 40, .inr (.inl (shN F)))), (y, .inr (1, [.ref yn, .int (iI b2), .int (iI s2)])), (yn, .inl (cJ, 40, .inr (.inl (shN F2))))]) (q0 := 0) (c_X3_found l D cI cJ cB cS xa x h t k0 tp sh fi ik fd 5 (by omega)) mV_X3_found kM_X3_48 dX3_copy_54 rfl rfl [0, 1] rfl rfl rfl rfl rfl rfl rfl rfl ⟨Nat.le_of_ble_eq_true rfl, Nat.le_of_ble_eq_true rfl, Nat.le_of_ble_eq_true rfl⟩ ?_
        have e9 : opCopy bt sz F b2 s2 F2 fd f o n = ((iI (-1000000001 - 5)), F2, fnd fd 5) := by
          unfold opCopy; try unfold bI
          (repeat' split) <;> first | (exfalso; omega) | contradiction | rfl
        exact z_iret (pc := 57) dX3_copy_57 (by rw [e9]) (by rw [e9])
      · skip
        refine z_aload (pc := 44) dX3_copy_44 0 rfl ?_
        refine z_callV (pc := 46) (st := []) (st2 := [.int (bI (b2 = 0))]) (ws2 := [(x, .inr (3, [.ref h, .ref t, .ref k0, .int ik, .ref tp, .ref sh, .ref fi])), (fi, .inl (cI, 7, .inl (ar fd))), (sh, .inl (cS, 4, .inr (.inr (.inr (.inr fs))))), (z, .inr (1, [.ref zn, .int (iI bt), .int (iI sz)])), (zn, .inl (cJ, 40, .inr (.inl (shN F)))), (y, .inr (1, [.ref yn, .int (iI b2), .int (iI s2)])), (yn, .inl (cJ, 40, .inr (.inl (shN F2))))]) (q0 := 5) (c_X1_isMissing l D cI cJ cB cS xa y yn b2 s2 (by omega)) mV_X1_isMissing kM_X3_196 dX3_copy_46 rfl rfl [5] rfl rfl rfl rfl rfl rfl rfl rfl ⟨Nat.le_of_ble_eq_true rfl, Nat.le_of_ble_eq_true rfl, Nat.le_of_ble_eq_true rfl⟩ ?_
        refine z_ifb_eq (pc := 49) (tgt := 58) dX3_copy_49 (by decide) (fun h49 => ?_) (fun h49 => ?_)
        · skip
          refine z_aload (pc := 58) dX3_copy_58 1 rfl ?_
          refine z_get (pc := 60) (q0 := 3) (v := .int (iI bt)) fL_X3_210 dX3_copy_60 rfl rfl ?_
          refine z_aload (pc := 63) dX3_copy_63 0 rfl ?_
          refine z_get (pc := 65) (q0 := 5) (v := .int (iI b2)) fL_X3_210 dX3_copy_65 rfl rfl ?_
          refine z_icmp_eq (pc := 68) (tgt := 77) dX3_copy_68 (by decide) (by omega) (by omega) (fun h68 => ?_) (fun h68 => ?_)
          · skip
            refine z_aload (pc := 77) dX3_copy_77 1 rfl ?_
            refine z_iload_n (pc := 79) dX3_copy_79 4 rfl ?_
            refine z_iload (pc := 80) dX3_copy_80 7 rfl ?_
            refine z_callV (pc := 82) (st := []) (st2 := [.int (bI (0 ≤ f ∧ 0 ≤ n ∧ f ≤ sz - n))]) (ws2 := [(x, .inr (3, [.ref h, .ref t, .ref k0, .int ik, .ref tp, .ref sh, .ref fi])), (fi, .inl (cI, 7, .inl (ar fd))), (sh, .inl (cS, 4, .inr (.inr (.inr (.inr fs))))), (z, .inr (1, [.ref zn, .int (iI bt), .int (iI sz)])), (zn, .inl (cJ, 40, .inr (.inl (shN F)))), (y, .inr (1, [.ref yn, .int (iI b2), .int (iI s2)])), (yn, .inl (cJ, 40, .inr (.inl (shN F2))))]) (q0 := 3) (c_X1_has l D cI cJ cB cS xa z zn bt sz f n (by omega) (by omega) (by omega)) mV_X1_has kM_X3_199 dX3_copy_82 rfl rfl [3] rfl rfl rfl rfl rfl rfl rfl rfl ⟨Nat.le_of_ble_eq_true rfl, Nat.le_of_ble_eq_true rfl, Nat.le_of_ble_eq_true rfl⟩ ?_
            refine z_ifb_eq (pc := 85) (tgt := 100) dX3_copy_85 (by decide) (fun h85 => ?_) (fun h85 => ?_)
            · skip
              refine z_aload_n (pc := 100) dX3_copy_100 2 rfl ?_
              refine z_iconst (pc := 101) dX3_copy_101 ?_
              refine z_callV (pc := 102) (st := []) (st2 := [.int (iI (-1000000001 - 0))]) (ws2 := [(x, .inr (3, [.ref h, .ref t, .ref k0, .int ik, .ref tp, .ref sh, .ref fi])), (fi, .inl (cI, 7, .inl (ar (fnd fd 0)))), (sh, .inl (cS, 4, .inr (.inr (.inr (.inr fs))))), (z, .inr (1, [.ref zn, .int (iI bt), .int (iI sz)])), (zn, .inl (cJ, 40, .inr (.inl (shN F)))), (y, .inr (1, [.ref yn, .int (iI b2), .int (iI s2)])), (yn, .inl (cJ, 40, .inr (.inl (shN F2))))]) (q0 := 0) (c_X3_found l D cI cJ cB cS xa x h t k0 tp sh fi ik fd 0 (by omega)) mV_X3_found kM_X3_48 dX3_copy_102 rfl rfl [0, 1] rfl rfl rfl rfl rfl rfl rfl rfl ⟨Nat.le_of_ble_eq_true rfl, Nat.le_of_ble_eq_true rfl, Nat.le_of_ble_eq_true rfl⟩ ?_
              have e9 : opCopy bt sz F b2 s2 F2 fd f o n = ((iI (-1000000001 - 0)), F2, fnd fd 0) := by
                unfold opCopy; try unfold bI
                (repeat' split) <;> first | (exfalso; omega) | contradiction | rfl
              exact z_iret (pc := 105) dX3_copy_105 (by rw [e9]) (by rw [e9])
            · skip
              refine z_aload (pc := 88) dX3_copy_88 0 rfl ?_
              refine z_iload (pc := 90) dX3_copy_90 6 rfl ?_
              refine z_iload (pc := 92) dX3_copy_92 7 rfl ?_
              refine z_callV (pc := 94) (st := []) (st2 := [.int (bI (0 ≤ o ∧ 0 ≤ n ∧ o ≤ s2 - n))]) (ws2 := [(x, .inr (3, [.ref h, .ref t, .ref k0, .int ik, .ref tp, .ref sh, .ref fi])), (fi, .inl (cI, 7, .inl (ar fd))), (sh, .inl (cS, 4, .inr (.inr (.inr (.inr fs))))), (z, .inr (1, [.ref zn, .int (iI bt), .int (iI sz)])), (zn, .inl (cJ, 40, .inr (.inl (shN F)))), (y, .inr (1, [.ref yn, .int (iI b2), .int (iI s2)])), (yn, .inl (cJ, 40, .inr (.inl (shN F2))))]) (q0 := 5) (c_X1_has l D cI cJ cB cS xa y yn b2 s2 o n (by omega) (by omega) (by omega)) mV_X1_has kM_X3_199 dX3_copy_94 rfl rfl [5] rfl rfl rfl rfl rfl rfl rfl rfl ⟨Nat.le_of_ble_eq_true rfl, Nat.le_of_ble_eq_true rfl, Nat.le_of_ble_eq_true rfl⟩ ?_
              refine z_ifb_ne (pc := 97) (tgt := 106) dX3_copy_97 (by decide) (fun h97 => ?_) (fun h97 => ?_)
              · skip
                refine z_aload (pc := 106) dX3_copy_106 1 rfl ?_
                refine z_get (pc := 108) (q0 := 3) (v := .ref zn) fL_X3_202 dX3_copy_108 rfl rfl ?_
                refine z_iload_n (pc := 111) dX3_copy_111 4 rfl ?_
                refine z_aload (pc := 112) dX3_copy_112 0 rfl ?_
                refine z_get (pc := 114) (q0 := 5) (v := .ref yn) fL_X3_202 dX3_copy_114 rfl rfl ?_
                refine z_iload (pc := 117) dX3_copy_117 6 rfl ?_
                refine z_iload (pc := 119) dX3_copy_119 7 rfl ?_
                refine z_copyl (pc := 121) (q0 := 4) (q1 := 6) (ws2 := [(x, .inr (3, [.ref h, .ref t, .ref k0, .int ik, .ref tp, .ref sh, .ref fi])), (fi, .inl (cI, 7, .inl (ar fd))), (sh, .inl (cS, 4, .inr (.inr (.inr (.inr fs))))), (z, .inr (1, [.ref zn, .int (iI bt), .int (iI sz)])), (zn, .inl (cJ, 40, .inr (.inl (shN F)))), (y, .inr (1, [.ref yn, .int (iI b2), .int (iI s2)])), (yn, .inl (cJ, 40, .inr (.inl (shN (cpL F F2 f o n)))))]) mcpy_X3_213 dX3_copy_121 rfl rfl (by omega) ⟨Nat.le_of_ble_eq_true rfl, Nat.le_of_ble_eq_true rfl⟩ (by rw [cpL_cpy _ _ (by omega) (by omega) (by omega)]; rfl) ?_
                refine z_iload (pc := 124) dX3_copy_124 7 rfl ?_
                have e9 : opCopy bt sz F b2 s2 F2 fd f o n = ((iI n), cpL F F2 f o n, fd) := by
                  unfold opCopy; try unfold bI
                  (repeat' split) <;> first | (exfalso; omega) | contradiction | rfl
                exact z_iret (pc := 126) dX3_copy_126 (by rw [e9]) (by rw [e9])
              · skip
                refine z_aload_n (pc := 100) dX3_copy_100 2 rfl ?_
                refine z_iconst (pc := 101) dX3_copy_101 ?_
                refine z_callV (pc := 102) (st := []) (st2 := [.int (iI (-1000000001 - 0))]) (ws2 := [(x, .inr (3, [.ref h, .ref t, .ref k0, .int ik, .ref tp, .ref sh, .ref fi])), (fi, .inl (cI, 7, .inl (ar (fnd fd 0)))), (sh, .inl (cS, 4, .inr (.inr (.inr (.inr fs))))), (z, .inr (1, [.ref zn, .int (iI bt), .int (iI sz)])), (zn, .inl (cJ, 40, .inr (.inl (shN F)))), (y, .inr (1, [.ref yn, .int (iI b2), .int (iI s2)])), (yn, .inl (cJ, 40, .inr (.inl (shN F2))))]) (q0 := 0) (c_X3_found l D cI cJ cB cS xa x h t k0 tp sh fi ik fd 0 (by omega)) mV_X3_found kM_X3_48 dX3_copy_102 rfl rfl [0, 1] rfl rfl rfl rfl rfl rfl rfl rfl ⟨Nat.le_of_ble_eq_true rfl, Nat.le_of_ble_eq_true rfl, Nat.le_of_ble_eq_true rfl⟩ ?_
                have e9 : opCopy bt sz F b2 s2 F2 fd f o n = ((iI (-1000000001 - 0)), F2, fnd fd 0) := by
                  unfold opCopy; try unfold bI
                  (repeat' split) <;> first | (exfalso; omega) | contradiction | rfl
                exact z_iret (pc := 105) dX3_copy_105 (by rw [e9]) (by rw [e9])
          · skip
            refine z_aload_n (pc := 71) dX3_copy_71 2 rfl ?_
            refine z_iconst (pc := 72) dX3_copy_72 ?_
            refine z_callV (pc := 73) (st := []) (st2 := [.int (iI (-1000000001 - 2))]) (ws2 := [(x, .inr (3, [.ref h, .ref t, .ref k0, .int ik, .ref tp, .ref sh, .ref fi])), (fi, .inl (cI, 7, .inl (ar (fnd fd 2)))), (sh, .inl (cS, 4, .inr (.inr (.inr (.inr fs))))), (z, .inr (1, [.ref zn, .int (iI bt), .int (iI sz)])), (zn, .inl (cJ, 40, .inr (.inl (shN F)))), (y, .inr (1, [.ref yn, .int (iI b2), .int (iI s2)])), (yn, .inl (cJ, 40, .inr (.inl (shN F2))))]) (q0 := 0) (c_X3_found l D cI cJ cB cS xa x h t k0 tp sh fi ik fd 2 (by omega)) mV_X3_found kM_X3_48 dX3_copy_73 rfl rfl [0, 1] rfl rfl rfl rfl rfl rfl rfl rfl ⟨Nat.le_of_ble_eq_true rfl, Nat.le_of_ble_eq_true rfl, Nat.le_of_ble_eq_true rfl⟩ ?_
            have e9 : opCopy bt sz F b2 s2 F2 fd f o n = ((iI (-1000000001 - 2)), F2, fnd fd 2) := by
              unfold opCopy; try unfold bI
              (repeat' split) <;> first | (exfalso; omega) | contradiction | rfl
            exact z_iret (pc := 76) dX3_copy_76 (by rw [e9]) (by rw [e9])
        · skip
          refine z_aload_n (pc := 52) dX3_copy_52 2 rfl ?_
          refine z_iconst (pc := 53) dX3_copy_53 ?_
          refine z_callV (pc := 54) (st := []) (st2 := [.int (iI (-1000000001 - 5))]) (ws2 := [(x, .inr (3, [.ref h, .ref t, .ref k0, .int ik, .ref tp, .ref sh, .ref fi])), (fi, .inl (cI, 7, .inl (ar (fnd fd 5)))), (sh, .inl (cS, 4, .inr (.inr (.inr (.inr fs))))), (z, .inr (1, [.ref zn, .int (iI bt), .int (iI sz)])), (zn, .inl (cJ, 40, .inr (.inl (shN F)))), (y, .inr (1, [.ref yn, .int (iI b2), .int (iI s2)])), (yn, .inl (cJ, 40, .inr (.inl (shN F2))))]) (q0 := 0) (c_X3_found l D cI cJ cB cS xa x h t k0 tp sh fi ik fd 5 (by omega)) mV_X3_found kM_X3_48 dX3_copy_54 rfl rfl [0, 1] rfl rfl rfl rfl rfl rfl rfl rfl ⟨Nat.le_of_ble_eq_true rfl, Nat.le_of_ble_eq_true rfl, Nat.le_of_ble_eq_true rfl⟩ ?_
          have e9 : opCopy bt sz F b2 s2 F2 fd f o n = ((iI (-1000000001 - 5)), F2, fnd fd 5) := by
            unfold opCopy; try unfold bI
            (repeat' split) <;> first | (exfalso; omega) | contradiction | rfl
          exact z_iret (pc := 57) dX3_copy_57 (by rw [e9]) (by rw [e9])
    · skip
      exfalso; omega
set_option maxHeartbeats 8000000 in
set_option maxRecDepth 100000 in
theorem c_X3_copy_e (l : Launch) (D : va_G) (cI cJ cB cS : ClassId) (xa : XA) (x h t k0 tp sh fi : Nat) (ik : Int32) (fs : Nat → Option Nat) (z zn : Nat) (bt sz : Int) (F : LL) (fd : FF) (s f t1 o n : Int) (hs : 0 ≤ s ∧ s ≤ 3) (ht : 0 ≤ t1 ∧ t1 ≤ 3) (hfs : fs (Int.toNat s) = some z) (hft : fs (Int.toNat t1) = some z) (hbt : 0 ≤ bt ∧ bt ≤ 64) (hsz : 0 ≤ sz ∧ sz ≤ 40) (rf : inr f) (ro : inr o) (rn : inr n) : Ct l D cI cJ cB cS xa yX3_copy cX3_copy 8 (some .int) 2 42 [.ref x, .int (iI s), .int (iI f), .int (iI t1), .int (iI o), .int (iI n)] [(x, .inr (3, [.ref h, .ref t, .ref k0, .int ik, .ref tp, .ref sh, .ref fi])), (fi, .inl (cI, 7, .inl (ar fd))), (sh, .inl (cS, 4, .inr (.inr (.inr (.inr fs))))), (z, .inr (1, [.ref zn, .int (iI bt), .int (iI sz)])), (zn, .inl (cJ, 40, .inr (.inl (shN F))))] (some (.int ((opCopy bt sz F bt sz F fd f o n).1))) [(x, .inr (3, [.ref h, .ref t, .ref k0, .int ik, .ref tp, .ref sh, .ref fi])), (fi, .inl (cI, 7, .inl (ar ((opCopy bt sz F bt sz F fd f o n).2.2)))), (sh, .inl (cS, 4, .inr (.inr (.inr (.inr fs))))), (z, .inr (1, [.ref zn, .int (iI bt), .int (iI sz)])), (zn, .inl (cJ, 40, .inr (.inl (shN ((opCopy bt sz F bt sz F fd f o n).2.1)))))] := by
  refine CtE.of (own := RX3) (lv := [(0, .ref x), (1, .int (iI s)), (2, .int (iI f)), (3, .int (iI t1)), (4, .int (iI o)), (5, .int (iI n))]) (by decide) rfl rfl (Nat.le_of_ble_eq_true rfl) ?_
  intro xp xe xs xm xb xt xc
  refine z_iload_n (pc := 0) dX3_copy_0 1 rfl ?_
  refine z_callS (pc := 1) (st := []) (st2 := [.int (bI (0 ≤ s ∧ s ≤ 3))]) (ws2 := [(x, .inr (3, [.ref h, .ref t, .ref k0, .int ik, .ref tp, .ref sh, .ref fi])), (fi, .inl (cI, 7, .inl (ar fd))), (sh, .inl (cS, 4, .inr (.inr (.inr (.inr fs))))), (z, .inr (1, [.ref zn, .int (iI bt), .int (iI sz)])), (zn, .inl (cJ, 40, .inr (.inl (shN F))))]) (c_X3_isSheet l D cI cJ cB cS xa s (by omega)) mS_X3_isSheet kM_X3_186 dX3_copy_1 [] rfl rfl rfl rfl rfl rfl rfl rfl ⟨Nat.le_of_ble_eq_true rfl, Nat.le_of_ble_eq_true rfl, Nat.le_of_ble_eq_true rfl⟩ ?_
  refine z_ifb_eq (pc := 4) (tgt := 14) dX3_copy_4 (by decide) (fun h4 => ?_) (fun h4 => ?_)
  · skip
    exfalso; omega
  · skip
    refine z_iload_n (pc := 7) dX3_copy_7 3 rfl ?_
    refine z_callS (pc := 8) (st := []) (st2 := [.int (bI (0 ≤ t1 ∧ t1 ≤ 3))]) (ws2 := [(x, .inr (3, [.ref h, .ref t, .ref k0, .int ik, .ref tp, .ref sh, .ref fi])), (fi, .inl (cI, 7, .inl (ar fd))), (sh, .inl (cS, 4, .inr (.inr (.inr (.inr fs))))), (z, .inr (1, [.ref zn, .int (iI bt), .int (iI sz)])), (zn, .inl (cJ, 40, .inr (.inl (shN F))))]) (c_X3_isSheet l D cI cJ cB cS xa t1 (by omega)) mS_X3_isSheet kM_X3_186 dX3_copy_8 [] rfl rfl rfl rfl rfl rfl rfl rfl ⟨Nat.le_of_ble_eq_true rfl, Nat.le_of_ble_eq_true rfl, Nat.le_of_ble_eq_true rfl⟩ ?_
    refine z_ifb_ne (pc := 11) (tgt := 20) dX3_copy_11 (by decide) (fun h11 => ?_) (fun h11 => ?_)
    · skip
      refine z_aload_n (pc := 20) dX3_copy_20 0 rfl ?_
      refine z_get (pc := 21) (q0 := 0) (v := .ref sh) fL_X3_35 dX3_copy_21 rfl rfl ?_
      refine z_iload_n (pc := 24) dX3_copy_24 1 rfl ?_
      refine z_aald (pc := 25) (q0 := 2) dX3_copy_25 rfl (by omega) (by decide) (hfs) ?_
      refine z_astore (pc := 26) (lv2 := [(6, .ref z), (0, .ref x), (1, .int (iI s)), (2, .int (iI f)), (3, .int (iI t1)), (4, .int (iI o)), (5, .int (iI n))]) dX3_copy_26 (by decide) rfl ?_
      refine z_aload_n (pc := 28) dX3_copy_28 1 rfl ?_
      refine z_get (pc := 29) (q0 := 0) (v := .ref sh) fL_X3_35 dX3_copy_29 rfl rfl ?_
      refine z_iload_n (pc := 32) dX3_copy_32 4 rfl ?_
      refine z_aald (pc := 33) (q0 := 2) dX3_copy_33 rfl (by omega) (by decide) (hft) ?_
      refine z_astore (pc := 34) (lv2 := [(7, .ref z), (6, .ref z), (0, .ref x), (1, .int (iI s)), (2, .int (iI f)), (3, .int (iI t1)), (4, .int (iI o)), (5, .int (iI n))]) dX3_copy_34 (by decide) rfl ?_
      refine z_aload (pc := 36) dX3_copy_36 1 rfl ?_
      refine z_callV (pc := 38) (st := []) (st2 := [.int (bI (bt = 0))]) (ws2 := [(x, .inr (3, [.ref h, .ref t, .ref k0, .int ik, .ref tp, .ref sh, .ref fi])), (fi, .inl (cI, 7, .inl (ar fd))), (sh, .inl (cS, 4, .inr (.inr (.inr (.inr fs))))), (z, .inr (1, [.ref zn, .int (iI bt), .int (iI sz)])), (zn, .inl (cJ, 40, .inr (.inl (shN F))))]) (q0 := 3) (c_X1_isMissing l D cI cJ cB cS xa z zn bt sz (by omega)) mV_X1_isMissing kM_X3_196 dX3_copy_38 rfl rfl [3] rfl rfl rfl rfl rfl rfl rfl rfl ⟨Nat.le_of_ble_eq_true rfl, Nat.le_of_ble_eq_true rfl, Nat.le_of_ble_eq_true rfl⟩ ?_
      refine z_ifb_ne (pc := 41) (tgt := 52) dX3_copy_41 (by decide) (fun h41 => ?_) (fun h41 => ?_)
      · skip
        refine z_aload_n (pc := 52) dX3_copy_52 2 rfl ?_
        refine z_iconst (pc := 53) dX3_copy_53 ?_
        refine z_callV (pc := 54) (st := []) (st2 := [.int (iI (-1000000001 - 5))]) (ws2 := [(x, .inr (3, [.ref h, .ref t, .ref k0, .int ik, .ref tp, .ref sh, .ref fi])), (fi, .inl (cI, 7, .inl (ar (fnd fd 5)))), (sh, .inl (cS, 4, .inr (.inr (.inr (.inr fs))))), (z, .inr (1, [.ref zn, .int (iI bt), .int (iI sz)])), (zn, .inl (cJ, 40, .inr (.inl (shN F))))]) (q0 := 0) (c_X3_found l D cI cJ cB cS xa x h t k0 tp sh fi ik fd 5 (by omega)) mV_X3_found kM_X3_48 dX3_copy_54 rfl rfl [0, 1] rfl rfl rfl rfl rfl rfl rfl rfl ⟨Nat.le_of_ble_eq_true rfl, Nat.le_of_ble_eq_true rfl, Nat.le_of_ble_eq_true rfl⟩ ?_
        have e9 : opCopy bt sz F bt sz F fd f o n = ((iI (-1000000001 - 5)), F, fnd fd 5) := by
          unfold opCopy; try unfold bI
          (repeat' split) <;> first | (exfalso; omega) | contradiction | rfl
        exact z_iret (pc := 57) dX3_copy_57 (by rw [e9]) (by rw [e9])
      · skip
        refine z_aload (pc := 44) dX3_copy_44 0 rfl ?_
        refine z_callV (pc := 46) (st := []) (st2 := [.int (bI (bt = 0))]) (ws2 := [(x, .inr (3, [.ref h, .ref t, .ref k0, .int ik, .ref tp, .ref sh, .ref fi])), (fi, .inl (cI, 7, .inl (ar fd))), (sh, .inl (cS, 4, .inr (.inr (.inr (.inr fs))))), (z, .inr (1, [.ref zn, .int (iI bt), .int (iI sz)])), (zn, .inl (cJ, 40, .inr (.inl (shN F))))]) (q0 := 3) (c_X1_isMissing l D cI cJ cB cS xa z zn bt sz (by omega)) mV_X1_isMissing kM_X3_196 dX3_copy_46 rfl rfl [3] rfl rfl rfl rfl rfl rfl rfl rfl ⟨Nat.le_of_ble_eq_true rfl, Nat.le_of_ble_eq_true rfl, Nat.le_of_ble_eq_true rfl⟩ ?_
        refine z_ifb_eq (pc := 49) (tgt := 58) dX3_copy_49 (by decide) (fun h49 => ?_) (fun h49 => ?_)
        · skip
          refine z_aload (pc := 58) dX3_copy_58 1 rfl ?_
          refine z_get (pc := 60) (q0 := 3) (v := .int (iI bt)) fL_X3_210 dX3_copy_60 rfl rfl ?_
          refine z_aload (pc := 63) dX3_copy_63 0 rfl ?_
          refine z_get (pc := 65) (q0 := 3) (v := .int (iI bt)) fL_X3_210 dX3_copy_65 rfl rfl ?_
          refine z_icmp_eq (pc := 68) (tgt := 77) dX3_copy_68 (by decide) (by omega) (by omega) (fun h68 => ?_) (fun h68 => ?_)
          · skip
            refine z_aload (pc := 77) dX3_copy_77 1 rfl ?_
            refine z_iload_n (pc := 79) dX3_copy_79 4 rfl ?_
            refine z_iload (pc := 80) dX3_copy_80 7 rfl ?_
            refine z_callV (pc := 82) (st := []) (st2 := [.int (bI (0 ≤ f ∧ 0 ≤ n ∧ f ≤ sz - n))]) (ws2 := [(x, .inr (3, [.ref h, .ref t, .ref k0, .int ik, .ref tp, .ref sh, .ref fi])), (fi, .inl (cI, 7, .inl (ar fd))), (sh, .inl (cS, 4, .inr (.inr (.inr (.inr fs))))), (z, .inr (1, [.ref zn, .int (iI bt), .int (iI sz)])), (zn, .inl (cJ, 40, .inr (.inl (shN F))))]) (q0 := 3) (c_X1_has l D cI cJ cB cS xa z zn bt sz f n (by omega) (by omega) (by omega)) mV_X1_has kM_X3_199 dX3_copy_82 rfl rfl [3] rfl rfl rfl rfl rfl rfl rfl rfl ⟨Nat.le_of_ble_eq_true rfl, Nat.le_of_ble_eq_true rfl, Nat.le_of_ble_eq_true rfl⟩ ?_
            refine z_ifb_eq (pc := 85) (tgt := 100) dX3_copy_85 (by decide) (fun h85 => ?_) (fun h85 => ?_)
            · skip
              refine z_aload_n (pc := 100) dX3_copy_100 2 rfl ?_
              refine z_iconst (pc := 101) dX3_copy_101 ?_
              refine z_callV (pc := 102) (st := []) (st2 := [.int (iI (-1000000001 - 0))]) (ws2 := [(x, .inr (3, [.ref h, .ref t, .ref k0, .int ik, .ref tp, .ref sh, .ref fi])), (fi, .inl (cI, 7, .inl (ar (fnd fd 0)))), (sh, .inl (cS, 4, .inr (.inr (.inr (.inr fs))))), (z, .inr (1, [.ref zn, .int (iI bt), .int (iI sz)])), (zn, .inl (cJ, 40, .inr (.inl (shN F))))]) (q0 := 0) (c_X3_found l D cI cJ cB cS xa x h t k0 tp sh fi ik fd 0 (by omega)) mV_X3_found kM_X3_48 dX3_copy_102 rfl rfl [0, 1] rfl rfl rfl rfl rfl rfl rfl rfl ⟨Nat.le_of_ble_eq_true rfl, Nat.le_of_ble_eq_true rfl, Nat.le_of_ble_eq_true rfl⟩ ?_
              have e9 : opCopy bt sz F bt sz F fd f o n = ((iI (-1000000001 - 0)), F, fnd fd 0) := by
                unfold opCopy; try unfold bI
                (repeat' split) <;> first | (exfalso; omega) | contradiction | rfl
              exact z_iret (pc := 105) dX3_copy_105 (by rw [e9]) (by rw [e9])
            · skip
              refine z_aload (pc := 88) dX3_copy_88 0 rfl ?_
              refine z_iload (pc := 90) dX3_copy_90 6 rfl ?_
              refine z_iload (pc := 92) dX3_copy_92 7 rfl ?_
              refine z_callV (pc := 94) (st := []) (st2 := [.int (bI (0 ≤ o ∧ 0 ≤ n ∧ o ≤ sz - n))]) (ws2 := [(x, .inr (3, [.ref h, .ref t, .ref k0, .int ik, .ref tp, .ref sh, .ref fi])), (fi, .inl (cI, 7, .inl (ar fd))), (sh, .inl (cS, 4, .inr (.inr (.inr (.inr fs))))), (z, .inr (1, [.ref zn, .int (iI bt), .int (iI sz)])), (zn, .inl (cJ, 40, .inr (.inl (shN F))))]) (q0 := 3) (c_X1_has l D cI cJ cB cS xa z zn bt sz o n (by omega) (by omega) (by omega)) mV_X1_has kM_X3_199 dX3_copy_94 rfl rfl [3] rfl rfl rfl rfl rfl rfl rfl rfl ⟨Nat.le_of_ble_eq_true rfl, Nat.le_of_ble_eq_true rfl, Nat.le_of_ble_eq_true rfl⟩ ?_
              refine z_ifb_ne (pc := 97) (tgt := 106) dX3_copy_97 (by decide) (fun h97 => ?_) (fun h97 => ?_)
              · skip
                refine z_aload (pc := 106) dX3_copy_106 1 rfl ?_
                refine z_get (pc := 108) (q0 := 3) (v := .ref zn) fL_X3_202 dX3_copy_108 rfl rfl ?_
                refine z_iload_n (pc := 111) dX3_copy_111 4 rfl ?_
                refine z_aload (pc := 112) dX3_copy_112 0 rfl ?_
                refine z_get (pc := 114) (q0 := 3) (v := .ref zn) fL_X3_202 dX3_copy_114 rfl rfl ?_
                refine z_iload (pc := 117) dX3_copy_117 6 rfl ?_
                refine z_iload (pc := 119) dX3_copy_119 7 rfl ?_
                refine z_copyl (pc := 121) (q0 := 4) (q1 := 4) (ws2 := [(x, .inr (3, [.ref h, .ref t, .ref k0, .int ik, .ref tp, .ref sh, .ref fi])), (fi, .inl (cI, 7, .inl (ar fd))), (sh, .inl (cS, 4, .inr (.inr (.inr (.inr fs))))), (z, .inr (1, [.ref zn, .int (iI bt), .int (iI sz)])), (zn, .inl (cJ, 40, .inr (.inl (shN (cpL F F f o n)))))]) mcpy_X3_213 dX3_copy_121 rfl rfl (by omega) ⟨Nat.le_of_ble_eq_true rfl, Nat.le_of_ble_eq_true rfl⟩ (by rw [cpL_cpy _ _ (by omega) (by omega) (by omega)]; rfl) ?_
                refine z_iload (pc := 124) dX3_copy_124 7 rfl ?_
                have e9 : opCopy bt sz F bt sz F fd f o n = ((iI n), cpL F F f o n, fd) := by
                  unfold opCopy; try unfold bI
                  (repeat' split) <;> first | (exfalso; omega) | contradiction | rfl
                exact z_iret (pc := 126) dX3_copy_126 (by rw [e9]) (by rw [e9])
              · skip
                refine z_aload_n (pc := 100) dX3_copy_100 2 rfl ?_
                refine z_iconst (pc := 101) dX3_copy_101 ?_
                refine z_callV (pc := 102) (st := []) (st2 := [.int (iI (-1000000001 - 0))]) (ws2 := [(x, .inr (3, [.ref h, .ref t, .ref k0, .int ik, .ref tp, .ref sh, .ref fi])), (fi, .inl (cI, 7, .inl (ar (fnd fd 0)))), (sh, .inl (cS, 4, .inr (.inr (.inr (.inr fs))))), (z, .inr (1, [.ref zn, .int (iI bt), .int (iI sz)])), (zn, .inl (cJ, 40, .inr (.inl (shN F))))]) (q0 := 0) (c_X3_found l D cI cJ cB cS xa x h t k0 tp sh fi ik fd 0 (by omega)) mV_X3_found kM_X3_48 dX3_copy_102 rfl rfl [0, 1] rfl rfl rfl rfl rfl rfl rfl rfl ⟨Nat.le_of_ble_eq_true rfl, Nat.le_of_ble_eq_true rfl, Nat.le_of_ble_eq_true rfl⟩ ?_
                have e9 : opCopy bt sz F bt sz F fd f o n = ((iI (-1000000001 - 0)), F, fnd fd 0) := by
                  unfold opCopy; try unfold bI
                  (repeat' split) <;> first | (exfalso; omega) | contradiction | rfl
                exact z_iret (pc := 105) dX3_copy_105 (by rw [e9]) (by rw [e9])
          · skip
            exfalso; omega
        · skip
          refine z_aload_n (pc := 52) dX3_copy_52 2 rfl ?_
          refine z_iconst (pc := 53) dX3_copy_53 ?_
          refine z_callV (pc := 54) (st := []) (st2 := [.int (iI (-1000000001 - 5))]) (ws2 := [(x, .inr (3, [.ref h, .ref t, .ref k0, .int ik, .ref tp, .ref sh, .ref fi])), (fi, .inl (cI, 7, .inl (ar (fnd fd 5)))), (sh, .inl (cS, 4, .inr (.inr (.inr (.inr fs))))), (z, .inr (1, [.ref zn, .int (iI bt), .int (iI sz)])), (zn, .inl (cJ, 40, .inr (.inl (shN F))))]) (q0 := 0) (c_X3_found l D cI cJ cB cS xa x h t k0 tp sh fi ik fd 5 (by omega)) mV_X3_found kM_X3_48 dX3_copy_54 rfl rfl [0, 1] rfl rfl rfl rfl rfl rfl rfl rfl ⟨Nat.le_of_ble_eq_true rfl, Nat.le_of_ble_eq_true rfl, Nat.le_of_ble_eq_true rfl⟩ ?_
          have e9 : opCopy bt sz F bt sz F fd f o n = ((iI (-1000000001 - 5)), F, fnd fd 5) := by
            unfold opCopy; try unfold bI
            (repeat' split) <;> first | (exfalso; omega) | contradiction | rfl
          exact z_iret (pc := 57) dX3_copy_57 (by rw [e9]) (by rw [e9])
    · skip
      exfalso; omega
set_option maxHeartbeats 8000000 in
set_option maxRecDepth 100000 in
theorem c_X3_copy_o (l : Launch) (D : va_G) (cI cJ cB cS : ClassId) (xa : XA) (x h t k0 tp sh fi : Nat) (ik : Int32) (fd : FF) (s f t1 o n : Int) (hs : ¬ ((0 ≤ s ∧ s ≤ 3) ∧ (0 ≤ t1 ∧ t1 ≤ 3))) (rs : inr s) (rt : inr t1) (rf : inr f) (ro : inr o) (rn : inr n) : Ct l D cI cJ cB cS xa yX3_copy cX3_copy 8 (some .int) 2 42 [.ref x, .int (iI s), .int (iI f), .int (iI t1), .int (iI o), .int (iI n)] [(x, .inr (3, [.ref h, .ref t, .ref k0, .int ik, .ref tp, .ref sh, .ref fi])), (fi, .inl (cI, 7, .inl (ar fd)))] (some (.int (iI (-1000000001)))) [(x, .inr (3, [.ref h, .ref t, .ref k0, .int ik, .ref tp, .ref sh, .ref fi])), (fi, .inl (cI, 7, .inl (ar (fnd fd 0))))] := by
  refine CtE.of (own := RX3) (lv := [(0, .ref x), (1, .int (iI s)), (2, .int (iI f)), (3, .int (iI t1)), (4, .int (iI o)), (5, .int (iI n))]) (by decide) rfl rfl (Nat.le_of_ble_eq_true rfl) ?_
  intro xp xe xs xm xb xt xc
  refine z_iload_n (pc := 0) dX3_copy_0 1 rfl ?_
  refine z_callS (pc := 1) (st := []) (st2 := [.int (bI (0 ≤ s ∧ s ≤ 3))]) (ws2 := [(x, .inr (3, [.ref h, .ref t, .ref k0, .int ik, .ref tp, .ref sh, .ref fi])), (fi, .inl (cI, 7, .inl (ar fd)))]) (c_X3_isSheet l D cI cJ cB cS xa s (by omega)) mS_X3_isSheet kM_X3_186 dX3_copy_1 [] rfl rfl rfl rfl rfl rfl rfl rfl ⟨Nat.le_of_ble_eq_true rfl, Nat.le_of_ble_eq_true rfl, Nat.le_of_ble_eq_true rfl⟩ ?_
  refine z_ifb_eq (pc := 4) (tgt := 14) dX3_copy_4 (by decide) (fun h4 => ?_) (fun h4 => ?_)
  · skip
    refine z_aload_n (pc := 14) dX3_copy_14 0 rfl ?_
    refine z_iconst (pc := 15) dX3_copy_15 ?_
    refine z_callV (pc := 16) (st := []) (st2 := [.int (iI (-1000000001 - 0))]) (ws2 := [(x, .inr (3, [.ref h, .ref t, .ref k0, .int ik, .ref tp, .ref sh, .ref fi])), (fi, .inl (cI, 7, .inl (ar (fnd fd 0))))]) (q0 := 0) (c_X3_found l D cI cJ cB cS xa x h t k0 tp sh fi ik fd 0 (by omega)) mV_X3_found kM_X3_48 dX3_copy_16 rfl rfl [0, 1] rfl rfl rfl rfl rfl rfl rfl rfl ⟨Nat.le_of_ble_eq_true rfl, Nat.le_of_ble_eq_true rfl, Nat.le_of_ble_eq_true rfl⟩ ?_
    exact z_iret (pc := 19) dX3_copy_19 (congrArg (fun z => some (Value.int (iI z))) (show (-1000000001) = -1000000001 - 0 from by rfl)) rfl
  · skip
    refine z_iload_n (pc := 7) dX3_copy_7 3 rfl ?_
    refine z_callS (pc := 8) (st := []) (st2 := [.int (bI (0 ≤ t1 ∧ t1 ≤ 3))]) (ws2 := [(x, .inr (3, [.ref h, .ref t, .ref k0, .int ik, .ref tp, .ref sh, .ref fi])), (fi, .inl (cI, 7, .inl (ar fd)))]) (c_X3_isSheet l D cI cJ cB cS xa t1 (by omega)) mS_X3_isSheet kM_X3_186 dX3_copy_8 [] rfl rfl rfl rfl rfl rfl rfl rfl ⟨Nat.le_of_ble_eq_true rfl, Nat.le_of_ble_eq_true rfl, Nat.le_of_ble_eq_true rfl⟩ ?_
    refine z_ifb_ne (pc := 11) (tgt := 20) dX3_copy_11 (by decide) (fun h11 => ?_) (fun h11 => ?_)
    · skip
      exfalso; omega
    · skip
      refine z_aload_n (pc := 14) dX3_copy_14 0 rfl ?_
      refine z_iconst (pc := 15) dX3_copy_15 ?_
      refine z_callV (pc := 16) (st := []) (st2 := [.int (iI (-1000000001 - 0))]) (ws2 := [(x, .inr (3, [.ref h, .ref t, .ref k0, .int ik, .ref tp, .ref sh, .ref fi])), (fi, .inl (cI, 7, .inl (ar (fnd fd 0))))]) (q0 := 0) (c_X3_found l D cI cJ cB cS xa x h t k0 tp sh fi ik fd 0 (by omega)) mV_X3_found kM_X3_48 dX3_copy_16 rfl rfl [0, 1] rfl rfl rfl rfl rfl rfl rfl rfl ⟨Nat.le_of_ble_eq_true rfl, Nat.le_of_ble_eq_true rfl, Nat.le_of_ble_eq_true rfl⟩ ?_
      exact z_iret (pc := 19) dX3_copy_19 (congrArg (fun z => some (Value.int (iI z))) (show (-1000000001) = -1000000001 - 0 from by rfl)) rfl
set_option maxHeartbeats 8000000 in
set_option maxRecDepth 100000 in
theorem c_X3_lays (l : Launch) (D : va_G) (cI cJ cB cS : ClassId) (xa : XA) (x h hK hH hM hO t k0 tp sh fi : Nat) (ik : Int32) (fs : Nat → Option Nat) (g : Gd) (z zn : Nat) (bt sz : Int) (F : LL) (fd : FF) (s : Int) (ok : Ok g) (hs : 0 ≤ s ∧ s ≤ 3) (hfs : fs (Int.toNat s) = some z) (hbt : 0 ≤ bt ∧ bt ≤ 64) (hsz : 0 ≤ sz ∧ sz ≤ 40) : Ct l D cI cJ cB cS xa yX3_lays cX3_lays 8 (some .int) 2 42 [.ref x, .int (iI s)] [(x, .inr (3, [.ref h, .ref t, .ref k0, .int ik, .ref tp, .ref sh, .ref fi])), (h, oG g hK hH hM hO), (hK, .inl (cI, 8, .inl (aG g 0))), (hH, .inl (cI, 8, .inl (aG g 1))), (hM, .inl (cI, 8, .inl (aG g 2))), (hO, .inl (cI, 8, .inl (aG g 3))), (fi, .inl (cI, 7, .inl (ar fd))), (sh, .inl (cS, 4, .inr (.inr (.inr (.inr fs))))), (z, .inr (1, [.ref zn, .int (iI bt), .int (iI sz)])), (zn, .inl (cJ, 40, .inr (.inl (shN F))))] (some (.int ((opLays g bt sz F fd).1))) [(x, .inr (3, [.ref h, .ref t, .ref k0, .int ik, .ref tp, .ref sh, .ref fi])), (h, oG ((opLays g bt sz F fd).2.1) hK hH hM hO), (hK, .inl (cI, 8, .inl (aG ((opLays g bt sz F fd).2.1) 0))), (hH, .inl (cI, 8, .inl (aG ((opLays g bt sz F fd).2.1) 1))), (hM, .inl (cI, 8, .inl (aG ((opLays g bt sz F fd).2.1) 2))), (hO, .inl (cI, 8, .inl (aG ((opLays g bt sz F fd).2.1) 3))), (fi, .inl (cI, 7, .inl (ar ((opLays g bt sz F fd).2.2)))), (sh, .inl (cS, 4, .inr (.inr (.inr (.inr fs))))), (z, .inr (1, [.ref zn, .int (iI bt), .int (iI sz)])), (zn, .inl (cJ, 40, .inr (.inl (shN F))))] := by
  have o0 := ok0 ok
  have o1 := ok1 ok
  have o2 := ok2 ok
  refine CtE.of (own := RX3) (lv := [(0, .ref x), (1, .int (iI s))]) (by decide) rfl rfl (Nat.le_of_ble_eq_true rfl) ?_
  intro xp xe xs xm xb xt xc
  refine z_iload_n (pc := 0) dX3_lays_0 1 rfl ?_
  refine z_callS (pc := 1) (st := []) (st2 := [.int (bI (0 ≤ s ∧ s ≤ 3))]) (ws2 := [(x, .inr (3, [.ref h, .ref t, .ref k0, .int ik, .ref tp, .ref sh, .ref fi])), (h, oG g hK hH hM hO), (hK, .inl (cI, 8, .inl (aG g 0))), (hH, .inl (cI, 8, .inl (aG g 1))), (hM, .inl (cI, 8, .inl (aG g 2))), (hO, .inl (cI, 8, .inl (aG g 3))), (fi, .inl (cI, 7, .inl (ar fd))), (sh, .inl (cS, 4, .inr (.inr (.inr (.inr fs))))), (z, .inr (1, [.ref zn, .int (iI bt), .int (iI sz)])), (zn, .inl (cJ, 40, .inr (.inl (shN F))))]) (c_X3_isSheet l D cI cJ cB cS xa s (by omega)) mS_X3_isSheet kM_X3_186 dX3_lays_1 [] rfl rfl rfl rfl rfl rfl rfl rfl ⟨Nat.le_of_ble_eq_true rfl, Nat.le_of_ble_eq_true rfl, Nat.le_of_ble_eq_true rfl⟩ ?_
  refine z_ifb_ne (pc := 4) (tgt := 13) dX3_lays_4 (by decide) (fun h4 => ?_) (fun h4 => ?_)
  · skip
    refine z_aload_n (pc := 13) dX3_lays_13 0 rfl ?_
    refine z_get (pc := 14) (q0 := 0) (v := .ref sh) fL_X3_35 dX3_lays_14 rfl rfl ?_
    refine z_iload_n (pc := 17) dX3_lays_17 1 rfl ?_
    refine z_aald (pc := 18) (q0 := 7) dX3_lays_18 rfl (by omega) (by decide) (hfs) ?_
    refine z_astore_n (pc := 19) (lv2 := [(2, .ref z), (0, .ref x), (1, .int (iI s))]) dX3_lays_19 rfl (by decide) rfl ?_
    refine z_aload_n (pc := 20) dX3_lays_20 0 rfl ?_
    refine z_callV (pc := 21) (st := []) (st2 := [.int (bI (bt = 0))]) (ws2 := [(x, .inr (3, [.ref h, .ref t, .ref k0, .int ik, .ref tp, .ref sh, .ref fi])), (h, oG g hK hH hM hO), (hK, .inl (cI, 8, .inl (aG g 0))), (hH, .inl (cI, 8, .inl (aG g 1))), (hM, .inl (cI, 8, .inl (aG g 2))), (hO, .inl (cI, 8, .inl (aG g 3))), (fi, .inl (cI, 7, .inl (ar fd))), (sh, .inl (cS, 4, .inr (.inr (.inr (.inr fs))))), (z, .inr (1, [.ref zn, .int (iI bt), .int (iI sz)])), (zn, .inl (cJ, 40, .inr (.inl (shN F))))]) (q0 := 8) (c_X1_isMissing l D cI cJ cB cS xa z zn bt sz (by omega)) mV_X1_isMissing kM_X3_196 dX3_lays_21 rfl rfl [8] rfl rfl rfl rfl rfl rfl rfl rfl ⟨Nat.le_of_ble_eq_true rfl, Nat.le_of_ble_eq_true rfl, Nat.le_of_ble_eq_true rfl⟩ ?_
    refine z_ifb_eq (pc := 24) (tgt := 33) dX3_lays_24 (by decide) (fun h24 => ?_) (fun h24 => ?_)
    · skip
      refine z_iconst (pc := 33) dX3_lays_33 ?_
      refine z_istore_n (pc := 34) (lv2 := [(3, .int (iI 0)), (2, .ref z), (0, .ref x), (1, .int (iI s))]) dX3_lays_34 rfl (by decide) rfl ?_
      refine z_aload_n (pc := 35) dX3_lays_35 1 rfl ?_
      refine z_get (pc := 36) (q0 := 8) (v := .int (iI sz)) fL_X3_195 dX3_lays_36 rfl rfl ?_
      refine z_aload_n (pc := 39) dX3_lays_39 2 rfl ?_
      refine z_get (pc := 40) (q0 := 0) (v := .ref h) fL_X3_10 dX3_lays_40 rfl rfl ?_
      refine z_get (pc := 43) (q0 := 1) (v := .int (iI (g 4 2))) fL_X3_159 dX3_lays_43 rfl rfl ?_
      refine z_min (pc := 46) mmin_X3_219 dX3_lays_46 (by omega) (by omega) ⟨Nat.le_of_ble_eq_true rfl, Nat.le_of_ble_eq_true rfl⟩ ?_
      refine z_istore (pc := 49) (lv2 := [(4, .int (iI (min sz (g 4 2)))), (3, .int (iI 0)), (2, .ref z), (0, .ref x), (1, .int (iI s))]) dX3_lays_49 (by decide) rfl ?_
      refine z_iconst (pc := 51) dX3_lays_51 ?_
      refine z_istore (pc := 52) (lv2 := [(5, .int (iI 0)), (4, .int (iI (min sz (g 4 2)))), (3, .int (iI 0)), (2, .ref z), (0, .ref x), (1, .int (iI s))]) dX3_lays_52 (by decide) rfl ?_
      have LP54 : ∀ (nn_ : Nat) (i : Int) (n : Int) (gg : Gd), (0 ≤ i) → (i ≤ sz ∧ i ≤ g 4 2) → ((gg, n) = layN g F i.toNat) → (40 - i).toNat < nn_ → Z xp l xe { frames := 2, cells := 0, slots := 0, locals := 42 } xs xm ([.ref x, .int (iI s)] : List Value).toArray xb xt xc 0 0 (MQ xb (Cq (S := Unit) D [(x, .inr (3, [.ref h, .ref t, .ref k0, .int ik, .ref tp, .ref sh, .ref fi])), (h, oG g hK hH hM hO), (hK, .inl (cI, 8, .inl (aG g 0))), (hH, .inl (cI, 8, .inl (aG g 1))), (hM, .inl (cI, 8, .inl (aG g 2))), (hO, .inl (cI, 8, .inl (aG g 3))), (fi, .inl (cI, 7, .inl (ar fd))), (sh, .inl (cS, 4, .inr (.inr (.inr (.inr fs))))), (z, .inr (1, [.ref zn, .int (iI bt), .int (iI sz)])), (zn, .inl (cJ, 40, .inr (.inl (shN F))))] (fun _ => True) (fun _ => (some (.int ((opLays g bt sz F fd).1)))) (fun _ => [(x, .inr (3, [.ref h, .ref t, .ref k0, .int ik, .ref tp, .ref sh, .ref fi])), (h, oG ((opLays g bt sz F fd).2.1) hK hH hM hO), (hK, .inl (cI, 8, .inl (aG ((opLays g bt sz F fd).2.1) 0))), (hH, .inl (cI, 8, .inl (aG ((opLays g bt sz F fd).2.1) 1))), (hM, .inl (cI, 8, .inl (aG ((opLays g bt sz F fd).2.1) 2))), (hO, .inl (cI, 8, .inl (aG ((opLays g bt sz F fd).2.1) 3))), (fi, .inl (cI, 7, .inl (ar ((opLays g bt sz F fd).2.2)))), (sh, .inl (cS, 4, .inr (.inr (.inr (.inr fs))))), (z, .inr (1, [.ref zn, .int (iI bt), .int (iI sz)])), (zn, .inl (cJ, 40, .inr (.inl (shN F))))])) ([.ref x, .int (iI s)] : List Value).toArray xs 0 0 (va_A0 [(x, .inr (3, [.ref h, .ref t, .ref k0, .int ik, .ref tp, .ref sh, .ref fi])), (h, oG g hK hH hM hO), (hK, .inl (cI, 8, .inl (aG g 0))), (hH, .inl (cI, 8, .inl (aG g 1))), (hM, .inl (cI, 8, .inl (aG g 2))), (hO, .inl (cI, 8, .inl (aG g 3))), (fi, .inl (cI, 7, .inl (ar fd))), (sh, .inl (cS, 4, .inr (.inr (.inr (.inr fs))))), (z, .inr (1, [.ref zn, .int (iI bt), .int (iI sz)])), (zn, .inl (cJ, 40, .inr (.inl (shN F))))])) cX3_lays RX3 8 (some .int) D cI cJ cB cS xa (va_A0 [(x, .inr (3, [.ref h, .ref t, .ref k0, .int ik, .ref tp, .ref sh, .ref fi])), (h, oG g hK hH hM hO), (hK, .inl (cI, 8, .inl (aG g 0))), (hH, .inl (cI, 8, .inl (aG g 1))), (hM, .inl (cI, 8, .inl (aG g 2))), (hO, .inl (cI, 8, .inl (aG g 3))), (fi, .inl (cI, 7, .inl (ar fd))), (sh, .inl (cS, 4, .inr (.inr (.inr (.inr fs))))), (z, .inr (1, [.ref zn, .int (iI bt), .int (iI sz)])), (zn, .inl (cJ, 40, .inr (.inl (shN F))))]) [(x, .inr (3, [.ref h, .ref t, .ref k0, .int ik, .ref tp, .ref sh, .ref fi])), (h, oG gg hK hH hM hO), (hK, .inl (cI, 8, .inl (aG gg 0))), (hH, .inl (cI, 8, .inl (aG gg 1))), (hM, .inl (cI, 8, .inl (aG gg 2))), (hO, .inl (cI, 8, .inl (aG gg 3))), (fi, .inl (cI, 7, .inl (ar fd))), (sh, .inl (cS, 4, .inr (.inr (.inr (.inr fs))))), (z, .inr (1, [.ref zn, .int (iI bt), .int (iI sz)])), (zn, .inl (cJ, 40, .inr (.inl (shN F))))] [(0, .ref x), (1, .int (iI s)), (2, .ref z), (3, .int (iI n)), (4, .int (iI (min sz (g 4 2)))), (5, .int (iI i))] 54 [] := by
        intro nn_
        induction nn_ with
        | zero => intro i n gg hi0 hi1 hb hms; exact absurd hms (Nat.not_lt_zero _)
        | succ nn_ ih =>
          intro i n gg hi0 hi1 hb hms
          have ih54 := ih
          clear ih
          refine z_iload (pc := 54) dX3_lays_54 5 rfl ?_
          refine z_iload (pc := 56) dX3_lays_56 4 rfl ?_
          refine z_icmp_ge (pc := 58) (tgt := 108) dX3_lays_58 (by decide) (by omega) (by omega) (fun h58 => ?_) (fun h58 => ?_)
          · skip
            refine z_iload_n (pc := 108) dX3_lays_108 3 rfl ?_
            have e9 : opLays g bt sz F fd = ((iI n), gg, fd) := by
              unfold opLays; rw [if_neg (by omega), show min sz (g 4 2) = i by omega, ← hb]
            exact z_iret (pc := 109) dX3_lays_109 (by rw [e9]) (by rw [e9])
          · skip
            refine z_aload_n (pc := 61) dX3_lays_61 2 rfl ?_
            refine z_get (pc := 62) (q0 := 8) (v := .ref zn) fL_X3_202 dX3_lays_62 rfl rfl ?_
            refine z_iload (pc := 65) dX3_lays_65 5 rfl ?_
            refine z_lald (pc := 67) (q0 := 9) (v := (F i)) dX3_lays_67 rfl (by omega) (by decide) (shN_at (by omega)) ?_
            refine z_lstore (pc := 68) (lv2 := [(6, .long (F i)), (0, .ref x), (1, .int (iI s)), (2, .ref z), (3, .int (iI n)), (4, .int (iI (min sz (g 4 2)))), (5, .int (iI i))]) dX3_lays_68 (by decide) rfl ?_
            refine z_lload (pc := 70) dX3_lays_70 0 rfl ?_
            refine z_lconst (pc := 72) (v := 0) dX3_lays_72 (by decide) ?_
            refine z_lcmp (pc := 73) dX3_lays_73 ?_
            refine z_ifr_lt (pc := 74) (tgt := 102) dX3_lays_74 (by decide) (fun h74 => ?_) (fun h74 => ?_)
            · skip
              have h61b := (cmp_lt _ _).mp h74
              have e0 : (0 : Int64).toInt = 0 := by decide
              refine z_iinc (pc := 102) (lv2 := [(5, .int (iI (i + 1))), (6, .long (F i)), (0, .ref x), (1, .int (iI s)), (2, .ref z), (3, .int (iI n)), (4, .int (iI (min sz (g 4 2))))]) dX3_lays_102 6 rfl (by decide) rfl ?_
              refine z_goto (pc := 105) (tgt := 54) dX3_lays_105 (by decide) ?_
              refine z_lv (lv2 := [(0, .ref x), (1, .int (iI s)), (2, .ref z), (3, .int (iI n)), (4, .int (iI (min sz (g 4 2)))), (5, .int (iI (i + 1)))]) [2, 3, 4, 5, 6, 0] rfl ?_
              exact ih54 (i + 1) n gg (by omega) (by omega) ((layp_f hi0 hb (by omega))) (by omega)
            · skip
              have h61b := Int.not_lt.mp (fun z => h74 ((cmp_lt _ _).mpr z))
              have e0 : (0 : Int64).toInt = 0 := by decide
              refine z_lload (pc := 77) dX3_lays_77 0 rfl ?_
              refine z_ldc2 (pc := 79) kL_X3_224 dX3_lays_79 ?_
              refine z_lcmp (pc := 82) dX3_lays_82 ?_
              refine z_ifr_gt (pc := 83) (tgt := 102) dX3_lays_83 (by decide) (fun h83 => ?_) (fun h83 => ?_)
              · skip
                have h70b := (cmp_gt _ _).mp h83
                have e2 : (200 : Int64).toInt = 200 := by decide
                refine z_iinc (pc := 102) (lv2 := [(5, .int (iI (i + 1))), (6, .long (F i)), (0, .ref x), (1, .int (iI s)), (2, .ref z), (3, .int (iI n)), (4, .int (iI (min sz (g 4 2))))]) dX3_lays_102 6 rfl (by decide) rfl ?_
                refine z_goto (pc := 105) (tgt := 54) dX3_lays_105 (by decide) ?_
                refine z_lv (lv2 := [(0, .ref x), (1, .int (iI s)), (2, .ref z), (3, .int (iI n)), (4, .int (iI (min sz (g 4 2)))), (5, .int (iI (i + 1)))]) [2, 3, 4, 5, 6, 0] rfl ?_
                exact ih54 (i + 1) n gg (by omega) (by omega) ((layp_f hi0 hb (by omega))) (by omega)
              · skip
                have h70b := Int.not_lt.mp (fun z => h83 ((cmp_gt _ _).mpr z))
                have e2 : (200 : Int64).toInt = 200 := by decide
                refine z_aload_n (pc := 86) dX3_lays_86 1 rfl ?_
                refine z_get (pc := 87) (q0 := 0) (v := .ref h) fL_X3_10 dX3_lays_87 rfl rfl ?_
                refine z_get (pc := 90) (q0 := 1) (v := .ref hH) fL_X3_74 dX3_lays_90 rfl rfl ?_
                refine z_iload (pc := 93) dX3_lays_93 6 rfl ?_
                refine z_lload (pc := 95) dX3_lays_95 0 rfl ?_
                refine z_l2i (pc := 97) dX3_lays_97 ?_
                refine z_st (st2 := [.int (iI ((F i).toInt)), .int (iI i), .ref hH]) (by rw [l2i_I]) ?_
                refine z_iast (pc := 98) (q0 := 3) (ws2 := [(x, .inr (3, [.ref h, .ref t, .ref k0, .int ik, .ref tp, .ref sh, .ref fi])), (h, oG (up2 gg 1 i ((F i).toInt)) hK hH hM hO), (hK, .inl (cI, 8, .inl (aG (up2 gg 1 i ((F i).toInt)) 0))), (hH, .inl (cI, 8, .inl (aG (up2 gg 1 i ((F i).toInt)) 1))), (hM, .inl (cI, 8, .inl (aG (up2 gg 1 i ((F i).toInt)) 2))), (hO, .inl (cI, 8, .inl (aG (up2 gg 1 i ((F i).toInt)) 3))), (fi, .inl (cI, 7, .inl (ar fd))), (sh, .inl (cS, 4, .inr (.inr (.inr (.inr fs))))), (z, .inr (1, [.ref zn, .int (iI bt), .int (iI sz)])), (zn, .inl (cJ, 40, .inr (.inl (shN F))))]) dX3_lays_98 rfl (by omega) (by decide) (by rw [aG_up (by omega)]; rfl) ?_
                refine z_iinc (pc := 99) (lv2 := [(3, .int (iI (n + 1))), (6, .long (F i)), (0, .ref x), (1, .int (iI s)), (2, .ref z), (4, .int (iI (min sz (g 4 2)))), (5, .int (iI i))]) dX3_lays_99 4 rfl (by decide) rfl ?_
                refine z_iinc (pc := 102) (lv2 := [(5, .int (iI (i + 1))), (3, .int (iI (n + 1))), (6, .long (F i)), (0, .ref x), (1, .int (iI s)), (2, .ref z), (4, .int (iI (min sz (g 4 2))))]) dX3_lays_102 6 rfl (by decide) rfl ?_
                refine z_goto (pc := 105) (tgt := 54) dX3_lays_105 (by decide) ?_
                refine z_lv (lv2 := [(0, .ref x), (1, .int (iI s)), (2, .ref z), (3, .int (iI (n + 1))), (4, .int (iI (min sz (g 4 2)))), (5, .int (iI (i + 1)))]) [3, 4, 5, 1, 6, 0] rfl ?_
                exact ih54 (i + 1) (n + 1) (up2 gg 1 i ((F i).toInt)) (by omega) (by omega) ((layp_t hi0 hb (by omega))) (by omega)
      refine z_lv (lv2 := [(0, .ref x), (1, .int (iI s)), (2, .ref z), (3, .int (iI 0)), (4, .int (iI (min sz (g 4 2)))), (5, .int (iI 0))]) [4, 5, 3, 2, 1, 0] rfl ?_
      exact LP54 _ 0 0 g (by omega) (by omega) (by rfl) (Nat.lt_succ_self _)
    · skip
      refine z_aload_n (pc := 27) dX3_lays_27 1 rfl ?_
      refine z_iconst (pc := 28) dX3_lays_28 ?_
      refine z_callV (pc := 29) (st := []) (st2 := [.int (iI (-1000000001 - 5))]) (ws2 := [(x, .inr (3, [.ref h, .ref t, .ref k0, .int ik, .ref tp, .ref sh, .ref fi])), (h, oG g hK hH hM hO), (hK, .inl (cI, 8, .inl (aG g 0))), (hH, .inl (cI, 8, .inl (aG g 1))), (hM, .inl (cI, 8, .inl (aG g 2))), (hO, .inl (cI, 8, .inl (aG g 3))), (fi, .inl (cI, 7, .inl (ar (fnd fd 5)))), (sh, .inl (cS, 4, .inr (.inr (.inr (.inr fs))))), (z, .inr (1, [.ref zn, .int (iI bt), .int (iI sz)])), (zn, .inl (cJ, 40, .inr (.inl (shN F))))]) (q0 := 0) (c_X3_found l D cI cJ cB cS xa x h t k0 tp sh fi ik fd 5 (by omega)) mV_X3_found kM_X3_48 dX3_lays_29 rfl rfl [0, 6] rfl rfl rfl rfl rfl rfl rfl rfl ⟨Nat.le_of_ble_eq_true rfl, Nat.le_of_ble_eq_true rfl, Nat.le_of_ble_eq_true rfl⟩ ?_
      have e9 : opLays g bt sz F fd = ((iI (-1000000001 - 5)), g, fnd fd 5) := by
        unfold opLays; rw [if_pos (by omega)]; rfl
      exact z_iret (pc := 32) dX3_lays_32 (by rw [e9]) (by rw [e9])
  · skip
    exfalso; omega
set_option maxHeartbeats 8000000 in
set_option maxRecDepth 100000 in
theorem c_X3_lays_o (l : Launch) (D : va_G) (cI cJ cB cS : ClassId) (xa : XA) (x h t k0 tp sh fi : Nat) (ik : Int32) (fd : FF) (s : Int) (hs : ¬ (0 ≤ s ∧ s ≤ 3)) (rs : inr s) : Ct l D cI cJ cB cS xa yX3_lays cX3_lays 8 (some .int) 2 42 [.ref x, .int (iI s)] [(x, .inr (3, [.ref h, .ref t, .ref k0, .int ik, .ref tp, .ref sh, .ref fi])), (fi, .inl (cI, 7, .inl (ar fd)))] (some (.int (iI (-1000000001)))) [(x, .inr (3, [.ref h, .ref t, .ref k0, .int ik, .ref tp, .ref sh, .ref fi])), (fi, .inl (cI, 7, .inl (ar (fnd fd 0))))] := by
  refine CtE.of (own := RX3) (lv := [(0, .ref x), (1, .int (iI s))]) (by decide) rfl rfl (Nat.le_of_ble_eq_true rfl) ?_
  intro xp xe xs xm xb xt xc
  refine z_iload_n (pc := 0) dX3_lays_0 1 rfl ?_
  refine z_callS (pc := 1) (st := []) (st2 := [.int (bI (0 ≤ s ∧ s ≤ 3))]) (ws2 := [(x, .inr (3, [.ref h, .ref t, .ref k0, .int ik, .ref tp, .ref sh, .ref fi])), (fi, .inl (cI, 7, .inl (ar fd)))]) (c_X3_isSheet l D cI cJ cB cS xa s (by omega)) mS_X3_isSheet kM_X3_186 dX3_lays_1 [] rfl rfl rfl rfl rfl rfl rfl rfl ⟨Nat.le_of_ble_eq_true rfl, Nat.le_of_ble_eq_true rfl, Nat.le_of_ble_eq_true rfl⟩ ?_
  refine z_ifb_ne (pc := 4) (tgt := 13) dX3_lays_4 (by decide) (fun h4 => ?_) (fun h4 => ?_)
  · skip
    exfalso; omega
  · skip
    refine z_aload_n (pc := 7) dX3_lays_7 0 rfl ?_
    refine z_iconst (pc := 8) dX3_lays_8 ?_
    refine z_callV (pc := 9) (st := []) (st2 := [.int (iI (-1000000001 - 0))]) (ws2 := [(x, .inr (3, [.ref h, .ref t, .ref k0, .int ik, .ref tp, .ref sh, .ref fi])), (fi, .inl (cI, 7, .inl (ar (fnd fd 0))))]) (q0 := 0) (c_X3_found l D cI cJ cB cS xa x h t k0 tp sh fi ik fd 0 (by omega)) mV_X3_found kM_X3_48 dX3_lays_9 rfl rfl [0, 1] rfl rfl rfl rfl rfl rfl rfl rfl ⟨Nat.le_of_ble_eq_true rfl, Nat.le_of_ble_eq_true rfl, Nat.le_of_ble_eq_true rfl⟩ ?_
    exact z_iret (pc := 12) dX3_lays_12 (congrArg (fun z => some (Value.int (iI z))) (show (-1000000001) = -1000000001 - 0 from by rfl)) rfl
set_option maxHeartbeats 8000000 in
set_option maxRecDepth 100000 in
theorem c_X3_book (l : Launch) (D : va_G) (cI cJ cB cS : ClassId) (xa : XA) (x h hK hH hM hO t tK tH tM tO k0 tp sh fi : Nat) (ik : Int32) (fs : Nat → Option Nat) (g gt : Gd) (z zn : Nat) (bt sz : Int) (F : LL) (fd : FF) (s c : Int) (ok : Ok g) (okt : Ok gt) (hs : 0 ≤ s ∧ s ≤ 3) (hfs : fs (Int.toNat s) = some z) (hbt : 0 ≤ bt ∧ bt ≤ 64) (hsz : 0 ≤ sz ∧ sz ≤ 40) (rc : inr c) (hm : g 4 0 ≤ 99999) : CtE (S := Gd) l D cI cJ cB cS xa yX3_book cX3_book 5 (some .int) 4 90 [.ref x, .int (iI s), .int (iI c)] [(x, .inr (3, [.ref h, .ref t, .ref k0, .int ik, .ref tp, .ref sh, .ref fi])), (h, oG g hK hH hM hO), (hK, .inl (cI, 8, .inl (aG g 0))), (hH, .inl (cI, 8, .inl (aG g 1))), (hM, .inl (cI, 8, .inl (aG g 2))), (hO, .inl (cI, 8, .inl (aG g 3))), (t, oG gt tK tH tM tO), (tK, .inl (cI, 8, .inl (aG gt 0))), (tH, .inl (cI, 8, .inl (aG gt 1))), (tM, .inl (cI, 8, .inl (aG gt 2))), (tO, .inl (cI, 8, .inl (aG gt 3))), (fi, .inl (cI, 7, .inl (ar fd))), (sh, .inl (cS, 4, .inr (.inr (.inr (.inr fs))))), (z, .inr (1, [.ref zn, .int (iI bt), .int (iI sz)])), (zn, .inl (cJ, 40, .inr (.inl (shN F))))] (fun gt2 : Gd => Ok gt2) (fun gt2 : Gd => (some (.int ((opBook g c bt sz F fd).1)))) (fun gt2 : Gd => [(x, .inr (3, [.ref h, .ref t, .ref k0, .int ik, .ref tp, .ref sh, .ref fi])), (h, oG g hK hH hM hO), (hK, .inl (cI, 8, .inl (aG g 0))), (hH, .inl (cI, 8, .inl (aG g 1))), (hM, .inl (cI, 8, .inl (aG g 2))), (hO, .inl (cI, 8, .inl (aG g 3))), (t, oG gt2 tK tH tM tO), (tK, .inl (cI, 8, .inl (aG gt2 0))), (tH, .inl (cI, 8, .inl (aG gt2 1))), (tM, .inl (cI, 8, .inl (aG gt2 2))), (tO, .inl (cI, 8, .inl (aG gt2 3))), (fi, .inl (cI, 7, .inl (ar ((opBook g c bt sz F fd).2.2)))), (sh, .inl (cS, 4, .inr (.inr (.inr (.inr fs))))), (z, .inr (1, [.ref zn, .int (iI bt), .int (iI sz)])), (zn, .inl (cJ, 40, .inr (.inl (shN ((opBook g c bt sz F fd).2.1)))))]) := by
  have o0 := ok0 ok
  have o1 := ok1 ok
  have o2 := ok2 ok
  refine CtE.of (own := RX3) (lv := [(0, .ref x), (1, .int (iI s)), (2, .int (iI c))]) (by decide) rfl rfl (Nat.le_of_ble_eq_true rfl) ?_
  intro xp xe xs xm xb xt xc
  refine z_iload_n (pc := 0) dX3_book_0 1 rfl ?_
  refine z_callS (pc := 1) (st := []) (st2 := [.int (bI (0 ≤ s ∧ s ≤ 3))]) (ws2 := [(x, .inr (3, [.ref h, .ref t, .ref k0, .int ik, .ref tp, .ref sh, .ref fi])), (h, oG g hK hH hM hO), (hK, .inl (cI, 8, .inl (aG g 0))), (hH, .inl (cI, 8, .inl (aG g 1))), (hM, .inl (cI, 8, .inl (aG g 2))), (hO, .inl (cI, 8, .inl (aG g 3))), (t, oG gt tK tH tM tO), (tK, .inl (cI, 8, .inl (aG gt 0))), (tH, .inl (cI, 8, .inl (aG gt 1))), (tM, .inl (cI, 8, .inl (aG gt 2))), (tO, .inl (cI, 8, .inl (aG gt 3))), (fi, .inl (cI, 7, .inl (ar fd))), (sh, .inl (cS, 4, .inr (.inr (.inr (.inr fs))))), (z, .inr (1, [.ref zn, .int (iI bt), .int (iI sz)])), (zn, .inl (cJ, 40, .inr (.inl (shN F))))]) (c_X3_isSheet l D cI cJ cB cS xa s (by omega)) mS_X3_isSheet kM_X3_186 dX3_book_1 [] rfl rfl rfl rfl rfl rfl rfl rfl ⟨Nat.le_of_ble_eq_true rfl, Nat.le_of_ble_eq_true rfl, Nat.le_of_ble_eq_true rfl⟩ ?_
  refine z_ifb_ne (pc := 4) (tgt := 13) dX3_book_4 (by decide) (fun h4 => ?_) (fun h4 => ?_)
  · skip
    refine z_aload_n (pc := 13) dX3_book_13 0 rfl ?_
    refine z_get (pc := 14) (q0 := 0) (v := .ref sh) fL_X3_35 dX3_book_14 rfl rfl ?_
    refine z_iload_n (pc := 17) dX3_book_17 1 rfl ?_
    refine z_aald (pc := 18) (q0 := 12) dX3_book_18 rfl (by omega) (by decide) (hfs) ?_
    refine z_astore_n (pc := 19) (lv2 := [(3, .ref z), (0, .ref x), (1, .int (iI s)), (2, .int (iI c))]) dX3_book_19 rfl (by decide) rfl ?_
    refine z_aload_n (pc := 20) dX3_book_20 0 rfl ?_
    refine z_callV (pc := 21) (st := []) (st2 := [.int (bI (bt = 0))]) (ws2 := [(x, .inr (3, [.ref h, .ref t, .ref k0, .int ik, .ref tp, .ref sh, .ref fi])), (h, oG g hK hH hM hO), (hK, .inl (cI, 8, .inl (aG g 0))), (hH, .inl (cI, 8, .inl (aG g 1))), (hM, .inl (cI, 8, .inl (aG g 2))), (hO, .inl (cI, 8, .inl (aG g 3))), (t, oG gt tK tH tM tO), (tK, .inl (cI, 8, .inl (aG gt 0))), (tH, .inl (cI, 8, .inl (aG gt 1))), (tM, .inl (cI, 8, .inl (aG gt 2))), (tO, .inl (cI, 8, .inl (aG gt 3))), (fi, .inl (cI, 7, .inl (ar fd))), (sh, .inl (cS, 4, .inr (.inr (.inr (.inr fs))))), (z, .inr (1, [.ref zn, .int (iI bt), .int (iI sz)])), (zn, .inl (cJ, 40, .inr (.inl (shN F))))]) (q0 := 13) (c_X1_isMissing l D cI cJ cB cS xa z zn bt sz (by omega)) mV_X1_isMissing kM_X3_196 dX3_book_21 rfl rfl [13] rfl rfl rfl rfl rfl rfl rfl rfl ⟨Nat.le_of_ble_eq_true rfl, Nat.le_of_ble_eq_true rfl, Nat.le_of_ble_eq_true rfl⟩ ?_
    refine z_ifb_eq (pc := 24) (tgt := 33) dX3_book_24 (by decide) (fun h24 => ?_) (fun h24 => ?_)
    · skip
      refine z_aload_n (pc := 33) dX3_book_33 1 rfl ?_
      refine z_iload_n (pc := 34) dX3_book_34 3 rfl ?_
      refine z_callV (pc := 35) (st := []) (st2 := [.int (bI (0 ≤ c ∧ c < g 4 2))]) (ws2 := [(x, .inr (3, [.ref h, .ref t, .ref k0, .int ik, .ref tp, .ref sh, .ref fi])), (h, oG g hK hH hM hO), (hK, .inl (cI, 8, .inl (aG g 0))), (hH, .inl (cI, 8, .inl (aG g 1))), (hM, .inl (cI, 8, .inl (aG g 2))), (hO, .inl (cI, 8, .inl (aG g 3))), (t, oG gt tK tH tM tO), (tK, .inl (cI, 8, .inl (aG gt 0))), (tH, .inl (cI, 8, .inl (aG gt 1))), (tM, .inl (cI, 8, .inl (aG gt 2))), (tO, .inl (cI, 8, .inl (aG gt 3))), (fi, .inl (cI, 7, .inl (ar fd))), (sh, .inl (cS, 4, .inr (.inr (.inr (.inr fs))))), (z, .inr (1, [.ref zn, .int (iI bt), .int (iI sz)])), (zn, .inl (cJ, 40, .inr (.inl (shN F))))]) (q0 := 0) (c_X3_isChild l D cI cJ cB cS xa x h hK hH hM hO t k0 tp sh fi ik g c ok (by omega)) mV_X3_isChild kM_X3_100 dX3_book_35 rfl rfl [0, 1] rfl rfl rfl rfl rfl rfl rfl rfl ⟨Nat.le_of_ble_eq_true rfl, Nat.le_of_ble_eq_true rfl, Nat.le_of_ble_eq_true rfl⟩ ?_
      refine z_ifb_ne (pc := 38) (tgt := 47) dX3_book_38 (by decide) (fun h38 => ?_) (fun h38 => ?_)
      · skip
        refine z_aload_n (pc := 47) dX3_book_47 1 rfl ?_
        refine z_callV (pc := 48) (st := []) (st2 := []) (ws2 := [(x, .inr (3, [.ref h, .ref t, .ref k0, .int ik, .ref tp, .ref sh, .ref fi])), (h, oG g hK hH hM hO), (hK, .inl (cI, 8, .inl (aG g 0))), (hH, .inl (cI, 8, .inl (aG g 1))), (hM, .inl (cI, 8, .inl (aG g 2))), (hO, .inl (cI, 8, .inl (aG g 3))), (t, oG (likeG gt g) tK tH tM tO), (tK, .inl (cI, 8, .inl (aG (likeG gt g) 0))), (tH, .inl (cI, 8, .inl (aG (likeG gt g) 1))), (tM, .inl (cI, 8, .inl (aG (likeG gt g) 2))), (tO, .inl (cI, 8, .inl (aG (likeG gt g) 3))), (fi, .inl (cI, 7, .inl (ar fd))), (sh, .inl (cS, 4, .inr (.inr (.inr (.inr fs))))), (z, .inr (1, [.ref zn, .int (iI bt), .int (iI sz)])), (zn, .inl (cJ, 40, .inr (.inl (shN F))))]) (q0 := 0) (c_X3_tryAsItIs l D cI cJ cB cS xa x h hK hH hM hO t tK tH tM tO k0 tp sh fi ik g gt ok okt) mV_X3_tryAsItIs kM_X3_145 dX3_book_48 rfl rfl [0, 1, 2, 3, 4, 5, 6, 7, 8, 9, 10] rfl rfl rfl rfl rfl rfl rfl rfl ⟨Nat.le_of_ble_eq_true rfl, Nat.le_of_ble_eq_true rfl, Nat.le_of_ble_eq_true rfl⟩ ?_
        have ok48_1 : Ok (likeG gt g) := likeG_ok okt ok
        have f48_2 := (show likeG gt g 4 0 = g 4 0 from rfl)
        have f48_3 := (show likeG gt g 4 1 = g 4 1 from rfl)
        have f48_4 := (show likeG gt g 4 2 = g 4 2 from rfl)
        refine z_iconst (pc := 51) dX3_book_51 ?_
        refine z_istore (pc := 52) (lv2 := [(4, .int (iI 0)), (3, .ref z), (0, .ref x), (1, .int (iI s)), (2, .int (iI c))]) dX3_book_52 (by decide) rfl ?_
        have LP54 : ∀ (nn_ : Nat) (i : Int) (gg : Gd), (0 ≤ i) → (i ≤ sz) → (gg = minsG (likeG gt g) i.toNat) → (40 - i).toNat < nn_ → Z xp l xe { frames := 4, cells := 0, slots := 0, locals := 90 } xs xm ([.ref x, .int (iI s), .int (iI c)] : List Value).toArray xb xt xc 0 0 (MQ xb (Cq (S := Gd) D [(x, .inr (3, [.ref h, .ref t, .ref k0, .int ik, .ref tp, .ref sh, .ref fi])), (h, oG g hK hH hM hO), (hK, .inl (cI, 8, .inl (aG g 0))), (hH, .inl (cI, 8, .inl (aG g 1))), (hM, .inl (cI, 8, .inl (aG g 2))), (hO, .inl (cI, 8, .inl (aG g 3))), (t, oG gt tK tH tM tO), (tK, .inl (cI, 8, .inl (aG gt 0))), (tH, .inl (cI, 8, .inl (aG gt 1))), (tM, .inl (cI, 8, .inl (aG gt 2))), (tO, .inl (cI, 8, .inl (aG gt 3))), (fi, .inl (cI, 7, .inl (ar fd))), (sh, .inl (cS, 4, .inr (.inr (.inr (.inr fs))))), (z, .inr (1, [.ref zn, .int (iI bt), .int (iI sz)])), (zn, .inl (cJ, 40, .inr (.inl (shN F))))] (fun gt2 : Gd => Ok gt2) (fun gt2 : Gd => (some (.int ((opBook g c bt sz F fd).1)))) (fun gt2 : Gd => [(x, .inr (3, [.ref h, .ref t, .ref k0, .int ik, .ref tp, .ref sh, .ref fi])), (h, oG g hK hH hM hO), (hK, .inl (cI, 8, .inl (aG g 0))), (hH, .inl (cI, 8, .inl (aG g 1))), (hM, .inl (cI, 8, .inl (aG g 2))), (hO, .inl (cI, 8, .inl (aG g 3))), (t, oG gt2 tK tH tM tO), (tK, .inl (cI, 8, .inl (aG gt2 0))), (tH, .inl (cI, 8, .inl (aG gt2 1))), (tM, .inl (cI, 8, .inl (aG gt2 2))), (tO, .inl (cI, 8, .inl (aG gt2 3))), (fi, .inl (cI, 7, .inl (ar ((opBook g c bt sz F fd).2.2)))), (sh, .inl (cS, 4, .inr (.inr (.inr (.inr fs))))), (z, .inr (1, [.ref zn, .int (iI bt), .int (iI sz)])), (zn, .inl (cJ, 40, .inr (.inl (shN ((opBook g c bt sz F fd).2.1)))))])) ([.ref x, .int (iI s), .int (iI c)] : List Value).toArray xs 0 0 (va_A0 [(x, .inr (3, [.ref h, .ref t, .ref k0, .int ik, .ref tp, .ref sh, .ref fi])), (h, oG g hK hH hM hO), (hK, .inl (cI, 8, .inl (aG g 0))), (hH, .inl (cI, 8, .inl (aG g 1))), (hM, .inl (cI, 8, .inl (aG g 2))), (hO, .inl (cI, 8, .inl (aG g 3))), (t, oG gt tK tH tM tO), (tK, .inl (cI, 8, .inl (aG gt 0))), (tH, .inl (cI, 8, .inl (aG gt 1))), (tM, .inl (cI, 8, .inl (aG gt 2))), (tO, .inl (cI, 8, .inl (aG gt 3))), (fi, .inl (cI, 7, .inl (ar fd))), (sh, .inl (cS, 4, .inr (.inr (.inr (.inr fs))))), (z, .inr (1, [.ref zn, .int (iI bt), .int (iI sz)])), (zn, .inl (cJ, 40, .inr (.inl (shN F))))])) cX3_book RX3 5 (some .int) D cI cJ cB cS xa (va_A0 [(x, .inr (3, [.ref h, .ref t, .ref k0, .int ik, .ref tp, .ref sh, .ref fi])), (h, oG g hK hH hM hO), (hK, .inl (cI, 8, .inl (aG g 0))), (hH, .inl (cI, 8, .inl (aG g 1))), (hM, .inl (cI, 8, .inl (aG g 2))), (hO, .inl (cI, 8, .inl (aG g 3))), (t, oG gt tK tH tM tO), (tK, .inl (cI, 8, .inl (aG gt 0))), (tH, .inl (cI, 8, .inl (aG gt 1))), (tM, .inl (cI, 8, .inl (aG gt 2))), (tO, .inl (cI, 8, .inl (aG gt 3))), (fi, .inl (cI, 7, .inl (ar fd))), (sh, .inl (cS, 4, .inr (.inr (.inr (.inr fs))))), (z, .inr (1, [.ref zn, .int (iI bt), .int (iI sz)])), (zn, .inl (cJ, 40, .inr (.inl (shN F))))]) [(x, .inr (3, [.ref h, .ref t, .ref k0, .int ik, .ref tp, .ref sh, .ref fi])), (h, oG g hK hH hM hO), (hK, .inl (cI, 8, .inl (aG g 0))), (hH, .inl (cI, 8, .inl (aG g 1))), (hM, .inl (cI, 8, .inl (aG g 2))), (hO, .inl (cI, 8, .inl (aG g 3))), (t, oG gg tK tH tM tO), (tK, .inl (cI, 8, .inl (aG gg 0))), (tH, .inl (cI, 8, .inl (aG gg 1))), (tM, .inl (cI, 8, .inl (aG gg 2))), (tO, .inl (cI, 8, .inl (aG gg 3))), (fi, .inl (cI, 7, .inl (ar fd))), (sh, .inl (cS, 4, .inr (.inr (.inr (.inr fs))))), (z, .inr (1, [.ref zn, .int (iI bt), .int (iI sz)])), (zn, .inl (cJ, 40, .inr (.inl (shN (bkL g c bt F i)))))] [(0, .ref x), (1, .int (iI s)), (2, .int (iI c)), (3, .ref z), (4, .int (iI i))] 54 [] := by
          intro nn_
          induction nn_ with
          | zero => intro i gg hi0 hi1 hg hms; exact absurd hms (Nat.not_lt_zero _)
          | succ nn_ ih =>
            intro i gg hi0 hi1 hg hms
            have okl : Ok (likeG gt g) := likeG_ok okt ok
            have okg : Ok gg := by rw [hg]; exact minsG_ok okl _ (by show g 4 0 + _ ≤ _; omega)
            have q0 : gg 4 0 = g 4 0 + i.toNat := by rw [hg]; exact minsG_40 (likeG gt g) _
            have q2 : gg 4 2 = g 4 2 := by rw [hg]; exact minsG_42 (likeG gt g) _
            have ed : gg 1 c = minsG g (Int.toNat i) 1 c := by rw [hg]; exact later (agr_like gt g) okl hi0 (by show g 4 0 + i ≤ 1000000; omega) (by decide) ⟨by omega, by show c < g 4 2; omega⟩
            have ih54 := ih
            clear ih
            refine z_iload (pc := 54) dX3_book_54 4 rfl ?_
            refine z_aload_n (pc := 56) dX3_book_56 3 rfl ?_
            refine z_get (pc := 57) (q0 := 13) (v := .int (iI sz)) fL_X3_195 dX3_book_57 rfl rfl ?_
            refine z_icmp_ge (pc := 60) (tgt := 92) dX3_book_60 (by decide) (by omega) (by omega) (fun h60 => ?_) (fun h60 => ?_)
            · skip
              have hie : i = sz := by omega
              refine z_aload_n (pc := 92) dX3_book_92 3 rfl ?_
              refine z_get (pc := 93) (q0 := 13) (v := .int (iI sz)) fL_X3_195 dX3_book_93 rfl rfl ?_
              have e9 : opBook g c bt sz F fd = ((iI sz), bkL g c bt F i, fd) := by
                unfold opBook; rw [if_neg (by omega), if_pos (by omega), hie]
              exact z_iretE (pc := 96) dX3_book_96 gg okg (by rw [e9]) (by rw [e9])
            · skip
              refine z_aload_n (pc := 63) dX3_book_63 3 rfl ?_
              refine z_iload (pc := 64) dX3_book_64 4 rfl ?_
              refine z_aload_n (pc := 66) dX3_book_66 0 rfl ?_
              refine z_get (pc := 67) (q0 := 0) (v := .ref t) fL_X3_16 dX3_book_67 rfl rfl ?_
              refine z_get (pc := 70) (q0 := 6) (v := .ref tH) fL_X3_74 dX3_book_70 rfl rfl ?_
              refine z_iload_n (pc := 73) dX3_book_73 2 rfl ?_
              refine z_iald (pc := 74) (q0 := 8) (v := (iI (gg 1 c))) dX3_book_74 rfl (by omega) (by decide) (aG_at (by omega)) ?_
              have b5 := okH okg c
              refine z_i2l (pc := 75) dX3_book_75 ?_
              refine z_st (st2 := [.long ((iI (minsG g (Int.toNat i) 1 c)).toInt64), .int (iI i), .ref z]) (by rw [ed]) ?_
              refine z_callV (pc := 76) (st := []) (st2 := []) (ws2 := [(x, .inr (3, [.ref h, .ref t, .ref k0, .int ik, .ref tp, .ref sh, .ref fi])), (h, oG g hK hH hM hO), (hK, .inl (cI, 8, .inl (aG g 0))), (hH, .inl (cI, 8, .inl (aG g 1))), (hM, .inl (cI, 8, .inl (aG g 2))), (hO, .inl (cI, 8, .inl (aG g 3))), (t, oG gg tK tH tM tO), (tK, .inl (cI, 8, .inl (aG gg 0))), (tH, .inl (cI, 8, .inl (aG gg 1))), (tM, .inl (cI, 8, .inl (aG gg 2))), (tO, .inl (cI, 8, .inl (aG gg 3))), (fi, .inl (cI, 7, .inl (ar fd))), (sh, .inl (cS, 4, .inr (.inr (.inr (.inr fs))))), (z, .inr (1, [.ref zn, .int (iI bt), .int (iI sz)])), (zn, .inl (cJ, 40, .inr (.inl (shN (upL (bkL g c bt F i) i (nrw bt ((iI (minsG g (Int.toNat i) 1 c)).toInt64)))))))]) (q0 := 13) (c_X1_store l D cI cJ cB cS xa z zn bt sz (bkL g c bt F i) i ((iI (minsG g (Int.toNat i) 1 c)).toInt64) (by omega) (by omega)) mV_X1_store kM_X3_206 dX3_book_76 rfl rfl [13, 14] rfl rfl rfl rfl rfl rfl rfl rfl ⟨Nat.le_of_ble_eq_true rfl, Nat.le_of_ble_eq_true rfl, Nat.le_of_ble_eq_true rfl⟩ ?_
              refine z_aload_n (pc := 79) dX3_book_79 0 rfl ?_
              refine z_get (pc := 80) (q0 := 0) (v := .ref t) fL_X3_16 dX3_book_80 rfl rfl ?_
              refine z_callV (pc := 83) (st := []) (st2 := []) (ws2 := [(x, .inr (3, [.ref h, .ref t, .ref k0, .int ik, .ref tp, .ref sh, .ref fi])), (h, oG g hK hH hM hO), (hK, .inl (cI, 8, .inl (aG g 0))), (hH, .inl (cI, 8, .inl (aG g 1))), (hM, .inl (cI, 8, .inl (aG g 2))), (hO, .inl (cI, 8, .inl (aG g 3))), (t, oG (minG gg) tK tH tM tO), (tK, .inl (cI, 8, .inl (aG (minG gg) 0))), (tH, .inl (cI, 8, .inl (aG (minG gg) 1))), (tM, .inl (cI, 8, .inl (aG (minG gg) 2))), (tO, .inl (cI, 8, .inl (aG (minG gg) 3))), (fi, .inl (cI, 7, .inl (ar fd))), (sh, .inl (cS, 4, .inr (.inr (.inr (.inr fs))))), (z, .inr (1, [.ref zn, .int (iI bt), .int (iI sz)])), (zn, .inl (cJ, 40, .inr (.inl (shN (upL (bkL g c bt F i) i (nrw bt ((iI (minsG g (Int.toNat i) 1 c)).toInt64)))))))]) (q0 := 6) (c_X0_goMinute l D cI cJ cB cS xa t tK tH tM tO gg okg (by omega)) mV_X0_goMinute kM_X3_148 dX3_book_83 rfl rfl [6, 7, 8, 9, 10] rfl rfl rfl rfl rfl rfl rfl rfl ⟨Nat.le_of_ble_eq_true rfl, Nat.le_of_ble_eq_true rfl, Nat.le_of_ble_eq_true rfl⟩ ?_
              have ok83_6 : Ok (minG gg) := minG_ok okg (by omega)
              have f83_7 := minG_40 gg
              have f83_8 := minG_41 gg
              have f83_9 := minG_42 gg
              refine z_iinc (pc := 86) (lv2 := [(4, .int (iI (i + 1))), (0, .ref x), (1, .int (iI s)), (2, .int (iI c)), (3, .ref z)]) dX3_book_86 4 rfl (by decide) rfl ?_
              refine z_goto (pc := 89) (tgt := 54) dX3_book_89 (by decide) ?_
              refine z_lv (lv2 := [(0, .ref x), (1, .int (iI s)), (2, .int (iI c)), (3, .ref z), (4, .int (iI (i + 1)))]) [1, 2, 3, 4, 0] rfl ?_
              refine z_ws (ws2 := [(x, .inr (3, [.ref h, .ref t, .ref k0, .int ik, .ref tp, .ref sh, .ref fi])), (h, oG g hK hH hM hO), (hK, .inl (cI, 8, .inl (aG g 0))), (hH, .inl (cI, 8, .inl (aG g 1))), (hM, .inl (cI, 8, .inl (aG g 2))), (hO, .inl (cI, 8, .inl (aG g 3))), (t, oG (minG gg) tK tH tM tO), (tK, .inl (cI, 8, .inl (aG (minG gg) 0))), (tH, .inl (cI, 8, .inl (aG (minG gg) 1))), (tM, .inl (cI, 8, .inl (aG (minG gg) 2))), (tO, .inl (cI, 8, .inl (aG (minG gg) 3))), (fi, .inl (cI, 7, .inl (ar fd))), (sh, .inl (cS, 4, .inr (.inr (.inr (.inr fs))))), (z, .inr (1, [.ref zn, .int (iI bt), .int (iI sz)])), (zn, .inl (cJ, 40, .inr (.inl (shN (bkL g c bt F (i + 1))))))]) (by rw [← bkL_s _ _ _ _ hi0]) ?_
              exact ih54 (i + 1) (minG gg) (by omega) (by omega) (by rw [minsG_s _ hi0, ← hg]) (by omega)
        refine z_ws (ws2 := [(x, .inr (3, [.ref h, .ref t, .ref k0, .int ik, .ref tp, .ref sh, .ref fi])), (h, oG g hK hH hM hO), (hK, .inl (cI, 8, .inl (aG g 0))), (hH, .inl (cI, 8, .inl (aG g 1))), (hM, .inl (cI, 8, .inl (aG g 2))), (hO, .inl (cI, 8, .inl (aG g 3))), (t, oG (likeG gt g) tK tH tM tO), (tK, .inl (cI, 8, .inl (aG (likeG gt g) 0))), (tH, .inl (cI, 8, .inl (aG (likeG gt g) 1))), (tM, .inl (cI, 8, .inl (aG (likeG gt g) 2))), (tO, .inl (cI, 8, .inl (aG (likeG gt g) 3))), (fi, .inl (cI, 7, .inl (ar fd))), (sh, .inl (cS, 4, .inr (.inr (.inr (.inr fs))))), (z, .inr (1, [.ref zn, .int (iI bt), .int (iI sz)])), (zn, .inl (cJ, 40, .inr (.inl (shN (bkL g c bt F 0)))))]) (by rw [bkL_0]) ?_
        refine z_lv (lv2 := [(0, .ref x), (1, .int (iI s)), (2, .int (iI c)), (3, .ref z), (4, .int (iI 0))]) [2, 3, 4, 1, 0] rfl ?_
        exact LP54 _ 0 (likeG gt g) (by omega) (by omega) (by rfl) (Nat.lt_succ_self _)
      · skip
        refine z_aload_n (pc := 41) dX3_book_41 1 rfl ?_
        refine z_iconst (pc := 42) dX3_book_42 ?_
        refine z_callV (pc := 43) (st := []) (st2 := [.int (iI (-1000000001 - 0))]) (ws2 := [(x, .inr (3, [.ref h, .ref t, .ref k0, .int ik, .ref tp, .ref sh, .ref fi])), (h, oG g hK hH hM hO), (hK, .inl (cI, 8, .inl (aG g 0))), (hH, .inl (cI, 8, .inl (aG g 1))), (hM, .inl (cI, 8, .inl (aG g 2))), (hO, .inl (cI, 8, .inl (aG g 3))), (t, oG gt tK tH tM tO), (tK, .inl (cI, 8, .inl (aG gt 0))), (tH, .inl (cI, 8, .inl (aG gt 1))), (tM, .inl (cI, 8, .inl (aG gt 2))), (tO, .inl (cI, 8, .inl (aG gt 3))), (fi, .inl (cI, 7, .inl (ar (fnd fd 0)))), (sh, .inl (cS, 4, .inr (.inr (.inr (.inr fs))))), (z, .inr (1, [.ref zn, .int (iI bt), .int (iI sz)])), (zn, .inl (cJ, 40, .inr (.inl (shN F))))]) (q0 := 0) (c_X3_found l D cI cJ cB cS xa x h t k0 tp sh fi ik fd 0 (by omega)) mV_X3_found kM_X3_48 dX3_book_43 rfl rfl [0, 11] rfl rfl rfl rfl rfl rfl rfl rfl ⟨Nat.le_of_ble_eq_true rfl, Nat.le_of_ble_eq_true rfl, Nat.le_of_ble_eq_true rfl⟩ ?_
        have e9 : opBook g c bt sz F fd = ((iI (-1000000001 - 0)), F, fnd fd 0) := by
          unfold opBook; rw [if_neg (by omega), if_neg (by omega)]; rfl
        exact z_iretE (pc := 46) dX3_book_46 gt okt (by rw [e9]) (by rw [e9])
    · skip
      refine z_aload_n (pc := 27) dX3_book_27 1 rfl ?_
      refine z_iconst (pc := 28) dX3_book_28 ?_
      refine z_callV (pc := 29) (st := []) (st2 := [.int (iI (-1000000001 - 5))]) (ws2 := [(x, .inr (3, [.ref h, .ref t, .ref k0, .int ik, .ref tp, .ref sh, .ref fi])), (h, oG g hK hH hM hO), (hK, .inl (cI, 8, .inl (aG g 0))), (hH, .inl (cI, 8, .inl (aG g 1))), (hM, .inl (cI, 8, .inl (aG g 2))), (hO, .inl (cI, 8, .inl (aG g 3))), (t, oG gt tK tH tM tO), (tK, .inl (cI, 8, .inl (aG gt 0))), (tH, .inl (cI, 8, .inl (aG gt 1))), (tM, .inl (cI, 8, .inl (aG gt 2))), (tO, .inl (cI, 8, .inl (aG gt 3))), (fi, .inl (cI, 7, .inl (ar (fnd fd 5)))), (sh, .inl (cS, 4, .inr (.inr (.inr (.inr fs))))), (z, .inr (1, [.ref zn, .int (iI bt), .int (iI sz)])), (zn, .inl (cJ, 40, .inr (.inl (shN F))))]) (q0 := 0) (c_X3_found l D cI cJ cB cS xa x h t k0 tp sh fi ik fd 5 (by omega)) mV_X3_found kM_X3_48 dX3_book_29 rfl rfl [0, 11] rfl rfl rfl rfl rfl rfl rfl rfl ⟨Nat.le_of_ble_eq_true rfl, Nat.le_of_ble_eq_true rfl, Nat.le_of_ble_eq_true rfl⟩ ?_
      have e9 : opBook g c bt sz F fd = ((iI (-1000000001 - 5)), F, fnd fd 5) := by
        unfold opBook; rw [if_pos (by omega)]; rfl
      exact z_iretE (pc := 32) dX3_book_32 gt okt (by rw [e9]) (by rw [e9])
  · skip
    exfalso; omega
set_option maxHeartbeats 8000000 in
set_option maxRecDepth 100000 in
theorem c_X3_book_o (l : Launch) (D : va_G) (cI cJ cB cS : ClassId) (xa : XA) (x h t k0 tp sh fi : Nat) (ik : Int32) (fd : FF) (s c : Int) (hs : ¬ (0 ≤ s ∧ s ≤ 3)) (rs : inr s) (rc : inr c) : Ct l D cI cJ cB cS xa yX3_book cX3_book 5 (some .int) 2 42 [.ref x, .int (iI s), .int (iI c)] [(x, .inr (3, [.ref h, .ref t, .ref k0, .int ik, .ref tp, .ref sh, .ref fi])), (fi, .inl (cI, 7, .inl (ar fd)))] (some (.int (iI (-1000000001)))) [(x, .inr (3, [.ref h, .ref t, .ref k0, .int ik, .ref tp, .ref sh, .ref fi])), (fi, .inl (cI, 7, .inl (ar (fnd fd 0))))] := by
  refine CtE.of (own := RX3) (lv := [(0, .ref x), (1, .int (iI s)), (2, .int (iI c))]) (by decide) rfl rfl (Nat.le_of_ble_eq_true rfl) ?_
  intro xp xe xs xm xb xt xc
  refine z_iload_n (pc := 0) dX3_book_0 1 rfl ?_
  refine z_callS (pc := 1) (st := []) (st2 := [.int (bI (0 ≤ s ∧ s ≤ 3))]) (ws2 := [(x, .inr (3, [.ref h, .ref t, .ref k0, .int ik, .ref tp, .ref sh, .ref fi])), (fi, .inl (cI, 7, .inl (ar fd)))]) (c_X3_isSheet l D cI cJ cB cS xa s (by omega)) mS_X3_isSheet kM_X3_186 dX3_book_1 [] rfl rfl rfl rfl rfl rfl rfl rfl ⟨Nat.le_of_ble_eq_true rfl, Nat.le_of_ble_eq_true rfl, Nat.le_of_ble_eq_true rfl⟩ ?_
  refine z_ifb_ne (pc := 4) (tgt := 13) dX3_book_4 (by decide) (fun h4 => ?_) (fun h4 => ?_)
  · skip
    exfalso; omega
  · skip
    refine z_aload_n (pc := 7) dX3_book_7 0 rfl ?_
    refine z_iconst (pc := 8) dX3_book_8 ?_
    refine z_callV (pc := 9) (st := []) (st2 := [.int (iI (-1000000001 - 0))]) (ws2 := [(x, .inr (3, [.ref h, .ref t, .ref k0, .int ik, .ref tp, .ref sh, .ref fi])), (fi, .inl (cI, 7, .inl (ar (fnd fd 0))))]) (q0 := 0) (c_X3_found l D cI cJ cB cS xa x h t k0 tp sh fi ik fd 0 (by omega)) mV_X3_found kM_X3_48 dX3_book_9 rfl rfl [0, 1] rfl rfl rfl rfl rfl rfl rfl rfl ⟨Nat.le_of_ble_eq_true rfl, Nat.le_of_ble_eq_true rfl, Nat.le_of_ble_eq_true rfl⟩ ?_
    exact z_iret (pc := 12) dX3_book_12 (congrArg (fun z => some (Value.int (iI z))) (show (-1000000001) = -1000000001 - 0 from by rfl)) rfl
set_option maxHeartbeats 8000000 in
set_option maxRecDepth 100000 in
theorem c_X3_wentAsBooked (l : Launch) (D : va_G) (cI cJ cB cS : ClassId) (xa : XA) (x h t tK tH tM tO k0 tp sh fi : Nat) (ik : Int32) (gt : Gd) (z zn : Nat) (bt sz : Int) (F : LL) (c : Int) (okt : Ok gt) (hc : 0 ≤ c ∧ c < gt 4 2) (hsz : 0 ≤ sz ∧ sz ≤ 40) (hm : gt 4 0 ≤ 99999) : CtE (S := Gd) l D cI cJ cB cS xa yX3_wentAsBooked cX3_wentAsBooked 4 (some .boolean) 4 90 [.ref x, .ref z, .int (iI c)] [(x, .inr (3, [.ref h, .ref t, .ref k0, .int ik, .ref tp, .ref sh, .ref fi])), (t, oG gt tK tH tM tO), (tK, .inl (cI, 8, .inl (aG gt 0))), (tH, .inl (cI, 8, .inl (aG gt 1))), (tM, .inl (cI, 8, .inl (aG gt 2))), (tO, .inl (cI, 8, .inl (aG gt 3))), (z, .inr (1, [.ref zn, .int (iI bt), .int (iI sz)])), (zn, .inl (cJ, 40, .inr (.inl (shN F))))] (fun gt2 : Gd => Ok gt2) (fun gt2 : Gd => (some (.int (bI (soN gt c F (Int.toNat sz) = true))))) (fun gt2 : Gd => [(x, .inr (3, [.ref h, .ref t, .ref k0, .int ik, .ref tp, .ref sh, .ref fi])), (t, oG gt2 tK tH tM tO), (tK, .inl (cI, 8, .inl (aG gt2 0))), (tH, .inl (cI, 8, .inl (aG gt2 1))), (tM, .inl (cI, 8, .inl (aG gt2 2))), (tO, .inl (cI, 8, .inl (aG gt2 3))), (z, .inr (1, [.ref zn, .int (iI bt), .int (iI sz)])), (zn, .inl (cJ, 40, .inr (.inl (shN F))))]) := by
  have o2 := ok2 okt
  have o0 := ok0 okt
  refine CtE.of (own := RX3) (lv := [(0, .ref x), (1, .ref z), (2, .int (iI c))]) (by decide) rfl rfl (Nat.le_of_ble_eq_true rfl) ?_
  intro xp xe xs xm xb xt xc
  refine z_iconst (pc := 0) dX3_wentAsBooked_0 ?_
  refine z_istore_n (pc := 1) (lv2 := [(3, .int (iI 0)), (0, .ref x), (1, .ref z), (2, .int (iI c))]) dX3_wentAsBooked_1 rfl (by decide) rfl ?_
  have LP2 : ∀ (nn_ : Nat) (i : Int) (gg : Gd), (0 ≤ i) → (i ≤ sz) → (gg = minsG gt i.toNat) → (∀ j : Int, 0 ≤ j → j < i → F j = (iI (minsG gt (Int.toNat j) 1 c)).toInt64) → (40 - i).toNat < nn_ → Z xp l xe { frames := 4, cells := 0, slots := 0, locals := 90 } xs xm ([.ref x, .ref z, .int (iI c)] : List Value).toArray xb xt xc 0 0 (MQ xb (Cq (S := Gd) D [(x, .inr (3, [.ref h, .ref t, .ref k0, .int ik, .ref tp, .ref sh, .ref fi])), (t, oG gt tK tH tM tO), (tK, .inl (cI, 8, .inl (aG gt 0))), (tH, .inl (cI, 8, .inl (aG gt 1))), (tM, .inl (cI, 8, .inl (aG gt 2))), (tO, .inl (cI, 8, .inl (aG gt 3))), (z, .inr (1, [.ref zn, .int (iI bt), .int (iI sz)])), (zn, .inl (cJ, 40, .inr (.inl (shN F))))] (fun gt2 : Gd => Ok gt2) (fun gt2 : Gd => (some (.int (bI (soN gt c F (Int.toNat sz) = true))))) (fun gt2 : Gd => [(x, .inr (3, [.ref h, .ref t, .ref k0, .int ik, .ref tp, .ref sh, .ref fi])), (t, oG gt2 tK tH tM tO), (tK, .inl (cI, 8, .inl (aG gt2 0))), (tH, .inl (cI, 8, .inl (aG gt2 1))), (tM, .inl (cI, 8, .inl (aG gt2 2))), (tO, .inl (cI, 8, .inl (aG gt2 3))), (z, .inr (1, [.ref zn, .int (iI bt), .int (iI sz)])), (zn, .inl (cJ, 40, .inr (.inl (shN F))))])) ([.ref x, .ref z, .int (iI c)] : List Value).toArray xs 0 0 (va_A0 [(x, .inr (3, [.ref h, .ref t, .ref k0, .int ik, .ref tp, .ref sh, .ref fi])), (t, oG gt tK tH tM tO), (tK, .inl (cI, 8, .inl (aG gt 0))), (tH, .inl (cI, 8, .inl (aG gt 1))), (tM, .inl (cI, 8, .inl (aG gt 2))), (tO, .inl (cI, 8, .inl (aG gt 3))), (z, .inr (1, [.ref zn, .int (iI bt), .int (iI sz)])), (zn, .inl (cJ, 40, .inr (.inl (shN F))))])) cX3_wentAsBooked RX3 4 (some .boolean) D cI cJ cB cS xa (va_A0 [(x, .inr (3, [.ref h, .ref t, .ref k0, .int ik, .ref tp, .ref sh, .ref fi])), (t, oG gt tK tH tM tO), (tK, .inl (cI, 8, .inl (aG gt 0))), (tH, .inl (cI, 8, .inl (aG gt 1))), (tM, .inl (cI, 8, .inl (aG gt 2))), (tO, .inl (cI, 8, .inl (aG gt 3))), (z, .inr (1, [.ref zn, .int (iI bt), .int (iI sz)])), (zn, .inl (cJ, 40, .inr (.inl (shN F))))]) [(x, .inr (3, [.ref h, .ref t, .ref k0, .int ik, .ref tp, .ref sh, .ref fi])), (t, oG gg tK tH tM tO), (tK, .inl (cI, 8, .inl (aG gg 0))), (tH, .inl (cI, 8, .inl (aG gg 1))), (tM, .inl (cI, 8, .inl (aG gg 2))), (tO, .inl (cI, 8, .inl (aG gg 3))), (z, .inr (1, [.ref zn, .int (iI bt), .int (iI sz)])), (zn, .inl (cJ, 40, .inr (.inl (shN F))))] [(0, .ref x), (1, .ref z), (2, .int (iI c)), (3, .int (iI i))] 2 [] := by
    intro nn_
    induction nn_ with
    | zero => intro i gg hi0 hi1 hg hq hms; exact absurd hms (Nat.not_lt_zero _)
    | succ nn_ ih =>
      intro i gg hi0 hi1 hg hq hms
      have okg : Ok gg := by rw [hg]; exact minsG_ok okt _ (by omega)
      have q0 : gg 4 0 = gt 4 0 + i.toNat := by rw [hg]; exact minsG_40 gt _
      have q2 : gg 4 2 = gt 4 2 := by rw [hg]; exact minsG_42 gt _
      have ih2 := ih
      clear ih
      refine z_iload_n (pc := 2) dX3_wentAsBooked_2 3 rfl ?_
      refine z_aload_n (pc := 3) dX3_wentAsBooked_3 1 rfl ?_
      refine z_get (pc := 4) (q0 := 6) (v := .int (iI sz)) fL_X3_195 dX3_wentAsBooked_4 rfl rfl ?_
      refine z_icmp_ge (pc := 7) (tgt := 45) dX3_wentAsBooked_7 (by decide) (by omega) (by omega) (fun h7 => ?_) (fun h7 => ?_)
      · skip
        obtain rfl : sz = i := by omega
        refine z_iconst (pc := 45) dX3_wentAsBooked_45 ?_
        exact z_zretE (pc := 46) (by decide) dX3_wentAsBooked_46 gg okg (congrArg (fun z => some (Value.int z)) (bI_t (so_all (by omega) hq))) rfl
      · skip
        refine z_aload_n (pc := 10) dX3_wentAsBooked_10 1 rfl ?_
        refine z_get (pc := 11) (q0 := 6) (v := .ref zn) fL_X3_202 dX3_wentAsBooked_11 rfl rfl ?_
        refine z_iload_n (pc := 14) dX3_wentAsBooked_14 3 rfl ?_
        refine z_lald (pc := 15) (q0 := 7) (v := (F i)) dX3_wentAsBooked_15 rfl (by omega) (by decide) (shN_at (by omega)) ?_
        refine z_aload_n (pc := 16) dX3_wentAsBooked_16 0 rfl ?_
        refine z_get (pc := 17) (q0 := 0) (v := .ref t) fL_X3_16 dX3_wentAsBooked_17 rfl rfl ?_
        refine z_get (pc := 20) (q0 := 1) (v := .ref tH) fL_X3_74 dX3_wentAsBooked_20 rfl rfl ?_
        refine z_iload_n (pc := 23) dX3_wentAsBooked_23 2 rfl ?_
        refine z_iald (pc := 24) (q0 := 3) (v := (iI (gg 1 c))) dX3_wentAsBooked_24 rfl (by omega) (by decide) (aG_at (by omega)) ?_
        have b1 := okH okg c
        refine z_i2l (pc := 25) dX3_wentAsBooked_25 ?_
        refine z_lcmp (pc := 26) dX3_wentAsBooked_26 ?_
        refine z_ifr_eq (pc := 27) (tgt := 32) dX3_wentAsBooked_27 (by decide) (fun h27 => ?_) (fun h27 => ?_)
        · skip
          have h27b := (lg_cmp_eq _ _).mp h27
          refine z_aload_n (pc := 32) dX3_wentAsBooked_32 0 rfl ?_
          refine z_get (pc := 33) (q0 := 0) (v := .ref t) fL_X3_16 dX3_wentAsBooked_33 rfl rfl ?_
          refine z_callV (pc := 36) (st := []) (st2 := []) (ws2 := [(x, .inr (3, [.ref h, .ref t, .ref k0, .int ik, .ref tp, .ref sh, .ref fi])), (t, oG (minG gg) tK tH tM tO), (tK, .inl (cI, 8, .inl (aG (minG gg) 0))), (tH, .inl (cI, 8, .inl (aG (minG gg) 1))), (tM, .inl (cI, 8, .inl (aG (minG gg) 2))), (tO, .inl (cI, 8, .inl (aG (minG gg) 3))), (z, .inr (1, [.ref zn, .int (iI bt), .int (iI sz)])), (zn, .inl (cJ, 40, .inr (.inl (shN F))))]) (q0 := 1) (c_X0_goMinute l D cI cJ cB cS xa t tK tH tM tO gg okg (by omega)) mV_X0_goMinute kM_X3_148 dX3_wentAsBooked_36 rfl rfl [1, 2, 3, 4, 5] rfl rfl rfl rfl rfl rfl rfl rfl ⟨Nat.le_of_ble_eq_true rfl, Nat.le_of_ble_eq_true rfl, Nat.le_of_ble_eq_true rfl⟩ ?_
          have ok36_2 : Ok (minG gg) := minG_ok okg (by omega)
          have f36_3 := minG_40 gg
          have f36_4 := minG_41 gg
          have f36_5 := minG_42 gg
          refine z_iinc (pc := 39) (lv2 := [(3, .int (iI (i + 1))), (0, .ref x), (1, .ref z), (2, .int (iI c))]) dX3_wentAsBooked_39 3 rfl (by decide) rfl ?_
          refine z_goto (pc := 42) (tgt := 2) dX3_wentAsBooked_42 (by decide) ?_
          refine z_lv (lv2 := [(0, .ref x), (1, .ref z), (2, .int (iI c)), (3, .int (iI (i + 1)))]) [1, 2, 3, 0] rfl ?_
          exact ih2 (i + 1) (minG gg) (by omega) (by omega) (by rw [minsG_s _ hi0, ← hg]) (so_si hq (by rw [← hg]; exact h27b)) (by omega)
        · skip
          have h27b := fun z => h27 ((lg_cmp_eq _ _).mpr z)
          refine z_iconst (pc := 30) dX3_wentAsBooked_30 ?_
          exact z_zretE (pc := 31) (by decide) dX3_wentAsBooked_31 gg okg (congrArg (fun z => some (Value.int z)) (bI_f (so_hit hi0 (by omega) (by rw [← hg]; exact h27b)))) rfl
  refine z_lv (lv2 := [(0, .ref x), (1, .ref z), (2, .int (iI c)), (3, .int (iI 0))]) [1, 2, 3, 0] rfl ?_
  exact LP2 _ 0 gt (by omega) (by omega) (by rfl) (fun j h0 h1 => absurd h1 (by omega)) (Nat.lt_succ_self _)
set_option maxHeartbeats 8000000 in
set_option maxRecDepth 100000 in
theorem c_X3_read (l : Launch) (D : va_G) (cI cJ cB cS : ClassId) (xa : XA) (x h hK hH hM hO t tK tH tM tO k0 tp sh fi : Nat) (ik : Int32) (fs : Nat → Option Nat) (g gt : Gd) (z zn : Nat) (bt sz : Int) (F : LL) (fd : FF) (s c o : Int) (ok : Ok g) (okt : Ok gt) (hs : 0 ≤ s ∧ s ≤ 3) (hfs : fs (Int.toNat s) = some z) (hbt : 0 ≤ bt ∧ bt ≤ 64) (hsz : 0 ≤ sz ∧ sz ≤ 40) (rc : inr c) (ro : inr o) (hm : g 4 0 ≤ 99999) : CtE (S := Gd) l D cI cJ cB cS xa yX3_read cX3_read 8 (some .int) 5 113 [.ref x, .int (iI s), .int (iI c), .int (iI o)] [(x, .inr (3, [.ref h, .ref t, .ref k0, .int ik, .ref tp, .ref sh, .ref fi])), (h, oG g hK hH hM hO), (hK, .inl (cI, 8, .inl (aG g 0))), (hH, .inl (cI, 8, .inl (aG g 1))), (hM, .inl (cI, 8, .inl (aG g 2))), (hO, .inl (cI, 8, .inl (aG g 3))), (t, oG gt tK tH tM tO), (tK, .inl (cI, 8, .inl (aG gt 0))), (tH, .inl (cI, 8, .inl (aG gt 1))), (tM, .inl (cI, 8, .inl (aG gt 2))), (tO, .inl (cI, 8, .inl (aG gt 3))), (fi, .inl (cI, 7, .inl (ar fd))), (sh, .inl (cS, 4, .inr (.inr (.inr (.inr fs))))), (z, .inr (1, [.ref zn, .int (iI bt), .int (iI sz)])), (zn, .inl (cJ, 40, .inr (.inl (shN F))))] (fun gt2 : Gd => Ok gt2) (fun gt2 : Gd => (some (.int ((opRead g c o bt sz F fd).1)))) (fun gt2 : Gd => [(x, .inr (3, [.ref h, .ref t, .ref k0, .int ik, .ref tp, .ref sh, .ref fi])), (h, oG g hK hH hM hO), (hK, .inl (cI, 8, .inl (aG g 0))), (hH, .inl (cI, 8, .inl (aG g 1))), (hM, .inl (cI, 8, .inl (aG g 2))), (hO, .inl (cI, 8, .inl (aG g 3))), (t, oG gt2 tK tH tM tO), (tK, .inl (cI, 8, .inl (aG gt2 0))), (tH, .inl (cI, 8, .inl (aG gt2 1))), (tM, .inl (cI, 8, .inl (aG gt2 2))), (tO, .inl (cI, 8, .inl (aG gt2 3))), (fi, .inl (cI, 7, .inl (ar ((opRead g c o bt sz F fd).2)))), (sh, .inl (cS, 4, .inr (.inr (.inr (.inr fs))))), (z, .inr (1, [.ref zn, .int (iI bt), .int (iI sz)])), (zn, .inl (cJ, 40, .inr (.inl (shN F))))]) := by
  have o0 := ok0 ok
  have o1 := ok1 ok
  have o2 := ok2 ok
  refine CtE.of (own := RX3) (lv := [(0, .ref x), (1, .int (iI s)), (2, .int (iI c)), (3, .int (iI o))]) (by decide) rfl rfl (Nat.le_of_ble_eq_true rfl) ?_
  intro xp xe xs xm xb xt xc
  refine z_iload_n (pc := 0) dX3_read_0 1 rfl ?_
  refine z_callS (pc := 1) (st := []) (st2 := [.int (bI (0 ≤ s ∧ s ≤ 3))]) (ws2 := [(x, .inr (3, [.ref h, .ref t, .ref k0, .int ik, .ref tp, .ref sh, .ref fi])), (h, oG g hK hH hM hO), (hK, .inl (cI, 8, .inl (aG g 0))), (hH, .inl (cI, 8, .inl (aG g 1))), (hM, .inl (cI, 8, .inl (aG g 2))), (hO, .inl (cI, 8, .inl (aG g 3))), (t, oG gt tK tH tM tO), (tK, .inl (cI, 8, .inl (aG gt 0))), (tH, .inl (cI, 8, .inl (aG gt 1))), (tM, .inl (cI, 8, .inl (aG gt 2))), (tO, .inl (cI, 8, .inl (aG gt 3))), (fi, .inl (cI, 7, .inl (ar fd))), (sh, .inl (cS, 4, .inr (.inr (.inr (.inr fs))))), (z, .inr (1, [.ref zn, .int (iI bt), .int (iI sz)])), (zn, .inl (cJ, 40, .inr (.inl (shN F))))]) (c_X3_isSheet l D cI cJ cB cS xa s (by omega)) mS_X3_isSheet kM_X3_186 dX3_read_1 [] rfl rfl rfl rfl rfl rfl rfl rfl ⟨Nat.le_of_ble_eq_true rfl, Nat.le_of_ble_eq_true rfl, Nat.le_of_ble_eq_true rfl⟩ ?_
  refine z_ifb_ne (pc := 4) (tgt := 13) dX3_read_4 (by decide) (fun h4 => ?_) (fun h4 => ?_)
  · skip
    refine z_aload_n (pc := 13) dX3_read_13 0 rfl ?_
    refine z_get (pc := 14) (q0 := 0) (v := .ref sh) fL_X3_35 dX3_read_14 rfl rfl ?_
    refine z_iload_n (pc := 17) dX3_read_17 1 rfl ?_
    refine z_aald (pc := 18) (q0 := 12) dX3_read_18 rfl (by omega) (by decide) (hfs) ?_
    refine z_astore (pc := 19) (lv2 := [(4, .ref z), (0, .ref x), (1, .int (iI s)), (2, .int (iI c)), (3, .int (iI o))]) dX3_read_19 (by decide) rfl ?_
    refine z_aload (pc := 21) dX3_read_21 0 rfl ?_
    refine z_callV (pc := 23) (st := []) (st2 := [.int (bI (bt = 0))]) (ws2 := [(x, .inr (3, [.ref h, .ref t, .ref k0, .int ik, .ref tp, .ref sh, .ref fi])), (h, oG g hK hH hM hO), (hK, .inl (cI, 8, .inl (aG g 0))), (hH, .inl (cI, 8, .inl (aG g 1))), (hM, .inl (cI, 8, .inl (aG g 2))), (hO, .inl (cI, 8, .inl (aG g 3))), (t, oG gt tK tH tM tO), (tK, .inl (cI, 8, .inl (aG gt 0))), (tH, .inl (cI, 8, .inl (aG gt 1))), (tM, .inl (cI, 8, .inl (aG gt 2))), (tO, .inl (cI, 8, .inl (aG gt 3))), (fi, .inl (cI, 7, .inl (ar fd))), (sh, .inl (cS, 4, .inr (.inr (.inr (.inr fs))))), (z, .inr (1, [.ref zn, .int (iI bt), .int (iI sz)])), (zn, .inl (cJ, 40, .inr (.inl (shN F))))]) (q0 := 13) (c_X1_isMissing l D cI cJ cB cS xa z zn bt sz (by omega)) mV_X1_isMissing kM_X3_196 dX3_read_23 rfl rfl [13] rfl rfl rfl rfl rfl rfl rfl rfl ⟨Nat.le_of_ble_eq_true rfl, Nat.le_of_ble_eq_true rfl, Nat.le_of_ble_eq_true rfl⟩ ?_
    refine z_ifb_eq (pc := 26) (tgt := 35) dX3_read_26 (by decide) (fun h26 => ?_) (fun h26 => ?_)
    · skip
      refine z_aload_n (pc := 35) dX3_read_35 1 rfl ?_
      refine z_iload_n (pc := 36) dX3_read_36 3 rfl ?_
      refine z_iload_n (pc := 37) dX3_read_37 4 rfl ?_
      refine z_callV (pc := 38) (st := []) (st2 := [.int (bI ((0 ≤ c ∧ c < g 4 2) ∧ (0 ≤ o ∧ o < g 4 2) ∧ c ≠ o))]) (ws2 := [(x, .inr (3, [.ref h, .ref t, .ref k0, .int ik, .ref tp, .ref sh, .ref fi])), (h, oG g hK hH hM hO), (hK, .inl (cI, 8, .inl (aG g 0))), (hH, .inl (cI, 8, .inl (aG g 1))), (hM, .inl (cI, 8, .inl (aG g 2))), (hO, .inl (cI, 8, .inl (aG g 3))), (t, oG gt tK tH tM tO), (tK, .inl (cI, 8, .inl (aG gt 0))), (tH, .inl (cI, 8, .inl (aG gt 1))), (tM, .inl (cI, 8, .inl (aG gt 2))), (tO, .inl (cI, 8, .inl (aG gt 3))), (fi, .inl (cI, 7, .inl (ar fd))), (sh, .inl (cS, 4, .inr (.inr (.inr (.inr fs))))), (z, .inr (1, [.ref zn, .int (iI bt), .int (iI sz)])), (zn, .inl (cJ, 40, .inr (.inl (shN F))))]) (q0 := 0) (c_X3_areTwo l D cI cJ cB cS xa x h hK hH hM hO t k0 tp sh fi ik g c o ok (by omega) (by omega)) mV_X3_areTwo kM_X3_134 dX3_read_38 rfl rfl [0, 1] rfl rfl rfl rfl rfl rfl rfl rfl ⟨Nat.le_of_ble_eq_true rfl, Nat.le_of_ble_eq_true rfl, Nat.le_of_ble_eq_true rfl⟩ ?_
      refine z_ifb_ne (pc := 41) (tgt := 50) dX3_read_41 (by decide) (fun h41 => ?_) (fun h41 => ?_)
      · skip
        refine z_iconst (pc := 50) dX3_read_50 ?_
        refine z_istore (pc := 51) (lv2 := [(5, .int (iI 0)), (4, .ref z), (0, .ref x), (1, .int (iI s)), (2, .int (iI c)), (3, .int (iI o))]) dX3_read_51 (by decide) rfl ?_
        refine z_iconst (pc := 53) dX3_read_53 ?_
        refine z_istore (pc := 54) (lv2 := [(6, .int (iI 0)), (5, .int (iI 0)), (4, .ref z), (0, .ref x), (1, .int (iI s)), (2, .int (iI c)), (3, .int (iI o))]) dX3_read_54 (by decide) rfl ?_
        have LP56 : ∀ (nn_ : Nat) (i : Int) (n : Int) (gx : Gd), (0 ≤ i ∧ i ≤ 6) → (Ok gx) → (n = rdN g c o F (Int.toNat sz) (6 * i).toNat) → (6 - i).toNat < nn_ → Z xp l xe { frames := 5, cells := 0, slots := 0, locals := 113 } xs xm ([.ref x, .int (iI s), .int (iI c), .int (iI o)] : List Value).toArray xb xt xc 0 0 (MQ xb (Cq (S := Gd) D [(x, .inr (3, [.ref h, .ref t, .ref k0, .int ik, .ref tp, .ref sh, .ref fi])), (h, oG g hK hH hM hO), (hK, .inl (cI, 8, .inl (aG g 0))), (hH, .inl (cI, 8, .inl (aG g 1))), (hM, .inl (cI, 8, .inl (aG g 2))), (hO, .inl (cI, 8, .inl (aG g 3))), (t, oG gt tK tH tM tO), (tK, .inl (cI, 8, .inl (aG gt 0))), (tH, .inl (cI, 8, .inl (aG gt 1))), (tM, .inl (cI, 8, .inl (aG gt 2))), (tO, .inl (cI, 8, .inl (aG gt 3))), (fi, .inl (cI, 7, .inl (ar fd))), (sh, .inl (cS, 4, .inr (.inr (.inr (.inr fs))))), (z, .inr (1, [.ref zn, .int (iI bt), .int (iI sz)])), (zn, .inl (cJ, 40, .inr (.inl (shN F))))] (fun gt2 : Gd => Ok gt2) (fun gt2 : Gd => (some (.int ((opRead g c o bt sz F fd).1)))) (fun gt2 : Gd => [(x, .inr (3, [.ref h, .ref t, .ref k0, .int ik, .ref tp, .ref sh, .ref fi])), (h, oG g hK hH hM hO), (hK, .inl (cI, 8, .inl (aG g 0))), (hH, .inl (cI, 8, .inl (aG g 1))), (hM, .inl (cI, 8, .inl (aG g 2))), (hO, .inl (cI, 8, .inl (aG g 3))), (t, oG gt2 tK tH tM tO), (tK, .inl (cI, 8, .inl (aG gt2 0))), (tH, .inl (cI, 8, .inl (aG gt2 1))), (tM, .inl (cI, 8, .inl (aG gt2 2))), (tO, .inl (cI, 8, .inl (aG gt2 3))), (fi, .inl (cI, 7, .inl (ar ((opRead g c o bt sz F fd).2)))), (sh, .inl (cS, 4, .inr (.inr (.inr (.inr fs))))), (z, .inr (1, [.ref zn, .int (iI bt), .int (iI sz)])), (zn, .inl (cJ, 40, .inr (.inl (shN F))))])) ([.ref x, .int (iI s), .int (iI c), .int (iI o)] : List Value).toArray xs 0 0 (va_A0 [(x, .inr (3, [.ref h, .ref t, .ref k0, .int ik, .ref tp, .ref sh, .ref fi])), (h, oG g hK hH hM hO), (hK, .inl (cI, 8, .inl (aG g 0))), (hH, .inl (cI, 8, .inl (aG g 1))), (hM, .inl (cI, 8, .inl (aG g 2))), (hO, .inl (cI, 8, .inl (aG g 3))), (t, oG gt tK tH tM tO), (tK, .inl (cI, 8, .inl (aG gt 0))), (tH, .inl (cI, 8, .inl (aG gt 1))), (tM, .inl (cI, 8, .inl (aG gt 2))), (tO, .inl (cI, 8, .inl (aG gt 3))), (fi, .inl (cI, 7, .inl (ar fd))), (sh, .inl (cS, 4, .inr (.inr (.inr (.inr fs))))), (z, .inr (1, [.ref zn, .int (iI bt), .int (iI sz)])), (zn, .inl (cJ, 40, .inr (.inl (shN F))))])) cX3_read RX3 8 (some .int) D cI cJ cB cS xa (va_A0 [(x, .inr (3, [.ref h, .ref t, .ref k0, .int ik, .ref tp, .ref sh, .ref fi])), (h, oG g hK hH hM hO), (hK, .inl (cI, 8, .inl (aG g 0))), (hH, .inl (cI, 8, .inl (aG g 1))), (hM, .inl (cI, 8, .inl (aG g 2))), (hO, .inl (cI, 8, .inl (aG g 3))), (t, oG gt tK tH tM tO), (tK, .inl (cI, 8, .inl (aG gt 0))), (tH, .inl (cI, 8, .inl (aG gt 1))), (tM, .inl (cI, 8, .inl (aG gt 2))), (tO, .inl (cI, 8, .inl (aG gt 3))), (fi, .inl (cI, 7, .inl (ar fd))), (sh, .inl (cS, 4, .inr (.inr (.inr (.inr fs))))), (z, .inr (1, [.ref zn, .int (iI bt), .int (iI sz)])), (zn, .inl (cJ, 40, .inr (.inl (shN F))))]) [(x, .inr (3, [.ref h, .ref t, .ref k0, .int ik, .ref tp, .ref sh, .ref fi])), (h, oG g hK hH hM hO), (hK, .inl (cI, 8, .inl (aG g 0))), (hH, .inl (cI, 8, .inl (aG g 1))), (hM, .inl (cI, 8, .inl (aG g 2))), (hO, .inl (cI, 8, .inl (aG g 3))), (t, oG gx tK tH tM tO), (tK, .inl (cI, 8, .inl (aG gx 0))), (tH, .inl (cI, 8, .inl (aG gx 1))), (tM, .inl (cI, 8, .inl (aG gx 2))), (tO, .inl (cI, 8, .inl (aG gx 3))), (fi, .inl (cI, 7, .inl (ar fd))), (sh, .inl (cS, 4, .inr (.inr (.inr (.inr fs))))), (z, .inr (1, [.ref zn, .int (iI bt), .int (iI sz)])), (zn, .inl (cJ, 40, .inr (.inl (shN F))))] [(0, .ref x), (1, .int (iI s)), (2, .int (iI c)), (3, .int (iI o)), (4, .ref z), (5, .int (iI n)), (6, .int (iI i))] 56 [] := by
          intro nn_
          induction nn_ with
          | zero => intro i n gx hi hx hb hms; exact absurd hms (Nat.not_lt_zero _)
          | succ nn_ ih =>
            intro i n gx hi hx hb hms
            have ih56 := ih
            clear ih
            refine z_iload (pc := 56) dX3_read_56 6 rfl ?_
            refine z_bipush (pc := 58) dX3_read_58 (by decide) ?_
            refine z_icmp_ge (pc := 60) (tgt := 124) dX3_read_60 (by decide) (by omega) (by omega) (fun h60 => ?_) (fun h60 => ?_)
            · skip
              obtain rfl : i = 6 := by omega
              refine z_iload (pc := 124) dX3_read_124 5 rfl ?_
              have e9 : opRead g c o bt sz F fd = ((iI n), fd) := by
                unfold opRead; rw [if_neg (by omega), if_pos h41, show (36 : Nat) = (6 * (6 : Int)).toNat from rfl, ← hb]
              exact z_iretE (pc := 126) dX3_read_126 gx hx (by rw [e9]) (by rw [e9])
            · skip
              refine z_iconst (pc := 63) dX3_read_63 ?_
              refine z_istore (pc := 64) (lv2 := [(7, .int (iI 0)), (0, .ref x), (1, .int (iI s)), (2, .int (iI c)), (3, .int (iI o)), (4, .ref z), (5, .int (iI n)), (6, .int (iI i))]) dX3_read_64 (by decide) rfl ?_
              have LP66 : ∀ (nn_ : Nat) (j : Int) (n : Int) (gx : Gd), (0 ≤ j ∧ j ≤ 6) → (Ok gx) → (n = rdN g c o F (Int.toNat sz) (6 * i + j).toNat) → (6 - j).toNat < nn_ → Z xp l xe { frames := 5, cells := 0, slots := 0, locals := 113 } xs xm ([.ref x, .int (iI s), .int (iI c), .int (iI o)] : List Value).toArray xb xt xc 0 0 (MQ xb (Cq (S := Gd) D [(x, .inr (3, [.ref h, .ref t, .ref k0, .int ik, .ref tp, .ref sh, .ref fi])), (h, oG g hK hH hM hO), (hK, .inl (cI, 8, .inl (aG g 0))), (hH, .inl (cI, 8, .inl (aG g 1))), (hM, .inl (cI, 8, .inl (aG g 2))), (hO, .inl (cI, 8, .inl (aG g 3))), (t, oG gt tK tH tM tO), (tK, .inl (cI, 8, .inl (aG gt 0))), (tH, .inl (cI, 8, .inl (aG gt 1))), (tM, .inl (cI, 8, .inl (aG gt 2))), (tO, .inl (cI, 8, .inl (aG gt 3))), (fi, .inl (cI, 7, .inl (ar fd))), (sh, .inl (cS, 4, .inr (.inr (.inr (.inr fs))))), (z, .inr (1, [.ref zn, .int (iI bt), .int (iI sz)])), (zn, .inl (cJ, 40, .inr (.inl (shN F))))] (fun gt2 : Gd => Ok gt2) (fun gt2 : Gd => (some (.int ((opRead g c o bt sz F fd).1)))) (fun gt2 : Gd => [(x, .inr (3, [.ref h, .ref t, .ref k0, .int ik, .ref tp, .ref sh, .ref fi])), (h, oG g hK hH hM hO), (hK, .inl (cI, 8, .inl (aG g 0))), (hH, .inl (cI, 8, .inl (aG g 1))), (hM, .inl (cI, 8, .inl (aG g 2))), (hO, .inl (cI, 8, .inl (aG g 3))), (t, oG gt2 tK tH tM tO), (tK, .inl (cI, 8, .inl (aG gt2 0))), (tH, .inl (cI, 8, .inl (aG gt2 1))), (tM, .inl (cI, 8, .inl (aG gt2 2))), (tO, .inl (cI, 8, .inl (aG gt2 3))), (fi, .inl (cI, 7, .inl (ar ((opRead g c o bt sz F fd).2)))), (sh, .inl (cS, 4, .inr (.inr (.inr (.inr fs))))), (z, .inr (1, [.ref zn, .int (iI bt), .int (iI sz)])), (zn, .inl (cJ, 40, .inr (.inl (shN F))))])) ([.ref x, .int (iI s), .int (iI c), .int (iI o)] : List Value).toArray xs 0 0 (va_A0 [(x, .inr (3, [.ref h, .ref t, .ref k0, .int ik, .ref tp, .ref sh, .ref fi])), (h, oG g hK hH hM hO), (hK, .inl (cI, 8, .inl (aG g 0))), (hH, .inl (cI, 8, .inl (aG g 1))), (hM, .inl (cI, 8, .inl (aG g 2))), (hO, .inl (cI, 8, .inl (aG g 3))), (t, oG gt tK tH tM tO), (tK, .inl (cI, 8, .inl (aG gt 0))), (tH, .inl (cI, 8, .inl (aG gt 1))), (tM, .inl (cI, 8, .inl (aG gt 2))), (tO, .inl (cI, 8, .inl (aG gt 3))), (fi, .inl (cI, 7, .inl (ar fd))), (sh, .inl (cS, 4, .inr (.inr (.inr (.inr fs))))), (z, .inr (1, [.ref zn, .int (iI bt), .int (iI sz)])), (zn, .inl (cJ, 40, .inr (.inl (shN F))))])) cX3_read RX3 8 (some .int) D cI cJ cB cS xa (va_A0 [(x, .inr (3, [.ref h, .ref t, .ref k0, .int ik, .ref tp, .ref sh, .ref fi])), (h, oG g hK hH hM hO), (hK, .inl (cI, 8, .inl (aG g 0))), (hH, .inl (cI, 8, .inl (aG g 1))), (hM, .inl (cI, 8, .inl (aG g 2))), (hO, .inl (cI, 8, .inl (aG g 3))), (t, oG gt tK tH tM tO), (tK, .inl (cI, 8, .inl (aG gt 0))), (tH, .inl (cI, 8, .inl (aG gt 1))), (tM, .inl (cI, 8, .inl (aG gt 2))), (tO, .inl (cI, 8, .inl (aG gt 3))), (fi, .inl (cI, 7, .inl (ar fd))), (sh, .inl (cS, 4, .inr (.inr (.inr (.inr fs))))), (z, .inr (1, [.ref zn, .int (iI bt), .int (iI sz)])), (zn, .inl (cJ, 40, .inr (.inl (shN F))))]) [(x, .inr (3, [.ref h, .ref t, .ref k0, .int ik, .ref tp, .ref sh, .ref fi])), (h, oG g hK hH hM hO), (hK, .inl (cI, 8, .inl (aG g 0))), (hH, .inl (cI, 8, .inl (aG g 1))), (hM, .inl (cI, 8, .inl (aG g 2))), (hO, .inl (cI, 8, .inl (aG g 3))), (t, oG gx tK tH tM tO), (tK, .inl (cI, 8, .inl (aG gx 0))), (tH, .inl (cI, 8, .inl (aG gx 1))), (tM, .inl (cI, 8, .inl (aG gx 2))), (tO, .inl (cI, 8, .inl (aG gx 3))), (fi, .inl (cI, 7, .inl (ar fd))), (sh, .inl (cS, 4, .inr (.inr (.inr (.inr fs))))), (z, .inr (1, [.ref zn, .int (iI bt), .int (iI sz)])), (zn, .inl (cJ, 40, .inr (.inl (shN F))))] [(0, .ref x), (1, .int (iI s)), (2, .int (iI c)), (3, .int (iI o)), (4, .ref z), (5, .int (iI n)), (6, .int (iI i)), (7, .int (iI j))] 66 [] := by
                intro nn_
                induction nn_ with
                | zero => intro j n gx hj hx hb hms; exact absurd hms (Nat.not_lt_zero _)
                | succ nn_ ih =>
                  intro j n gx hj hx hb hms
                  have ih66 := ih
                  clear ih
                  refine z_iload (pc := 66) dX3_read_66 7 rfl ?_
                  refine z_bipush (pc := 68) dX3_read_68 (by decide) ?_
                  refine z_icmp_ge (pc := 70) (tgt := 118) dX3_read_70 (by decide) (by omega) (by omega) (fun h70 => ?_) (fun h70 => ?_)
                  · skip
                    have hj6 : j = 6 := by omega
                    refine z_iinc (pc := 118) (lv2 := [(6, .int (iI (i + 1))), (0, .ref x), (1, .int (iI s)), (2, .int (iI c)), (3, .int (iI o)), (4, .ref z), (5, .int (iI n)), (7, .int (iI j))]) dX3_read_118 6 rfl (by decide) rfl ?_
                    refine z_goto (pc := 121) (tgt := 56) dX3_read_121 (by decide) ?_
                    refine z_lv (lv2 := [(0, .ref x), (1, .int (iI s)), (2, .int (iI c)), (3, .int (iI o)), (4, .ref z), (5, .int (iI n)), (6, .int (iI (i + 1)))]) [1, 2, 3, 4, 5, 6, 0] rfl ?_
                    exact ih56 (i + 1) n gx (by omega) (hx) (by rw [hb, hj6, show 6 * (i + 1) = 6 * i + 6 by omega]) (by omega)
                  · skip
                    refine z_aload_n (pc := 73) dX3_read_73 0 rfl ?_
                    refine z_callV (pc := 74) (st := []) (st2 := []) (ws2 := [(x, .inr (3, [.ref h, .ref t, .ref k0, .int ik, .ref tp, .ref sh, .ref fi])), (h, oG g hK hH hM hO), (hK, .inl (cI, 8, .inl (aG g 0))), (hH, .inl (cI, 8, .inl (aG g 1))), (hM, .inl (cI, 8, .inl (aG g 2))), (hO, .inl (cI, 8, .inl (aG g 3))), (t, oG (likeG gx g) tK tH tM tO), (tK, .inl (cI, 8, .inl (aG (likeG gx g) 0))), (tH, .inl (cI, 8, .inl (aG (likeG gx g) 1))), (tM, .inl (cI, 8, .inl (aG (likeG gx g) 2))), (tO, .inl (cI, 8, .inl (aG (likeG gx g) 3))), (fi, .inl (cI, 7, .inl (ar fd))), (sh, .inl (cS, 4, .inr (.inr (.inr (.inr fs))))), (z, .inr (1, [.ref zn, .int (iI bt), .int (iI sz)])), (zn, .inl (cJ, 40, .inr (.inl (shN F))))]) (q0 := 0) (c_X3_tryAsItIs l D cI cJ cB cS xa x h hK hH hM hO t tK tH tM tO k0 tp sh fi ik g gx ok hx) mV_X3_tryAsItIs kM_X3_145 dX3_read_74 rfl rfl [0, 1, 2, 3, 4, 5, 6, 7, 8, 9, 10] rfl rfl rfl rfl rfl rfl rfl rfl ⟨Nat.le_of_ble_eq_true rfl, Nat.le_of_ble_eq_true rfl, Nat.le_of_ble_eq_true rfl⟩ ?_
                    have ok74_1 : Ok (likeG gx g) := likeG_ok hx ok
                    have f74_2 := (show likeG gx g 4 0 = g 4 0 from rfl)
                    have f74_3 := (show likeG gx g 4 1 = g 4 1 from rfl)
                    have f74_4 := (show likeG gx g 4 2 = g 4 2 from rfl)
                    refine z_aload_n (pc := 77) dX3_read_77 0 rfl ?_
                    refine z_get (pc := 78) (q0 := 0) (v := .ref t) fL_X3_16 dX3_read_78 rfl rfl ?_
                    refine z_get (pc := 81) (q0 := 6) (v := .ref tK) fL_X3_103 dX3_read_81 rfl rfl ?_
                    refine z_iload_n (pc := 84) dX3_read_84 2 rfl ?_
                    refine z_iload (pc := 85) dX3_read_85 6 rfl ?_
                    refine z_iast (pc := 87) (q0 := 7) (ws2 := [(x, .inr (3, [.ref h, .ref t, .ref k0, .int ik, .ref tp, .ref sh, .ref fi])), (h, oG g hK hH hM hO), (hK, .inl (cI, 8, .inl (aG g 0))), (hH, .inl (cI, 8, .inl (aG g 1))), (hM, .inl (cI, 8, .inl (aG g 2))), (hO, .inl (cI, 8, .inl (aG g 3))), (t, oG (up2 (likeG gx g) 0 c i) tK tH tM tO), (tK, .inl (cI, 8, .inl (aG (up2 (likeG gx g) 0 c i) 0))), (tH, .inl (cI, 8, .inl (aG (up2 (likeG gx g) 0 c i) 1))), (tM, .inl (cI, 8, .inl (aG (up2 (likeG gx g) 0 c i) 2))), (tO, .inl (cI, 8, .inl (aG (up2 (likeG gx g) 0 c i) 3))), (fi, .inl (cI, 7, .inl (ar fd))), (sh, .inl (cS, 4, .inr (.inr (.inr (.inr fs))))), (z, .inr (1, [.ref zn, .int (iI bt), .int (iI sz)])), (zn, .inl (cJ, 40, .inr (.inl (shN F))))]) dX3_read_87 rfl (by omega) (by decide) (by rw [aG_up (by omega)]; rfl) ?_
                    refine z_aload_n (pc := 88) dX3_read_88 0 rfl ?_
                    refine z_get (pc := 89) (q0 := 0) (v := .ref t) fL_X3_16 dX3_read_89 rfl rfl ?_
                    refine z_get (pc := 92) (q0 := 6) (v := .ref tK) fL_X3_103 dX3_read_92 rfl rfl ?_
                    refine z_iload_n (pc := 95) dX3_read_95 3 rfl ?_
                    refine z_iload (pc := 96) dX3_read_96 7 rfl ?_
                    refine z_iast (pc := 98) (q0 := 7) (ws2 := [(x, .inr (3, [.ref h, .ref t, .ref k0, .int ik, .ref tp, .ref sh, .ref fi])), (h, oG g hK hH hM hO), (hK, .inl (cI, 8, .inl (aG g 0))), (hH, .inl (cI, 8, .inl (aG g 1))), (hM, .inl (cI, 8, .inl (aG g 2))), (hO, .inl (cI, 8, .inl (aG g 3))), (t, oG (up2 (up2 (likeG gx g) 0 c i) 0 o j) tK tH tM tO), (tK, .inl (cI, 8, .inl (aG (up2 (up2 (likeG gx g) 0 c i) 0 o j) 0))), (tH, .inl (cI, 8, .inl (aG (up2 (up2 (likeG gx g) 0 c i) 0 o j) 1))), (tM, .inl (cI, 8, .inl (aG (up2 (up2 (likeG gx g) 0 c i) 0 o j) 2))), (tO, .inl (cI, 8, .inl (aG (up2 (up2 (likeG gx g) 0 c i) 0 o j) 3))), (fi, .inl (cI, 7, .inl (ar fd))), (sh, .inl (cS, 4, .inr (.inr (.inr (.inr fs))))), (z, .inr (1, [.ref zn, .int (iI bt), .int (iI sz)])), (zn, .inl (cJ, 40, .inr (.inl (shN F))))]) dX3_read_98 rfl (by omega) (by decide) (by rw [aG_up (by omega)]; rfl) ?_
                    have oku5 : Ok (up2 (up2 (likeG gx g) 0 c i) 0 o j) := (Ok.upK ok74_1 c (by omega)).upK o (by omega)
                    have uu : (up2 (up2 (likeG gx g) 0 c i) 0 o j) 4 0 = g 4 0 := rfl
                    have uv : (up2 (up2 (likeG gx g) 0 c i) 0 o j) 4 2 = g 4 2 := rfl
                    have es : soN (up2 (up2 (likeG gx g) 0 c i) 0 o j) c F (Int.toNat sz) = true ↔ soN (rdG g c o (6 * i + j)) c F (Int.toNat sz) = true := so_agr (agr_up (agr_up (agr_like gx g) 0 c (by decide) (by omega)) 0 o (by decide) (by omega)) oku5 (by omega) ⟨by omega, by omega⟩ F (by omega)
                    refine z_aload_n (pc := 99) dX3_read_99 0 rfl ?_
                    refine z_aload (pc := 100) dX3_read_100 4 rfl ?_
                    refine z_iload_n (pc := 102) dX3_read_102 2 rfl ?_
                    refine z_callVE (pc := 103) (st := []) (q0 := 0) (c_X3_wentAsBooked l D cI cJ cB cS xa x h t tK tH tM tO k0 tp sh fi ik (up2 (up2 (likeG gx g) 0 c i) 0 o j) z zn bt sz F c oku5 (by omega) (by omega) (by omega)) mV_X3_wentAsBooked kM_X3_226 dX3_read_103 rfl rfl [0, 6, 7, 8, 9, 10, 13, 14] rfl rfl (fun _ => rfl) (fun _ => rfl) rfl rfl ⟨Nat.le_of_ble_eq_true rfl, Nat.le_of_ble_eq_true rfl, Nat.le_of_ble_eq_true rfl⟩ (fun u103 hu103 => ?_)
                    obtain ⟨gt2103, hz103⟩ : ∃ z, z = u103 := ⟨_, rfl⟩
                    subst hz103
                    refine z_ws (ws2 := [(x, .inr (3, [.ref h, .ref t, .ref k0, .int ik, .ref tp, .ref sh, .ref fi])), (h, oG g hK hH hM hO), (hK, .inl (cI, 8, .inl (aG g 0))), (hH, .inl (cI, 8, .inl (aG g 1))), (hM, .inl (cI, 8, .inl (aG g 2))), (hO, .inl (cI, 8, .inl (aG g 3))), (t, oG gt2103 tK tH tM tO), (tK, .inl (cI, 8, .inl (aG gt2103 0))), (tH, .inl (cI, 8, .inl (aG gt2103 1))), (tM, .inl (cI, 8, .inl (aG gt2103 2))), (tO, .inl (cI, 8, .inl (aG gt2103 3))), (fi, .inl (cI, 7, .inl (ar fd))), (sh, .inl (cS, 4, .inr (.inr (.inr (.inr fs))))), (z, .inr (1, [.ref zn, .int (iI bt), .int (iI sz)])), (zn, .inl (cJ, 40, .inr (.inl (shN F))))]) rfl ?_
                    refine z_st (st2 := [.int (bI (soN (up2 (up2 (likeG gx g) 0 c i) 0 o j) c F (Int.toNat sz) = true))]) rfl ?_
                    refine z_ifb_eq (pc := 106) (tgt := 112) dX3_read_106 (by decide) (fun h106 => ?_) (fun h106 => ?_)
                    · skip
                      refine z_iinc (pc := 112) (lv2 := [(7, .int (iI (j + 1))), (0, .ref x), (1, .int (iI s)), (2, .int (iI c)), (3, .int (iI o)), (4, .ref z), (5, .int (iI n)), (6, .int (iI i))]) dX3_read_112 7 rfl (by decide) rfl ?_
                      refine z_goto (pc := 115) (tgt := 66) dX3_read_115 (by decide) ?_
                      refine z_lv (lv2 := [(0, .ref x), (1, .int (iI s)), (2, .int (iI c)), (3, .int (iI o)), (4, .ref z), (5, .int (iI n)), (6, .int (iI i)), (7, .int (iI (j + 1)))]) [1, 2, 3, 4, 5, 6, 7, 0] rfl ?_
                      exact ih66 (j + 1) n gt2103 (by omega) (hu103) (by rw [show 6 * i + (j + 1) = (6 * i + j) + 1 by omega, rdN_s _ _ _ _ _ (by omega), ← hb, if_neg (fun z => h106 (es.mpr z))]; omega) (by omega)
                    · skip
                      refine z_iinc (pc := 109) (lv2 := [(5, .int (iI (n + 1))), (0, .ref x), (1, .int (iI s)), (2, .int (iI c)), (3, .int (iI o)), (4, .ref z), (6, .int (iI i)), (7, .int (iI j))]) dX3_read_109 5 rfl (by decide) rfl ?_
                      refine z_iinc (pc := 112) (lv2 := [(7, .int (iI (j + 1))), (5, .int (iI (n + 1))), (0, .ref x), (1, .int (iI s)), (2, .int (iI c)), (3, .int (iI o)), (4, .ref z), (6, .int (iI i))]) dX3_read_112 7 rfl (by decide) rfl ?_
                      refine z_goto (pc := 115) (tgt := 66) dX3_read_115 (by decide) ?_
                      refine z_lv (lv2 := [(0, .ref x), (1, .int (iI s)), (2, .int (iI c)), (3, .int (iI o)), (4, .ref z), (5, .int (iI (n + 1))), (6, .int (iI i)), (7, .int (iI (j + 1)))]) [2, 3, 4, 5, 6, 1, 7, 0] rfl ?_
                      exact ih66 (j + 1) (n + 1) gt2103 (by omega) (hu103) (by rw [show 6 * i + (j + 1) = (6 * i + j) + 1 by omega, rdN_s _ _ _ _ _ (by omega), ← hb, if_pos (es.mp h106)]) (by omega)
              refine z_lv (lv2 := [(0, .ref x), (1, .int (iI s)), (2, .int (iI c)), (3, .int (iI o)), (4, .ref z), (5, .int (iI n)), (6, .int (iI i)), (7, .int (iI 0))]) [1, 2, 3, 4, 5, 6, 7, 0] rfl ?_
              exact LP66 _ 0 n gx (by omega) (hx) (by rw [hb, Int.add_zero]) (Nat.lt_succ_self _)
        refine z_lv (lv2 := [(0, .ref x), (1, .int (iI s)), (2, .int (iI c)), (3, .int (iI o)), (4, .ref z), (5, .int (iI 0)), (6, .int (iI 0))]) [3, 4, 5, 6, 2, 1, 0] rfl ?_
        exact LP56 _ 0 0 gt (by omega) (okt) (by rfl) (Nat.lt_succ_self _)
      · skip
        refine z_aload_n (pc := 44) dX3_read_44 1 rfl ?_
        refine z_iconst (pc := 45) dX3_read_45 ?_
        refine z_callV (pc := 46) (st := []) (st2 := [.int (iI (-1000000001 - 0))]) (ws2 := [(x, .inr (3, [.ref h, .ref t, .ref k0, .int ik, .ref tp, .ref sh, .ref fi])), (h, oG g hK hH hM hO), (hK, .inl (cI, 8, .inl (aG g 0))), (hH, .inl (cI, 8, .inl (aG g 1))), (hM, .inl (cI, 8, .inl (aG g 2))), (hO, .inl (cI, 8, .inl (aG g 3))), (t, oG gt tK tH tM tO), (tK, .inl (cI, 8, .inl (aG gt 0))), (tH, .inl (cI, 8, .inl (aG gt 1))), (tM, .inl (cI, 8, .inl (aG gt 2))), (tO, .inl (cI, 8, .inl (aG gt 3))), (fi, .inl (cI, 7, .inl (ar (fnd fd 0)))), (sh, .inl (cS, 4, .inr (.inr (.inr (.inr fs))))), (z, .inr (1, [.ref zn, .int (iI bt), .int (iI sz)])), (zn, .inl (cJ, 40, .inr (.inl (shN F))))]) (q0 := 0) (c_X3_found l D cI cJ cB cS xa x h t k0 tp sh fi ik fd 0 (by omega)) mV_X3_found kM_X3_48 dX3_read_46 rfl rfl [0, 11] rfl rfl rfl rfl rfl rfl rfl rfl ⟨Nat.le_of_ble_eq_true rfl, Nat.le_of_ble_eq_true rfl, Nat.le_of_ble_eq_true rfl⟩ ?_
        have e9 : opRead g c o bt sz F fd = ((iI (-1000000001 - 0)), fnd fd 0) := by
          unfold opRead; rw [if_neg (by omega), if_neg h41]; rfl
        exact z_iretE (pc := 49) dX3_read_49 gt okt (by rw [e9]) (by rw [e9])
    · skip
      refine z_aload_n (pc := 29) dX3_read_29 1 rfl ?_
      refine z_iconst (pc := 30) dX3_read_30 ?_
      refine z_callV (pc := 31) (st := []) (st2 := [.int (iI (-1000000001 - 5))]) (ws2 := [(x, .inr (3, [.ref h, .ref t, .ref k0, .int ik, .ref tp, .ref sh, .ref fi])), (h, oG g hK hH hM hO), (hK, .inl (cI, 8, .inl (aG g 0))), (hH, .inl (cI, 8, .inl (aG g 1))), (hM, .inl (cI, 8, .inl (aG g 2))), (hO, .inl (cI, 8, .inl (aG g 3))), (t, oG gt tK tH tM tO), (tK, .inl (cI, 8, .inl (aG gt 0))), (tH, .inl (cI, 8, .inl (aG gt 1))), (tM, .inl (cI, 8, .inl (aG gt 2))), (tO, .inl (cI, 8, .inl (aG gt 3))), (fi, .inl (cI, 7, .inl (ar (fnd fd 5)))), (sh, .inl (cS, 4, .inr (.inr (.inr (.inr fs))))), (z, .inr (1, [.ref zn, .int (iI bt), .int (iI sz)])), (zn, .inl (cJ, 40, .inr (.inl (shN F))))]) (q0 := 0) (c_X3_found l D cI cJ cB cS xa x h t k0 tp sh fi ik fd 5 (by omega)) mV_X3_found kM_X3_48 dX3_read_31 rfl rfl [0, 11] rfl rfl rfl rfl rfl rfl rfl rfl ⟨Nat.le_of_ble_eq_true rfl, Nat.le_of_ble_eq_true rfl, Nat.le_of_ble_eq_true rfl⟩ ?_
      have e9 : opRead g c o bt sz F fd = ((iI (-1000000001 - 5)), fnd fd 5) := by
        unfold opRead; rw [if_pos (by omega)]; rfl
      exact z_iretE (pc := 34) dX3_read_34 gt okt (by rw [e9]) (by rw [e9])
  · skip
    exfalso; omega
set_option maxHeartbeats 8000000 in
set_option maxRecDepth 100000 in
theorem c_X3_read_o (l : Launch) (D : va_G) (cI cJ cB cS : ClassId) (xa : XA) (x h t k0 tp sh fi : Nat) (ik : Int32) (fd : FF) (s c o : Int) (hs : ¬ (0 ≤ s ∧ s ≤ 3)) (rs : inr s) (rc : inr c) (ro : inr o) : Ct l D cI cJ cB cS xa yX3_read cX3_read 8 (some .int) 2 42 [.ref x, .int (iI s), .int (iI c), .int (iI o)] [(x, .inr (3, [.ref h, .ref t, .ref k0, .int ik, .ref tp, .ref sh, .ref fi])), (fi, .inl (cI, 7, .inl (ar fd)))] (some (.int (iI (-1000000001)))) [(x, .inr (3, [.ref h, .ref t, .ref k0, .int ik, .ref tp, .ref sh, .ref fi])), (fi, .inl (cI, 7, .inl (ar (fnd fd 0))))] := by
  refine CtE.of (own := RX3) (lv := [(0, .ref x), (1, .int (iI s)), (2, .int (iI c)), (3, .int (iI o))]) (by decide) rfl rfl (Nat.le_of_ble_eq_true rfl) ?_
  intro xp xe xs xm xb xt xc
  refine z_iload_n (pc := 0) dX3_read_0 1 rfl ?_
  refine z_callS (pc := 1) (st := []) (st2 := [.int (bI (0 ≤ s ∧ s ≤ 3))]) (ws2 := [(x, .inr (3, [.ref h, .ref t, .ref k0, .int ik, .ref tp, .ref sh, .ref fi])), (fi, .inl (cI, 7, .inl (ar fd)))]) (c_X3_isSheet l D cI cJ cB cS xa s (by omega)) mS_X3_isSheet kM_X3_186 dX3_read_1 [] rfl rfl rfl rfl rfl rfl rfl rfl ⟨Nat.le_of_ble_eq_true rfl, Nat.le_of_ble_eq_true rfl, Nat.le_of_ble_eq_true rfl⟩ ?_
  refine z_ifb_ne (pc := 4) (tgt := 13) dX3_read_4 (by decide) (fun h4 => ?_) (fun h4 => ?_)
  · skip
    exfalso; omega
  · skip
    refine z_aload_n (pc := 7) dX3_read_7 0 rfl ?_
    refine z_iconst (pc := 8) dX3_read_8 ?_
    refine z_callV (pc := 9) (st := []) (st2 := [.int (iI (-1000000001 - 0))]) (ws2 := [(x, .inr (3, [.ref h, .ref t, .ref k0, .int ik, .ref tp, .ref sh, .ref fi])), (fi, .inl (cI, 7, .inl (ar (fnd fd 0))))]) (q0 := 0) (c_X3_found l D cI cJ cB cS xa x h t k0 tp sh fi ik fd 0 (by omega)) mV_X3_found kM_X3_48 dX3_read_9 rfl rfl [0, 1] rfl rfl rfl rfl rfl rfl rfl rfl ⟨Nat.le_of_ble_eq_true rfl, Nat.le_of_ble_eq_true rfl, Nat.le_of_ble_eq_true rfl⟩ ?_
    exact z_iret (pc := 12) dX3_read_12 (congrArg (fun z => some (Value.int (iI z))) (show (-1000000001) = -1000000001 - 0 from by rfl)) rfl
