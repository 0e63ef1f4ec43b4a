set_option maxHeartbeats 8000000 in
set_option maxRecDepth 100000 in
theorem c_X4_byteAt (l : Launch) (D : va_G) (cI cJ cB cS : ClassId) (xa : XA) (m mR mF mT mB mTp mBo mSo mSh mLe mIm mBf : Nat) (tn so be te va : Int) (wd : Int64) (gd ik : Int32) (tc : FF) (k : Int) (hT : OkT tc tn) (hk : 0 ≤ k ∧ k ≤ 200) : Ct l D cI cJ cB cS xa yX4_byteAt cX4_byteAt 2 (some .int) 0 0 [.ref m, .int (iI k)] [(m, .inr (4, [.ref mR, .ref mF, .ref mT, .ref mB, .ref mTp, .int (iI tn), .int (iI so), .int (iI be), .int (iI te), .long wd, .int (iI va), .int gd, .ref mBo, .ref mSo, .ref mSh, .ref mLe, .ref mIm, .ref mBf, .int ik])), (mTp, .inl (cI, 120, .inl (ar tc)))] (some (.int (iI (bA tc tn k)))) [(m, .inr (4, [.ref mR, .ref mF, .ref mT, .ref mB, .ref mTp, .int (iI tn), .int (iI so), .int (iI be), .int (iI te), .long wd, .int (iI va), .int gd, .ref mBo, .ref mSo, .ref mSh, .ref mLe, .ref mIm, .ref mBf, .int ik])), (mTp, .inl (cI, 120, .inl (ar tc)))] := by
  have hT2 := hT.2
  refine CtE.of (own := RX4) (lv := [(0, .ref m), (1, .int (iI k))]) (by decide) rfl rfl (Nat.le_of_ble_eq_true rfl) ?_
  intro xp xe xs xm xb xt xc
  refine z_iload_n (pc := 0) dX4_byteAt_0 1 rfl ?_
  refine z_aload_n (pc := 1) dX4_byteAt_1 0 rfl ?_
  refine z_get (pc := 2) (q0 := 0) (v := .int (iI tn)) fL_X4_162 dX4_byteAt_2 rfl rfl ?_
  refine z_icmp_ge (pc := 5) (tgt := 17) dX4_byteAt_5 (by decide) (by omega) (by omega) (fun h5 => ?_) (fun h5 => ?_)
  · skip
    refine z_iconst (pc := 17) dX4_byteAt_17 ?_
    exact z_iret (pc := 18) dX4_byteAt_18 (congrArg (fun z => some (Value.int (iI z))) (show (bA tc tn k) = -1 from by unfold bA; split <;> omega)) rfl
  · skip
    refine z_aload_n (pc := 8) dX4_byteAt_8 0 rfl ?_
    refine z_get (pc := 9) (q0 := 0) (v := .ref mTp) fL_X4_22 dX4_byteAt_9 rfl rfl ?_
    refine z_iload_n (pc := 12) dX4_byteAt_12 1 rfl ?_
    refine z_iald (pc := 13) (q0 := 1) (v := (iI (tc k))) dX4_byteAt_13 rfl (by omega) (by decide) (ar_at (by omega)) ?_
    refine z_goto (pc := 14) (tgt := 18) dX4_byteAt_14 (by decide) ?_
    exact z_iret (pc := 18) dX4_byteAt_18 (congrArg (fun z => some (Value.int (iI z))) (show (bA tc tn k) = tc k from by unfold bA; split <;> omega)) rfl
set_option maxHeartbeats 8000000 in
set_option maxRecDepth 100000 in
theorem c_X4_isLetter (l : Launch) (D : va_G) (cI cJ cB cS : ClassId) (xa : XA) (b : Int) (rb : inr b) : Ct l D cI cJ cB cS xa yX4_isLetter cX4_isLetter 1 (some .boolean) 1 22 [.int (iI b)] [] (some (.int (bI (isL b)))) [] := by
  refine CtE.of (own := RX4) (lv := [(0, .int (iI b))]) (by decide) rfl rfl (Nat.le_of_ble_eq_true rfl) ?_
  intro xp xe xs xm xb xt xc
  refine z_iload_n (pc := 0) dX4_isLetter_0 0 rfl ?_
  refine z_bipush (pc := 1) dX4_isLetter_1 (by decide) ?_
  refine z_bipush (pc := 3) dX4_isLetter_3 (by decide) ?_
  refine z_callS (pc := 5) (st := []) (st2 := [.int (bI (97 ≤ b ∧ b ≤ 122))]) (ws2 := []) (c_X4_in l D cI cJ cB cS xa b 97 122 (by omega) (by omega) (by omega)) mS_X4_in kM_X4_45 dX4_isLetter_5 [] rfl rfl rfl rfl rfl rfl rfl rfl ⟨Nat.le_of_ble_eq_true rfl, Nat.le_of_ble_eq_true rfl, Nat.le_of_ble_eq_true rfl⟩ ?_
  exact z_zret (pc := 8) (bI_nar _) dX4_isLetter_8 (congrArg (fun z => some (Value.int z)) (bI_c (by omega))) rfl
set_option maxHeartbeats 8000000 in
set_option maxRecDepth 100000 in
theorem c_X4_isDigit (l : Launch) (D : va_G) (cI cJ cB cS : ClassId) (xa : XA) (b : Int) (rb : inr b) : Ct l D cI cJ cB cS xa yX4_isDigit cX4_isDigit 1 (some .boolean) 1 22 [.int (iI b)] [] (some (.int (bI (isD b)))) [] := by
  refine CtE.of (own := RX4) (lv := [(0, .int (iI b))]) (by decide) rfl rfl (Nat.le_of_ble_eq_true rfl) ?_
  intro xp xe xs xm xb xt xc
  refine z_iload_n (pc := 0) dX4_isDigit_0 0 rfl ?_
  refine z_bipush (pc := 1) dX4_isDigit_1 (by decide) ?_
  refine z_bipush (pc := 3) dX4_isDigit_3 (by decide) ?_
  refine z_callS (pc := 5) (st := []) (st2 := [.int (bI (48 ≤ b ∧ b ≤ 57))]) (ws2 := []) (c_X4_in l D cI cJ cB cS xa b 48 57 (by omega) (by omega) (by omega)) mS_X4_in kM_X4_45 dX4_isDigit_5 [] rfl rfl rfl rfl rfl rfl rfl rfl ⟨Nat.le_of_ble_eq_true rfl, Nat.le_of_ble_eq_true rfl, Nat.le_of_ble_eq_true rfl⟩ ?_
  exact z_zret (pc := 8) (bI_nar _) dX4_isDigit_8 (congrArg (fun z => some (Value.int z)) (bI_c (by omega))) rfl
set_option maxHeartbeats 8000000 in
set_option maxRecDepth 100000 in
theorem c_X4_advance (l : Launch) (D : va_G) (cI cJ cB cS : ClassId) (xa : XA) (m mR mF mT mB mTp mBo mSo mSh mLe mIm mBf : Nat) (tn so be va : Int) (wd : Int64) (gd ik : Int32) (tc : FF) (p : Int) (hT : OkT tc tn) (hp : 0 ≤ p ∧ p ≤ tn) : Ct l D cI cJ cB cS xa yX4_advance cX4_advance 2 none 2 42 [.ref m] [(m, .inr (4, [.ref mR, .ref mF, .ref mT, .ref mB, .ref mTp, .int (iI tn), .int (iI so), .int (iI be), .int (iI p), .long wd, .int (iI va), .int gd, .ref mBo, .ref mSo, .ref mSh, .ref mLe, .ref mIm, .ref mBf, .int ik])), (mTp, .inl (cI, 120, .inl (ar tc)))] none [(m, .inr (4, [.ref mR, .ref mF, .ref mT, .ref mB, .ref mTp, .int (iI tn), .int (iI (tS tc tn p)), .int (iI (tB tc tn p)), .int (iI (tE tc tn p)), .long (jI (tW tc tn p)), .int (iI (tV tc tn p)), .int gd, .ref mBo, .ref mSo, .ref mSh, .ref mLe, .ref mIm, .ref mBf, .int ik])), (mTp, .inl (cI, 120, .inl (ar tc)))] := by
  have hT2 := hT.2
  refine CtE.of (own := RX4) (lv := [(0, .ref m)]) (by decide) rfl rfl (Nat.le_of_ble_eq_true rfl) ?_
  intro xp xe xs xm xb xt xc
  refine z_aload_n (pc := 0) dX4_advance_0 0 rfl ?_
  refine z_aload_n (pc := 1) dX4_advance_1 0 rfl ?_
  refine z_get (pc := 2) (q0 := 0) (v := .int (iI p)) fL_X4_166 dX4_advance_2 rfl rfl ?_
  refine z_put (pc := 5) (q0 := 0) (ws2 := [(m, .inr (4, [.ref mR, .ref mF, .ref mT, .ref mB, .ref mTp, .int (iI tn), .int (iI so), .int (iI p), .int (iI p), .long wd, .int (iI va), .int gd, .ref mBo, .ref mSo, .ref mSh, .ref mLe, .ref mIm, .ref mBf, .int ik])), (mTp, .inl (cI, 120, .inl (ar tc)))]) fP_X4_169 dX4_advance_5 rfl rfl rfl (Nat.le_of_ble_eq_true rfl) rfl ?_
  have LP8 : ∀ (nn_ : Nat) (q : Int), (p ≤ q ∧ q ≤ tn) → (∀ j : Int, 0 ≤ j → j < q - p → ¬ ¬ bA tc tn (p + j) = 32) → (tn - q).toNat < nn_ → Z xp l xe { frames := 2, cells := 0, slots := 0, locals := 42 } xs xm ([.ref m] : List Value).toArray xb xt xc 0 0 (MQ xb (Cq (S := Unit) D [(m, .inr (4, [.ref mR, .ref mF, .ref mT, .ref mB, .ref mTp, .int (iI tn), .int (iI so), .int (iI be), .int (iI p), .long wd, .int (iI va), .int gd, .ref mBo, .ref mSo, .ref mSh, .ref mLe, .ref mIm, .ref mBf, .int ik])), (mTp, .inl (cI, 120, .inl (ar tc)))] (fun _ => True) (fun _ => none) (fun _ => [(m, .inr (4, [.ref mR, .ref mF, .ref mT, .ref mB, .ref mTp, .int (iI tn), .int (iI (tS tc tn p)), .int (iI (tB tc tn p)), .int (iI (tE tc tn p)), .long (jI (tW tc tn p)), .int (iI (tV tc tn p)), .int gd, .ref mBo, .ref mSo, .ref mSh, .ref mLe, .ref mIm, .ref mBf, .int ik])), (mTp, .inl (cI, 120, .inl (ar tc)))])) ([.ref m] : List Value).toArray xs 0 0 (va_A0 [(m, .inr (4, [.ref mR, .ref mF, .ref mT, .ref mB, .ref mTp, .int (iI tn), .int (iI so), .int (iI be), .int (iI p), .long wd, .int (iI va), .int gd, .ref mBo, .ref mSo, .ref mSh, .ref mLe, .ref mIm, .ref mBf, .int ik])), (mTp, .inl (cI, 120, .inl (ar tc)))])) cX4_advance RX4 2 none D cI cJ cB cS xa (va_A0 [(m, .inr (4, [.ref mR, .ref mF, .ref mT, .ref mB, .ref mTp, .int (iI tn), .int (iI so), .int (iI be), .int (iI p), .long wd, .int (iI va), .int gd, .ref mBo, .ref mSo, .ref mSh, .ref mLe, .ref mIm, .ref mBf, .int ik])), (mTp, .inl (cI, 120, .inl (ar tc)))]) [(m, .inr (4, [.ref mR, .ref mF, .ref mT, .ref mB, .ref mTp, .int (iI tn), .int (iI so), .int (iI q), .int (iI p), .long wd, .int (iI va), .int gd, .ref mBo, .ref mSo, .ref mSh, .ref mLe, .ref mIm, .ref mBf, .int ik])), (mTp, .inl (cI, 120, .inl (ar tc)))] [(0, .ref m)] 8 [] := by
    intro nn_
    induction nn_ with
    | zero => intro q hq1 hq hms; exact absurd hms (Nat.not_lt_zero _)
    | succ nn_ ih =>
      intro q hq1 hq hms
      have ih8 := ih
      clear ih
      refine z_aload_n (pc := 8) dX4_advance_8 0 rfl ?_
      refine z_aload_n (pc := 9) dX4_advance_9 0 rfl ?_
      refine z_get (pc := 10) (q0 := 0) (v := .int (iI q)) fL_X4_169 dX4_advance_10 rfl rfl ?_
      refine z_callV (pc := 13) (st := []) (st2 := [.int (iI (bA tc tn q))]) (ws2 := [(m, .inr (4, [.ref mR, .ref mF, .ref mT, .ref mB, .ref mTp, .int (iI tn), .int (iI so), .int (iI q), .int (iI p), .long wd, .int (iI va), .int gd, .ref mBo, .ref mSo, .ref mSh, .ref mLe, .ref mIm, .ref mBf, .int ik])), (mTp, .inl (cI, 120, .inl (ar tc)))]) (q0 := 0) (c_X4_byteAt l D cI cJ cB cS xa m mR mF mT mB mTp mBo mSo mSh mLe mIm mBf tn so q p va wd gd ik tc q (by assumption) (by omega)) mV_X4_byteAt kM_X4_172 dX4_advance_13 rfl rfl [0, 1] rfl rfl rfl rfl rfl rfl rfl rfl ⟨Nat.le_of_ble_eq_true rfl, Nat.le_of_ble_eq_true rfl, Nat.le_of_ble_eq_true rfl⟩ ?_
      have f13_1 := bA_rng hT q
      refine z_bipush (pc := 16) dX4_advance_16 (by decide) ?_
      refine z_icmp_ne (pc := 18) (tgt := 34) dX4_advance_18 (by decide) (by omega) (by omega) (fun h18 => ?_) (fun h18 => ?_)
      · skip
        have eB : tB tc tn p = q := tB_eq (by omega) (by omega) hq h18
        refine z_aload_n (pc := 34) dX4_advance_34 0 rfl ?_
        refine z_aload_n (pc := 35) dX4_advance_35 0 rfl ?_
        refine z_get (pc := 36) (q0 := 0) (v := .int (iI q)) fL_X4_169 dX4_advance_36 rfl rfl ?_
        refine z_put (pc := 39) (q0 := 0) (ws2 := [(m, .inr (4, [.ref mR, .ref mF, .ref mT, .ref mB, .ref mTp, .int (iI tn), .int (iI so), .int (iI q), .int (iI q), .long wd, .int (iI va), .int gd, .ref mBo, .ref mSo, .ref mSh, .ref mLe, .ref mIm, .ref mBf, .int ik])), (mTp, .inl (cI, 120, .inl (ar tc)))]) fP_X4_166 dX4_advance_39 rfl rfl rfl (Nat.le_of_ble_eq_true rfl) rfl ?_
        refine z_aload_n (pc := 42) dX4_advance_42 0 rfl ?_
        refine z_aload_n (pc := 43) dX4_advance_43 0 rfl ?_
        refine z_get (pc := 44) (q0 := 0) (v := .int (iI q)) fL_X4_169 dX4_advance_44 rfl rfl ?_
        refine z_callV (pc := 47) (st := []) (st2 := [.int (iI (bA tc tn q))]) (ws2 := [(m, .inr (4, [.ref mR, .ref mF, .ref mT, .ref mB, .ref mTp, .int (iI tn), .int (iI so), .int (iI q), .int (iI q), .long wd, .int (iI va), .int gd, .ref mBo, .ref mSo, .ref mSh, .ref mLe, .ref mIm, .ref mBf, .int ik])), (mTp, .inl (cI, 120, .inl (ar tc)))]) (q0 := 0) (c_X4_byteAt l D cI cJ cB cS xa m mR mF mT mB mTp mBo mSo mSh mLe mIm mBf tn so q q va wd gd ik tc q (by assumption) (by omega)) mV_X4_byteAt kM_X4_172 dX4_advance_47 rfl rfl [0, 1] rfl rfl rfl rfl rfl rfl rfl rfl ⟨Nat.le_of_ble_eq_true rfl, Nat.le_of_ble_eq_true rfl, Nat.le_of_ble_eq_true rfl⟩ ?_
        have f47_2 := bA_rng hT q
        refine z_istore_n (pc := 50) (lv2 := [(1, .int (iI (bA tc tn q))), (0, .ref m)]) dX4_advance_50 rfl (by decide) rfl ?_
        refine z_aload_n (pc := 51) dX4_advance_51 1 rfl ?_
        refine z_iload_n (pc := 52) dX4_advance_52 0 rfl ?_
        refine z_if_ge (pc := 53) (tgt := 60) dX4_advance_53 (by decide) (by omega) (fun h53 => ?_) (fun h53 => ?_)
        · skip
          refine z_iload_n (pc := 60) dX4_advance_60 0 rfl ?_
          refine z_callS (pc := 61) (st := [.ref m]) (st2 := [.int (bI (isL (bA tc tn q))), .ref m]) (ws2 := [(m, .inr (4, [.ref mR, .ref mF, .ref mT, .ref mB, .ref mTp, .int (iI tn), .int (iI so), .int (iI q), .int (iI q), .long wd, .int (iI va), .int gd, .ref mBo, .ref mSo, .ref mSh, .ref mLe, .ref mIm, .ref mBf, .int ik])), (mTp, .inl (cI, 120, .inl (ar tc)))]) (c_X4_isLetter l D cI cJ cB cS xa (bA tc tn q) (by omega)) mS_X4_isLetter kM_X4_175 dX4_advance_61 [] rfl rfl rfl rfl rfl rfl rfl rfl ⟨Nat.le_of_ble_eq_true rfl, Nat.le_of_ble_eq_true rfl, Nat.le_of_ble_eq_true rfl⟩ ?_
          refine z_ifb_eq (pc := 64) (tgt := 71) dX4_advance_64 (by decide) (fun h64 => ?_) (fun h64 => ?_)
          · skip
            refine z_iload_n (pc := 71) dX4_advance_71 0 rfl ?_
            refine z_callS (pc := 72) (st := [.ref m]) (st2 := [.int (bI (isD (bA tc tn q))), .ref m]) (ws2 := [(m, .inr (4, [.ref mR, .ref mF, .ref mT, .ref mB, .ref mTp, .int (iI tn), .int (iI so), .int (iI q), .int (iI q), .long wd, .int (iI va), .int gd, .ref mBo, .ref mSo, .ref mSh, .ref mLe, .ref mIm, .ref mBf, .int ik])), (mTp, .inl (cI, 120, .inl (ar tc)))]) (c_X4_isDigit l D cI cJ cB cS xa (bA tc tn q) (by omega)) mS_X4_isDigit kM_X4_178 dX4_advance_72 [] rfl rfl rfl rfl rfl rfl rfl rfl ⟨Nat.le_of_ble_eq_true rfl, Nat.le_of_ble_eq_true rfl, Nat.le_of_ble_eq_true rfl⟩ ?_
            refine z_ifb_eq (pc := 75) (tgt := 82) dX4_advance_75 (by decide) (fun h75 => ?_) (fun h75 => ?_)
            · skip
              refine z_iconst (pc := 82) dX4_advance_82 ?_
              refine z_put (pc := 83) (q0 := 0) (ws2 := [(m, .inr (4, [.ref mR, .ref mF, .ref mT, .ref mB, .ref mTp, .int (iI tn), .int (iI 3), .int (iI q), .int (iI q), .long wd, .int (iI va), .int gd, .ref mBo, .ref mSo, .ref mSh, .ref mLe, .ref mIm, .ref mBf, .int ik])), (mTp, .inl (cI, 120, .inl (ar tc)))]) fP_X4_181 dX4_advance_83 rfl rfl rfl (Nat.le_of_ble_eq_true rfl) rfl ?_
              refine z_aload_n (pc := 86) dX4_advance_86 1 rfl ?_
              refine z_lconst (pc := 87) (v := 0) dX4_advance_87 (by decide) ?_
              refine z_put (pc := 88) (q0 := 0) (ws2 := [(m, .inr (4, [.ref mR, .ref mF, .ref mT, .ref mB, .ref mTp, .int (iI tn), .int (iI 3), .int (iI q), .int (iI q), .long 0, .int (iI va), .int gd, .ref mBo, .ref mSo, .ref mSh, .ref mLe, .ref mIm, .ref mBf, .int ik])), (mTp, .inl (cI, 120, .inl (ar tc)))]) fP_X4_184 dX4_advance_88 rfl rfl rfl (Nat.le_of_ble_eq_true rfl) rfl ?_
              refine z_aload_n (pc := 91) dX4_advance_91 1 rfl ?_
              refine z_aload_n (pc := 92) dX4_advance_92 1 rfl ?_
              refine z_get (pc := 93) (q0 := 0) (v := .int (iI 3)) fL_X4_181 dX4_advance_93 rfl rfl ?_
              refine z_iconst (pc := 96) dX4_advance_96 ?_
              refine z_icmp_ne (pc := 97) (tgt := 104) dX4_advance_97 (by decide) (by omega) (by omega) (fun h97 => ?_) (fun h97 => ?_)
              · skip
                refine z_iload_n (pc := 104) dX4_advance_104 0 rfl ?_
                refine z_put (pc := 105) (q0 := 0) (ws2 := [(m, .inr (4, [.ref mR, .ref mF, .ref mT, .ref mB, .ref mTp, .int (iI tn), .int (iI 3), .int (iI q), .int (iI q), .long 0, .int (iI (bA tc tn q)), .int gd, .ref mBo, .ref mSo, .ref mSh, .ref mLe, .ref mIm, .ref mBf, .int ik])), (mTp, .inl (cI, 120, .inl (ar tc)))]) fP_X4_188 dX4_advance_105 rfl rfl rfl (Nat.le_of_ble_eq_true rfl) rfl ?_
                refine z_aload_n (pc := 108) dX4_advance_108 1 rfl ?_
                refine z_get (pc := 109) (q0 := 0) (v := .int (iI 3)) fL_X4_181 dX4_advance_109 rfl rfl ?_
                refine z_iconst (pc := 112) dX4_advance_112 ?_
                refine z_icmp_ne (pc := 113) (tgt := 126) dX4_advance_113 (by decide) (by omega) (by omega) (fun h113 => ?_) (fun h113 => ?_)
                · skip
                  exfalso; omega
                · skip
                  refine z_aload_n (pc := 116) dX4_advance_116 1 rfl ?_
                  refine z_dup (pc := 117) dX4_advance_117 rfl ?_
                  refine z_get (pc := 118) (q0 := 0) (v := .int (iI q)) fL_X4_166 dX4_advance_118 rfl rfl ?_
                  refine z_iconst (pc := 121) dX4_advance_121 ?_
                  refine z_iadd (pc := 122) dX4_advance_122 ?_
                  refine z_put (pc := 123) (q0 := 0) (ws2 := [(m, .inr (4, [.ref mR, .ref mF, .ref mT, .ref mB, .ref mTp, .int (iI tn), .int (iI 3), .int (iI q), .int (iI (q + 1)), .long 0, .int (iI (bA tc tn q)), .int gd, .ref mBo, .ref mSo, .ref mSh, .ref mLe, .ref mIm, .ref mBf, .int ik])), (mTp, .inl (cI, 120, .inl (ar tc)))]) fP_X4_166 dX4_advance_123 rfl rfl rfl (Nat.le_of_ble_eq_true rfl) rfl ?_
                  refine z_aload_n (pc := 126) dX4_advance_126 1 rfl ?_
                  refine z_get (pc := 127) (q0 := 0) (v := .int (iI 3)) fL_X4_181 dX4_advance_127 rfl rfl ?_
                  refine z_iconst (pc := 130) dX4_advance_130 ?_
                  refine z_icmp_ne (pc := 131) (tgt := 207) dX4_advance_131 (by decide) (by omega) (by omega) (fun h131 => ?_) (fun h131 => ?_)
                  · skip
                    refine z_aload_n (pc := 207) dX4_advance_207 1 rfl ?_
                    refine z_get (pc := 208) (q0 := 0) (v := .int (iI 3)) fL_X4_181 dX4_advance_208 rfl rfl ?_
                    refine z_iconst (pc := 211) dX4_advance_211 ?_
                    refine z_icmp_ne (pc := 212) (tgt := 281) dX4_advance_212 (by decide) (by omega) (by omega) (fun h212 => ?_) (fun h212 => ?_)
                    · skip
                      have eS : tS tc tn p = 3 := by unfold tS; rw [eB, if_neg (by omega), if_neg h64, if_neg h75]
                      have eE : tE tc tn p = q + 1 := by unfold tE; rw [if_neg (by omega), if_neg (by omega), if_neg (by omega), eB]
                      have eW : tW tc tn p = 0 := by unfold tW; rw [if_neg (by omega)]
                      have eV : tV tc tn p = bA tc tn q := by unfold tV; rw [if_neg (by omega), eB]
                      have eZ : jI 0 = (0 : Int64) := by decide
                      exact z_vret (pc := 281) dX4_advance_281 rfl (by rw [eB, eS, eE, eW, eV]; try rw [eZ])
                    · skip
                      exfalso; omega
                  · skip
                    exfalso; omega
              · skip
                exfalso; omega
            · skip
              refine z_iconst (pc := 78) dX4_advance_78 ?_
              refine z_goto (pc := 79) (tgt := 83) dX4_advance_79 (by decide) ?_
              refine z_put (pc := 83) (q0 := 0) (ws2 := [(m, .inr (4, [.ref mR, .ref mF, .ref mT, .ref mB, .ref mTp, .int (iI tn), .int (iI 2), .int (iI q), .int (iI q), .long wd, .int (iI va), .int gd, .ref mBo, .ref mSo, .ref mSh, .ref mLe, .ref mIm, .ref mBf, .int ik])), (mTp, .inl (cI, 120, .inl (ar tc)))]) fP_X4_181 dX4_advance_83 rfl rfl rfl (Nat.le_of_ble_eq_true rfl) rfl ?_
              refine z_aload_n (pc := 86) dX4_advance_86 1 rfl ?_
              refine z_lconst (pc := 87) (v := 0) dX4_advance_87 (by decide) ?_
              refine z_put (pc := 88) (q0 := 0) (ws2 := [(m, .inr (4, [.ref mR, .ref mF, .ref mT, .ref mB, .ref mTp, .int (iI tn), .int (iI 2), .int (iI q), .int (iI q), .long 0, .int (iI va), .int gd, .ref mBo, .ref mSo, .ref mSh, .ref mLe, .ref mIm, .ref mBf, .int ik])), (mTp, .inl (cI, 120, .inl (ar tc)))]) fP_X4_184 dX4_advance_88 rfl rfl rfl (Nat.le_of_ble_eq_true rfl) rfl ?_
              refine z_aload_n (pc := 91) dX4_advance_91 1 rfl ?_
              refine z_aload_n (pc := 92) dX4_advance_92 1 rfl ?_
              refine z_get (pc := 93) (q0 := 0) (v := .int (iI 2)) fL_X4_181 dX4_advance_93 rfl rfl ?_
              refine z_iconst (pc := 96) dX4_advance_96 ?_
              refine z_icmp_ne (pc := 97) (tgt := 104) dX4_advance_97 (by decide) (by omega) (by omega) (fun h97 => ?_) (fun h97 => ?_)
              · skip
                exfalso; omega
              · skip
                refine z_iconst (pc := 100) dX4_advance_100 ?_
                refine z_goto (pc := 101) (tgt := 105) dX4_advance_101 (by decide) ?_
                refine z_put (pc := 105) (q0 := 0) (ws2 := [(m, .inr (4, [.ref mR, .ref mF, .ref mT, .ref mB, .ref mTp, .int (iI tn), .int (iI 2), .int (iI q), .int (iI q), .long 0, .int (iI 0), .int gd, .ref mBo, .ref mSo, .ref mSh, .ref mLe, .ref mIm, .ref mBf, .int ik])), (mTp, .inl (cI, 120, .inl (ar tc)))]) fP_X4_188 dX4_advance_105 rfl rfl rfl (Nat.le_of_ble_eq_true rfl) rfl ?_
                refine z_aload_n (pc := 108) dX4_advance_108 1 rfl ?_
                refine z_get (pc := 109) (q0 := 0) (v := .int (iI 2)) fL_X4_181 dX4_advance_109 rfl rfl ?_
                refine z_iconst (pc := 112) dX4_advance_112 ?_
                refine z_icmp_ne (pc := 113) (tgt := 126) dX4_advance_113 (by decide) (by omega) (by omega) (fun h113 => ?_) (fun h113 => ?_)
                · skip
                  refine z_aload_n (pc := 126) dX4_advance_126 1 rfl ?_
                  refine z_get (pc := 127) (q0 := 0) (v := .int (iI 2)) fL_X4_181 dX4_advance_127 rfl rfl ?_
                  refine z_iconst (pc := 130) dX4_advance_130 ?_
                  refine z_icmp_ne (pc := 131) (tgt := 207) dX4_advance_131 (by decide) (by omega) (by omega) (fun h131 => ?_) (fun h131 => ?_)
                  · skip
                    have LP207 : ∀ (nn_ : Nat) (r : Int) (v : Int), (q ≤ r ∧ r ≤ tn) → (∀ j : Int, 0 ≤ j → j < r - q → isD (bA tc tn (q + j))) → (v = nvN tc tn q (r - q).toNat) → (tn - r).toNat < nn_ → Z xp l xe { frames := 2, cells := 0, slots := 0, locals := 42 } xs xm ([.ref m] : List Value).toArray xb xt xc 0 0 (MQ xb (Cq (S := Unit) D [(m, .inr (4, [.ref mR, .ref mF, .ref mT, .ref mB, .ref mTp, .int (iI tn), .int (iI so), .int (iI be), .int (iI p), .long wd, .int (iI va), .int gd, .ref mBo, .ref mSo, .ref mSh, .ref mLe, .ref mIm, .ref mBf, .int ik])), (mTp, .inl (cI, 120, .inl (ar tc)))] (fun _ => True) (fun _ => none) (fun _ => [(m, .inr (4, [.ref mR, .ref mF, .ref mT, .ref mB, .ref mTp, .int (iI tn), .int (iI (tS tc tn p)), .int (iI (tB tc tn p)), .int (iI (tE tc tn p)), .long (jI (tW tc tn p)), .int (iI (tV tc tn p)), .int gd, .ref mBo, .ref mSo, .ref mSh, .ref mLe, .ref mIm, .ref mBf, .int ik])), (mTp, .inl (cI, 120, .inl (ar tc)))])) ([.ref m] : List Value).toArray xs 0 0 (va_A0 [(m, .inr (4, [.ref mR, .ref mF, .ref mT, .ref mB, .ref mTp, .int (iI tn), .int (iI so), .int (iI be), .int (iI p), .long wd, .int (iI va), .int gd, .ref mBo, .ref mSo, .ref mSh, .ref mLe, .ref mIm, .ref mBf, .int ik])), (mTp, .inl (cI, 120, .inl (ar tc)))])) cX4_advance RX4 2 none D cI cJ cB cS xa (va_A0 [(m, .inr (4, [.ref mR, .ref mF, .ref mT, .ref mB, .ref mTp, .int (iI tn), .int (iI so), .int (iI be), .int (iI p), .long wd, .int (iI va), .int gd, .ref mBo, .ref mSo, .ref mSh, .ref mLe, .ref mIm, .ref mBf, .int ik])), (mTp, .inl (cI, 120, .inl (ar tc)))]) [(m, .inr (4, [.ref mR, .ref mF, .ref mT, .ref mB, .ref mTp, .int (iI tn), .int (iI 2), .int (iI q), .int (iI r), .long 0, .int (iI v), .int gd, .ref mBo, .ref mSo, .ref mSh, .ref mLe, .ref mIm, .ref mBf, .int ik])), (mTp, .inl (cI, 120, .inl (ar tc)))] [(0, .ref m), (1, .int (iI (bA tc tn q)))] 207 [] := by
                      intro nn_
                      induction nn_ with
                      | zero => intro r v hr hl hw hms; exact absurd hms (Nat.not_lt_zero _)
                      | succ nn_ ih =>
                        intro r v hr hl hw hms
                        have nr := nvN_rng (tc := tc) (tn := tn) (b := q) (r - q).toNat (fun j a c => hl j a (by omega))
                        rw [← hw] at nr
                        have ih207 := ih
                        clear ih
                        refine z_aload_n (pc := 207) dX4_advance_207 0 rfl ?_
                        refine z_get (pc := 208) (q0 := 0) (v := .int (iI 2)) fL_X4_181 dX4_advance_208 rfl rfl ?_
                        refine z_iconst (pc := 211) dX4_advance_211 ?_
                        refine z_icmp_ne (pc := 212) (tgt := 281) dX4_advance_212 (by decide) (by omega) (by omega) (fun h212 => ?_) (fun h212 => ?_)
                        · skip
                          exfalso; omega
                        · skip
                          refine z_aload_n (pc := 215) dX4_advance_215 0 rfl ?_
                          refine z_aload_n (pc := 216) dX4_advance_216 0 rfl ?_
                          refine z_get (pc := 217) (q0 := 0) (v := .int (iI r)) fL_X4_166 dX4_advance_217 rfl rfl ?_
                          refine z_callV (pc := 220) (st := []) (st2 := [.int (iI (bA tc tn r))]) (ws2 := [(m, .inr (4, [.ref mR, .ref mF, .ref mT, .ref mB, .ref mTp, .int (iI tn), .int (iI 2), .int (iI q), .int (iI r), .long 0, .int (iI v), .int gd, .ref mBo, .ref mSo, .ref mSh, .ref mLe, .ref mIm, .ref mBf, .int ik])), (mTp, .inl (cI, 120, .inl (ar tc)))]) (q0 := 0) (c_X4_byteAt l D cI cJ cB cS xa m mR mF mT mB mTp mBo mSo mSh mLe mIm mBf tn 2 q r v 0 gd ik tc r (by assumption) (by omega)) mV_X4_byteAt kM_X4_172 dX4_advance_220 rfl rfl [0, 1] rfl rfl rfl rfl rfl rfl rfl rfl ⟨Nat.le_of_ble_eq_true rfl, Nat.le_of_ble_eq_true rfl, Nat.le_of_ble_eq_true rfl⟩ ?_
                          have f220_3 := bA_rng hT r
                          refine z_callS (pc := 223) (st := []) (st2 := [.int (bI (isD (bA tc tn r)))]) (ws2 := [(m, .inr (4, [.ref mR, .ref mF, .ref mT, .ref mB, .ref mTp, .int (iI tn), .int (iI 2), .int (iI q), .int (iI r), .long 0, .int (iI v), .int gd, .ref mBo, .ref mSo, .ref mSh, .ref mLe, .ref mIm, .ref mBf, .int ik])), (mTp, .inl (cI, 120, .inl (ar tc)))]) (c_X4_isDigit l D cI cJ cB cS xa (bA tc tn r) (by omega)) mS_X4_isDigit kM_X4_178 dX4_advance_223 [] rfl rfl rfl rfl rfl rfl rfl rfl ⟨Nat.le_of_ble_eq_true rfl, Nat.le_of_ble_eq_true rfl, Nat.le_of_ble_eq_true rfl⟩ ?_
                          refine z_ifb_eq (pc := 226) (tgt := 281) dX4_advance_226 (by decide) (fun h226 => ?_) (fun h226 => ?_)
                          · skip
                            have eS : tS tc tn p = 2 := by unfold tS; rw [eB, if_neg (by omega), if_neg h64, if_pos h75]
                            have eW : tW tc tn p = 0 := by unfold tW; rw [if_neg (by omega)]
                            have eZ : jI 0 = (0 : Int64) := by decide
                            have eL := lnD_eq (tc := tc) (tn := tn) (b := q) (r := r) (by omega) (by omega) hl h226
                            have eE : tE tc tn p = r := by unfold tE; rw [if_neg (by omega), if_neg (by omega), if_pos eS, eB, eL]; omega
                            have eV : tV tc tn p = v := by unfold tV; rw [if_pos eS, eB, eL, ← hw]
                            exact z_vret (pc := 281) dX4_advance_281 rfl (by rw [eB, eS, eE, eW, eV]; try rw [eZ])
                          · skip
                            refine z_aload_n (pc := 229) dX4_advance_229 0 rfl ?_
                            refine z_aload_n (pc := 230) dX4_advance_230 0 rfl ?_
                            refine z_get (pc := 231) (q0 := 0) (v := .int (iI v)) fL_X4_188 dX4_advance_231 rfl rfl ?_
                            refine z_sipush (pc := 234) dX4_advance_234 (by decide) ?_
                            refine z_icmp_le (pc := 237) (tgt := 246) dX4_advance_237 (by decide) (by omega) (by omega) (fun h237 => ?_) (fun h237 => ?_)
                            · skip
                              refine z_bipush (pc := 246) dX4_advance_246 (by decide) ?_
                              refine z_aload_n (pc := 248) dX4_advance_248 0 rfl ?_
                              refine z_get (pc := 249) (q0 := 0) (v := .int (iI v)) fL_X4_188 dX4_advance_249 rfl rfl ?_
                              refine z_imul (pc := 252) dX4_advance_252 ?_
                              refine z_aload_n (pc := 253) dX4_advance_253 0 rfl ?_
                              refine z_aload_n (pc := 254) dX4_advance_254 0 rfl ?_
                              refine z_get (pc := 255) (q0 := 0) (v := .int (iI r)) fL_X4_166 dX4_advance_255 rfl rfl ?_
                              refine z_callV (pc := 258) (st := [.int (iI (10 * v)), .ref m]) (st2 := [.int (iI (bA tc tn r)), .int (iI (10 * v)), .ref m]) (ws2 := [(m, .inr (4, [.ref mR, .ref mF, .ref mT, .ref mB, .ref mTp, .int (iI tn), .int (iI 2), .int (iI q), .int (iI r), .long 0, .int (iI v), .int gd, .ref mBo, .ref mSo, .ref mSh, .ref mLe, .ref mIm, .ref mBf, .int ik])), (mTp, .inl (cI, 120, .inl (ar tc)))]) (q0 := 0) (c_X4_byteAt l D cI cJ cB cS xa m mR mF mT mB mTp mBo mSo mSh mLe mIm mBf tn 2 q r v 0 gd ik tc r (by assumption) (by omega)) mV_X4_byteAt kM_X4_172 dX4_advance_258 rfl rfl [0, 1] rfl rfl rfl rfl rfl rfl rfl rfl ⟨Nat.le_of_ble_eq_true rfl, Nat.le_of_ble_eq_true rfl, Nat.le_of_ble_eq_true rfl⟩ ?_
                              have f258_4 := bA_rng hT r
                              refine z_iadd (pc := 261) dX4_advance_261 ?_
                              refine z_bipush (pc := 262) dX4_advance_262 (by decide) ?_
                              refine z_isub (pc := 264) dX4_advance_264 ?_
                              refine z_put (pc := 265) (q0 := 0) (ws2 := [(m, .inr (4, [.ref mR, .ref mF, .ref mT, .ref mB, .ref mTp, .int (iI tn), .int (iI 2), .int (iI q), .int (iI r), .long 0, .int (iI (((10 * v) + (bA tc tn r)) - 48)), .int gd, .ref mBo, .ref mSo, .ref mSh, .ref mLe, .ref mIm, .ref mBf, .int ik])), (mTp, .inl (cI, 120, .inl (ar tc)))]) fP_X4_188 dX4_advance_265 rfl rfl rfl (Nat.le_of_ble_eq_true rfl) rfl ?_
                              refine z_aload_n (pc := 268) dX4_advance_268 0 rfl ?_
                              refine z_dup (pc := 269) dX4_advance_269 rfl ?_
                              refine z_get (pc := 270) (q0 := 0) (v := .int (iI r)) fL_X4_166 dX4_advance_270 rfl rfl ?_
                              refine z_iconst (pc := 273) dX4_advance_273 ?_
                              refine z_iadd (pc := 274) dX4_advance_274 ?_
                              refine z_put (pc := 275) (q0 := 0) (ws2 := [(m, .inr (4, [.ref mR, .ref mF, .ref mT, .ref mB, .ref mTp, .int (iI tn), .int (iI 2), .int (iI q), .int (iI (r + 1)), .long 0, .int (iI (((10 * v) + (bA tc tn r)) - 48)), .int gd, .ref mBo, .ref mSo, .ref mSh, .ref mLe, .ref mIm, .ref mBf, .int ik])), (mTp, .inl (cI, 120, .inl (ar tc)))]) fP_X4_166 dX4_advance_275 rfl rfl rfl (Nat.le_of_ble_eq_true rfl) rfl ?_
                              refine z_goto (pc := 278) (tgt := 207) dX4_advance_278 (by decide) ?_
                              exact ih207 (r + 1) (((10 * v) + (bA tc tn r)) - 48) (by omega) (sq_s (x := bA tc tn) (P := isD) hl h226) (by rw [show r + 1 - q = (r - q) + 1 by omega, nvN_s _ _ _ (by omega), ← hw, if_neg (by omega), show q + (r - q) = r by omega]) (by omega)
                            · skip
                              refine z_sipush (pc := 240) dX4_advance_240 (by decide) ?_
                              refine z_goto (pc := 243) (tgt := 265) dX4_advance_243 (by decide) ?_
                              refine z_put (pc := 265) (q0 := 0) (ws2 := [(m, .inr (4, [.ref mR, .ref mF, .ref mT, .ref mB, .ref mTp, .int (iI tn), .int (iI 2), .int (iI q), .int (iI r), .long 0, .int (iI 10000), .int gd, .ref mBo, .ref mSo, .ref mSh, .ref mLe, .ref mIm, .ref mBf, .int ik])), (mTp, .inl (cI, 120, .inl (ar tc)))]) fP_X4_188 dX4_advance_265 rfl rfl rfl (Nat.le_of_ble_eq_true rfl) rfl ?_
                              refine z_aload_n (pc := 268) dX4_advance_268 0 rfl ?_
                              refine z_dup (pc := 269) dX4_advance_269 rfl ?_
                              refine z_get (pc := 270) (q0 := 0) (v := .int (iI r)) fL_X4_166 dX4_advance_270 rfl rfl ?_
                              refine z_iconst (pc := 273) dX4_advance_273 ?_
                              refine z_iadd (pc := 274) dX4_advance_274 ?_
                              refine z_put (pc := 275) (q0 := 0) (ws2 := [(m, .inr (4, [.ref mR, .ref mF, .ref mT, .ref mB, .ref mTp, .int (iI tn), .int (iI 2), .int (iI q), .int (iI (r + 1)), .long 0, .int (iI 10000), .int gd, .ref mBo, .ref mSo, .ref mSh, .ref mLe, .ref mIm, .ref mBf, .int ik])), (mTp, .inl (cI, 120, .inl (ar tc)))]) fP_X4_166 dX4_advance_275 rfl rfl rfl (Nat.le_of_ble_eq_true rfl) rfl ?_
                              refine z_goto (pc := 278) (tgt := 207) dX4_advance_278 (by decide) ?_
                              exact ih207 (r + 1) 10000 (by omega) (sq_s (x := bA tc tn) (P := isD) hl h226) (by rw [show r + 1 - q = (r - q) + 1 by omega, nvN_s _ _ _ (by omega), ← hw, if_pos (by omega)]) (by omega)
                    refine z_lv (lv2 := [(0, .ref m), (1, .int (iI (bA tc tn q)))]) [1, 0] rfl ?_
                    exact LP207 _ q 0 (by omega) (fun j h0 h1 => absurd h1 (by omega)) (by rw [show q - q = 0 by omega]; rfl) (Nat.lt_succ_self _)
                  · skip
                    exfalso; omega
                · skip
                  exfalso; omega
          · skip
            refine z_iconst (pc := 67) dX4_advance_67 ?_
            refine z_goto (pc := 68) (tgt := 83) dX4_advance_68 (by decide) ?_
            refine z_put (pc := 83) (q0 := 0) (ws2 := [(m, .inr (4, [.ref mR, .ref mF, .ref mT, .ref mB, .ref mTp, .int (iI tn), .int (iI 1), .int (iI q), .int (iI q), .long wd, .int (iI va), .int gd, .ref mBo, .ref mSo, .ref mSh, .ref mLe, .ref mIm, .ref mBf, .int ik])), (mTp, .inl (cI, 120, .inl (ar tc)))]) fP_X4_181 dX4_advance_83 rfl rfl rfl (Nat.le_of_ble_eq_true rfl) rfl ?_
            refine z_aload_n (pc := 86) dX4_advance_86 1 rfl ?_
            refine z_lconst (pc := 87) (v := 0) dX4_advance_87 (by decide) ?_
            refine z_put (pc := 88) (q0 := 0) (ws2 := [(m, .inr (4, [.ref mR, .ref mF, .ref mT, .ref mB, .ref mTp, .int (iI tn), .int (iI 1), .int (iI q), .int (iI q), .long 0, .int (iI va), .int gd, .ref mBo, .ref mSo, .ref mSh, .ref mLe, .ref mIm, .ref mBf, .int ik])), (mTp, .inl (cI, 120, .inl (ar tc)))]) fP_X4_184 dX4_advance_88 rfl rfl rfl (Nat.le_of_ble_eq_true rfl) rfl ?_
            refine z_aload_n (pc := 91) dX4_advance_91 1 rfl ?_
            refine z_aload_n (pc := 92) dX4_advance_92 1 rfl ?_
            refine z_get (pc := 93) (q0 := 0) (v := .int (iI 1)) fL_X4_181 dX4_advance_93 rfl rfl ?_
            refine z_iconst (pc := 96) dX4_advance_96 ?_
            refine z_icmp_ne (pc := 97) (tgt := 104) dX4_advance_97 (by decide) (by omega) (by omega) (fun h97 => ?_) (fun h97 => ?_)
            · skip
              refine z_iload_n (pc := 104) dX4_advance_104 0 rfl ?_
              refine z_put (pc := 105) (q0 := 0) (ws2 := [(m, .inr (4, [.ref mR, .ref mF, .ref mT, .ref mB, .ref mTp, .int (iI tn), .int (iI 1), .int (iI q), .int (iI q), .long 0, .int (iI (bA tc tn q)), .int gd, .ref mBo, .ref mSo, .ref mSh, .ref mLe, .ref mIm, .ref mBf, .int ik])), (mTp, .inl (cI, 120, .inl (ar tc)))]) fP_X4_188 dX4_advance_105 rfl rfl rfl (Nat.le_of_ble_eq_true rfl) rfl ?_
              refine z_aload_n (pc := 108) dX4_advance_108 1 rfl ?_
              refine z_get (pc := 109) (q0 := 0) (v := .int (iI 1)) fL_X4_181 dX4_advance_109 rfl rfl ?_
              refine z_iconst (pc := 112) dX4_advance_112 ?_
              refine z_icmp_ne (pc := 113) (tgt := 126) dX4_advance_113 (by decide) (by omega) (by omega) (fun h113 => ?_) (fun h113 => ?_)
              · skip
                have LP126 : ∀ (nn_ : Nat) (r : Int) (w : Int), (q ≤ r ∧ r ≤ tn) → (∀ j : Int, 0 ≤ j → j < r - q → isL (bA tc tn (q + j))) → (w = whN tc tn q (r - q).toNat) → (tn - r).toNat < nn_ → Z xp l xe { frames := 2, cells := 0, slots := 0, locals := 42 } xs xm ([.ref m] : List Value).toArray xb xt xc 0 0 (MQ xb (Cq (S := Unit) D [(m, .inr (4, [.ref mR, .ref mF, .ref mT, .ref mB, .ref mTp, .int (iI tn), .int (iI so), .int (iI be), .int (iI p), .long wd, .int (iI va), .int gd, .ref mBo, .ref mSo, .ref mSh, .ref mLe, .ref mIm, .ref mBf, .int ik])), (mTp, .inl (cI, 120, .inl (ar tc)))] (fun _ => True) (fun _ => none) (fun _ => [(m, .inr (4, [.ref mR, .ref mF, .ref mT, .ref mB, .ref mTp, .int (iI tn), .int (iI (tS tc tn p)), .int (iI (tB tc tn p)), .int (iI (tE tc tn p)), .long (jI (tW tc tn p)), .int (iI (tV tc tn p)), .int gd, .ref mBo, .ref mSo, .ref mSh, .ref mLe, .ref mIm, .ref mBf, .int ik])), (mTp, .inl (cI, 120, .inl (ar tc)))])) ([.ref m] : List Value).toArray xs 0 0 (va_A0 [(m, .inr (4, [.ref mR, .ref mF, .ref mT, .ref mB, .ref mTp, .int (iI tn), .int (iI so), .int (iI be), .int (iI p), .long wd, .int (iI va), .int gd, .ref mBo, .ref mSo, .ref mSh, .ref mLe, .ref mIm, .ref mBf, .int ik])), (mTp, .inl (cI, 120, .inl (ar tc)))])) cX4_advance RX4 2 none D cI cJ cB cS xa (va_A0 [(m, .inr (4, [.ref mR, .ref mF, .ref mT, .ref mB, .ref mTp, .int (iI tn), .int (iI so), .int (iI be), .int (iI p), .long wd, .int (iI va), .int gd, .ref mBo, .ref mSo, .ref mSh, .ref mLe, .ref mIm, .ref mBf, .int ik])), (mTp, .inl (cI, 120, .inl (ar tc)))]) [(m, .inr (4, [.ref mR, .ref mF, .ref mT, .ref mB, .ref mTp, .int (iI tn), .int (iI 1), .int (iI q), .int (iI r), .long (jI w), .int (iI (bA tc tn q)), .int gd, .ref mBo, .ref mSo, .ref mSh, .ref mLe, .ref mIm, .ref mBf, .int ik])), (mTp, .inl (cI, 120, .inl (ar tc)))] [(0, .ref m), (1, .int (iI (bA tc tn q)))] 126 [] := by
                  intro nn_
                  induction nn_ with
                  | zero => intro r w hr hl hw hms; exact absurd hms (Nat.not_lt_zero _)
                  | succ nn_ ih =>
                    intro r w hr hl hw hms
                    have ih126 := ih
                    clear ih
                    refine z_aload_n (pc := 126) dX4_advance_126 0 rfl ?_
                    refine z_get (pc := 127) (q0 := 0) (v := .int (iI 1)) fL_X4_181 dX4_advance_127 rfl rfl ?_
                    refine z_iconst (pc := 130) dX4_advance_130 ?_
                    refine z_icmp_ne (pc := 131) (tgt := 207) dX4_advance_131 (by decide) (by omega) (by omega) (fun h131 => ?_) (fun h131 => ?_)
                    · skip
                      exfalso; omega
                    · skip
                      refine z_aload_n (pc := 134) dX4_advance_134 0 rfl ?_
                      refine z_aload_n (pc := 135) dX4_advance_135 0 rfl ?_
                      refine z_get (pc := 136) (q0 := 0) (v := .int (iI r)) fL_X4_166 dX4_advance_136 rfl rfl ?_
                      refine z_callV (pc := 139) (st := []) (st2 := [.int (iI (bA tc tn r))]) (ws2 := [(m, .inr (4, [.ref mR, .ref mF, .ref mT, .ref mB, .ref mTp, .int (iI tn), .int (iI 1), .int (iI q), .int (iI r), .long (jI w), .int (iI (bA tc tn q)), .int gd, .ref mBo, .ref mSo, .ref mSh, .ref mLe, .ref mIm, .ref mBf, .int ik])), (mTp, .inl (cI, 120, .inl (ar tc)))]) (q0 := 0) (c_X4_byteAt l D cI cJ cB cS xa m mR mF mT mB mTp mBo mSo mSh mLe mIm mBf tn 1 q r (bA tc tn q) (jI w) gd ik tc r (by assumption) (by omega)) mV_X4_byteAt kM_X4_172 dX4_advance_139 rfl rfl [0, 1] rfl rfl rfl rfl rfl rfl rfl rfl ⟨Nat.le_of_ble_eq_true rfl, Nat.le_of_ble_eq_true rfl, Nat.le_of_ble_eq_true rfl⟩ ?_
                      have f139_5 := bA_rng hT r
                      refine z_callS (pc := 142) (st := []) (st2 := [.int (bI (isL (bA tc tn r)))]) (ws2 := [(m, .inr (4, [.ref mR, .ref mF, .ref mT, .ref mB, .ref mTp, .int (iI tn), .int (iI 1), .int (iI q), .int (iI r), .long (jI w), .int (iI (bA tc tn q)), .int gd, .ref mBo, .ref mSo, .ref mSh, .ref mLe, .ref mIm, .ref mBf, .int ik])), (mTp, .inl (cI, 120, .inl (ar tc)))]) (c_X4_isLetter l D cI cJ cB cS xa (bA tc tn r) (by omega)) mS_X4_isLetter kM_X4_175 dX4_advance_142 [] rfl rfl rfl rfl rfl rfl rfl rfl ⟨Nat.le_of_ble_eq_true rfl, Nat.le_of_ble_eq_true rfl, Nat.le_of_ble_eq_true rfl⟩ ?_
                      refine z_ifb_eq (pc := 145) (tgt := 207) dX4_advance_145 (by decide) (fun h145 => ?_) (fun h145 => ?_)
                      · skip
                        refine z_aload_n (pc := 207) dX4_advance_207 0 rfl ?_
                        refine z_get (pc := 208) (q0 := 0) (v := .int (iI 1)) fL_X4_181 dX4_advance_208 rfl rfl ?_
                        refine z_iconst (pc := 211) dX4_advance_211 ?_
                        refine z_icmp_ne (pc := 212) (tgt := 281) dX4_advance_212 (by decide) (by omega) (by omega) (fun h212 => ?_) (fun h212 => ?_)
                        · skip
                          have eS : tS tc tn p = 1 := by unfold tS; rw [eB, if_neg (by omega), if_pos h64]
                          have eV : tV tc tn p = bA tc tn q := by unfold tV; rw [if_neg (by omega), eB]
                          have eL := lnL_eq (tc := tc) (tn := tn) (b := q) (r := r) (by omega) (by omega) hl h145
                          have eE : tE tc tn p = r := by unfold tE; rw [if_neg (by omega), if_pos eS, eB, eL]; omega
                          have eW : tW tc tn p = w := by unfold tW; rw [if_pos eS, eB, eL, ← hw]
                          exact z_vret (pc := 281) dX4_advance_281 rfl (by rw [eB, eS, eE, eW, eV]; try rw [eZ])
                        · skip
                          exfalso; omega
                      · skip
                        refine z_aload_n (pc := 148) dX4_advance_148 0 rfl ?_
                        refine z_aload_n (pc := 149) dX4_advance_149 0 rfl ?_
                        refine z_get (pc := 150) (q0 := 0) (v := .int (iI r)) fL_X4_166 dX4_advance_150 rfl rfl ?_
                        refine z_aload_n (pc := 153) dX4_advance_153 0 rfl ?_
                        refine z_get (pc := 154) (q0 := 0) (v := .int (iI q)) fL_X4_169 dX4_advance_154 rfl rfl ?_
                        refine z_isub (pc := 157) dX4_advance_157 ?_
                        refine z_bipush (pc := 158) dX4_advance_158 (by decide) ?_
                        refine z_icmp_ge (pc := 160) (tgt := 188) dX4_advance_160 (by decide) (by omega) (by omega) (fun h160 => ?_) (fun h160 => ?_)
                        · skip
                          refine z_ldc2 (pc := 188) kL_X4_195 dX4_advance_188 ?_
                          refine z_st (st2 := [.long (jI (-1)), .ref m]) (by rw [show jI (-1) = (-1 : Int64) by decide]) ?_
                          refine z_put (pc := 191) (q0 := 0) (ws2 := [(m, .inr (4, [.ref mR, .ref mF, .ref mT, .ref mB, .ref mTp, .int (iI tn), .int (iI 1), .int (iI q), .int (iI r), .long (jI (-1)), .int (iI (bA tc tn q)), .int gd, .ref mBo, .ref mSo, .ref mSh, .ref mLe, .ref mIm, .ref mBf, .int ik])), (mTp, .inl (cI, 120, .inl (ar tc)))]) fP_X4_184 dX4_advance_191 rfl rfl rfl (Nat.le_of_ble_eq_true rfl) rfl ?_
                          refine z_aload_n (pc := 194) dX4_advance_194 0 rfl ?_
                          refine z_dup (pc := 195) dX4_advance_195 rfl ?_
                          refine z_get (pc := 196) (q0 := 0) (v := .int (iI r)) fL_X4_166 dX4_advance_196 rfl rfl ?_
                          refine z_iconst (pc := 199) dX4_advance_199 ?_
                          refine z_iadd (pc := 200) dX4_advance_200 ?_
                          refine z_put (pc := 201) (q0 := 0) (ws2 := [(m, .inr (4, [.ref mR, .ref mF, .ref mT, .ref mB, .ref mTp, .int (iI tn), .int (iI 1), .int (iI q), .int (iI (r + 1)), .long (jI (-1)), .int (iI (bA tc tn q)), .int gd, .ref mBo, .ref mSo, .ref mSh, .ref mLe, .ref mIm, .ref mBf, .int ik])), (mTp, .inl (cI, 120, .inl (ar tc)))]) fP_X4_166 dX4_advance_201 rfl rfl rfl (Nat.le_of_ble_eq_true rfl) rfl ?_
                          refine z_goto (pc := 204) (tgt := 126) dX4_advance_204 (by decide) ?_
                          exact ih126 (r + 1) (-1) (by omega) (sq_s (x := bA tc tn) (P := isL) hl h145) (by rw [show r + 1 - q = (r - q) + 1 by omega, whN_s _ _ _ (by omega), if_neg (by omega)]) (by omega)
                        · skip
                          refine z_ldc2 (pc := 163) kL_X4_191 dX4_advance_163 ?_
                          refine z_aload_n (pc := 166) dX4_advance_166 0 rfl ?_
                          refine z_get (pc := 167) (q0 := 0) (v := .long (jI w)) fL_X4_184 dX4_advance_167 rfl rfl ?_
                          refine z_lmul (pc := 170) dX4_advance_170 ?_
                          refine z_aload_n (pc := 171) dX4_advance_171 0 rfl ?_
                          refine z_aload_n (pc := 172) dX4_advance_172 0 rfl ?_
                          refine z_get (pc := 173) (q0 := 0) (v := .int (iI r)) fL_X4_166 dX4_advance_173 rfl rfl ?_
                          refine z_callV (pc := 176) (st := [.long (27 * (jI w)), .ref m]) (st2 := [.int (iI (bA tc tn r)), .long (27 * (jI w)), .ref m]) (ws2 := [(m, .inr (4, [.ref mR, .ref mF, .ref mT, .ref mB, .ref mTp, .int (iI tn), .int (iI 1), .int (iI q), .int (iI r), .long (jI w), .int (iI (bA tc tn q)), .int gd, .ref mBo, .ref mSo, .ref mSh, .ref mLe, .ref mIm, .ref mBf, .int ik])), (mTp, .inl (cI, 120, .inl (ar tc)))]) (q0 := 0) (c_X4_byteAt l D cI cJ cB cS xa m mR mF mT mB mTp mBo mSo mSh mLe mIm mBf tn 1 q r (bA tc tn q) (jI w) gd ik tc r (by assumption) (by omega)) mV_X4_byteAt kM_X4_172 dX4_advance_176 rfl rfl [0, 1] rfl rfl rfl rfl rfl rfl rfl rfl ⟨Nat.le_of_ble_eq_true rfl, Nat.le_of_ble_eq_true rfl, Nat.le_of_ble_eq_true rfl⟩ ?_
                          have f176_6 := bA_rng hT r
                          refine z_i2l (pc := 179) dX4_advance_179 ?_
                          refine z_ladd (pc := 180) dX4_advance_180 ?_
                          refine z_ldc2 (pc := 181) kL_X4_193 dX4_advance_181 ?_
                          refine z_lsub (pc := 184) dX4_advance_184 ?_
                          refine z_goto (pc := 185) (tgt := 191) dX4_advance_185 (by decide) ?_
                          refine z_st (st2 := [.long (jI (27 * w + bA tc tn r - 96)), .ref m]) (by rw [jI_27 (by omega)]) ?_
                          refine z_put (pc := 191) (q0 := 0) (ws2 := [(m, .inr (4, [.ref mR, .ref mF, .ref mT, .ref mB, .ref mTp, .int (iI tn), .int (iI 1), .int (iI q), .int (iI r), .long (jI (27 * w + bA tc tn r - 96)), .int (iI (bA tc tn q)), .int gd, .ref mBo, .ref mSo, .ref mSh, .ref mLe, .ref mIm, .ref mBf, .int ik])), (mTp, .inl (cI, 120, .inl (ar tc)))]) fP_X4_184 dX4_advance_191 rfl rfl rfl (Nat.le_of_ble_eq_true rfl) rfl ?_
                          refine z_aload_n (pc := 194) dX4_advance_194 0 rfl ?_
                          refine z_dup (pc := 195) dX4_advance_195 rfl ?_
                          refine z_get (pc := 196) (q0 := 0) (v := .int (iI r)) fL_X4_166 dX4_advance_196 rfl rfl ?_
                          refine z_iconst (pc := 199) dX4_advance_199 ?_
                          refine z_iadd (pc := 200) dX4_advance_200 ?_
                          refine z_put (pc := 201) (q0 := 0) (ws2 := [(m, .inr (4, [.ref mR, .ref mF, .ref mT, .ref mB, .ref mTp, .int (iI tn), .int (iI 1), .int (iI q), .int (iI (r + 1)), .long (jI (27 * w + bA tc tn r - 96)), .int (iI (bA tc tn q)), .int gd, .ref mBo, .ref mSo, .ref mSh, .ref mLe, .ref mIm, .ref mBf, .int ik])), (mTp, .inl (cI, 120, .inl (ar tc)))]) fP_X4_166 dX4_advance_201 rfl rfl rfl (Nat.le_of_ble_eq_true rfl) rfl ?_
                          refine z_goto (pc := 204) (tgt := 126) dX4_advance_204 (by decide) ?_
                          exact ih126 (r + 1) (27 * w + bA tc tn r - 96) (by omega) (sq_s (x := bA tc tn) (P := isL) hl h145) (by rw [show r + 1 - q = (r - q) + 1 by omega, whN_s _ _ _ (by omega), ← hw, if_pos (by omega), show q + (r - q) = r by omega]) (by omega)
                refine z_ws (ws2 := [(m, .inr (4, [.ref mR, .ref mF, .ref mT, .ref mB, .ref mTp, .int (iI tn), .int (iI 1), .int (iI q), .int (iI q), .long (jI 0), .int (iI (bA tc tn q)), .int gd, .ref mBo, .ref mSo, .ref mSh, .ref mLe, .ref mIm, .ref mBf, .int ik])), (mTp, .inl (cI, 120, .inl (ar tc)))]) (by rw [show jI 0 = (0 : Int64) by decide]) ?_
                refine z_lv (lv2 := [(0, .ref m), (1, .int (iI (bA tc tn q)))]) [1, 0] rfl ?_
                exact LP126 _ q 0 (by omega) (fun j h0 h1 => absurd h1 (by omega)) (by rw [show q - q = 0 by omega]; rfl) (Nat.lt_succ_self _)
              · skip
                exfalso; omega
            · skip
              exfalso; omega
        · skip
          refine z_iconst (pc := 56) dX4_advance_56 ?_
          refine z_goto (pc := 57) (tgt := 83) dX4_advance_57 (by decide) ?_
          refine z_put (pc := 83) (q0 := 0) (ws2 := [(m, .inr (4, [.ref mR, .ref mF, .ref mT, .ref mB, .ref mTp, .int (iI tn), .int (iI 0), .int (iI q), .int (iI q), .long wd, .int (iI va), .int gd, .ref mBo, .ref mSo, .ref mSh, .ref mLe, .ref mIm, .ref mBf, .int ik])), (mTp, .inl (cI, 120, .inl (ar tc)))]) fP_X4_181 dX4_advance_83 rfl rfl rfl (Nat.le_of_ble_eq_true rfl) rfl ?_
          refine z_aload_n (pc := 86) dX4_advance_86 1 rfl ?_
          refine z_lconst (pc := 87) (v := 0) dX4_advance_87 (by decide) ?_
          refine z_put (pc := 88) (q0 := 0) (ws2 := [(m, .inr (4, [.ref mR, .ref mF, .ref mT, .ref mB, .ref mTp, .int (iI tn), .int (iI 0), .int (iI q), .int (iI q), .long 0, .int (iI va), .int gd, .ref mBo, .ref mSo, .ref mSh, .ref mLe, .ref mIm, .ref mBf, .int ik])), (mTp, .inl (cI, 120, .inl (ar tc)))]) fP_X4_184 dX4_advance_88 rfl rfl rfl (Nat.le_of_ble_eq_true rfl) rfl ?_
          refine z_aload_n (pc := 91) dX4_advance_91 1 rfl ?_
          refine z_aload_n (pc := 92) dX4_advance_92 1 rfl ?_
          refine z_get (pc := 93) (q0 := 0) (v := .int (iI 0)) fL_X4_181 dX4_advance_93 rfl rfl ?_
          refine z_iconst (pc := 96) dX4_advance_96 ?_
          refine z_icmp_ne (pc := 97) (tgt := 104) dX4_advance_97 (by decide) (by omega) (by omega) (fun h97 => ?_) (fun h97 => ?_)
          · skip
            refine z_iload_n (pc := 104) dX4_advance_104 0 rfl ?_
            refine z_put (pc := 105) (q0 := 0) (ws2 := [(m, .inr (4, [.ref mR, .ref mF, .ref mT, .ref mB, .ref mTp, .int (iI tn), .int (iI 0), .int (iI q), .int (iI q), .long 0, .int (iI (bA tc tn q)), .int gd, .ref mBo, .ref mSo, .ref mSh, .ref mLe, .ref mIm, .ref mBf, .int ik])), (mTp, .inl (cI, 120, .inl (ar tc)))]) fP_X4_188 dX4_advance_105 rfl rfl rfl (Nat.le_of_ble_eq_true rfl) rfl ?_
            refine z_aload_n (pc := 108) dX4_advance_108 1 rfl ?_
            refine z_get (pc := 109) (q0 := 0) (v := .int (iI 0)) fL_X4_181 dX4_advance_109 rfl rfl ?_
            refine z_iconst (pc := 112) dX4_advance_112 ?_
            refine z_icmp_ne (pc := 113) (tgt := 126) dX4_advance_113 (by decide) (by omega) (by omega) (fun h113 => ?_) (fun h113 => ?_)
            · skip
              refine z_aload_n (pc := 126) dX4_advance_126 1 rfl ?_
              refine z_get (pc := 127) (q0 := 0) (v := .int (iI 0)) fL_X4_181 dX4_advance_127 rfl rfl ?_
              refine z_iconst (pc := 130) dX4_advance_130 ?_
              refine z_icmp_ne (pc := 131) (tgt := 207) dX4_advance_131 (by decide) (by omega) (by omega) (fun h131 => ?_) (fun h131 => ?_)
              · skip
                refine z_aload_n (pc := 207) dX4_advance_207 1 rfl ?_
                refine z_get (pc := 208) (q0 := 0) (v := .int (iI 0)) fL_X4_181 dX4_advance_208 rfl rfl ?_
                refine z_iconst (pc := 211) dX4_advance_211 ?_
                refine z_icmp_ne (pc := 212) (tgt := 281) dX4_advance_212 (by decide) (by omega) (by omega) (fun h212 => ?_) (fun h212 => ?_)
                · skip
                  have eS : tS tc tn p = 0 := by unfold tS; rw [eB, if_pos (by omega)]
                  have eE : tE tc tn p = q := by unfold tE; rw [if_pos eS, eB]
                  have eW : tW tc tn p = 0 := by unfold tW; rw [if_neg (by omega)]
                  have eV : tV tc tn p = bA tc tn q := by unfold tV; rw [if_neg (by omega), eB]
                  have eZ : jI 0 = (0 : Int64) := by decide
                  exact z_vret (pc := 281) dX4_advance_281 rfl (by rw [eB, eS, eE, eW, eV]; try rw [eZ])
                · skip
                  exfalso; omega
              · skip
                exfalso; omega
            · skip
              exfalso; omega
          · skip
            exfalso; omega
      · skip
        refine z_aload_n (pc := 21) dX4_advance_21 0 rfl ?_
        refine z_dup (pc := 22) dX4_advance_22 rfl ?_
        refine z_get (pc := 23) (q0 := 0) (v := .int (iI q)) fL_X4_169 dX4_advance_23 rfl rfl ?_
        refine z_iconst (pc := 26) dX4_advance_26 ?_
        refine z_iadd (pc := 27) dX4_advance_27 ?_
        refine z_put (pc := 28) (q0 := 0) (ws2 := [(m, .inr (4, [.ref mR, .ref mF, .ref mT, .ref mB, .ref mTp, .int (iI tn), .int (iI so), .int (iI (q + 1)), .int (iI p), .long wd, .int (iI va), .int gd, .ref mBo, .ref mSo, .ref mSh, .ref mLe, .ref mIm, .ref mBf, .int ik])), (mTp, .inl (cI, 120, .inl (ar tc)))]) fP_X4_169 dX4_advance_28 rfl rfl rfl (Nat.le_of_ble_eq_true rfl) rfl ?_
        refine z_goto (pc := 31) (tgt := 8) dX4_advance_31 (by decide) ?_
        exact ih8 (q + 1) (by omega) (bl_s hq (by omega)) (by omega)
  refine z_lv (lv2 := [(0, .ref m)]) [0] rfl ?_
  exact LP8 _ p (by omega) (fun j h0 h1 => absurd h1 (by omega)) (Nat.lt_succ_self _)
set_option maxHeartbeats 8000000 in
set_option maxRecDepth 100000 in
theorem c_X4_isWord (l : Launch) (D : va_G) (cI cJ cB cS : ClassId) (xa : XA) (m mR mF mT mB mTp mBo mSo mSh mLe mIm mBf : Nat) (tn : Int) (gd ik : Int32) (tc : FF) (p : Int) (i : Nat) (w : Int64) (hT : OkT tc tn) (hp : 0 ≤ p ∧ p ≤ tn) (hi : i < 10) (hw : w = jI (xsH.getD i 0)) : Ct l D cI cJ cB cS xa yX4_isWord cX4_isWord 3 (some .boolean) 0 0 [.ref m, .long w] [(m, .inr (4, [.ref mR, .ref mF, .ref mT, .ref mB, .ref mTp, .int (iI tn), .int (iI (tS tc tn p)), .int (iI (tB tc tn p)), .int (iI (tE tc tn p)), .long (jI (tW tc tn p)), .int (iI (tV tc tn p)), .int gd, .ref mBo, .ref mSo, .ref mSh, .ref mLe, .ref mIm, .ref mBf, .int ik]))] (some (.int (bI (kw i tc tn p)))) [(m, .inr (4, [.ref mR, .ref mF, .ref mT, .ref mB, .ref mTp, .int (iI tn), .int (iI (tS tc tn p)), .int (iI (tB tc tn p)), .int (iI (tE tc tn p)), .long (jI (tW tc tn p)), .int (iI (tV tc tn p)), .int gd, .ref mBo, .ref mSo, .ref mSh, .ref mLe, .ref mIm, .ref mBf, .int ik]))] := by
  have hT2 := hT.2
  have rs := tS_rng tc tn p
  refine CtE.of (own := RX4) (lv := [(0, .ref m), (1, .long w)]) (by decide) rfl rfl (Nat.le_of_ble_eq_true rfl) ?_
  intro xp xe xs xm xb xt xc
  refine z_aload_n (pc := 0) dX4_isWord_0 0 rfl ?_
  refine z_get (pc := 1) (q0 := 0) (v := .int (iI (tS tc tn p))) fL_X4_181 dX4_isWord_1 rfl rfl ?_
  refine z_iconst (pc := 4) dX4_isWord_4 ?_
  refine z_icmp_ne (pc := 5) (tgt := 21) dX4_isWord_5 (by decide) (by omega) (by omega) (fun h5 => ?_) (fun h5 => ?_)
  · skip
    refine z_iconst (pc := 21) dX4_isWord_21 ?_
    exact z_zret (pc := 22) (by decide) dX4_isWord_22 (congrArg (fun z => some (Value.int z)) (bI_f (by exact fun z => h5 z.1))) rfl
  · skip
    refine z_aload_n (pc := 8) dX4_isWord_8 0 rfl ?_
    refine z_get (pc := 9) (q0 := 0) (v := .long (jI (tW tc tn p))) fL_X4_184 dX4_isWord_9 rfl rfl ?_
    refine z_lload_n (pc := 12) dX4_isWord_12 1 rfl ?_
    refine z_lcmp (pc := 13) dX4_isWord_13 ?_
    refine z_ifr_ne (pc := 14) (tgt := 21) dX4_isWord_14 (by decide) (fun h14 => ?_) (fun h14 => ?_)
    · skip
      refine z_iconst (pc := 21) dX4_isWord_21 ?_
      exact z_zret (pc := 22) (by decide) dX4_isWord_22 (congrArg (fun z => some (Value.int z)) (bI_f (by exact fun z => h14 ((lg_cmp_eq _ _).mpr (by rw [hw]; exact (kw_t hi hT hp).mpr z.2))))) rfl
    · skip
      refine z_iconst (pc := 17) dX4_isWord_17 ?_
      refine z_goto (pc := 18) (tgt := 22) dX4_isWord_18 (by decide) ?_
      exact z_zret (pc := 22) (by decide) dX4_isWord_22 (congrArg (fun z => some (Value.int z)) (bI_t (by exact ⟨by omega, (kw_t hi hT hp).mp (by rw [← hw]; exact (lg_cmp_eq _ _).mp h14)⟩))) rfl
set_option maxHeartbeats 8000000 in
set_option maxRecDepth 100000 in
theorem c_X4_kindHere (l : Launch) (D : va_G) (cI cJ cB cS : ClassId) (xa : XA) (m mR mF mT mB mTp mBo mSo mSh mLe mIm mBf : Nat) (tn : Int) (gd ik : Int32) (tc : FF) (p : Int) (hT : OkT tc tn) (hp : 0 ≤ p ∧ p ≤ tn) : Ct l D cI cJ cB cS xa yX4_kindHere cX4_kindHere 1 (some .int) 1 22 [.ref m] [(m, .inr (4, [.ref mR, .ref mF, .ref mT, .ref mB, .ref mTp, .int (iI tn), .int (iI (tS tc tn p)), .int (iI (tB tc tn p)), .int (iI (tE tc tn p)), .long (jI (tW tc tn p)), .int (iI (tV tc tn p)), .int gd, .ref mBo, .ref mSo, .ref mSh, .ref mLe, .ref mIm, .ref mBf, .int ik]))] (some (.int (iI (kdT tc tn p)))) [(m, .inr (4, [.ref mR, .ref mF, .ref mT, .ref mB, .ref mTp, .int (iI tn), .int (iI (tS tc tn p)), .int (iI (tB tc tn p)), .int (iI (tE tc tn p)), .long (jI (tW tc tn p)), .int (iI (tV tc tn p)), .int gd, .ref mBo, .ref mSo, .ref mSh, .ref mLe, .ref mIm, .ref mBf, .int ik]))] := by
  have hT2 := hT.2
  refine CtE.of (own := RX4) (lv := [(0, .ref m)]) (by decide) rfl rfl (Nat.le_of_ble_eq_true rfl) ?_
  intro xp xe xs xm xb xt xc
  refine z_aload_n (pc := 0) dX4_kindHere_0 0 rfl ?_
  refine z_ldc2 (pc := 1) kL_X4_197 dX4_kindHere_1 ?_
  refine z_callV (pc := 4) (st := []) (st2 := [.int (bI (kw 7 tc tn p))]) (ws2 := [(m, .inr (4, [.ref mR, .ref mF, .ref mT, .ref mB, .ref mTp, .int (iI tn), .int (iI (tS tc tn p)), .int (iI (tB tc tn p)), .int (iI (tE tc tn p)), .long (jI (tW tc tn p)), .int (iI (tV tc tn p)), .int gd, .ref mBo, .ref mSo, .ref mSh, .ref mLe, .ref mIm, .ref mBf, .int ik]))]) (q0 := 0) (c_X4_isWord l D cI cJ cB cS xa m mR mF mT mB mTp mBo mSo mSh mLe mIm mBf tn gd ik tc p 7 1758676 (by assumption) (by omega) (by decide) (by decide)) mV_X4_isWord kM_X4_199 dX4_kindHere_4 rfl rfl [0] rfl rfl rfl rfl rfl rfl rfl rfl ⟨Nat.le_of_ble_eq_true rfl, Nat.le_of_ble_eq_true rfl, Nat.le_of_ble_eq_true rfl⟩ ?_
  refine z_ifb_eq (pc := 7) (tgt := 14) dX4_kindHere_7 (by decide) (fun h7 => ?_) (fun h7 => ?_)
  · skip
    refine z_aload_n (pc := 14) dX4_kindHere_14 0 rfl ?_
    refine z_ldc2 (pc := 15) kL_X4_203 dX4_kindHere_15 ?_
    refine z_callV (pc := 18) (st := []) (st2 := [.int (bI (kw 2 tc tn p))]) (ws2 := [(m, .inr (4, [.ref mR, .ref mF, .ref mT, .ref mB, .ref mTp, .int (iI tn), .int (iI (tS tc tn p)), .int (iI (tB tc tn p)), .int (iI (tE tc tn p)), .long (jI (tW tc tn p)), .int (iI (tV tc tn p)), .int gd, .ref mBo, .ref mSo, .ref mSh, .ref mLe, .ref mIm, .ref mBf, .int ik]))]) (q0 := 0) (c_X4_isWord l D cI cJ cB cS xa m mR mF mT mB mTp mBo mSo mSh mLe mIm mBf tn gd ik tc p 2 1708 (by assumption) (by omega) (by decide) (by decide)) mV_X4_isWord kM_X4_199 dX4_kindHere_18 rfl rfl [0] rfl rfl rfl rfl rfl rfl rfl rfl ⟨Nat.le_of_ble_eq_true rfl, Nat.le_of_ble_eq_true rfl, Nat.le_of_ble_eq_true rfl⟩ ?_
    refine z_ifb_eq (pc := 21) (tgt := 28) dX4_kindHere_21 (by decide) (fun h21 => ?_) (fun h21 => ?_)
    · skip
      refine z_aload_n (pc := 28) dX4_kindHere_28 0 rfl ?_
      refine z_ldc2 (pc := 29) kL_X4_205 dX4_kindHere_29 ?_
      refine z_callV (pc := 32) (st := []) (st2 := [.int (bI (kw 3 tc tn p))]) (ws2 := [(m, .inr (4, [.ref mR, .ref mF, .ref mT, .ref mB, .ref mTp, .int (iI tn), .int (iI (tS tc tn p)), .int (iI (tB tc tn p)), .int (iI (tE tc tn p)), .long (jI (tW tc tn p)), .int (iI (tV tc tn p)), .int gd, .ref mBo, .ref mSo, .ref mSh, .ref mLe, .ref mIm, .ref mBf, .int ik]))]) (q0 := 0) (c_X4_isWord l D cI cJ cB cS xa m mR mF mT mB mTp mBo mSo mSh mLe mIm mBf tn gd ik tc p 3 10354323 (by assumption) (by omega) (by decide) (by decide)) mV_X4_isWord kM_X4_199 dX4_kindHere_32 rfl rfl [0] rfl rfl rfl rfl rfl rfl rfl rfl ⟨Nat.le_of_ble_eq_true rfl, Nat.le_of_ble_eq_true rfl, Nat.le_of_ble_eq_true rfl⟩ ?_
      refine z_ifb_eq (pc := 35) (tgt := 42) dX4_kindHere_35 (by decide) (fun h35 => ?_) (fun h35 => ?_)
      · skip
        refine z_aload_n (pc := 42) dX4_kindHere_42 0 rfl ?_
        refine z_ldc2 (pc := 43) kL_X4_207 dX4_kindHere_43 ?_
        refine z_callV (pc := 46) (st := []) (st2 := [.int (bI (kw 4 tc tn p))]) (ws2 := [(m, .inr (4, [.ref mR, .ref mF, .ref mT, .ref mB, .ref mTp, .int (iI tn), .int (iI (tS tc tn p)), .int (iI (tB tc tn p)), .int (iI (tE tc tn p)), .long (jI (tW tc tn p)), .int (iI (tV tc tn p)), .int gd, .ref mBo, .ref mSo, .ref mSh, .ref mLe, .ref mIm, .ref mBf, .int ik]))]) (q0 := 0) (c_X4_isWord l D cI cJ cB cS xa m mR mF mT mB mTp mBo mSo mSh mLe mIm mBf tn gd ik tc p 4 223456 (by assumption) (by omega) (by decide) (by decide)) mV_X4_isWord kM_X4_199 dX4_kindHere_46 rfl rfl [0] rfl rfl rfl rfl rfl rfl rfl rfl ⟨Nat.le_of_ble_eq_true rfl, Nat.le_of_ble_eq_true rfl, Nat.le_of_ble_eq_true rfl⟩ ?_
        refine z_ifb_eq (pc := 49) (tgt := 56) dX4_kindHere_49 (by decide) (fun h49 => ?_) (fun h49 => ?_)
        · skip
          refine z_aload_n (pc := 56) dX4_kindHere_56 0 rfl ?_
          refine z_ldc2 (pc := 57) kL_X4_209 dX4_kindHere_57 ?_
          refine z_callV (pc := 60) (st := []) (st2 := [.int (bI (kw 5 tc tn p))]) (ws2 := [(m, .inr (4, [.ref mR, .ref mF, .ref mT, .ref mB, .ref mTp, .int (iI tn), .int (iI (tS tc tn p)), .int (iI (tB tc tn p)), .int (iI (tE tc tn p)), .long (jI (tW tc tn p)), .int (iI (tV tc tn p)), .int gd, .ref mBo, .ref mSo, .ref mSh, .ref mLe, .ref mIm, .ref mBf, .int ik]))]) (q0 := 0) (c_X4_isWord l D cI cJ cB cS xa m mR mF mT mB mTp mBo mSo mSh mLe mIm mBf tn gd ik tc p 5 9451634 (by assumption) (by omega) (by decide) (by decide)) mV_X4_isWord kM_X4_199 dX4_kindHere_60 rfl rfl [0] rfl rfl rfl rfl rfl rfl rfl rfl ⟨Nat.le_of_ble_eq_true rfl, Nat.le_of_ble_eq_true rfl, Nat.le_of_ble_eq_true rfl⟩ ?_
          refine z_ifb_eq (pc := 63) (tgt := 70) dX4_kindHere_63 (by decide) (fun h63 => ?_) (fun h63 => ?_)
          · skip
            refine z_aload_n (pc := 70) dX4_kindHere_70 0 rfl ?_
            refine z_ldc2 (pc := 71) kL_X4_211 dX4_kindHere_71 ?_
            refine z_callV (pc := 74) (st := []) (st2 := [.int (bI (kw 6 tc tn p))]) (ws2 := [(m, .inr (4, [.ref mR, .ref mF, .ref mT, .ref mB, .ref mTp, .int (iI tn), .int (iI (tS tc tn p)), .int (iI (tB tc tn p)), .int (iI (tE tc tn p)), .long (jI (tW tc tn p)), .int (iI (tV tc tn p)), .int gd, .ref mBo, .ref mSo, .ref mSh, .ref mLe, .ref mIm, .ref mBf, .int ik]))]) (q0 := 0) (c_X4_isWord l D cI cJ cB cS xa m mR mF mT mB mTp mBo mSo mSh mLe mIm mBf tn gd ik tc p 6 40174 (by assumption) (by omega) (by decide) (by decide)) mV_X4_isWord kM_X4_199 dX4_kindHere_74 rfl rfl [0] rfl rfl rfl rfl rfl rfl rfl rfl ⟨Nat.le_of_ble_eq_true rfl, Nat.le_of_ble_eq_true rfl, Nat.le_of_ble_eq_true rfl⟩ ?_
            refine z_ifb_eq (pc := 77) (tgt := 84) dX4_kindHere_77 (by decide) (fun h77 => ?_) (fun h77 => ?_)
            · skip
              refine z_iconst (pc := 84) dX4_kindHere_84 ?_
              exact z_iret (pc := 85) dX4_kindHere_85 (congrArg (fun z => some (Value.int (iI z))) (show (kdT tc tn p) = -1 from by unfold kdT; (repeat' split) <;> first | rfl | contradiction | omega)) rfl
            · skip
              refine z_iconst (pc := 80) dX4_kindHere_80 ?_
              refine z_goto (pc := 81) (tgt := 85) dX4_kindHere_81 (by decide) ?_
              exact z_iret (pc := 85) dX4_kindHere_85 (congrArg (fun z => some (Value.int (iI z))) (show (kdT tc tn p) = 5 from by unfold kdT; (repeat' split) <;> first | rfl | contradiction | omega)) rfl
          · skip
            refine z_iconst (pc := 66) dX4_kindHere_66 ?_
            refine z_goto (pc := 67) (tgt := 85) dX4_kindHere_67 (by decide) ?_
            exact z_iret (pc := 85) dX4_kindHere_85 (congrArg (fun z => some (Value.int (iI z))) (show (kdT tc tn p) = 4 from by unfold kdT; (repeat' split) <;> first | rfl | contradiction | omega)) rfl
        · skip
          refine z_iconst (pc := 52) dX4_kindHere_52 ?_
          refine z_goto (pc := 53) (tgt := 85) dX4_kindHere_53 (by decide) ?_
          exact z_iret (pc := 85) dX4_kindHere_85 (congrArg (fun z => some (Value.int (iI z))) (show (kdT tc tn p) = 3 from by unfold kdT; (repeat' split) <;> first | rfl | contradiction | omega)) rfl
      · skip
        refine z_iconst (pc := 38) dX4_kindHere_38 ?_
        refine z_goto (pc := 39) (tgt := 85) dX4_kindHere_39 (by decide) ?_
        exact z_iret (pc := 85) dX4_kindHere_85 (congrArg (fun z => some (Value.int (iI z))) (show (kdT tc tn p) = 2 from by unfold kdT; (repeat' split) <;> first | rfl | contradiction | omega)) rfl
    · skip
      refine z_iconst (pc := 24) dX4_kindHere_24 ?_
      refine z_goto (pc := 25) (tgt := 85) dX4_kindHere_25 (by decide) ?_
      exact z_iret (pc := 85) dX4_kindHere_85 (congrArg (fun z => some (Value.int (iI z))) (show (kdT tc tn p) = 1 from by unfold kdT; (repeat' split) <;> first | rfl | contradiction | omega)) rfl
  · skip
    refine z_iconst (pc := 10) dX4_kindHere_10 ?_
    refine z_goto (pc := 11) (tgt := 85) dX4_kindHere_11 (by decide) ?_
    exact z_iret (pc := 85) dX4_kindHere_85 (congrArg (fun z => some (Value.int (iI z))) (show (kdT tc tn p) = 0 from by unfold kdT; (repeat' split) <;> first | rfl | contradiction | omega)) rfl
set_option maxHeartbeats 8000000 in
set_option maxRecDepth 100000 in
theorem c_X4_wantNumber (l : Launch) (D : va_G) (cI cJ cB cS : ClassId) (xa : XA) (m mR mF mT mB mTp mBo mSo mSh mLe mIm mBf : Nat) (tn : Int) (ik : Int32) (tc : FF) (p a b : Int) (hT : OkT tc tn) (hp : 0 ≤ p ∧ p ≤ tn) (ra : inr a) (rb : inr b) : Ct l D cI cJ cB cS xa yX4_wantNumber cX4_wantNumber 4 (some .int) 3 63 [.ref m, .int (iI a), .int (iI b)] [(m, .inr (4, [.ref mR, .ref mF, .ref mT, .ref mB, .ref mTp, .int (iI tn), .int (iI (tS tc tn p)), .int (iI (tB tc tn p)), .int (iI (tE tc tn p)), .long (jI (tW tc tn p)), .int (iI (tV tc tn p)), .int (iI 1), .ref mBo, .ref mSo, .ref mSh, .ref mLe, .ref mIm, .ref mBf, .int ik])), (mTp, .inl (cI, 120, .inl (ar tc)))] (some (.int (iI (tV tc tn p)))) [(m, .inr (4, [.ref mR, .ref mF, .ref mT, .ref mB, .ref mTp, .int (iI tn), .int (iI (tS tc tn (nxN tc tn p a b))), .int (iI (tB tc tn (nxN tc tn p a b))), .int (iI (tE tc tn (nxN tc tn p a b))), .long (jI (tW tc tn (nxN tc tn p a b))), .int (iI (tV tc tn (nxN tc tn p a b))), .int (bI (nm tc tn p a b)), .ref mBo, .ref mSo, .ref mSh, .ref mLe, .ref mIm, .ref mBf, .int ik])), (mTp, .inl (cI, 120, .inl (ar tc)))] := by
  have hT2 := hT.2
  have tb := tB_rng hT hp
  have te_ := tE_q hT hp
  have ts := tS_rng tc tn p
  have tv := tV_rng hT hp
  refine CtE.of (own := RX4) (lv := [(0, .ref m), (1, .int (iI a)), (2, .int (iI b))]) (by decide) rfl rfl (Nat.le_of_ble_eq_true rfl) ?_
  intro xp xe xs xm xb xt xc
  refine z_aload_n (pc := 0) dX4_wantNumber_0 0 rfl ?_
  refine z_get (pc := 1) (q0 := 0) (v := .int (iI (tV tc tn p))) fL_X4_188 dX4_wantNumber_1 rfl rfl ?_
  refine z_istore_n (pc := 4) (lv2 := [(3, .int (iI (tV tc tn p))), (0, .ref m), (1, .int (iI a)), (2, .int (iI b))]) dX4_wantNumber_4 rfl (by decide) rfl ?_
  refine z_aload_n (pc := 5) dX4_wantNumber_5 1 rfl ?_
  refine z_aload_n (pc := 6) dX4_wantNumber_6 1 rfl ?_
  refine z_get (pc := 7) (q0 := 0) (v := .int (iI 1)) fL_X4_213 dX4_wantNumber_7 rfl rfl ?_
  refine z_if_eq (pc := 10) (tgt := 34) dX4_wantNumber_10 (by decide) (by omega) (fun h10 => ?_) (fun h10 => ?_)
  · skip
    exfalso; omega
  · skip
    refine z_aload_n (pc := 13) dX4_wantNumber_13 1 rfl ?_
    refine z_get (pc := 14) (q0 := 0) (v := .int (iI (tS tc tn p))) fL_X4_181 dX4_wantNumber_14 rfl rfl ?_
    refine z_iconst (pc := 17) dX4_wantNumber_17 ?_
    refine z_icmp_ne (pc := 18) (tgt := 34) dX4_wantNumber_18 (by decide) (by omega) (by omega) (fun h18 => ?_) (fun h18 => ?_)
    · skip
      refine z_iconst (pc := 34) dX4_wantNumber_34 ?_
      refine z_put (pc := 35) (q0 := 0) (ws2 := [(m, .inr (4, [.ref mR, .ref mF, .ref mT, .ref mB, .ref mTp, .int (iI tn), .int (iI (tS tc tn p)), .int (iI (tB tc tn p)), .int (iI (tE tc tn p)), .long (jI (tW tc tn p)), .int (iI (tV tc tn p)), .int (iI 0), .ref mBo, .ref mSo, .ref mSh, .ref mLe, .ref mIm, .ref mBf, .int ik])), (mTp, .inl (cI, 120, .inl (ar tc)))]) fP_X4_213 dX4_wantNumber_35 rfl (by decide) (by decide) (Nat.le_of_ble_eq_true rfl) rfl ?_
      refine z_aload_n (pc := 38) dX4_wantNumber_38 1 rfl ?_
      refine z_get (pc := 39) (q0 := 0) (v := .int (iI 0)) fL_X4_213 dX4_wantNumber_39 rfl rfl ?_
      refine z_if_eq (pc := 42) (tgt := 49) dX4_wantNumber_42 (by decide) (by omega) (fun h42 => ?_) (fun h42 => ?_)
      · skip
        refine z_iload_n (pc := 49) dX4_wantNumber_49 0 rfl ?_
        exact z_iret (pc := 50) dX4_wantNumber_50 rfl (by rw [show nxN tc tn p a b = p from if_neg (fun z => h18 z.1), bI_f (show ¬ nm tc tn p a b from fun z => h18 z.1)])
      · skip
        exfalso; omega
    · skip
      refine z_iload_n (pc := 21) dX4_wantNumber_21 0 rfl ?_
      refine z_iload_n (pc := 22) dX4_wantNumber_22 2 rfl ?_
      refine z_iload_n (pc := 23) dX4_wantNumber_23 3 rfl ?_
      refine z_callS (pc := 24) (st := [.ref m]) (st2 := [.int (bI (a ≤ (tV tc tn p) ∧ (tV tc tn p) ≤ b)), .ref m]) (ws2 := [(m, .inr (4, [.ref mR, .ref mF, .ref mT, .ref mB, .ref mTp, .int (iI tn), .int (iI (tS tc tn p)), .int (iI (tB tc tn p)), .int (iI (tE tc tn p)), .long (jI (tW tc tn p)), .int (iI (tV tc tn p)), .int (iI 1), .ref mBo, .ref mSo, .ref mSh, .ref mLe, .ref mIm, .ref mBf, .int ik])), (mTp, .inl (cI, 120, .inl (ar tc)))]) (c_X4_in l D cI cJ cB cS xa (tV tc tn p) a b (by omega) (by omega) (by omega)) mS_X4_in kM_X4_45 dX4_wantNumber_24 [] rfl rfl rfl rfl rfl rfl rfl rfl ⟨Nat.le_of_ble_eq_true rfl, Nat.le_of_ble_eq_true rfl, Nat.le_of_ble_eq_true rfl⟩ ?_
      refine z_ifb_eq (pc := 27) (tgt := 34) dX4_wantNumber_27 (by decide) (fun h27 => ?_) (fun h27 => ?_)
      · skip
        refine z_iconst (pc := 34) dX4_wantNumber_34 ?_
        refine z_put (pc := 35) (q0 := 0) (ws2 := [(m, .inr (4, [.ref mR, .ref mF, .ref mT, .ref mB, .ref mTp, .int (iI tn), .int (iI (tS tc tn p)), .int (iI (tB tc tn p)), .int (iI (tE tc tn p)), .long (jI (tW tc tn p)), .int (iI (tV tc tn p)), .int (iI 0), .ref mBo, .ref mSo, .ref mSh, .ref mLe, .ref mIm, .ref mBf, .int ik])), (mTp, .inl (cI, 120, .inl (ar tc)))]) fP_X4_213 dX4_wantNumber_35 rfl (by decide) (by decide) (Nat.le_of_ble_eq_true rfl) rfl ?_
        refine z_aload_n (pc := 38) dX4_wantNumber_38 1 rfl ?_
        refine z_get (pc := 39) (q0 := 0) (v := .int (iI 0)) fL_X4_213 dX4_wantNumber_39 rfl rfl ?_
        refine z_if_eq (pc := 42) (tgt := 49) dX4_wantNumber_42 (by decide) (by omega) (fun h42 => ?_) (fun h42 => ?_)
        · skip
          refine z_iload_n (pc := 49) dX4_wantNumber_49 0 rfl ?_
          exact z_iret (pc := 50) dX4_wantNumber_50 rfl (by rw [show nxN tc tn p a b = p from if_neg (fun z => h27 z.2), bI_f (show ¬ nm tc tn p a b from fun z => h27 z.2)])
        · skip
          exfalso; omega
      · skip
        refine z_iconst (pc := 30) dX4_wantNumber_30 ?_
        refine z_goto (pc := 31) (tgt := 35) dX4_wantNumber_31 (by decide) ?_
        refine z_put (pc := 35) (q0 := 0) (ws2 := [(m, .inr (4, [.ref mR, .ref mF, .ref mT, .ref mB, .ref mTp, .int (iI tn), .int (iI (tS tc tn p)), .int (iI (tB tc tn p)), .int (iI (tE tc tn p)), .long (jI (tW tc tn p)), .int (iI (tV tc tn p)), .int (iI 1), .ref mBo, .ref mSo, .ref mSh, .ref mLe, .ref mIm, .ref mBf, .int ik])), (mTp, .inl (cI, 120, .inl (ar tc)))]) fP_X4_213 dX4_wantNumber_35 rfl (by decide) (by decide) (Nat.le_of_ble_eq_true rfl) rfl ?_
        refine z_aload_n (pc := 38) dX4_wantNumber_38 1 rfl ?_
        refine z_get (pc := 39) (q0 := 0) (v := .int (iI 1)) fL_X4_213 dX4_wantNumber_39 rfl rfl ?_
        refine z_if_eq (pc := 42) (tgt := 49) dX4_wantNumber_42 (by decide) (by omega) (fun h42 => ?_) (fun h42 => ?_)
        · skip
          exfalso; omega
        · skip
          refine z_aload_n (pc := 45) dX4_wantNumber_45 1 rfl ?_
          refine z_callV (pc := 46) (st := []) (st2 := []) (ws2 := [(m, .inr (4, [.ref mR, .ref mF, .ref mT, .ref mB, .ref mTp, .int (iI tn), .int (iI (tS tc tn (tE tc tn p))), .int (iI (tB tc tn (tE tc tn p))), .int (iI (tE tc tn (tE tc tn p))), .long (jI (tW tc tn (tE tc tn p))), .int (iI (tV tc tn (tE tc tn p))), .int (iI 1), .ref mBo, .ref mSo, .ref mSh, .ref mLe, .ref mIm, .ref mBf, .int ik])), (mTp, .inl (cI, 120, .inl (ar tc)))]) (q0 := 0) (c_X4_advance l D cI cJ cB cS xa m mR mF mT mB mTp mBo mSo mSh mLe mIm mBf tn (tS tc tn p) (tB tc tn p) (tV tc tn p) (jI (tW tc tn p)) (iI 1) ik tc (tE tc tn p) (by assumption) (by omega)) mV_X4_advance kM_X4_217 dX4_wantNumber_46 rfl rfl [0, 1] rfl rfl rfl rfl rfl rfl rfl rfl ⟨Nat.le_of_ble_eq_true rfl, Nat.le_of_ble_eq_true rfl, Nat.le_of_ble_eq_true rfl⟩ ?_
          have f46_1 := tB_rng hT (show 0 ≤ (tE tc tn p) ∧ (tE tc tn p) ≤ tn by omega)
          have f46_2 := tE_q hT (show 0 ≤ (tE tc tn p) ∧ (tE tc tn p) ≤ tn by omega)
          have f46_3 := tS_rng tc tn (tE tc tn p)
          have f46_4 := tV_rng hT (show 0 ≤ (tE tc tn p) ∧ (tE tc tn p) ≤ tn by omega)
          refine z_iload_n (pc := 49) dX4_wantNumber_49 0 rfl ?_
          exact z_iret (pc := 50) dX4_wantNumber_50 rfl (by rw [show nxN tc tn p a b = tE tc tn p from if_pos ⟨by omega, h27⟩, bI_t (show nm tc tn p a b from ⟨by omega, h27⟩)])
set_option maxHeartbeats 8000000 in
set_option maxRecDepth 100000 in
theorem c_X4_mayWant (l : Launch) (D : va_G) (cI cJ cB cS : ClassId) (xa : XA) (m mR mF mT mB mTp mBo mSo mSh mLe mIm mBf : Nat) (tn : Int) (ik : Int32) (tc : FF) (p a b d : Int) (i : Nat) (w : Int64) (hT : OkT tc tn) (hp : 0 ≤ p ∧ p ≤ tn) (hi : i < 10) (hw : w = jI (xsH.getD i 0)) (ha : a = 0) (rb : inr b) : Ct l D cI cJ cB cS xa yX4_mayWant cX4_mayWant 6 (some .int) 4 86 [.ref m, .long w, .int (iI a), .int (iI b), .int (iI d)] [(m, .inr (4, [.ref mR, .ref mF, .ref mT, .ref mB, .ref mTp, .int (iI tn), .int (iI (tS tc tn p)), .int (iI (tB tc tn p)), .int (iI (tE tc tn p)), .long (jI (tW tc tn p)), .int (iI (tV tc tn p)), .int (iI 1), .ref mBo, .ref mSo, .ref mSh, .ref mLe, .ref mIm, .ref mBf, .int ik])), (mTp, .inl (cI, 120, .inl (ar tc)))] (some (.int (iI (if kw i tc tn p then tV tc tn (tE tc tn p) else d)))) [(m, .inr (4, [.ref mR, .ref mF, .ref mT, .ref mB, .ref mTp, .int (iI tn), .int (iI (tS tc tn ((ptT i tc tn b d p).2.1))), .int (iI (tB tc tn ((ptT i tc tn b d p).2.1))), .int (iI (tE tc tn ((ptT i tc tn b d p).2.1))), .long (jI (tW tc tn ((ptT i tc tn b d p).2.1))), .int (iI (tV tc tn ((ptT i tc tn b d p).2.1))), .int (bI ((ptT i tc tn b d p).1 = 1)), .ref mBo, .ref mSo, .ref mSh, .ref mLe, .ref mIm, .ref mBf, .int ik])), (mTp, .inl (cI, 120, .inl (ar tc)))] := by
  have hT2 := hT.2
  have tb := tB_rng hT hp
  have te_ := tE_q hT hp
  have ts := tS_rng tc tn p
  have tv := tV_rng hT hp
  refine CtE.of (own := RX4) (lv := [(0, .ref m), (1, .long w), (3, .int (iI a)), (4, .int (iI b)), (5, .int (iI d))]) (by decide) rfl rfl (Nat.le_of_ble_eq_true rfl) ?_
  intro xp xe xs xm xb xt xc
  refine z_aload_n (pc := 0) dX4_mayWant_0 0 rfl ?_
  refine z_get (pc := 1) (q0 := 0) (v := .int (iI 1)) fL_X4_213 dX4_mayWant_1 rfl rfl ?_
  refine z_if_eq (pc := 4) (tgt := 15) dX4_mayWant_4 (by decide) (by omega) (fun h4 => ?_) (fun h4 => ?_)
  · skip
    exfalso; omega
  · skip
    refine z_aload_n (pc := 7) dX4_mayWant_7 0 rfl ?_
    refine z_lload_n (pc := 8) dX4_mayWant_8 1 rfl ?_
    refine z_callV (pc := 9) (st := []) (st2 := [.int (bI (kw i tc tn p))]) (ws2 := [(m, .inr (4, [.ref mR, .ref mF, .ref mT, .ref mB, .ref mTp, .int (iI tn), .int (iI (tS tc tn p)), .int (iI (tB tc tn p)), .int (iI (tE tc tn p)), .long (jI (tW tc tn p)), .int (iI (tV tc tn p)), .int (iI 1), .ref mBo, .ref mSo, .ref mSh, .ref mLe, .ref mIm, .ref mBf, .int ik])), (mTp, .inl (cI, 120, .inl (ar tc)))]) (q0 := 0) (c_X4_isWord l D cI cJ cB cS xa m mR mF mT mB mTp mBo mSo mSh mLe mIm mBf tn (iI 1) ik tc p i w (by assumption) (by omega) (hi) (hw)) mV_X4_isWord kM_X4_199 dX4_mayWant_9 rfl rfl [0] rfl rfl rfl rfl rfl rfl rfl rfl ⟨Nat.le_of_ble_eq_true rfl, Nat.le_of_ble_eq_true rfl, Nat.le_of_ble_eq_true rfl⟩ ?_
    refine z_ifb_ne (pc := 12) (tgt := 18) dX4_mayWant_12 (by decide) (fun h12 => ?_) (fun h12 => ?_)
    · skip
      refine z_aload_n (pc := 18) dX4_mayWant_18 0 rfl ?_
      refine z_callV (pc := 19) (st := []) (st2 := []) (ws2 := [(m, .inr (4, [.ref mR, .ref mF, .ref mT, .ref mB, .ref mTp, .int (iI tn), .int (iI (tS tc tn (tE tc tn p))), .int (iI (tB tc tn (tE tc tn p))), .int (iI (tE tc tn (tE tc tn p))), .long (jI (tW tc tn (tE tc tn p))), .int (iI (tV tc tn (tE tc tn p))), .int (iI 1), .ref mBo, .ref mSo, .ref mSh, .ref mLe, .ref mIm, .ref mBf, .int ik])), (mTp, .inl (cI, 120, .inl (ar tc)))]) (q0 := 0) (c_X4_advance l D cI cJ cB cS xa m mR mF mT mB mTp mBo mSo mSh mLe mIm mBf tn (tS tc tn p) (tB tc tn p) (tV tc tn p) (jI (tW tc tn p)) (iI 1) ik tc (tE tc tn p) (by assumption) (by omega)) mV_X4_advance kM_X4_217 dX4_mayWant_19 rfl rfl [0, 1] rfl rfl rfl rfl rfl rfl rfl rfl ⟨Nat.le_of_ble_eq_true rfl, Nat.le_of_ble_eq_true rfl, Nat.le_of_ble_eq_true rfl⟩ ?_
      have f19_1 := tB_rng hT (show 0 ≤ (tE tc tn p) ∧ (tE tc tn p) ≤ tn by omega)
      have f19_2 := tE_q hT (show 0 ≤ (tE tc tn p) ∧ (tE tc tn p) ≤ tn by omega)
      have f19_3 := tS_rng tc tn (tE tc tn p)
      have f19_4 := tV_rng hT (show 0 ≤ (tE tc tn p) ∧ (tE tc tn p) ≤ tn by omega)
      refine z_aload_n (pc := 22) dX4_mayWant_22 0 rfl ?_
      refine z_iload_n (pc := 23) dX4_mayWant_23 2 rfl ?_
      refine z_iload (pc := 24) dX4_mayWant_24 3 rfl ?_
      refine z_callV (pc := 26) (st := []) (st2 := [.int (iI (tV tc tn (tE tc tn p)))]) (ws2 := [(m, .inr (4, [.ref mR, .ref mF, .ref mT, .ref mB, .ref mTp, .int (iI tn), .int (iI (tS tc tn (nxN tc tn (tE tc tn p) a b))), .int (iI (tB tc tn (nxN tc tn (tE tc tn p) a b))), .int (iI (tE tc tn (nxN tc tn (tE tc tn p) a b))), .long (jI (tW tc tn (nxN tc tn (tE tc tn p) a b))), .int (iI (tV tc tn (nxN tc tn (tE tc tn p) a b))), .int (bI (nm tc tn (tE tc tn p) a b)), .ref mBo, .ref mSo, .ref mSh, .ref mLe, .ref mIm, .ref mBf, .int ik])), (mTp, .inl (cI, 120, .inl (ar tc)))]) (q0 := 0) (c_X4_wantNumber l D cI cJ cB cS xa m mR mF mT mB mTp mBo mSo mSh mLe mIm mBf tn ik tc (tE tc tn p) a b (by assumption) (by omega) (by omega) (by omega)) mV_X4_wantNumber kM_X4_220 dX4_mayWant_26 rfl rfl [0, 1] rfl rfl rfl rfl rfl rfl rfl rfl ⟨Nat.le_of_ble_eq_true rfl, Nat.le_of_ble_eq_true rfl, Nat.le_of_ble_eq_true rfl⟩ ?_
      have e1 : ptT i tc tn b d p = (if nm tc tn (tE tc tn p) 0 b then (1, tE tc tn (tE tc tn p), tV tc tn (tE tc tn p)) else (0, tE tc tn p, 0)) := by unfold ptT; rw [if_pos h12]
      have e2 : (ptT i tc tn b d p).2.1 = nxN tc tn (tE tc tn p) a b ∧ ((ptT i tc tn b d p).1 = 1 ↔ nm tc tn (tE tc tn p) a b) := by
        rw [e1, ha]
        by_cases z : nm tc tn (tE tc tn p) 0 b
        · rw [if_pos z, show nxN tc tn (tE tc tn p) 0 b = tE tc tn (tE tc tn p) from if_pos z]; exact ⟨rfl, fun _ => z, fun _ => rfl⟩
        · rw [if_neg z, show nxN tc tn (tE tc tn p) 0 b = tE tc tn p from if_neg z]; exact ⟨rfl, fun y => absurd y (by show ¬ ((0 : Int) = 1); decide), fun y => absurd y z⟩
      exact z_iret (pc := 29) dX4_mayWant_29 (congrArg (fun z => some (Value.int (iI z))) (show (if kw i tc tn p then tV tc tn (tE tc tn p) else d) = tV tc tn (tE tc tn p) from by rw [if_pos h12])) (by rw [e2.1, bI_c e2.2])
    · skip
      have e1 : ptT i tc tn b d p = (1, p, d) := by unfold ptT; rw [if_neg h12]
      refine z_iload (pc := 15) dX4_mayWant_15 4 rfl ?_
      exact z_iret (pc := 17) dX4_mayWant_17 (congrArg (fun z => some (Value.int (iI z))) (show (if kw i tc tn p then tV tc tn (tE tc tn p) else d) = d from by rw [if_neg h12])) (by rw [e1, bI_t (show (1 : Int) = 1 from rfl)])
set_option maxHeartbeats 8000000 in
set_option maxRecDepth 100000 in
theorem c_X4_mayWant_n (l : Launch) (D : va_G) (cI cJ cB cS : ClassId) (xa : XA) (m mR mF mT mB mTp mBo mSo mSh mLe mIm mBf : Nat) (tn : Int) (ik : Int32) (tc : FF) (p a b d : Int) (w : Int64)  : Ct l D cI cJ cB cS xa yX4_mayWant cX4_mayWant 6 (some .int) 0 0 [.ref m, .long w, .int (iI a), .int (iI b), .int (iI d)] [(m, .inr (4, [.ref mR, .ref mF, .ref mT, .ref mB, .ref mTp, .int (iI tn), .int (iI (tS tc tn p)), .int (iI (tB tc tn p)), .int (iI (tE tc tn p)), .long (jI (tW tc tn p)), .int (iI (tV tc tn p)), .int (iI 0), .ref mBo, .ref mSo, .ref mSh, .ref mLe, .ref mIm, .ref mBf, .int ik])), (mTp, .inl (cI, 120, .inl (ar tc)))] (some (.int (iI d))) [(m, .inr (4, [.ref mR, .ref mF, .ref mT, .ref mB, .ref mTp, .int (iI tn), .int (iI (tS tc tn p)), .int (iI (tB tc tn p)), .int (iI (tE tc tn p)), .long (jI (tW tc tn p)), .int (iI (tV tc tn p)), .int (iI 0), .ref mBo, .ref mSo, .ref mSh, .ref mLe, .ref mIm, .ref mBf, .int ik])), (mTp, .inl (cI, 120, .inl (ar tc)))] := by
  refine CtE.of (own := RX4) (lv := [(0, .ref m), (1, .long w), (3, .int (iI a)), (4, .int (iI b)), (5, .int (iI d))]) (by decide) rfl rfl (Nat.le_of_ble_eq_true rfl) ?_
  intro xp xe xs xm xb xt xc
  refine z_aload_n (pc := 0) dX4_mayWant_0 0 rfl ?_
  refine z_get (pc := 1) (q0 := 0) (v := .int (iI 0)) fL_X4_213 dX4_mayWant_1 rfl rfl ?_
  refine z_if_eq (pc := 4) (tgt := 15) dX4_mayWant_4 (by decide) (by omega) (fun h4 => ?_) (fun h4 => ?_)
  · skip
    refine z_iload (pc := 15) dX4_mayWant_15 4 rfl ?_
    exact z_iret (pc := 17) dX4_mayWant_17 rfl rfl
  · skip
    exfalso; omega
set_option maxHeartbeats 8000000 in
set_option maxRecDepth 100000 in
theorem c_X4_wantOne (l : Launch) (D : va_G) (cI cJ cB cS : ClassId) (xa : XA) (m mR mF mT mB mTp mBo mSo mSh mLe mIm mBf : Nat) (tn : Int) (ik : Int32) (g : Gd) (tc : FF) (p k : Int) (ok : Ok g) (hT : OkT tc tn) (hp : 0 ≤ p ∧ p ≤ tn) (hk : k = kdT tc tn p) (hk0 : 0 ≤ k ∧ k ≤ 5) : Ct l D cI cJ cB cS xa yX4_wantOne cX4_wantOne 4 none 5 111 [.ref m, .int (iI k)] [(m, .inr (4, [.ref mR, .ref mF, .ref mT, .ref mB, .ref mTp, .int (iI tn), .int (iI (tS tc tn p)), .int (iI (tB tc tn p)), .int (iI (tE tc tn p)), .long (jI (tW tc tn p)), .int (iI (tV tc tn p)), .int (iI 1), .ref mBo, .ref mSo, .ref mSh, .ref mLe, .ref mIm, .ref mBf, .int ik])), (mR, .inl (cI, 35, .inl (rowA g))), (mTp, .inl (cI, 120, .inl (ar tc)))] none [(m, .inr (4, [.ref mR, .ref mF, .ref mT, .ref mB, .ref mTp, .int (iI tn), .int (iI (tS tc tn ((itC tc tn p g).2.1))), .int (iI (tB tc tn ((itC tc tn p g).2.1))), .int (iI (tE tc tn ((itC tc tn p g).2.1))), .long (jI (tW tc tn ((itC tc tn p g).2.1))), .int (iI (tV tc tn ((itC tc tn p g).2.1))), .int (bI ((itC tc tn p g).1 = 1)), .ref mBo, .ref mSo, .ref mSh, .ref mLe, .ref mIm, .ref mBf, .int ik])), (mR, .inl (cI, 35, .inl (rowA ((itC tc tn p g).2.2)))), (mTp, .inl (cI, 120, .inl (ar tc)))] := by
  have hT2 := hT.2
  have tb := tB_rng hT hp
  have te_ := tE_q hT hp
  have ts := tS_rng tc tn p
  have tv := tV_rng hT hp
  have o0 := ok0 ok
  have o1 := ok1 ok
  have o2 := ok2 ok
  refine CtE.of (own := RX4) (lv := [(0, .ref m), (1, .int (iI k))]) (by decide) rfl rfl (Nat.le_of_ble_eq_true rfl) ?_
  intro xp xe xs xm xb xt xc
  refine z_aload_n (pc := 0) dX4_wantOne_0 0 rfl ?_
  refine z_aload_n (pc := 1) dX4_wantOne_1 0 rfl ?_
  refine z_get (pc := 2) (q0 := 0) (v := .ref mR) fL_X4_7 dX4_wantOne_2 rfl rfl ?_
  refine z_iconst (pc := 5) dX4_wantOne_5 ?_
  refine z_iald (pc := 6) (q0 := 1) (v := (iI (g 4 2))) dX4_wantOne_6 rfl (by omega) (by decide) (rowA_4 (by decide) (by decide)) ?_
  refine z_bipush (pc := 7) dX4_wantOne_7 (by decide) ?_
  refine z_icmp_ge (pc := 9) (tgt := 16) dX4_wantOne_9 (by decide) (by omega) (by omega) (fun h9 => ?_) (fun h9 => ?_)
  · skip
    have eI : itC tc tn p g = (0, p, g) := by unfold itC; rw [if_neg (by omega)]
    refine z_iconst (pc := 16) dX4_wantOne_16 ?_
    refine z_put (pc := 17) (q0 := 0) (ws2 := [(m, .inr (4, [.ref mR, .ref mF, .ref mT, .ref mB, .ref mTp, .int (iI tn), .int (iI (tS tc tn p)), .int (iI (tB tc tn p)), .int (iI (tE tc tn p)), .long (jI (tW tc tn p)), .int (iI (tV tc tn p)), .int (iI 0), .ref mBo, .ref mSo, .ref mSh, .ref mLe, .ref mIm, .ref mBf, .int ik])), (mR, .inl (cI, 35, .inl (rowA g))), (mTp, .inl (cI, 120, .inl (ar tc)))]) fP_X4_213 dX4_wantOne_17 rfl (by decide) (by decide) (Nat.le_of_ble_eq_true rfl) rfl ?_
    refine z_aload_n (pc := 20) dX4_wantOne_20 0 rfl ?_
    refine z_get (pc := 21) (q0 := 0) (v := .int (iI 0)) fL_X4_213 dX4_wantOne_21 rfl rfl ?_
    refine z_if_ne (pc := 24) (tgt := 28) dX4_wantOne_24 (by decide) (by omega) (fun h24 => ?_) (fun h24 => ?_)
    · skip
      exfalso; omega
    · skip
      exact z_vret (pc := 27) dX4_wantOne_27 rfl (by rw [eI, bI_f (show ¬ (0 : Int) = 1 by decide)])
  · skip
    refine z_iconst (pc := 12) dX4_wantOne_12 ?_
    refine z_goto (pc := 13) (tgt := 17) dX4_wantOne_13 (by decide) ?_
    refine z_put (pc := 17) (q0 := 0) (ws2 := [(m, .inr (4, [.ref mR, .ref mF, .ref mT, .ref mB, .ref mTp, .int (iI tn), .int (iI (tS tc tn p)), .int (iI (tB tc tn p)), .int (iI (tE tc tn p)), .long (jI (tW tc tn p)), .int (iI (tV tc tn p)), .int (iI 1), .ref mBo, .ref mSo, .ref mSh, .ref mLe, .ref mIm, .ref mBf, .int ik])), (mR, .inl (cI, 35, .inl (rowA g))), (mTp, .inl (cI, 120, .inl (ar tc)))]) fP_X4_213 dX4_wantOne_17 rfl (by decide) (by decide) (Nat.le_of_ble_eq_true rfl) rfl ?_
    refine z_aload_n (pc := 20) dX4_wantOne_20 0 rfl ?_
    refine z_get (pc := 21) (q0 := 0) (v := .int (iI 1)) fL_X4_213 dX4_wantOne_21 rfl rfl ?_
    refine z_if_ne (pc := 24) (tgt := 28) dX4_wantOne_24 (by decide) (by omega) (fun h24 => ?_) (fun h24 => ?_)
    · skip
      refine z_aload_n (pc := 28) dX4_wantOne_28 0 rfl ?_
      refine z_callV (pc := 29) (st := []) (st2 := []) (ws2 := [(m, .inr (4, [.ref mR, .ref mF, .ref mT, .ref mB, .ref mTp, .int (iI tn), .int (iI (tS tc tn (tE tc tn p))), .int (iI (tB tc tn (tE tc tn p))), .int (iI (tE tc tn (tE tc tn p))), .long (jI (tW tc tn (tE tc tn p))), .int (iI (tV tc tn (tE tc tn p))), .int (iI 1), .ref mBo, .ref mSo, .ref mSh, .ref mLe, .ref mIm, .ref mBf, .int ik])), (mR, .inl (cI, 35, .inl (rowA g))), (mTp, .inl (cI, 120, .inl (ar tc)))]) (q0 := 0) (c_X4_advance l D cI cJ cB cS xa m mR mF mT mB mTp mBo mSo mSh mLe mIm mBf tn (tS tc tn p) (tB tc tn p) (tV tc tn p) (jI (tW tc tn p)) (iI 1) ik tc (tE tc tn p) (by assumption) (by omega)) mV_X4_advance kM_X4_217 dX4_wantOne_29 rfl rfl [0, 2] rfl rfl rfl rfl rfl rfl rfl rfl ⟨Nat.le_of_ble_eq_true rfl, Nat.le_of_ble_eq_true rfl, Nat.le_of_ble_eq_true rfl⟩ ?_
      have f29_1 := tB_rng hT (show 0 ≤ (tE tc tn p) ∧ (tE tc tn p) ≤ tn by omega)
      have f29_2 := tE_q hT (show 0 ≤ (tE tc tn p) ∧ (tE tc tn p) ≤ tn by omega)
      have f29_3 := tS_rng tc tn (tE tc tn p)
      have f29_4 := tV_rng hT (show 0 ≤ (tE tc tn p) ∧ (tE tc tn p) ≤ tn by omega)
      refine z_aload_n (pc := 32) dX4_wantOne_32 0 rfl ?_
      refine z_ldc2 (pc := 33) kL_X4_223 dX4_wantOne_33 ?_
      refine z_iconst (pc := 36) dX4_wantOne_36 ?_
      refine z_sipush (pc := 37) dX4_wantOne_37 (by decide) ?_
      refine z_bipush (pc := 40) dX4_wantOne_40 (by decide) ?_
      refine z_callV (pc := 42) (st := []) (st2 := [.int (iI (if kw 8 tc tn (tE tc tn p) then tV tc tn (tE tc tn (tE tc tn p)) else 50))]) (ws2 := [(m, .inr (4, [.ref mR, .ref mF, .ref mT, .ref mB, .ref mTp, .int (iI tn), .int (iI (tS tc tn ((ptT 8 tc tn 200 50 (tE tc tn p)).2.1))), .int (iI (tB tc tn ((ptT 8 tc tn 200 50 (tE tc tn p)).2.1))), .int (iI (tE tc tn ((ptT 8 tc tn 200 50 (tE tc tn p)).2.1))), .long (jI (tW tc tn ((ptT 8 tc tn 200 50 (tE tc tn p)).2.1))), .int (iI (tV tc tn ((ptT 8 tc tn 200 50 (tE tc tn p)).2.1))), .int (bI ((ptT 8 tc tn 200 50 (tE tc tn p)).1 = 1)), .ref mBo, .ref mSo, .ref mSh, .ref mLe, .ref mIm, .ref mBf, .int ik])), (mR, .inl (cI, 35, .inl (rowA g))), (mTp, .inl (cI, 120, .inl (ar tc)))]) (q0 := 0) (c_X4_mayWant l D cI cJ cB cS xa m mR mF mT mB mTp mBo mSo mSh mLe mIm mBf tn ik tc (tE tc tn p) 0 200 50 8 164222 (by assumption) (by omega) (by decide) (by decide) (by rfl) (by omega)) mV_X4_mayWant kM_X4_225 dX4_wantOne_42 rfl rfl [0, 2] rfl rfl rfl rfl rfl rfl rfl rfl ⟨Nat.le_of_ble_eq_true rfl, Nat.le_of_ble_eq_true rfl, Nat.le_of_ble_eq_true rfl⟩ ?_
      by_cases hA : (ptT 8 tc tn 200 50 (tE tc tn p)).1 = 1
      · skip
        refine z_ws (ws2 := [(m, .inr (4, [.ref mR, .ref mF, .ref mT, .ref mB, .ref mTp, .int (iI tn), .int (iI (tS tc tn ((ptT 8 tc tn 200 50 (tE tc tn p)).2.1))), .int (iI (tB tc tn ((ptT 8 tc tn 200 50 (tE tc tn p)).2.1))), .int (iI (tE tc tn ((ptT 8 tc tn 200 50 (tE tc tn p)).2.1))), .long (jI (tW tc tn ((ptT 8 tc tn 200 50 (tE tc tn p)).2.1))), .int (iI (tV tc tn ((ptT 8 tc tn 200 50 (tE tc tn p)).2.1))), .int (iI 1), .ref mBo, .ref mSo, .ref mSh, .ref mLe, .ref mIm, .ref mBf, .int ik])), (mR, .inl (cI, 35, .inl (rowA g))), (mTp, .inl (cI, 120, .inl (ar tc)))]) (by rw [bI_t hA]) ?_
        have rA := (ptT_rng (i := 8) (b := 200) (d := 50) hT (q := tE tc tn p) ⟨te_.2.1, te_.2.2.1⟩ (by decide))
        refine z_istore_n (pc := 45) (lv2 := [(2, .int (iI (if kw 8 tc tn (tE tc tn p) then tV tc tn (tE tc tn (tE tc tn p)) else 50))), (0, .ref m), (1, .int (iI k))]) dX4_wantOne_45 rfl (by decide) rfl ?_
        refine z_aload_n (pc := 46) dX4_wantOne_46 1 rfl ?_
        refine z_ldc2 (pc := 47) kL_X4_229 dX4_wantOne_47 ?_
        refine z_iconst (pc := 50) dX4_wantOne_50 ?_
        refine z_bipush (pc := 51) dX4_wantOne_51 (by decide) ?_
        refine z_iconst (pc := 53) dX4_wantOne_53 ?_
        refine z_callV (pc := 54) (st := []) (st2 := [.int (iI (if kw 9 tc tn ((ptT 8 tc tn 200 50 (tE tc tn p)).2.1) then tV tc tn (tE tc tn ((ptT 8 tc tn 200 50 (tE tc tn p)).2.1)) else 5))]) (ws2 := [(m, .inr (4, [.ref mR, .ref mF, .ref mT, .ref mB, .ref mTp, .int (iI tn), .int (iI (tS tc tn ((ptT 9 tc tn 99 5 ((ptT 8 tc tn 200 50 (tE tc tn p)).2.1)).2.1))), .int (iI (tB tc tn ((ptT 9 tc tn 99 5 ((ptT 8 tc tn 200 50 (tE tc tn p)).2.1)).2.1))), .int (iI (tE tc tn ((ptT 9 tc tn 99 5 ((ptT 8 tc tn 200 50 (tE tc tn p)).2.1)).2.1))), .long (jI (tW tc tn ((ptT 9 tc tn 99 5 ((ptT 8 tc tn 200 50 (tE tc tn p)).2.1)).2.1))), .int (iI (tV tc tn ((ptT 9 tc tn 99 5 ((ptT 8 tc tn 200 50 (tE tc tn p)).2.1)).2.1))), .int (bI ((ptT 9 tc tn 99 5 ((ptT 8 tc tn 200 50 (tE tc tn p)).2.1)).1 = 1)), .ref mBo, .ref mSo, .ref mSh, .ref mLe, .ref mIm, .ref mBf, .int ik])), (mR, .inl (cI, 35, .inl (rowA g))), (mTp, .inl (cI, 120, .inl (ar tc)))]) (q0 := 0) (c_X4_mayWant l D cI cJ cB cS xa m mR mF mT mB mTp mBo mSo mSh mLe mIm mBf tn ik tc ((ptT 8 tc tn 200 50 (tE tc tn p)).2.1) 0 99 5 9 5060429470 (by assumption) (by omega) (by decide) (by decide) (by rfl) (by omega)) mV_X4_mayWant kM_X4_225 dX4_wantOne_54 rfl rfl [0, 2] rfl rfl rfl rfl rfl rfl rfl rfl ⟨Nat.le_of_ble_eq_true rfl, Nat.le_of_ble_eq_true rfl, Nat.le_of_ble_eq_true rfl⟩ ?_
        by_cases hB : (ptT 9 tc tn 99 5 (ptT 8 tc tn 200 50 (tE tc tn p)).2.1).1 = 1
        · skip
          refine z_ws (ws2 := [(m, .inr (4, [.ref mR, .ref mF, .ref mT, .ref mB, .ref mTp, .int (iI tn), .int (iI (tS tc tn ((ptT 9 tc tn 99 5 ((ptT 8 tc tn 200 50 (tE tc tn p)).2.1)).2.1))), .int (iI (tB tc tn ((ptT 9 tc tn 99 5 ((ptT 8 tc tn 200 50 (tE tc tn p)).2.1)).2.1))), .int (iI (tE tc tn ((ptT 9 tc tn 99 5 ((ptT 8 tc tn 200 50 (tE tc tn p)).2.1)).2.1))), .long (jI (tW tc tn ((ptT 9 tc tn 99 5 ((ptT 8 tc tn 200 50 (tE tc tn p)).2.1)).2.1))), .int (iI (tV tc tn ((ptT 9 tc tn 99 5 ((ptT 8 tc tn 200 50 (tE tc tn p)).2.1)).2.1))), .int (iI 1), .ref mBo, .ref mSo, .ref mSh, .ref mLe, .ref mIm, .ref mBf, .int ik])), (mR, .inl (cI, 35, .inl (rowA g))), (mTp, .inl (cI, 120, .inl (ar tc)))]) (by rw [bI_t hB]) ?_
          have rB := (ptT_rng (i := 9) (b := 99) (d := 5) hT (q := (ptT 8 tc tn 200 50 (tE tc tn p)).2.1) ⟨by omega, rA.2.1⟩ (by decide))
          have eI : itC tc tn p g = (1, (ptT 9 tc tn 99 5 (ptT 8 tc tn 200 50 (tE tc tn p)).2.1).2.1, addG g (kdT tc tn p) (ptT 8 tc tn 200 50 (tE tc tn p)).2.2 (ptT 9 tc tn 99 5 (ptT 8 tc tn 200 50 (tE tc tn p)).2.1).2.2) := by unfold itC; rw [if_pos (by omega), if_pos hA, if_pos hB]
          refine z_istore_n (pc := 57) (lv2 := [(3, .int (iI (if kw 9 tc tn ((ptT 8 tc tn 200 50 (tE tc tn p)).2.1) then tV tc tn (tE tc tn ((ptT 8 tc tn 200 50 (tE tc tn p)).2.1)) else 5))), (2, .int (iI (if kw 8 tc tn (tE tc tn p) then tV tc tn (tE tc tn (tE tc tn p)) else 50))), (0, .ref m), (1, .int (iI k))]) dX4_wantOne_57 rfl (by decide) rfl ?_
          refine z_aload_n (pc := 58) dX4_wantOne_58 2 rfl ?_
          refine z_get (pc := 59) (q0 := 0) (v := .int (iI 1)) fL_X4_213 dX4_wantOne_59 rfl rfl ?_
          refine z_if_eq (pc := 62) (tgt := 72) dX4_wantOne_62 (by decide) (by omega) (fun h62 => ?_) (fun h62 => ?_)
          · skip
            exfalso; omega
          · skip
            refine z_aload_n (pc := 65) dX4_wantOne_65 2 rfl ?_
            refine z_iload_n (pc := 66) dX4_wantOne_66 3 rfl ?_
            refine z_iload_n (pc := 67) dX4_wantOne_67 1 rfl ?_
            refine z_iload_n (pc := 68) dX4_wantOne_68 0 rfl ?_
            have v1 : (ptT 8 tc tn 200 50 (tE tc tn p)).2.2 = if kw 8 tc tn (tE tc tn p) then tV tc tn (tE tc tn (tE tc tn p)) else 50 := pt_v hA
            have v2 : (ptT 9 tc tn 99 5 (ptT 8 tc tn 200 50 (tE tc tn p)).2.1).2.2 = if kw 9 tc tn ((ptT 8 tc tn 200 50 (tE tc tn p)).2.1) then tV tc tn (tE tc tn ((ptT 8 tc tn 200 50 (tE tc tn p)).2.1)) else 5 := pt_v hB
            have vA := rA.2.2 hA
            have vB := rB.2.2 hB
            refine z_st (st2 := [.int (iI ((ptT 9 tc tn 99 5 (ptT 8 tc tn 200 50 (tE tc tn p)).2.1).2.2)), .int (iI ((ptT 8 tc tn 200 50 (tE tc tn p)).2.2)), .int (iI (kdT tc tn p)), .ref m]) (by rw [v1, v2, hk]) ?_
            refine z_callV (pc := 69) (st := []) (st2 := []) (ws2 := [(m, .inr (4, [.ref mR, .ref mF, .ref mT, .ref mB, .ref mTp, .int (iI tn), .int (iI (tS tc tn ((ptT 9 tc tn 99 5 ((ptT 8 tc tn 200 50 (tE tc tn p)).2.1)).2.1))), .int (iI (tB tc tn ((ptT 9 tc tn 99 5 ((ptT 8 tc tn 200 50 (tE tc tn p)).2.1)).2.1))), .int (iI (tE tc tn ((ptT 9 tc tn 99 5 ((ptT 8 tc tn 200 50 (tE tc tn p)).2.1)).2.1))), .long (jI (tW tc tn ((ptT 9 tc tn 99 5 ((ptT 8 tc tn 200 50 (tE tc tn p)).2.1)).2.1))), .int (iI (tV tc tn ((ptT 9 tc tn 99 5 ((ptT 8 tc tn 200 50 (tE tc tn p)).2.1)).2.1))), .int (iI 1), .ref mBo, .ref mSo, .ref mSh, .ref mLe, .ref mIm, .ref mBf, .int ik])), (mR, .inl (cI, 35, .inl (rowA (addG g (kdT tc tn p) ((ptT 8 tc tn 200 50 (tE tc tn p)).2.2) ((ptT 9 tc tn 99 5 (ptT 8 tc tn 200 50 (tE tc tn p)).2.1).2.2))))), (mTp, .inl (cI, 120, .inl (ar tc)))]) (q0 := 0) (c_X4_adds l D cI cJ cB cS xa m mR mF mT mB mTp mBo mSo mSh mLe mIm mBf tn (tS tc tn ((ptT 9 tc tn 99 5 ((ptT 8 tc tn 200 50 (tE tc tn p)).2.1)).2.1)) (tB tc tn ((ptT 9 tc tn 99 5 ((ptT 8 tc tn 200 50 (tE tc tn p)).2.1)).2.1)) (tE tc tn ((ptT 9 tc tn 99 5 ((ptT 8 tc tn 200 50 (tE tc tn p)).2.1)).2.1)) (tV tc tn ((ptT 9 tc tn 99 5 ((ptT 8 tc tn 200 50 (tE tc tn p)).2.1)).2.1)) (jI (tW tc tn ((ptT 9 tc tn 99 5 ((ptT 8 tc tn 200 50 (tE tc tn p)).2.1)).2.1))) (iI 1) ik g (kdT tc tn p) ((ptT 8 tc tn 200 50 (tE tc tn p)).2.2) ((ptT 9 tc tn 99 5 (ptT 8 tc tn 200 50 (tE tc tn p)).2.1).2.2) ok (by omega) (by omega) (by omega) (by omega)) mV_X4_adds kM_X4_95 dX4_wantOne_69 rfl rfl [0, 1] rfl rfl rfl rfl rfl rfl rfl rfl ⟨Nat.le_of_ble_eq_true rfl, Nat.le_of_ble_eq_true rfl, Nat.le_of_ble_eq_true rfl⟩ ?_
            have ok69_5 : Ok (addG g (kdT tc tn p) ((ptT 8 tc tn 200 50 (tE tc tn p)).2.2) ((ptT 9 tc tn 99 5 (ptT 8 tc tn 200 50 (tE tc tn p)).2.1).2.2)) := addG_ok ok (by omega) (by omega) (by omega) (by omega)
            exact z_vret (pc := 72) dX4_wantOne_72 rfl (by rw [eI, bI_t (show (1 : Int) = 1 from rfl)])
        · skip
          refine z_ws (ws2 := [(m, .inr (4, [.ref mR, .ref mF, .ref mT, .ref mB, .ref mTp, .int (iI tn), .int (iI (tS tc tn ((ptT 9 tc tn 99 5 ((ptT 8 tc tn 200 50 (tE tc tn p)).2.1)).2.1))), .int (iI (tB tc tn ((ptT 9 tc tn 99 5 ((ptT 8 tc tn 200 50 (tE tc tn p)).2.1)).2.1))), .int (iI (tE tc tn ((ptT 9 tc tn 99 5 ((ptT 8 tc tn 200 50 (tE tc tn p)).2.1)).2.1))), .long (jI (tW tc tn ((ptT 9 tc tn 99 5 ((ptT 8 tc tn 200 50 (tE tc tn p)).2.1)).2.1))), .int (iI (tV tc tn ((ptT 9 tc tn 99 5 ((ptT 8 tc tn 200 50 (tE tc tn p)).2.1)).2.1))), .int (iI 0), .ref mBo, .ref mSo, .ref mSh, .ref mLe, .ref mIm, .ref mBf, .int ik])), (mR, .inl (cI, 35, .inl (rowA g))), (mTp, .inl (cI, 120, .inl (ar tc)))]) (by rw [bI_f hB]) ?_
          have eI : itC tc tn p g = (0, (ptT 9 tc tn 99 5 (ptT 8 tc tn 200 50 (tE tc tn p)).2.1).2.1, g) := by unfold itC; rw [if_pos (by omega), if_pos hA, if_neg hB]
          refine z_istore_n (pc := 57) (lv2 := [(3, .int (iI (if kw 9 tc tn ((ptT 8 tc tn 200 50 (tE tc tn p)).2.1) then tV tc tn (tE tc tn ((ptT 8 tc tn 200 50 (tE tc tn p)).2.1)) else 5))), (2, .int (iI (if kw 8 tc tn (tE tc tn p) then tV tc tn (tE tc tn (tE tc tn p)) else 50))), (0, .ref m), (1, .int (iI k))]) dX4_wantOne_57 rfl (by decide) rfl ?_
          refine z_aload_n (pc := 58) dX4_wantOne_58 2 rfl ?_
          refine z_get (pc := 59) (q0 := 0) (v := .int (iI 0)) fL_X4_213 dX4_wantOne_59 rfl rfl ?_
          refine z_if_eq (pc := 62) (tgt := 72) dX4_wantOne_62 (by decide) (by omega) (fun h62 => ?_) (fun h62 => ?_)
          · skip
            exact z_vret (pc := 72) dX4_wantOne_72 rfl (by rw [eI, bI_f (show ¬ (0 : Int) = 1 by decide)])
          · skip
            exfalso; omega
      · skip
        refine z_ws (ws2 := [(m, .inr (4, [.ref mR, .ref mF, .ref mT, .ref mB, .ref mTp, .int (iI tn), .int (iI (tS tc tn ((ptT 8 tc tn 200 50 (tE tc tn p)).2.1))), .int (iI (tB tc tn ((ptT 8 tc tn 200 50 (tE tc tn p)).2.1))), .int (iI (tE tc tn ((ptT 8 tc tn 200 50 (tE tc tn p)).2.1))), .long (jI (tW tc tn ((ptT 8 tc tn 200 50 (tE tc tn p)).2.1))), .int (iI (tV tc tn ((ptT 8 tc tn 200 50 (tE tc tn p)).2.1))), .int (iI 0), .ref mBo, .ref mSo, .ref mSh, .ref mLe, .ref mIm, .ref mBf, .int ik])), (mR, .inl (cI, 35, .inl (rowA g))), (mTp, .inl (cI, 120, .inl (ar tc)))]) (by rw [bI_f hA]) ?_
        have rA := (ptT_rng (i := 8) (b := 200) (d := 50) hT (q := tE tc tn p) ⟨te_.2.1, te_.2.2.1⟩ (by decide))
        have eI : itC tc tn p g = (0, (ptT 8 tc tn 200 50 (tE tc tn p)).2.1, g) := by unfold itC; rw [if_pos (by omega), if_neg hA]
        refine z_istore_n (pc := 45) (lv2 := [(2, .int (iI (if kw 8 tc tn (tE tc tn p) then tV tc tn (tE tc tn (tE tc tn p)) else 50))), (0, .ref m), (1, .int (iI k))]) dX4_wantOne_45 rfl (by decide) rfl ?_
        refine z_aload_n (pc := 46) dX4_wantOne_46 1 rfl ?_
        refine z_ldc2 (pc := 47) kL_X4_229 dX4_wantOne_47 ?_
        refine z_iconst (pc := 50) dX4_wantOne_50 ?_
        refine z_bipush (pc := 51) dX4_wantOne_51 (by decide) ?_
        refine z_iconst (pc := 53) dX4_wantOne_53 ?_
        refine z_callV (pc := 54) (st := []) (st2 := [.int (iI 5)]) (ws2 := [(m, .inr (4, [.ref mR, .ref mF, .ref mT, .ref mB, .ref mTp, .int (iI tn), .int (iI (tS tc tn ((ptT 8 tc tn 200 50 (tE tc tn p)).2.1))), .int (iI (tB tc tn ((ptT 8 tc tn 200 50 (tE tc tn p)).2.1))), .int (iI (tE tc tn ((ptT 8 tc tn 200 50 (tE tc tn p)).2.1))), .long (jI (tW tc tn ((ptT 8 tc tn 200 50 (tE tc tn p)).2.1))), .int (iI (tV tc tn ((ptT 8 tc tn 200 50 (tE tc tn p)).2.1))), .int (iI 0), .ref mBo, .ref mSo, .ref mSh, .ref mLe, .ref mIm, .ref mBf, .int ik])), (mR, .inl (cI, 35, .inl (rowA g))), (mTp, .inl (cI, 120, .inl (ar tc)))]) (q0 := 0) (c_X4_mayWant_n l D cI cJ cB cS xa m mR mF mT mB mTp mBo mSo mSh mLe mIm mBf tn ik tc ((ptT 8 tc tn 200 50 (tE tc tn p)).2.1) 0 99 5 5060429470 ) mV_X4_mayWant kM_X4_225 dX4_wantOne_54 rfl rfl [0, 2] rfl rfl rfl rfl rfl rfl rfl rfl ⟨Nat.le_of_ble_eq_true rfl, Nat.le_of_ble_eq_true rfl, Nat.le_of_ble_eq_true rfl⟩ ?_
        refine z_istore_n (pc := 57) (lv2 := [(3, .int (iI 5)), (2, .int (iI (if kw 8 tc tn (tE tc tn p) then tV tc tn (tE tc tn (tE tc tn p)) else 50))), (0, .ref m), (1, .int (iI k))]) dX4_wantOne_57 rfl (by decide) rfl ?_
        refine z_aload_n (pc := 58) dX4_wantOne_58 2 rfl ?_
        refine z_get (pc := 59) (q0 := 0) (v := .int (iI 0)) fL_X4_213 dX4_wantOne_59 rfl rfl ?_
        refine z_if_eq (pc := 62) (tgt := 72) dX4_wantOne_62 (by decide) (by omega) (fun h62 => ?_) (fun h62 => ?_)
        · skip
          exact z_vret (pc := 72) dX4_wantOne_72 rfl (by rw [eI, bI_f (show ¬ (0 : Int) = 1 by decide)])
        · skip
          exfalso; omega
    · skip
      exfalso; omega
set_option maxHeartbeats 8000000 in
set_option maxRecDepth 100000 in
theorem c_X4_wantPush (l : Launch) (D : va_G) (cI cJ cB cS : ClassId) (xa : XA) (m mR mF mT mB mTp mBo mSo mSh mLe mIm mBf : Nat) (tn : Int) (ik : Int32) (g : Gd) (tc : FF) (p : Int) (ok : Ok g) (hT : OkT tc tn) (hp : 0 ≤ p ∧ p ≤ tn) : Ct l D cI cJ cB cS xa yX4_wantPush cX4_wantPush 3 none 4 86 [.ref m] [(m, .inr (4, [.ref mR, .ref mF, .ref mT, .ref mB, .ref mTp, .int (iI tn), .int (iI (tS tc tn p)), .int (iI (tB tc tn p)), .int (iI (tE tc tn p)), .long (jI (tW tc tn p)), .int (iI (tV tc tn p)), .int (iI 1), .ref mBo, .ref mSo, .ref mSh, .ref mLe, .ref mIm, .ref mBf, .int ik])), (mR, .inl (cI, 35, .inl (rowA g))), (mTp, .inl (cI, 120, .inl (ar tc)))] none [(m, .inr (4, [.ref mR, .ref mF, .ref mT, .ref mB, .ref mTp, .int (iI tn), .int (iI (tS tc tn ((itP tc tn p g).2.1))), .int (iI (tB tc tn ((itP tc tn p g).2.1))), .int (iI (tE tc tn ((itP tc tn p g).2.1))), .long (jI (tW tc tn ((itP tc tn p g).2.1))), .int (iI (tV tc tn ((itP tc tn p g).2.1))), .int (bI ((itP tc tn p g).1 = 1)), .ref mBo, .ref mSo, .ref mSh, .ref mLe, .ref mIm, .ref mBf, .int ik])), (mR, .inl (cI, 35, .inl (rowA ((itP tc tn p g).2.2)))), (mTp, .inl (cI, 120, .inl (ar tc)))] := by
  have hT2 := hT.2
  have tb := tB_rng hT hp
  have te_ := tE_q hT hp
  have ts := tS_rng tc tn p
  have tv := tV_rng hT hp
  have o0 := ok0 ok
  have o1 := ok1 ok
  have o2 := ok2 ok
  refine CtE.of (own := RX4) (lv := [(0, .ref m)]) (by decide) rfl rfl (Nat.le_of_ble_eq_true rfl) ?_
  intro xp xe xs xm xb xt xc
  refine z_aload_n (pc := 0) dX4_wantPush_0 0 rfl ?_
  refine z_callV (pc := 1) (st := []) (st2 := []) (ws2 := [(m, .inr (4, [.ref mR, .ref mF, .ref mT, .ref mB, .ref mTp, .int (iI tn), .int (iI (tS tc tn (tE tc tn p))), .int (iI (tB tc tn (tE tc tn p))), .int (iI (tE tc tn (tE tc tn p))), .long (jI (tW tc tn (tE tc tn p))), .int (iI (tV tc tn (tE tc tn p))), .int (iI 1), .ref mBo, .ref mSo, .ref mSh, .ref mLe, .ref mIm, .ref mBf, .int ik])), (mR, .inl (cI, 35, .inl (rowA g))), (mTp, .inl (cI, 120, .inl (ar tc)))]) (q0 := 0) (c_X4_advance l D cI cJ cB cS xa m mR mF mT mB mTp mBo mSo mSh mLe mIm mBf tn (tS tc tn p) (tB tc tn p) (tV tc tn p) (jI (tW tc tn p)) (iI 1) ik tc (tE tc tn p) (by assumption) (by omega)) mV_X4_advance kM_X4_217 dX4_wantPush_1 rfl rfl [0, 2] rfl rfl rfl rfl rfl rfl rfl rfl ⟨Nat.le_of_ble_eq_true rfl, Nat.le_of_ble_eq_true rfl, Nat.le_of_ble_eq_true rfl⟩ ?_
  have f1_1 := tB_rng hT (show 0 ≤ (tE tc tn p) ∧ (tE tc tn p) ≤ tn by omega)
  have f1_2 := tE_q hT (show 0 ≤ (tE tc tn p) ∧ (tE tc tn p) ≤ tn by omega)
  have f1_3 := tS_rng tc tn (tE tc tn p)
  have f1_4 := tV_rng hT (show 0 ≤ (tE tc tn p) ∧ (tE tc tn p) ≤ tn by omega)
  refine z_aload_n (pc := 4) dX4_wantPush_4 0 rfl ?_
  refine z_iconst (pc := 5) dX4_wantPush_5 ?_
  refine z_aload_n (pc := 6) dX4_wantPush_6 0 rfl ?_
  refine z_get (pc := 7) (q0 := 0) (v := .ref mR) fL_X4_7 dX4_wantPush_7 rfl rfl ?_
  refine z_iconst (pc := 10) dX4_wantPush_10 ?_
  refine z_iald (pc := 11) (q0 := 1) (v := (iI (g 4 2))) dX4_wantPush_11 rfl (by omega) (by decide) (rowA_4 (by decide) (by decide)) ?_
  refine z_iconst (pc := 12) dX4_wantPush_12 ?_
  refine z_isub (pc := 13) dX4_wantPush_13 ?_
  refine z_callV (pc := 14) (st := []) (st2 := [.int (iI (tV tc tn (tE tc tn p)))]) (ws2 := [(m, .inr (4, [.ref mR, .ref mF, .ref mT, .ref mB, .ref mTp, .int (iI tn), .int (iI (tS tc tn (nxN tc tn (tE tc tn p) 0 ((g 4 2) - 1)))), .int (iI (tB tc tn (nxN tc tn (tE tc tn p) 0 ((g 4 2) - 1)))), .int (iI (tE tc tn (nxN tc tn (tE tc tn p) 0 ((g 4 2) - 1)))), .long (jI (tW tc tn (nxN tc tn (tE tc tn p) 0 ((g 4 2) - 1)))), .int (iI (tV tc tn (nxN tc tn (tE tc tn p) 0 ((g 4 2) - 1)))), .int (bI (nm tc tn (tE tc tn p) 0 ((g 4 2) - 1))), .ref mBo, .ref mSo, .ref mSh, .ref mLe, .ref mIm, .ref mBf, .int ik])), (mR, .inl (cI, 35, .inl (rowA g))), (mTp, .inl (cI, 120, .inl (ar tc)))]) (q0 := 0) (c_X4_wantNumber l D cI cJ cB cS xa m mR mF mT mB mTp mBo mSo mSh mLe mIm mBf tn ik tc (tE tc tn p) 0 ((g 4 2) - 1) (by assumption) (by omega) (by omega) (by omega)) mV_X4_wantNumber kM_X4_220 dX4_wantPush_14 rfl rfl [0, 2] rfl rfl rfl rfl rfl rfl rfl rfl ⟨Nat.le_of_ble_eq_true rfl, Nat.le_of_ble_eq_true rfl, Nat.le_of_ble_eq_true rfl⟩ ?_
  by_cases hA : nm tc tn (tE tc tn p) 0 (g 4 2 - 1)
  · skip
    refine z_ws (ws2 := [(m, .inr (4, [.ref mR, .ref mF, .ref mT, .ref mB, .ref mTp, .int (iI tn), .int (iI (tS tc tn (tE tc tn (tE tc tn p)))), .int (iI (tB tc tn (tE tc tn (tE tc tn p)))), .int (iI (tE tc tn (tE tc tn (tE tc tn p)))), .long (jI (tW tc tn (tE tc tn (tE tc tn p)))), .int (iI (tV tc tn (tE tc tn (tE tc tn p)))), .int (iI 1), .ref mBo, .ref mSo, .ref mSh, .ref mLe, .ref mIm, .ref mBf, .int ik])), (mR, .inl (cI, 35, .inl (rowA g))), (mTp, .inl (cI, 120, .inl (ar tc)))]) (by rw [show nxN tc tn (tE tc tn p) 0 (g 4 2 - 1) = tE tc tn (tE tc tn p) from if_pos hA, bI_t hA]) ?_
    have t2 := tE_q hT (q := tE tc tn p) ⟨te_.2.1, te_.2.2.1⟩
    have t3 := tE_q hT (q := tE tc tn (tE tc tn p)) ⟨t2.2.1, t2.2.2.1⟩
    have hA1 := hA.2
    refine z_istore_n (pc := 17) (lv2 := [(1, .int (iI (tV tc tn (tE tc tn p)))), (0, .ref m)]) dX4_wantPush_17 rfl (by decide) rfl ?_
    refine z_aload_n (pc := 18) dX4_wantPush_18 1 rfl ?_
    refine z_get (pc := 19) (q0 := 0) (v := .int (iI 1)) fL_X4_213 dX4_wantPush_19 rfl rfl ?_
    refine z_if_eq (pc := 22) (tgt := 35) dX4_wantPush_22 (by decide) (by omega) (fun h22 => ?_) (fun h22 => ?_)
    · skip
      exfalso; omega
    · skip
      refine z_aload_n (pc := 25) dX4_wantPush_25 1 rfl ?_
      refine z_iconst (pc := 26) dX4_wantPush_26 ?_
      refine z_bipush (pc := 27) dX4_wantPush_27 (by decide) ?_
      refine z_callV (pc := 29) (st := []) (st2 := [.int (iI (tV tc tn (tE tc tn (tE tc tn p))))]) (ws2 := [(m, .inr (4, [.ref mR, .ref mF, .ref mT, .ref mB, .ref mTp, .int (iI tn), .int (iI (tS tc tn (nxN tc tn (tE tc tn (tE tc tn p)) 1 99))), .int (iI (tB tc tn (nxN tc tn (tE tc tn (tE tc tn p)) 1 99))), .int (iI (tE tc tn (nxN tc tn (tE tc tn (tE tc tn p)) 1 99))), .long (jI (tW tc tn (nxN tc tn (tE tc tn (tE tc tn p)) 1 99))), .int (iI (tV tc tn (nxN tc tn (tE tc tn (tE tc tn p)) 1 99))), .int (bI (nm tc tn (tE tc tn (tE tc tn p)) 1 99)), .ref mBo, .ref mSo, .ref mSh, .ref mLe, .ref mIm, .ref mBf, .int ik])), (mR, .inl (cI, 35, .inl (rowA g))), (mTp, .inl (cI, 120, .inl (ar tc)))]) (q0 := 0) (c_X4_wantNumber l D cI cJ cB cS xa m mR mF mT mB mTp mBo mSo mSh mLe mIm mBf tn ik tc (tE tc tn (tE tc tn p)) 1 99 (by assumption) (by omega) (by omega) (by omega)) mV_X4_wantNumber kM_X4_220 dX4_wantPush_29 rfl rfl [0, 2] rfl rfl rfl rfl rfl rfl rfl rfl ⟨Nat.le_of_ble_eq_true rfl, Nat.le_of_ble_eq_true rfl, Nat.le_of_ble_eq_true rfl⟩ ?_
      by_cases hB : nm tc tn (tE tc tn (tE tc tn p)) 1 99
      · skip
        refine z_ws (ws2 := [(m, .inr (4, [.ref mR, .ref mF, .ref mT, .ref mB, .ref mTp, .int (iI tn), .int (iI (tS tc tn (tE tc tn (tE tc tn (tE tc tn p))))), .int (iI (tB tc tn (tE tc tn (tE tc tn (tE tc tn p))))), .int (iI (tE tc tn (tE tc tn (tE tc tn (tE tc tn p))))), .long (jI (tW tc tn (tE tc tn (tE tc tn (tE tc tn p))))), .int (iI (tV tc tn (tE tc tn (tE tc tn (tE tc tn p))))), .int (iI 1), .ref mBo, .ref mSo, .ref mSh, .ref mLe, .ref mIm, .ref mBf, .int ik])), (mR, .inl (cI, 35, .inl (rowA g))), (mTp, .inl (cI, 120, .inl (ar tc)))]) (by rw [show nxN tc tn (tE tc tn (tE tc tn p)) 1 99 = tE tc tn (tE tc tn (tE tc tn p)) from if_pos hB, bI_t hB]) ?_
        have hB1 := hB.2
        have eI : itP tc tn p g = (1, tE tc tn (tE tc tn (tE tc tn p)), pushG g (tV tc tn (tE tc tn p)) (tV tc tn (tE tc tn (tE tc tn p)))) := by unfold itP; rw [if_pos hA, if_pos hB]
        refine z_goto (pc := 32) (tgt := 36) dX4_wantPush_32 (by decide) ?_
        refine z_istore_n (pc := 36) (lv2 := [(2, .int (iI (tV tc tn (tE tc tn (tE tc tn p))))), (1, .int (iI (tV tc tn (tE tc tn p)))), (0, .ref m)]) dX4_wantPush_36 rfl (by decide) rfl ?_
        refine z_aload_n (pc := 37) dX4_wantPush_37 2 rfl ?_
        refine z_get (pc := 38) (q0 := 0) (v := .int (iI 1)) fL_X4_213 dX4_wantPush_38 rfl rfl ?_
        refine z_if_eq (pc := 41) (tgt := 50) dX4_wantPush_41 (by decide) (by omega) (fun h41 => ?_) (fun h41 => ?_)
        · skip
          exfalso; omega
        · skip
          refine z_aload_n (pc := 44) dX4_wantPush_44 2 rfl ?_
          refine z_iload_n (pc := 45) dX4_wantPush_45 1 rfl ?_
          refine z_iload_n (pc := 46) dX4_wantPush_46 0 rfl ?_
          refine z_callV (pc := 47) (st := []) (st2 := []) (ws2 := [(m, .inr (4, [.ref mR, .ref mF, .ref mT, .ref mB, .ref mTp, .int (iI tn), .int (iI (tS tc tn (tE tc tn (tE tc tn (tE tc tn p))))), .int (iI (tB tc tn (tE tc tn (tE tc tn (tE tc tn p))))), .int (iI (tE tc tn (tE tc tn (tE tc tn (tE tc tn p))))), .long (jI (tW tc tn (tE tc tn (tE tc tn (tE tc tn p))))), .int (iI (tV tc tn (tE tc tn (tE tc tn (tE tc tn p))))), .int (iI 1), .ref mBo, .ref mSo, .ref mSh, .ref mLe, .ref mIm, .ref mBf, .int ik])), (mR, .inl (cI, 35, .inl (rowA (pushG g (tV tc tn (tE tc tn p)) (tV tc tn (tE tc tn (tE tc tn p))))))), (mTp, .inl (cI, 120, .inl (ar tc)))]) (q0 := 0) (c_X4_pushes l D cI cJ cB cS xa m mR mF mT mB mTp mBo mSo mSh mLe mIm mBf tn (tS tc tn (tE tc tn (tE tc tn (tE tc tn p)))) (tB tc tn (tE tc tn (tE tc tn (tE tc tn p)))) (tE tc tn (tE tc tn (tE tc tn (tE tc tn p)))) (tV tc tn (tE tc tn (tE tc tn (tE tc tn p)))) (jI (tW tc tn (tE tc tn (tE tc tn (tE tc tn p))))) (iI 1) ik g (tV tc tn (tE tc tn p)) (tV tc tn (tE tc tn (tE tc tn p))) ok (by omega) (by omega)) mV_X4_pushes kM_X4_119 dX4_wantPush_47 rfl rfl [0, 1] rfl rfl rfl rfl rfl rfl rfl rfl ⟨Nat.le_of_ble_eq_true rfl, Nat.le_of_ble_eq_true rfl, Nat.le_of_ble_eq_true rfl⟩ ?_
          have ok47_5 : Ok (pushG g (tV tc tn (tE tc tn p)) (tV tc tn (tE tc tn (tE tc tn p)))) := pushG_ok ok (tV tc tn (tE tc tn p)) (by omega)
          exact z_vret (pc := 50) dX4_wantPush_50 rfl (by rw [eI, bI_t (show (1 : Int) = 1 from rfl)])
      · skip
        refine z_ws (ws2 := [(m, .inr (4, [.ref mR, .ref mF, .ref mT, .ref mB, .ref mTp, .int (iI tn), .int (iI (tS tc tn (tE tc tn (tE tc tn p)))), .int (iI (tB tc tn (tE tc tn (tE tc tn p)))), .int (iI (tE tc tn (tE tc tn (tE tc tn p)))), .long (jI (tW tc tn (tE tc tn (tE tc tn p)))), .int (iI (tV tc tn (tE tc tn (tE tc tn p)))), .int (iI 0), .ref mBo, .ref mSo, .ref mSh, .ref mLe, .ref mIm, .ref mBf, .int ik])), (mR, .inl (cI, 35, .inl (rowA g))), (mTp, .inl (cI, 120, .inl (ar tc)))]) (by rw [show nxN tc tn (tE tc tn (tE tc tn p)) 1 99 = tE tc tn (tE tc tn p) from if_neg hB, bI_f hB]) ?_
        have eI : itP tc tn p g = (0, tE tc tn (tE tc tn p), g) := by unfold itP; rw [if_pos hA, if_neg hB]
        refine z_goto (pc := 32) (tgt := 36) dX4_wantPush_32 (by decide) ?_
        refine z_istore_n (pc := 36) (lv2 := [(2, .int (iI (tV tc tn (tE tc tn (tE tc tn p))))), (1, .int (iI (tV tc tn (tE tc tn p)))), (0, .ref m)]) dX4_wantPush_36 rfl (by decide) rfl ?_
        refine z_aload_n (pc := 37) dX4_wantPush_37 2 rfl ?_
        refine z_get (pc := 38) (q0 := 0) (v := .int (iI 0)) fL_X4_213 dX4_wantPush_38 rfl rfl ?_
        refine z_if_eq (pc := 41) (tgt := 50) dX4_wantPush_41 (by decide) (by omega) (fun h41 => ?_) (fun h41 => ?_)
        · skip
          exact z_vret (pc := 50) dX4_wantPush_50 rfl (by rw [eI, bI_f (show ¬ (0 : Int) = 1 by decide)])
        · skip
          exfalso; omega
  · skip
    refine z_ws (ws2 := [(m, .inr (4, [.ref mR, .ref mF, .ref mT, .ref mB, .ref mTp, .int (iI tn), .int (iI (tS tc tn (tE tc tn p))), .int (iI (tB tc tn (tE tc tn p))), .int (iI (tE tc tn (tE tc tn p))), .long (jI (tW tc tn (tE tc tn p))), .int (iI (tV tc tn (tE tc tn p))), .int (iI 0), .ref mBo, .ref mSo, .ref mSh, .ref mLe, .ref mIm, .ref mBf, .int ik])), (mR, .inl (cI, 35, .inl (rowA g))), (mTp, .inl (cI, 120, .inl (ar tc)))]) (by rw [show nxN tc tn (tE tc tn p) 0 (g 4 2 - 1) = tE tc tn p from if_neg hA, bI_f hA]) ?_
    have eI : itP tc tn p g = (0, tE tc tn p, g) := by unfold itP; rw [if_neg hA]
    refine z_istore_n (pc := 17) (lv2 := [(1, .int (iI (tV tc tn (tE tc tn p)))), (0, .ref m)]) dX4_wantPush_17 rfl (by decide) rfl ?_
    refine z_aload_n (pc := 18) dX4_wantPush_18 1 rfl ?_
    refine z_get (pc := 19) (q0 := 0) (v := .int (iI 0)) fL_X4_213 dX4_wantPush_19 rfl rfl ?_
    refine z_if_eq (pc := 22) (tgt := 35) dX4_wantPush_22 (by decide) (by omega) (fun h22 => ?_) (fun h22 => ?_)
    · skip
      refine z_iconst (pc := 35) dX4_wantPush_35 ?_
      refine z_istore_n (pc := 36) (lv2 := [(2, .int (iI 0)), (1, .int (iI (tV tc tn (tE tc tn p)))), (0, .ref m)]) dX4_wantPush_36 rfl (by decide) rfl ?_
      refine z_aload_n (pc := 37) dX4_wantPush_37 2 rfl ?_
      refine z_get (pc := 38) (q0 := 0) (v := .int (iI 0)) fL_X4_213 dX4_wantPush_38 rfl rfl ?_
      refine z_if_eq (pc := 41) (tgt := 50) dX4_wantPush_41 (by decide) (by omega) (fun h41 => ?_) (fun h41 => ?_)
      · skip
        exact z_vret (pc := 50) dX4_wantPush_50 rfl (by rw [eI, bI_f (show ¬ (0 : Int) = 1 by decide)])
      · skip
        exfalso; omega
    · skip
      exfalso; omega
set_option maxHeartbeats 8000000 in
set_option maxRecDepth 100000 in
theorem c_X4_wantItem (l : Launch) (D : va_G) (cI cJ cB cS : ClassId) (xa : XA) (m mR mF mT mB mTp mBo mSo mSh mLe mIm mBf : Nat) (tn : Int) (ik : Int32) (g : Gd) (tc : FF) (p : Int) (ok : Ok g) (hT : OkT tc tn) (hp : 0 ≤ p ∧ p ≤ tn) : Ct l D cI cJ cB cS xa yX4_wantItem cX4_wantItem 2 none 6 134 [.ref m] [(m, .inr (4, [.ref mR, .ref mF, .ref mT, .ref mB, .ref mTp, .int (iI tn), .int (iI (tS tc tn p)), .int (iI (tB tc tn p)), .int (iI (tE tc tn p)), .long (jI (tW tc tn p)), .int (iI (tV tc tn p)), .int (iI 1), .ref mBo, .ref mSo, .ref mSh, .ref mLe, .ref mIm, .ref mBf, .int ik])), (mR, .inl (cI, 35, .inl (rowA g))), (mTp, .inl (cI, 120, .inl (ar tc)))] none [(m, .inr (4, [.ref mR, .ref mF, .ref mT, .ref mB, .ref mTp, .int (iI tn), .int (iI (tS tc tn ((itT tc tn p g).2.1))), .int (iI (tB tc tn ((itT tc tn p g).2.1))), .int (iI (tE tc tn ((itT tc tn p g).2.1))), .long (jI (tW tc tn ((itT tc tn p g).2.1))), .int (iI (tV tc tn ((itT tc tn p g).2.1))), .int (bI ((itT tc tn p g).1 = 1)), .ref mBo, .ref mSo, .ref mSh, .ref mLe, .ref mIm, .ref mBf, .int ik])), (mR, .inl (cI, 35, .inl (rowA ((itT tc tn p g).2.2)))), (mTp, .inl (cI, 120, .inl (ar tc)))] := by
  have hT2 := hT.2
  have tb := tB_rng hT hp
  have te_ := tE_q hT hp
  have ts := tS_rng tc tn p
  have tv := tV_rng hT hp
  have o0 := ok0 ok
  have o1 := ok1 ok
  have o2 := ok2 ok
  refine CtE.of (own := RX4) (lv := [(0, .ref m)]) (by decide) rfl rfl (Nat.le_of_ble_eq_true rfl) ?_
  intro xp xe xs xm xb xt xc
  refine z_aload_n (pc := 0) dX4_wantItem_0 0 rfl ?_
  refine z_callV (pc := 1) (st := []) (st2 := [.int (iI (kdT tc tn p))]) (ws2 := [(m, .inr (4, [.ref mR, .ref mF, .ref mT, .ref mB, .ref mTp, .int (iI tn), .int (iI (tS tc tn p)), .int (iI (tB tc tn p)), .int (iI (tE tc tn p)), .long (jI (tW tc tn p)), .int (iI (tV tc tn p)), .int (iI 1), .ref mBo, .ref mSo, .ref mSh, .ref mLe, .ref mIm, .ref mBf, .int ik])), (mR, .inl (cI, 35, .inl (rowA g))), (mTp, .inl (cI, 120, .inl (ar tc)))]) (q0 := 0) (c_X4_kindHere l D cI cJ cB cS xa m mR mF mT mB mTp mBo mSo mSh mLe mIm mBf tn (iI 1) ik tc p (by assumption) (by omega)) mV_X4_kindHere kM_X4_231 dX4_wantItem_1 rfl rfl [0] rfl rfl rfl rfl rfl rfl rfl rfl ⟨Nat.le_of_ble_eq_true rfl, Nat.le_of_ble_eq_true rfl, Nat.le_of_ble_eq_true rfl⟩ ?_
  have f1_1 := kdT_rng tc tn p
  refine z_if_lt (pc := 4) (tgt := 18) dX4_wantItem_4 (by decide) (by omega) (fun h4 => ?_) (fun h4 => ?_)
  · skip
    refine z_aload_n (pc := 18) dX4_wantItem_18 0 rfl ?_
    refine z_ldc2 (pc := 19) kL_X4_237 dX4_wantItem_19 ?_
    refine z_callV (pc := 22) (st := []) (st2 := [.int (bI (kw 0 tc tn p))]) (ws2 := [(m, .inr (4, [.ref mR, .ref mF, .ref mT, .ref mB, .ref mTp, .int (iI tn), .int (iI (tS tc tn p)), .int (iI (tB tc tn p)), .int (iI (tE tc tn p)), .long (jI (tW tc tn p)), .int (iI (tV tc tn p)), .int (iI 1), .ref mBo, .ref mSo, .ref mSh, .ref mLe, .ref mIm, .ref mBf, .int ik])), (mR, .inl (cI, 35, .inl (rowA g))), (mTp, .inl (cI, 120, .inl (ar tc)))]) (q0 := 0) (c_X4_isWord l D cI cJ cB cS xa m mR mF mT mB mTp mBo mSo mSh mLe mIm mBf tn (iI 1) ik tc p 0 330758 (by assumption) (by omega) (by decide) (by decide)) mV_X4_isWord kM_X4_199 dX4_wantItem_22 rfl rfl [0] rfl rfl rfl rfl rfl rfl rfl rfl ⟨Nat.le_of_ble_eq_true rfl, Nat.le_of_ble_eq_true rfl, Nat.le_of_ble_eq_true rfl⟩ ?_
    refine z_ifb_eq (pc := 25) (tgt := 35) dX4_wantItem_25 (by decide) (fun h25 => ?_) (fun h25 => ?_)
    · skip
      refine z_aload_n (pc := 35) dX4_wantItem_35 0 rfl ?_
      refine z_ldc2 (pc := 36) kL_X4_242 dX4_wantItem_36 ?_
      refine z_callV (pc := 39) (st := []) (st2 := [.int (bI (kw 1 tc tn p))]) (ws2 := [(m, .inr (4, [.ref mR, .ref mF, .ref mT, .ref mB, .ref mTp, .int (iI tn), .int (iI (tS tc tn p)), .int (iI (tB tc tn p)), .int (iI (tE tc tn p)), .long (jI (tW tc tn p)), .int (iI (tV tc tn p)), .int (iI 1), .ref mBo, .ref mSo, .ref mSh, .ref mLe, .ref mIm, .ref mBf, .int ik])), (mR, .inl (cI, 35, .inl (rowA g))), (mTp, .inl (cI, 120, .inl (ar tc)))]) (q0 := 0) (c_X4_isWord l D cI cJ cB cS xa m mR mF mT mB mTp mBo mSo mSh mLe mIm mBf tn (iI 1) ik tc p 1 79958 (by assumption) (by omega) (by decide) (by decide)) mV_X4_isWord kM_X4_199 dX4_wantItem_39 rfl rfl [0] rfl rfl rfl rfl rfl rfl rfl rfl ⟨Nat.le_of_ble_eq_true rfl, Nat.le_of_ble_eq_true rfl, Nat.le_of_ble_eq_true rfl⟩ ?_
      refine z_ifb_eq (pc := 42) (tgt := 83) dX4_wantItem_42 (by decide) (fun h42 => ?_) (fun h42 => ?_)
      · skip
        have eI : itT tc tn p g = (0, p, g) := by unfold itT; rw [if_neg (by omega), if_neg h25, if_neg h42]
        refine z_aload_n (pc := 83) dX4_wantItem_83 0 rfl ?_
        refine z_iconst (pc := 84) dX4_wantItem_84 ?_
        refine z_put (pc := 85) (q0 := 0) (ws2 := [(m, .inr (4, [.ref mR, .ref mF, .ref mT, .ref mB, .ref mTp, .int (iI tn), .int (iI (tS tc tn p)), .int (iI (tB tc tn p)), .int (iI (tE tc tn p)), .long (jI (tW tc tn p)), .int (iI (tV tc tn p)), .int (iI 0), .ref mBo, .ref mSo, .ref mSh, .ref mLe, .ref mIm, .ref mBf, .int ik])), (mR, .inl (cI, 35, .inl (rowA g))), (mTp, .inl (cI, 120, .inl (ar tc)))]) fP_X4_213 dX4_wantItem_85 rfl (by decide) (by decide) (Nat.le_of_ble_eq_true rfl) rfl ?_
        exact z_vret (pc := 88) dX4_wantItem_88 rfl (by rw [eI, bI_f (show ¬ (0 : Int) = 1 by decide)])
      · skip
        refine z_aload_n (pc := 45) dX4_wantItem_45 0 rfl ?_
        refine z_callV (pc := 46) (st := []) (st2 := []) (ws2 := [(m, .inr (4, [.ref mR, .ref mF, .ref mT, .ref mB, .ref mTp, .int (iI tn), .int (iI (tS tc tn (tE tc tn p))), .int (iI (tB tc tn (tE tc tn p))), .int (iI (tE tc tn (tE tc tn p))), .long (jI (tW tc tn (tE tc tn p))), .int (iI (tV tc tn (tE tc tn p))), .int (iI 1), .ref mBo, .ref mSo, .ref mSh, .ref mLe, .ref mIm, .ref mBf, .int ik])), (mR, .inl (cI, 35, .inl (rowA g))), (mTp, .inl (cI, 120, .inl (ar tc)))]) (q0 := 0) (c_X4_advance l D cI cJ cB cS xa m mR mF mT mB mTp mBo mSo mSh mLe mIm mBf tn (tS tc tn p) (tB tc tn p) (tV tc tn p) (jI (tW tc tn p)) (iI 1) ik tc (tE tc tn p) (by assumption) (by omega)) mV_X4_advance kM_X4_217 dX4_wantItem_46 rfl rfl [0, 2] rfl rfl rfl rfl rfl rfl rfl rfl ⟨Nat.le_of_ble_eq_true rfl, Nat.le_of_ble_eq_true rfl, Nat.le_of_ble_eq_true rfl⟩ ?_
        have f46_2 := tB_rng hT (show 0 ≤ (tE tc tn p) ∧ (tE tc tn p) ≤ tn by omega)
        have f46_3 := tE_q hT (show 0 ≤ (tE tc tn p) ∧ (tE tc tn p) ≤ tn by omega)
        have f46_4 := tS_rng tc tn (tE tc tn p)
        have f46_5 := tV_rng hT (show 0 ≤ (tE tc tn p) ∧ (tE tc tn p) ≤ tn by omega)
        refine z_aload_n (pc := 49) dX4_wantItem_49 0 rfl ?_
        refine z_iconst (pc := 50) dX4_wantItem_50 ?_
        refine z_bipush (pc := 51) dX4_wantItem_51 (by decide) ?_
        refine z_callV (pc := 53) (st := []) (st2 := [.int (iI (tV tc tn (tE tc tn p)))]) (ws2 := [(m, .inr (4, [.ref mR, .ref mF, .ref mT, .ref mB, .ref mTp, .int (iI tn), .int (iI (tS tc tn (nxN tc tn (tE tc tn p) 0 59))), .int (iI (tB tc tn (nxN tc tn (tE tc tn p) 0 59))), .int (iI (tE tc tn (nxN tc tn (tE tc tn p) 0 59))), .long (jI (tW tc tn (nxN tc tn (tE tc tn p) 0 59))), .int (iI (tV tc tn (nxN tc tn (tE tc tn p) 0 59))), .int (bI (nm tc tn (tE tc tn p) 0 59)), .ref mBo, .ref mSo, .ref mSh, .ref mLe, .ref mIm, .ref mBf, .int ik])), (mR, .inl (cI, 35, .inl (rowA g))), (mTp, .inl (cI, 120, .inl (ar tc)))]) (q0 := 0) (c_X4_wantNumber l D cI cJ cB cS xa m mR mF mT mB mTp mBo mSo mSh mLe mIm mBf tn ik tc (tE tc tn p) 0 59 (by assumption) (by omega) (by omega) (by omega)) mV_X4_wantNumber kM_X4_220 dX4_wantItem_53 rfl rfl [0, 2] rfl rfl rfl rfl rfl rfl rfl rfl ⟨Nat.le_of_ble_eq_true rfl, Nat.le_of_ble_eq_true rfl, Nat.le_of_ble_eq_true rfl⟩ ?_
        by_cases hA : nm tc tn (tE tc tn p) 0 59
        · skip
          refine z_ws (ws2 := [(m, .inr (4, [.ref mR, .ref mF, .ref mT, .ref mB, .ref mTp, .int (iI tn), .int (iI (tS tc tn (tE tc tn (tE tc tn p)))), .int (iI (tB tc tn (tE tc tn (tE tc tn p)))), .int (iI (tE tc tn (tE tc tn (tE tc tn p)))), .long (jI (tW tc tn (tE tc tn (tE tc tn p)))), .int (iI (tV tc tn (tE tc tn (tE tc tn p)))), .int (iI 1), .ref mBo, .ref mSo, .ref mSh, .ref mLe, .ref mIm, .ref mBf, .int ik])), (mR, .inl (cI, 35, .inl (rowA g))), (mTp, .inl (cI, 120, .inl (ar tc)))]) (by rw [show nxN tc tn (tE tc tn p) 0 59 = tE tc tn (tE tc tn p) from if_pos hA, bI_t hA]) ?_
          have hA1 := hA.2
          have eI : itT tc tn p g = (1, tE tc tn (tE tc tn p), up2 g 4 1 (tV tc tn (tE tc tn p))) := by unfold itT; rw [if_neg (by omega), if_neg h25, if_pos h42]; unfold itD; rw [if_pos hA]
          refine z_istore_n (pc := 56) (lv2 := [(1, .int (iI (tV tc tn (tE tc tn p)))), (0, .ref m)]) dX4_wantItem_56 rfl (by decide) rfl ?_
          refine z_aload_n (pc := 57) dX4_wantItem_57 1 rfl ?_
          refine z_get (pc := 58) (q0 := 0) (v := .ref mR) fL_X4_7 dX4_wantItem_58 rfl rfl ?_
          refine z_iconst (pc := 61) dX4_wantItem_61 ?_
          refine z_aload_n (pc := 62) dX4_wantItem_62 1 rfl ?_
          refine z_get (pc := 63) (q0 := 0) (v := .int (iI 1)) fL_X4_213 dX4_wantItem_63 rfl rfl ?_
          refine z_if_eq (pc := 66) (tgt := 73) dX4_wantItem_66 (by decide) (by omega) (fun h66 => ?_) (fun h66 => ?_)
          · skip
            exfalso; omega
          · skip
            refine z_iload_n (pc := 69) dX4_wantItem_69 0 rfl ?_
            refine z_goto (pc := 70) (tgt := 79) dX4_wantItem_70 (by decide) ?_
            refine z_iast (pc := 79) (q0 := 1) (ws2 := [(m, .inr (4, [.ref mR, .ref mF, .ref mT, .ref mB, .ref mTp, .int (iI tn), .int (iI (tS tc tn (tE tc tn (tE tc tn p)))), .int (iI (tB tc tn (tE tc tn (tE tc tn p)))), .int (iI (tE tc tn (tE tc tn (tE tc tn p)))), .long (jI (tW tc tn (tE tc tn (tE tc tn p)))), .int (iI (tV tc tn (tE tc tn (tE tc tn p)))), .int (iI 1), .ref mBo, .ref mSo, .ref mSh, .ref mLe, .ref mIm, .ref mBf, .int ik])), (mR, .inl (cI, 35, .inl (rowA (up2 g 4 1 (tV tc tn (tE tc tn p)))))), (mTp, .inl (cI, 120, .inl (ar tc)))]) dX4_wantItem_79 rfl (by omega) (by decide) (by rw [rowA_up4 (z := 1) (by decide) (by decide)]; try rfl) ?_
            refine z_goto (pc := 80) (tgt := 88) dX4_wantItem_80 (by decide) ?_
            exact z_vret (pc := 88) dX4_wantItem_88 rfl (by rw [eI, bI_t (show (1 : Int) = 1 from rfl)])
        · skip
          refine z_ws (ws2 := [(m, .inr (4, [.ref mR, .ref mF, .ref mT, .ref mB, .ref mTp, .int (iI tn), .int (iI (tS tc tn (tE tc tn p))), .int (iI (tB tc tn (tE tc tn p))), .int (iI (tE tc tn (tE tc tn p))), .long (jI (tW tc tn (tE tc tn p))), .int (iI (tV tc tn (tE tc tn p))), .int (iI 0), .ref mBo, .ref mSo, .ref mSh, .ref mLe, .ref mIm, .ref mBf, .int ik])), (mR, .inl (cI, 35, .inl (rowA g))), (mTp, .inl (cI, 120, .inl (ar tc)))]) (by rw [show nxN tc tn (tE tc tn p) 0 59 = tE tc tn p from if_neg hA, bI_f hA]) ?_
          have eI : itT tc tn p g = (0, tE tc tn p, g) := by unfold itT; rw [if_neg (by omega), if_neg h25, if_pos h42]; unfold itD; rw [if_neg hA]
          refine z_istore_n (pc := 56) (lv2 := [(1, .int (iI (tV tc tn (tE tc tn p)))), (0, .ref m)]) dX4_wantItem_56 rfl (by decide) rfl ?_
          refine z_aload_n (pc := 57) dX4_wantItem_57 1 rfl ?_
          refine z_get (pc := 58) (q0 := 0) (v := .ref mR) fL_X4_7 dX4_wantItem_58 rfl rfl ?_
          refine z_iconst (pc := 61) dX4_wantItem_61 ?_
          refine z_aload_n (pc := 62) dX4_wantItem_62 1 rfl ?_
          refine z_get (pc := 63) (q0 := 0) (v := .int (iI 0)) fL_X4_213 dX4_wantItem_63 rfl rfl ?_
          refine z_if_eq (pc := 66) (tgt := 73) dX4_wantItem_66 (by decide) (by omega) (fun h66 => ?_) (fun h66 => ?_)
          · skip
            refine z_aload_n (pc := 73) dX4_wantItem_73 1 rfl ?_
            refine z_get (pc := 74) (q0 := 0) (v := .ref mR) fL_X4_7 dX4_wantItem_74 rfl rfl ?_
            refine z_iconst (pc := 77) dX4_wantItem_77 ?_
            refine z_iald (pc := 78) (q0 := 1) (v := (iI (g 4 1))) dX4_wantItem_78 rfl (by omega) (by decide) (rowA_4 (by decide) (by decide)) ?_
            refine z_iast (pc := 79) (q0 := 1) (ws2 := [(m, .inr (4, [.ref mR, .ref mF, .ref mT, .ref mB, .ref mTp, .int (iI tn), .int (iI (tS tc tn (tE tc tn p))), .int (iI (tB tc tn (tE tc tn p))), .int (iI (tE tc tn (tE tc tn p))), .long (jI (tW tc tn (tE tc tn p))), .int (iI (tV tc tn (tE tc tn p))), .int (iI 0), .ref mBo, .ref mSo, .ref mSh, .ref mLe, .ref mIm, .ref mBf, .int ik])), (mR, .inl (cI, 35, .inl (rowA (up2 g 4 1 (g 4 1))))), (mTp, .inl (cI, 120, .inl (ar tc)))]) dX4_wantItem_79 rfl (by omega) (by decide) (by rw [rowA_up4 (z := 1) (by decide) (by decide)]; try rfl) ?_
            refine z_goto (pc := 80) (tgt := 88) dX4_wantItem_80 (by decide) ?_
            exact z_vret (pc := 88) dX4_wantItem_88 rfl (by rw [eI, bI_f (show ¬ (0 : Int) = 1 by decide), up2_self])
          · skip
            exfalso; omega
    · skip
      refine z_aload_n (pc := 28) dX4_wantItem_28 0 rfl ?_
      refine z_callV (pc := 29) (st := []) (st2 := []) (ws2 := [(m, .inr (4, [.ref mR, .ref mF, .ref mT, .ref mB, .ref mTp, .int (iI tn), .int (iI (tS tc tn ((itP tc tn p g).2.1))), .int (iI (tB tc tn ((itP tc tn p g).2.1))), .int (iI (tE tc tn ((itP tc tn p g).2.1))), .long (jI (tW tc tn ((itP tc tn p g).2.1))), .int (iI (tV tc tn ((itP tc tn p g).2.1))), .int (bI ((itP tc tn p g).1 = 1)), .ref mBo, .ref mSo, .ref mSh, .ref mLe, .ref mIm, .ref mBf, .int ik])), (mR, .inl (cI, 35, .inl (rowA ((itP tc tn p g).2.2)))), (mTp, .inl (cI, 120, .inl (ar tc)))]) (q0 := 0) (c_X4_wantPush l D cI cJ cB cS xa m mR mF mT mB mTp mBo mSo mSh mLe mIm mBf tn ik g tc p ok (by assumption) (by omega)) mV_X4_wantPush kM_X4_239 dX4_wantItem_29 rfl rfl [0, 1, 2] rfl rfl rfl rfl rfl rfl rfl rfl ⟨Nat.le_of_ble_eq_true rfl, Nat.le_of_ble_eq_true rfl, Nat.le_of_ble_eq_true rfl⟩ ?_
      have eI : itT tc tn p g = itP tc tn p g := by unfold itT; rw [if_neg (by omega), if_pos h25]
      refine z_goto (pc := 32) (tgt := 88) dX4_wantItem_32 (by decide) ?_
      exact z_vret (pc := 88) dX4_wantItem_88 rfl (by rw [eI])
  · skip
    refine z_aload_n (pc := 7) dX4_wantItem_7 0 rfl ?_
    refine z_aload_n (pc := 8) dX4_wantItem_8 0 rfl ?_
    refine z_callV (pc := 9) (st := [.ref m]) (st2 := [.int (iI (kdT tc tn p)), .ref m]) (ws2 := [(m, .inr (4, [.ref mR, .ref mF, .ref mT, .ref mB, .ref mTp, .int (iI tn), .int (iI (tS tc tn p)), .int (iI (tB tc tn p)), .int (iI (tE tc tn p)), .long (jI (tW tc tn p)), .int (iI (tV tc tn p)), .int (iI 1), .ref mBo, .ref mSo, .ref mSh, .ref mLe, .ref mIm, .ref mBf, .int ik])), (mR, .inl (cI, 35, .inl (rowA g))), (mTp, .inl (cI, 120, .inl (ar tc)))]) (q0 := 0) (c_X4_kindHere l D cI cJ cB cS xa m mR mF mT mB mTp mBo mSo mSh mLe mIm mBf tn (iI 1) ik tc p (by assumption) (by omega)) mV_X4_kindHere kM_X4_231 dX4_wantItem_9 rfl rfl [0] rfl rfl rfl rfl rfl rfl rfl rfl ⟨Nat.le_of_ble_eq_true rfl, Nat.le_of_ble_eq_true rfl, Nat.le_of_ble_eq_true rfl⟩ ?_
    have f9_6 := kdT_rng tc tn p
    refine z_callV (pc := 12) (st := []) (st2 := []) (ws2 := [(m, .inr (4, [.ref mR, .ref mF, .ref mT, .ref mB, .ref mTp, .int (iI tn), .int (iI (tS tc tn ((itC tc tn p g).2.1))), .int (iI (tB tc tn ((itC tc tn p g).2.1))), .int (iI (tE tc tn ((itC tc tn p g).2.1))), .long (jI (tW tc tn ((itC tc tn p g).2.1))), .int (iI (tV tc tn ((itC tc tn p g).2.1))), .int (bI ((itC tc tn p g).1 = 1)), .ref mBo, .ref mSo, .ref mSh, .ref mLe, .ref mIm, .ref mBf, .int ik])), (mR, .inl (cI, 35, .inl (rowA ((itC tc tn p g).2.2)))), (mTp, .inl (cI, 120, .inl (ar tc)))]) (q0 := 0) (c_X4_wantOne l D cI cJ cB cS xa m mR mF mT mB mTp mBo mSo mSh mLe mIm mBf tn ik g tc p (kdT tc tn p) ok (by assumption) (by omega) (rfl) (by omega)) mV_X4_wantOne kM_X4_234 dX4_wantItem_12 rfl rfl [0, 1, 2] rfl rfl rfl rfl rfl rfl rfl rfl ⟨Nat.le_of_ble_eq_true rfl, Nat.le_of_ble_eq_true rfl, Nat.le_of_ble_eq_true rfl⟩ ?_
    have eI : itT tc tn p g = itC tc tn p g := by unfold itT; rw [if_pos (by omega)]
    refine z_goto (pc := 15) (tgt := 88) dX4_wantItem_15 (by decide) ?_
    exact z_vret (pc := 88) dX4_wantItem_88 rfl (by rw [eI])
set_option maxHeartbeats 8000000 in
set_option maxRecDepth 100000 in
theorem c_X4_ground (l : Launch) (D : va_G) (cI cJ cB cS : ClassId) (xa : XA) (m mR mF mT mB mTp mBo mSo mSh mLe mIm mBf : Nat) (tn so be te va : Int) (wd : Int64) (gd ik : Int32) (g : Gd) (tc : FF) (fb : Nat → Int32) (ok : Ok g) (hT : OkT tc tn) : CtE (S := (Int × Int × Int × Int × Int64 × Int × (Nat → Int32))) l D cI cJ cB cS xa yX4_ground cX4_ground 3 (some .int) 7 155 [.ref m] [(m, .inr (4, [.ref mR, .ref mF, .ref mT, .ref mB, .ref mTp, .int (iI tn), .int (iI so), .int (iI be), .int (iI te), .long wd, .int (iI va), .int gd, .ref mBo, .ref mSo, .ref mSh, .ref mLe, .ref mIm, .ref mBf, .int ik])), (mR, .inl (cI, 35, .inl (rowA g))), (mTp, .inl (cI, 120, .inl (ar tc))), (mBf, .inl (cI, 35, .inl fb))] (fun u : (Int × Int × Int × Int × Int64 × Int × (Nat → Int32)) => match u with | (so2, be2, te2, va2, wd2, gd2, fb2) => True) (fun u : (Int × Int × Int × Int × Int64 × Int × (Nat → Int32)) => match u with | (so2, be2, te2, va2, wd2, gd2, fb2) => (some (.int ((opGround tc tn g).1)))) (fun u : (Int × Int × Int × Int × Int64 × Int × (Nat → Int32)) => match u with | (so2, be2, te2, va2, wd2, gd2, fb2) => [(m, .inr (4, [.ref mR, .ref mF, .ref mT, .ref mB, .ref mTp, .int (iI 0), .int (iI so2), .int (iI be2), .int (iI te2), .long wd2, .int (iI va2), .int (iI gd2), .ref mBo, .ref mSo, .ref mSh, .ref mLe, .ref mIm, .ref mBf, .int ik])), (mR, .inl (cI, 35, .inl (rowA ((opGround tc tn g).2)))), (mTp, .inl (cI, 120, .inl (ar tc))), (mBf, .inl (cI, 35, .inl fb2))]) := by
  have hT2 := hT.2
  have o0 := ok0 ok
  have o1 := ok1 ok
  have o2 := ok2 ok
  refine CtE.of (own := RX4) (lv := [(0, .ref m)]) (by decide) rfl rfl (Nat.le_of_ble_eq_true rfl) ?_
  intro xp xe xs xm xb xt xc
  refine z_aload_n (pc := 0) dX4_ground_0 0 rfl ?_
  refine z_iconst (pc := 1) dX4_ground_1 ?_
  refine z_aload_n (pc := 2) dX4_ground_2 0 rfl ?_
  refine z_get (pc := 3) (q0 := 0) (v := .ref mBf) fL_X4_41 dX4_ground_3 rfl rfl ?_
  refine z_callV (pc := 6) (st := []) (st2 := []) (ws2 := [(m, .inr (4, [.ref mR, .ref mF, .ref mT, .ref mB, .ref mTp, .int (iI tn), .int (iI so), .int (iI be), .int (iI te), .long wd, .int (iI va), .int gd, .ref mBo, .ref mSo, .ref mSh, .ref mLe, .ref mIm, .ref mBf, .int ik])), (mR, .inl (cI, 35, .inl (rowA g))), (mTp, .inl (cI, 120, .inl (ar tc))), (mBf, .inl (cI, 35, .inl (rowA g)))]) (q0 := 0) (c_X4_moveAll l D cI cJ cB cS xa m mR mF mT mB mTp mBo mSo mSh mLe mIm mBf tn so be te va wd gd ik mBf (rowA g) fb ) mV_X4_moveAll kM_X4_151 dX4_ground_6 rfl rfl [0, 1, 3] rfl rfl rfl rfl rfl rfl rfl rfl ⟨Nat.le_of_ble_eq_true rfl, Nat.le_of_ble_eq_true rfl, Nat.le_of_ble_eq_true rfl⟩ ?_
  refine z_aload_n (pc := 9) dX4_ground_9 0 rfl ?_
  refine z_iconst (pc := 10) dX4_ground_10 ?_
  refine z_put (pc := 11) (q0 := 0) (ws2 := [(m, .inr (4, [.ref mR, .ref mF, .ref mT, .ref mB, .ref mTp, .int (iI tn), .int (iI so), .int (iI be), .int (iI 0), .long wd, .int (iI va), .int gd, .ref mBo, .ref mSo, .ref mSh, .ref mLe, .ref mIm, .ref mBf, .int ik])), (mR, .inl (cI, 35, .inl (rowA g))), (mTp, .inl (cI, 120, .inl (ar tc))), (mBf, .inl (cI, 35, .inl (rowA g)))]) fP_X4_166 dX4_ground_11 rfl rfl rfl (Nat.le_of_ble_eq_true rfl) rfl ?_
  refine z_aload_n (pc := 14) dX4_ground_14 0 rfl ?_
  refine z_iconst (pc := 15) dX4_ground_15 ?_
  refine z_put (pc := 16) (q0 := 0) (ws2 := [(m, .inr (4, [.ref mR, .ref mF, .ref mT, .ref mB, .ref mTp, .int (iI tn), .int (iI so), .int (iI be), .int (iI 0), .long wd, .int (iI va), .int (iI 1), .ref mBo, .ref mSo, .ref mSh, .ref mLe, .ref mIm, .ref mBf, .int ik])), (mR, .inl (cI, 35, .inl (rowA g))), (mTp, .inl (cI, 120, .inl (ar tc))), (mBf, .inl (cI, 35, .inl (rowA g)))]) fP_X4_213 dX4_ground_16 rfl (by decide) (by decide) (Nat.le_of_ble_eq_true rfl) rfl ?_
  refine z_iconst (pc := 19) dX4_ground_19 ?_
  refine z_istore_n (pc := 20) (lv2 := [(1, .int (iI 0)), (0, .ref m)]) dX4_ground_20 rfl (by decide) rfl ?_
  refine z_iconst (pc := 21) dX4_ground_21 ?_
  refine z_istore_n (pc := 22) (lv2 := [(2, .int (iI 1)), (1, .int (iI 0)), (0, .ref m)]) dX4_ground_22 rfl (by decide) rfl ?_
  have LP23 : ∀ (nn_ : Nat) (i : Int) (f : Int) (so2 : Int) (be2 : Int) (te2 : Int) (va2 : Int) (wd2 : Int64) (gd2 : Int) (gg : Gd), (0 ≤ i ∧ i ≤ 121) → (f = 0 ∨ f = 1) → (f = 1 → gd2 = 1 ∧ (0 ≤ te2 ∧ te2 ≤ tn ∧ i ≤ te2) ∧ Ok gg ∧ psT tc tn (121 - i).toNat te2 gg i = psT tc tn 121 0 g 0) → (f = 0 → (gd2 = 0 ∨ gd2 = 1) ∧ (0 ≤ so2 ∧ so2 ≤ 3 ∧ 0 ≤ be2 ∧ be2 ≤ 120 ∧ 1 ≤ i) ∧ ((gd2 = 1 ∧ so2 = 0) → psT tc tn 121 0 g 0 = (i, gg)) ∧ (¬ (gd2 = 1 ∧ so2 = 0) → (psT tc tn 121 0 g 0).1 = -1 - be2)) → (130 - i).toNat < nn_ → Z xp l xe { frames := 7, cells := 0, slots := 0, locals := 155 } xs xm ([.ref m] : List Value).toArray xb xt xc 0 0 (MQ xb (Cq (S := (Int × Int × Int × Int × Int64 × Int × (Nat → Int32))) D [(m, .inr (4, [.ref mR, .ref mF, .ref mT, .ref mB, .ref mTp, .int (iI tn), .int (iI so), .int (iI be), .int (iI te), .long wd, .int (iI va), .int gd, .ref mBo, .ref mSo, .ref mSh, .ref mLe, .ref mIm, .ref mBf, .int ik])), (mR, .inl (cI, 35, .inl (rowA g))), (mTp, .inl (cI, 120, .inl (ar tc))), (mBf, .inl (cI, 35, .inl fb))] (fun u : (Int × Int × Int × Int × Int64 × Int × (Nat → Int32)) => match u with | (so2, be2, te2, va2, wd2, gd2, fb2) => True) (fun u : (Int × Int × Int × Int × Int64 × Int × (Nat → Int32)) => match u with | (so2, be2, te2, va2, wd2, gd2, fb2) => (some (.int ((opGround tc tn g).1)))) (fun u : (Int × Int × Int × Int × Int64 × Int × (Nat → Int32)) => match u with | (so2, be2, te2, va2, wd2, gd2, fb2) => [(m, .inr (4, [.ref mR, .ref mF, .ref mT, .ref mB, .ref mTp, .int (iI 0), .int (iI so2), .int (iI be2), .int (iI te2), .long wd2, .int (iI va2), .int (iI gd2), .ref mBo, .ref mSo, .ref mSh, .ref mLe, .ref mIm, .ref mBf, .int ik])), (mR, .inl (cI, 35, .inl (rowA ((opGround tc tn g).2)))), (mTp, .inl (cI, 120, .inl (ar tc))), (mBf, .inl (cI, 35, .inl fb2))])) ([.ref m] : List Value).toArray xs 0 0 (va_A0 [(m, .inr (4, [.ref mR, .ref mF, .ref mT, .ref mB, .ref mTp, .int (iI tn), .int (iI so), .int (iI be), .int (iI te), .long wd, .int (iI va), .int gd, .ref mBo, .ref mSo, .ref mSh, .ref mLe, .ref mIm, .ref mBf, .int ik])), (mR, .inl (cI, 35, .inl (rowA g))), (mTp, .inl (cI, 120, .inl (ar tc))), (mBf, .inl (cI, 35, .inl fb))])) cX4_ground RX4 3 (some .int) D cI cJ cB cS xa (va_A0 [(m, .inr (4, [.ref mR, .ref mF, .ref mT, .ref mB, .ref mTp, .int (iI tn), .int (iI so), .int (iI be), .int (iI te), .long wd, .int (iI va), .int gd, .ref mBo, .ref mSo, .ref mSh, .ref mLe, .ref mIm, .ref mBf, .int ik])), (mR, .inl (cI, 35, .inl (rowA g))), (mTp, .inl (cI, 120, .inl (ar tc))), (mBf, .inl (cI, 35, .inl fb))]) [(m, .inr (4, [.ref mR, .ref mF, .ref mT, .ref mB, .ref mTp, .int (iI tn), .int (iI so2), .int (iI be2), .int (iI te2), .long wd2, .int (iI va2), .int (iI gd2), .ref mBo, .ref mSo, .ref mSh, .ref mLe, .ref mIm, .ref mBf, .int ik])), (mR, .inl (cI, 35, .inl (rowA gg))), (mTp, .inl (cI, 120, .inl (ar tc))), (mBf, .inl (cI, 35, .inl (rowA g)))] [(0, .ref m), (1, .int (iI i)), (2, .int (iI f))] 23 [] := by
    intro nn_
    induction nn_ with
    | zero => intro i f so2 be2 te2 va2 wd2 gd2 gg hi hf h1 h0 hms; exact absurd hms (Nat.not_lt_zero _)
    | succ nn_ ih =>
      intro i f so2 be2 te2 va2 wd2 gd2 gg hi hf h1 h0 hms
      have ih23 := ih
      clear ih
      refine z_iload_n (pc := 23) dX4_ground_23 2 rfl ?_
      refine z_if_eq (pc := 24) (tgt := 71) dX4_ground_24 (by decide) (by omega) (fun h24 => ?_) (fun h24 => ?_)
      · skip
        obtain ⟨hgd, hrn, hyes, hno⟩ := h0 (by omega)
        refine z_aload_n (pc := 71) dX4_ground_71 0 rfl ?_
        refine z_aload_n (pc := 72) dX4_ground_72 0 rfl ?_
        refine z_get (pc := 73) (q0 := 0) (v := .int (iI gd2)) fL_X4_213 dX4_ground_73 rfl rfl ?_
        refine z_if_eq (pc := 76) (tgt := 90) dX4_ground_76 (by decide) (by omega) (fun h76 => ?_) (fun h76 => ?_)
        · skip
          refine z_iconst (pc := 90) dX4_ground_90 ?_
          refine z_put (pc := 91) (q0 := 0) (ws2 := [(m, .inr (4, [.ref mR, .ref mF, .ref mT, .ref mB, .ref mTp, .int (iI tn), .int (iI so2), .int (iI be2), .int (iI te2), .long wd2, .int (iI va2), .int (iI 0), .ref mBo, .ref mSo, .ref mSh, .ref mLe, .ref mIm, .ref mBf, .int ik])), (mR, .inl (cI, 35, .inl (rowA gg))), (mTp, .inl (cI, 120, .inl (ar tc))), (mBf, .inl (cI, 35, .inl (rowA g)))]) fP_X4_213 dX4_ground_91 rfl (by decide) (by decide) (Nat.le_of_ble_eq_true rfl) rfl ?_
          refine z_aload_n (pc := 94) dX4_ground_94 0 rfl ?_
          refine z_iconst (pc := 95) dX4_ground_95 ?_
          refine z_put (pc := 96) (q0 := 0) (ws2 := [(m, .inr (4, [.ref mR, .ref mF, .ref mT, .ref mB, .ref mTp, .int (iI 0), .int (iI so2), .int (iI be2), .int (iI te2), .long wd2, .int (iI va2), .int (iI 0), .ref mBo, .ref mSo, .ref mSh, .ref mLe, .ref mIm, .ref mBf, .int ik])), (mR, .inl (cI, 35, .inl (rowA gg))), (mTp, .inl (cI, 120, .inl (ar tc))), (mBf, .inl (cI, 35, .inl (rowA g)))]) fP_X4_162 dX4_ground_96 rfl rfl rfl (Nat.le_of_ble_eq_true rfl) rfl ?_
          refine z_aload_n (pc := 99) dX4_ground_99 0 rfl ?_
          refine z_get (pc := 100) (q0 := 0) (v := .int (iI 0)) fL_X4_213 dX4_ground_100 rfl rfl ?_
          refine z_if_ne (pc := 103) (tgt := 122) dX4_ground_103 (by decide) (by omega) (fun h103 => ?_) (fun h103 => ?_)
          · skip
            exfalso; omega
          · skip
            refine z_aload_n (pc := 106) dX4_ground_106 0 rfl ?_
            refine z_iconst (pc := 107) dX4_ground_107 ?_
            refine z_aload_n (pc := 108) dX4_ground_108 0 rfl ?_
            refine z_get (pc := 109) (q0 := 0) (v := .ref mBf) fL_X4_41 dX4_ground_109 rfl rfl ?_
            refine z_callV (pc := 112) (st := []) (st2 := []) (ws2 := [(m, .inr (4, [.ref mR, .ref mF, .ref mT, .ref mB, .ref mTp, .int (iI 0), .int (iI so2), .int (iI be2), .int (iI te2), .long wd2, .int (iI va2), .int (iI 0), .ref mBo, .ref mSo, .ref mSh, .ref mLe, .ref mIm, .ref mBf, .int ik])), (mR, .inl (cI, 35, .inl (rowA g))), (mTp, .inl (cI, 120, .inl (ar tc))), (mBf, .inl (cI, 35, .inl (rowA g)))]) (q0 := 0) (c_X4_moveAll_b l D cI cJ cB cS xa m mR mF mT mB mTp mBo mSo mSh mLe mIm mBf 0 so2 be2 te2 va2 wd2 (iI 0) ik mBf (rowA gg) (rowA g) ) mV_X4_moveAll kM_X4_151 dX4_ground_112 rfl rfl [0, 1, 3] rfl rfl rfl rfl rfl rfl rfl rfl ⟨Nat.le_of_ble_eq_true rfl, Nat.le_of_ble_eq_true rfl, Nat.le_of_ble_eq_true rfl⟩ ?_
            refine z_iconst (pc := 115) dX4_ground_115 ?_
            refine z_aload_n (pc := 116) dX4_ground_116 0 rfl ?_
            refine z_get (pc := 117) (q0 := 0) (v := .int (iI be2)) fL_X4_169 dX4_ground_117 rfl rfl ?_
            refine z_isub (pc := 120) dX4_ground_120 ?_
            have e9 : opGround tc tn g = ((iI ((-1) - be2)), g) := by
              have e8 := hno (by omega)
              unfold opGround; rw [e8, if_neg (by omega)]
            exact z_iretE (pc := 121) dX4_ground_121 (so2, be2, te2, va2, wd2, 0, rowA g) trivial (by rw [e9]) (by rw [e9])
        · skip
          refine z_aload_n (pc := 79) dX4_ground_79 0 rfl ?_
          refine z_get (pc := 80) (q0 := 0) (v := .int (iI so2)) fL_X4_181 dX4_ground_80 rfl rfl ?_
          refine z_if_ne (pc := 83) (tgt := 90) dX4_ground_83 (by decide) (by omega) (fun h83 => ?_) (fun h83 => ?_)
          · skip
            refine z_iconst (pc := 90) dX4_ground_90 ?_
            refine z_put (pc := 91) (q0 := 0) (ws2 := [(m, .inr (4, [.ref mR, .ref mF, .ref mT, .ref mB, .ref mTp, .int (iI tn), .int (iI so2), .int (iI be2), .int (iI te2), .long wd2, .int (iI va2), .int (iI 0), .ref mBo, .ref mSo, .ref mSh, .ref mLe, .ref mIm, .ref mBf, .int ik])), (mR, .inl (cI, 35, .inl (rowA gg))), (mTp, .inl (cI, 120, .inl (ar tc))), (mBf, .inl (cI, 35, .inl (rowA g)))]) fP_X4_213 dX4_ground_91 rfl (by decide) (by decide) (Nat.le_of_ble_eq_true rfl) rfl ?_
            refine z_aload_n (pc := 94) dX4_ground_94 0 rfl ?_
            refine z_iconst (pc := 95) dX4_ground_95 ?_
            refine z_put (pc := 96) (q0 := 0) (ws2 := [(m, .inr (4, [.ref mR, .ref mF, .ref mT, .ref mB, .ref mTp, .int (iI 0), .int (iI so2), .int (iI be2), .int (iI te2), .long wd2, .int (iI va2), .int (iI 0), .ref mBo, .ref mSo, .ref mSh, .ref mLe, .ref mIm, .ref mBf, .int ik])), (mR, .inl (cI, 35, .inl (rowA gg))), (mTp, .inl (cI, 120, .inl (ar tc))), (mBf, .inl (cI, 35, .inl (rowA g)))]) fP_X4_162 dX4_ground_96 rfl rfl rfl (Nat.le_of_ble_eq_true rfl) rfl ?_
            refine z_aload_n (pc := 99) dX4_ground_99 0 rfl ?_
            refine z_get (pc := 100) (q0 := 0) (v := .int (iI 0)) fL_X4_213 dX4_ground_100 rfl rfl ?_
            refine z_if_ne (pc := 103) (tgt := 122) dX4_ground_103 (by decide) (by omega) (fun h103 => ?_) (fun h103 => ?_)
            · skip
              exfalso; omega
            · skip
              refine z_aload_n (pc := 106) dX4_ground_106 0 rfl ?_
              refine z_iconst (pc := 107) dX4_ground_107 ?_
              refine z_aload_n (pc := 108) dX4_ground_108 0 rfl ?_
              refine z_get (pc := 109) (q0 := 0) (v := .ref mBf) fL_X4_41 dX4_ground_109 rfl rfl ?_
              refine z_callV (pc := 112) (st := []) (st2 := []) (ws2 := [(m, .inr (4, [.ref mR, .ref mF, .ref mT, .ref mB, .ref mTp, .int (iI 0), .int (iI so2), .int (iI be2), .int (iI te2), .long wd2, .int (iI va2), .int (iI 0), .ref mBo, .ref mSo, .ref mSh, .ref mLe, .ref mIm, .ref mBf, .int ik])), (mR, .inl (cI, 35, .inl (rowA g))), (mTp, .inl (cI, 120, .inl (ar tc))), (mBf, .inl (cI, 35, .inl (rowA g)))]) (q0 := 0) (c_X4_moveAll_b l D cI cJ cB cS xa m mR mF mT mB mTp mBo mSo mSh mLe mIm mBf 0 so2 be2 te2 va2 wd2 (iI 0) ik mBf (rowA gg) (rowA g) ) mV_X4_moveAll kM_X4_151 dX4_ground_112 rfl rfl [0, 1, 3] rfl rfl rfl rfl rfl rfl rfl rfl ⟨Nat.le_of_ble_eq_true rfl, Nat.le_of_ble_eq_true rfl, Nat.le_of_ble_eq_true rfl⟩ ?_
              refine z_iconst (pc := 115) dX4_ground_115 ?_
              refine z_aload_n (pc := 116) dX4_ground_116 0 rfl ?_
              refine z_get (pc := 117) (q0 := 0) (v := .int (iI be2)) fL_X4_169 dX4_ground_117 rfl rfl ?_
              refine z_isub (pc := 120) dX4_ground_120 ?_
              have e9 : opGround tc tn g = ((iI ((-1) - be2)), g) := by
                have e8 := hno (by omega)
                unfold opGround; rw [e8, if_neg (by omega)]
              exact z_iretE (pc := 121) dX4_ground_121 (so2, be2, te2, va2, wd2, 0, rowA g) trivial (by rw [e9]) (by rw [e9])
          · skip
            refine z_iconst (pc := 86) dX4_ground_86 ?_
            refine z_goto (pc := 87) (tgt := 91) dX4_ground_87 (by decide) ?_
            refine z_put (pc := 91) (q0 := 0) (ws2 := [(m, .inr (4, [.ref mR, .ref mF, .ref mT, .ref mB, .ref mTp, .int (iI tn), .int (iI so2), .int (iI be2), .int (iI te2), .long wd2, .int (iI va2), .int (iI 1), .ref mBo, .ref mSo, .ref mSh, .ref mLe, .ref mIm, .ref mBf, .int ik])), (mR, .inl (cI, 35, .inl (rowA gg))), (mTp, .inl (cI, 120, .inl (ar tc))), (mBf, .inl (cI, 35, .inl (rowA g)))]) fP_X4_213 dX4_ground_91 rfl (by decide) (by decide) (Nat.le_of_ble_eq_true rfl) rfl ?_
            refine z_aload_n (pc := 94) dX4_ground_94 0 rfl ?_
            refine z_iconst (pc := 95) dX4_ground_95 ?_
            refine z_put (pc := 96) (q0 := 0) (ws2 := [(m, .inr (4, [.ref mR, .ref mF, .ref mT, .ref mB, .ref mTp, .int (iI 0), .int (iI so2), .int (iI be2), .int (iI te2), .long wd2, .int (iI va2), .int (iI 1), .ref mBo, .ref mSo, .ref mSh, .ref mLe, .ref mIm, .ref mBf, .int ik])), (mR, .inl (cI, 35, .inl (rowA gg))), (mTp, .inl (cI, 120, .inl (ar tc))), (mBf, .inl (cI, 35, .inl (rowA g)))]) fP_X4_162 dX4_ground_96 rfl rfl rfl (Nat.le_of_ble_eq_true rfl) rfl ?_
            refine z_aload_n (pc := 99) dX4_ground_99 0 rfl ?_
            refine z_get (pc := 100) (q0 := 0) (v := .int (iI 1)) fL_X4_213 dX4_ground_100 rfl rfl ?_
            refine z_if_ne (pc := 103) (tgt := 122) dX4_ground_103 (by decide) (by omega) (fun h103 => ?_) (fun h103 => ?_)
            · skip
              refine z_iload_n (pc := 122) dX4_ground_122 1 rfl ?_
              have e9 : opGround tc tn g = ((iI i), gg) := by
                have e8 := hyes ⟨by omega, by omega⟩
                unfold opGround; rw [e8, if_pos (by show 0 ≤ i; omega)]
              exact z_iretE (pc := 123) dX4_ground_123 (so2, be2, te2, va2, wd2, 1, rowA g) trivial (by rw [e9]) (by rw [e9])
            · skip
              exfalso; omega
      · skip
        obtain ⟨hg1, ht2, okg, hps⟩ := h1 (by omega)
        refine z_ws (ws2 := [(m, .inr (4, [.ref mR, .ref mF, .ref mT, .ref mB, .ref mTp, .int (iI tn), .int (iI so2), .int (iI be2), .int (iI te2), .long wd2, .int (iI va2), .int (iI 1), .ref mBo, .ref mSo, .ref mSh, .ref mLe, .ref mIm, .ref mBf, .int ik])), (mR, .inl (cI, 35, .inl (rowA gg))), (mTp, .inl (cI, 120, .inl (ar tc))), (mBf, .inl (cI, 35, .inl (rowA g)))]) (by rw [hg1]) ?_
        refine z_aload_n (pc := 27) dX4_ground_27 0 rfl ?_
        refine z_callV (pc := 28) (st := []) (st2 := []) (ws2 := [(m, .inr (4, [.ref mR, .ref mF, .ref mT, .ref mB, .ref mTp, .int (iI tn), .int (iI (tS tc tn te2)), .int (iI (tB tc tn te2)), .int (iI (tE tc tn te2)), .long (jI (tW tc tn te2)), .int (iI (tV tc tn te2)), .int (iI 1), .ref mBo, .ref mSo, .ref mSh, .ref mLe, .ref mIm, .ref mBf, .int ik])), (mR, .inl (cI, 35, .inl (rowA gg))), (mTp, .inl (cI, 120, .inl (ar tc))), (mBf, .inl (cI, 35, .inl (rowA g)))]) (q0 := 0) (c_X4_advance l D cI cJ cB cS xa m mR mF mT mB mTp mBo mSo mSh mLe mIm mBf tn so2 be2 va2 wd2 (iI 1) ik tc te2 (by assumption) (by omega)) mV_X4_advance kM_X4_217 dX4_ground_28 rfl rfl [0, 2] rfl rfl rfl rfl rfl rfl rfl rfl ⟨Nat.le_of_ble_eq_true rfl, Nat.le_of_ble_eq_true rfl, Nat.le_of_ble_eq_true rfl⟩ ?_
        have f28_1 := tB_rng hT (show 0 ≤ te2 ∧ te2 ≤ tn by omega)
        have f28_2 := tE_q hT (show 0 ≤ te2 ∧ te2 ≤ tn by omega)
        have f28_3 := tS_rng tc tn te2
        have f28_4 := tV_rng hT (show 0 ≤ te2 ∧ te2 ≤ tn by omega)
        refine z_aload_n (pc := 31) dX4_ground_31 0 rfl ?_
        refine z_callV (pc := 32) (st := []) (st2 := []) (ws2 := [(m, .inr (4, [.ref mR, .ref mF, .ref mT, .ref mB, .ref mTp, .int (iI tn), .int (iI (tS tc tn ((itT tc tn te2 gg).2.1))), .int (iI (tB tc tn ((itT tc tn te2 gg).2.1))), .int (iI (tE tc tn ((itT tc tn te2 gg).2.1))), .long (jI (tW tc tn ((itT tc tn te2 gg).2.1))), .int (iI (tV tc tn ((itT tc tn te2 gg).2.1))), .int (bI ((itT tc tn te2 gg).1 = 1)), .ref mBo, .ref mSo, .ref mSh, .ref mLe, .ref mIm, .ref mBf, .int ik])), (mR, .inl (cI, 35, .inl (rowA ((itT tc tn te2 gg).2.2)))), (mTp, .inl (cI, 120, .inl (ar tc))), (mBf, .inl (cI, 35, .inl (rowA g)))]) (q0 := 0) (c_X4_wantItem l D cI cJ cB cS xa m mR mF mT mB mTp mBo mSo mSh mLe mIm mBf tn ik gg tc te2 okg (by assumption) (by omega)) mV_X4_wantItem kM_X4_244 dX4_ground_32 rfl rfl [0, 1, 2] rfl rfl rfl rfl rfl rfl rfl rfl ⟨Nat.le_of_ble_eq_true rfl, Nat.le_of_ble_eq_true rfl, Nat.le_of_ble_eq_true rfl⟩ ?_
        have f32_5 := itT_rng hT (show 0 ≤ te2 ∧ te2 ≤ tn by omega) okg
        have rI := itT_rng (g := gg) hT (p := te2) (by omega) okg
        refine z_iinc (pc := 35) (lv2 := [(1, .int (iI (i + 1))), (0, .ref m), (2, .int (iI f))]) dX4_ground_35 1 rfl (by decide) rfl ?_
        refine z_aload_n (pc := 38) dX4_ground_38 1 rfl ?_
        refine z_get (pc := 39) (q0 := 0) (v := .int (bI ((itT tc tn te2 gg).1 = 1))) fL_X4_213 dX4_ground_39 rfl rfl ?_
        refine z_ifb_eq (pc := 42) (tgt := 66) dX4_ground_42 (by decide) (fun h42 => ?_) (fun h42 => ?_)
        · skip
          refine z_ws (ws2 := [(m, .inr (4, [.ref mR, .ref mF, .ref mT, .ref mB, .ref mTp, .int (iI tn), .int (iI (tS tc tn ((itT tc tn te2 gg).2.1))), .int (iI (tB tc tn ((itT tc tn te2 gg).2.1))), .int (iI (tE tc tn ((itT tc tn te2 gg).2.1))), .long (jI (tW tc tn ((itT tc tn te2 gg).2.1))), .int (iI (tV tc tn ((itT tc tn te2 gg).2.1))), .int (iI 0), .ref mBo, .ref mSo, .ref mSh, .ref mLe, .ref mIm, .ref mBf, .int ik])), (mR, .inl (cI, 35, .inl (rowA ((itT tc tn te2 gg).2.2)))), (mTp, .inl (cI, 120, .inl (ar tc))), (mBf, .inl (cI, 35, .inl (rowA g)))]) (by rw [bI_f h42]) ?_
          rw [psT_s tc tn (i := i) (by omega), if_neg h42] at hps
          have rS := tS_rng tc tn (itT tc tn te2 gg).2.1
          have rB := tB_rng hT (p := (itT tc tn te2 gg).2.1) ⟨by omega, by omega⟩
          have rE := tE_q hT (q := (itT tc tn te2 gg).2.1) ⟨by omega, by omega⟩
          have rV := tV_rng hT (p := (itT tc tn te2 gg).2.1) ⟨by omega, by omega⟩
          refine z_iconst (pc := 66) dX4_ground_66 ?_
          refine z_istore_n (pc := 67) (lv2 := [(2, .int (iI 0)), (1, .int (iI (i + 1))), (0, .ref m)]) dX4_ground_67 rfl (by decide) rfl ?_
          refine z_goto (pc := 68) (tgt := 23) dX4_ground_68 (by decide) ?_
          refine z_lv (lv2 := [(0, .ref m), (1, .int (iI (i + 1))), (2, .int (iI 0))]) [2, 1, 0] rfl ?_
          exact ih23 (i + 1) 0 (tS tc tn ((itT tc tn te2 gg).2.1)) (tB tc tn ((itT tc tn te2 gg).2.1)) (tE tc tn ((itT tc tn te2 gg).2.1)) (tV tc tn ((itT tc tn te2 gg).2.1)) (jI (tW tc tn ((itT tc tn te2 gg).2.1))) 0 ((itT tc tn te2 gg).2.2) (by omega) (by omega) (fun q => absurd q (by omega)) (fun _ => ⟨by omega, by omega, fun z => absurd z.1 (by omega), fun _ => by rw [← hps]⟩) (by omega)
        · skip
          refine z_ws (ws2 := [(m, .inr (4, [.ref mR, .ref mF, .ref mT, .ref mB, .ref mTp, .int (iI tn), .int (iI (tS tc tn ((itT tc tn te2 gg).2.1))), .int (iI (tB tc tn ((itT tc tn te2 gg).2.1))), .int (iI (tE tc tn ((itT tc tn te2 gg).2.1))), .long (jI (tW tc tn ((itT tc tn te2 gg).2.1))), .int (iI (tV tc tn ((itT tc tn te2 gg).2.1))), .int (iI 1), .ref mBo, .ref mSo, .ref mSh, .ref mLe, .ref mIm, .ref mBf, .int ik])), (mR, .inl (cI, 35, .inl (rowA ((itT tc tn te2 gg).2.2)))), (mTp, .inl (cI, 120, .inl (ar tc))), (mBf, .inl (cI, 35, .inl (rowA g)))]) (by rw [bI_t h42]) ?_
          rw [psT_s tc tn (i := i) (by omega), if_pos h42] at hps
          have rS := tS_rng tc tn (itT tc tn te2 gg).2.1
          have rB := tB_rng hT (p := (itT tc tn te2 gg).2.1) ⟨by omega, by omega⟩
          have rE := tE_q hT (q := (itT tc tn te2 gg).2.1) ⟨by omega, by omega⟩
          have rV := tV_rng hT (p := (itT tc tn te2 gg).2.1) ⟨by omega, by omega⟩
          refine z_aload_n (pc := 45) dX4_ground_45 1 rfl ?_
          refine z_get (pc := 46) (q0 := 0) (v := .int (iI (tS tc tn ((itT tc tn te2 gg).2.1)))) fL_X4_181 dX4_ground_46 rfl rfl ?_
          refine z_iconst (pc := 49) dX4_ground_49 ?_
          refine z_icmp_ne (pc := 50) (tgt := 66) dX4_ground_50 (by decide) (by omega) (by omega) (fun h50 => ?_) (fun h50 => ?_)
          · skip
            refine z_iconst (pc := 66) dX4_ground_66 ?_
            refine z_istore_n (pc := 67) (lv2 := [(2, .int (iI 0)), (1, .int (iI (i + 1))), (0, .ref m)]) dX4_ground_67 rfl (by decide) rfl ?_
            refine z_goto (pc := 68) (tgt := 23) dX4_ground_68 (by decide) ?_
            refine z_lv (lv2 := [(0, .ref m), (1, .int (iI (i + 1))), (2, .int (iI 0))]) [2, 1, 0] rfl ?_
            exact ih23 (i + 1) 0 (tS tc tn ((itT tc tn te2 gg).2.1)) (tB tc tn ((itT tc tn te2 gg).2.1)) (tE tc tn ((itT tc tn te2 gg).2.1)) (tV tc tn ((itT tc tn te2 gg).2.1)) (jI (tW tc tn ((itT tc tn te2 gg).2.1))) 1 ((itT tc tn te2 gg).2.2) (by omega) (by omega) (fun q => absurd q (by omega)) (fun _ => ⟨by omega, by omega, fun z => by rw [if_pos z.2] at hps; exact hps.symm, fun z => by rw [if_neg (by omega), if_neg (by omega)] at hps; rw [← hps]⟩) (by omega)
          · skip
            refine z_aload_n (pc := 53) dX4_ground_53 1 rfl ?_
            refine z_get (pc := 54) (q0 := 0) (v := .int (iI (tV tc tn ((itT tc tn te2 gg).2.1)))) fL_X4_188 dX4_ground_54 rfl rfl ?_
            refine z_bipush (pc := 57) dX4_ground_57 (by decide) ?_
            refine z_icmp_ne (pc := 59) (tgt := 66) dX4_ground_59 (by decide) (by omega) (by omega) (fun h59 => ?_) (fun h59 => ?_)
            · skip
              refine z_iconst (pc := 66) dX4_ground_66 ?_
              refine z_istore_n (pc := 67) (lv2 := [(2, .int (iI 0)), (1, .int (iI (i + 1))), (0, .ref m)]) dX4_ground_67 rfl (by decide) rfl ?_
              refine z_goto (pc := 68) (tgt := 23) dX4_ground_68 (by decide) ?_
              refine z_lv (lv2 := [(0, .ref m), (1, .int (iI (i + 1))), (2, .int (iI 0))]) [2, 1, 0] rfl ?_
              exact ih23 (i + 1) 0 (tS tc tn ((itT tc tn te2 gg).2.1)) (tB tc tn ((itT tc tn te2 gg).2.1)) (tE tc tn ((itT tc tn te2 gg).2.1)) (tV tc tn ((itT tc tn te2 gg).2.1)) (jI (tW tc tn ((itT tc tn te2 gg).2.1))) 1 ((itT tc tn te2 gg).2.2) (by omega) (by omega) (fun q => absurd q (by omega)) (fun _ => ⟨by omega, by omega, fun z => absurd z.2 (by omega), fun _ => by rw [if_neg (by omega), if_neg (by omega)] at hps; rw [← hps]⟩) (by omega)
            · skip
              refine z_iconst (pc := 62) dX4_ground_62 ?_
              refine z_goto (pc := 63) (tgt := 67) dX4_ground_63 (by decide) ?_
              refine z_istore_n (pc := 67) (lv2 := [(2, .int (iI 1)), (1, .int (iI (i + 1))), (0, .ref m)]) dX4_ground_67 rfl (by decide) rfl ?_
              refine z_goto (pc := 68) (tgt := 23) dX4_ground_68 (by decide) ?_
              refine z_lv (lv2 := [(0, .ref m), (1, .int (iI (i + 1))), (2, .int (iI 1))]) [2, 1, 0] rfl ?_
              exact ih23 (i + 1) 1 (tS tc tn ((itT tc tn te2 gg).2.1)) (tB tc tn ((itT tc tn te2 gg).2.1)) (tE tc tn ((itT tc tn te2 gg).2.1)) (tV tc tn ((itT tc tn te2 gg).2.1)) (jI (tW tc tn ((itT tc tn te2 gg).2.1))) 1 ((itT tc tn te2 gg).2.2) (by omega) (by omega) (fun _ => ⟨rfl, by omega, rI.2.2.2.1, by rw [if_neg (by omega), if_pos ⟨by omega, by omega⟩] at hps; exact hps⟩) (fun q => absurd q (by omega)) (by omega)
  refine z_lv (lv2 := [(0, .ref m), (1, .int (iI 0)), (2, .int (iI 1))]) [2, 1, 0] rfl ?_
  exact LP23 _ 0 1 so be 0 va wd 1 g (by omega) (by omega) (fun _ => ⟨rfl, by omega, ok, rfl⟩) (fun q => absurd q (by omega)) (Nat.lt_succ_self _)
