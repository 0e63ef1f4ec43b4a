set_option maxHeartbeats 8000000 in
set_option maxRecDepth 100000 in
theorem c_X0_isOfKind (l : Launch) (D : va_G) (cI cJ cB cS : ClassId) (xa : XA) (k w : Int) (hk : 0 ≤ k ∧ k ≤ 5) (hw : 0 ≤ w ∧ w ≤ 5) : Ct l D cI cJ cB cS xa yX0_isOfKind cX0_isOfKind 4 (some .boolean) 0 0 [.int (iI k), .int (iI w)] [] (some (.int (bI (isK k w)))) [] := by
  refine CtE.of (own := RX0) (lv := [(0, .int (iI k)), (1, .int (iI w))]) (by decide) rfl rfl (Nat.le_of_ble_eq_true rfl) ?_
  intro xp xe xs xm xb xt xc
  refine z_iload_n (pc := 0) dX0_isOfKind_0 0 rfl ?_
  refine z_istore_n (pc := 1) (lv2 := [(2, .int (iI k)), (0, .int (iI k)), (1, .int (iI w))]) dX0_isOfKind_1 rfl (by decide) rfl ?_
  refine z_iconst (pc := 2) dX0_isOfKind_2 ?_
  refine z_istore_n (pc := 3) (lv2 := [(3, .int (iI 0)), (2, .int (iI k)), (0, .int (iI k)), (1, .int (iI w))]) dX0_isOfKind_3 rfl (by decide) rfl ?_
  have LP4 : ∀ (nn_ : Nat) (a : Int) (u : Int), (-1 ≤ a ∧ a ≤ 5) → (0 ≤ u ∧ (a = -1 → u ≤ 3) ∧ (a = 0 → u ≤ 2) ∧ (1 ≤ a ∧ a ≤ 3 → u ≤ 1) ∧ (4 ≤ a → u ≤ 0)) → ((0 ≤ a ∧ (w = 0 ∨ w = a ∨ (w = 1 ∧ a = 4) ∨ (w = 2 ∧ a = 5))) ↔ (w = 0 ∨ w = k ∨ (w = 1 ∧ k = 4) ∨ (w = 2 ∧ k = 5))) → (6 - u).toNat < nn_ → Z xp l xe { frames := 0, cells := 0, slots := 0, locals := 0 } xs xm ([.int (iI k), .int (iI w)] : List Value).toArray xb xt xc 0 0 (MQ xb (Cq (S := Unit) D [] (fun _ => True) (fun _ => (some (.int (bI (isK k w))))) (fun _ => [])) ([.int (iI k), .int (iI w)] : List Value).toArray xs 0 0 (va_A0 [])) cX0_isOfKind RX0 4 (some .boolean) D cI cJ cB cS xa (va_A0 []) [] [(0, .int (iI k)), (1, .int (iI w)), (2, .int (iI a)), (3, .int (iI u))] 4 [] := by
    intro nn_
    induction nn_ with
    | zero => intro a u ia iu iq hms; exact absurd hms (Nat.not_lt_zero _)
    | succ nn_ ih =>
      intro a u ia iu iq hms
      have ih4 := ih
      clear ih
      refine z_iload_n (pc := 4) dX0_isOfKind_4 3 rfl ?_
      refine z_bipush (pc := 5) dX0_isOfKind_5 (by decide) ?_
      refine z_icmp_ge (pc := 7) (tgt := 39) dX0_isOfKind_7 (by decide) (by omega) (by omega) (fun h7 => ?_) (fun h7 => ?_)
      · skip
        exfalso; omega
      · skip
        refine z_iload_n (pc := 10) dX0_isOfKind_10 2 rfl ?_
        refine z_if_lt (pc := 11) (tgt := 39) dX0_isOfKind_11 (by decide) (by omega) (fun h11 => ?_) (fun h11 => ?_)
        · skip
          refine z_iconst (pc := 39) dX0_isOfKind_39 ?_
          exact z_zret (pc := 40) (by decide) dX0_isOfKind_40 (congrArg (fun z => some (Value.int z)) (bI_f (by omega))) rfl
        · skip
          refine z_iload_n (pc := 14) dX0_isOfKind_14 2 rfl ?_
          refine z_bipush (pc := 15) dX0_isOfKind_15 (by decide) ?_
          refine z_icmp_ge (pc := 17) (tgt := 39) dX0_isOfKind_17 (by decide) (by omega) (by omega) (fun h17 => ?_) (fun h17 => ?_)
          · skip
            exfalso; omega
          · skip
            refine z_iload_n (pc := 20) dX0_isOfKind_20 2 rfl ?_
            refine z_iload_n (pc := 21) dX0_isOfKind_21 1 rfl ?_
            refine z_icmp_ne (pc := 22) (tgt := 27) dX0_isOfKind_22 (by decide) (by omega) (by omega) (fun h22 => ?_) (fun h22 => ?_)
            · skip
              have kc := kaF_c (a := a) (by omega)
              refine z_getKA (pc := 27) kF_X0_38 dX0_isOfKind_27 ?_
              refine z_iload_n (pc := 30) dX0_isOfKind_30 2 rfl ?_
              refine z_aldKA (pc := 31) dX0_isOfKind_31 (by omega) ?_
              refine z_istore_n (pc := 32) (lv2 := [(2, .int (iI (kaF a))), (0, .int (iI k)), (1, .int (iI w)), (3, .int (iI u))]) dX0_isOfKind_32 rfl (by decide) rfl ?_
              refine z_iinc (pc := 33) (lv2 := [(3, .int (iI (u + 1))), (2, .int (iI (kaF a))), (0, .int (iI k)), (1, .int (iI w))]) dX0_isOfKind_33 3 rfl (by decide) rfl ?_
              refine z_goto (pc := 36) (tgt := 4) dX0_isOfKind_36 (by decide) ?_
              refine z_lv (lv2 := [(0, .int (iI k)), (1, .int (iI w)), (2, .int (iI (kaF a))), (3, .int (iI (u + 1)))]) [2, 3, 1, 0] rfl ?_
              exact ih4 (kaF a) (u + 1) (by omega) (by omega) (by omega) (by omega)
            · skip
              refine z_iconst (pc := 25) dX0_isOfKind_25 ?_
              exact z_zret (pc := 26) (by decide) dX0_isOfKind_26 (congrArg (fun z => some (Value.int z)) (bI_t (by omega))) rfl
  refine z_lv (lv2 := [(0, .int (iI k)), (1, .int (iI w)), (2, .int (iI k)), (3, .int (iI 0))]) [2, 3, 1, 0] rfl ?_
  exact LP4 _ k 0 (by omega) (by omega) (by omega) (Nat.lt_succ_self _)
set_option maxHeartbeats 8000000 in
set_option maxRecDepth 100000 in
theorem c_X4_in (l : Launch) (D : va_G) (cI cJ cB cS : ClassId) (xa : XA) (v a b : Int) (hv : inr v) (ha : inr a) (hb : inr b) : Ct l D cI cJ cB cS xa yX4_in cX4_in 3 (some .boolean) 0 0 [.int (iI v), .int (iI a), .int (iI b)] [] (some (.int (bI (a ≤ v ∧ v ≤ b)))) [] := by
  refine CtE.of (own := RX4) (lv := [(0, .int (iI v)), (1, .int (iI a)), (2, .int (iI b))]) (by decide) rfl rfl (Nat.le_of_ble_eq_true rfl) ?_
  intro xp xe xs xm xb xt xc
  refine z_iload_n (pc := 0) dX4_in_0 0 rfl ?_
  refine z_iload_n (pc := 1) dX4_in_1 1 rfl ?_
  refine z_icmp_lt (pc := 2) (tgt := 14) dX4_in_2 (by decide) (by omega) (by omega) (fun h2 => ?_) (fun h2 => ?_)
  · skip
    refine z_iconst (pc := 14) dX4_in_14 ?_
    exact z_zret (pc := 15) (by decide) dX4_in_15 (congrArg (fun z => some (Value.int z)) (bI_f (by omega))) rfl
  · skip
    refine z_iload_n (pc := 5) dX4_in_5 0 rfl ?_
    refine z_iload_n (pc := 6) dX4_in_6 2 rfl ?_
    refine z_icmp_gt (pc := 7) (tgt := 14) dX4_in_7 (by decide) (by omega) (by omega) (fun h7 => ?_) (fun h7 => ?_)
    · skip
      refine z_iconst (pc := 14) dX4_in_14 ?_
      exact z_zret (pc := 15) (by decide) dX4_in_15 (congrArg (fun z => some (Value.int z)) (bI_f (by omega))) rfl
    · skip
      refine z_iconst (pc := 10) dX4_in_10 ?_
      refine z_goto (pc := 11) (tgt := 15) dX4_in_11 (by decide) ?_
      exact z_zret (pc := 15) (by decide) dX4_in_15 (congrArg (fun z => some (Value.int z)) (bI_t (by omega))) rfl
set_option maxHeartbeats 8000000 in
set_option maxRecDepth 100000 in
theorem c_X4_finds (l : Launch) (D : va_G) (cI cJ cB cS : ClassId) (xa : XA) (m mR mF mT mB mTp mBo mSo mSh mLe mIm mBf : Nat) (tn so be te va : Int) (wd : Int64) (gd ik : Int32) (fd : Int → Int) (f k : Int) (hk : 0 ≤ k ∧ k < 7) (hf : f = -1000000001 - k) : Ct l D cI cJ cB cS xa yX4_finds cX4_finds 2 (some .int) 0 0 [.ref m, .int (iI f)] [(m, .inr (4, [.ref mR, .ref mF, .ref mT, .ref mB, .ref mTp, .int (iI tn), .int (iI so), .int (iI be), .int (iI te), .long wd, .int (iI va), .int gd, .ref mBo, .ref mSo, .ref mSh, .ref mLe, .ref mIm, .ref mBf, .int ik])), (mF, .inl (cI, 7, .inl (ar fd)))] (some (.int (iI f))) [(m, .inr (4, [.ref mR, .ref mF, .ref mT, .ref mB, .ref mTp, .int (iI tn), .int (iI so), .int (iI be), .int (iI te), .long wd, .int (iI va), .int gd, .ref mBo, .ref mSo, .ref mSh, .ref mLe, .ref mIm, .ref mBf, .int ik])), (mF, .inl (cI, 7, .inl (ar (fnd fd k))))] := by
  refine CtE.of (own := RX4) (lv := [(0, .ref m), (1, .int (iI f))]) (by decide) rfl rfl (Nat.le_of_ble_eq_true rfl) ?_
  intro xp xe xs xm xb xt xc
  refine z_aload_n (pc := 0) dX4_finds_0 0 rfl ?_
  refine z_get (pc := 1) (q0 := 0) (v := .ref mF) fL_X4_13 dX4_finds_1 rfl rfl ?_
  refine z_ldc (pc := 4) (n := -1000000001) kC_X4_44 dX4_finds_4 (by decide) ?_
  refine z_iload_n (pc := 6) dX4_finds_6 1 rfl ?_
  refine z_isub (pc := 7) dX4_finds_7 ?_
  refine z_dup2 (pc := 8) dX4_finds_8 rfl rfl ?_
  refine z_iald (pc := 9) (q0 := 1) (v := (iI (fd ((-1000000001) - f)))) dX4_finds_9 rfl (by omega) (by decide) (ar_at (by omega)) ?_
  refine z_iconst (pc := 10) dX4_finds_10 ?_
  refine z_iadd (pc := 11) dX4_finds_11 ?_
  refine z_iast (pc := 12) (q0 := 1) (ws2 := [(m, .inr (4, [.ref mR, .ref mF, .ref mT, .ref mB, .ref mTp, .int (iI tn), .int (iI so), .int (iI be), .int (iI te), .long wd, .int (iI va), .int gd, .ref mBo, .ref mSo, .ref mSh, .ref mLe, .ref mIm, .ref mBf, .int ik])), (mF, .inl (cI, 7, .inl (ar (up1 fd ((-1000000001) - f) ((fd ((-1000000001) - f)) + 1)))))]) dX4_finds_12 rfl (by omega) (by decide) (by rw [ar_up (by omega)]; rfl) ?_
  refine z_iload_n (pc := 13) dX4_finds_13 1 rfl ?_
  exact z_iret (pc := 14) dX4_finds_14 rfl (by rw [show k = -1000000001 - f by omega]; rfl)
set_option maxHeartbeats 8000000 in
set_option maxRecDepth 100000 in
theorem c_X4_held (l : Launch) (D : va_G) (cI cJ cB cS : ClassId) (xa : XA) (v a b : Int) (hv : inr v) (ha : inr a) (hb : inr b) : Ct l D cI cJ cB cS xa yX4_held cX4_held 3 (some .int) 0 0 [.int (iI v), .int (iI a), .int (iI b)] [] (some (.int (iI (heldI v a b)))) [] := by
  refine CtE.of (own := RX4) (lv := [(0, .int (iI v)), (1, .int (iI a)), (2, .int (iI b))]) (by decide) rfl rfl (Nat.le_of_ble_eq_true rfl) ?_
  intro xp xe xs xm xb xt xc
  refine z_iload_n (pc := 0) dX4_held_0 0 rfl ?_
  refine z_iload_n (pc := 1) dX4_held_1 1 rfl ?_
  refine z_icmp_ge (pc := 2) (tgt := 9) dX4_held_2 (by decide) (by omega) (by omega) (fun h2 => ?_) (fun h2 => ?_)
  · skip
    refine z_iload_n (pc := 9) dX4_held_9 0 rfl ?_
    refine z_iload_n (pc := 10) dX4_held_10 2 rfl ?_
    refine z_icmp_le (pc := 11) (tgt := 18) dX4_held_11 (by decide) (by omega) (by omega) (fun h11 => ?_) (fun h11 => ?_)
    · skip
      refine z_iload_n (pc := 18) dX4_held_18 0 rfl ?_
      exact z_iret (pc := 19) dX4_held_19 (congrArg (fun z => some (Value.int (iI z))) (show (heldI v a b) = v from by unfold heldI; (repeat' split) <;> omega)) rfl
    · skip
      refine z_iload_n (pc := 14) dX4_held_14 2 rfl ?_
      refine z_goto (pc := 15) (tgt := 19) dX4_held_15 (by decide) ?_
      exact z_iret (pc := 19) dX4_held_19 (congrArg (fun z => some (Value.int (iI z))) (show (heldI v a b) = b from by unfold heldI; (repeat' split) <;> omega)) rfl
  · skip
    refine z_iload_n (pc := 5) dX4_held_5 1 rfl ?_
    refine z_goto (pc := 6) (tgt := 19) dX4_held_6 (by decide) ?_
    exact z_iret (pc := 19) dX4_held_19 (congrArg (fun z => some (Value.int (iI z))) (show (heldI v a b) = a from by unfold heldI; (repeat' split) <;> omega)) rfl
set_option maxHeartbeats 8000000 in
set_option maxRecDepth 100000 in
theorem c_X4_lesser (l : Launch) (D : va_G) (cI cJ cB cS : ClassId) (xa : XA) (a b : Int) (ha : inr a) (hb : inr b) : Ct l D cI cJ cB cS xa yX4_lesser cX4_lesser 2 (some .int) 0 0 [.int (iI a), .int (iI b)] [] (some (.int (iI (min a b)))) [] := by
  refine CtE.of (own := RX4) (lv := [(0, .int (iI a)), (1, .int (iI b))]) (by decide) rfl rfl (Nat.le_of_ble_eq_true rfl) ?_
  intro xp xe xs xm xb xt xc
  refine z_iload_n (pc := 0) dX4_lesser_0 0 rfl ?_
  refine z_iload_n (pc := 1) dX4_lesser_1 1 rfl ?_
  refine z_icmp_ge (pc := 2) (tgt := 9) dX4_lesser_2 (by decide) (by omega) (by omega) (fun h2 => ?_) (fun h2 => ?_)
  · skip
    refine z_iload_n (pc := 9) dX4_lesser_9 1 rfl ?_
    exact z_iret (pc := 10) dX4_lesser_10 (congrArg (fun z => some (Value.int (iI z))) (show (min a b) = b from by omega)) rfl
  · skip
    refine z_iload_n (pc := 5) dX4_lesser_5 0 rfl ?_
    refine z_goto (pc := 6) (tgt := 10) dX4_lesser_6 (by decide) ?_
    exact z_iret (pc := 10) dX4_lesser_10 (congrArg (fun z => some (Value.int (iI z))) (show (min a b) = a from by omega)) rfl
set_option maxHeartbeats 8000000 in
set_option maxRecDepth 100000 in
theorem c_X4_its (l : Launch) (D : va_G) (cI cJ cB cS : ClassId) (xa : XA) (m mR mF mT mB mTp mBo mSo mSh mLe mIm mBf : Nat) (tn so be te va : Int) (wd : Int64) (gd ik : Int32) (g : Gd) (c w : Int) (hw : 0 ≤ w ∧ w < 4) (hc : 0 ≤ c ∧ c < 8) : Ct l D cI cJ cB cS xa yX4_its cX4_its 3 (some .int) 0 0 [.ref m, .int (iI c), .int (iI w)] [(m, .inr (4, [.ref mR, .ref mF, .ref mT, .ref mB, .ref mTp, .int (iI tn), .int (iI so), .int (iI be), .int (iI te), .long wd, .int (iI va), .int gd, .ref mBo, .ref mSo, .ref mSh, .ref mLe, .ref mIm, .ref mBf, .int ik])), (mR, .inl (cI, 35, .inl (rowA g)))] (some (.int (iI (g w c)))) [(m, .inr (4, [.ref mR, .ref mF, .ref mT, .ref mB, .ref mTp, .int (iI tn), .int (iI so), .int (iI be), .int (iI te), .long wd, .int (iI va), .int gd, .ref mBo, .ref mSo, .ref mSh, .ref mLe, .ref mIm, .ref mBf, .int ik])), (mR, .inl (cI, 35, .inl (rowA g)))] := by
  refine CtE.of (own := RX4) (lv := [(0, .ref m), (1, .int (iI c)), (2, .int (iI w))]) (by decide) rfl rfl (Nat.le_of_ble_eq_true rfl) ?_
  intro xp xe xs xm xb xt xc
  refine z_aload_n (pc := 0) dX4_its_0 0 rfl ?_
  refine z_get (pc := 1) (q0 := 0) (v := .ref mR) fL_X4_7 dX4_its_1 rfl rfl ?_
  refine z_iconst (pc := 4) dX4_its_4 ?_
  refine z_iconst (pc := 5) dX4_its_5 ?_
  refine z_iload_n (pc := 6) dX4_its_6 1 rfl ?_
  refine z_imul (pc := 7) dX4_its_7 ?_
  refine z_iadd (pc := 8) dX4_its_8 ?_
  refine z_iload_n (pc := 9) dX4_its_9 2 rfl ?_
  refine z_iadd (pc := 10) dX4_its_10 ?_
  refine z_iald (pc := 11) (q0 := 1) (v := (iI (g w c))) dX4_its_11 rfl (by omega) (by decide) (rowA_at (by omega) (by omega) (by omega) (by omega)) ?_
  exact z_iret (pc := 12) dX4_its_12 rfl rfl
set_option maxHeartbeats 8000000 in
set_option maxRecDepth 100000 in
theorem c_X4_puts (l : Launch) (D : va_G) (cI cJ cB cS : ClassId) (xa : XA) (m mR mF mT mB mTp mBo mSo mSh mLe mIm mBf : Nat) (tn so be te va : Int) (wd : Int64) (gd ik : Int32) (g : Gd) (c w v : Int) (hw : 0 ≤ w ∧ w < 4) (hc : 0 ≤ c ∧ c < 8) : Ct l D cI cJ cB cS xa yX4_puts cX4_puts 4 none 0 0 [.ref m, .int (iI c), .int (iI w), .int (iI v)] [(m, .inr (4, [.ref mR, .ref mF, .ref mT, .ref mB, .ref mTp, .int (iI tn), .int (iI so), .int (iI be), .int (iI te), .long wd, .int (iI va), .int gd, .ref mBo, .ref mSo, .ref mSh, .ref mLe, .ref mIm, .ref mBf, .int ik])), (mR, .inl (cI, 35, .inl (rowA g)))] none [(m, .inr (4, [.ref mR, .ref mF, .ref mT, .ref mB, .ref mTp, .int (iI tn), .int (iI so), .int (iI be), .int (iI te), .long wd, .int (iI va), .int gd, .ref mBo, .ref mSo, .ref mSh, .ref mLe, .ref mIm, .ref mBf, .int ik])), (mR, .inl (cI, 35, .inl (rowA (up2 g w c v))))] := by
  refine CtE.of (own := RX4) (lv := [(0, .ref m), (1, .int (iI c)), (2, .int (iI w)), (3, .int (iI v))]) (by decide) rfl rfl (Nat.le_of_ble_eq_true rfl) ?_
  intro xp xe xs xm xb xt xc
  refine z_aload_n (pc := 0) dX4_puts_0 0 rfl ?_
  refine z_get (pc := 1) (q0 := 0) (v := .ref mR) fL_X4_7 dX4_puts_1 rfl rfl ?_
  refine z_iconst (pc := 4) dX4_puts_4 ?_
  refine z_iconst (pc := 5) dX4_puts_5 ?_
  refine z_iload_n (pc := 6) dX4_puts_6 1 rfl ?_
  refine z_imul (pc := 7) dX4_puts_7 ?_
  refine z_iadd (pc := 8) dX4_puts_8 ?_
  refine z_iload_n (pc := 9) dX4_puts_9 2 rfl ?_
  refine z_iadd (pc := 10) dX4_puts_10 ?_
  refine z_iload_n (pc := 11) dX4_puts_11 3 rfl ?_
  refine z_iast (pc := 12) (q0 := 1) (ws2 := [(m, .inr (4, [.ref mR, .ref mF, .ref mT, .ref mB, .ref mTp, .int (iI tn), .int (iI so), .int (iI be), .int (iI te), .long wd, .int (iI va), .int gd, .ref mBo, .ref mSo, .ref mSh, .ref mLe, .ref mIm, .ref mBf, .int ik])), (mR, .inl (cI, 35, .inl (rowA (up2 g w c v))))]) dX4_puts_12 rfl (by omega) (by decide) (by rw [rowA_up (w := w) (c := c) (by omega) (by omega) (by omega) (by omega)]; try rfl) ?_
  exact z_vret (pc := 13) dX4_puts_13 rfl rfl
set_option maxHeartbeats 8000000 in
set_option maxRecDepth 100000 in
theorem c_X4_becomes (l : Launch) (D : va_G) (cI cJ cB cS : ClassId) (xa : XA) (m mR mF mT mB mTp mBo mSo mSh mLe mIm mBf : Nat) (tn so be te va : Int) (wd : Int64) (gd ik : Int32) (f : Nat → Int32) (z v : Int) (hz : 0 ≤ z ∧ z < 35) : Ct l D cI cJ cB cS xa yX4_becomes cX4_becomes 4 (some .int) 0 0 [.ref m, .int (iI z), .int (iI v)] [(m, .inr (4, [.ref mR, .ref mF, .ref mT, .ref mB, .ref mTp, .int (iI tn), .int (iI so), .int (iI be), .int (iI te), .long wd, .int (iI va), .int gd, .ref mBo, .ref mSo, .ref mSh, .ref mLe, .ref mIm, .ref mBf, .int ik])), (mR, .inl (cI, 35, .inl f))] (some (.int (f (Int.toNat z)))) [(m, .inr (4, [.ref mR, .ref mF, .ref mT, .ref mB, .ref mTp, .int (iI tn), .int (iI so), .int (iI be), .int (iI te), .long wd, .int (iI va), .int gd, .ref mBo, .ref mSo, .ref mSh, .ref mLe, .ref mIm, .ref mBf, .int ik])), (mR, .inl (cI, 35, .inl (upd f (Int.toNat z) (iI v))))] := by
  refine CtE.of (own := RX4) (lv := [(0, .ref m), (1, .int (iI z)), (2, .int (iI v))]) (by decide) rfl rfl (Nat.le_of_ble_eq_true rfl) ?_
  intro xp xe xs xm xb xt xc
  refine z_aload_n (pc := 0) dX4_becomes_0 0 rfl ?_
  refine z_get (pc := 1) (q0 := 0) (v := .ref mR) fL_X4_7 dX4_becomes_1 rfl rfl ?_
  refine z_iload_n (pc := 4) dX4_becomes_4 1 rfl ?_
  refine z_iald (pc := 5) (q0 := 1) (v := (f (Int.toNat z))) dX4_becomes_5 rfl (by omega) (by decide) rfl ?_
  refine z_istore_n (pc := 6) (lv2 := [(3, .int (f (Int.toNat z))), (0, .ref m), (1, .int (iI z)), (2, .int (iI v))]) dX4_becomes_6 rfl (by decide) rfl ?_
  refine z_aload_n (pc := 7) dX4_becomes_7 1 rfl ?_
  refine z_get (pc := 8) (q0 := 0) (v := .ref mR) fL_X4_7 dX4_becomes_8 rfl rfl ?_
  refine z_iload_n (pc := 11) dX4_becomes_11 2 rfl ?_
  refine z_iload_n (pc := 12) dX4_becomes_12 3 rfl ?_
  refine z_iast (pc := 13) (q0 := 1) (ws2 := [(m, .inr (4, [.ref mR, .ref mF, .ref mT, .ref mB, .ref mTp, .int (iI tn), .int (iI so), .int (iI be), .int (iI te), .long wd, .int (iI va), .int gd, .ref mBo, .ref mSo, .ref mSh, .ref mLe, .ref mIm, .ref mBf, .int ik])), (mR, .inl (cI, 35, .inl (upd f (Int.toNat z) (iI v))))]) dX4_becomes_13 rfl (by omega) (by decide) rfl ?_
  refine z_iload_n (pc := 14) dX4_becomes_14 0 rfl ?_
  exact z_iret (pc := 15) dX4_becomes_15 rfl rfl
set_option maxHeartbeats 8000000 in
set_option maxRecDepth 100000 in
theorem c_X4_isOne (l : Launch) (D : va_G) (cI cJ cB cS : ClassId) (xa : XA) (m mR mF mT mB mTp mBo mSo mSh mLe mIm mBf : Nat) (tn so be te va : Int) (wd : Int64) (gd ik : Int32) (g : Gd) (c : Int) (ok : Ok g) (hc : inr c) : Ct l D cI cJ cB cS xa yX4_isOne cX4_isOne 2 (some .boolean) 1 22 [.ref m, .int (iI c)] [(m, .inr (4, [.ref mR, .ref mF, .ref mT, .ref mB, .ref mTp, .int (iI tn), .int (iI so), .int (iI be), .int (iI te), .long wd, .int (iI va), .int gd, .ref mBo, .ref mSo, .ref mSh, .ref mLe, .ref mIm, .ref mBf, .int ik])), (mR, .inl (cI, 35, .inl (rowA g)))] (some (.int (bI (0 ≤ c ∧ c < g 4 2)))) [(m, .inr (4, [.ref mR, .ref mF, .ref mT, .ref mB, .ref mTp, .int (iI tn), .int (iI so), .int (iI be), .int (iI te), .long wd, .int (iI va), .int gd, .ref mBo, .ref mSo, .ref mSh, .ref mLe, .ref mIm, .ref mBf, .int ik])), (mR, .inl (cI, 35, .inl (rowA g)))] := by
  have o0 := ok0 ok
  have o1 := ok1 ok
  have o2 := ok2 ok
  refine CtE.of (own := RX4) (lv := [(0, .ref m), (1, .int (iI c))]) (by decide) rfl rfl (Nat.le_of_ble_eq_true rfl) ?_
  intro xp xe xs xm xb xt xc
  refine z_iload_n (pc := 0) dX4_isOne_0 1 rfl ?_
  refine z_iconst (pc := 1) dX4_isOne_1 ?_
  refine z_aload_n (pc := 2) dX4_isOne_2 0 rfl ?_
  refine z_get (pc := 3) (q0 := 0) (v := .ref mR) fL_X4_7 dX4_isOne_3 rfl rfl ?_
  refine z_iconst (pc := 6) dX4_isOne_6 ?_
  refine z_iald (pc := 7) (q0 := 1) (v := (iI (g 4 2))) dX4_isOne_7 rfl (by omega) (by decide) (rowA_4 (by decide) (by decide)) ?_
  refine z_iconst (pc := 8) dX4_isOne_8 ?_
  refine z_isub (pc := 9) dX4_isOne_9 ?_
  refine z_callS (pc := 10) (st := []) (st2 := [.int (bI (0 ≤ c ∧ c ≤ ((g 4 2) - 1)))]) (ws2 := [(m, .inr (4, [.ref mR, .ref mF, .ref mT, .ref mB, .ref mTp, .int (iI tn), .int (iI so), .int (iI be), .int (iI te), .long wd, .int (iI va), .int gd, .ref mBo, .ref mSo, .ref mSh, .ref mLe, .ref mIm, .ref mBf, .int ik])), (mR, .inl (cI, 35, .inl (rowA g)))]) (c_X4_in l D cI cJ cB cS xa c 0 ((g 4 2) - 1) (by omega) (by omega) (by omega)) mS_X4_in kM_X4_45 dX4_isOne_10 [] rfl rfl rfl rfl rfl rfl rfl rfl ⟨Nat.le_of_ble_eq_true rfl, Nat.le_of_ble_eq_true rfl, Nat.le_of_ble_eq_true rfl⟩ ?_
  exact z_zret (pc := 13) (bI_nar _) dX4_isOne_13 (congrArg (fun z => some (Value.int z)) (bI_c (by omega))) rfl
set_option maxHeartbeats 8000000 in
set_option maxRecDepth 100000 in
theorem c_X4_isKind (l : Launch) (D : va_G) (cI cJ cB cS : ClassId) (xa : XA) (k : Int) (hk : inr k) : Ct l D cI cJ cB cS xa yX4_isKind cX4_isKind 1 (some .boolean) 1 22 [.int (iI k)] [] (some (.int (bI (0 ≤ k ∧ k ≤ 5)))) [] := by
  refine CtE.of (own := RX4) (lv := [(0, .int (iI k))]) (by decide) rfl rfl (Nat.le_of_ble_eq_true rfl) ?_
  intro xp xe xs xm xb xt xc
  refine z_iload_n (pc := 0) dX4_isKind_0 0 rfl ?_
  refine z_iconst (pc := 1) dX4_isKind_1 ?_
  refine z_iconst (pc := 2) dX4_isKind_2 ?_
  refine z_callS (pc := 3) (st := []) (st2 := [.int (bI (0 ≤ k ∧ k ≤ 5))]) (ws2 := []) (c_X4_in l D cI cJ cB cS xa k 0 5 (by omega) (by omega) (by omega)) mS_X4_in kM_X4_45 dX4_isKind_3 [] rfl rfl rfl rfl rfl rfl rfl rfl ⟨Nat.le_of_ble_eq_true rfl, Nat.le_of_ble_eq_true rfl, Nat.le_of_ble_eq_true rfl⟩ ?_
  exact z_zret (pc := 6) (bI_nar _) dX4_isKind_6 rfl rfl
set_option maxHeartbeats 8000000 in
set_option maxRecDepth 100000 in
theorem c_X4_next (l : Launch) (D : va_G) (cI cJ cB cS : ClassId) (xa : XA) (m mR mF mT mB mTp mBo mSo mSh mLe mIm mBf : Nat) (tn so be te va : Int) (wd : Int64) (gd ik : Int32) (g : Gd) (c : Int) (ok : Ok g) (hc0 : 0 ≤ c) (hc1 : c < g 4 2) : Ct l D cI cJ cB cS xa yX4_next cX4_next 2 (some .int) 0 0 [.ref m, .int (iI c)] [(m, .inr (4, [.ref mR, .ref mF, .ref mT, .ref mB, .ref mTp, .int (iI tn), .int (iI so), .int (iI be), .int (iI te), .long wd, .int (iI va), .int gd, .ref mBo, .ref mSo, .ref mSh, .ref mLe, .ref mIm, .ref mBf, .int ik])), (mR, .inl (cI, 35, .inl (rowA g)))] (some (.int (iI (nextG g c)))) [(m, .inr (4, [.ref mR, .ref mF, .ref mT, .ref mB, .ref mTp, .int (iI tn), .int (iI so), .int (iI be), .int (iI te), .long wd, .int (iI va), .int gd, .ref mBo, .ref mSo, .ref mSh, .ref mLe, .ref mIm, .ref mBf, .int ik])), (mR, .inl (cI, 35, .inl (rowA g)))] := by
  have o0 := ok0 ok
  have o1 := ok1 ok
  have o2 := ok2 ok
  refine CtE.of (own := RX4) (lv := [(0, .ref m), (1, .int (iI c))]) (by decide) rfl rfl (Nat.le_of_ble_eq_true rfl) ?_
  intro xp xe xs xm xb xt xc
  refine z_iload_n (pc := 0) dX4_next_0 1 rfl ?_
  refine z_iconst (pc := 1) dX4_next_1 ?_
  refine z_iadd (pc := 2) dX4_next_2 ?_
  refine z_aload_n (pc := 3) dX4_next_3 0 rfl ?_
  refine z_get (pc := 4) (q0 := 0) (v := .ref mR) fL_X4_7 dX4_next_4 rfl rfl ?_
  refine z_iconst (pc := 7) dX4_next_7 ?_
  refine z_iald (pc := 8) (q0 := 1) (v := (iI (g 4 2))) dX4_next_8 rfl (by omega) (by decide) (rowA_4 (by decide) (by decide)) ?_
  refine z_irem (pc := 9) dX4_next_9 (by omega) ?_
  exact z_iret (pc := 10) dX4_next_10 (congrArg (fun z => some (Value.int (iI z))) (show (nextG g c) = (c + 1) % (g 4 2) from by exact next_mod ok hc0 hc1)) rfl
set_option maxHeartbeats 8000000 in
set_option maxRecDepth 100000 in
theorem c_X4_isDusk (l : Launch) (D : va_G) (cI cJ cB cS : ClassId) (xa : XA) (m mR mF mT mB mTp mBo mSo mSh mLe mIm mBf : Nat) (tn so be te va : Int) (wd : Int64) (gd ik : Int32) (g : Gd) (ok : Ok g) : Ct l D cI cJ cB cS xa yX4_isDusk cX4_isDusk 1 (some .boolean) 0 0 [.ref m] [(m, .inr (4, [.ref mR, .ref mF, .ref mT, .ref mB, .ref mTp, .int (iI tn), .int (iI so), .int (iI be), .int (iI te), .long wd, .int (iI va), .int gd, .ref mBo, .ref mSo, .ref mSh, .ref mLe, .ref mIm, .ref mBf, .int ik])), (mR, .inl (cI, 35, .inl (rowA g)))] (some (.int (bI (dusk g)))) [(m, .inr (4, [.ref mR, .ref mF, .ref mT, .ref mB, .ref mTp, .int (iI tn), .int (iI so), .int (iI be), .int (iI te), .long wd, .int (iI va), .int gd, .ref mBo, .ref mSo, .ref mSh, .ref mLe, .ref mIm, .ref mBf, .int ik])), (mR, .inl (cI, 35, .inl (rowA g)))] := by
  have o0 := ok0 ok
  have o1 := ok1 ok
  have o2 := ok2 ok
  refine CtE.of (own := RX4) (lv := [(0, .ref m)]) (by decide) rfl rfl (Nat.le_of_ble_eq_true rfl) ?_
  intro xp xe xs xm xb xt xc
  refine z_aload_n (pc := 0) dX4_isDusk_0 0 rfl ?_
  refine z_get (pc := 1) (q0 := 0) (v := .ref mR) fL_X4_7 dX4_isDusk_1 rfl rfl ?_
  refine z_iconst (pc := 4) dX4_isDusk_4 ?_
  refine z_iald (pc := 5) (q0 := 1) (v := (iI (g 4 0))) dX4_isDusk_5 rfl (by omega) (by decide) (rowA_4 (by decide) (by decide)) ?_
  refine z_bipush (pc := 6) dX4_isDusk_6 (by decide) ?_
  refine z_irem (pc := 8) dX4_isDusk_8 (by omega) ?_
  refine z_aload_n (pc := 9) dX4_isDusk_9 0 rfl ?_
  refine z_get (pc := 10) (q0 := 0) (v := .ref mR) fL_X4_7 dX4_isDusk_10 rfl rfl ?_
  refine z_iconst (pc := 13) dX4_isDusk_13 ?_
  refine z_iald (pc := 14) (q0 := 1) (v := (iI (g 4 1))) dX4_isDusk_14 rfl (by omega) (by decide) (rowA_4 (by decide) (by decide)) ?_
  refine z_icmp_lt (pc := 15) (tgt := 22) dX4_isDusk_15 (by decide) (by omega) (by omega) (fun h15 => ?_) (fun h15 => ?_)
  · skip
    refine z_iconst (pc := 22) dX4_isDusk_22 ?_
    exact z_zret (pc := 23) (by decide) dX4_isDusk_23 (congrArg (fun z => some (Value.int z)) (bI_f (by omega))) rfl
  · skip
    refine z_iconst (pc := 18) dX4_isDusk_18 ?_
    refine z_goto (pc := 19) (tgt := 23) dX4_isDusk_19 (by decide) ?_
    exact z_zret (pc := 23) (by decide) dX4_isDusk_23 (congrArg (fun z => some (Value.int z)) (bI_t (by omega))) rfl
set_option maxHeartbeats 8000000 in
set_option maxRecDepth 100000 in
theorem c_X4_isSaturday (l : Launch) (D : va_G) (cI cJ cB cS : ClassId) (xa : XA) (m mR mF mT mB mTp mBo mSo mSh mLe mIm mBf : Nat) (tn so be te va : Int) (wd : Int64) (gd ik : Int32) (g : Gd) (ok : Ok g) : Ct l D cI cJ cB cS xa yX4_isSaturday cX4_isSaturday 1 (some .boolean) 0 0 [.ref m] [(m, .inr (4, [.ref mR, .ref mF, .ref mT, .ref mB, .ref mTp, .int (iI tn), .int (iI so), .int (iI be), .int (iI te), .long wd, .int (iI va), .int gd, .ref mBo, .ref mSo, .ref mSh, .ref mLe, .ref mIm, .ref mBf, .int ik])), (mR, .inl (cI, 35, .inl (rowA g)))] (some (.int (bI (satur g)))) [(m, .inr (4, [.ref mR, .ref mF, .ref mT, .ref mB, .ref mTp, .int (iI tn), .int (iI so), .int (iI be), .int (iI te), .long wd, .int (iI va), .int gd, .ref mBo, .ref mSo, .ref mSh, .ref mLe, .ref mIm, .ref mBf, .int ik])), (mR, .inl (cI, 35, .inl (rowA g)))] := by
  have o0 := ok0 ok
  have o1 := ok1 ok
  have o2 := ok2 ok
  refine CtE.of (own := RX4) (lv := [(0, .ref m)]) (by decide) rfl rfl (Nat.le_of_ble_eq_true rfl) ?_
  intro xp xe xs xm xb xt xc
  refine z_aload_n (pc := 0) dX4_isSaturday_0 0 rfl ?_
  refine z_get (pc := 1) (q0 := 0) (v := .ref mR) fL_X4_7 dX4_isSaturday_1 rfl rfl ?_
  refine z_iconst (pc := 4) dX4_isSaturday_4 ?_
  refine z_iald (pc := 5) (q0 := 1) (v := (iI (g 4 0))) dX4_isSaturday_5 rfl (by omega) (by decide) (rowA_4 (by decide) (by decide)) ?_
  refine z_bipush (pc := 6) dX4_isSaturday_6 (by decide) ?_
  refine z_idiv (pc := 8) dX4_isSaturday_8 (by omega) ?_
  refine z_bipush (pc := 9) dX4_isSaturday_9 (by decide) ?_
  refine z_irem (pc := 11) dX4_isSaturday_11 (by omega) ?_
  refine z_iconst (pc := 12) dX4_isSaturday_12 ?_
  refine z_icmp_ne (pc := 13) (tgt := 20) dX4_isSaturday_13 (by decide) (by omega) (by omega) (fun h13 => ?_) (fun h13 => ?_)
  · skip
    refine z_iconst (pc := 20) dX4_isSaturday_20 ?_
    exact z_zret (pc := 21) (by decide) dX4_isSaturday_21 (congrArg (fun z => some (Value.int z)) (bI_f (by omega))) rfl
  · skip
    refine z_iconst (pc := 16) dX4_isSaturday_16 ?_
    refine z_goto (pc := 17) (tgt := 21) dX4_isSaturday_17 (by decide) ?_
    exact z_zret (pc := 21) (by decide) dX4_isSaturday_21 (congrArg (fun z => some (Value.int z)) (bI_t (by omega))) rfl
set_option maxHeartbeats 8000000 in
set_option maxRecDepth 100000 in
theorem c_X4_sumOf (l : Launch) (D : va_G) (cI cJ cB cS : ClassId) (xa : XA) (m mR mF mT mB mTp mBo mSo mSh mLe mIm mBf : Nat) (tn so be te va : Int) (wd : Int64) (gd ik : Int32) (g : Gd) (w : Int) (ok : Ok g) (hw : 0 ≤ w ∧ w < 4) : Ct l D cI cJ cB cS xa yX4_sumOf cX4_sumOf 4 (some .int) 1 22 [.ref m, .int (iI w)] [(m, .inr (4, [.ref mR, .ref mF, .ref mT, .ref mB, .ref mTp, .int (iI tn), .int (iI so), .int (iI be), .int (iI te), .long wd, .int (iI va), .int gd, .ref mBo, .ref mSo, .ref mSh, .ref mLe, .ref mIm, .ref mBf, .int ik])), (mR, .inl (cI, 35, .inl (rowA g)))] (some (.int (iI (sumN (g w) (many g))))) [(m, .inr (4, [.ref mR, .ref mF, .ref mT, .ref mB, .ref mTp, .int (iI tn), .int (iI so), .int (iI be), .int (iI te), .long wd, .int (iI va), .int gd, .ref mBo, .ref mSo, .ref mSh, .ref mLe, .ref mIm, .ref mBf, .int ik])), (mR, .inl (cI, 35, .inl (rowA g)))] := by
  have o0 := ok0 ok
  have o1 := ok1 ok
  have o2 := ok2 ok
  refine CtE.of (own := RX4) (lv := [(0, .ref m), (1, .int (iI w))]) (by decide) rfl rfl (Nat.le_of_ble_eq_true rfl) ?_
  intro xp xe xs xm xb xt xc
  refine z_iconst (pc := 0) dX4_sumOf_0 ?_
  refine z_istore_n (pc := 1) (lv2 := [(2, .int (iI 0)), (0, .ref m), (1, .int (iI w))]) dX4_sumOf_1 rfl (by decide) rfl ?_
  refine z_iconst (pc := 2) dX4_sumOf_2 ?_
  refine z_istore_n (pc := 3) (lv2 := [(3, .int (iI 0)), (2, .int (iI 0)), (0, .ref m), (1, .int (iI w))]) dX4_sumOf_3 rfl (by decide) rfl ?_
  have LP4 : ∀ (nn_ : Nat) (i : Int) (b : Int), (0 ≤ i) → (i ≤ g 4 2) → (b = sumN (g w) i.toNat) → (g 4 2 - i).toNat < nn_ → Z xp l xe { frames := 1, cells := 0, slots := 0, locals := 22 } xs xm ([.ref m, .int (iI w)] : List Value).toArray xb xt xc 0 0 (MQ xb (Cq (S := Unit) D [(m, .inr (4, [.ref mR, .ref mF, .ref mT, .ref mB, .ref mTp, .int (iI tn), .int (iI so), .int (iI be), .int (iI te), .long wd, .int (iI va), .int gd, .ref mBo, .ref mSo, .ref mSh, .ref mLe, .ref mIm, .ref mBf, .int ik])), (mR, .inl (cI, 35, .inl (rowA g)))] (fun _ => True) (fun _ => (some (.int (iI (sumN (g w) (many g)))))) (fun _ => [(m, .inr (4, [.ref mR, .ref mF, .ref mT, .ref mB, .ref mTp, .int (iI tn), .int (iI so), .int (iI be), .int (iI te), .long wd, .int (iI va), .int gd, .ref mBo, .ref mSo, .ref mSh, .ref mLe, .ref mIm, .ref mBf, .int ik])), (mR, .inl (cI, 35, .inl (rowA g)))])) ([.ref m, .int (iI w)] : List Value).toArray xs 0 0 (va_A0 [(m, .inr (4, [.ref mR, .ref mF, .ref mT, .ref mB, .ref mTp, .int (iI tn), .int (iI so), .int (iI be), .int (iI te), .long wd, .int (iI va), .int gd, .ref mBo, .ref mSo, .ref mSh, .ref mLe, .ref mIm, .ref mBf, .int ik])), (mR, .inl (cI, 35, .inl (rowA g)))])) cX4_sumOf RX4 4 (some .int) D cI cJ cB cS xa (va_A0 [(m, .inr (4, [.ref mR, .ref mF, .ref mT, .ref mB, .ref mTp, .int (iI tn), .int (iI so), .int (iI be), .int (iI te), .long wd, .int (iI va), .int gd, .ref mBo, .ref mSo, .ref mSh, .ref mLe, .ref mIm, .ref mBf, .int ik])), (mR, .inl (cI, 35, .inl (rowA g)))]) [(m, .inr (4, [.ref mR, .ref mF, .ref mT, .ref mB, .ref mTp, .int (iI tn), .int (iI so), .int (iI be), .int (iI te), .long wd, .int (iI va), .int gd, .ref mBo, .ref mSo, .ref mSh, .ref mLe, .ref mIm, .ref mBf, .int ik])), (mR, .inl (cI, 35, .inl (rowA g)))] [(0, .ref m), (1, .int (iI w)), (2, .int (iI b)), (3, .int (iI i))] 4 [] := by
    intro nn_
    induction nn_ with
    | zero => intro i b hi0 hi1 hb hms; exact absurd hms (Nat.not_lt_zero _)
    | succ nn_ ih =>
      intro i b hi0 hi1 hb hms
      have ih4 := ih
      clear ih
      refine z_iload_n (pc := 4) dX4_sumOf_4 3 rfl ?_
      refine z_aload_n (pc := 5) dX4_sumOf_5 0 rfl ?_
      refine z_get (pc := 6) (q0 := 0) (v := .ref mR) fL_X4_7 dX4_sumOf_6 rfl rfl ?_
      refine z_iconst (pc := 9) dX4_sumOf_9 ?_
      refine z_iald (pc := 10) (q0 := 1) (v := (iI (g 4 2))) dX4_sumOf_10 rfl (by omega) (by decide) (rowA_4 (by decide) (by decide)) ?_
      refine z_icmp_ge (pc := 11) (tgt := 29) dX4_sumOf_11 (by decide) (by omega) (by omega) (fun h11 => ?_) (fun h11 => ?_)
      · skip
        obtain rfl : i = g 4 2 := by omega
        refine z_iload_n (pc := 29) dX4_sumOf_29 2 rfl ?_
        exact z_iret (pc := 30) dX4_sumOf_30 (congrArg (fun z => some (Value.int (iI z))) (show (sumN (g w) (many g)) = b from by exact hb.symm)) rfl
      · skip
        refine z_iload_n (pc := 14) dX4_sumOf_14 2 rfl ?_
        refine z_aload_n (pc := 15) dX4_sumOf_15 0 rfl ?_
        refine z_iload_n (pc := 16) dX4_sumOf_16 3 rfl ?_
        refine z_iload_n (pc := 17) dX4_sumOf_17 1 rfl ?_
        refine z_callV (pc := 18) (st := [.int (iI b)]) (st2 := [.int (iI (g w i)), .int (iI b)]) (ws2 := [(m, .inr (4, [.ref mR, .ref mF, .ref mT, .ref mB, .ref mTp, .int (iI tn), .int (iI so), .int (iI be), .int (iI te), .long wd, .int (iI va), .int gd, .ref mBo, .ref mSo, .ref mSh, .ref mLe, .ref mIm, .ref mBf, .int ik])), (mR, .inl (cI, 35, .inl (rowA g)))]) (q0 := 0) (c_X4_its l D cI cJ cB cS xa m mR mF mT mB mTp mBo mSo mSh mLe mIm mBf tn so be te va wd gd ik g i w (by omega) (by omega)) mV_X4_its kM_X4_57 dX4_sumOf_18 rfl rfl [0, 1] rfl rfl rfl rfl rfl rfl rfl rfl ⟨Nat.le_of_ble_eq_true rfl, Nat.le_of_ble_eq_true rfl, Nat.le_of_ble_eq_true rfl⟩ ?_
        refine z_iadd (pc := 21) dX4_sumOf_21 ?_
        refine z_istore_n (pc := 22) (lv2 := [(2, .int (iI (b + (g w i)))), (0, .ref m), (1, .int (iI w)), (3, .int (iI i))]) dX4_sumOf_22 rfl (by decide) rfl ?_
        refine z_iinc (pc := 23) (lv2 := [(3, .int (iI (i + 1))), (2, .int (iI (b + (g w i)))), (0, .ref m), (1, .int (iI w))]) dX4_sumOf_23 3 rfl (by decide) rfl ?_
        refine z_goto (pc := 26) (tgt := 4) dX4_sumOf_26 (by decide) ?_
        refine z_lv (lv2 := [(0, .ref m), (1, .int (iI w)), (2, .int (iI (b + (g w i)))), (3, .int (iI (i + 1)))]) [2, 3, 1, 0] rfl ?_
        exact ih4 (i + 1) (b + (g w i)) (by omega) (by omega) (by rw [sumN_s _ hi0, ← hb]) (by omega)
  refine z_lv (lv2 := [(0, .ref m), (1, .int (iI w)), (2, .int (iI 0)), (3, .int (iI 0))]) [2, 3, 1, 0] rfl ?_
  exact LP4 _ 0 0 (by omega) (by omega) (by rfl) (Nat.lt_succ_self _)
set_option maxHeartbeats 8000000 in
set_option maxRecDepth 100000 in
theorem c_X4_mostOf (l : Launch) (D : va_G) (cI cJ cB cS : ClassId) (xa : XA) (m mR mF mT mB mTp mBo mSo mSh mLe mIm mBf : Nat) (tn so be te va : Int) (wd : Int64) (gd ik : Int32) (g : Gd) (w : Int) (ok : Ok g) (hw : 0 ≤ w ∧ w < 4) : Ct l D cI cJ cB cS xa yX4_mostOf cX4_mostOf 4 (some .int) 1 22 [.ref m, .int (iI w)] [(m, .inr (4, [.ref mR, .ref mF, .ref mT, .ref mB, .ref mTp, .int (iI tn), .int (iI so), .int (iI be), .int (iI te), .long wd, .int (iI va), .int gd, .ref mBo, .ref mSo, .ref mSh, .ref mLe, .ref mIm, .ref mBf, .int ik])), (mR, .inl (cI, 35, .inl (rowA g)))] (some (.int (iI (mostN (g w) (many g))))) [(m, .inr (4, [.ref mR, .ref mF, .ref mT, .ref mB, .ref mTp, .int (iI tn), .int (iI so), .int (iI be), .int (iI te), .long wd, .int (iI va), .int gd, .ref mBo, .ref mSo, .ref mSh, .ref mLe, .ref mIm, .ref mBf, .int ik])), (mR, .inl (cI, 35, .inl (rowA g)))] := by
  have o0 := ok0 ok
  have o1 := ok1 ok
  have o2 := ok2 ok
  refine CtE.of (own := RX4) (lv := [(0, .ref m), (1, .int (iI w))]) (by decide) rfl rfl (Nat.le_of_ble_eq_true rfl) ?_
  intro xp xe xs xm xb xt xc
  refine z_iconst (pc := 0) dX4_mostOf_0 ?_
  refine z_istore_n (pc := 1) (lv2 := [(2, .int (iI (-1))), (0, .ref m), (1, .int (iI w))]) dX4_mostOf_1 rfl (by decide) rfl ?_
  refine z_iconst (pc := 2) dX4_mostOf_2 ?_
  refine z_istore_n (pc := 3) (lv2 := [(3, .int (iI 0)), (2, .int (iI (-1))), (0, .ref m), (1, .int (iI w))]) dX4_mostOf_3 rfl (by decide) rfl ?_
  have LP4 : ∀ (nn_ : Nat) (i : Int) (b : Int), (0 ≤ i) → (i ≤ g 4 2) → (b = mostN (g w) i.toNat) → (g 4 2 - i).toNat < nn_ → Z xp l xe { frames := 1, cells := 0, slots := 0, locals := 22 } xs xm ([.ref m, .int (iI w)] : List Value).toArray xb xt xc 0 0 (MQ xb (Cq (S := Unit) D [(m, .inr (4, [.ref mR, .ref mF, .ref mT, .ref mB, .ref mTp, .int (iI tn), .int (iI so), .int (iI be), .int (iI te), .long wd, .int (iI va), .int gd, .ref mBo, .ref mSo, .ref mSh, .ref mLe, .ref mIm, .ref mBf, .int ik])), (mR, .inl (cI, 35, .inl (rowA g)))] (fun _ => True) (fun _ => (some (.int (iI (mostN (g w) (many g)))))) (fun _ => [(m, .inr (4, [.ref mR, .ref mF, .ref mT, .ref mB, .ref mTp, .int (iI tn), .int (iI so), .int (iI be), .int (iI te), .long wd, .int (iI va), .int gd, .ref mBo, .ref mSo, .ref mSh, .ref mLe, .ref mIm, .ref mBf, .int ik])), (mR, .inl (cI, 35, .inl (rowA g)))])) ([.ref m, .int (iI w)] : List Value).toArray xs 0 0 (va_A0 [(m, .inr (4, [.ref mR, .ref mF, .ref mT, .ref mB, .ref mTp, .int (iI tn), .int (iI so), .int (iI be), .int (iI te), .long wd, .int (iI va), .int gd, .ref mBo, .ref mSo, .ref mSh, .ref mLe, .ref mIm, .ref mBf, .int ik])), (mR, .inl (cI, 35, .inl (rowA g)))])) cX4_mostOf RX4 4 (some .int) D cI cJ cB cS xa (va_A0 [(m, .inr (4, [.ref mR, .ref mF, .ref mT, .ref mB, .ref mTp, .int (iI tn), .int (iI so), .int (iI be), .int (iI te), .long wd, .int (iI va), .int gd, .ref mBo, .ref mSo, .ref mSh, .ref mLe, .ref mIm, .ref mBf, .int ik])), (mR, .inl (cI, 35, .inl (rowA g)))]) [(m, .inr (4, [.ref mR, .ref mF, .ref mT, .ref mB, .ref mTp, .int (iI tn), .int (iI so), .int (iI be), .int (iI te), .long wd, .int (iI va), .int gd, .ref mBo, .ref mSo, .ref mSh, .ref mLe, .ref mIm, .ref mBf, .int ik])), (mR, .inl (cI, 35, .inl (rowA g)))] [(0, .ref m), (1, .int (iI w)), (2, .int (iI b)), (3, .int (iI i))] 4 [] := by
    intro nn_
    induction nn_ with
    | zero => intro i b hi0 hi1 hb hms; exact absurd hms (Nat.not_lt_zero _)
    | succ nn_ ih =>
      intro i b hi0 hi1 hb hms
      have rb := mostN_rng (g w) i.toNat
      rw [← hb] at rb
      have rc := gw_rng ok hw i
      have rd := gw_rng ok hw b
      have ih4 := ih
      clear ih
      refine z_iload_n (pc := 4) dX4_mostOf_4 3 rfl ?_
      refine z_aload_n (pc := 5) dX4_mostOf_5 0 rfl ?_
      refine z_get (pc := 6) (q0 := 0) (v := .ref mR) fL_X4_7 dX4_mostOf_6 rfl rfl ?_
      refine z_iconst (pc := 9) dX4_mostOf_9 ?_
      refine z_iald (pc := 10) (q0 := 1) (v := (iI (g 4 2))) dX4_mostOf_10 rfl (by omega) (by decide) (rowA_4 (by decide) (by decide)) ?_
      refine z_icmp_ge (pc := 11) (tgt := 45) dX4_mostOf_11 (by decide) (by omega) (by omega) (fun h11 => ?_) (fun h11 => ?_)
      · skip
        obtain rfl : i = g 4 2 := by omega
        refine z_iload_n (pc := 45) dX4_mostOf_45 2 rfl ?_
        exact z_iret (pc := 46) dX4_mostOf_46 (congrArg (fun z => some (Value.int (iI z))) (show (mostN (g w) (many g)) = b from by exact hb.symm)) rfl
      · skip
        refine z_iload_n (pc := 14) dX4_mostOf_14 2 rfl ?_
        refine z_if_lt (pc := 15) (tgt := 33) dX4_mostOf_15 (by decide) (by omega) (fun h15 => ?_) (fun h15 => ?_)
        · skip
          refine z_iload_n (pc := 33) dX4_mostOf_33 3 rfl ?_
          refine z_goto (pc := 34) (tgt := 38) dX4_mostOf_34 (by decide) ?_
          refine z_istore_n (pc := 38) (lv2 := [(2, .int (iI i)), (0, .ref m), (1, .int (iI w)), (3, .int (iI i))]) dX4_mostOf_38 rfl (by decide) rfl ?_
          refine z_iinc (pc := 39) (lv2 := [(3, .int (iI (i + 1))), (2, .int (iI i)), (0, .ref m), (1, .int (iI w))]) dX4_mostOf_39 3 rfl (by decide) rfl ?_
          refine z_goto (pc := 42) (tgt := 4) dX4_mostOf_42 (by decide) ?_
          refine z_lv (lv2 := [(0, .ref m), (1, .int (iI w)), (2, .int (iI i)), (3, .int (iI (i + 1)))]) [2, 3, 1, 0] rfl ?_
          exact ih4 (i + 1) i (by omega) (by omega) (by rw [mostN_s _ hi0, ← hb]; split <;> omega) (by omega)
        · skip
          refine z_aload_n (pc := 18) dX4_mostOf_18 0 rfl ?_
          refine z_iload_n (pc := 19) dX4_mostOf_19 3 rfl ?_
          refine z_iload_n (pc := 20) dX4_mostOf_20 1 rfl ?_
          refine z_callV (pc := 21) (st := []) (st2 := [.int (iI (g w i))]) (ws2 := [(m, .inr (4, [.ref mR, .ref mF, .ref mT, .ref mB, .ref mTp, .int (iI tn), .int (iI so), .int (iI be), .int (iI te), .long wd, .int (iI va), .int gd, .ref mBo, .ref mSo, .ref mSh, .ref mLe, .ref mIm, .ref mBf, .int ik])), (mR, .inl (cI, 35, .inl (rowA g)))]) (q0 := 0) (c_X4_its l D cI cJ cB cS xa m mR mF mT mB mTp mBo mSo mSh mLe mIm mBf tn so be te va wd gd ik g i w (by omega) (by omega)) mV_X4_its kM_X4_57 dX4_mostOf_21 rfl rfl [0, 1] rfl rfl rfl rfl rfl rfl rfl rfl ⟨Nat.le_of_ble_eq_true rfl, Nat.le_of_ble_eq_true rfl, Nat.le_of_ble_eq_true rfl⟩ ?_
          refine z_aload_n (pc := 24) dX4_mostOf_24 0 rfl ?_
          refine z_iload_n (pc := 25) dX4_mostOf_25 2 rfl ?_
          refine z_iload_n (pc := 26) dX4_mostOf_26 1 rfl ?_
          refine z_callV (pc := 27) (st := [.int (iI (g w i))]) (st2 := [.int (iI (g w b)), .int (iI (g w i))]) (ws2 := [(m, .inr (4, [.ref mR, .ref mF, .ref mT, .ref mB, .ref mTp, .int (iI tn), .int (iI so), .int (iI be), .int (iI te), .long wd, .int (iI va), .int gd, .ref mBo, .ref mSo, .ref mSh, .ref mLe, .ref mIm, .ref mBf, .int ik])), (mR, .inl (cI, 35, .inl (rowA g)))]) (q0 := 0) (c_X4_its l D cI cJ cB cS xa m mR mF mT mB mTp mBo mSo mSh mLe mIm mBf tn so be te va wd gd ik g b w (by omega) (by omega)) mV_X4_its kM_X4_57 dX4_mostOf_27 rfl rfl [0, 1] rfl rfl rfl rfl rfl rfl rfl rfl ⟨Nat.le_of_ble_eq_true rfl, Nat.le_of_ble_eq_true rfl, Nat.le_of_ble_eq_true rfl⟩ ?_
          refine z_icmp_le (pc := 30) (tgt := 37) dX4_mostOf_30 (by decide) (by omega) (by omega) (fun h30 => ?_) (fun h30 => ?_)
          · skip
            refine z_iload_n (pc := 37) dX4_mostOf_37 2 rfl ?_
            refine z_istore_n (pc := 38) (lv2 := [(2, .int (iI b)), (0, .ref m), (1, .int (iI w)), (3, .int (iI i))]) dX4_mostOf_38 rfl (by decide) rfl ?_
            refine z_iinc (pc := 39) (lv2 := [(3, .int (iI (i + 1))), (2, .int (iI b)), (0, .ref m), (1, .int (iI w))]) dX4_mostOf_39 3 rfl (by decide) rfl ?_
            refine z_goto (pc := 42) (tgt := 4) dX4_mostOf_42 (by decide) ?_
            refine z_lv (lv2 := [(0, .ref m), (1, .int (iI w)), (2, .int (iI b)), (3, .int (iI (i + 1)))]) [2, 3, 1, 0] rfl ?_
            exact ih4 (i + 1) b (by omega) (by omega) (by rw [mostN_s _ hi0, ← hb]; split <;> omega) (by omega)
          · skip
            refine z_iload_n (pc := 33) dX4_mostOf_33 3 rfl ?_
            refine z_goto (pc := 34) (tgt := 38) dX4_mostOf_34 (by decide) ?_
            refine z_istore_n (pc := 38) (lv2 := [(2, .int (iI i)), (0, .ref m), (1, .int (iI w)), (3, .int (iI i))]) dX4_mostOf_38 rfl (by decide) rfl ?_
            refine z_iinc (pc := 39) (lv2 := [(3, .int (iI (i + 1))), (2, .int (iI i)), (0, .ref m), (1, .int (iI w))]) dX4_mostOf_39 3 rfl (by decide) rfl ?_
            refine z_goto (pc := 42) (tgt := 4) dX4_mostOf_42 (by decide) ?_
            refine z_lv (lv2 := [(0, .ref m), (1, .int (iI w)), (2, .int (iI i)), (3, .int (iI (i + 1)))]) [2, 3, 1, 0] rfl ?_
            exact ih4 (i + 1) i (by omega) (by omega) (by rw [mostN_s _ hi0, ← hb]; split <;> omega) (by omega)
  refine z_lv (lv2 := [(0, .ref m), (1, .int (iI w)), (2, .int (iI (-1))), (3, .int (iI 0))]) [2, 3, 1, 0] rfl ?_
  exact LP4 _ 0 (-1) (by omega) (by omega) (by rfl) (Nat.lt_succ_self _)
set_option maxHeartbeats 8000000 in
set_option maxRecDepth 100000 in
theorem c_X4_lowest (l : Launch) (D : va_G) (cI cJ cB cS : ClassId) (xa : XA) (m mR mF mT mB mTp mBo mSo mSh mLe mIm mBf : Nat) (tn so be te va : Int) (wd : Int64) (gd ik : Int32) (g : Gd) (ok : Ok g) : Ct l D cI cJ cB cS xa yX4_lowest cX4_lowest 3 (some .int) 1 22 [.ref m] [(m, .inr (4, [.ref mR, .ref mF, .ref mT, .ref mB, .ref mTp, .int (iI tn), .int (iI so), .int (iI be), .int (iI te), .long wd, .int (iI va), .int gd, .ref mBo, .ref mSo, .ref mSh, .ref mLe, .ref mIm, .ref mBf, .int ik])), (mR, .inl (cI, 35, .inl (rowA g)))] (some (.int (iI (lowG g)))) [(m, .inr (4, [.ref mR, .ref mF, .ref mT, .ref mB, .ref mTp, .int (iI tn), .int (iI so), .int (iI be), .int (iI te), .long wd, .int (iI va), .int gd, .ref mBo, .ref mSo, .ref mSh, .ref mLe, .ref mIm, .ref mBf, .int ik])), (mR, .inl (cI, 35, .inl (rowA g)))] := by
  have o0 := ok0 ok
  have o1 := ok1 ok
  have o2 := ok2 ok
  refine CtE.of (own := RX4) (lv := [(0, .ref m)]) (by decide) rfl rfl (Nat.le_of_ble_eq_true rfl) ?_
  intro xp xe xs xm xb xt xc
  refine z_iconst (pc := 0) dX4_lowest_0 ?_
  refine z_istore_n (pc := 1) (lv2 := [(1, .int (iI (-1))), (0, .ref m)]) dX4_lowest_1 rfl (by decide) rfl ?_
  refine z_iconst (pc := 2) dX4_lowest_2 ?_
  refine z_istore_n (pc := 3) (lv2 := [(2, .int (iI 0)), (1, .int (iI (-1))), (0, .ref m)]) dX4_lowest_3 rfl (by decide) rfl ?_
  have LP4 : ∀ (nn_ : Nat) (i : Int) (b : Int), (0 ≤ i) → (i ≤ g 4 2) → (b = lowN (g 1) i.toNat) → (g 4 2 - i).toNat < nn_ → Z xp l xe { frames := 1, cells := 0, slots := 0, locals := 22 } xs xm ([.ref m] : List Value).toArray xb xt xc 0 0 (MQ xb (Cq (S := Unit) D [(m, .inr (4, [.ref mR, .ref mF, .ref mT, .ref mB, .ref mTp, .int (iI tn), .int (iI so), .int (iI be), .int (iI te), .long wd, .int (iI va), .int gd, .ref mBo, .ref mSo, .ref mSh, .ref mLe, .ref mIm, .ref mBf, .int ik])), (mR, .inl (cI, 35, .inl (rowA g)))] (fun _ => True) (fun _ => (some (.int (iI (lowG g))))) (fun _ => [(m, .inr (4, [.ref mR, .ref mF, .ref mT, .ref mB, .ref mTp, .int (iI tn), .int (iI so), .int (iI be), .int (iI te), .long wd, .int (iI va), .int gd, .ref mBo, .ref mSo, .ref mSh, .ref mLe, .ref mIm, .ref mBf, .int ik])), (mR, .inl (cI, 35, .inl (rowA g)))])) ([.ref m] : List Value).toArray xs 0 0 (va_A0 [(m, .inr (4, [.ref mR, .ref mF, .ref mT, .ref mB, .ref mTp, .int (iI tn), .int (iI so), .int (iI be), .int (iI te), .long wd, .int (iI va), .int gd, .ref mBo, .ref mSo, .ref mSh, .ref mLe, .ref mIm, .ref mBf, .int ik])), (mR, .inl (cI, 35, .inl (rowA g)))])) cX4_lowest RX4 3 (some .int) D cI cJ cB cS xa (va_A0 [(m, .inr (4, [.ref mR, .ref mF, .ref mT, .ref mB, .ref mTp, .int (iI tn), .int (iI so), .int (iI be), .int (iI te), .long wd, .int (iI va), .int gd, .ref mBo, .ref mSo, .ref mSh, .ref mLe, .ref mIm, .ref mBf, .int ik])), (mR, .inl (cI, 35, .inl (rowA g)))]) [(m, .inr (4, [.ref mR, .ref mF, .ref mT, .ref mB, .ref mTp, .int (iI tn), .int (iI so), .int (iI be), .int (iI te), .long wd, .int (iI va), .int gd, .ref mBo, .ref mSo, .ref mSh, .ref mLe, .ref mIm, .ref mBf, .int ik])), (mR, .inl (cI, 35, .inl (rowA g)))] [(0, .ref m), (1, .int (iI b)), (2, .int (iI i))] 4 [] := by
    intro nn_
    induction nn_ with
    | zero => intro i b hi0 hi1 hb hms; exact absurd hms (Nat.not_lt_zero _)
    | succ nn_ ih =>
      intro i b hi0 hi1 hb hms
      have rb := lowN_rng (g 1) i.toNat
      rw [← hb] at rb
      have ih4 := ih
      clear ih
      refine z_iload_n (pc := 4) dX4_lowest_4 2 rfl ?_
      refine z_aload_n (pc := 5) dX4_lowest_5 0 rfl ?_
      refine z_get (pc := 6) (q0 := 0) (v := .ref mR) fL_X4_7 dX4_lowest_6 rfl rfl ?_
      refine z_iconst (pc := 9) dX4_lowest_9 ?_
      refine z_iald (pc := 10) (q0 := 1) (v := (iI (g 4 2))) dX4_lowest_10 rfl (by omega) (by decide) (rowA_4 (by decide) (by decide)) ?_
      refine z_icmp_ge (pc := 11) (tgt := 45) dX4_lowest_11 (by decide) (by omega) (by omega) (fun h11 => ?_) (fun h11 => ?_)
      · skip
        obtain rfl : i = g 4 2 := by omega
        refine z_iload_n (pc := 45) dX4_lowest_45 1 rfl ?_
        exact z_iret (pc := 46) dX4_lowest_46 (congrArg (fun z => some (Value.int (iI z))) (show (lowG g) = b from by exact hb.symm)) rfl
      · skip
        refine z_iload_n (pc := 14) dX4_lowest_14 1 rfl ?_
        refine z_if_lt (pc := 15) (tgt := 33) dX4_lowest_15 (by decide) (by omega) (fun h15 => ?_) (fun h15 => ?_)
        · skip
          refine z_iload_n (pc := 33) dX4_lowest_33 2 rfl ?_
          refine z_goto (pc := 34) (tgt := 38) dX4_lowest_34 (by decide) ?_
          refine z_istore_n (pc := 38) (lv2 := [(1, .int (iI i)), (0, .ref m), (2, .int (iI i))]) dX4_lowest_38 rfl (by decide) rfl ?_
          refine z_iinc (pc := 39) (lv2 := [(2, .int (iI (i + 1))), (1, .int (iI i)), (0, .ref m)]) dX4_lowest_39 2 rfl (by decide) rfl ?_
          refine z_goto (pc := 42) (tgt := 4) dX4_lowest_42 (by decide) ?_
          refine z_lv (lv2 := [(0, .ref m), (1, .int (iI i)), (2, .int (iI (i + 1)))]) [2, 1, 0] rfl ?_
          exact ih4 (i + 1) i (by omega) (by omega) (by rw [lowN_s _ hi0, ← hb]; split <;> omega) (by omega)
        · skip
          refine z_aload_n (pc := 18) dX4_lowest_18 0 rfl ?_
          refine z_iload_n (pc := 19) dX4_lowest_19 2 rfl ?_
          refine z_iconst (pc := 20) dX4_lowest_20 ?_
          refine z_callV (pc := 21) (st := []) (st2 := [.int (iI (g 1 i))]) (ws2 := [(m, .inr (4, [.ref mR, .ref mF, .ref mT, .ref mB, .ref mTp, .int (iI tn), .int (iI so), .int (iI be), .int (iI te), .long wd, .int (iI va), .int gd, .ref mBo, .ref mSo, .ref mSh, .ref mLe, .ref mIm, .ref mBf, .int ik])), (mR, .inl (cI, 35, .inl (rowA g)))]) (q0 := 0) (c_X4_its l D cI cJ cB cS xa m mR mF mT mB mTp mBo mSo mSh mLe mIm mBf tn so be te va wd gd ik g i 1 (by omega) (by omega)) mV_X4_its kM_X4_57 dX4_lowest_21 rfl rfl [0, 1] rfl rfl rfl rfl rfl rfl rfl rfl ⟨Nat.le_of_ble_eq_true rfl, Nat.le_of_ble_eq_true rfl, Nat.le_of_ble_eq_true rfl⟩ ?_
          have b1 := okH ok i
          refine z_aload_n (pc := 24) dX4_lowest_24 0 rfl ?_
          refine z_iload_n (pc := 25) dX4_lowest_25 1 rfl ?_
          refine z_iconst (pc := 26) dX4_lowest_26 ?_
          refine z_callV (pc := 27) (st := [.int (iI (g 1 i))]) (st2 := [.int (iI (g 1 b)), .int (iI (g 1 i))]) (ws2 := [(m, .inr (4, [.ref mR, .ref mF, .ref mT, .ref mB, .ref mTp, .int (iI tn), .int (iI so), .int (iI be), .int (iI te), .long wd, .int (iI va), .int gd, .ref mBo, .ref mSo, .ref mSh, .ref mLe, .ref mIm, .ref mBf, .int ik])), (mR, .inl (cI, 35, .inl (rowA g)))]) (q0 := 0) (c_X4_its l D cI cJ cB cS xa m mR mF mT mB mTp mBo mSo mSh mLe mIm mBf tn so be te va wd gd ik g b 1 (by omega) (by omega)) mV_X4_its kM_X4_57 dX4_lowest_27 rfl rfl [0, 1] rfl rfl rfl rfl rfl rfl rfl rfl ⟨Nat.le_of_ble_eq_true rfl, Nat.le_of_ble_eq_true rfl, Nat.le_of_ble_eq_true rfl⟩ ?_
          have b2 := okH ok b
          refine z_icmp_ge (pc := 30) (tgt := 37) dX4_lowest_30 (by decide) (by omega) (by omega) (fun h30 => ?_) (fun h30 => ?_)
          · skip
            refine z_iload_n (pc := 37) dX4_lowest_37 1 rfl ?_
            refine z_istore_n (pc := 38) (lv2 := [(1, .int (iI b)), (0, .ref m), (2, .int (iI i))]) dX4_lowest_38 rfl (by decide) rfl ?_
            refine z_iinc (pc := 39) (lv2 := [(2, .int (iI (i + 1))), (1, .int (iI b)), (0, .ref m)]) dX4_lowest_39 2 rfl (by decide) rfl ?_
            refine z_goto (pc := 42) (tgt := 4) dX4_lowest_42 (by decide) ?_
            refine z_lv (lv2 := [(0, .ref m), (1, .int (iI b)), (2, .int (iI (i + 1)))]) [2, 1, 0] rfl ?_
            exact ih4 (i + 1) b (by omega) (by omega) (by rw [lowN_s _ hi0, ← hb]; split <;> omega) (by omega)
          · skip
            refine z_iload_n (pc := 33) dX4_lowest_33 2 rfl ?_
            refine z_goto (pc := 34) (tgt := 38) dX4_lowest_34 (by decide) ?_
            refine z_istore_n (pc := 38) (lv2 := [(1, .int (iI i)), (0, .ref m), (2, .int (iI i))]) dX4_lowest_38 rfl (by decide) rfl ?_
            refine z_iinc (pc := 39) (lv2 := [(2, .int (iI (i + 1))), (1, .int (iI i)), (0, .ref m)]) dX4_lowest_39 2 rfl (by decide) rfl ?_
            refine z_goto (pc := 42) (tgt := 4) dX4_lowest_42 (by decide) ?_
            refine z_lv (lv2 := [(0, .ref m), (1, .int (iI i)), (2, .int (iI (i + 1)))]) [2, 1, 0] rfl ?_
            exact ih4 (i + 1) i (by omega) (by omega) (by rw [lowN_s _ hi0, ← hb]; split <;> omega) (by omega)
  refine z_lv (lv2 := [(0, .ref m), (1, .int (iI (-1))), (2, .int (iI 0))]) [2, 1, 0] rfl ?_
  exact LP4 _ 0 (-1) (by omega) (by omega) (by rfl) (Nat.lt_succ_self _)
set_option maxHeartbeats 8000000 in
set_option maxRecDepth 100000 in
theorem c_X4_difference (l : Launch) (D : va_G) (cI cJ cB cS : ClassId) (xa : XA) (m mR mF mT mB mTp mBo mSo mSh mLe mIm mBf : Nat) (tn so be te va : Int) (wd : Int64) (gd ik : Int32) (g : Gd) (ok : Ok g) : Ct l D cI cJ cB cS xa yX4_difference cX4_difference 1 (some .int) 2 45 [.ref m] [(m, .inr (4, [.ref mR, .ref mF, .ref mT, .ref mB, .ref mTp, .int (iI tn), .int (iI so), .int (iI be), .int (iI te), .long wd, .int (iI va), .int gd, .ref mBo, .ref mSo, .ref mSh, .ref mLe, .ref mIm, .ref mBf, .int ik])), (mR, .inl (cI, 35, .inl (rowA g)))] (some (.int (iI (diffG g)))) [(m, .inr (4, [.ref mR, .ref mF, .ref mT, .ref mB, .ref mTp, .int (iI tn), .int (iI so), .int (iI be), .int (iI te), .long wd, .int (iI va), .int gd, .ref mBo, .ref mSo, .ref mSh, .ref mLe, .ref mIm, .ref mBf, .int ik])), (mR, .inl (cI, 35, .inl (rowA g)))] := by
  have o0 := ok0 ok
  have o1 := ok1 ok
  have o2 := ok2 ok
  refine CtE.of (own := RX4) (lv := [(0, .ref m)]) (by decide) rfl rfl (Nat.le_of_ble_eq_true rfl) ?_
  intro xp xe xs xm xb xt xc
  refine z_aload_n (pc := 0) dX4_difference_0 0 rfl ?_
  refine z_get (pc := 1) (q0 := 0) (v := .ref mR) fL_X4_7 dX4_difference_1 rfl rfl ?_
  refine z_iconst (pc := 4) dX4_difference_4 ?_
  refine z_iald (pc := 5) (q0 := 1) (v := (iI (g 4 2))) dX4_difference_5 rfl (by omega) (by decide) (rowA_4 (by decide) (by decide)) ?_
  refine z_if_ne (pc := 6) (tgt := 13) dX4_difference_6 (by decide) (by omega) (fun h6 => ?_) (fun h6 => ?_)
  · skip
    have rh := highG_rng ok
    have rl := lowG_rng ok
    refine z_aload_n (pc := 13) dX4_difference_13 0 rfl ?_
    refine z_aload_n (pc := 14) dX4_difference_14 0 rfl ?_
    refine z_iconst (pc := 15) dX4_difference_15 ?_
    refine z_callV (pc := 16) (st := [.ref m]) (st2 := [.int (iI (highG g)), .ref m]) (ws2 := [(m, .inr (4, [.ref mR, .ref mF, .ref mT, .ref mB, .ref mTp, .int (iI tn), .int (iI so), .int (iI be), .int (iI te), .long wd, .int (iI va), .int gd, .ref mBo, .ref mSo, .ref mSh, .ref mLe, .ref mIm, .ref mBf, .int ik])), (mR, .inl (cI, 35, .inl (rowA g)))]) (q0 := 0) (c_X4_mostOf l D cI cJ cB cS xa m mR mF mT mB mTp mBo mSo mSh mLe mIm mBf tn so be te va wd gd ik g 1 ok (by omega)) mV_X4_mostOf kM_X4_60 dX4_difference_16 rfl rfl [0, 1] rfl rfl rfl rfl rfl rfl rfl rfl ⟨Nat.le_of_ble_eq_true rfl, Nat.le_of_ble_eq_true rfl, Nat.le_of_ble_eq_true rfl⟩ ?_
    have f16_1 := mostG_rng ok 1
    refine z_iconst (pc := 19) dX4_difference_19 ?_
    refine z_callV (pc := 20) (st := []) (st2 := [.int (iI (g 1 (highG g)))]) (ws2 := [(m, .inr (4, [.ref mR, .ref mF, .ref mT, .ref mB, .ref mTp, .int (iI tn), .int (iI so), .int (iI be), .int (iI te), .long wd, .int (iI va), .int gd, .ref mBo, .ref mSo, .ref mSh, .ref mLe, .ref mIm, .ref mBf, .int ik])), (mR, .inl (cI, 35, .inl (rowA g)))]) (q0 := 0) (c_X4_its l D cI cJ cB cS xa m mR mF mT mB mTp mBo mSo mSh mLe mIm mBf tn so be te va wd gd ik g (highG g) 1 (by omega) (by omega)) mV_X4_its kM_X4_57 dX4_difference_20 rfl rfl [0, 1] rfl rfl rfl rfl rfl rfl rfl rfl ⟨Nat.le_of_ble_eq_true rfl, Nat.le_of_ble_eq_true rfl, Nat.le_of_ble_eq_true rfl⟩ ?_
    have b2 := okH ok (highG g)
    refine z_aload_n (pc := 23) dX4_difference_23 0 rfl ?_
    refine z_aload_n (pc := 24) dX4_difference_24 0 rfl ?_
    refine z_callV (pc := 25) (st := [.ref m, .int (iI (g 1 (highG g)))]) (st2 := [.int (iI (lowG g)), .ref m, .int (iI (g 1 (highG g)))]) (ws2 := [(m, .inr (4, [.ref mR, .ref mF, .ref mT, .ref mB, .ref mTp, .int (iI tn), .int (iI so), .int (iI be), .int (iI te), .long wd, .int (iI va), .int gd, .ref mBo, .ref mSo, .ref mSh, .ref mLe, .ref mIm, .ref mBf, .int ik])), (mR, .inl (cI, 35, .inl (rowA g)))]) (q0 := 0) (c_X4_lowest l D cI cJ cB cS xa m mR mF mT mB mTp mBo mSo mSh mLe mIm mBf tn so be te va wd gd ik g ok) mV_X4_lowest kM_X4_63 dX4_difference_25 rfl rfl [0, 1] rfl rfl rfl rfl rfl rfl rfl rfl ⟨Nat.le_of_ble_eq_true rfl, Nat.le_of_ble_eq_true rfl, Nat.le_of_ble_eq_true rfl⟩ ?_
    have f25_3 := lowG_rng ok
    refine z_iconst (pc := 28) dX4_difference_28 ?_
    refine z_callV (pc := 29) (st := [.int (iI (g 1 (highG g)))]) (st2 := [.int (iI (g 1 (lowG g))), .int (iI (g 1 (highG g)))]) (ws2 := [(m, .inr (4, [.ref mR, .ref mF, .ref mT, .ref mB, .ref mTp, .int (iI tn), .int (iI so), .int (iI be), .int (iI te), .long wd, .int (iI va), .int gd, .ref mBo, .ref mSo, .ref mSh, .ref mLe, .ref mIm, .ref mBf, .int ik])), (mR, .inl (cI, 35, .inl (rowA g)))]) (q0 := 0) (c_X4_its l D cI cJ cB cS xa m mR mF mT mB mTp mBo mSo mSh mLe mIm mBf tn so be te va wd gd ik g (lowG g) 1 (by omega) (by omega)) mV_X4_its kM_X4_57 dX4_difference_29 rfl rfl [0, 1] rfl rfl rfl rfl rfl rfl rfl rfl ⟨Nat.le_of_ble_eq_true rfl, Nat.le_of_ble_eq_true rfl, Nat.le_of_ble_eq_true rfl⟩ ?_
    have b4 := okH ok (lowG g)
    refine z_isub (pc := 32) dX4_difference_32 ?_
    exact z_iret (pc := 33) dX4_difference_33 (congrArg (fun z => some (Value.int (iI z))) (show (diffG g) = (g 1 (highG g)) - (g 1 (lowG g)) from by unfold diffG; split <;> omega)) rfl
  · skip
    refine z_iconst (pc := 9) dX4_difference_9 ?_
    refine z_goto (pc := 10) (tgt := 33) dX4_difference_10 (by decide) ?_
    exact z_iret (pc := 33) dX4_difference_33 (congrArg (fun z => some (Value.int (iI z))) (show (diffG g) = 0 from by unfold diffG; split <;> omega)) rfl
set_option maxHeartbeats 8000000 in
set_option maxRecDepth 100000 in
theorem c_X4_dustSet (l : Launch) (D : va_G) (cI cJ cB cS : ClassId) (xa : XA) (m mR mF mT mB mTp mBo mSo mSh mLe mIm mBf : Nat) (tn so be te va : Int) (wd : Int64) (gd ik : Int32) (g : Gd) (ok : Ok g) : Ct l D cI cJ cB cS xa yX4_dustSet cX4_dustSet 3 (some .int) 1 22 [.ref m] [(m, .inr (4, [.ref mR, .ref mF, .ref mT, .ref mB, .ref mTp, .int (iI tn), .int (iI so), .int (iI be), .int (iI te), .long wd, .int (iI va), .int gd, .ref mBo, .ref mSo, .ref mSh, .ref mLe, .ref mIm, .ref mBf, .int ik])), (mR, .inl (cI, 35, .inl (rowA g)))] (some (.int (dustN (g 1) (many g)))) [(m, .inr (4, [.ref mR, .ref mF, .ref mT, .ref mB, .ref mTp, .int (iI tn), .int (iI so), .int (iI be), .int (iI te), .long wd, .int (iI va), .int gd, .ref mBo, .ref mSo, .ref mSh, .ref mLe, .ref mIm, .ref mBf, .int ik])), (mR, .inl (cI, 35, .inl (rowA g)))] := by
  have o0 := ok0 ok
  have o1 := ok1 ok
  have o2 := ok2 ok
  refine CtE.of (own := RX4) (lv := [(0, .ref m)]) (by decide) rfl rfl (Nat.le_of_ble_eq_true rfl) ?_
  intro xp xe xs xm xb xt xc
  refine z_iconst (pc := 0) dX4_dustSet_0 ?_
  refine z_istore_n (pc := 1) (lv2 := [(1, .int (iI 0)), (0, .ref m)]) dX4_dustSet_1 rfl (by decide) rfl ?_
  refine z_iconst (pc := 2) dX4_dustSet_2 ?_
  refine z_istore_n (pc := 3) (lv2 := [(2, .int (iI 0)), (1, .int (iI 0)), (0, .ref m)]) dX4_dustSet_3 rfl (by decide) rfl ?_
  have LP4 : ∀ (nn_ : Nat) (i : Int) (b : Int32), (0 ≤ i) → (i ≤ g 4 2) → (b = dustN (g 1) i.toNat) → (g 4 2 - i).toNat < nn_ → Z xp l xe { frames := 1, cells := 0, slots := 0, locals := 22 } xs xm ([.ref m] : List Value).toArray xb xt xc 0 0 (MQ xb (Cq (S := Unit) D [(m, .inr (4, [.ref mR, .ref mF, .ref mT, .ref mB, .ref mTp, .int (iI tn), .int (iI so), .int (iI be), .int (iI te), .long wd, .int (iI va), .int gd, .ref mBo, .ref mSo, .ref mSh, .ref mLe, .ref mIm, .ref mBf, .int ik])), (mR, .inl (cI, 35, .inl (rowA g)))] (fun _ => True) (fun _ => (some (.int (dustN (g 1) (many g))))) (fun _ => [(m, .inr (4, [.ref mR, .ref mF, .ref mT, .ref mB, .ref mTp, .int (iI tn), .int (iI so), .int (iI be), .int (iI te), .long wd, .int (iI va), .int gd, .ref mBo, .ref mSo, .ref mSh, .ref mLe, .ref mIm, .ref mBf, .int ik])), (mR, .inl (cI, 35, .inl (rowA g)))])) ([.ref m] : List Value).toArray xs 0 0 (va_A0 [(m, .inr (4, [.ref mR, .ref mF, .ref mT, .ref mB, .ref mTp, .int (iI tn), .int (iI so), .int (iI be), .int (iI te), .long wd, .int (iI va), .int gd, .ref mBo, .ref mSo, .ref mSh, .ref mLe, .ref mIm, .ref mBf, .int ik])), (mR, .inl (cI, 35, .inl (rowA g)))])) cX4_dustSet RX4 3 (some .int) D cI cJ cB cS xa (va_A0 [(m, .inr (4, [.ref mR, .ref mF, .ref mT, .ref mB, .ref mTp, .int (iI tn), .int (iI so), .int (iI be), .int (iI te), .long wd, .int (iI va), .int gd, .ref mBo, .ref mSo, .ref mSh, .ref mLe, .ref mIm, .ref mBf, .int ik])), (mR, .inl (cI, 35, .inl (rowA g)))]) [(m, .inr (4, [.ref mR, .ref mF, .ref mT, .ref mB, .ref mTp, .int (iI tn), .int (iI so), .int (iI be), .int (iI te), .long wd, .int (iI va), .int gd, .ref mBo, .ref mSo, .ref mSh, .ref mLe, .ref mIm, .ref mBf, .int ik])), (mR, .inl (cI, 35, .inl (rowA g)))] [(0, .ref m), (1, .int b), (2, .int (iI i))] 4 [] := by
    intro nn_
    induction nn_ with
    | zero => intro i b hi0 hi1 hb hms; exact absurd hms (Nat.not_lt_zero _)
    | succ nn_ ih =>
      intro i b hi0 hi1 hb hms
      have ih4 := ih
      clear ih
      refine z_iload_n (pc := 4) dX4_dustSet_4 2 rfl ?_
      refine z_aload_n (pc := 5) dX4_dustSet_5 0 rfl ?_
      refine z_get (pc := 6) (q0 := 0) (v := .ref mR) fL_X4_7 dX4_dustSet_6 rfl rfl ?_
      refine z_iconst (pc := 9) dX4_dustSet_9 ?_
      refine z_iald (pc := 10) (q0 := 1) (v := (iI (g 4 2))) dX4_dustSet_10 rfl (by omega) (by decide) (rowA_4 (by decide) (by decide)) ?_
      refine z_icmp_ge (pc := 11) (tgt := 39) dX4_dustSet_11 (by decide) (by omega) (by omega) (fun h11 => ?_) (fun h11 => ?_)
      · skip
        obtain rfl : i = g 4 2 := by omega
        refine z_iload_n (pc := 39) dX4_dustSet_39 1 rfl ?_
        exact z_iret (pc := 40) dX4_dustSet_40 (by rw [hb]) rfl
      · skip
        refine z_iload_n (pc := 14) dX4_dustSet_14 1 rfl ?_
        refine z_aload_n (pc := 15) dX4_dustSet_15 0 rfl ?_
        refine z_iload_n (pc := 16) dX4_dustSet_16 2 rfl ?_
        refine z_iconst (pc := 17) dX4_dustSet_17 ?_
        refine z_callV (pc := 18) (st := [.int b]) (st2 := [.int (iI (g 1 i)), .int b]) (ws2 := [(m, .inr (4, [.ref mR, .ref mF, .ref mT, .ref mB, .ref mTp, .int (iI tn), .int (iI so), .int (iI be), .int (iI te), .long wd, .int (iI va), .int gd, .ref mBo, .ref mSo, .ref mSh, .ref mLe, .ref mIm, .ref mBf, .int ik])), (mR, .inl (cI, 35, .inl (rowA g)))]) (q0 := 0) (c_X4_its l D cI cJ cB cS xa m mR mF mT mB mTp mBo mSo mSh mLe mIm mBf tn so be te va wd gd ik g i 1 (by omega) (by omega)) mV_X4_its kM_X4_57 dX4_dustSet_18 rfl rfl [0, 1] rfl rfl rfl rfl rfl rfl rfl rfl ⟨Nat.le_of_ble_eq_true rfl, Nat.le_of_ble_eq_true rfl, Nat.le_of_ble_eq_true rfl⟩ ?_
        have b1 := okH ok i
        refine z_if_ne (pc := 21) (tgt := 30) dX4_dustSet_21 (by decide) (by omega) (fun h21 => ?_) (fun h21 => ?_)
        · skip
          refine z_iconst (pc := 30) dX4_dustSet_30 ?_
          refine z_ior (pc := 31) dX4_dustSet_31 ?_
          refine z_istore_n (pc := 32) (lv2 := [(1, .int (b ||| (iI 0))), (0, .ref m), (2, .int (iI i))]) dX4_dustSet_32 rfl (by decide) rfl ?_
          refine z_iinc (pc := 33) (lv2 := [(2, .int (iI (i + 1))), (1, .int (b ||| (iI 0))), (0, .ref m)]) dX4_dustSet_33 2 rfl (by decide) rfl ?_
          refine z_goto (pc := 36) (tgt := 4) dX4_dustSet_36 (by decide) ?_
          refine z_lv (lv2 := [(0, .ref m), (1, .int (b ||| (iI 0))), (2, .int (iI (i + 1)))]) [2, 1, 0] rfl ?_
          exact ih4 (i + 1) (b ||| (iI 0)) (by omega) (by omega) (by rw [dustN_s _ hi0, ← hb, if_neg h21]; exact or_iI0 b) (by omega)
        · skip
          refine z_iconst (pc := 24) dX4_dustSet_24 ?_
          refine z_iload_n (pc := 25) dX4_dustSet_25 2 rfl ?_
          refine z_ishl (pc := 26) dX4_dustSet_26 ?_
          refine z_goto (pc := 27) (tgt := 31) dX4_dustSet_27 (by decide) ?_
          refine z_ior (pc := 31) dX4_dustSet_31 ?_
          refine z_istore_n (pc := 32) (lv2 := [(1, .int (b ||| ((iI 1) <<< ((iI i) &&& 31)))), (0, .ref m), (2, .int (iI i))]) dX4_dustSet_32 rfl (by decide) rfl ?_
          refine z_iinc (pc := 33) (lv2 := [(2, .int (iI (i + 1))), (1, .int (b ||| ((iI 1) <<< ((iI i) &&& 31)))), (0, .ref m)]) dX4_dustSet_33 2 rfl (by decide) rfl ?_
          refine z_goto (pc := 36) (tgt := 4) dX4_dustSet_36 (by decide) ?_
          refine z_lv (lv2 := [(0, .ref m), (1, .int (b ||| ((iI 1) <<< ((iI i) &&& 31)))), (2, .int (iI (i + 1)))]) [2, 1, 0] rfl ?_
          exact ih4 (i + 1) (b ||| ((iI 1) <<< ((iI i) &&& 31))) (by omega) (by omega) (by rw [dustN_s _ hi0, ← hb, if_pos (by omega)]) (by omega)
  refine z_lv (lv2 := [(0, .ref m), (1, .int (iI 0)), (2, .int (iI 0))]) [2, 1, 0] rfl ?_
  exact LP4 _ 0 (iI 0) (by omega) (by omega) (by rfl) (Nat.lt_succ_self _)
set_option maxHeartbeats 8000000 in
set_option maxRecDepth 100000 in
theorem c_X4_wants (l : Launch) (D : va_G) (cI cJ cB cS : ClassId) (xa : XA) (m mR mF mT mB mTp mBo mSo mSh mLe mIm mBf : Nat) (tn so be te va : Int) (wd : Int64) (gd ik : Int32) (g : Gd) (c : Int) (ok : Ok g) (hc0 : 0 ≤ c) (hc1 : c < g 4 2) : Ct l D cI cJ cB cS xa yX4_wants cX4_wants 2 (some .int) 1 22 [.ref m, .int (iI c)] [(m, .inr (4, [.ref mR, .ref mF, .ref mT, .ref mB, .ref mTp, .int (iI tn), .int (iI so), .int (iI be), .int (iI te), .long wd, .int (iI va), .int gd, .ref mBo, .ref mSo, .ref mSh, .ref mLe, .ref mIm, .ref mBf, .int ik])), (mR, .inl (cI, 35, .inl (rowA g)))] (some (.int (iI (wantsG g c)))) [(m, .inr (4, [.ref mR, .ref mF, .ref mT, .ref mB, .ref mTp, .int (iI tn), .int (iI so), .int (iI be), .int (iI te), .long wd, .int (iI va), .int gd, .ref mBo, .ref mSo, .ref mSh, .ref mLe, .ref mIm, .ref mBf, .int ik])), (mR, .inl (cI, 35, .inl (rowA g)))] := by
  have o0 := ok0 ok
  have o1 := ok1 ok
  have o2 := ok2 ok
  refine CtE.of (own := RX4) (lv := [(0, .ref m), (1, .int (iI c))]) (by decide) rfl rfl (Nat.le_of_ble_eq_true rfl) ?_
  intro xp xe xs xm xb xt xc
  refine z_aload_n (pc := 0) dX4_wants_0 0 rfl ?_
  refine z_get (pc := 1) (q0 := 0) (v := .ref mR) fL_X4_7 dX4_wants_1 rfl rfl ?_
  refine z_iconst (pc := 4) dX4_wants_4 ?_
  refine z_iald (pc := 5) (q0 := 1) (v := (iI (g 4 2))) dX4_wants_5 rfl (by omega) (by decide) (rowA_4 (by decide) (by decide)) ?_
  refine z_iconst (pc := 6) dX4_wants_6 ?_
  refine z_icmp_ne (pc := 7) (tgt := 12) dX4_wants_7 (by decide) (by omega) (by omega) (fun h7 => ?_) (fun h7 => ?_)
  · skip
    refine z_aload_n (pc := 12) dX4_wants_12 0 rfl ?_
    refine z_iload_n (pc := 13) dX4_wants_13 1 rfl ?_
    refine z_iconst (pc := 14) dX4_wants_14 ?_
    refine z_callV (pc := 15) (st := []) (st2 := [.int (iI (g 0 c))]) (ws2 := [(m, .inr (4, [.ref mR, .ref mF, .ref mT, .ref mB, .ref mTp, .int (iI tn), .int (iI so), .int (iI be), .int (iI te), .long wd, .int (iI va), .int gd, .ref mBo, .ref mSo, .ref mSh, .ref mLe, .ref mIm, .ref mBf, .int ik])), (mR, .inl (cI, 35, .inl (rowA g)))]) (q0 := 0) (c_X4_its l D cI cJ cB cS xa m mR mF mT mB mTp mBo mSo mSh mLe mIm mBf tn so be te va wd gd ik g c 0 (by omega) (by omega)) mV_X4_its kM_X4_57 dX4_wants_15 rfl rfl [0, 1] rfl rfl rfl rfl rfl rfl rfl rfl ⟨Nat.le_of_ble_eq_true rfl, Nat.le_of_ble_eq_true rfl, Nat.le_of_ble_eq_true rfl⟩ ?_
    have b1 := okK ok c
    by_cases h18 : 1 ≤ (g 0 c) ∧ (g 0 c) ≤ 5
    · skip
      have h18v : (g 0 c) = 1 ∨ (g 0 c) = 2 ∨ (g 0 c) = 3 ∨ (g 0 c) = 4 ∨ (g 0 c) = 5 := by omega
      rcases h18v with h18v | h18v | h18v | h18v | h18v
      · skip
        refine z_tableIn (pc := 18) (tgt := 52) dX4_wants_18 (by omega) (by omega) (by omega) (by rw [h18v]; rfl) (by decide) ?_
        refine z_iconst (pc := 52) dX4_wants_52 ?_
        exact z_iret (pc := 53) dX4_wants_53 (congrArg (fun z => some (Value.int (iI z))) (show (wantsG g c) = 5 from by unfold wantsG; (repeat' split) <;> omega)) rfl
      · skip
        refine z_tableIn (pc := 18) (tgt := 54) dX4_wants_18 (by omega) (by omega) (by omega) (by rw [h18v]; rfl) (by decide) ?_
        refine z_iconst (pc := 54) dX4_wants_54 ?_
        exact z_iret (pc := 55) dX4_wants_55 (congrArg (fun z => some (Value.int (iI z))) (show (wantsG g c) = 1 from by unfold wantsG; (repeat' split) <;> omega)) rfl
      · skip
        refine z_tableIn (pc := 18) (tgt := 56) dX4_wants_18 (by omega) (by omega) (by omega) (by rw [h18v]; rfl) (by decide) ?_
        refine z_aload_n (pc := 56) dX4_wants_56 0 rfl ?_
        refine z_aload_n (pc := 57) dX4_wants_57 0 rfl ?_
        refine z_iload_n (pc := 58) dX4_wants_58 1 rfl ?_
        refine z_callV (pc := 59) (st := [.ref m]) (st2 := [.int (iI (nextG g c)), .ref m]) (ws2 := [(m, .inr (4, [.ref mR, .ref mF, .ref mT, .ref mB, .ref mTp, .int (iI tn), .int (iI so), .int (iI be), .int (iI te), .long wd, .int (iI va), .int gd, .ref mBo, .ref mSo, .ref mSh, .ref mLe, .ref mIm, .ref mBf, .int ik])), (mR, .inl (cI, 35, .inl (rowA g)))]) (q0 := 0) (c_X4_next l D cI cJ cB cS xa m mR mF mT mB mTp mBo mSo mSh mLe mIm mBf tn so be te va wd gd ik g c ok (by omega) (by omega)) mV_X4_next kM_X4_83 dX4_wants_59 rfl rfl [0, 1] rfl rfl rfl rfl rfl rfl rfl rfl ⟨Nat.le_of_ble_eq_true rfl, Nat.le_of_ble_eq_true rfl, Nat.le_of_ble_eq_true rfl⟩ ?_
        have f59_2 := nextG_rng ok (show (0 : Int) ≤ c by omega) (show c < g 4 2 by omega)
        refine z_iconst (pc := 62) dX4_wants_62 ?_
        refine z_callV (pc := 63) (st := []) (st2 := [.int (iI (g 1 (nextG g c)))]) (ws2 := [(m, .inr (4, [.ref mR, .ref mF, .ref mT, .ref mB, .ref mTp, .int (iI tn), .int (iI so), .int (iI be), .int (iI te), .long wd, .int (iI va), .int gd, .ref mBo, .ref mSo, .ref mSh, .ref mLe, .ref mIm, .ref mBf, .int ik])), (mR, .inl (cI, 35, .inl (rowA g)))]) (q0 := 0) (c_X4_its l D cI cJ cB cS xa m mR mF mT mB mTp mBo mSo mSh mLe mIm mBf tn so be te va wd gd ik g (nextG g c) 1 (by omega) (by omega)) mV_X4_its kM_X4_57 dX4_wants_63 rfl rfl [0, 1] rfl rfl rfl rfl rfl rfl rfl rfl ⟨Nat.le_of_ble_eq_true rfl, Nat.le_of_ble_eq_true rfl, Nat.le_of_ble_eq_true rfl⟩ ?_
        have b3 := okH ok (nextG g c)
        refine z_aload_n (pc := 66) dX4_wants_66 0 rfl ?_
        refine z_iload_n (pc := 67) dX4_wants_67 1 rfl ?_
        refine z_iconst (pc := 68) dX4_wants_68 ?_
        refine z_callV (pc := 69) (st := [.int (iI (g 1 (nextG g c)))]) (st2 := [.int (iI (g 1 c)), .int (iI (g 1 (nextG g c)))]) (ws2 := [(m, .inr (4, [.ref mR, .ref mF, .ref mT, .ref mB, .ref mTp, .int (iI tn), .int (iI so), .int (iI be), .int (iI te), .long wd, .int (iI va), .int gd, .ref mBo, .ref mSo, .ref mSh, .ref mLe, .ref mIm, .ref mBf, .int ik])), (mR, .inl (cI, 35, .inl (rowA g)))]) (q0 := 0) (c_X4_its l D cI cJ cB cS xa m mR mF mT mB mTp mBo mSo mSh mLe mIm mBf tn so be te va wd gd ik g c 1 (by omega) (by omega)) mV_X4_its kM_X4_57 dX4_wants_69 rfl rfl [0, 1] rfl rfl rfl rfl rfl rfl rfl rfl ⟨Nat.le_of_ble_eq_true rfl, Nat.le_of_ble_eq_true rfl, Nat.le_of_ble_eq_true rfl⟩ ?_
        have b4 := okH ok c
        refine z_icmp_ge (pc := 72) (tgt := 80) dX4_wants_72 (by decide) (by omega) (by omega) (fun h72 => ?_) (fun h72 => ?_)
        · skip
          refine z_iconst (pc := 80) dX4_wants_80 ?_
          exact z_iret (pc := 81) dX4_wants_81 (congrArg (fun z => some (Value.int (iI z))) (show (wantsG g c) = 0 from by unfold wantsG; (repeat' split) <;> omega)) rfl
        · skip
          refine z_bipush (pc := 75) dX4_wants_75 (by decide) ?_
          refine z_goto (pc := 77) (tgt := 81) dX4_wants_77 (by decide) ?_
          exact z_iret (pc := 81) dX4_wants_81 (congrArg (fun z => some (Value.int (iI z))) (show (wantsG g c) = -3 from by unfold wantsG; (repeat' split) <;> omega)) rfl
      · skip
        refine z_tableIn (pc := 18) (tgt := 82) dX4_wants_18 (by omega) (by omega) (by omega) (by rw [h18v]; rfl) (by decide) ?_
        refine z_aload_n (pc := 82) dX4_wants_82 0 rfl ?_
        refine z_callV (pc := 83) (st := []) (st2 := [.int (bI (satur g))]) (ws2 := [(m, .inr (4, [.ref mR, .ref mF, .ref mT, .ref mB, .ref mTp, .int (iI tn), .int (iI so), .int (iI be), .int (iI te), .long wd, .int (iI va), .int gd, .ref mBo, .ref mSo, .ref mSh, .ref mLe, .ref mIm, .ref mBf, .int ik])), (mR, .inl (cI, 35, .inl (rowA g)))]) (q0 := 0) (c_X4_isSaturday l D cI cJ cB cS xa m mR mF mT mB mTp mBo mSo mSh mLe mIm mBf tn so be te va wd gd ik g ok) mV_X4_isSaturday kM_X4_71 dX4_wants_83 rfl rfl [0, 1] rfl rfl rfl rfl rfl rfl rfl rfl ⟨Nat.le_of_ble_eq_true rfl, Nat.le_of_ble_eq_true rfl, Nat.le_of_ble_eq_true rfl⟩ ?_
        refine z_ifb_eq (pc := 86) (tgt := 94) dX4_wants_86 (by decide) (fun h86 => ?_) (fun h86 => ?_)
        · skip
          refine z_iconst (pc := 94) dX4_wants_94 ?_
          exact z_iret (pc := 95) dX4_wants_95 (congrArg (fun z => some (Value.int (iI z))) (show (wantsG g c) = 5 from by unfold wantsG; (repeat' split) <;> omega)) rfl
        · skip
          refine z_bipush (pc := 89) dX4_wants_89 (by decide) ?_
          refine z_goto (pc := 91) (tgt := 95) dX4_wants_91 (by decide) ?_
          exact z_iret (pc := 95) dX4_wants_95 (congrArg (fun z => some (Value.int (iI z))) (show (wantsG g c) = 10 from by unfold wantsG; (repeat' split) <;> omega)) rfl
      · skip
        refine z_tableIn (pc := 18) (tgt := 96) dX4_wants_18 (by omega) (by omega) (by omega) (by rw [h18v]; rfl) (by decide) ?_
        refine z_aload_n (pc := 96) dX4_wants_96 0 rfl ?_
        refine z_iload_n (pc := 97) dX4_wants_97 1 rfl ?_
        refine z_iconst (pc := 98) dX4_wants_98 ?_
        refine z_callV (pc := 99) (st := []) (st2 := [.int (iI (g 1 c))]) (ws2 := [(m, .inr (4, [.ref mR, .ref mF, .ref mT, .ref mB, .ref mTp, .int (iI tn), .int (iI so), .int (iI be), .int (iI te), .long wd, .int (iI va), .int gd, .ref mBo, .ref mSo, .ref mSh, .ref mLe, .ref mIm, .ref mBf, .int ik])), (mR, .inl (cI, 35, .inl (rowA g)))]) (q0 := 0) (c_X4_its l D cI cJ cB cS xa m mR mF mT mB mTp mBo mSo mSh mLe mIm mBf tn so be te va wd gd ik g c 1 (by omega) (by omega)) mV_X4_its kM_X4_57 dX4_wants_99 rfl rfl [0, 1] rfl rfl rfl rfl rfl rfl rfl rfl ⟨Nat.le_of_ble_eq_true rfl, Nat.le_of_ble_eq_true rfl, Nat.le_of_ble_eq_true rfl⟩ ?_
        have b5 := okH ok c
        refine z_bipush (pc := 102) dX4_wants_102 (by decide) ?_
        refine z_icmp_le (pc := 104) (tgt := 111) dX4_wants_104 (by decide) (by omega) (by omega) (fun h104 => ?_) (fun h104 => ?_)
        · skip
          refine z_iconst (pc := 111) dX4_wants_111 ?_
          exact z_iret (pc := 112) dX4_wants_112 (congrArg (fun z => some (Value.int (iI z))) (show (wantsG g c) = 1 from by unfold wantsG; (repeat' split) <;> omega)) rfl
        · skip
          refine z_iconst (pc := 107) dX4_wants_107 ?_
          refine z_goto (pc := 108) (tgt := 112) dX4_wants_108 (by decide) ?_
          exact z_iret (pc := 112) dX4_wants_112 (congrArg (fun z => some (Value.int (iI z))) (show (wantsG g c) = 0 from by unfold wantsG; (repeat' split) <;> omega)) rfl
    · skip
      refine z_tableOut (pc := 18) (tgt := 113) dX4_wants_18 (by omega) (by omega) (by decide) ?_
      refine z_iconst (pc := 113) dX4_wants_113 ?_
      exact z_iret (pc := 114) dX4_wants_114 (congrArg (fun z => some (Value.int (iI z))) (show (wantsG g c) = 2 from by unfold wantsG; (repeat' split) <;> omega)) rfl
  · skip
    refine z_iconst (pc := 10) dX4_wants_10 ?_
    exact z_iret (pc := 11) dX4_wants_11 (congrArg (fun z => some (Value.int (iI z))) (show (wantsG g c) = 0 from by unfold wantsG; (repeat' split) <;> omega)) rfl
set_option maxHeartbeats 8000000 in
set_option maxRecDepth 100000 in
theorem c_X4_pays (l : Launch) (D : va_G) (cI cJ cB cS : ClassId) (xa : XA) (m mR mF mT mB mTp mBo mSo mSh mLe mIm mBf : Nat) (tn so be te va : Int) (wd : Int64) (gd ik : Int32) (g : Gd) (c : Int) (ok : Ok g) (hc : 0 ≤ c ∧ c < 8) : Ct l D cI cJ cB cS xa yX4_pays cX4_pays 2 (some .int) 1 22 [.ref m, .int (iI c)] [(m, .inr (4, [.ref mR, .ref mF, .ref mT, .ref mB, .ref mTp, .int (iI tn), .int (iI so), .int (iI be), .int (iI te), .long wd, .int (iI va), .int gd, .ref mBo, .ref mSo, .ref mSh, .ref mLe, .ref mIm, .ref mBf, .int ik])), (mR, .inl (cI, 35, .inl (rowA g)))] (some (.int (iI (paysG g c)))) [(m, .inr (4, [.ref mR, .ref mF, .ref mT, .ref mB, .ref mTp, .int (iI tn), .int (iI so), .int (iI be), .int (iI te), .long wd, .int (iI va), .int gd, .ref mBo, .ref mSo, .ref mSh, .ref mLe, .ref mIm, .ref mBf, .int ik])), (mR, .inl (cI, 35, .inl (rowA g)))] := by
  have o0 := ok0 ok
  have o1 := ok1 ok
  have o2 := ok2 ok
  refine CtE.of (own := RX4) (lv := [(0, .ref m), (1, .int (iI c))]) (by decide) rfl rfl (Nat.le_of_ble_eq_true rfl) ?_
  intro xp xe xs xm xb xt xc
  refine z_aload_n (pc := 0) dX4_pays_0 0 rfl ?_
  refine z_iload_n (pc := 1) dX4_pays_1 1 rfl ?_
  refine z_iconst (pc := 2) dX4_pays_2 ?_
  refine z_callV (pc := 3) (st := []) (st2 := [.int (iI (g 0 c))]) (ws2 := [(m, .inr (4, [.ref mR, .ref mF, .ref mT, .ref mB, .ref mTp, .int (iI tn), .int (iI so), .int (iI be), .int (iI te), .long wd, .int (iI va), .int gd, .ref mBo, .ref mSo, .ref mSh, .ref mLe, .ref mIm, .ref mBf, .int ik])), (mR, .inl (cI, 35, .inl (rowA g)))]) (q0 := 0) (c_X4_its l D cI cJ cB cS xa m mR mF mT mB mTp mBo mSo mSh mLe mIm mBf tn so be te va wd gd ik g c 0 (by omega) (by omega)) mV_X4_its kM_X4_57 dX4_pays_3 rfl rfl [0, 1] rfl rfl rfl rfl rfl rfl rfl rfl ⟨Nat.le_of_ble_eq_true rfl, Nat.le_of_ble_eq_true rfl, Nat.le_of_ble_eq_true rfl⟩ ?_
  have b1 := okK ok c
  refine z_iconst (pc := 6) dX4_pays_6 ?_
  refine z_icmp_ne (pc := 7) (tgt := 14) dX4_pays_7 (by decide) (by omega) (by omega) (fun h7 => ?_) (fun h7 => ?_)
  · skip
    refine z_iconst (pc := 14) dX4_pays_14 ?_
    exact z_iret (pc := 15) dX4_pays_15 (congrArg (fun z => some (Value.int (iI z))) (show (paysG g c) = 0 from by unfold paysG; split <;> omega)) rfl
  · skip
    refine z_iconst (pc := 10) dX4_pays_10 ?_
    refine z_goto (pc := 11) (tgt := 15) dX4_pays_11 (by decide) ?_
    exact z_iret (pc := 15) dX4_pays_15 (congrArg (fun z => some (Value.int (iI z))) (show (paysG g c) = 1 from by unfold paysG; split <;> omega)) rfl
set_option maxHeartbeats 8000000 in
set_option maxRecDepth 100000 in
theorem c_X4_yields (l : Launch) (D : va_G) (cI cJ cB cS : ClassId) (xa : XA) (m mR mF mT mB mTp mBo mSo mSh mLe mIm mBf : Nat) (tn so be te va : Int) (wd : Int64) (gd ik : Int32) (g : Gd) (c : Int) (ok : Ok g) (hc0 : 0 ≤ c) (hc1 : c < g 4 2) : Ct l D cI cJ cB cS xa yX4_yields cX4_yields 2 (some .int) 1 22 [.ref m, .int (iI c)] [(m, .inr (4, [.ref mR, .ref mF, .ref mT, .ref mB, .ref mTp, .int (iI tn), .int (iI so), .int (iI be), .int (iI te), .long wd, .int (iI va), .int gd, .ref mBo, .ref mSo, .ref mSh, .ref mLe, .ref mIm, .ref mBf, .int ik])), (mR, .inl (cI, 35, .inl (rowA g)))] (some (.int (iI (yieldsG g c)))) [(m, .inr (4, [.ref mR, .ref mF, .ref mT, .ref mB, .ref mTp, .int (iI tn), .int (iI so), .int (iI be), .int (iI te), .long wd, .int (iI va), .int gd, .ref mBo, .ref mSo, .ref mSh, .ref mLe, .ref mIm, .ref mBf, .int ik])), (mR, .inl (cI, 35, .inl (rowA g)))] := by
  have o0 := ok0 ok
  have o1 := ok1 ok
  have o2 := ok2 ok
  refine CtE.of (own := RX4) (lv := [(0, .ref m), (1, .int (iI c))]) (by decide) rfl rfl (Nat.le_of_ble_eq_true rfl) ?_
  intro xp xe xs xm xb xt xc
  refine z_aload_n (pc := 0) dX4_yields_0 0 rfl ?_
  refine z_iload_n (pc := 1) dX4_yields_1 1 rfl ?_
  refine z_iconst (pc := 2) dX4_yields_2 ?_
  refine z_callV (pc := 3) (st := []) (st2 := [.int (iI (g 0 c))]) (ws2 := [(m, .inr (4, [.ref mR, .ref mF, .ref mT, .ref mB, .ref mTp, .int (iI tn), .int (iI so), .int (iI be), .int (iI te), .long wd, .int (iI va), .int gd, .ref mBo, .ref mSo, .ref mSh, .ref mLe, .ref mIm, .ref mBf, .int ik])), (mR, .inl (cI, 35, .inl (rowA g)))]) (q0 := 0) (c_X4_its l D cI cJ cB cS xa m mR mF mT mB mTp mBo mSo mSh mLe mIm mBf tn so be te va wd gd ik g c 0 (by omega) (by omega)) mV_X4_its kM_X4_57 dX4_yields_3 rfl rfl [0, 1] rfl rfl rfl rfl rfl rfl rfl rfl ⟨Nat.le_of_ble_eq_true rfl, Nat.le_of_ble_eq_true rfl, Nat.le_of_ble_eq_true rfl⟩ ?_
  have b1 := okK ok c
  by_cases h6 : 1 ≤ (g 0 c) ∧ (g 0 c) ≤ 5
  · skip
    have h6v : (g 0 c) = 1 ∨ (g 0 c) = 2 ∨ (g 0 c) = 3 ∨ (g 0 c) = 4 ∨ (g 0 c) = 5 := by omega
    rcases h6v with h6v | h6v | h6v | h6v | h6v
    · skip
      refine z_tableIn (pc := 6) (tgt := 40) dX4_yields_6 (by omega) (by omega) (by omega) (by rw [h6v]; rfl) (by decide) ?_
      refine z_iconst (pc := 40) dX4_yields_40 ?_
      exact z_iret (pc := 41) dX4_yields_41 (congrArg (fun z => some (Value.int (iI z))) (show (yieldsG g c) = 2 from by unfold yieldsG; (repeat' split) <;> omega)) rfl
    · skip
      refine z_tableIn (pc := 6) (tgt := 42) dX4_yields_6 (by omega) (by omega) (by omega) (by rw [h6v]; rfl) (by decide) ?_
      refine z_bipush (pc := 42) dX4_yields_42 (by decide) ?_
      exact z_iret (pc := 44) dX4_yields_44 (congrArg (fun z => some (Value.int (iI z))) (show (yieldsG g c) = 8 from by unfold yieldsG; (repeat' split) <;> omega)) rfl
    · skip
      refine z_tableIn (pc := 6) (tgt := 45) dX4_yields_6 (by omega) (by omega) (by omega) (by rw [h6v]; rfl) (by decide) ?_
      refine z_aload_n (pc := 45) dX4_yields_45 0 rfl ?_
      refine z_iload_n (pc := 46) dX4_yields_46 1 rfl ?_
      refine z_iconst (pc := 47) dX4_yields_47 ?_
      refine z_callV (pc := 48) (st := []) (st2 := [.int (iI (g 1 c))]) (ws2 := [(m, .inr (4, [.ref mR, .ref mF, .ref mT, .ref mB, .ref mTp, .int (iI tn), .int (iI so), .int (iI be), .int (iI te), .long wd, .int (iI va), .int gd, .ref mBo, .ref mSo, .ref mSh, .ref mLe, .ref mIm, .ref mBf, .int ik])), (mR, .inl (cI, 35, .inl (rowA g)))]) (q0 := 0) (c_X4_its l D cI cJ cB cS xa m mR mF mT mB mTp mBo mSo mSh mLe mIm mBf tn so be te va wd gd ik g c 1 (by omega) (by omega)) mV_X4_its kM_X4_57 dX4_yields_48 rfl rfl [0, 1] rfl rfl rfl rfl rfl rfl rfl rfl ⟨Nat.le_of_ble_eq_true rfl, Nat.le_of_ble_eq_true rfl, Nat.le_of_ble_eq_true rfl⟩ ?_
      have b2 := okH ok c
      exact z_iret (pc := 51) dX4_yields_51 (congrArg (fun z => some (Value.int (iI z))) (show (yieldsG g c) = g 1 c from by unfold yieldsG; (repeat' split) <;> omega)) rfl
    · skip
      refine z_tableIn (pc := 6) (tgt := 52) dX4_yields_6 (by omega) (by omega) (by omega) (by rw [h6v]; rfl) (by decide) ?_
      refine z_aload_n (pc := 52) dX4_yields_52 0 rfl ?_
      refine z_callV (pc := 53) (st := []) (st2 := [.int (bI (satur g))]) (ws2 := [(m, .inr (4, [.ref mR, .ref mF, .ref mT, .ref mB, .ref mTp, .int (iI tn), .int (iI so), .int (iI be), .int (iI te), .long wd, .int (iI va), .int gd, .ref mBo, .ref mSo, .ref mSh, .ref mLe, .ref mIm, .ref mBf, .int ik])), (mR, .inl (cI, 35, .inl (rowA g)))]) (q0 := 0) (c_X4_isSaturday l D cI cJ cB cS xa m mR mF mT mB mTp mBo mSo mSh mLe mIm mBf tn so be te va wd gd ik g ok) mV_X4_isSaturday kM_X4_71 dX4_yields_53 rfl rfl [0, 1] rfl rfl rfl rfl rfl rfl rfl rfl ⟨Nat.le_of_ble_eq_true rfl, Nat.le_of_ble_eq_true rfl, Nat.le_of_ble_eq_true rfl⟩ ?_
      refine z_ifb_eq (pc := 56) (tgt := 63) dX4_yields_56 (by decide) (fun h56 => ?_) (fun h56 => ?_)
      · skip
        refine z_iconst (pc := 63) dX4_yields_63 ?_
        exact z_iret (pc := 64) dX4_yields_64 (congrArg (fun z => some (Value.int (iI z))) (show (yieldsG g c) = 2 from by unfold yieldsG; (repeat' split) <;> omega)) rfl
      · skip
        refine z_iconst (pc := 59) dX4_yields_59 ?_
        refine z_goto (pc := 60) (tgt := 64) dX4_yields_60 (by decide) ?_
        exact z_iret (pc := 64) dX4_yields_64 (congrArg (fun z => some (Value.int (iI z))) (show (yieldsG g c) = 0 from by unfold yieldsG; (repeat' split) <;> omega)) rfl
    · skip
      refine z_tableIn (pc := 6) (tgt := 42) dX4_yields_6 (by omega) (by omega) (by omega) (by rw [h6v]; rfl) (by decide) ?_
      refine z_bipush (pc := 42) dX4_yields_42 (by decide) ?_
      exact z_iret (pc := 44) dX4_yields_44 (congrArg (fun z => some (Value.int (iI z))) (show (yieldsG g c) = 8 from by unfold yieldsG; (repeat' split) <;> omega)) rfl
  · skip
    refine z_tableOut (pc := 6) (tgt := 65) dX4_yields_6 (by omega) (by omega) (by decide) ?_
    refine z_iconst (pc := 65) dX4_yields_65 ?_
    exact z_iret (pc := 66) dX4_yields_66 (congrArg (fun z => some (Value.int (iI z))) (show (yieldsG g c) = 4 from by unfold yieldsG; (repeat' split) <;> omega)) rfl
set_option maxHeartbeats 8000000 in
set_option maxRecDepth 100000 in
theorem c_X4_adds (l : Launch) (D : va_G) (cI cJ cB cS : ClassId) (xa : XA) (m mR mF mT mB mTp mBo mSo mSh mLe mIm mBf : Nat) (tn so be te va : Int) (wd : Int64) (gd ik : Int32) (g : Gd) (k a b : Int) (ok : Ok g) (hn : g 4 2 < 8) (hk : 0 ≤ k ∧ k ≤ 5) (ha : 0 ≤ a ∧ a ≤ 200) (hb : 0 ≤ b ∧ b ≤ 99) : Ct l D cI cJ cB cS xa yX4_adds cX4_adds 5 none 1 23 [.ref m, .int (iI k), .int (iI a), .int (iI b)] [(m, .inr (4, [.ref mR, .ref mF, .ref mT, .ref mB, .ref mTp, .int (iI tn), .int (iI so), .int (iI be), .int (iI te), .long wd, .int (iI va), .int gd, .ref mBo, .ref mSo, .ref mSh, .ref mLe, .ref mIm, .ref mBf, .int ik])), (mR, .inl (cI, 35, .inl (rowA g)))] none [(m, .inr (4, [.ref mR, .ref mF, .ref mT, .ref mB, .ref mTp, .int (iI tn), .int (iI so), .int (iI be), .int (iI te), .long wd, .int (iI va), .int gd, .ref mBo, .ref mSo, .ref mSh, .ref mLe, .ref mIm, .ref mBf, .int ik])), (mR, .inl (cI, 35, .inl (rowA (addG g k a b))))] := by
  have o0 := ok0 ok
  have o1 := ok1 ok
  have o2 := ok2 ok
  refine CtE.of (own := RX4) (lv := [(0, .ref m), (1, .int (iI k)), (2, .int (iI a)), (3, .int (iI b))]) (by decide) rfl rfl (Nat.le_of_ble_eq_true rfl) ?_
  intro xp xe xs xm xb xt xc
  refine z_aload_n (pc := 0) dX4_adds_0 0 rfl ?_
  refine z_get (pc := 1) (q0 := 0) (v := .ref mR) fL_X4_7 dX4_adds_1 rfl rfl ?_
  refine z_iconst (pc := 4) dX4_adds_4 ?_
  refine z_iald (pc := 5) (q0 := 1) (v := (iI (g 4 2))) dX4_adds_5 rfl (by omega) (by decide) (rowA_4 (by decide) (by decide)) ?_
  refine z_istore (pc := 6) (lv2 := [(4, .int (iI (g 4 2))), (0, .ref m), (1, .int (iI k)), (2, .int (iI a)), (3, .int (iI b))]) dX4_adds_6 (by decide) rfl ?_
  refine z_aload_n (pc := 8) dX4_adds_8 1 rfl ?_
  refine z_iload (pc := 9) dX4_adds_9 0 rfl ?_
  refine z_iconst (pc := 11) dX4_adds_11 ?_
  refine z_iload_n (pc := 12) dX4_adds_12 2 rfl ?_
  refine z_callV (pc := 13) (st := []) (st2 := []) (ws2 := [(m, .inr (4, [.ref mR, .ref mF, .ref mT, .ref mB, .ref mTp, .int (iI tn), .int (iI so), .int (iI be), .int (iI te), .long wd, .int (iI va), .int gd, .ref mBo, .ref mSo, .ref mSh, .ref mLe, .ref mIm, .ref mBf, .int ik])), (mR, .inl (cI, 35, .inl (rowA (up2 g 0 (g 4 2) k))))]) (q0 := 0) (c_X4_puts l D cI cJ cB cS xa m mR mF mT mB mTp mBo mSo mSh mLe mIm mBf tn so be te va wd gd ik g (g 4 2) 0 k (by omega) (by omega)) mV_X4_puts kM_X4_86 dX4_adds_13 rfl rfl [0, 1] rfl rfl rfl rfl rfl rfl rfl rfl ⟨Nat.le_of_ble_eq_true rfl, Nat.le_of_ble_eq_true rfl, Nat.le_of_ble_eq_true rfl⟩ ?_
  refine z_aload_n (pc := 16) dX4_adds_16 1 rfl ?_
  refine z_iload (pc := 17) dX4_adds_17 0 rfl ?_
  refine z_iconst (pc := 19) dX4_adds_19 ?_
  refine z_iload_n (pc := 20) dX4_adds_20 3 rfl ?_
  refine z_callV (pc := 21) (st := []) (st2 := []) (ws2 := [(m, .inr (4, [.ref mR, .ref mF, .ref mT, .ref mB, .ref mTp, .int (iI tn), .int (iI so), .int (iI be), .int (iI te), .long wd, .int (iI va), .int gd, .ref mBo, .ref mSo, .ref mSh, .ref mLe, .ref mIm, .ref mBf, .int ik])), (mR, .inl (cI, 35, .inl (rowA (up2 (up2 g 0 (g 4 2) k) 1 (g 4 2) a))))]) (q0 := 0) (c_X4_puts l D cI cJ cB cS xa m mR mF mT mB mTp mBo mSo mSh mLe mIm mBf tn so be te va wd gd ik (up2 g 0 (g 4 2) k) (g 4 2) 1 a (by omega) (by omega)) mV_X4_puts kM_X4_86 dX4_adds_21 rfl rfl [0, 1] rfl rfl rfl rfl rfl rfl rfl rfl ⟨Nat.le_of_ble_eq_true rfl, Nat.le_of_ble_eq_true rfl, Nat.le_of_ble_eq_true rfl⟩ ?_
  refine z_aload_n (pc := 24) dX4_adds_24 1 rfl ?_
  refine z_iload (pc := 25) dX4_adds_25 0 rfl ?_
  refine z_iconst (pc := 27) dX4_adds_27 ?_
  refine z_iload_n (pc := 28) dX4_adds_28 4 rfl ?_
  refine z_callV (pc := 29) (st := []) (st2 := []) (ws2 := [(m, .inr (4, [.ref mR, .ref mF, .ref mT, .ref mB, .ref mTp, .int (iI tn), .int (iI so), .int (iI be), .int (iI te), .long wd, .int (iI va), .int gd, .ref mBo, .ref mSo, .ref mSh, .ref mLe, .ref mIm, .ref mBf, .int ik])), (mR, .inl (cI, 35, .inl (rowA (up2 (up2 (up2 g 0 (g 4 2) k) 1 (g 4 2) a) 2 (g 4 2) b))))]) (q0 := 0) (c_X4_puts l D cI cJ cB cS xa m mR mF mT mB mTp mBo mSo mSh mLe mIm mBf tn so be te va wd gd ik (up2 (up2 g 0 (g 4 2) k) 1 (g 4 2) a) (g 4 2) 2 b (by omega) (by omega)) mV_X4_puts kM_X4_86 dX4_adds_29 rfl rfl [0, 1] rfl rfl rfl rfl rfl rfl rfl rfl ⟨Nat.le_of_ble_eq_true rfl, Nat.le_of_ble_eq_true rfl, Nat.le_of_ble_eq_true rfl⟩ ?_
  refine z_aload_n (pc := 32) dX4_adds_32 1 rfl ?_
  refine z_iload (pc := 33) dX4_adds_33 0 rfl ?_
  refine z_iconst (pc := 35) dX4_adds_35 ?_
  refine z_iconst (pc := 36) dX4_adds_36 ?_
  refine z_callV (pc := 37) (st := []) (st2 := []) (ws2 := [(m, .inr (4, [.ref mR, .ref mF, .ref mT, .ref mB, .ref mTp, .int (iI tn), .int (iI so), .int (iI be), .int (iI te), .long wd, .int (iI va), .int gd, .ref mBo, .ref mSo, .ref mSh, .ref mLe, .ref mIm, .ref mBf, .int ik])), (mR, .inl (cI, 35, .inl (rowA (up2 (up2 (up2 (up2 g 0 (g 4 2) k) 1 (g 4 2) a) 2 (g 4 2) b) 3 (g 4 2) 0))))]) (q0 := 0) (c_X4_puts l D cI cJ cB cS xa m mR mF mT mB mTp mBo mSo mSh mLe mIm mBf tn so be te va wd gd ik (up2 (up2 (up2 g 0 (g 4 2) k) 1 (g 4 2) a) 2 (g 4 2) b) (g 4 2) 3 0 (by omega) (by omega)) mV_X4_puts kM_X4_86 dX4_adds_37 rfl rfl [0, 1] rfl rfl rfl rfl rfl rfl rfl rfl ⟨Nat.le_of_ble_eq_true rfl, Nat.le_of_ble_eq_true rfl, Nat.le_of_ble_eq_true rfl⟩ ?_
  refine z_aload_n (pc := 40) dX4_adds_40 1 rfl ?_
  refine z_get (pc := 41) (q0 := 0) (v := .ref mR) fL_X4_7 dX4_adds_41 rfl rfl ?_
  refine z_iconst (pc := 44) dX4_adds_44 ?_
  refine z_dup2 (pc := 45) dX4_adds_45 rfl rfl ?_
  refine z_iald (pc := 46) (q0 := 1) (v := (iI (g 4 2))) dX4_adds_46 rfl (by omega) (by decide) (rowA_4 (by decide) (by decide)) ?_
  refine z_iconst (pc := 47) dX4_adds_47 ?_
  refine z_iadd (pc := 48) dX4_adds_48 ?_
  refine z_iast (pc := 49) (q0 := 1) (ws2 := [(m, .inr (4, [.ref mR, .ref mF, .ref mT, .ref mB, .ref mTp, .int (iI tn), .int (iI so), .int (iI be), .int (iI te), .long wd, .int (iI va), .int gd, .ref mBo, .ref mSo, .ref mSh, .ref mLe, .ref mIm, .ref mBf, .int ik])), (mR, .inl (cI, 35, .inl (rowA (up2 (up2 (up2 (up2 (up2 g 0 (g 4 2) k) 1 (g 4 2) a) 2 (g 4 2) b) 3 (g 4 2) 0) 4 2 ((g 4 2) + 1)))))]) dX4_adds_49 rfl (by omega) (by decide) (by rw [rowA_up4 (z := 2) (by decide) (by decide)]; try rfl) ?_
  exact z_vret (pc := 50) dX4_adds_50 rfl rfl
set_option maxHeartbeats 8000000 in
set_option maxRecDepth 100000 in
theorem c_X4_pushes (l : Launch) (D : va_G) (cI cJ cB cS : ClassId) (xa : XA) (m mR mF mT mB mTp mBo mSo mSh mLe mIm mBf : Nat) (tn so be te va : Int) (wd : Int64) (gd ik : Int32) (g : Gd) (c v : Int) (ok : Ok g) (hc : 0 ≤ c ∧ c < 8) (hv : 0 ≤ v ∧ v ≤ 99) : Ct l D cI cJ cB cS xa yX4_pushes cX4_pushes 3 none 1 23 [.ref m, .int (iI c), .int (iI v)] [(m, .inr (4, [.ref mR, .ref mF, .ref mT, .ref mB, .ref mTp, .int (iI tn), .int (iI so), .int (iI be), .int (iI te), .long wd, .int (iI va), .int gd, .ref mBo, .ref mSo, .ref mSh, .ref mLe, .ref mIm, .ref mBf, .int ik])), (mR, .inl (cI, 35, .inl (rowA g)))] none [(m, .inr (4, [.ref mR, .ref mF, .ref mT, .ref mB, .ref mTp, .int (iI tn), .int (iI so), .int (iI be), .int (iI te), .long wd, .int (iI va), .int gd, .ref mBo, .ref mSo, .ref mSh, .ref mLe, .ref mIm, .ref mBf, .int ik])), (mR, .inl (cI, 35, .inl (rowA (pushG g c v))))] := by
  have o0 := ok0 ok
  have o1 := ok1 ok
  have o2 := ok2 ok
  refine CtE.of (own := RX4) (lv := [(0, .ref m), (1, .int (iI c)), (2, .int (iI v))]) (by decide) rfl rfl (Nat.le_of_ble_eq_true rfl) ?_
  intro xp xe xs xm xb xt xc
  refine z_aload_n (pc := 0) dX4_pushes_0 0 rfl ?_
  refine z_iload_n (pc := 1) dX4_pushes_1 1 rfl ?_
  refine z_iconst (pc := 2) dX4_pushes_2 ?_
  refine z_aload_n (pc := 3) dX4_pushes_3 0 rfl ?_
  refine z_iload_n (pc := 4) dX4_pushes_4 1 rfl ?_
  refine z_iconst (pc := 5) dX4_pushes_5 ?_
  refine z_callV (pc := 6) (st := [.int (iI 1), .int (iI c), .ref m]) (st2 := [.int (iI (g 1 c)), .int (iI 1), .int (iI c), .ref m]) (ws2 := [(m, .inr (4, [.ref mR, .ref mF, .ref mT, .ref mB, .ref mTp, .int (iI tn), .int (iI so), .int (iI be), .int (iI te), .long wd, .int (iI va), .int gd, .ref mBo, .ref mSo, .ref mSh, .ref mLe, .ref mIm, .ref mBf, .int ik])), (mR, .inl (cI, 35, .inl (rowA g)))]) (q0 := 0) (c_X4_its l D cI cJ cB cS xa m mR mF mT mB mTp mBo mSo mSh mLe mIm mBf tn so be te va wd gd ik g c 1 (by omega) (by omega)) mV_X4_its kM_X4_57 dX4_pushes_6 rfl rfl [0, 1] rfl rfl rfl rfl rfl rfl rfl rfl ⟨Nat.le_of_ble_eq_true rfl, Nat.le_of_ble_eq_true rfl, Nat.le_of_ble_eq_true rfl⟩ ?_
  have b1 := okH ok c
  refine z_iload_n (pc := 9) dX4_pushes_9 2 rfl ?_
  refine z_iadd (pc := 10) dX4_pushes_10 ?_
  refine z_sipush (pc := 11) dX4_pushes_11 (by decide) ?_
  refine z_callS (pc := 14) (st := [.int (iI 1), .int (iI c), .ref m]) (st2 := [.int (iI (min ((g 1 c) + v) 200)), .int (iI 1), .int (iI c), .ref m]) (ws2 := [(m, .inr (4, [.ref mR, .ref mF, .ref mT, .ref mB, .ref mTp, .int (iI tn), .int (iI so), .int (iI be), .int (iI te), .long wd, .int (iI va), .int gd, .ref mBo, .ref mSo, .ref mSh, .ref mLe, .ref mIm, .ref mBf, .int ik])), (mR, .inl (cI, 35, .inl (rowA g)))]) (c_X4_lesser l D cI cJ cB cS xa ((g 1 c) + v) 200 (by omega) (by omega)) mS_X4_lesser kM_X4_116 dX4_pushes_14 [] rfl rfl rfl rfl rfl rfl rfl rfl ⟨Nat.le_of_ble_eq_true rfl, Nat.le_of_ble_eq_true rfl, Nat.le_of_ble_eq_true rfl⟩ ?_
  refine z_callV (pc := 17) (st := []) (st2 := []) (ws2 := [(m, .inr (4, [.ref mR, .ref mF, .ref mT, .ref mB, .ref mTp, .int (iI tn), .int (iI so), .int (iI be), .int (iI te), .long wd, .int (iI va), .int gd, .ref mBo, .ref mSo, .ref mSh, .ref mLe, .ref mIm, .ref mBf, .int ik])), (mR, .inl (cI, 35, .inl (rowA (up2 g 1 c (min ((g 1 c) + v) 200)))))]) (q0 := 0) (c_X4_puts l D cI cJ cB cS xa m mR mF mT mB mTp mBo mSo mSh mLe mIm mBf tn so be te va wd gd ik g c 1 (min ((g 1 c) + v) 200) (by omega) (by omega)) mV_X4_puts kM_X4_86 dX4_pushes_17 rfl rfl [0, 1] rfl rfl rfl rfl rfl rfl rfl rfl ⟨Nat.le_of_ble_eq_true rfl, Nat.le_of_ble_eq_true rfl, Nat.le_of_ble_eq_true rfl⟩ ?_
  exact z_vret (pc := 20) dX4_pushes_20 rfl rfl
set_option maxHeartbeats 8000000 in
set_option maxRecDepth 100000 in
theorem c_X4_swaps (l : Launch) (D : va_G) (cI cJ cB cS : ClassId) (xa : XA) (m mR mF mT mB mTp mBo mSo mSh mLe mIm mBf : Nat) (tn so be te va : Int) (wd : Int64) (gd ik : Int32) (g : Gd) (a b : Int) (ok : Ok g) (ha : 0 ≤ a ∧ a < 8) (hb : 0 ≤ b ∧ b < 8) : Ct l D cI cJ cB cS xa yX4_swaps cX4_swaps 5 none 1 23 [.ref m, .int (iI a), .int (iI b)] [(m, .inr (4, [.ref mR, .ref mF, .ref mT, .ref mB, .ref mTp, .int (iI tn), .int (iI so), .int (iI be), .int (iI te), .long wd, .int (iI va), .int gd, .ref mBo, .ref mSo, .ref mSh, .ref mLe, .ref mIm, .ref mBf, .int ik])), (mR, .inl (cI, 35, .inl (rowA g)))] none [(m, .inr (4, [.ref mR, .ref mF, .ref mT, .ref mB, .ref mTp, .int (iI tn), .int (iI so), .int (iI be), .int (iI te), .long wd, .int (iI va), .int gd, .ref mBo, .ref mSo, .ref mSh, .ref mLe, .ref mIm, .ref mBf, .int ik])), (mR, .inl (cI, 35, .inl (rowA (swapG g a b))))] := by
  have o0 := ok0 ok
  have o1 := ok1 ok
  have o2 := ok2 ok
  refine CtE.of (own := RX4) (lv := [(0, .ref m), (1, .int (iI a)), (2, .int (iI b))]) (by decide) rfl rfl (Nat.le_of_ble_eq_true rfl) ?_
  intro xp xe xs xm xb xt xc
  refine z_iconst (pc := 0) dX4_swaps_0 ?_
  refine z_istore_n (pc := 1) (lv2 := [(3, .int (iI 0)), (0, .ref m), (1, .int (iI a)), (2, .int (iI b))]) dX4_swaps_1 rfl (by decide) rfl ?_
  have LP2 : ∀ (nn_ : Nat) (k : Int), (0 ≤ k) → (k ≤ 4) → (4 - k).toNat < nn_ → Z xp l xe { frames := 1, cells := 0, slots := 0, locals := 23 } xs xm ([.ref m, .int (iI a), .int (iI b)] : List Value).toArray xb xt xc 0 0 (MQ xb (Cq (S := Unit) D [(m, .inr (4, [.ref mR, .ref mF, .ref mT, .ref mB, .ref mTp, .int (iI tn), .int (iI so), .int (iI be), .int (iI te), .long wd, .int (iI va), .int gd, .ref mBo, .ref mSo, .ref mSh, .ref mLe, .ref mIm, .ref mBf, .int ik])), (mR, .inl (cI, 35, .inl (rowA g)))] (fun _ => True) (fun _ => none) (fun _ => [(m, .inr (4, [.ref mR, .ref mF, .ref mT, .ref mB, .ref mTp, .int (iI tn), .int (iI so), .int (iI be), .int (iI te), .long wd, .int (iI va), .int gd, .ref mBo, .ref mSo, .ref mSh, .ref mLe, .ref mIm, .ref mBf, .int ik])), (mR, .inl (cI, 35, .inl (rowA (swapG g a b))))])) ([.ref m, .int (iI a), .int (iI b)] : List Value).toArray xs 0 0 (va_A0 [(m, .inr (4, [.ref mR, .ref mF, .ref mT, .ref mB, .ref mTp, .int (iI tn), .int (iI so), .int (iI be), .int (iI te), .long wd, .int (iI va), .int gd, .ref mBo, .ref mSo, .ref mSh, .ref mLe, .ref mIm, .ref mBf, .int ik])), (mR, .inl (cI, 35, .inl (rowA g)))])) cX4_swaps RX4 5 none D cI cJ cB cS xa (va_A0 [(m, .inr (4, [.ref mR, .ref mF, .ref mT, .ref mB, .ref mTp, .int (iI tn), .int (iI so), .int (iI be), .int (iI te), .long wd, .int (iI va), .int gd, .ref mBo, .ref mSo, .ref mSh, .ref mLe, .ref mIm, .ref mBf, .int ik])), (mR, .inl (cI, 35, .inl (rowA g)))]) [(m, .inr (4, [.ref mR, .ref mF, .ref mT, .ref mB, .ref mTp, .int (iI tn), .int (iI so), .int (iI be), .int (iI te), .long wd, .int (iI va), .int gd, .ref mBo, .ref mSo, .ref mSh, .ref mLe, .ref mIm, .ref mBf, .int ik])), (mR, .inl (cI, 35, .inl (rowA (swpK g a b k))))] [(0, .ref m), (1, .int (iI a)), (2, .int (iI b)), (3, .int (iI k))] 2 [] := by
    intro nn_
    induction nn_ with
    | zero => intro k hk0 hk1 hms; exact absurd hms (Nat.not_lt_zero _)
    | succ nn_ ih =>
      intro k hk0 hk1 hms
      have ih2 := ih
      clear ih
      refine z_iload_n (pc := 2) dX4_swaps_2 3 rfl ?_
      refine z_iconst (pc := 3) dX4_swaps_3 ?_
      refine z_icmp_ge (pc := 4) (tgt := 41) dX4_swaps_4 (by decide) (by omega) (by omega) (fun h4 => ?_) (fun h4 => ?_)
      · skip
        obtain rfl : k = 4 := by omega
        exact z_vret (pc := 41) dX4_swaps_41 rfl (by rw [← swpK_4])
      · skip
        refine z_aload_n (pc := 7) dX4_swaps_7 0 rfl ?_
        refine z_iload_n (pc := 8) dX4_swaps_8 1 rfl ?_
        refine z_iload_n (pc := 9) dX4_swaps_9 3 rfl ?_
        refine z_callV (pc := 10) (st := []) (st2 := [.int (iI ((swpK g a b k) k a))]) (ws2 := [(m, .inr (4, [.ref mR, .ref mF, .ref mT, .ref mB, .ref mTp, .int (iI tn), .int (iI so), .int (iI be), .int (iI te), .long wd, .int (iI va), .int gd, .ref mBo, .ref mSo, .ref mSh, .ref mLe, .ref mIm, .ref mBf, .int ik])), (mR, .inl (cI, 35, .inl (rowA (swpK g a b k))))]) (q0 := 0) (c_X4_its l D cI cJ cB cS xa m mR mF mT mB mTp mBo mSo mSh mLe mIm mBf tn so be te va wd gd ik (swpK g a b k) a k (by omega) (by omega)) mV_X4_its kM_X4_57 dX4_swaps_10 rfl rfl [0, 1] rfl rfl rfl rfl rfl rfl rfl rfl ⟨Nat.le_of_ble_eq_true rfl, Nat.le_of_ble_eq_true rfl, Nat.le_of_ble_eq_true rfl⟩ ?_
        refine z_istore (pc := 13) (lv2 := [(4, .int (iI ((swpK g a b k) k a))), (0, .ref m), (1, .int (iI a)), (2, .int (iI b)), (3, .int (iI k))]) dX4_swaps_13 (by decide) rfl ?_
        refine z_aload_n (pc := 15) dX4_swaps_15 1 rfl ?_
        refine z_iload_n (pc := 16) dX4_swaps_16 2 rfl ?_
        refine z_iload_n (pc := 17) dX4_swaps_17 4 rfl ?_
        refine z_aload_n (pc := 18) dX4_swaps_18 1 rfl ?_
        refine z_iload_n (pc := 19) dX4_swaps_19 3 rfl ?_
        refine z_iload_n (pc := 20) dX4_swaps_20 4 rfl ?_
        refine z_callV (pc := 21) (st := [.int (iI k), .int (iI a), .ref m]) (st2 := [.int (iI ((swpK g a b k) k b)), .int (iI k), .int (iI a), .ref m]) (ws2 := [(m, .inr (4, [.ref mR, .ref mF, .ref mT, .ref mB, .ref mTp, .int (iI tn), .int (iI so), .int (iI be), .int (iI te), .long wd, .int (iI va), .int gd, .ref mBo, .ref mSo, .ref mSh, .ref mLe, .ref mIm, .ref mBf, .int ik])), (mR, .inl (cI, 35, .inl (rowA (swpK g a b k))))]) (q0 := 0) (c_X4_its l D cI cJ cB cS xa m mR mF mT mB mTp mBo mSo mSh mLe mIm mBf tn so be te va wd gd ik (swpK g a b k) b k (by omega) (by omega)) mV_X4_its kM_X4_57 dX4_swaps_21 rfl rfl [0, 1] rfl rfl rfl rfl rfl rfl rfl rfl ⟨Nat.le_of_ble_eq_true rfl, Nat.le_of_ble_eq_true rfl, Nat.le_of_ble_eq_true rfl⟩ ?_
        refine z_callV (pc := 24) (st := []) (st2 := []) (ws2 := [(m, .inr (4, [.ref mR, .ref mF, .ref mT, .ref mB, .ref mTp, .int (iI tn), .int (iI so), .int (iI be), .int (iI te), .long wd, .int (iI va), .int gd, .ref mBo, .ref mSo, .ref mSh, .ref mLe, .ref mIm, .ref mBf, .int ik])), (mR, .inl (cI, 35, .inl (rowA (up2 (swpK g a b k) k a ((swpK g a b k) k b)))))]) (q0 := 0) (c_X4_puts l D cI cJ cB cS xa m mR mF mT mB mTp mBo mSo mSh mLe mIm mBf tn so be te va wd gd ik (swpK g a b k) a k ((swpK g a b k) k b) (by omega) (by omega)) mV_X4_puts kM_X4_86 dX4_swaps_24 rfl rfl [0, 1] rfl rfl rfl rfl rfl rfl rfl rfl ⟨Nat.le_of_ble_eq_true rfl, Nat.le_of_ble_eq_true rfl, Nat.le_of_ble_eq_true rfl⟩ ?_
        refine z_aload_n (pc := 27) dX4_swaps_27 1 rfl ?_
        refine z_iload_n (pc := 28) dX4_swaps_28 3 rfl ?_
        refine z_iload_n (pc := 29) dX4_swaps_29 4 rfl ?_
        refine z_iload (pc := 30) dX4_swaps_30 0 rfl ?_
        refine z_callV (pc := 32) (st := []) (st2 := []) (ws2 := [(m, .inr (4, [.ref mR, .ref mF, .ref mT, .ref mB, .ref mTp, .int (iI tn), .int (iI so), .int (iI be), .int (iI te), .long wd, .int (iI va), .int gd, .ref mBo, .ref mSo, .ref mSh, .ref mLe, .ref mIm, .ref mBf, .int ik])), (mR, .inl (cI, 35, .inl (rowA (up2 (up2 (swpK g a b k) k a ((swpK g a b k) k b)) k b ((swpK g a b k) k a)))))]) (q0 := 0) (c_X4_puts l D cI cJ cB cS xa m mR mF mT mB mTp mBo mSo mSh mLe mIm mBf tn so be te va wd gd ik (up2 (swpK g a b k) k a ((swpK g a b k) k b)) b k ((swpK g a b k) k a) (by omega) (by omega)) mV_X4_puts kM_X4_86 dX4_swaps_32 rfl rfl [0, 1] rfl rfl rfl rfl rfl rfl rfl rfl ⟨Nat.le_of_ble_eq_true rfl, Nat.le_of_ble_eq_true rfl, Nat.le_of_ble_eq_true rfl⟩ ?_
        refine z_iinc (pc := 35) (lv2 := [(3, .int (iI (k + 1))), (4, .int (iI ((swpK g a b k) k a))), (0, .ref m), (1, .int (iI a)), (2, .int (iI b))]) dX4_swaps_35 4 rfl (by decide) rfl ?_
        refine z_goto (pc := 38) (tgt := 2) dX4_swaps_38 (by decide) ?_
        refine z_lv (lv2 := [(0, .ref m), (1, .int (iI a)), (2, .int (iI b)), (3, .int (iI (k + 1)))]) [2, 3, 4, 0] rfl ?_
        refine z_ws (ws2 := [(m, .inr (4, [.ref mR, .ref mF, .ref mT, .ref mB, .ref mTp, .int (iI tn), .int (iI so), .int (iI be), .int (iI te), .long wd, .int (iI va), .int gd, .ref mBo, .ref mSo, .ref mSh, .ref mLe, .ref mIm, .ref mBf, .int ik])), (mR, .inl (cI, 35, .inl (rowA (swpK g a b (k + 1)))))]) (by rw [← swpK_s hk0]) ?_
        exact ih2 (k + 1) (by omega) (by omega) (by omega)
  rw [← swpK_0 g a b]
  refine z_lv (lv2 := [(0, .ref m), (1, .int (iI a)), (2, .int (iI b)), (3, .int (iI 0))]) [1, 2, 3, 0] rfl ?_
  exact LP2 _ 0 (by omega) (by omega) (Nat.lt_succ_self _)
set_option maxHeartbeats 8000000 in
set_option maxRecDepth 100000 in
theorem c_X4_goes (l : Launch) (D : va_G) (cI cJ cB cS : ClassId) (xa : XA) (m mR mF mT mB mTp mBo mSo mSh mLe mIm mBf : Nat) (tn so be te va : Int) (wd : Int64) (gd ik : Int32) (g : Gd) (f t n : Int) (ok : Ok g) (hf : 0 ≤ f ∧ f < 8) (ht : 0 ≤ t ∧ t < 8) (hn : 0 ≤ n ∧ n ≤ 200) : Ct l D cI cJ cB cS xa yX4_goes cX4_goes 4 none 1 23 [.ref m, .int (iI f), .int (iI t), .int (iI n)] [(m, .inr (4, [.ref mR, .ref mF, .ref mT, .ref mB, .ref mTp, .int (iI tn), .int (iI so), .int (iI be), .int (iI te), .long wd, .int (iI va), .int gd, .ref mBo, .ref mSo, .ref mSh, .ref mLe, .ref mIm, .ref mBf, .int ik])), (mR, .inl (cI, 35, .inl (rowA g)))] none [(m, .inr (4, [.ref mR, .ref mF, .ref mT, .ref mB, .ref mTp, .int (iI tn), .int (iI so), .int (iI be), .int (iI te), .long wd, .int (iI va), .int gd, .ref mBo, .ref mSo, .ref mSh, .ref mLe, .ref mIm, .ref mBf, .int ik])), (mR, .inl (cI, 35, .inl (rowA (goesG g f t n))))] := by
  have o0 := ok0 ok
  have o1 := ok1 ok
  have o2 := ok2 ok
  refine CtE.of (own := RX4) (lv := [(0, .ref m), (1, .int (iI f)), (2, .int (iI t)), (3, .int (iI n))]) (by decide) rfl rfl (Nat.le_of_ble_eq_true rfl) ?_
  intro xp xe xs xm xb xt xc
  refine z_aload_n (pc := 0) dX4_goes_0 0 rfl ?_
  refine z_iload_n (pc := 1) dX4_goes_1 1 rfl ?_
  refine z_iconst (pc := 2) dX4_goes_2 ?_
  refine z_aload_n (pc := 3) dX4_goes_3 0 rfl ?_
  refine z_iload_n (pc := 4) dX4_goes_4 1 rfl ?_
  refine z_iconst (pc := 5) dX4_goes_5 ?_
  refine z_callV (pc := 6) (st := [.int (iI 1), .int (iI f), .ref m]) (st2 := [.int (iI (g 1 f)), .int (iI 1), .int (iI f), .ref m]) (ws2 := [(m, .inr (4, [.ref mR, .ref mF, .ref mT, .ref mB, .ref mTp, .int (iI tn), .int (iI so), .int (iI be), .int (iI te), .long wd, .int (iI va), .int gd, .ref mBo, .ref mSo, .ref mSh, .ref mLe, .ref mIm, .ref mBf, .int ik])), (mR, .inl (cI, 35, .inl (rowA g)))]) (q0 := 0) (c_X4_its l D cI cJ cB cS xa m mR mF mT mB mTp mBo mSo mSh mLe mIm mBf tn so be te va wd gd ik g f 1 (by omega) (by omega)) mV_X4_its kM_X4_57 dX4_goes_6 rfl rfl [0, 1] rfl rfl rfl rfl rfl rfl rfl rfl ⟨Nat.le_of_ble_eq_true rfl, Nat.le_of_ble_eq_true rfl, Nat.le_of_ble_eq_true rfl⟩ ?_
  have b1 := okH ok f
  refine z_iload_n (pc := 9) dX4_goes_9 3 rfl ?_
  refine z_isub (pc := 10) dX4_goes_10 ?_
  refine z_callV (pc := 11) (st := []) (st2 := []) (ws2 := [(m, .inr (4, [.ref mR, .ref mF, .ref mT, .ref mB, .ref mTp, .int (iI tn), .int (iI so), .int (iI be), .int (iI te), .long wd, .int (iI va), .int gd, .ref mBo, .ref mSo, .ref mSh, .ref mLe, .ref mIm, .ref mBf, .int ik])), (mR, .inl (cI, 35, .inl (rowA (up2 g 1 f ((g 1 f) - n)))))]) (q0 := 0) (c_X4_puts l D cI cJ cB cS xa m mR mF mT mB mTp mBo mSo mSh mLe mIm mBf tn so be te va wd gd ik g f 1 ((g 1 f) - n) (by omega) (by omega)) mV_X4_puts kM_X4_86 dX4_goes_11 rfl rfl [0, 1] rfl rfl rfl rfl rfl rfl rfl rfl ⟨Nat.le_of_ble_eq_true rfl, Nat.le_of_ble_eq_true rfl, Nat.le_of_ble_eq_true rfl⟩ ?_
  refine z_aload_n (pc := 14) dX4_goes_14 0 rfl ?_
  refine z_iload_n (pc := 15) dX4_goes_15 2 rfl ?_
  refine z_iconst (pc := 16) dX4_goes_16 ?_
  refine z_aload_n (pc := 17) dX4_goes_17 0 rfl ?_
  refine z_iload_n (pc := 18) dX4_goes_18 2 rfl ?_
  refine z_iconst (pc := 19) dX4_goes_19 ?_
  refine z_callV (pc := 20) (st := [.int (iI 1), .int (iI t), .ref m]) (st2 := [.int (iI ((up2 g 1 f ((g 1 f) - n)) 1 t)), .int (iI 1), .int (iI t), .ref m]) (ws2 := [(m, .inr (4, [.ref mR, .ref mF, .ref mT, .ref mB, .ref mTp, .int (iI tn), .int (iI so), .int (iI be), .int (iI te), .long wd, .int (iI va), .int gd, .ref mBo, .ref mSo, .ref mSh, .ref mLe, .ref mIm, .ref mBf, .int ik])), (mR, .inl (cI, 35, .inl (rowA (up2 g 1 f ((g 1 f) - n)))))]) (q0 := 0) (c_X4_its l D cI cJ cB cS xa m mR mF mT mB mTp mBo mSo mSh mLe mIm mBf tn so be te va wd gd ik (up2 g 1 f ((g 1 f) - n)) t 1 (by omega) (by omega)) mV_X4_its kM_X4_57 dX4_goes_20 rfl rfl [0, 1] rfl rfl rfl rfl rfl rfl rfl rfl ⟨Nat.le_of_ble_eq_true rfl, Nat.le_of_ble_eq_true rfl, Nat.le_of_ble_eq_true rfl⟩ ?_
  refine z_iload_n (pc := 23) dX4_goes_23 3 rfl ?_
  refine z_iadd (pc := 24) dX4_goes_24 ?_
  refine z_callV (pc := 25) (st := []) (st2 := []) (ws2 := [(m, .inr (4, [.ref mR, .ref mF, .ref mT, .ref mB, .ref mTp, .int (iI tn), .int (iI so), .int (iI be), .int (iI te), .long wd, .int (iI va), .int gd, .ref mBo, .ref mSo, .ref mSh, .ref mLe, .ref mIm, .ref mBf, .int ik])), (mR, .inl (cI, 35, .inl (rowA (up2 (up2 g 1 f ((g 1 f) - n)) 1 t (((up2 g 1 f ((g 1 f) - n)) 1 t) + n)))))]) (q0 := 0) (c_X4_puts l D cI cJ cB cS xa m mR mF mT mB mTp mBo mSo mSh mLe mIm mBf tn so be te va wd gd ik (up2 g 1 f ((g 1 f) - n)) t 1 (((up2 g 1 f ((g 1 f) - n)) 1 t) + n) (by omega) (by omega)) mV_X4_puts kM_X4_86 dX4_goes_25 rfl rfl [0, 1] rfl rfl rfl rfl rfl rfl rfl rfl ⟨Nat.le_of_ble_eq_true rfl, Nat.le_of_ble_eq_true rfl, Nat.le_of_ble_eq_true rfl⟩ ?_
  refine z_aload_n (pc := 28) dX4_goes_28 0 rfl ?_
  refine z_iload_n (pc := 29) dX4_goes_29 1 rfl ?_
  refine z_iconst (pc := 30) dX4_goes_30 ?_
  refine z_aload_n (pc := 31) dX4_goes_31 0 rfl ?_
  refine z_iload_n (pc := 32) dX4_goes_32 1 rfl ?_
  refine z_iconst (pc := 33) dX4_goes_33 ?_
  refine z_callV (pc := 34) (st := [.int (iI 3), .int (iI f), .ref m]) (st2 := [.int (iI (g 3 f)), .int (iI 3), .int (iI f), .ref m]) (ws2 := [(m, .inr (4, [.ref mR, .ref mF, .ref mT, .ref mB, .ref mTp, .int (iI tn), .int (iI so), .int (iI be), .int (iI te), .long wd, .int (iI va), .int gd, .ref mBo, .ref mSo, .ref mSh, .ref mLe, .ref mIm, .ref mBf, .int ik])), (mR, .inl (cI, 35, .inl (rowA (up2 (up2 g 1 f ((g 1 f) - n)) 1 t (((up2 g 1 f ((g 1 f) - n)) 1 t) + n)))))]) (q0 := 0) (c_X4_its l D cI cJ cB cS xa m mR mF mT mB mTp mBo mSo mSh mLe mIm mBf tn so be te va wd gd ik (up2 (up2 g 1 f ((g 1 f) - n)) 1 t (((up2 g 1 f ((g 1 f) - n)) 1 t) + n)) f 3 (by omega) (by omega)) mV_X4_its kM_X4_57 dX4_goes_34 rfl rfl [0, 1] rfl rfl rfl rfl rfl rfl rfl rfl ⟨Nat.le_of_ble_eq_true rfl, Nat.le_of_ble_eq_true rfl, Nat.le_of_ble_eq_true rfl⟩ ?_
  have b2 := okO ok f
  refine z_iload_n (pc := 37) dX4_goes_37 3 rfl ?_
  refine z_isub (pc := 38) dX4_goes_38 ?_
  refine z_sipush (pc := 39) dX4_goes_39 (by decide) ?_
  refine z_sipush (pc := 42) dX4_goes_42 (by decide) ?_
  refine z_callS (pc := 45) (st := [.int (iI 3), .int (iI f), .ref m]) (st2 := [.int (iI (heldI ((g 3 f) - n) (-9999) 9999)), .int (iI 3), .int (iI f), .ref m]) (ws2 := [(m, .inr (4, [.ref mR, .ref mF, .ref mT, .ref mB, .ref mTp, .int (iI tn), .int (iI so), .int (iI be), .int (iI te), .long wd, .int (iI va), .int gd, .ref mBo, .ref mSo, .ref mSh, .ref mLe, .ref mIm, .ref mBf, .int ik])), (mR, .inl (cI, 35, .inl (rowA (up2 (up2 g 1 f ((g 1 f) - n)) 1 t (((up2 g 1 f ((g 1 f) - n)) 1 t) + n)))))]) (c_X4_held l D cI cJ cB cS xa ((g 3 f) - n) (-9999) 9999 (by omega) (by omega) (by omega)) mS_X4_held kM_X4_126 dX4_goes_45 [] rfl rfl rfl rfl rfl rfl rfl rfl ⟨Nat.le_of_ble_eq_true rfl, Nat.le_of_ble_eq_true rfl, Nat.le_of_ble_eq_true rfl⟩ ?_
  have e48 : heldI ((g 3 f) - n) (-9999) 9999 = max ((g 3 f) - n) (-9999) := by unfold heldI; (repeat' split) <;> omega
  refine z_st (st2 := [.int (iI (max ((g 3 f) - n) (-9999))), .int (iI 3), .int (iI f), .ref m]) (by rw [e48]) ?_
  refine z_callV (pc := 48) (st := []) (st2 := []) (ws2 := [(m, .inr (4, [.ref mR, .ref mF, .ref mT, .ref mB, .ref mTp, .int (iI tn), .int (iI so), .int (iI be), .int (iI te), .long wd, .int (iI va), .int gd, .ref mBo, .ref mSo, .ref mSh, .ref mLe, .ref mIm, .ref mBf, .int ik])), (mR, .inl (cI, 35, .inl (rowA (up2 (up2 (up2 g 1 f ((g 1 f) - n)) 1 t (((up2 g 1 f ((g 1 f) - n)) 1 t) + n)) 3 f (max ((g 3 f) - n) (-9999))))))]) (q0 := 0) (c_X4_puts l D cI cJ cB cS xa m mR mF mT mB mTp mBo mSo mSh mLe mIm mBf tn so be te va wd gd ik (up2 (up2 g 1 f ((g 1 f) - n)) 1 t (((up2 g 1 f ((g 1 f) - n)) 1 t) + n)) f 3 (max ((g 3 f) - n) (-9999)) (by omega) (by omega)) mV_X4_puts kM_X4_86 dX4_goes_48 rfl rfl [0, 1] rfl rfl rfl rfl rfl rfl rfl rfl ⟨Nat.le_of_ble_eq_true rfl, Nat.le_of_ble_eq_true rfl, Nat.le_of_ble_eq_true rfl⟩ ?_
  refine z_aload_n (pc := 51) dX4_goes_51 0 rfl ?_
  refine z_iload_n (pc := 52) dX4_goes_52 2 rfl ?_
  refine z_iconst (pc := 53) dX4_goes_53 ?_
  refine z_aload_n (pc := 54) dX4_goes_54 0 rfl ?_
  refine z_iload_n (pc := 55) dX4_goes_55 2 rfl ?_
  refine z_iconst (pc := 56) dX4_goes_56 ?_
  refine z_callV (pc := 57) (st := [.int (iI 3), .int (iI t), .ref m]) (st2 := [.int (iI ((up2 (up2 (up2 g 1 f ((g 1 f) - n)) 1 t (((up2 g 1 f ((g 1 f) - n)) 1 t) + n)) 3 f (max ((g 3 f) - n) (-9999))) 3 t)), .int (iI 3), .int (iI t), .ref m]) (ws2 := [(m, .inr (4, [.ref mR, .ref mF, .ref mT, .ref mB, .ref mTp, .int (iI tn), .int (iI so), .int (iI be), .int (iI te), .long wd, .int (iI va), .int gd, .ref mBo, .ref mSo, .ref mSh, .ref mLe, .ref mIm, .ref mBf, .int ik])), (mR, .inl (cI, 35, .inl (rowA (up2 (up2 (up2 g 1 f ((g 1 f) - n)) 1 t (((up2 g 1 f ((g 1 f) - n)) 1 t) + n)) 3 f (max ((g 3 f) - n) (-9999))))))]) (q0 := 0) (c_X4_its l D cI cJ cB cS xa m mR mF mT mB mTp mBo mSo mSh mLe mIm mBf tn so be te va wd gd ik (up2 (up2 (up2 g 1 f ((g 1 f) - n)) 1 t (((up2 g 1 f ((g 1 f) - n)) 1 t) + n)) 3 f (max ((g 3 f) - n) (-9999))) t 3 (by omega) (by omega)) mV_X4_its kM_X4_57 dX4_goes_57 rfl rfl [0, 1] rfl rfl rfl rfl rfl rfl rfl rfl ⟨Nat.le_of_ble_eq_true rfl, Nat.le_of_ble_eq_true rfl, Nat.le_of_ble_eq_true rfl⟩ ?_
  have k9 : -9999 ≤ (up2 (up2 (up2 g 1 f ((g 1 f) - n)) 1 t (((up2 g 1 f ((g 1 f) - n)) 1 t) + n)) 3 f (max ((g 3 f) - n) (-9999))) 3 t ∧ (up2 (up2 (up2 g 1 f ((g 1 f) - n)) 1 t (((up2 g 1 f ((g 1 f) - n)) 1 t) + n)) 3 f (max ((g 3 f) - n) (-9999))) 3 t ≤ 9999 := by
    have kO := okO ok t
    rw [up2_if]
    split
    · omega
    · exact kO
  refine z_iload_n (pc := 60) dX4_goes_60 3 rfl ?_
  refine z_iadd (pc := 61) dX4_goes_61 ?_
  refine z_sipush (pc := 62) dX4_goes_62 (by decide) ?_
  refine z_sipush (pc := 65) dX4_goes_65 (by decide) ?_
  refine z_callS (pc := 68) (st := [.int (iI 3), .int (iI t), .ref m]) (st2 := [.int (iI (heldI (((up2 (up2 (up2 g 1 f ((g 1 f) - n)) 1 t (((up2 g 1 f ((g 1 f) - n)) 1 t) + n)) 3 f (max ((g 3 f) - n) (-9999))) 3 t) + n) (-9999) 9999)), .int (iI 3), .int (iI t), .ref m]) (ws2 := [(m, .inr (4, [.ref mR, .ref mF, .ref mT, .ref mB, .ref mTp, .int (iI tn), .int (iI so), .int (iI be), .int (iI te), .long wd, .int (iI va), .int gd, .ref mBo, .ref mSo, .ref mSh, .ref mLe, .ref mIm, .ref mBf, .int ik])), (mR, .inl (cI, 35, .inl (rowA (up2 (up2 (up2 g 1 f ((g 1 f) - n)) 1 t (((up2 g 1 f ((g 1 f) - n)) 1 t) + n)) 3 f (max ((g 3 f) - n) (-9999))))))]) (c_X4_held l D cI cJ cB cS xa (((up2 (up2 (up2 g 1 f ((g 1 f) - n)) 1 t (((up2 g 1 f ((g 1 f) - n)) 1 t) + n)) 3 f (max ((g 3 f) - n) (-9999))) 3 t) + n) (-9999) 9999 (by omega) (by omega) (by omega)) mS_X4_held kM_X4_126 dX4_goes_68 [] rfl rfl rfl rfl rfl rfl rfl rfl ⟨Nat.le_of_ble_eq_true rfl, Nat.le_of_ble_eq_true rfl, Nat.le_of_ble_eq_true rfl⟩ ?_
  have e71 : heldI (((up2 (up2 (up2 g 1 f ((g 1 f) - n)) 1 t (((up2 g 1 f ((g 1 f) - n)) 1 t) + n)) 3 f (max ((g 3 f) - n) (-9999))) 3 t) + n) (-9999) 9999 = min (((up2 (up2 (up2 g 1 f ((g 1 f) - n)) 1 t (((up2 g 1 f ((g 1 f) - n)) 1 t) + n)) 3 f (max ((g 3 f) - n) (-9999))) 3 t) + n) 9999 := by unfold heldI; (repeat' split) <;> omega
  refine z_st (st2 := [.int (iI (min (((up2 (up2 (up2 g 1 f ((g 1 f) - n)) 1 t (((up2 g 1 f ((g 1 f) - n)) 1 t) + n)) 3 f (max ((g 3 f) - n) (-9999))) 3 t) + n) 9999)), .int (iI 3), .int (iI t), .ref m]) (by rw [e71]) ?_
  refine z_callV (pc := 71) (st := []) (st2 := []) (ws2 := [(m, .inr (4, [.ref mR, .ref mF, .ref mT, .ref mB, .ref mTp, .int (iI tn), .int (iI so), .int (iI be), .int (iI te), .long wd, .int (iI va), .int gd, .ref mBo, .ref mSo, .ref mSh, .ref mLe, .ref mIm, .ref mBf, .int ik])), (mR, .inl (cI, 35, .inl (rowA (up2 (up2 (up2 (up2 g 1 f ((g 1 f) - n)) 1 t (((up2 g 1 f ((g 1 f) - n)) 1 t) + n)) 3 f (max ((g 3 f) - n) (-9999))) 3 t (min (((up2 (up2 (up2 g 1 f ((g 1 f) - n)) 1 t (((up2 g 1 f ((g 1 f) - n)) 1 t) + n)) 3 f (max ((g 3 f) - n) (-9999))) 3 t) + n) 9999)))))]) (q0 := 0) (c_X4_puts l D cI cJ cB cS xa m mR mF mT mB mTp mBo mSo mSh mLe mIm mBf tn so be te va wd gd ik (up2 (up2 (up2 g 1 f ((g 1 f) - n)) 1 t (((up2 g 1 f ((g 1 f) - n)) 1 t) + n)) 3 f (max ((g 3 f) - n) (-9999))) t 3 (min (((up2 (up2 (up2 g 1 f ((g 1 f) - n)) 1 t (((up2 g 1 f ((g 1 f) - n)) 1 t) + n)) 3 f (max ((g 3 f) - n) (-9999))) 3 t) + n) 9999) (by omega) (by omega)) mV_X4_puts kM_X4_86 dX4_goes_71 rfl rfl [0, 1] rfl rfl rfl rfl rfl rfl rfl rfl ⟨Nat.le_of_ble_eq_true rfl, Nat.le_of_ble_eq_true rfl, Nat.le_of_ble_eq_true rfl⟩ ?_
  exact z_vret (pc := 74) dX4_goes_74 rfl rfl
set_option maxHeartbeats 8000000 in
set_option maxRecDepth 100000 in
theorem c_X4_mayGo (l : Launch) (D : va_G) (cI cJ cB cS : ClassId) (xa : XA) (m mR mF mT mB mTp mBo mSo mSh mLe mIm mBf : Nat) (tn so be te va : Int) (wd : Int64) (gd ik : Int32) (g : Gd) (f t n : Int) (ok : Ok g) (hf : 0 ≤ f ∧ f < 8) (ht : 0 ≤ t ∧ t < 8) (hn : 0 ≤ n ∧ n ≤ 200) : Ct l D cI cJ cB cS xa yX4_mayGo cX4_mayGo 4 (some .int) 1 22 [.ref m, .int (iI f), .int (iI t), .int (iI n)] [(m, .inr (4, [.ref mR, .ref mF, .ref mT, .ref mB, .ref mTp, .int (iI tn), .int (iI so), .int (iI be), .int (iI te), .long wd, .int (iI va), .int gd, .ref mBo, .ref mSo, .ref mSh, .ref mLe, .ref mIm, .ref mBf, .int ik])), (mR, .inl (cI, 35, .inl (rowA g)))] (some (.int (iI (mayG g f t n)))) [(m, .inr (4, [.ref mR, .ref mF, .ref mT, .ref mB, .ref mTp, .int (iI tn), .int (iI so), .int (iI be), .int (iI te), .long wd, .int (iI va), .int gd, .ref mBo, .ref mSo, .ref mSh, .ref mLe, .ref mIm, .ref mBf, .int ik])), (mR, .inl (cI, 35, .inl (rowA g)))] := by
  have o0 := ok0 ok
  have o1 := ok1 ok
  have o2 := ok2 ok
  refine CtE.of (own := RX4) (lv := [(0, .ref m), (1, .int (iI f)), (2, .int (iI t)), (3, .int (iI n))]) (by decide) rfl rfl (Nat.le_of_ble_eq_true rfl) ?_
  intro xp xe xs xm xb xt xc
  refine z_iload_n (pc := 0) dX4_mayGo_0 3 rfl ?_
  refine z_aload_n (pc := 1) dX4_mayGo_1 0 rfl ?_
  refine z_iload_n (pc := 2) dX4_mayGo_2 1 rfl ?_
  refine z_iconst (pc := 3) dX4_mayGo_3 ?_
  refine z_callV (pc := 4) (st := [.int (iI n)]) (st2 := [.int (iI (g 1 f)), .int (iI n)]) (ws2 := [(m, .inr (4, [.ref mR, .ref mF, .ref mT, .ref mB, .ref mTp, .int (iI tn), .int (iI so), .int (iI be), .int (iI te), .long wd, .int (iI va), .int gd, .ref mBo, .ref mSo, .ref mSh, .ref mLe, .ref mIm, .ref mBf, .int ik])), (mR, .inl (cI, 35, .inl (rowA g)))]) (q0 := 0) (c_X4_its l D cI cJ cB cS xa m mR mF mT mB mTp mBo mSo mSh mLe mIm mBf tn so be te va wd gd ik g f 1 (by omega) (by omega)) mV_X4_its kM_X4_57 dX4_mayGo_4 rfl rfl [0, 1] rfl rfl rfl rfl rfl rfl rfl rfl ⟨Nat.le_of_ble_eq_true rfl, Nat.le_of_ble_eq_true rfl, Nat.le_of_ble_eq_true rfl⟩ ?_
  have b1 := okH ok f
  refine z_sipush (pc := 7) dX4_mayGo_7 (by decide) ?_
  refine z_aload_n (pc := 10) dX4_mayGo_10 0 rfl ?_
  refine z_iload_n (pc := 11) dX4_mayGo_11 2 rfl ?_
  refine z_iconst (pc := 12) dX4_mayGo_12 ?_
  refine z_callV (pc := 13) (st := [.int (iI 200), .int (iI (g 1 f)), .int (iI n)]) (st2 := [.int (iI (g 1 t)), .int (iI 200), .int (iI (g 1 f)), .int (iI n)]) (ws2 := [(m, .inr (4, [.ref mR, .ref mF, .ref mT, .ref mB, .ref mTp, .int (iI tn), .int (iI so), .int (iI be), .int (iI te), .long wd, .int (iI va), .int gd, .ref mBo, .ref mSo, .ref mSh, .ref mLe, .ref mIm, .ref mBf, .int ik])), (mR, .inl (cI, 35, .inl (rowA g)))]) (q0 := 0) (c_X4_its l D cI cJ cB cS xa m mR mF mT mB mTp mBo mSo mSh mLe mIm mBf tn so be te va wd gd ik g t 1 (by omega) (by omega)) mV_X4_its kM_X4_57 dX4_mayGo_13 rfl rfl [0, 1] rfl rfl rfl rfl rfl rfl rfl rfl ⟨Nat.le_of_ble_eq_true rfl, Nat.le_of_ble_eq_true rfl, Nat.le_of_ble_eq_true rfl⟩ ?_
  have b2 := okH ok t
  refine z_isub (pc := 16) dX4_mayGo_16 ?_
  refine z_callS (pc := 17) (st := [.int (iI n)]) (st2 := [.int (iI (min (g 1 f) (200 - (g 1 t)))), .int (iI n)]) (ws2 := [(m, .inr (4, [.ref mR, .ref mF, .ref mT, .ref mB, .ref mTp, .int (iI tn), .int (iI so), .int (iI be), .int (iI te), .long wd, .int (iI va), .int gd, .ref mBo, .ref mSo, .ref mSh, .ref mLe, .ref mIm, .ref mBf, .int ik])), (mR, .inl (cI, 35, .inl (rowA g)))]) (c_X4_lesser l D cI cJ cB cS xa (g 1 f) (200 - (g 1 t)) (by omega) (by omega)) mS_X4_lesser kM_X4_116 dX4_mayGo_17 [] rfl rfl rfl rfl rfl rfl rfl rfl ⟨Nat.le_of_ble_eq_true rfl, Nat.le_of_ble_eq_true rfl, Nat.le_of_ble_eq_true rfl⟩ ?_
  refine z_callS (pc := 20) (st := []) (st2 := [.int (iI (min n (min (g 1 f) (200 - (g 1 t)))))]) (ws2 := [(m, .inr (4, [.ref mR, .ref mF, .ref mT, .ref mB, .ref mTp, .int (iI tn), .int (iI so), .int (iI be), .int (iI te), .long wd, .int (iI va), .int gd, .ref mBo, .ref mSo, .ref mSh, .ref mLe, .ref mIm, .ref mBf, .int ik])), (mR, .inl (cI, 35, .inl (rowA g)))]) (c_X4_lesser l D cI cJ cB cS xa n (min (g 1 f) (200 - (g 1 t))) (by omega) (by omega)) mS_X4_lesser kM_X4_116 dX4_mayGo_20 [] rfl rfl rfl rfl rfl rfl rfl rfl ⟨Nat.le_of_ble_eq_true rfl, Nat.le_of_ble_eq_true rfl, Nat.le_of_ble_eq_true rfl⟩ ?_
  exact z_iret (pc := 23) dX4_mayGo_23 (congrArg (fun z => some (Value.int (iI z))) (show (mayG g f t n) = min n (min (g 1 f) (200 - (g 1 t))) from by rfl)) rfl
set_option maxHeartbeats 8000000 in
set_option maxRecDepth 100000 in
theorem c_X4_swings (l : Launch) (D : va_G) (cI cJ cB cS : ClassId) (xa : XA) (m mR mF mT mB mTp mBo mSo mSh mLe mIm mBf : Nat) (tn so be te va : Int) (wd : Int64) (gd ik : Int32) (g : Gd) (c : Int) (ok : Ok g) (hc0 : 0 ≤ c) (hc1 : c < g 4 2) (h2 : 2 ≤ g 4 2) : Ct l D cI cJ cB cS xa yX4_swings cX4_swings 5 none 2 46 [.ref m, .int (iI c)] [(m, .inr (4, [.ref mR, .ref mF, .ref mT, .ref mB, .ref mTp, .int (iI tn), .int (iI so), .int (iI be), .int (iI te), .long wd, .int (iI va), .int gd, .ref mBo, .ref mSo, .ref mSh, .ref mLe, .ref mIm, .ref mBf, .int ik])), (mR, .inl (cI, 35, .inl (rowA g)))] none [(m, .inr (4, [.ref mR, .ref mF, .ref mT, .ref mB, .ref mTp, .int (iI tn), .int (iI so), .int (iI be), .int (iI te), .long wd, .int (iI va), .int gd, .ref mBo, .ref mSo, .ref mSh, .ref mLe, .ref mIm, .ref mBf, .int ik])), (mR, .inl (cI, 35, .inl (rowA (dealG g c))))] := by
  have o0 := ok0 ok
  have o1 := ok1 ok
  have o2 := ok2 ok
  refine CtE.of (own := RX4) (lv := [(0, .ref m), (1, .int (iI c))]) (by decide) rfl rfl (Nat.le_of_ble_eq_true rfl) ?_
  intro xp xe xs xm xb xt xc
  refine z_aload_n (pc := 0) dX4_swings_0 0 rfl ?_
  refine z_iload_n (pc := 1) dX4_swings_1 1 rfl ?_
  refine z_callV (pc := 2) (st := []) (st2 := [.int (iI (nextG g c))]) (ws2 := [(m, .inr (4, [.ref mR, .ref mF, .ref mT, .ref mB, .ref mTp, .int (iI tn), .int (iI so), .int (iI be), .int (iI te), .long wd, .int (iI va), .int gd, .ref mBo, .ref mSo, .ref mSh, .ref mLe, .ref mIm, .ref mBf, .int ik])), (mR, .inl (cI, 35, .inl (rowA g)))]) (q0 := 0) (c_X4_next l D cI cJ cB cS xa m mR mF mT mB mTp mBo mSo mSh mLe mIm mBf tn so be te va wd gd ik g c ok (by omega) (by omega)) mV_X4_next kM_X4_83 dX4_swings_2 rfl rfl [0, 1] rfl rfl rfl rfl rfl rfl rfl rfl ⟨Nat.le_of_ble_eq_true rfl, Nat.le_of_ble_eq_true rfl, Nat.le_of_ble_eq_true rfl⟩ ?_
  have f2_1 := nextG_rng ok (show (0 : Int) ≤ c by omega) (show c < g 4 2 by omega)
  refine z_istore_n (pc := 5) (lv2 := [(2, .int (iI (nextG g c))), (0, .ref m), (1, .int (iI c))]) dX4_swings_5 rfl (by decide) rfl ?_
  refine z_aload_n (pc := 6) dX4_swings_6 1 rfl ?_
  refine z_iload_n (pc := 7) dX4_swings_7 2 rfl ?_
  refine z_callV (pc := 8) (st := []) (st2 := [.int (iI (wantsG g c))]) (ws2 := [(m, .inr (4, [.ref mR, .ref mF, .ref mT, .ref mB, .ref mTp, .int (iI tn), .int (iI so), .int (iI be), .int (iI te), .long wd, .int (iI va), .int gd, .ref mBo, .ref mSo, .ref mSh, .ref mLe, .ref mIm, .ref mBf, .int ik])), (mR, .inl (cI, 35, .inl (rowA g)))]) (q0 := 0) (c_X4_wants l D cI cJ cB cS xa m mR mF mT mB mTp mBo mSo mSh mLe mIm mBf tn so be te va wd gd ik g c ok (by omega) (by omega)) mV_X4_wants kM_X4_102 dX4_swings_8 rfl rfl [0, 1] rfl rfl rfl rfl rfl rfl rfl rfl ⟨Nat.le_of_ble_eq_true rfl, Nat.le_of_ble_eq_true rfl, Nat.le_of_ble_eq_true rfl⟩ ?_
  have f8_2 := wantsG_rng g c
  refine z_istore_n (pc := 11) (lv2 := [(3, .int (iI (wantsG g c))), (2, .int (iI (nextG g c))), (0, .ref m), (1, .int (iI c))]) dX4_swings_11 rfl (by decide) rfl ?_
  refine z_iload_n (pc := 12) dX4_swings_12 0 rfl ?_
  refine z_if_ge (pc := 13) (tgt := 30) dX4_swings_13 (by decide) (by omega) (fun h13 => ?_) (fun h13 => ?_)
  · skip
    refine z_iload_n (pc := 30) dX4_swings_30 0 rfl ?_
    refine z_if_le (pc := 31) (tgt := 48) dX4_swings_31 (by decide) (by omega) (fun h31 => ?_) (fun h31 => ?_)
    · skip
      have e2 : dealG g c = g := by unfold dealG; rw [if_neg (by omega), if_neg (by omega)]
      exact z_vret (pc := 48) dX4_swings_48 rfl (by rw [e2])
    · skip
      refine z_aload_n (pc := 34) dX4_swings_34 2 rfl ?_
      refine z_iload_n (pc := 35) dX4_swings_35 3 rfl ?_
      refine z_iconst (pc := 36) dX4_swings_36 ?_
      refine z_callV (pc := 37) (st := []) (st2 := [.int (iI (g 2 c))]) (ws2 := [(m, .inr (4, [.ref mR, .ref mF, .ref mT, .ref mB, .ref mTp, .int (iI tn), .int (iI so), .int (iI be), .int (iI te), .long wd, .int (iI va), .int gd, .ref mBo, .ref mSo, .ref mSh, .ref mLe, .ref mIm, .ref mBf, .int ik])), (mR, .inl (cI, 35, .inl (rowA g)))]) (q0 := 0) (c_X4_its l D cI cJ cB cS xa m mR mF mT mB mTp mBo mSo mSh mLe mIm mBf tn so be te va wd gd ik g c 2 (by omega) (by omega)) mV_X4_its kM_X4_57 dX4_swings_37 rfl rfl [0, 1] rfl rfl rfl rfl rfl rfl rfl rfl ⟨Nat.le_of_ble_eq_true rfl, Nat.le_of_ble_eq_true rfl, Nat.le_of_ble_eq_true rfl⟩ ?_
      have b3 := okM ok c
      refine z_aload_n (pc := 40) dX4_swings_40 2 rfl ?_
      refine z_iload_n (pc := 41) dX4_swings_41 3 rfl ?_
      refine z_callV (pc := 42) (st := [.int (iI (g 2 c))]) (st2 := [.int (iI (paysG g c)), .int (iI (g 2 c))]) (ws2 := [(m, .inr (4, [.ref mR, .ref mF, .ref mT, .ref mB, .ref mTp, .int (iI tn), .int (iI so), .int (iI be), .int (iI te), .long wd, .int (iI va), .int gd, .ref mBo, .ref mSo, .ref mSh, .ref mLe, .ref mIm, .ref mBf, .int ik])), (mR, .inl (cI, 35, .inl (rowA g)))]) (q0 := 0) (c_X4_pays l D cI cJ cB cS xa m mR mF mT mB mTp mBo mSo mSh mLe mIm mBf tn so be te va wd gd ik g c ok (by omega)) mV_X4_pays kM_X4_105 dX4_swings_42 rfl rfl [0, 1] rfl rfl rfl rfl rfl rfl rfl rfl ⟨Nat.le_of_ble_eq_true rfl, Nat.le_of_ble_eq_true rfl, Nat.le_of_ble_eq_true rfl⟩ ?_
      have f42_4 := paysG_rng g c
      refine z_icmp_ge (pc := 45) (tgt := 49) dX4_swings_45 (by decide) (by omega) (by omega) (fun h45 => ?_) (fun h45 => ?_)
      · skip
        refine z_aload_n (pc := 49) dX4_swings_49 2 rfl ?_
        refine z_iload_n (pc := 50) dX4_swings_50 1 rfl ?_
        refine z_iload_n (pc := 51) dX4_swings_51 3 rfl ?_
        refine z_iload_n (pc := 52) dX4_swings_52 0 rfl ?_
        refine z_aload_n (pc := 53) dX4_swings_53 2 rfl ?_
        refine z_iload_n (pc := 54) dX4_swings_54 1 rfl ?_
        refine z_callV (pc := 55) (st := [.int (iI (wantsG g c)), .int (iI c), .int (iI (nextG g c)), .ref m]) (st2 := [.int (iI (yieldsG g (nextG g c))), .int (iI (wantsG g c)), .int (iI c), .int (iI (nextG g c)), .ref m]) (ws2 := [(m, .inr (4, [.ref mR, .ref mF, .ref mT, .ref mB, .ref mTp, .int (iI tn), .int (iI so), .int (iI be), .int (iI te), .long wd, .int (iI va), .int gd, .ref mBo, .ref mSo, .ref mSh, .ref mLe, .ref mIm, .ref mBf, .int ik])), (mR, .inl (cI, 35, .inl (rowA g)))]) (q0 := 0) (c_X4_yields l D cI cJ cB cS xa m mR mF mT mB mTp mBo mSo mSh mLe mIm mBf tn so be te va wd gd ik g (nextG g c) ok (by omega) (by omega)) mV_X4_yields kM_X4_108 dX4_swings_55 rfl rfl [0, 1] rfl rfl rfl rfl rfl rfl rfl rfl ⟨Nat.le_of_ble_eq_true rfl, Nat.le_of_ble_eq_true rfl, Nat.le_of_ble_eq_true rfl⟩ ?_
        have f55_5 := yieldsG_rng ok (nextG g c)
        refine z_callS (pc := 58) (st := [.int (iI c), .int (iI (nextG g c)), .ref m]) (st2 := [.int (iI (min (wantsG g c) (yieldsG g (nextG g c)))), .int (iI c), .int (iI (nextG g c)), .ref m]) (ws2 := [(m, .inr (4, [.ref mR, .ref mF, .ref mT, .ref mB, .ref mTp, .int (iI tn), .int (iI so), .int (iI be), .int (iI te), .long wd, .int (iI va), .int gd, .ref mBo, .ref mSo, .ref mSh, .ref mLe, .ref mIm, .ref mBf, .int ik])), (mR, .inl (cI, 35, .inl (rowA g)))]) (c_X4_lesser l D cI cJ cB cS xa (wantsG g c) (yieldsG g (nextG g c)) (by omega) (by omega)) mS_X4_lesser kM_X4_116 dX4_swings_58 [] rfl rfl rfl rfl rfl rfl rfl rfl ⟨Nat.le_of_ble_eq_true rfl, Nat.le_of_ble_eq_true rfl, Nat.le_of_ble_eq_true rfl⟩ ?_
        refine z_callV (pc := 61) (st := []) (st2 := [.int (iI (mayG g (nextG g c) c (min (wantsG g c) (yieldsG g (nextG g c)))))]) (ws2 := [(m, .inr (4, [.ref mR, .ref mF, .ref mT, .ref mB, .ref mTp, .int (iI tn), .int (iI so), .int (iI be), .int (iI te), .long wd, .int (iI va), .int gd, .ref mBo, .ref mSo, .ref mSh, .ref mLe, .ref mIm, .ref mBf, .int ik])), (mR, .inl (cI, 35, .inl (rowA g)))]) (q0 := 0) (c_X4_mayGo l D cI cJ cB cS xa m mR mF mT mB mTp mBo mSo mSh mLe mIm mBf tn so be te va wd gd ik g (nextG g c) c (min (wantsG g c) (yieldsG g (nextG g c))) ok (by omega) (by omega) (by omega)) mV_X4_mayGo kM_X4_130 dX4_swings_61 rfl rfl [0, 1] rfl rfl rfl rfl rfl rfl rfl rfl ⟨Nat.le_of_ble_eq_true rfl, Nat.le_of_ble_eq_true rfl, Nat.le_of_ble_eq_true rfl⟩ ?_
        have f61_6 := mayG_rng ok (nextG g c) c (show (0 : Int) ≤ (min (wantsG g c) (yieldsG g (nextG g c))) by omega)
        refine z_istore (pc := 64) (lv2 := [(4, .int (iI (mayG g (nextG g c) c (min (wantsG g c) (yieldsG g (nextG g c)))))), (3, .int (iI (wantsG g c))), (2, .int (iI (nextG g c))), (0, .ref m), (1, .int (iI c))]) dX4_swings_64 (by decide) rfl ?_
        refine z_aload_n (pc := 66) dX4_swings_66 3 rfl ?_
        refine z_iload_n (pc := 67) dX4_swings_67 2 rfl ?_
        refine z_iload_n (pc := 68) dX4_swings_68 4 rfl ?_
        refine z_iload (pc := 69) dX4_swings_69 0 rfl ?_
        have okx : Ok (goesG g (nextG g c) c (mayG g (nextG g c) c (min (wantsG g c) (yieldsG g (nextG g c))))) := goesG_ok ok _ _ (by omega) (by omega) (by omega)
        have nx := nextG_ne hc0 hc1 h2
        refine z_callV (pc := 71) (st := []) (st2 := []) (ws2 := [(m, .inr (4, [.ref mR, .ref mF, .ref mT, .ref mB, .ref mTp, .int (iI tn), .int (iI so), .int (iI be), .int (iI te), .long wd, .int (iI va), .int gd, .ref mBo, .ref mSo, .ref mSh, .ref mLe, .ref mIm, .ref mBf, .int ik])), (mR, .inl (cI, 35, .inl (rowA (goesG g (nextG g c) c (mayG g (nextG g c) c (min (wantsG g c) (yieldsG g (nextG g c))))))))]) (q0 := 0) (c_X4_goes l D cI cJ cB cS xa m mR mF mT mB mTp mBo mSo mSh mLe mIm mBf tn so be te va wd gd ik g (nextG g c) c (mayG g (nextG g c) c (min (wantsG g c) (yieldsG g (nextG g c)))) ok (by omega) (by omega) (by omega)) mV_X4_goes kM_X4_133 dX4_swings_71 rfl rfl [0, 1] rfl rfl rfl rfl rfl rfl rfl rfl ⟨Nat.le_of_ble_eq_true rfl, Nat.le_of_ble_eq_true rfl, Nat.le_of_ble_eq_true rfl⟩ ?_
        refine z_iload (pc := 74) dX4_swings_74 0 rfl ?_
        refine z_if_le (pc := 76) (tgt := 120) dX4_swings_76 (by decide) (by omega) (fun h76 => ?_) (fun h76 => ?_)
        · skip
          have e2 : dealG g c = goesG g (nextG g c) c (mayG g (nextG g c) c (min (wantsG g c) (yieldsG g (nextG g c)))) := by unfold dealG; rw [if_pos ⟨by omega, by omega⟩]; unfold haveG; exact if_neg (by omega)
          exact z_vret (pc := 120) dX4_swings_120 rfl (by rw [e2])
        · skip
          have e2 : dealG g c = payG (goesG g (nextG g c) c (mayG g (nextG g c) c (min (wantsG g c) (yieldsG g (nextG g c))))) c (nextG g c) := by unfold dealG; rw [if_pos ⟨by omega, by omega⟩]; unfold haveG; exact if_pos (by omega)
          have r9 := okM ok (nextG g c)
          have r8 := okM ok c
          refine z_aload_n (pc := 79) dX4_swings_79 3 rfl ?_
          refine z_iload_n (pc := 80) dX4_swings_80 2 rfl ?_
          refine z_iconst (pc := 81) dX4_swings_81 ?_
          refine z_aload_n (pc := 82) dX4_swings_82 3 rfl ?_
          refine z_iload_n (pc := 83) dX4_swings_83 2 rfl ?_
          refine z_iconst (pc := 84) dX4_swings_84 ?_
          refine z_callV (pc := 85) (st := [.int (iI 2), .int (iI (nextG g c)), .ref m]) (st2 := [.int (iI (g 2 (nextG g c))), .int (iI 2), .int (iI (nextG g c)), .ref m]) (ws2 := [(m, .inr (4, [.ref mR, .ref mF, .ref mT, .ref mB, .ref mTp, .int (iI tn), .int (iI so), .int (iI be), .int (iI te), .long wd, .int (iI va), .int gd, .ref mBo, .ref mSo, .ref mSh, .ref mLe, .ref mIm, .ref mBf, .int ik])), (mR, .inl (cI, 35, .inl (rowA (goesG g (nextG g c) c (mayG g (nextG g c) c (min (wantsG g c) (yieldsG g (nextG g c))))))))]) (q0 := 0) (c_X4_its l D cI cJ cB cS xa m mR mF mT mB mTp mBo mSo mSh mLe mIm mBf tn so be te va wd gd ik (goesG g (nextG g c) c (mayG g (nextG g c) c (min (wantsG g c) (yieldsG g (nextG g c))))) (nextG g c) 2 (by omega) (by omega)) mV_X4_its kM_X4_57 dX4_swings_85 rfl rfl [0, 1] rfl rfl rfl rfl rfl rfl rfl rfl ⟨Nat.le_of_ble_eq_true rfl, Nat.le_of_ble_eq_true rfl, Nat.le_of_ble_eq_true rfl⟩ ?_
          have b7 := okM ok (nextG g c)
          refine z_aload_n (pc := 88) dX4_swings_88 3 rfl ?_
          refine z_iload_n (pc := 89) dX4_swings_89 4 rfl ?_
          refine z_callV (pc := 90) (st := [.int (iI (g 2 (nextG g c))), .int (iI 2), .int (iI (nextG g c)), .ref m]) (st2 := [.int (iI (paysG g c)), .int (iI (g 2 (nextG g c))), .int (iI 2), .int (iI (nextG g c)), .ref m]) (ws2 := [(m, .inr (4, [.ref mR, .ref mF, .ref mT, .ref mB, .ref mTp, .int (iI tn), .int (iI so), .int (iI be), .int (iI te), .long wd, .int (iI va), .int gd, .ref mBo, .ref mSo, .ref mSh, .ref mLe, .ref mIm, .ref mBf, .int ik])), (mR, .inl (cI, 35, .inl (rowA (goesG g (nextG g c) c (mayG g (nextG g c) c (min (wantsG g c) (yieldsG g (nextG g c))))))))]) (q0 := 0) (c_X4_pays l D cI cJ cB cS xa m mR mF mT mB mTp mBo mSo mSh mLe mIm mBf tn so be te va wd gd ik (goesG g (nextG g c) c (mayG g (nextG g c) c (min (wantsG g c) (yieldsG g (nextG g c))))) c (okx) (by omega)) mV_X4_pays kM_X4_105 dX4_swings_90 rfl rfl [0, 1] rfl rfl rfl rfl rfl rfl rfl rfl ⟨Nat.le_of_ble_eq_true rfl, Nat.le_of_ble_eq_true rfl, Nat.le_of_ble_eq_true rfl⟩ ?_
          have f90_8 := paysG_rng (goesG g (nextG g c) c (mayG g (nextG g c) c (min (wantsG g c) (yieldsG g (nextG g c))))) c
          refine z_iadd (pc := 93) dX4_swings_93 ?_
          refine z_bipush (pc := 94) dX4_swings_94 (by decide) ?_
          refine z_callS (pc := 96) (st := [.int (iI 2), .int (iI (nextG g c)), .ref m]) (st2 := [.int (iI (min ((g 2 (nextG g c)) + (paysG g c)) 99)), .int (iI 2), .int (iI (nextG g c)), .ref m]) (ws2 := [(m, .inr (4, [.ref mR, .ref mF, .ref mT, .ref mB, .ref mTp, .int (iI tn), .int (iI so), .int (iI be), .int (iI te), .long wd, .int (iI va), .int gd, .ref mBo, .ref mSo, .ref mSh, .ref mLe, .ref mIm, .ref mBf, .int ik])), (mR, .inl (cI, 35, .inl (rowA (goesG g (nextG g c) c (mayG g (nextG g c) c (min (wantsG g c) (yieldsG g (nextG g c))))))))]) (c_X4_lesser l D cI cJ cB cS xa ((g 2 (nextG g c)) + (paysG g c)) 99 (by omega) (by omega)) mS_X4_lesser kM_X4_116 dX4_swings_96 [] rfl rfl rfl rfl rfl rfl rfl rfl ⟨Nat.le_of_ble_eq_true rfl, Nat.le_of_ble_eq_true rfl, Nat.le_of_ble_eq_true rfl⟩ ?_
          refine z_callV (pc := 99) (st := []) (st2 := []) (ws2 := [(m, .inr (4, [.ref mR, .ref mF, .ref mT, .ref mB, .ref mTp, .int (iI tn), .int (iI so), .int (iI be), .int (iI te), .long wd, .int (iI va), .int gd, .ref mBo, .ref mSo, .ref mSh, .ref mLe, .ref mIm, .ref mBf, .int ik])), (mR, .inl (cI, 35, .inl (rowA (up2 (goesG g (nextG g c) c (mayG g (nextG g c) c (min (wantsG g c) (yieldsG g (nextG g c))))) 2 (nextG g c) (min ((g 2 (nextG g c)) + (paysG g c)) 99)))))]) (q0 := 0) (c_X4_puts l D cI cJ cB cS xa m mR mF mT mB mTp mBo mSo mSh mLe mIm mBf tn so be te va wd gd ik (goesG g (nextG g c) c (mayG g (nextG g c) c (min (wantsG g c) (yieldsG g (nextG g c))))) (nextG g c) 2 (min ((g 2 (nextG g c)) + (paysG g c)) 99) (by omega) (by omega)) mV_X4_puts kM_X4_86 dX4_swings_99 rfl rfl [0, 1] rfl rfl rfl rfl rfl rfl rfl rfl ⟨Nat.le_of_ble_eq_true rfl, Nat.le_of_ble_eq_true rfl, Nat.le_of_ble_eq_true rfl⟩ ?_
          refine z_aload_n (pc := 102) dX4_swings_102 3 rfl ?_
          refine z_iload_n (pc := 103) dX4_swings_103 4 rfl ?_
          refine z_iconst (pc := 104) dX4_swings_104 ?_
          refine z_aload_n (pc := 105) dX4_swings_105 3 rfl ?_
          refine z_iload_n (pc := 106) dX4_swings_106 4 rfl ?_
          refine z_iconst (pc := 107) dX4_swings_107 ?_
          refine z_callV (pc := 108) (st := [.int (iI 2), .int (iI c), .ref m]) (st2 := [.int (iI ((up2 (goesG g (nextG g c) c (mayG g (nextG g c) c (min (wantsG g c) (yieldsG g (nextG g c))))) 2 (nextG g c) (min ((g 2 (nextG g c)) + (paysG g c)) 99)) 2 c)), .int (iI 2), .int (iI c), .ref m]) (ws2 := [(m, .inr (4, [.ref mR, .ref mF, .ref mT, .ref mB, .ref mTp, .int (iI tn), .int (iI so), .int (iI be), .int (iI te), .long wd, .int (iI va), .int gd, .ref mBo, .ref mSo, .ref mSh, .ref mLe, .ref mIm, .ref mBf, .int ik])), (mR, .inl (cI, 35, .inl (rowA (up2 (goesG g (nextG g c) c (mayG g (nextG g c) c (min (wantsG g c) (yieldsG g (nextG g c))))) 2 (nextG g c) (min ((g 2 (nextG g c)) + (paysG g c)) 99)))))]) (q0 := 0) (c_X4_its l D cI cJ cB cS xa m mR mF mT mB mTp mBo mSo mSh mLe mIm mBf tn so be te va wd gd ik (up2 (goesG g (nextG g c) c (mayG g (nextG g c) c (min (wantsG g c) (yieldsG g (nextG g c))))) 2 (nextG g c) (min ((g 2 (nextG g c)) + (paysG g c)) 99)) c 2 (by omega) (by omega)) mV_X4_its kM_X4_57 dX4_swings_108 rfl rfl [0, 1] rfl rfl rfl rfl rfl rfl rfl rfl ⟨Nat.le_of_ble_eq_true rfl, Nat.le_of_ble_eq_true rfl, Nat.le_of_ble_eq_true rfl⟩ ?_
          refine z_aload_n (pc := 111) dX4_swings_111 3 rfl ?_
          refine z_iload_n (pc := 112) dX4_swings_112 4 rfl ?_
          refine z_callV (pc := 113) (st := [.int (iI ((up2 (goesG g (nextG g c) c (mayG g (nextG g c) c (min (wantsG g c) (yieldsG g (nextG g c))))) 2 (nextG g c) (min ((g 2 (nextG g c)) + (paysG g c)) 99)) 2 c)), .int (iI 2), .int (iI c), .ref m]) (st2 := [.int (iI (paysG g c)), .int (iI ((up2 (goesG g (nextG g c) c (mayG g (nextG g c) c (min (wantsG g c) (yieldsG g (nextG g c))))) 2 (nextG g c) (min ((g 2 (nextG g c)) + (paysG g c)) 99)) 2 c)), .int (iI 2), .int (iI c), .ref m]) (ws2 := [(m, .inr (4, [.ref mR, .ref mF, .ref mT, .ref mB, .ref mTp, .int (iI tn), .int (iI so), .int (iI be), .int (iI te), .long wd, .int (iI va), .int gd, .ref mBo, .ref mSo, .ref mSh, .ref mLe, .ref mIm, .ref mBf, .int ik])), (mR, .inl (cI, 35, .inl (rowA (up2 (goesG g (nextG g c) c (mayG g (nextG g c) c (min (wantsG g c) (yieldsG g (nextG g c))))) 2 (nextG g c) (min ((g 2 (nextG g c)) + (paysG g c)) 99)))))]) (q0 := 0) (c_X4_pays l D cI cJ cB cS xa m mR mF mT mB mTp mBo mSo mSh mLe mIm mBf tn so be te va wd gd ik (up2 (goesG g (nextG g c) c (mayG g (nextG g c) c (min (wantsG g c) (yieldsG g (nextG g c))))) 2 (nextG g c) (min ((g 2 (nextG g c)) + (paysG g c)) 99)) c ((okx.upM _ (by show 0 ≤ min (g 2 (nextG g c) + paysG g c) 99 ∧ min (g 2 (nextG g c) + paysG g c) 99 ≤ 99; omega))) (by omega)) mV_X4_pays kM_X4_105 dX4_swings_113 rfl rfl [0, 1] rfl rfl rfl rfl rfl rfl rfl rfl ⟨Nat.le_of_ble_eq_true rfl, Nat.le_of_ble_eq_true rfl, Nat.le_of_ble_eq_true rfl⟩ ?_
          have f113_9 := paysG_rng (up2 (goesG g (nextG g c) c (mayG g (nextG g c) c (min (wantsG g c) (yieldsG g (nextG g c))))) 2 (nextG g c) (min ((g 2 (nextG g c)) + (paysG g c)) 99)) c
          refine z_isub (pc := 116) dX4_swings_116 ?_
          refine z_callV (pc := 117) (st := []) (st2 := []) (ws2 := [(m, .inr (4, [.ref mR, .ref mF, .ref mT, .ref mB, .ref mTp, .int (iI tn), .int (iI so), .int (iI be), .int (iI te), .long wd, .int (iI va), .int gd, .ref mBo, .ref mSo, .ref mSh, .ref mLe, .ref mIm, .ref mBf, .int ik])), (mR, .inl (cI, 35, .inl (rowA (up2 (up2 (goesG g (nextG g c) c (mayG g (nextG g c) c (min (wantsG g c) (yieldsG g (nextG g c))))) 2 (nextG g c) (min ((g 2 (nextG g c)) + (paysG g c)) 99)) 2 c (((up2 (goesG g (nextG g c) c (mayG g (nextG g c) c (min (wantsG g c) (yieldsG g (nextG g c))))) 2 (nextG g c) (min ((g 2 (nextG g c)) + (paysG g c)) 99)) 2 c) - (paysG g c))))))]) (q0 := 0) (c_X4_puts l D cI cJ cB cS xa m mR mF mT mB mTp mBo mSo mSh mLe mIm mBf tn so be te va wd gd ik (up2 (goesG g (nextG g c) c (mayG g (nextG g c) c (min (wantsG g c) (yieldsG g (nextG g c))))) 2 (nextG g c) (min ((g 2 (nextG g c)) + (paysG g c)) 99)) c 2 (((up2 (goesG g (nextG g c) c (mayG g (nextG g c) c (min (wantsG g c) (yieldsG g (nextG g c))))) 2 (nextG g c) (min ((g 2 (nextG g c)) + (paysG g c)) 99)) 2 c) - (paysG g c)) (by omega) (by omega)) mV_X4_puts kM_X4_86 dX4_swings_117 rfl rfl [0, 1] rfl rfl rfl rfl rfl rfl rfl rfl ⟨Nat.le_of_ble_eq_true rfl, Nat.le_of_ble_eq_true rfl, Nat.le_of_ble_eq_true rfl⟩ ?_
          exact z_vret (pc := 120) dX4_swings_120 rfl (by rw [e2, payG_swap _ (Ne.symm nx)]; rw [show up2 (goesG g (nextG g c) c (mayG g (nextG g c) c (min (wantsG g c) (yieldsG g (nextG g c))))) 2 (nextG g c) (min (g 2 (nextG g c) + paysG g c) 99) 2 c = g 2 c from up2_c _ _ _ (Ne.symm nx)]; rfl)
      · skip
        have e2 : dealG g c = g := by unfold dealG; rw [if_neg (by omega), if_neg (by omega)]
        exact z_vret (pc := 48) dX4_swings_48 rfl (by rw [e2])
  · skip
    refine z_aload_n (pc := 16) dX4_swings_16 2 rfl ?_
    refine z_iload_n (pc := 17) dX4_swings_17 3 rfl ?_
    refine z_iload_n (pc := 18) dX4_swings_18 1 rfl ?_
    refine z_aload_n (pc := 19) dX4_swings_19 2 rfl ?_
    refine z_iload_n (pc := 20) dX4_swings_20 3 rfl ?_
    refine z_iload_n (pc := 21) dX4_swings_21 1 rfl ?_
    refine z_iload_n (pc := 22) dX4_swings_22 0 rfl ?_
    refine z_ineg (pc := 23) dX4_swings_23 ?_
    refine z_callV (pc := 24) (st := [.int (iI (nextG g c)), .int (iI c), .ref m]) (st2 := [.int (iI (mayG g c (nextG g c) (-(wantsG g c)))), .int (iI (nextG g c)), .int (iI c), .ref m]) (ws2 := [(m, .inr (4, [.ref mR, .ref mF, .ref mT, .ref mB, .ref mTp, .int (iI tn), .int (iI so), .int (iI be), .int (iI te), .long wd, .int (iI va), .int gd, .ref mBo, .ref mSo, .ref mSh, .ref mLe, .ref mIm, .ref mBf, .int ik])), (mR, .inl (cI, 35, .inl (rowA g)))]) (q0 := 0) (c_X4_mayGo l D cI cJ cB cS xa m mR mF mT mB mTp mBo mSo mSh mLe mIm mBf tn so be te va wd gd ik g c (nextG g c) (-(wantsG g c)) ok (by omega) (by omega) (by omega)) mV_X4_mayGo kM_X4_130 dX4_swings_24 rfl rfl [0, 1] rfl rfl rfl rfl rfl rfl rfl rfl ⟨Nat.le_of_ble_eq_true rfl, Nat.le_of_ble_eq_true rfl, Nat.le_of_ble_eq_true rfl⟩ ?_
    have f24_10 := mayG_rng ok c (nextG g c) (show (0 : Int) ≤ (-(wantsG g c)) by omega)
    refine z_callV (pc := 27) (st := []) (st2 := []) (ws2 := [(m, .inr (4, [.ref mR, .ref mF, .ref mT, .ref mB, .ref mTp, .int (iI tn), .int (iI so), .int (iI be), .int (iI te), .long wd, .int (iI va), .int gd, .ref mBo, .ref mSo, .ref mSh, .ref mLe, .ref mIm, .ref mBf, .int ik])), (mR, .inl (cI, 35, .inl (rowA (goesG g c (nextG g c) (mayG g c (nextG g c) (-(wantsG g c)))))))]) (q0 := 0) (c_X4_goes l D cI cJ cB cS xa m mR mF mT mB mTp mBo mSo mSh mLe mIm mBf tn so be te va wd gd ik g c (nextG g c) (mayG g c (nextG g c) (-(wantsG g c))) ok (by omega) (by omega) (by omega)) mV_X4_goes kM_X4_133 dX4_swings_27 rfl rfl [0, 1] rfl rfl rfl rfl rfl rfl rfl rfl ⟨Nat.le_of_ble_eq_true rfl, Nat.le_of_ble_eq_true rfl, Nat.le_of_ble_eq_true rfl⟩ ?_
    refine z_iload_n (pc := 30) dX4_swings_30 0 rfl ?_
    refine z_if_le (pc := 31) (tgt := 48) dX4_swings_31 (by decide) (by omega) (fun h31 => ?_) (fun h31 => ?_)
    · skip
      have e2 : dealG g c = goesG g c (nextG g c) (mayG g c (nextG g c) (-(wantsG g c))) := by unfold dealG; rw [if_neg (by omega), if_pos (by omega)]
      exact z_vret (pc := 48) dX4_swings_48 rfl (by rw [e2])
    · skip
      exfalso; omega
set_option maxHeartbeats 8000000 in
set_option maxRecDepth 100000 in
theorem c_X4_levels (l : Launch) (D : va_G) (cI cJ cB cS : ClassId) (xa : XA) (m mR mF mT mB mTp mBo mSo mSh mLe mIm mBf : Nat) (tn so be te va : Int) (wd : Int64) (gd ik : Int32) (g : Gd) (ok : Ok g) (h1 : 1 ≤ g 4 2) : Ct l D cI cJ cB cS xa yX4_levels cX4_levels 3 none 2 46 [.ref m] [(m, .inr (4, [.ref mR, .ref mF, .ref mT, .ref mB, .ref mTp, .int (iI tn), .int (iI so), .int (iI be), .int (iI te), .long wd, .int (iI va), .int gd, .ref mBo, .ref mSo, .ref mSh, .ref mLe, .ref mIm, .ref mBf, .int ik])), (mR, .inl (cI, 35, .inl (rowA g)))] none [(m, .inr (4, [.ref mR, .ref mF, .ref mT, .ref mB, .ref mTp, .int (iI tn), .int (iI so), .int (iI be), .int (iI te), .long wd, .int (iI va), .int gd, .ref mBo, .ref mSo, .ref mSh, .ref mLe, .ref mIm, .ref mBf, .int ik])), (mR, .inl (cI, 35, .inl (rowA (levG g))))] := by
  have o0 := ok0 ok
  have o1 := ok1 ok
  have o2 := ok2 ok
  refine CtE.of (own := RX4) (lv := [(0, .ref m)]) (by decide) rfl rfl (Nat.le_of_ble_eq_true rfl) ?_
  intro xp xe xs xm xb xt xc
  refine z_aload_n (pc := 0) dX4_levels_0 0 rfl ?_
  refine z_iconst (pc := 1) dX4_levels_1 ?_
  refine z_callV (pc := 2) (st := []) (st2 := [.int (iI (highG g))]) (ws2 := [(m, .inr (4, [.ref mR, .ref mF, .ref mT, .ref mB, .ref mTp, .int (iI tn), .int (iI so), .int (iI be), .int (iI te), .long wd, .int (iI va), .int gd, .ref mBo, .ref mSo, .ref mSh, .ref mLe, .ref mIm, .ref mBf, .int ik])), (mR, .inl (cI, 35, .inl (rowA g)))]) (q0 := 0) (c_X4_mostOf l D cI cJ cB cS xa m mR mF mT mB mTp mBo mSo mSh mLe mIm mBf tn so be te va wd gd ik g 1 ok (by omega)) mV_X4_mostOf kM_X4_60 dX4_levels_2 rfl rfl [0, 1] rfl rfl rfl rfl rfl rfl rfl rfl ⟨Nat.le_of_ble_eq_true rfl, Nat.le_of_ble_eq_true rfl, Nat.le_of_ble_eq_true rfl⟩ ?_
  have f2_1 := mostG_rng ok 1
  refine z_istore_n (pc := 5) (lv2 := [(1, .int (iI (highG g))), (0, .ref m)]) dX4_levels_5 rfl (by decide) rfl ?_
  refine z_aload_n (pc := 6) dX4_levels_6 1 rfl ?_
  refine z_callV (pc := 7) (st := []) (st2 := [.int (iI (lowG g))]) (ws2 := [(m, .inr (4, [.ref mR, .ref mF, .ref mT, .ref mB, .ref mTp, .int (iI tn), .int (iI so), .int (iI be), .int (iI te), .long wd, .int (iI va), .int gd, .ref mBo, .ref mSo, .ref mSh, .ref mLe, .ref mIm, .ref mBf, .int ik])), (mR, .inl (cI, 35, .inl (rowA g)))]) (q0 := 0) (c_X4_lowest l D cI cJ cB cS xa m mR mF mT mB mTp mBo mSo mSh mLe mIm mBf tn so be te va wd gd ik g ok) mV_X4_lowest kM_X4_63 dX4_levels_7 rfl rfl [0, 1] rfl rfl rfl rfl rfl rfl rfl rfl ⟨Nat.le_of_ble_eq_true rfl, Nat.le_of_ble_eq_true rfl, Nat.le_of_ble_eq_true rfl⟩ ?_
  have f7_2 := lowG_rng ok
  refine z_istore_n (pc := 10) (lv2 := [(2, .int (iI (lowG g))), (1, .int (iI (highG g))), (0, .ref m)]) dX4_levels_10 rfl (by decide) rfl ?_
  have rh := highG_rng ok
  have rl := lowG_rng ok
  have bh := okH ok (highG g)
  have bl := okH ok (lowG g)
  refine z_aload_n (pc := 11) dX4_levels_11 2 rfl ?_
  refine z_iload_n (pc := 12) dX4_levels_12 1 rfl ?_
  refine z_iconst (pc := 13) dX4_levels_13 ?_
  refine z_callV (pc := 14) (st := []) (st2 := [.int (iI (g 1 (highG g)))]) (ws2 := [(m, .inr (4, [.ref mR, .ref mF, .ref mT, .ref mB, .ref mTp, .int (iI tn), .int (iI so), .int (iI be), .int (iI te), .long wd, .int (iI va), .int gd, .ref mBo, .ref mSo, .ref mSh, .ref mLe, .ref mIm, .ref mBf, .int ik])), (mR, .inl (cI, 35, .inl (rowA g)))]) (q0 := 0) (c_X4_its l D cI cJ cB cS xa m mR mF mT mB mTp mBo mSo mSh mLe mIm mBf tn so be te va wd gd ik g (highG g) 1 (by omega) (by omega)) mV_X4_its kM_X4_57 dX4_levels_14 rfl rfl [0, 1] rfl rfl rfl rfl rfl rfl rfl rfl ⟨Nat.le_of_ble_eq_true rfl, Nat.le_of_ble_eq_true rfl, Nat.le_of_ble_eq_true rfl⟩ ?_
  have b3 := okH ok (highG g)
  refine z_aload_n (pc := 17) dX4_levels_17 2 rfl ?_
  refine z_iload_n (pc := 18) dX4_levels_18 0 rfl ?_
  refine z_iconst (pc := 19) dX4_levels_19 ?_
  refine z_callV (pc := 20) (st := [.int (iI (g 1 (highG g)))]) (st2 := [.int (iI (g 1 (lowG g))), .int (iI (g 1 (highG g)))]) (ws2 := [(m, .inr (4, [.ref mR, .ref mF, .ref mT, .ref mB, .ref mTp, .int (iI tn), .int (iI so), .int (iI be), .int (iI te), .long wd, .int (iI va), .int gd, .ref mBo, .ref mSo, .ref mSh, .ref mLe, .ref mIm, .ref mBf, .int ik])), (mR, .inl (cI, 35, .inl (rowA g)))]) (q0 := 0) (c_X4_its l D cI cJ cB cS xa m mR mF mT mB mTp mBo mSo mSh mLe mIm mBf tn so be te va wd gd ik g (lowG g) 1 (by omega) (by omega)) mV_X4_its kM_X4_57 dX4_levels_20 rfl rfl [0, 1] rfl rfl rfl rfl rfl rfl rfl rfl ⟨Nat.le_of_ble_eq_true rfl, Nat.le_of_ble_eq_true rfl, Nat.le_of_ble_eq_true rfl⟩ ?_
  have b4 := okH ok (lowG g)
  refine z_isub (pc := 23) dX4_levels_23 ?_
  refine z_iconst (pc := 24) dX4_levels_24 ?_
  refine z_icmp_lt (pc := 25) (tgt := 35) dX4_levels_25 (by decide) (by omega) (by omega) (fun h25 => ?_) (fun h25 => ?_)
  · skip
    have e2 : levG g = g := by unfold levG; rw [if_neg]; unfold diffG; rw [if_neg (by omega)]; omega
    exact z_vret (pc := 35) dX4_levels_35 rfl (by rw [e2])
  · skip
    have e2 : levG g = goesG g (highG g) (lowG g) 1 := by unfold levG; rw [if_pos]; unfold diffG; rw [if_neg (by omega)]; omega
    refine z_aload_n (pc := 28) dX4_levels_28 2 rfl ?_
    refine z_iload_n (pc := 29) dX4_levels_29 1 rfl ?_
    refine z_iload_n (pc := 30) dX4_levels_30 0 rfl ?_
    refine z_iconst (pc := 31) dX4_levels_31 ?_
    refine z_callV (pc := 32) (st := []) (st2 := []) (ws2 := [(m, .inr (4, [.ref mR, .ref mF, .ref mT, .ref mB, .ref mTp, .int (iI tn), .int (iI so), .int (iI be), .int (iI te), .long wd, .int (iI va), .int gd, .ref mBo, .ref mSo, .ref mSh, .ref mLe, .ref mIm, .ref mBf, .int ik])), (mR, .inl (cI, 35, .inl (rowA (goesG g (highG g) (lowG g) 1))))]) (q0 := 0) (c_X4_goes l D cI cJ cB cS xa m mR mF mT mB mTp mBo mSo mSh mLe mIm mBf tn so be te va wd gd ik g (highG g) (lowG g) 1 ok (by omega) (by omega) (by omega)) mV_X4_goes kM_X4_133 dX4_levels_32 rfl rfl [0, 1] rfl rfl rfl rfl rfl rfl rfl rfl ⟨Nat.le_of_ble_eq_true rfl, Nat.le_of_ble_eq_true rfl, Nat.le_of_ble_eq_true rfl⟩ ?_
    exact z_vret (pc := 35) dX4_levels_35 rfl (by rw [e2])
set_option maxHeartbeats 8000000 in
set_option maxRecDepth 100000 in
theorem c_X4_oneMinute (l : Launch) (D : va_G) (cI cJ cB cS : ClassId) (xa : XA) (m mR mF mT mB mTp mBo mSo mSh mLe mIm mBf : Nat) (tn so be te va : Int) (wd : Int64) (gd ik : Int32) (g : Gd) (ok : Ok g) (hm : g 4 0 < 1000000) : Ct l D cI cJ cB cS xa yX4_oneMinute cX4_oneMinute 2 none 3 70 [.ref m] [(m, .inr (4, [.ref mR, .ref mF, .ref mT, .ref mB, .ref mTp, .int (iI tn), .int (iI so), .int (iI be), .int (iI te), .long wd, .int (iI va), .int gd, .ref mBo, .ref mSo, .ref mSh, .ref mLe, .ref mIm, .ref mBf, .int ik])), (mR, .inl (cI, 35, .inl (rowA g)))] none [(m, .inr (4, [.ref mR, .ref mF, .ref mT, .ref mB, .ref mTp, .int (iI tn), .int (iI so), .int (iI be), .int (iI te), .long wd, .int (iI va), .int gd, .ref mBo, .ref mSo, .ref mSh, .ref mLe, .ref mIm, .ref mBf, .int ik])), (mR, .inl (cI, 35, .inl (rowA (minG g))))] := by
  have o0 := ok0 ok
  have o1 := ok1 ok
  have o2 := ok2 ok
  refine CtE.of (own := RX4) (lv := [(0, .ref m)]) (by decide) rfl rfl (Nat.le_of_ble_eq_true rfl) ?_
  intro xp xe xs xm xb xt xc
  refine z_aload_n (pc := 0) dX4_oneMinute_0 0 rfl ?_
  refine z_get (pc := 1) (q0 := 0) (v := .ref mR) fL_X4_7 dX4_oneMinute_1 rfl rfl ?_
  refine z_iconst (pc := 4) dX4_oneMinute_4 ?_
  refine z_iald (pc := 5) (q0 := 1) (v := (iI (g 4 2))) dX4_oneMinute_5 rfl (by omega) (by decide) (rowA_4 (by decide) (by decide)) ?_
  refine z_iconst (pc := 6) dX4_oneMinute_6 ?_
  refine z_icmp_le (pc := 7) (tgt := 24) dX4_oneMinute_7 (by decide) (by omega) (by omega) (fun h7 => ?_) (fun h7 => ?_)
  · skip
    refine z_iconst (pc := 24) dX4_oneMinute_24 ?_
    refine z_istore_n (pc := 25) (lv2 := [(1, .int (iI 0)), (0, .ref m)]) dX4_oneMinute_25 rfl (by decide) rfl ?_
    have LP26 : ∀ (nn_ : Nat) (i : Int) (gg : Gd), (0 ≤ i) → (i ≤ g 4 2) → (gg = dealsG g i.toNat) → (g 4 2 - i).toNat < nn_ → Z xp l xe { frames := 3, cells := 0, slots := 0, locals := 70 } xs xm ([.ref m] : List Value).toArray xb xt xc 0 0 (MQ xb (Cq (S := Unit) D [(m, .inr (4, [.ref mR, .ref mF, .ref mT, .ref mB, .ref mTp, .int (iI tn), .int (iI so), .int (iI be), .int (iI te), .long wd, .int (iI va), .int gd, .ref mBo, .ref mSo, .ref mSh, .ref mLe, .ref mIm, .ref mBf, .int ik])), (mR, .inl (cI, 35, .inl (rowA g)))] (fun _ => True) (fun _ => none) (fun _ => [(m, .inr (4, [.ref mR, .ref mF, .ref mT, .ref mB, .ref mTp, .int (iI tn), .int (iI so), .int (iI be), .int (iI te), .long wd, .int (iI va), .int gd, .ref mBo, .ref mSo, .ref mSh, .ref mLe, .ref mIm, .ref mBf, .int ik])), (mR, .inl (cI, 35, .inl (rowA (minG g))))])) ([.ref m] : List Value).toArray xs 0 0 (va_A0 [(m, .inr (4, [.ref mR, .ref mF, .ref mT, .ref mB, .ref mTp, .int (iI tn), .int (iI so), .int (iI be), .int (iI te), .long wd, .int (iI va), .int gd, .ref mBo, .ref mSo, .ref mSh, .ref mLe, .ref mIm, .ref mBf, .int ik])), (mR, .inl (cI, 35, .inl (rowA g)))])) cX4_oneMinute RX4 2 none D cI cJ cB cS xa (va_A0 [(m, .inr (4, [.ref mR, .ref mF, .ref mT, .ref mB, .ref mTp, .int (iI tn), .int (iI so), .int (iI be), .int (iI te), .long wd, .int (iI va), .int gd, .ref mBo, .ref mSo, .ref mSh, .ref mLe, .ref mIm, .ref mBf, .int ik])), (mR, .inl (cI, 35, .inl (rowA g)))]) [(m, .inr (4, [.ref mR, .ref mF, .ref mT, .ref mB, .ref mTp, .int (iI tn), .int (iI so), .int (iI be), .int (iI te), .long wd, .int (iI va), .int gd, .ref mBo, .ref mSo, .ref mSh, .ref mLe, .ref mIm, .ref mBf, .int ik])), (mR, .inl (cI, 35, .inl (rowA gg)))] [(0, .ref m), (1, .int (iI i))] 26 [] := by
      intro nn_
      induction nn_ with
      | zero => intro i gg hi0 hi1 hg hms; exact absurd hms (Nat.not_lt_zero _)
      | succ nn_ ih =>
        intro i gg hi0 hi1 hg hms
        have okg : Ok gg := by rw [hg]; exact dealsG_ok ok _
        have q4 : ∀ d, gg 4 d = g 4 d := fun d => by rw [hg]; exact dealsG_4 g d _
        have q2 := q4 2
        have q0 := q4 0
        have ih26 := ih
        clear ih
        refine z_iload_n (pc := 26) dX4_oneMinute_26 1 rfl ?_
        refine z_aload_n (pc := 27) dX4_oneMinute_27 0 rfl ?_
        refine z_get (pc := 28) (q0 := 0) (v := .ref mR) fL_X4_7 dX4_oneMinute_28 rfl rfl ?_
        refine z_iconst (pc := 31) dX4_oneMinute_31 ?_
        refine z_iald (pc := 32) (q0 := 1) (v := (iI (gg 4 2))) dX4_oneMinute_32 rfl (by omega) (by decide) (rowA_4 (by decide) (by decide)) ?_
        refine z_icmp_ge (pc := 33) (tgt := 57) dX4_oneMinute_33 (by decide) (by omega) (by omega) (fun h33 => ?_) (fun h33 => ?_)
        · skip
          obtain rfl : i = g 4 2 := by omega
          have e2 : minG g = up2 gg 4 0 (gg 4 0 + 1) := by rw [minG_small ok (by omega), hg, dealsG_small (by omega)]
          refine z_aload_n (pc := 57) dX4_oneMinute_57 0 rfl ?_
          refine z_get (pc := 58) (q0 := 0) (v := .ref mR) fL_X4_7 dX4_oneMinute_58 rfl rfl ?_
          refine z_iconst (pc := 61) dX4_oneMinute_61 ?_
          refine z_dup2 (pc := 62) dX4_oneMinute_62 rfl rfl ?_
          refine z_iald (pc := 63) (q0 := 1) (v := (iI (gg 4 0))) dX4_oneMinute_63 rfl (by omega) (by decide) (rowA_4 (by decide) (by decide)) ?_
          refine z_iconst (pc := 64) dX4_oneMinute_64 ?_
          refine z_iadd (pc := 65) dX4_oneMinute_65 ?_
          refine z_iast (pc := 66) (q0 := 1) (ws2 := [(m, .inr (4, [.ref mR, .ref mF, .ref mT, .ref mB, .ref mTp, .int (iI tn), .int (iI so), .int (iI be), .int (iI te), .long wd, .int (iI va), .int gd, .ref mBo, .ref mSo, .ref mSh, .ref mLe, .ref mIm, .ref mBf, .int ik])), (mR, .inl (cI, 35, .inl (rowA (up2 gg 4 0 ((gg 4 0) + 1)))))]) dX4_oneMinute_66 rfl (by omega) (by decide) (by rw [rowA_up4 (z := 0) (by decide) (by decide)]; try rfl) ?_
          exact z_vret (pc := 67) dX4_oneMinute_67 rfl (by rw [e2])
        · skip
          refine z_aload_n (pc := 36) dX4_oneMinute_36 0 rfl ?_
          refine z_get (pc := 37) (q0 := 0) (v := .ref mR) fL_X4_7 dX4_oneMinute_37 rfl rfl ?_
          refine z_iconst (pc := 40) dX4_oneMinute_40 ?_
          refine z_iald (pc := 41) (q0 := 1) (v := (iI (gg 4 2))) dX4_oneMinute_41 rfl (by omega) (by decide) (rowA_4 (by decide) (by decide)) ?_
          refine z_iconst (pc := 42) dX4_oneMinute_42 ?_
          refine z_icmp_le (pc := 43) (tgt := 57) dX4_oneMinute_43 (by decide) (by omega) (by omega) (fun h43 => ?_) (fun h43 => ?_)
          · skip
            have e2 : minG g = up2 gg 4 0 (gg 4 0 + 1) := by rw [minG_small ok (by omega), hg, dealsG_small (by omega)]
            refine z_aload_n (pc := 57) dX4_oneMinute_57 0 rfl ?_
            refine z_get (pc := 58) (q0 := 0) (v := .ref mR) fL_X4_7 dX4_oneMinute_58 rfl rfl ?_
            refine z_iconst (pc := 61) dX4_oneMinute_61 ?_
            refine z_dup2 (pc := 62) dX4_oneMinute_62 rfl rfl ?_
            refine z_iald (pc := 63) (q0 := 1) (v := (iI (gg 4 0))) dX4_oneMinute_63 rfl (by omega) (by decide) (rowA_4 (by decide) (by decide)) ?_
            refine z_iconst (pc := 64) dX4_oneMinute_64 ?_
            refine z_iadd (pc := 65) dX4_oneMinute_65 ?_
            refine z_iast (pc := 66) (q0 := 1) (ws2 := [(m, .inr (4, [.ref mR, .ref mF, .ref mT, .ref mB, .ref mTp, .int (iI tn), .int (iI so), .int (iI be), .int (iI te), .long wd, .int (iI va), .int gd, .ref mBo, .ref mSo, .ref mSh, .ref mLe, .ref mIm, .ref mBf, .int ik])), (mR, .inl (cI, 35, .inl (rowA (up2 gg 4 0 ((gg 4 0) + 1)))))]) dX4_oneMinute_66 rfl (by omega) (by decide) (by rw [rowA_up4 (z := 0) (by decide) (by decide)]; try rfl) ?_
            exact z_vret (pc := 67) dX4_oneMinute_67 rfl (by rw [e2])
          · skip
            refine z_aload_n (pc := 46) dX4_oneMinute_46 0 rfl ?_
            refine z_iload_n (pc := 47) dX4_oneMinute_47 1 rfl ?_
            refine z_callV (pc := 48) (st := []) (st2 := []) (ws2 := [(m, .inr (4, [.ref mR, .ref mF, .ref mT, .ref mB, .ref mTp, .int (iI tn), .int (iI so), .int (iI be), .int (iI te), .long wd, .int (iI va), .int gd, .ref mBo, .ref mSo, .ref mSh, .ref mLe, .ref mIm, .ref mBf, .int ik])), (mR, .inl (cI, 35, .inl (rowA (dealG gg i))))]) (q0 := 0) (c_X4_swings l D cI cJ cB cS xa m mR mF mT mB mTp mBo mSo mSh mLe mIm mBf tn so be te va wd gd ik gg i okg (by omega) (by omega) (by omega)) mV_X4_swings kM_X4_139 dX4_oneMinute_48 rfl rfl [0, 1] rfl rfl rfl rfl rfl rfl rfl rfl ⟨Nat.le_of_ble_eq_true rfl, Nat.le_of_ble_eq_true rfl, Nat.le_of_ble_eq_true rfl⟩ ?_
            have ok48_1 : Ok (dealG gg i) := dealG_ok okg i
            have f48_2 := dealG_4 gg i
            refine z_iinc (pc := 51) (lv2 := [(1, .int (iI (i + 1))), (0, .ref m)]) dX4_oneMinute_51 1 rfl (by decide) rfl ?_
            refine z_goto (pc := 54) (tgt := 26) dX4_oneMinute_54 (by decide) ?_
            refine z_lv (lv2 := [(0, .ref m), (1, .int (iI (i + 1)))]) [1, 0] rfl ?_
            exact ih26 (i + 1) (dealG gg i) (by omega) (by omega) (by rw [dealsG_s _ hi0, ← hg]) (by omega)
    refine z_lv (lv2 := [(0, .ref m), (1, .int (iI 0))]) [1, 0] rfl ?_
    exact LP26 _ 0 g (by omega) (by omega) (by rfl) (Nat.lt_succ_self _)
  · skip
    refine z_aload_n (pc := 10) dX4_oneMinute_10 0 rfl ?_
    refine z_callV (pc := 11) (st := []) (st2 := [.int (bI (dusk g))]) (ws2 := [(m, .inr (4, [.ref mR, .ref mF, .ref mT, .ref mB, .ref mTp, .int (iI tn), .int (iI so), .int (iI be), .int (iI te), .long wd, .int (iI va), .int gd, .ref mBo, .ref mSo, .ref mSh, .ref mLe, .ref mIm, .ref mBf, .int ik])), (mR, .inl (cI, 35, .inl (rowA g)))]) (q0 := 0) (c_X4_isDusk l D cI cJ cB cS xa m mR mF mT mB mTp mBo mSo mSh mLe mIm mBf tn so be te va wd gd ik g ok) mV_X4_isDusk kM_X4_67 dX4_oneMinute_11 rfl rfl [0, 1] rfl rfl rfl rfl rfl rfl rfl rfl ⟨Nat.le_of_ble_eq_true rfl, Nat.le_of_ble_eq_true rfl, Nat.le_of_ble_eq_true rfl⟩ ?_
    refine z_ifb_eq (pc := 14) (tgt := 24) dX4_oneMinute_14 (by decide) (fun h14 => ?_) (fun h14 => ?_)
    · skip
      refine z_iconst (pc := 24) dX4_oneMinute_24 ?_
      refine z_istore_n (pc := 25) (lv2 := [(1, .int (iI 0)), (0, .ref m)]) dX4_oneMinute_25 rfl (by decide) rfl ?_
      have LP26 : ∀ (nn_ : Nat) (i : Int) (gg : Gd), (0 ≤ i) → (i ≤ g 4 2) → (gg = dealsG g i.toNat) → (g 4 2 - i).toNat < nn_ → Z xp l xe { frames := 3, cells := 0, slots := 0, locals := 70 } xs xm ([.ref m] : List Value).toArray xb xt xc 0 0 (MQ xb (Cq (S := Unit) D [(m, .inr (4, [.ref mR, .ref mF, .ref mT, .ref mB, .ref mTp, .int (iI tn), .int (iI so), .int (iI be), .int (iI te), .long wd, .int (iI va), .int gd, .ref mBo, .ref mSo, .ref mSh, .ref mLe, .ref mIm, .ref mBf, .int ik])), (mR, .inl (cI, 35, .inl (rowA g)))] (fun _ => True) (fun _ => none) (fun _ => [(m, .inr (4, [.ref mR, .ref mF, .ref mT, .ref mB, .ref mTp, .int (iI tn), .int (iI so), .int (iI be), .int (iI te), .long wd, .int (iI va), .int gd, .ref mBo, .ref mSo, .ref mSh, .ref mLe, .ref mIm, .ref mBf, .int ik])), (mR, .inl (cI, 35, .inl (rowA (minG g))))])) ([.ref m] : List Value).toArray xs 0 0 (va_A0 [(m, .inr (4, [.ref mR, .ref mF, .ref mT, .ref mB, .ref mTp, .int (iI tn), .int (iI so), .int (iI be), .int (iI te), .long wd, .int (iI va), .int gd, .ref mBo, .ref mSo, .ref mSh, .ref mLe, .ref mIm, .ref mBf, .int ik])), (mR, .inl (cI, 35, .inl (rowA g)))])) cX4_oneMinute RX4 2 none D cI cJ cB cS xa (va_A0 [(m, .inr (4, [.ref mR, .ref mF, .ref mT, .ref mB, .ref mTp, .int (iI tn), .int (iI so), .int (iI be), .int (iI te), .long wd, .int (iI va), .int gd, .ref mBo, .ref mSo, .ref mSh, .ref mLe, .ref mIm, .ref mBf, .int ik])), (mR, .inl (cI, 35, .inl (rowA g)))]) [(m, .inr (4, [.ref mR, .ref mF, .ref mT, .ref mB, .ref mTp, .int (iI tn), .int (iI so), .int (iI be), .int (iI te), .long wd, .int (iI va), .int gd, .ref mBo, .ref mSo, .ref mSh, .ref mLe, .ref mIm, .ref mBf, .int ik])), (mR, .inl (cI, 35, .inl (rowA gg)))] [(0, .ref m), (1, .int (iI i))] 26 [] := by
        intro nn_
        induction nn_ with
        | zero => intro i gg hi0 hi1 hg hms; exact absurd hms (Nat.not_lt_zero _)
        | succ nn_ ih =>
          intro i gg hi0 hi1 hg hms
          have okg : Ok gg := by rw [hg]; exact dealsG_ok ok _
          have q4 : ∀ d, gg 4 d = g 4 d := fun d => by rw [hg]; exact dealsG_4 g d _
          have q2 := q4 2
          have q0 := q4 0
          have ih26 := ih
          clear ih
          refine z_iload_n (pc := 26) dX4_oneMinute_26 1 rfl ?_
          refine z_aload_n (pc := 27) dX4_oneMinute_27 0 rfl ?_
          refine z_get (pc := 28) (q0 := 0) (v := .ref mR) fL_X4_7 dX4_oneMinute_28 rfl rfl ?_
          refine z_iconst (pc := 31) dX4_oneMinute_31 ?_
          refine z_iald (pc := 32) (q0 := 1) (v := (iI (gg 4 2))) dX4_oneMinute_32 rfl (by omega) (by decide) (rowA_4 (by decide) (by decide)) ?_
          refine z_icmp_ge (pc := 33) (tgt := 57) dX4_oneMinute_33 (by decide) (by omega) (by omega) (fun h33 => ?_) (fun h33 => ?_)
          · skip
            obtain rfl : i = g 4 2 := by omega
            have e2 : minG g = up2 gg 4 0 (gg 4 0 + 1) := by unfold minG; rw [if_neg h14, hg]
            refine z_aload_n (pc := 57) dX4_oneMinute_57 0 rfl ?_
            refine z_get (pc := 58) (q0 := 0) (v := .ref mR) fL_X4_7 dX4_oneMinute_58 rfl rfl ?_
            refine z_iconst (pc := 61) dX4_oneMinute_61 ?_
            refine z_dup2 (pc := 62) dX4_oneMinute_62 rfl rfl ?_
            refine z_iald (pc := 63) (q0 := 1) (v := (iI (gg 4 0))) dX4_oneMinute_63 rfl (by omega) (by decide) (rowA_4 (by decide) (by decide)) ?_
            refine z_iconst (pc := 64) dX4_oneMinute_64 ?_
            refine z_iadd (pc := 65) dX4_oneMinute_65 ?_
            refine z_iast (pc := 66) (q0 := 1) (ws2 := [(m, .inr (4, [.ref mR, .ref mF, .ref mT, .ref mB, .ref mTp, .int (iI tn), .int (iI so), .int (iI be), .int (iI te), .long wd, .int (iI va), .int gd, .ref mBo, .ref mSo, .ref mSh, .ref mLe, .ref mIm, .ref mBf, .int ik])), (mR, .inl (cI, 35, .inl (rowA (up2 gg 4 0 ((gg 4 0) + 1)))))]) dX4_oneMinute_66 rfl (by omega) (by decide) (by rw [rowA_up4 (z := 0) (by decide) (by decide)]; try rfl) ?_
            exact z_vret (pc := 67) dX4_oneMinute_67 rfl (by rw [e2])
          · skip
            refine z_aload_n (pc := 36) dX4_oneMinute_36 0 rfl ?_
            refine z_get (pc := 37) (q0 := 0) (v := .ref mR) fL_X4_7 dX4_oneMinute_37 rfl rfl ?_
            refine z_iconst (pc := 40) dX4_oneMinute_40 ?_
            refine z_iald (pc := 41) (q0 := 1) (v := (iI (gg 4 2))) dX4_oneMinute_41 rfl (by omega) (by decide) (rowA_4 (by decide) (by decide)) ?_
            refine z_iconst (pc := 42) dX4_oneMinute_42 ?_
            refine z_icmp_le (pc := 43) (tgt := 57) dX4_oneMinute_43 (by decide) (by omega) (by omega) (fun h43 => ?_) (fun h43 => ?_)
            · skip
              have e2 : minG g = up2 gg 4 0 (gg 4 0 + 1) := by rw [minG_small ok (by omega), hg, dealsG_small (by omega)]
              refine z_aload_n (pc := 57) dX4_oneMinute_57 0 rfl ?_
              refine z_get (pc := 58) (q0 := 0) (v := .ref mR) fL_X4_7 dX4_oneMinute_58 rfl rfl ?_
              refine z_iconst (pc := 61) dX4_oneMinute_61 ?_
              refine z_dup2 (pc := 62) dX4_oneMinute_62 rfl rfl ?_
              refine z_iald (pc := 63) (q0 := 1) (v := (iI (gg 4 0))) dX4_oneMinute_63 rfl (by omega) (by decide) (rowA_4 (by decide) (by decide)) ?_
              refine z_iconst (pc := 64) dX4_oneMinute_64 ?_
              refine z_iadd (pc := 65) dX4_oneMinute_65 ?_
              refine z_iast (pc := 66) (q0 := 1) (ws2 := [(m, .inr (4, [.ref mR, .ref mF, .ref mT, .ref mB, .ref mTp, .int (iI tn), .int (iI so), .int (iI be), .int (iI te), .long wd, .int (iI va), .int gd, .ref mBo, .ref mSo, .ref mSh, .ref mLe, .ref mIm, .ref mBf, .int ik])), (mR, .inl (cI, 35, .inl (rowA (up2 gg 4 0 ((gg 4 0) + 1)))))]) dX4_oneMinute_66 rfl (by omega) (by decide) (by rw [rowA_up4 (z := 0) (by decide) (by decide)]; try rfl) ?_
              exact z_vret (pc := 67) dX4_oneMinute_67 rfl (by rw [e2])
            · skip
              refine z_aload_n (pc := 46) dX4_oneMinute_46 0 rfl ?_
              refine z_iload_n (pc := 47) dX4_oneMinute_47 1 rfl ?_
              refine z_callV (pc := 48) (st := []) (st2 := []) (ws2 := [(m, .inr (4, [.ref mR, .ref mF, .ref mT, .ref mB, .ref mTp, .int (iI tn), .int (iI so), .int (iI be), .int (iI te), .long wd, .int (iI va), .int gd, .ref mBo, .ref mSo, .ref mSh, .ref mLe, .ref mIm, .ref mBf, .int ik])), (mR, .inl (cI, 35, .inl (rowA (dealG gg i))))]) (q0 := 0) (c_X4_swings l D cI cJ cB cS xa m mR mF mT mB mTp mBo mSo mSh mLe mIm mBf tn so be te va wd gd ik gg i okg (by omega) (by omega) (by omega)) mV_X4_swings kM_X4_139 dX4_oneMinute_48 rfl rfl [0, 1] rfl rfl rfl rfl rfl rfl rfl rfl ⟨Nat.le_of_ble_eq_true rfl, Nat.le_of_ble_eq_true rfl, Nat.le_of_ble_eq_true rfl⟩ ?_
              have ok48_3 : Ok (dealG gg i) := dealG_ok okg i
              have f48_4 := dealG_4 gg i
              refine z_iinc (pc := 51) (lv2 := [(1, .int (iI (i + 1))), (0, .ref m)]) dX4_oneMinute_51 1 rfl (by decide) rfl ?_
              refine z_goto (pc := 54) (tgt := 26) dX4_oneMinute_54 (by decide) ?_
              refine z_lv (lv2 := [(0, .ref m), (1, .int (iI (i + 1)))]) [1, 0] rfl ?_
              exact ih26 (i + 1) (dealG gg i) (by omega) (by omega) (by rw [dealsG_s _ hi0, ← hg]) (by omega)
      refine z_lv (lv2 := [(0, .ref m), (1, .int (iI 0))]) [1, 0] rfl ?_
      exact LP26 _ 0 g (by omega) (by omega) (by rfl) (Nat.lt_succ_self _)
    · skip
      refine z_aload_n (pc := 17) dX4_oneMinute_17 0 rfl ?_
      have e2 : minG g = up2 (levG g) 4 0 (levG g 4 0 + 1) := by unfold minG; rw [if_pos h14]
      refine z_callV (pc := 18) (st := []) (st2 := []) (ws2 := [(m, .inr (4, [.ref mR, .ref mF, .ref mT, .ref mB, .ref mTp, .int (iI tn), .int (iI so), .int (iI be), .int (iI te), .long wd, .int (iI va), .int gd, .ref mBo, .ref mSo, .ref mSh, .ref mLe, .ref mIm, .ref mBf, .int ik])), (mR, .inl (cI, 35, .inl (rowA (levG g))))]) (q0 := 0) (c_X4_levels l D cI cJ cB cS xa m mR mF mT mB mTp mBo mSo mSh mLe mIm mBf tn so be te va wd gd ik g ok (by omega)) mV_X4_levels kM_X4_136 dX4_oneMinute_18 rfl rfl [0, 1] rfl rfl rfl rfl rfl rfl rfl rfl ⟨Nat.le_of_ble_eq_true rfl, Nat.le_of_ble_eq_true rfl, Nat.le_of_ble_eq_true rfl⟩ ?_
      have ok18_5 : Ok (levG g) := levG_ok ok
      refine z_goto (pc := 21) (tgt := 57) dX4_oneMinute_21 (by decide) ?_
      refine z_aload_n (pc := 57) dX4_oneMinute_57 0 rfl ?_
      refine z_get (pc := 58) (q0 := 0) (v := .ref mR) fL_X4_7 dX4_oneMinute_58 rfl rfl ?_
      refine z_iconst (pc := 61) dX4_oneMinute_61 ?_
      refine z_dup2 (pc := 62) dX4_oneMinute_62 rfl rfl ?_
      refine z_iald (pc := 63) (q0 := 1) (v := (iI ((levG g) 4 0))) dX4_oneMinute_63 rfl (by omega) (by decide) (rowA_4 (by decide) (by decide)) ?_
      refine z_iconst (pc := 64) dX4_oneMinute_64 ?_
      refine z_iadd (pc := 65) dX4_oneMinute_65 ?_
      refine z_iast (pc := 66) (q0 := 1) (ws2 := [(m, .inr (4, [.ref mR, .ref mF, .ref mT, .ref mB, .ref mTp, .int (iI tn), .int (iI so), .int (iI be), .int (iI te), .long wd, .int (iI va), .int gd, .ref mBo, .ref mSo, .ref mSh, .ref mLe, .ref mIm, .ref mBf, .int ik])), (mR, .inl (cI, 35, .inl (rowA (up2 (levG g) 4 0 (((levG g) 4 0) + 1)))))]) dX4_oneMinute_66 rfl (by omega) (by decide) (by rw [rowA_up4 (z := 0) (by decide) (by decide)]; try rfl) ?_
      exact z_vret (pc := 67) dX4_oneMinute_67 rfl (by rw [e2])
set_option maxHeartbeats 8000000 in
set_option maxRecDepth 100000 in
theorem c_X4_passes (l : Launch) (D : va_G) (cI cJ cB cS : ClassId) (xa : XA) (m mR mF mT mB mTp mBo mSo mSh mLe mIm mBf : Nat) (tn so be te va : Int) (wd : Int64) (gd ik : Int32) (g : Gd) (k : Int) (ok : Ok g) (hk : 0 ≤ k ∧ k ≤ 400) (hm : g 4 0 + k ≤ 1000000) : Ct l D cI cJ cB cS xa yX4_passes cX4_passes 3 none 4 91 [.ref m, .int (iI k)] [(m, .inr (4, [.ref mR, .ref mF, .ref mT, .ref mB, .ref mTp, .int (iI tn), .int (iI so), .int (iI be), .int (iI te), .long wd, .int (iI va), .int gd, .ref mBo, .ref mSo, .ref mSh, .ref mLe, .ref mIm, .ref mBf, .int ik])), (mR, .inl (cI, 35, .inl (rowA g)))] none [(m, .inr (4, [.ref mR, .ref mF, .ref mT, .ref mB, .ref mTp, .int (iI tn), .int (iI so), .int (iI be), .int (iI te), .long wd, .int (iI va), .int gd, .ref mBo, .ref mSo, .ref mSh, .ref mLe, .ref mIm, .ref mBf, .int ik])), (mR, .inl (cI, 35, .inl (rowA (minsG g (Int.toNat k)))))] := by
  have o0 := ok0 ok
  have o1 := ok1 ok
  have o2 := ok2 ok
  refine CtE.of (own := RX4) (lv := [(0, .ref m), (1, .int (iI k))]) (by decide) rfl rfl (Nat.le_of_ble_eq_true rfl) ?_
  intro xp xe xs xm xb xt xc
  refine z_iconst (pc := 0) dX4_passes_0 ?_
  refine z_istore_n (pc := 1) (lv2 := [(2, .int (iI 0)), (0, .ref m), (1, .int (iI k))]) dX4_passes_1 rfl (by decide) rfl ?_
  have LP2 : ∀ (nn_ : Nat) (i : Int) (gg : Gd), (0 ≤ i) → (i ≤ k) → (gg = minsG g i.toNat) → (k - i).toNat < nn_ → Z xp l xe { frames := 4, cells := 0, slots := 0, locals := 91 } xs xm ([.ref m, .int (iI k)] : List Value).toArray xb xt xc 0 0 (MQ xb (Cq (S := Unit) D [(m, .inr (4, [.ref mR, .ref mF, .ref mT, .ref mB, .ref mTp, .int (iI tn), .int (iI so), .int (iI be), .int (iI te), .long wd, .int (iI va), .int gd, .ref mBo, .ref mSo, .ref mSh, .ref mLe, .ref mIm, .ref mBf, .int ik])), (mR, .inl (cI, 35, .inl (rowA g)))] (fun _ => True) (fun _ => none) (fun _ => [(m, .inr (4, [.ref mR, .ref mF, .ref mT, .ref mB, .ref mTp, .int (iI tn), .int (iI so), .int (iI be), .int (iI te), .long wd, .int (iI va), .int gd, .ref mBo, .ref mSo, .ref mSh, .ref mLe, .ref mIm, .ref mBf, .int ik])), (mR, .inl (cI, 35, .inl (rowA (minsG g (Int.toNat k)))))])) ([.ref m, .int (iI k)] : List Value).toArray xs 0 0 (va_A0 [(m, .inr (4, [.ref mR, .ref mF, .ref mT, .ref mB, .ref mTp, .int (iI tn), .int (iI so), .int (iI be), .int (iI te), .long wd, .int (iI va), .int gd, .ref mBo, .ref mSo, .ref mSh, .ref mLe, .ref mIm, .ref mBf, .int ik])), (mR, .inl (cI, 35, .inl (rowA g)))])) cX4_passes RX4 3 none D cI cJ cB cS xa (va_A0 [(m, .inr (4, [.ref mR, .ref mF, .ref mT, .ref mB, .ref mTp, .int (iI tn), .int (iI so), .int (iI be), .int (iI te), .long wd, .int (iI va), .int gd, .ref mBo, .ref mSo, .ref mSh, .ref mLe, .ref mIm, .ref mBf, .int ik])), (mR, .inl (cI, 35, .inl (rowA g)))]) [(m, .inr (4, [.ref mR, .ref mF, .ref mT, .ref mB, .ref mTp, .int (iI tn), .int (iI so), .int (iI be), .int (iI te), .long wd, .int (iI va), .int gd, .ref mBo, .ref mSo, .ref mSh, .ref mLe, .ref mIm, .ref mBf, .int ik])), (mR, .inl (cI, 35, .inl (rowA gg)))] [(0, .ref m), (1, .int (iI k)), (2, .int (iI i))] 2 [] := by
    intro nn_
    induction nn_ with
    | zero => intro i gg hi0 hi1 hg hms; exact absurd hms (Nat.not_lt_zero _)
    | succ nn_ ih =>
      intro i gg hi0 hi1 hg hms
      have okg : Ok gg := by rw [hg]; exact minsG_ok ok _ (by omega)
      have q0 : gg 4 0 = g 4 0 + i.toNat := by rw [hg]; exact minsG_40 g _
      have ih2 := ih
      clear ih
      refine z_iload_n (pc := 2) dX4_passes_2 2 rfl ?_
      refine z_iload_n (pc := 3) dX4_passes_3 1 rfl ?_
      refine z_icmp_ge (pc := 4) (tgt := 17) dX4_passes_4 (by decide) (by omega) (by omega) (fun h4 => ?_) (fun h4 => ?_)
      · skip
        obtain rfl : i = k := by omega
        exact z_vret (pc := 17) dX4_passes_17 rfl (by rw [hg])
      · skip
        refine z_aload_n (pc := 7) dX4_passes_7 0 rfl ?_
        refine z_callV (pc := 8) (st := []) (st2 := []) (ws2 := [(m, .inr (4, [.ref mR, .ref mF, .ref mT, .ref mB, .ref mTp, .int (iI tn), .int (iI so), .int (iI be), .int (iI te), .long wd, .int (iI va), .int gd, .ref mBo, .ref mSo, .ref mSh, .ref mLe, .ref mIm, .ref mBf, .int ik])), (mR, .inl (cI, 35, .inl (rowA (minG gg))))]) (q0 := 0) (c_X4_oneMinute l D cI cJ cB cS xa m mR mF mT mB mTp mBo mSo mSh mLe mIm mBf tn so be te va wd gd ik gg okg (by omega)) mV_X4_oneMinute kM_X4_143 dX4_passes_8 rfl rfl [0, 1] rfl rfl rfl rfl rfl rfl rfl rfl ⟨Nat.le_of_ble_eq_true rfl, Nat.le_of_ble_eq_true rfl, Nat.le_of_ble_eq_true rfl⟩ ?_
        have ok8_1 : Ok (minG gg) := minG_ok okg (by omega)
        have f8_2 := minG_40 gg
        have f8_3 := minG_41 gg
        have f8_4 := minG_42 gg
        refine z_iinc (pc := 11) (lv2 := [(2, .int (iI (i + 1))), (0, .ref m), (1, .int (iI k))]) dX4_passes_11 2 rfl (by decide) rfl ?_
        refine z_goto (pc := 14) (tgt := 2) dX4_passes_14 (by decide) ?_
        refine z_lv (lv2 := [(0, .ref m), (1, .int (iI k)), (2, .int (iI (i + 1)))]) [1, 2, 0] rfl ?_
        exact ih2 (i + 1) (minG gg) (by omega) (by omega) (by rw [minsG_s _ hi0, ← hg]) (by omega)
  refine z_lv (lv2 := [(0, .ref m), (1, .int (iI k)), (2, .int (iI 0))]) [1, 2, 0] rfl ?_
  exact LP2 _ 0 g (by omega) (by omega) (by rfl) (Nat.lt_succ_self _)
set_option maxHeartbeats 8000000 in
set_option maxRecDepth 100000 in
theorem c_X4_moveAll (l : Launch) (D : va_G) (cI cJ cB cS : ClassId) (xa : XA) (m mR mF mT mB mTp mBo mSo mSh mLe mIm mBf : Nat) (tn so be te va : Int) (wd : Int64) (gd ik : Int32) (r : Nat) (f fs : Nat → Int32)  : Ct l D cI cJ cB cS xa yX4_moveAll cX4_moveAll 4 none 0 0 [.ref m, .int (iI 1), .ref r] [(m, .inr (4, [.ref mR, .ref mF, .ref mT, .ref mB, .ref mTp, .int (iI tn), .int (iI so), .int (iI be), .int (iI te), .long wd, .int (iI va), .int gd, .ref mBo, .ref mSo, .ref mSh, .ref mLe, .ref mIm, .ref mBf, .int ik])), (mR, .inl (cI, 35, .inl f)), (r, .inl (cI, 35, .inl fs))] none [(m, .inr (4, [.ref mR, .ref mF, .ref mT, .ref mB, .ref mTp, .int (iI tn), .int (iI so), .int (iI be), .int (iI te), .long wd, .int (iI va), .int gd, .ref mBo, .ref mSo, .ref mSh, .ref mLe, .ref mIm, .ref mBf, .int ik])), (mR, .inl (cI, 35, .inl f)), (r, .inl (cI, 35, .inl f))] := by
  refine CtE.of (own := RX4) (lv := [(0, .ref m), (1, .int (iI 1)), (2, .ref r)]) (by decide) rfl rfl (Nat.le_of_ble_eq_true rfl) ?_
  intro xp xe xs xm xb xt xc
  refine z_iconst (pc := 0) dX4_moveAll_0 ?_
  refine z_istore_n (pc := 1) (lv2 := [(3, .int (iI 0)), (0, .ref m), (1, .int (iI 1)), (2, .ref r)]) dX4_moveAll_1 rfl (by decide) rfl ?_
  have LP2 : ∀ (nn_ : Nat) (i : Int) (ff : Nat → Int32), (0 ≤ i) → (i ≤ 35) → (∀ j : Nat, (j : Int) < i → ff j = f j) → (35 - i).toNat < nn_ → Z xp l xe { frames := 0, cells := 0, slots := 0, locals := 0 } xs xm ([.ref m, .int (iI 1), .ref r] : List Value).toArray xb xt xc 0 0 (MQ xb (Cq (S := Unit) D [(m, .inr (4, [.ref mR, .ref mF, .ref mT, .ref mB, .ref mTp, .int (iI tn), .int (iI so), .int (iI be), .int (iI te), .long wd, .int (iI va), .int gd, .ref mBo, .ref mSo, .ref mSh, .ref mLe, .ref mIm, .ref mBf, .int ik])), (mR, .inl (cI, 35, .inl f)), (r, .inl (cI, 35, .inl fs))] (fun _ => True) (fun _ => none) (fun _ => [(m, .inr (4, [.ref mR, .ref mF, .ref mT, .ref mB, .ref mTp, .int (iI tn), .int (iI so), .int (iI be), .int (iI te), .long wd, .int (iI va), .int gd, .ref mBo, .ref mSo, .ref mSh, .ref mLe, .ref mIm, .ref mBf, .int ik])), (mR, .inl (cI, 35, .inl f)), (r, .inl (cI, 35, .inl f))])) ([.ref m, .int (iI 1), .ref r] : List Value).toArray xs 0 0 (va_A0 [(m, .inr (4, [.ref mR, .ref mF, .ref mT, .ref mB, .ref mTp, .int (iI tn), .int (iI so), .int (iI be), .int (iI te), .long wd, .int (iI va), .int gd, .ref mBo, .ref mSo, .ref mSh, .ref mLe, .ref mIm, .ref mBf, .int ik])), (mR, .inl (cI, 35, .inl f)), (r, .inl (cI, 35, .inl fs))])) cX4_moveAll RX4 4 none D cI cJ cB cS xa (va_A0 [(m, .inr (4, [.ref mR, .ref mF, .ref mT, .ref mB, .ref mTp, .int (iI tn), .int (iI so), .int (iI be), .int (iI te), .long wd, .int (iI va), .int gd, .ref mBo, .ref mSo, .ref mSh, .ref mLe, .ref mIm, .ref mBf, .int ik])), (mR, .inl (cI, 35, .inl f)), (r, .inl (cI, 35, .inl fs))]) [(m, .inr (4, [.ref mR, .ref mF, .ref mT, .ref mB, .ref mTp, .int (iI tn), .int (iI so), .int (iI be), .int (iI te), .long wd, .int (iI va), .int gd, .ref mBo, .ref mSo, .ref mSh, .ref mLe, .ref mIm, .ref mBf, .int ik])), (mR, .inl (cI, 35, .inl f)), (r, .inl (cI, 35, .inl ff))] [(0, .ref m), (1, .int (iI 1)), (2, .ref r), (3, .int (iI i))] 2 [] := by
    intro nn_
    induction nn_ with
    | zero => intro i ff hi0 hi1 hf hms; exact absurd hms (Nat.not_lt_zero _)
    | succ nn_ ih =>
      intro i ff hi0 hi1 hf hms
      have ih2 := ih
      clear ih
      refine z_iload_n (pc := 2) dX4_moveAll_2 3 rfl ?_
      refine z_bipush (pc := 3) dX4_moveAll_3 (by decide) ?_
      refine z_icmp_ge (pc := 5) (tgt := 39) dX4_moveAll_5 (by decide) (by omega) (by omega) (fun h5 => ?_) (fun h5 => ?_)
      · skip
        refine z_extI (q0 := 2) (ws2 := [(m, .inr (4, [.ref mR, .ref mF, .ref mT, .ref mB, .ref mTp, .int (iI tn), .int (iI so), .int (iI be), .int (iI te), .long wd, .int (iI va), .int gd, .ref mBo, .ref mSo, .ref mSh, .ref mLe, .ref mIm, .ref mBf, .int ik])), (mR, .inl (cI, 35, .inl f)), (r, .inl (cI, 35, .inl f))]) rfl (fun j hj => hf j (by omega)) rfl ?_
        exact z_vret (pc := 39) dX4_moveAll_39 rfl rfl
      · skip
        refine z_iload_n (pc := 8) dX4_moveAll_8 1 rfl ?_
        refine z_if_eq (pc := 9) (tgt := 24) dX4_moveAll_9 (by decide) (by omega) (fun h9 => ?_) (fun h9 => ?_)
        · skip
          exfalso; omega
        · skip
          refine z_aload_n (pc := 12) dX4_moveAll_12 2 rfl ?_
          refine z_iload_n (pc := 13) dX4_moveAll_13 3 rfl ?_
          refine z_aload_n (pc := 14) dX4_moveAll_14 0 rfl ?_
          refine z_get (pc := 15) (q0 := 0) (v := .ref mR) fL_X4_7 dX4_moveAll_15 rfl rfl ?_
          refine z_iload_n (pc := 18) dX4_moveAll_18 3 rfl ?_
          refine z_iald (pc := 19) (q0 := 1) (v := (f (Int.toNat i))) dX4_moveAll_19 rfl (by omega) (by decide) rfl ?_
          refine z_iast (pc := 20) (q0 := 2) (ws2 := [(m, .inr (4, [.ref mR, .ref mF, .ref mT, .ref mB, .ref mTp, .int (iI tn), .int (iI so), .int (iI be), .int (iI te), .long wd, .int (iI va), .int gd, .ref mBo, .ref mSo, .ref mSh, .ref mLe, .ref mIm, .ref mBf, .int ik])), (mR, .inl (cI, 35, .inl f)), (r, .inl (cI, 35, .inl (upd ff (Int.toNat i) (f (Int.toNat i)))))]) dX4_moveAll_20 rfl (by omega) (by decide) rfl ?_
          refine z_goto (pc := 21) (tgt := 33) dX4_moveAll_21 (by decide) ?_
          refine z_iinc (pc := 33) (lv2 := [(3, .int (iI (i + 1))), (0, .ref m), (1, .int (iI 1)), (2, .ref r)]) dX4_moveAll_33 3 rfl (by decide) rfl ?_
          refine z_goto (pc := 36) (tgt := 2) dX4_moveAll_36 (by decide) ?_
          refine z_lv (lv2 := [(0, .ref m), (1, .int (iI 1)), (2, .ref r), (3, .int (iI (i + 1)))]) [1, 2, 3, 0] rfl ?_
          exact ih2 (i + 1) (upd ff (Int.toNat i) (f (Int.toNat i))) (by omega) (by omega) (mv_s hi0 hf) (by omega)
  refine z_lv (lv2 := [(0, .ref m), (1, .int (iI 1)), (2, .ref r), (3, .int (iI 0))]) [1, 2, 3, 0] rfl ?_
  exact LP2 _ 0 fs (by omega) (by omega) (fun j hj => absurd hj (by omega)) (Nat.lt_succ_self _)
set_option maxHeartbeats 8000000 in
set_option maxRecDepth 100000 in
theorem c_X4_moveAll_b (l : Launch) (D : va_G) (cI cJ cB cS : ClassId) (xa : XA) (m mR mF mT mB mTp mBo mSo mSh mLe mIm mBf : Nat) (tn so be te va : Int) (wd : Int64) (gd ik : Int32) (r : Nat) (f fs : Nat → Int32)  : Ct l D cI cJ cB cS xa yX4_moveAll cX4_moveAll 4 none 0 0 [.ref m, .int (iI 0), .ref r] [(m, .inr (4, [.ref mR, .ref mF, .ref mT, .ref mB, .ref mTp, .int (iI tn), .int (iI so), .int (iI be), .int (iI te), .long wd, .int (iI va), .int gd, .ref mBo, .ref mSo, .ref mSh, .ref mLe, .ref mIm, .ref mBf, .int ik])), (mR, .inl (cI, 35, .inl f)), (r, .inl (cI, 35, .inl fs))] none [(m, .inr (4, [.ref mR, .ref mF, .ref mT, .ref mB, .ref mTp, .int (iI tn), .int (iI so), .int (iI be), .int (iI te), .long wd, .int (iI va), .int gd, .ref mBo, .ref mSo, .ref mSh, .ref mLe, .ref mIm, .ref mBf, .int ik])), (mR, .inl (cI, 35, .inl fs)), (r, .inl (cI, 35, .inl fs))] := by
  refine CtE.of (own := RX4) (lv := [(0, .ref m), (1, .int (iI 0)), (2, .ref r)]) (by decide) rfl rfl (Nat.le_of_ble_eq_true rfl) ?_
  intro xp xe xs xm xb xt xc
  refine z_iconst (pc := 0) dX4_moveAll_0 ?_
  refine z_istore_n (pc := 1) (lv2 := [(3, .int (iI 0)), (0, .ref m), (1, .int (iI 0)), (2, .ref r)]) dX4_moveAll_1 rfl (by decide) rfl ?_
  have LP2 : ∀ (nn_ : Nat) (i : Int) (ff : Nat → Int32), (0 ≤ i) → (i ≤ 35) → (∀ j : Nat, (j : Int) < i → ff j = fs j) → (35 - i).toNat < nn_ → Z xp l xe { frames := 0, cells := 0, slots := 0, locals := 0 } xs xm ([.ref m, .int (iI 0), .ref r] : List Value).toArray xb xt xc 0 0 (MQ xb (Cq (S := Unit) D [(m, .inr (4, [.ref mR, .ref mF, .ref mT, .ref mB, .ref mTp, .int (iI tn), .int (iI so), .int (iI be), .int (iI te), .long wd, .int (iI va), .int gd, .ref mBo, .ref mSo, .ref mSh, .ref mLe, .ref mIm, .ref mBf, .int ik])), (mR, .inl (cI, 35, .inl f)), (r, .inl (cI, 35, .inl fs))] (fun _ => True) (fun _ => none) (fun _ => [(m, .inr (4, [.ref mR, .ref mF, .ref mT, .ref mB, .ref mTp, .int (iI tn), .int (iI so), .int (iI be), .int (iI te), .long wd, .int (iI va), .int gd, .ref mBo, .ref mSo, .ref mSh, .ref mLe, .ref mIm, .ref mBf, .int ik])), (mR, .inl (cI, 35, .inl fs)), (r, .inl (cI, 35, .inl fs))])) ([.ref m, .int (iI 0), .ref r] : List Value).toArray xs 0 0 (va_A0 [(m, .inr (4, [.ref mR, .ref mF, .ref mT, .ref mB, .ref mTp, .int (iI tn), .int (iI so), .int (iI be), .int (iI te), .long wd, .int (iI va), .int gd, .ref mBo, .ref mSo, .ref mSh, .ref mLe, .ref mIm, .ref mBf, .int ik])), (mR, .inl (cI, 35, .inl f)), (r, .inl (cI, 35, .inl fs))])) cX4_moveAll RX4 4 none D cI cJ cB cS xa (va_A0 [(m, .inr (4, [.ref mR, .ref mF, .ref mT, .ref mB, .ref mTp, .int (iI tn), .int (iI so), .int (iI be), .int (iI te), .long wd, .int (iI va), .int gd, .ref mBo, .ref mSo, .ref mSh, .ref mLe, .ref mIm, .ref mBf, .int ik])), (mR, .inl (cI, 35, .inl f)), (r, .inl (cI, 35, .inl fs))]) [(m, .inr (4, [.ref mR, .ref mF, .ref mT, .ref mB, .ref mTp, .int (iI tn), .int (iI so), .int (iI be), .int (iI te), .long wd, .int (iI va), .int gd, .ref mBo, .ref mSo, .ref mSh, .ref mLe, .ref mIm, .ref mBf, .int ik])), (mR, .inl (cI, 35, .inl ff)), (r, .inl (cI, 35, .inl fs))] [(0, .ref m), (1, .int (iI 0)), (2, .ref r), (3, .int (iI i))] 2 [] := by
    intro nn_
    induction nn_ with
    | zero => intro i ff hi0 hi1 hf hms; exact absurd hms (Nat.not_lt_zero _)
    | succ nn_ ih =>
      intro i ff hi0 hi1 hf hms
      have ih2 := ih
      clear ih
      refine z_iload_n (pc := 2) dX4_moveAll_2 3 rfl ?_
      refine z_bipush (pc := 3) dX4_moveAll_3 (by decide) ?_
      refine z_icmp_ge (pc := 5) (tgt := 39) dX4_moveAll_5 (by decide) (by omega) (by omega) (fun h5 => ?_) (fun h5 => ?_)
      · skip
        refine z_extI (q0 := 1) (ws2 := [(m, .inr (4, [.ref mR, .ref mF, .ref mT, .ref mB, .ref mTp, .int (iI tn), .int (iI so), .int (iI be), .int (iI te), .long wd, .int (iI va), .int gd, .ref mBo, .ref mSo, .ref mSh, .ref mLe, .ref mIm, .ref mBf, .int ik])), (mR, .inl (cI, 35, .inl fs)), (r, .inl (cI, 35, .inl fs))]) rfl (fun j hj => hf j (by omega)) rfl ?_
        exact z_vret (pc := 39) dX4_moveAll_39 rfl rfl
      · skip
        refine z_iload_n (pc := 8) dX4_moveAll_8 1 rfl ?_
        refine z_if_eq (pc := 9) (tgt := 24) dX4_moveAll_9 (by decide) (by omega) (fun h9 => ?_) (fun h9 => ?_)
        · skip
          refine z_aload_n (pc := 24) dX4_moveAll_24 0 rfl ?_
          refine z_get (pc := 25) (q0 := 0) (v := .ref mR) fL_X4_7 dX4_moveAll_25 rfl rfl ?_
          refine z_iload_n (pc := 28) dX4_moveAll_28 3 rfl ?_
          refine z_aload_n (pc := 29) dX4_moveAll_29 2 rfl ?_
          refine z_iload_n (pc := 30) dX4_moveAll_30 3 rfl ?_
          refine z_iald (pc := 31) (q0 := 2) (v := (fs (Int.toNat i))) dX4_moveAll_31 rfl (by omega) (by decide) rfl ?_
          refine z_iast (pc := 32) (q0 := 1) (ws2 := [(m, .inr (4, [.ref mR, .ref mF, .ref mT, .ref mB, .ref mTp, .int (iI tn), .int (iI so), .int (iI be), .int (iI te), .long wd, .int (iI va), .int gd, .ref mBo, .ref mSo, .ref mSh, .ref mLe, .ref mIm, .ref mBf, .int ik])), (mR, .inl (cI, 35, .inl (upd ff (Int.toNat i) (fs (Int.toNat i))))), (r, .inl (cI, 35, .inl fs))]) dX4_moveAll_32 rfl (by omega) (by decide) rfl ?_
          refine z_iinc (pc := 33) (lv2 := [(3, .int (iI (i + 1))), (0, .ref m), (1, .int (iI 0)), (2, .ref r)]) dX4_moveAll_33 3 rfl (by decide) rfl ?_
          refine z_goto (pc := 36) (tgt := 2) dX4_moveAll_36 (by decide) ?_
          refine z_lv (lv2 := [(0, .ref m), (1, .int (iI 0)), (2, .ref r), (3, .int (iI (i + 1)))]) [1, 2, 3, 0] rfl ?_
          exact ih2 (i + 1) (upd ff (Int.toNat i) (fs (Int.toNat i))) (by omega) (by omega) (mv_s hi0 hf) (by omega)
        · skip
          exfalso; omega
  refine z_lv (lv2 := [(0, .ref m), (1, .int (iI 0)), (2, .ref r), (3, .int (iI 0))]) [1, 2, 3, 0] rfl ?_
  exact LP2 _ 0 f (by omega) (by omega) (fun j hj => absurd hj (by omega)) (Nat.lt_succ_self _)
set_option maxHeartbeats 8000000 in
set_option maxRecDepth 100000 in
theorem c_X4_behind (l : Launch) (D : va_G) (cI cJ cB cS : ClassId) (xa : XA) (m mR mF mT mB mTp mBo mSo mSh mLe mIm mBf : Nat) (tn so be te va : Int) (wd : Int64) (gd ik : Int32) (g : Gd) (g0 : Gd) (n z w c : Int) (ok : Ok g) (hn : 0 ≤ n ∧ n ≤ 400) (hm : g 4 0 + n ≤ 1000000) (hz : z = 3 + 4 * c + w) (hw : 0 ≤ w ∧ w < 4) (hc : 0 ≤ c ∧ c < 8) : Ct l D cI cJ cB cS xa yX4_behind cX4_behind 4 (some .int) 5 113 [.ref m, .int (iI n), .int (iI z)] [(m, .inr (4, [.ref mR, .ref mF, .ref mT, .ref mB, .ref mTp, .int (iI tn), .int (iI so), .int (iI be), .int (iI te), .long wd, .int (iI va), .int gd, .ref mBo, .ref mSo, .ref mSh, .ref mLe, .ref mIm, .ref mBf, .int ik])), (mR, .inl (cI, 35, .inl (rowA g))), (mT, .inl (cI, 35, .inl (rowA g0)))] (some (.int (iI (minsG g (Int.toNat n) w c)))) [(m, .inr (4, [.ref mR, .ref mF, .ref mT, .ref mB, .ref mTp, .int (iI tn), .int (iI so), .int (iI be), .int (iI te), .long wd, .int (iI va), .int gd, .ref mBo, .ref mSo, .ref mSh, .ref mLe, .ref mIm, .ref mBf, .int ik])), (mR, .inl (cI, 35, .inl (rowA g0))), (mT, .inl (cI, 35, .inl (rowA g0)))] := by
  have o0 := ok0 ok
  have o1 := ok1 ok
  have o2 := ok2 ok
  refine CtE.of (own := RX4) (lv := [(0, .ref m), (1, .int (iI n)), (2, .int (iI z))]) (by decide) rfl rfl (Nat.le_of_ble_eq_true rfl) ?_
  intro xp xe xs xm xb xt xc
  refine z_aload_n (pc := 0) dX4_behind_0 0 rfl ?_
  refine z_iload_n (pc := 1) dX4_behind_1 1 rfl ?_
  refine z_callV (pc := 2) (st := []) (st2 := []) (ws2 := [(m, .inr (4, [.ref mR, .ref mF, .ref mT, .ref mB, .ref mTp, .int (iI tn), .int (iI so), .int (iI be), .int (iI te), .long wd, .int (iI va), .int gd, .ref mBo, .ref mSo, .ref mSh, .ref mLe, .ref mIm, .ref mBf, .int ik])), (mR, .inl (cI, 35, .inl (rowA (minsG g (Int.toNat n))))), (mT, .inl (cI, 35, .inl (rowA g0)))]) (q0 := 0) (c_X4_passes l D cI cJ cB cS xa m mR mF mT mB mTp mBo mSo mSh mLe mIm mBf tn so be te va wd gd ik g n ok (by omega) (by omega)) mV_X4_passes kM_X4_148 dX4_behind_2 rfl rfl [0, 1] rfl rfl rfl rfl rfl rfl rfl rfl ⟨Nat.le_of_ble_eq_true rfl, Nat.le_of_ble_eq_true rfl, Nat.le_of_ble_eq_true rfl⟩ ?_
  have ok2_1 : Ok (minsG g (Int.toNat n)) := minsG_ok ok _ (by omega)
  have f2_2 := minsG_40 g (Int.toNat n)
  have f2_3 := minsG_41 g (Int.toNat n)
  have f2_4 := minsG_42 g (Int.toNat n)
  refine z_aload_n (pc := 5) dX4_behind_5 0 rfl ?_
  refine z_get (pc := 6) (q0 := 0) (v := .ref mR) fL_X4_7 dX4_behind_6 rfl rfl ?_
  refine z_iload_n (pc := 9) dX4_behind_9 2 rfl ?_
  refine z_iald (pc := 10) (q0 := 1) (v := (iI ((minsG g (Int.toNat n)) w c))) dX4_behind_10 rfl (by omega) (by decide) (rowA_at (by omega) (by omega) (by omega) (by omega)) ?_
  refine z_istore_n (pc := 11) (lv2 := [(3, .int (iI ((minsG g (Int.toNat n)) w c))), (0, .ref m), (1, .int (iI n)), (2, .int (iI z))]) dX4_behind_11 rfl (by decide) rfl ?_
  refine z_aload_n (pc := 12) dX4_behind_12 1 rfl ?_
  refine z_iconst (pc := 13) dX4_behind_13 ?_
  refine z_aload_n (pc := 14) dX4_behind_14 1 rfl ?_
  refine z_get (pc := 15) (q0 := 0) (v := .ref mT) fL_X4_16 dX4_behind_15 rfl rfl ?_
  refine z_callV (pc := 18) (st := []) (st2 := []) (ws2 := [(m, .inr (4, [.ref mR, .ref mF, .ref mT, .ref mB, .ref mTp, .int (iI tn), .int (iI so), .int (iI be), .int (iI te), .long wd, .int (iI va), .int gd, .ref mBo, .ref mSo, .ref mSh, .ref mLe, .ref mIm, .ref mBf, .int ik])), (mR, .inl (cI, 35, .inl (rowA g0))), (mT, .inl (cI, 35, .inl (rowA g0)))]) (q0 := 0) (c_X4_moveAll_b l D cI cJ cB cS xa m mR mF mT mB mTp mBo mSo mSh mLe mIm mBf tn so be te va wd gd ik mT (rowA (minsG g (Int.toNat n))) (rowA g0) ) mV_X4_moveAll kM_X4_151 dX4_behind_18 rfl rfl [0, 1, 2] rfl rfl rfl rfl rfl rfl rfl rfl ⟨Nat.le_of_ble_eq_true rfl, Nat.le_of_ble_eq_true rfl, Nat.le_of_ble_eq_true rfl⟩ ?_
  refine z_iload_n (pc := 21) dX4_behind_21 0 rfl ?_
  exact z_iret (pc := 22) dX4_behind_22 (congrArg (fun z => some (Value.int (iI z))) (show (minsG g (Int.toNat n) w c) = (minsG g (Int.toNat n)) w c from by omega)) rfl
set_option maxHeartbeats 8000000 in
set_option maxRecDepth 100000 in
theorem c_X4_heightAt (l : Launch) (D : va_G) (cI cJ cB cS : ClassId) (xa : XA) (c : Int)  : Ct l D cI cJ cB cS xa yX4_heightAt cX4_heightAt 1 (some .int) 0 0 [.int (iI c)] [] (some (.int (iI (3 + 4 * c + 1)))) [] := by
  refine CtE.of (own := RX4) (lv := [(0, .int (iI c))]) (by decide) rfl rfl (Nat.le_of_ble_eq_true rfl) ?_
  intro xp xe xs xm xb xt xc
  refine z_iconst (pc := 0) dX4_heightAt_0 ?_
  refine z_iconst (pc := 1) dX4_heightAt_1 ?_
  refine z_iload_n (pc := 2) dX4_heightAt_2 0 rfl ?_
  refine z_imul (pc := 3) dX4_heightAt_3 ?_
  refine z_iadd (pc := 4) dX4_heightAt_4 ?_
  refine z_iconst (pc := 5) dX4_heightAt_5 ?_
  refine z_iadd (pc := 6) dX4_heightAt_6 ?_
  exact z_iret (pc := 7) dX4_heightAt_7 (congrArg (fun z => some (Value.int (iI z))) (show (3 + 4 * c + 1) = (3 + (4 * c)) + 1 from by omega)) rfl
set_option maxHeartbeats 8000000 in
set_option maxRecDepth 100000 in
theorem c_X4_isPart (l : Launch) (D : va_G) (cI cJ cB cS : ClassId) (xa : XA) (w v : Int) (hw : inr w) (hv : inr v) : Ct l D cI cJ cB cS xa yX4_isPart cX4_isPart 2 (some .boolean) 1 22 [.int (iI w), .int (iI v)] [] (some (.int (bI ((w = 1 ∧ 0 ≤ v ∧ v ≤ 200) ∨ (w = 2 ∧ 0 ≤ v ∧ v ≤ 99) ∨ (w = 3 ∧ -9999 ≤ v ∧ v ≤ 9999))))) [] := by
  refine CtE.of (own := RX4) (lv := [(0, .int (iI w)), (1, .int (iI v))]) (by decide) rfl rfl (Nat.le_of_ble_eq_true rfl) ?_
  intro xp xe xs xm xb xt xc
  refine z_iload_n (pc := 0) dX4_isPart_0 0 rfl ?_
  by_cases h1_0 : w = 1
  · skip
    refine z_lookup (pc := 1) (off := 27) (tgt := 28) dX4_isPart_1 (by decide) (by omega) (by rw [h1_0]; try rfl) (by decide) ?_
    refine z_iload_n (pc := 28) dX4_isPart_28 1 rfl ?_
    refine z_iconst (pc := 29) dX4_isPart_29 ?_
    refine z_sipush (pc := 30) dX4_isPart_30 (by decide) ?_
    refine z_callS (pc := 33) (st := []) (st2 := [.int (bI (0 ≤ v ∧ v ≤ 200))]) (ws2 := []) (c_X4_in l D cI cJ cB cS xa v 0 200 (by omega) (by omega) (by omega)) mS_X4_in kM_X4_45 dX4_isPart_33 [] rfl rfl rfl rfl rfl rfl rfl rfl ⟨Nat.le_of_ble_eq_true rfl, Nat.le_of_ble_eq_true rfl, Nat.le_of_ble_eq_true rfl⟩ ?_
    exact z_zret (pc := 36) (bI_nar _) dX4_isPart_36 (congrArg (fun z => some (Value.int z)) (bI_c (by omega))) rfl
  · skip
    by_cases h1_1 : w = 2
    · skip
      refine z_lookup (pc := 1) (off := 36) (tgt := 37) dX4_isPart_1 (by decide) (by omega) (by rw [h1_1]; try rfl) (by decide) ?_
      refine z_iload_n (pc := 37) dX4_isPart_37 1 rfl ?_
      refine z_iconst (pc := 38) dX4_isPart_38 ?_
      refine z_bipush (pc := 39) dX4_isPart_39 (by decide) ?_
      refine z_callS (pc := 41) (st := []) (st2 := [.int (bI (0 ≤ v ∧ v ≤ 99))]) (ws2 := []) (c_X4_in l D cI cJ cB cS xa v 0 99 (by omega) (by omega) (by omega)) mS_X4_in kM_X4_45 dX4_isPart_41 [] rfl rfl rfl rfl rfl rfl rfl rfl ⟨Nat.le_of_ble_eq_true rfl, Nat.le_of_ble_eq_true rfl, Nat.le_of_ble_eq_true rfl⟩ ?_
      exact z_zret (pc := 44) (bI_nar _) dX4_isPart_44 (congrArg (fun z => some (Value.int z)) (bI_c (by omega))) rfl
    · skip
      refine z_lookup (pc := 1) (off := 44) (tgt := 45) dX4_isPart_1 (by decide) (by omega) (by simp [Op.lookupswitch.offset, Ne.symm h1_0, h1_0, Ne.symm h1_1, h1_1]) (by decide) ?_
      refine z_iload_n (pc := 45) dX4_isPart_45 0 rfl ?_
      refine z_iconst (pc := 46) dX4_isPart_46 ?_
      refine z_icmp_ne (pc := 47) (tgt := 67) dX4_isPart_47 (by decide) (by omega) (by omega) (fun h47 => ?_) (fun h47 => ?_)
      · skip
        refine z_iconst (pc := 67) dX4_isPart_67 ?_
        exact z_zret (pc := 68) (by decide) dX4_isPart_68 (congrArg (fun z => some (Value.int z)) (bI_f (by omega))) rfl
      · skip
        refine z_iload_n (pc := 50) dX4_isPart_50 1 rfl ?_
        refine z_sipush (pc := 51) dX4_isPart_51 (by decide) ?_
        refine z_sipush (pc := 54) dX4_isPart_54 (by decide) ?_
        refine z_callS (pc := 57) (st := []) (st2 := [.int (bI ((-9999) ≤ v ∧ v ≤ 9999))]) (ws2 := []) (c_X4_in l D cI cJ cB cS xa v (-9999) 9999 (by omega) (by omega) (by omega)) mS_X4_in kM_X4_45 dX4_isPart_57 [] rfl rfl rfl rfl rfl rfl rfl rfl ⟨Nat.le_of_ble_eq_true rfl, Nat.le_of_ble_eq_true rfl, Nat.le_of_ble_eq_true rfl⟩ ?_
        refine z_ifb_eq (pc := 60) (tgt := 67) dX4_isPart_60 (by decide) (fun h60 => ?_) (fun h60 => ?_)
        · skip
          refine z_iconst (pc := 67) dX4_isPart_67 ?_
          exact z_zret (pc := 68) (by decide) dX4_isPart_68 (congrArg (fun z => some (Value.int z)) (bI_f (by omega))) rfl
        · skip
          refine z_iconst (pc := 63) dX4_isPart_63 ?_
          refine z_goto (pc := 64) (tgt := 68) dX4_isPart_64 (by decide) ?_
          exact z_zret (pc := 68) (by decide) dX4_isPart_68 (congrArg (fun z => some (Value.int z)) (bI_t (by omega))) rfl
