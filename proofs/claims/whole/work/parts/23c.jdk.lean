set_option maxHeartbeats 8000000 in
set_option maxRecDepth 100000 in
theorem c_J0_coder_7d493 (l : Launch) (D : va_G) (cI cJ cB cS : ClassId) (xa : XA) (i : Nat) (hi : i < 10) : Ct l D cI cJ cB cS xa yJ0_coder_7d493 cJ0_coder_7d493 1 (some .byte) 0 0 [.ref (xa.2.1 i)] [] (some (.int (iI 0))) [] := by
  refine CtE.of (own := RJ0) (lv := [(0, .ref (xa.2.1 i))]) (by decide) rfl rfl (Nat.le_of_ble_eq_true rfl) ?_
  intro xp xe xs xm xb xt xc
  refine z_gCS (pc := 0) kF_J0_38 dJ0_coder_7d493_0 ?_
  refine z_if_eq (pc := 3) (tgt := 13) dJ0_coder_7d493_3 (by decide) (by omega) (fun h3 => ?_) (fun h3 => ?_)
  · skip
    exfalso; omega
  · skip
    refine z_aload_n (pc := 6) dJ0_coder_7d493_6 0 rfl ?_
    refine z_scod (pc := 7) hi kF_J0_15 dJ0_coder_7d493_7 ?_
    refine z_goto (pc := 10) (tgt := 14) dJ0_coder_7d493_10 (by decide) ?_
    exact z_zret (pc := 14) (by decide) dJ0_coder_7d493_14 rfl rfl
set_option maxHeartbeats 8000000 in
set_option maxRecDepth 100000 in
theorem c_J0_isLatin1_aae02 (l : Launch) (D : va_G) (cI cJ cB cS : ClassId) (xa : XA) (i : Nat) (hi : i < 10) : Ct l D cI cJ cB cS xa yJ0_isLatin1_aae02 cJ0_isLatin1_aae02 1 (some .boolean) 0 0 [.ref (xa.2.1 i)] [] (some (.int (iI 1))) [] := by
  refine CtE.of (own := RJ0) (lv := [(0, .ref (xa.2.1 i))]) (by decide) rfl rfl (Nat.le_of_ble_eq_true rfl) ?_
  intro xp xe xs xm xb xt xc
  refine z_gCS (pc := 0) kF_J0_38 dJ0_isLatin1_aae02_0 ?_
  refine z_if_eq (pc := 3) (tgt := 17) dJ0_isLatin1_aae02_3 (by decide) (by omega) (fun h3 => ?_) (fun h3 => ?_)
  · skip
    exfalso; omega
  · skip
    refine z_aload_n (pc := 6) dJ0_isLatin1_aae02_6 0 rfl ?_
    refine z_scod (pc := 7) hi kF_J0_15 dJ0_isLatin1_aae02_7 ?_
    refine z_if_ne (pc := 10) (tgt := 17) dJ0_isLatin1_aae02_10 (by decide) (by omega) (fun h10 => ?_) (fun h10 => ?_)
    · skip
      exfalso; omega
    · skip
      refine z_iconst (pc := 13) dJ0_isLatin1_aae02_13 ?_
      refine z_goto (pc := 14) (tgt := 18) dJ0_isLatin1_aae02_14 (by decide) ?_
      exact z_zret (pc := 18) (by decide) dJ0_isLatin1_aae02_18 rfl rfl
set_option maxHeartbeats 8000000 in
set_option maxRecDepth 100000 in
theorem c_J0_length_8abf5 (l : Launch) (D : va_G) (cI cJ cB cS : ClassId) (xa : XA) (i : Nat) (hi : i < 10) : Ct l D cI cJ cB cS xa yJ0_length_8abf5 cJ0_length_8abf5 1 (some .int) 1 20 [.ref (xa.2.1 i)] [] (some (.int (iI (lW i)))) [] := by
  refine CtE.of (own := RJ0) (lv := [(0, .ref (xa.2.1 i))]) (by decide) rfl rfl (Nat.le_of_ble_eq_true rfl) ?_
  intro xp xe xs xm xb xt xc
  refine z_aload_n (pc := 0) dJ0_length_8abf5_0 0 rfl ?_
  refine z_sval (pc := 1) hi kF_J0_9 dJ0_length_8abf5_1 ?_
  refine z_slen (pc := 4) hi dJ0_length_8abf5_4 ?_
  refine z_aload_n (pc := 5) dJ0_length_8abf5_5 0 rfl ?_
  refine z_callVS (pc := 6) (st := [.int (iI (lW i))]) (st2 := [.int (iI 0), .int (iI (lW i))]) (c_J0_coder_7d493 l D cI cJ cB cS xa i (by first | assumption | decide)) mV_J0_coder_7d493 kM_J0_335 dJ0_length_8abf5_6 hi rfl rfl rfl rfl ⟨Nat.le_of_ble_eq_true rfl, Nat.le_of_ble_eq_true rfl, Nat.le_of_ble_eq_true rfl⟩ ?_
  refine z_ishr (pc := 9) dJ0_length_8abf5_9 ?_
  exact z_iret (pc := 10) dJ0_length_8abf5_10 (by rw [lW_shN i hi]) rfl
set_option maxHeartbeats 8000000 in
set_option maxRecDepth 100000 in
theorem c_J3_checkIndex_8e157 (l : Launch) (D : va_G) (cI cJ cB cS : ClassId) (xa : XA) (z n : Int) (vf : Value) (hz : 0 ≤ z ∧ z < n) (hn : n ≤ 100) (hvf : vf.category = 1) : Ct l D cI cJ cB cS xa yJ3_checkIndex_8e157 cJ3_checkIndex_8e157 3 (some .int) 0 0 [.int (iI z), .int (iI n), vf] [] (some (.int (iI z))) [] := by
  refine CtE.of (own := RJ3) (lv := [(0, .int (iI z)), (1, .int (iI n)), (2, vf)]) (by decide) rfl rfl (by cases vf <;> first | exact Nat.le_of_ble_eq_true rfl | exact absurd (show (2 : Nat) = 1 from hvf) (by decide)) ?_
  intro xp xe xs xm xb xt xc
  refine z_iload_n (pc := 0) dJ3_checkIndex_8e157_0 0 rfl ?_
  refine z_if_lt (pc := 1) (tgt := 9) dJ3_checkIndex_8e157_1 (by decide) (by omega) (fun h1 => ?_) (fun h1 => ?_)
  · skip
    exfalso; omega
  · skip
    refine z_iload_n (pc := 4) dJ3_checkIndex_8e157_4 0 rfl ?_
    refine z_iload_n (pc := 5) dJ3_checkIndex_8e157_5 1 rfl ?_
    refine z_icmp_lt (pc := 6) (tgt := 16) dJ3_checkIndex_8e157_6 (by decide) (by omega) (by omega) (fun h6 => ?_) (fun h6 => ?_)
    · skip
      refine z_iload_n (pc := 16) dJ3_checkIndex_8e157_16 0 rfl ?_
      exact z_iret (pc := 17) dJ3_checkIndex_8e157_17 rfl rfl
    · skip
      exfalso; omega
set_option maxHeartbeats 8000000 in
set_option maxRecDepth 100000 in
theorem c_J0_checkIndex_df160 (l : Launch) (D : va_G) (cI cJ cB cS : ClassId) (xa : XA) (z n : Int) (hz : 0 ≤ z ∧ z < n) (hn : n ≤ 100) : Ct l D cI cJ cB cS xa yJ0_checkIndex_df160 cJ0_checkIndex_df160 2 none 1 22 [.int (iI z), .int (iI n)] [] none [] := by
  refine CtE.of (own := RJ0) (lv := [(0, .int (iI z)), (1, .int (iI n))]) (by decide) rfl rfl (Nat.le_of_ble_eq_true rfl) ?_
  intro xp xe xs xm xb xt xc
  refine z_iload_n (pc := 0) dJ0_checkIndex_df160_0 0 rfl ?_
  refine z_iload_n (pc := 1) dJ0_checkIndex_df160_1 1 rfl ?_
  refine z_gFM (pc := 2) kF_J0_1053 dJ0_checkIndex_df160_2 (fun vf hvf => ?_)
  refine z_callS (pc := 5) (st := []) (st2 := [.int (iI z)]) (ws2 := []) (c_J3_checkIndex_8e157 l D cI cJ cB cS xa z n vf (by omega) (by omega) (by assumption)) mS_J3_checkIndex_8e157 kM_J0_1059 dJ0_checkIndex_df160_5 [] rfl rfl rfl rfl rfl rfl rfl rfl ⟨Nat.le_of_ble_eq_true rfl, Nat.le_of_ble_eq_true rfl, Nat.le_of_ble_eq_true rfl⟩ ?_
  refine z_pop (pc := 8) dJ0_checkIndex_df160_8 rfl ?_
  exact z_vret (pc := 9) dJ0_checkIndex_df160_9 rfl rfl
set_option maxHeartbeats 8000000 in
set_option maxRecDepth 100000 in
theorem c_J1_charAt_3b067 (l : Launch) (D : va_G) (cI cJ cB cS : ClassId) (xa : XA) (z : Int) (i : Nat) (hi : i < 10) (hz : 0 ≤ z ∧ z < lW i) : Ct l D cI cJ cB cS xa yJ1_charAt_3b067 cJ1_charAt_3b067 2 (some .char) 2 43 [.ref (xa.2.2 i), .int (iI z)] [] (some (.int (iI (yW i z)))) [] := by
  have hlw := lW_rng hi
  refine CtE.of (own := RJ1) (lv := [(0, .ref (xa.2.2 i)), (1, .int (iI z))]) (by decide) rfl rfl (Nat.le_of_ble_eq_true rfl) ?_
  intro xp xe xs xm xb xt xc
  refine z_iload_n (pc := 0) dJ1_charAt_3b067_0 1 rfl ?_
  refine z_aload_n (pc := 1) dJ1_charAt_3b067_1 0 rfl ?_
  refine z_slen (pc := 2) hi dJ1_charAt_3b067_2 ?_
  refine z_callS (pc := 3) (st := []) (st2 := []) (ws2 := []) (c_J0_checkIndex_df160 l D cI cJ cB cS xa z (lW i) (by omega) (by omega)) mS_J0_checkIndex_df160 kM_J1_9 dJ1_charAt_3b067_3 [] rfl rfl rfl rfl rfl rfl rfl rfl ⟨Nat.le_of_ble_eq_true rfl, Nat.le_of_ble_eq_true rfl, Nat.le_of_ble_eq_true rfl⟩ ?_
  refine z_aload_n (pc := 6) dJ1_charAt_3b067_6 0 rfl ?_
  refine z_iload_n (pc := 7) dJ1_charAt_3b067_7 1 rfl ?_
  refine z_sald (pc := 8) hi dJ1_charAt_3b067_8 (by omega) ?_
  refine z_sipush (pc := 9) dJ1_charAt_3b067_9 (by decide) ?_
  refine z_iand (pc := 12) dJ1_charAt_3b067_12 ?_
  refine z_chr (pc := 13) (yW_isL hi hz) dJ1_charAt_3b067_13 ?_
  exact z_zret (pc := 14) (ch_nar (yW_isL hi hz)) dJ1_charAt_3b067_14 rfl rfl
set_option maxHeartbeats 8000000 in
set_option maxRecDepth 100000 in
theorem c_J0_charAt_5068e (l : Launch) (D : va_G) (cI cJ cB cS : ClassId) (xa : XA) (z : Int) (i : Nat) (hi : i < 10) (hz : 0 ≤ z ∧ z < lW i) : Ct l D cI cJ cB cS xa yJ0_charAt_5068e cJ0_charAt_5068e 2 (some .char) 3 64 [.ref (xa.2.1 i), .int (iI z)] [] (some (.int (iI (yW i z)))) [] := by
  refine CtE.of (own := RJ0) (lv := [(0, .ref (xa.2.1 i)), (1, .int (iI z))]) (by decide) rfl rfl (Nat.le_of_ble_eq_true rfl) ?_
  intro xp xe xs xm xb xt xc
  refine z_aload_n (pc := 0) dJ0_charAt_5068e_0 0 rfl ?_
  refine z_callVS (pc := 1) (st := []) (st2 := [.int (iI 1)]) (c_J0_isLatin1_aae02 l D cI cJ cB cS xa i (by first | assumption | decide)) mV_J0_isLatin1_aae02 kM_J0_492 dJ0_charAt_5068e_1 hi rfl rfl rfl rfl ⟨Nat.le_of_ble_eq_true rfl, Nat.le_of_ble_eq_true rfl, Nat.le_of_ble_eq_true rfl⟩ ?_
  refine z_if_eq (pc := 4) (tgt := 16) dJ0_charAt_5068e_4 (by decide) (by omega) (fun h4 => ?_) (fun h4 => ?_)
  · skip
    exfalso; omega
  · skip
    refine z_aload_n (pc := 7) dJ0_charAt_5068e_7 0 rfl ?_
    refine z_sval (pc := 8) hi kF_J0_9 dJ0_charAt_5068e_8 ?_
    refine z_iload_n (pc := 11) dJ0_charAt_5068e_11 1 rfl ?_
    refine z_callS (pc := 12) (st := []) (st2 := [.int (iI (yW i z))]) (ws2 := []) (c_J1_charAt_3b067 l D cI cJ cB cS xa z i (by first | assumption | decide) (by omega)) mS_J1_charAt_3b067 kM_J0_495 dJ0_charAt_5068e_12 [] rfl rfl rfl rfl rfl rfl rfl rfl ⟨Nat.le_of_ble_eq_true rfl, Nat.le_of_ble_eq_true rfl, Nat.le_of_ble_eq_true rfl⟩ ?_
    exact z_zret (pc := 15) (ch_nar (yW_isL hi hz)) dJ0_charAt_5068e_15 rfl rfl
