set_option maxHeartbeats 8000000 in
set_option maxRecDepth 100000 in
theorem c_X3_found (l : Launch) (D : va_G) (cI cJ cB cS : ClassId) (xa : XA) (x h t k0 tp sh fi : Nat) (ik : Int32) (fd : FF) (k : Int) (hk : 0 ≤ k ∧ k < 7) : Ct l D cI cJ cB cS xa yX3_found cX3_found 2 (some .int) 0 0 [.ref x, .int (iI k)] [(x, .inr (3, [.ref h, .ref t, .ref k0, .int ik, .ref tp, .ref sh, .ref fi])), (fi, .inl (cI, 7, .inl (ar fd)))] (some (.int (iI (-1000000001 - k)))) [(x, .inr (3, [.ref h, .ref t, .ref k0, .int ik, .ref tp, .ref sh, .ref fi])), (fi, .inl (cI, 7, .inl (ar (fnd fd k))))] := by
  refine CtE.of (own := RX3) (lv := [(0, .ref x), (1, .int (iI k))]) (by decide) rfl rfl (Nat.le_of_ble_eq_true rfl) ?_
  intro xp xe xs xm xb xt xc
  refine z_aload_n (pc := 0) dX3_found_0 0 rfl ?_
  refine z_get (pc := 1) (q0 := 0) (v := .ref fi) fL_X3_40 dX3_found_1 rfl rfl ?_
  refine z_iload_n (pc := 4) dX3_found_4 1 rfl ?_
  refine z_dup2 (pc := 5) dX3_found_5 rfl rfl ?_
  refine z_iald (pc := 6) (q0 := 1) (v := (iI (fd k))) dX3_found_6 rfl (by omega) (by decide) (ar_at (by omega)) ?_
  refine z_iconst (pc := 7) dX3_found_7 ?_
  refine z_iadd (pc := 8) dX3_found_8 ?_
  refine z_iast (pc := 9) (q0 := 1) (ws2 := [(x, .inr (3, [.ref h, .ref t, .ref k0, .int ik, .ref tp, .ref sh, .ref fi])), (fi, .inl (cI, 7, .inl (ar (up1 fd k ((fd k) + 1)))))]) dX3_found_9 rfl (by omega) (by decide) (by rw [ar_up (by omega)]; rfl) ?_
  refine z_ldc (pc := 10) (n := -1000000001) kC_X3_230 dX3_found_10 (by decide) ?_
  refine z_iload_n (pc := 12) dX3_found_12 1 rfl ?_
  refine z_isub (pc := 13) dX3_found_13 ?_
  exact z_iret (pc := 14) dX3_found_14 (congrArg (fun z => some (Value.int (iI z))) (show (-1000000001 - k) = (-1000000001) - k from by omega)) rfl
set_option maxHeartbeats 8000000 in
set_option maxRecDepth 100000 in
theorem c_X3_within (l : Launch) (D : va_G) (cI cJ cB cS : ClassId) (xa : XA) (v a b : Int) (hv : inr v) (ha : inr a) (hb : inr b) : Ct l D cI cJ cB cS xa yX3_within cX3_within 3 (some .boolean) 0 0 [.int (iI v), .int (iI a), .int (iI b)] [] (some (.int (bI (a ≤ v ∧ v ≤ b)))) [] := by
  refine CtE.of (own := RX3) (lv := [(0, .int (iI v)), (1, .int (iI a)), (2, .int (iI b))]) (by decide) rfl rfl (Nat.le_of_ble_eq_true rfl) ?_
  intro xp xe xs xm xb xt xc
  refine z_iload_n (pc := 0) dX3_within_0 0 rfl ?_
  refine z_iload_n (pc := 1) dX3_within_1 1 rfl ?_
  refine z_icmp_lt (pc := 2) (tgt := 14) dX3_within_2 (by decide) (by omega) (by omega) (fun h2 => ?_) (fun h2 => ?_)
  · skip
    refine z_iconst (pc := 14) dX3_within_14 ?_
    exact z_zret (pc := 15) (by decide) dX3_within_15 (congrArg (fun z => some (Value.int z)) (bI_f (by omega))) rfl
  · skip
    refine z_iload_n (pc := 5) dX3_within_5 0 rfl ?_
    refine z_iload_n (pc := 6) dX3_within_6 2 rfl ?_
    refine z_icmp_gt (pc := 7) (tgt := 14) dX3_within_7 (by decide) (by omega) (by omega) (fun h7 => ?_) (fun h7 => ?_)
    · skip
      refine z_iconst (pc := 14) dX3_within_14 ?_
      exact z_zret (pc := 15) (by decide) dX3_within_15 (congrArg (fun z => some (Value.int z)) (bI_f (by omega))) rfl
    · skip
      refine z_iconst (pc := 10) dX3_within_10 ?_
      refine z_goto (pc := 11) (tgt := 15) dX3_within_11 (by decide) ?_
      exact z_zret (pc := 15) (by decide) dX3_within_15 (congrArg (fun z => some (Value.int z)) (bI_t (by omega))) rfl
set_option maxHeartbeats 8000000 in
set_option maxRecDepth 100000 in
theorem c_X3_asNumber (l : Launch) (D : va_G) (cI cJ cB cS : ClassId) (xa : XA) (b : Int32) (hb : b = iI 0 ∨ b = iI 1) : Ct l D cI cJ cB cS xa yX3_asNumber cX3_asNumber 1 (some .int) 0 0 [.int b] [] (some (.int b)) [] := by
  refine CtE.of (own := RX3) (lv := [(0, .int b)]) (by decide) rfl rfl (Nat.le_of_ble_eq_true rfl) ?_
  intro xp xe xs xm xb xt xc
  refine z_iload_n (pc := 0) dX3_asNumber_0 0 rfl ?_
  refine z_ifr_eq (pc := 1) (tgt := 8) dX3_asNumber_1 (by decide) (fun h1 => ?_) (fun h1 => ?_)
  · skip
    refine z_iconst (pc := 8) dX3_asNumber_8 ?_
    exact z_iret (pc := 9) dX3_asNumber_9 (by rw [h1, iI_0]) rfl
  · skip
    refine z_iconst (pc := 4) dX3_asNumber_4 ?_
    refine z_goto (pc := 5) (tgt := 9) dX3_asNumber_5 (by decide) ?_
    exact z_iret (pc := 9) dX3_asNumber_9 (hb.elim (fun q => absurd (q.trans iI_0) h1) (fun q => by rw [q])) rfl
set_option maxHeartbeats 8000000 in
set_option maxRecDepth 100000 in
theorem c_X3_isKind (l : Launch) (D : va_G) (cI cJ cB cS : ClassId) (xa : XA) (k : Int) (hk : inr k) : Ct l D cI cJ cB cS xa yX3_isKind cX3_isKind 1 (some .boolean) 1 22 [.int (iI k)] [] (some (.int (bI (0 ≤ k ∧ k ≤ 5)))) [] := by
  refine CtE.of (own := RX3) (lv := [(0, .int (iI k))]) (by decide) rfl rfl (Nat.le_of_ble_eq_true rfl) ?_
  intro xp xe xs xm xb xt xc
  refine z_iload_n (pc := 0) dX3_isKind_0 0 rfl ?_
  refine z_iconst (pc := 1) dX3_isKind_1 ?_
  refine z_iconst (pc := 2) dX3_isKind_2 ?_
  refine z_callS (pc := 3) (st := []) (st2 := [.int (bI (0 ≤ k ∧ k ≤ 5))]) (ws2 := []) (c_X3_within l D cI cJ cB cS xa k 0 5 (by omega) (by omega) (by omega)) mS_X3_within kM_X3_44 dX3_isKind_3 [] rfl rfl rfl rfl rfl rfl rfl rfl ⟨Nat.le_of_ble_eq_true rfl, Nat.le_of_ble_eq_true rfl, Nat.le_of_ble_eq_true rfl⟩ ?_
  exact z_zret (pc := 6) (bI_nar _) dX3_isKind_6 rfl rfl
set_option maxHeartbeats 8000000 in
set_option maxRecDepth 100000 in
theorem c_X3_isSheet (l : Launch) (D : va_G) (cI cJ cB cS : ClassId) (xa : XA) (k : Int) (hk : inr k) : Ct l D cI cJ cB cS xa yX3_isSheet cX3_isSheet 1 (some .boolean) 1 22 [.int (iI k)] [] (some (.int (bI (0 ≤ k ∧ k ≤ 3)))) [] := by
  refine CtE.of (own := RX3) (lv := [(0, .int (iI k))]) (by decide) rfl rfl (Nat.le_of_ble_eq_true rfl) ?_
  intro xp xe xs xm xb xt xc
  refine z_iload_n (pc := 0) dX3_isSheet_0 0 rfl ?_
  refine z_iconst (pc := 1) dX3_isSheet_1 ?_
  refine z_iconst (pc := 2) dX3_isSheet_2 ?_
  refine z_callS (pc := 3) (st := []) (st2 := [.int (bI (0 ≤ k ∧ k ≤ 3))]) (ws2 := []) (c_X3_within l D cI cJ cB cS xa k 0 3 (by omega) (by omega) (by omega)) mS_X3_within kM_X3_44 dX3_isSheet_3 [] rfl rfl rfl rfl rfl rfl rfl rfl ⟨Nat.le_of_ble_eq_true rfl, Nat.le_of_ble_eq_true rfl, Nat.le_of_ble_eq_true rfl⟩ ?_
  exact z_zret (pc := 6) (bI_nar _) dX3_isSheet_6 rfl rfl
set_option maxHeartbeats 8000000 in
set_option maxRecDepth 100000 in
theorem c_X3_isChild (l : Launch) (D : va_G) (cI cJ cB cS : ClassId) (xa : XA) (x h hK hH hM hO t k0 tp sh fi : Nat) (ik : Int32) (g : Gd) (c : Int) (ok : Ok g) (hc : inr c) : Ct l D cI cJ cB cS xa yX3_isChild cX3_isChild 2 (some .boolean) 1 22 [.ref x, .int (iI c)] [(x, .inr (3, [.ref h, .ref t, .ref k0, .int ik, .ref tp, .ref sh, .ref fi])), (h, oG g hK hH hM hO)] (some (.int (bI (0 ≤ c ∧ c < g 4 2)))) [(x, .inr (3, [.ref h, .ref t, .ref k0, .int ik, .ref tp, .ref sh, .ref fi])), (h, oG g hK hH hM hO)] := by
  have o0 := ok0 ok
  have o1 := ok1 ok
  have o2 := ok2 ok
  refine CtE.of (own := RX3) (lv := [(0, .ref x), (1, .int (iI c))]) (by decide) rfl rfl (Nat.le_of_ble_eq_true rfl) ?_
  intro xp xe xs xm xb xt xc
  refine z_iload_n (pc := 0) dX3_isChild_0 1 rfl ?_
  refine z_iconst (pc := 1) dX3_isChild_1 ?_
  refine z_aload_n (pc := 2) dX3_isChild_2 0 rfl ?_
  refine z_get (pc := 3) (q0 := 0) (v := .ref h) fL_X3_10 dX3_isChild_3 rfl rfl ?_
  refine z_get (pc := 6) (q0 := 1) (v := .int (iI (g 4 2))) fL_X3_159 dX3_isChild_6 rfl rfl ?_
  refine z_iconst (pc := 9) dX3_isChild_9 ?_
  refine z_isub (pc := 10) dX3_isChild_10 ?_
  refine z_callS (pc := 11) (st := []) (st2 := [.int (bI (0 ≤ c ∧ c ≤ ((g 4 2) - 1)))]) (ws2 := [(x, .inr (3, [.ref h, .ref t, .ref k0, .int ik, .ref tp, .ref sh, .ref fi])), (h, oG g hK hH hM hO)]) (c_X3_within l D cI cJ cB cS xa c 0 ((g 4 2) - 1) (by omega) (by omega) (by omega)) mS_X3_within kM_X3_44 dX3_isChild_11 [] rfl rfl rfl rfl rfl rfl rfl rfl ⟨Nat.le_of_ble_eq_true rfl, Nat.le_of_ble_eq_true rfl, Nat.le_of_ble_eq_true rfl⟩ ?_
  exact z_zret (pc := 14) (bI_nar _) dX3_isChild_14 (congrArg (fun z => some (Value.int z)) (bI_c (by omega))) rfl
set_option maxHeartbeats 8000000 in
set_option maxRecDepth 100000 in
theorem c_X3_areTwo (l : Launch) (D : va_G) (cI cJ cB cS : ClassId) (xa : XA) (x h hK hH hM hO t k0 tp sh fi : Nat) (ik : Int32) (g : Gd) (a b : Int) (ok : Ok g) (ha : inr a) (hb : inr b) : Ct l D cI cJ cB cS xa yX3_areTwo cX3_areTwo 3 (some .boolean) 2 43 [.ref x, .int (iI a), .int (iI b)] [(x, .inr (3, [.ref h, .ref t, .ref k0, .int ik, .ref tp, .ref sh, .ref fi])), (h, oG g hK hH hM hO)] (some (.int (bI ((0 ≤ a ∧ a < g 4 2) ∧ (0 ≤ b ∧ b < g 4 2) ∧ a ≠ b)))) [(x, .inr (3, [.ref h, .ref t, .ref k0, .int ik, .ref tp, .ref sh, .ref fi])), (h, oG g hK hH hM hO)] := by
  have o0 := ok0 ok
  have o1 := ok1 ok
  have o2 := ok2 ok
  refine CtE.of (own := RX3) (lv := [(0, .ref x), (1, .int (iI a)), (2, .int (iI b))]) (by decide) rfl rfl (Nat.le_of_ble_eq_true rfl) ?_
  intro xp xe xs xm xb xt xc
  refine z_aload_n (pc := 0) dX3_areTwo_0 0 rfl ?_
  refine z_iload_n (pc := 1) dX3_areTwo_1 1 rfl ?_
  refine z_callV (pc := 2) (st := []) (st2 := [.int (bI (0 ≤ a ∧ a < g 4 2))]) (ws2 := [(x, .inr (3, [.ref h, .ref t, .ref k0, .int ik, .ref tp, .ref sh, .ref fi])), (h, oG g hK hH hM hO)]) (q0 := 0) (c_X3_isChild l D cI cJ cB cS xa x h hK hH hM hO t k0 tp sh fi ik g a ok (by omega)) mV_X3_isChild kM_X3_100 dX3_areTwo_2 rfl rfl [0, 1] rfl rfl rfl rfl rfl rfl rfl rfl ⟨Nat.le_of_ble_eq_true rfl, Nat.le_of_ble_eq_true rfl, Nat.le_of_ble_eq_true rfl⟩ ?_
  refine z_ifb_eq (pc := 5) (tgt := 25) dX3_areTwo_5 (by decide) (fun h5 => ?_) (fun h5 => ?_)
  · skip
    refine z_iconst (pc := 25) dX3_areTwo_25 ?_
    exact z_zret (pc := 26) (by decide) dX3_areTwo_26 (congrArg (fun z => some (Value.int z)) (bI_f (by omega))) rfl
  · skip
    refine z_aload_n (pc := 8) dX3_areTwo_8 0 rfl ?_
    refine z_iload_n (pc := 9) dX3_areTwo_9 2 rfl ?_
    refine z_callV (pc := 10) (st := []) (st2 := [.int (bI (0 ≤ b ∧ b < g 4 2))]) (ws2 := [(x, .inr (3, [.ref h, .ref t, .ref k0, .int ik, .ref tp, .ref sh, .ref fi])), (h, oG g hK hH hM hO)]) (q0 := 0) (c_X3_isChild l D cI cJ cB cS xa x h hK hH hM hO t k0 tp sh fi ik g b ok (by omega)) mV_X3_isChild kM_X3_100 dX3_areTwo_10 rfl rfl [0, 1] rfl rfl rfl rfl rfl rfl rfl rfl ⟨Nat.le_of_ble_eq_true rfl, Nat.le_of_ble_eq_true rfl, Nat.le_of_ble_eq_true rfl⟩ ?_
    refine z_ifb_eq (pc := 13) (tgt := 25) dX3_areTwo_13 (by decide) (fun h13 => ?_) (fun h13 => ?_)
    · skip
      refine z_iconst (pc := 25) dX3_areTwo_25 ?_
      exact z_zret (pc := 26) (by decide) dX3_areTwo_26 (congrArg (fun z => some (Value.int z)) (bI_f (by omega))) rfl
    · skip
      refine z_iload_n (pc := 16) dX3_areTwo_16 1 rfl ?_
      refine z_iload_n (pc := 17) dX3_areTwo_17 2 rfl ?_
      refine z_icmp_eq (pc := 18) (tgt := 25) dX3_areTwo_18 (by decide) (by omega) (by omega) (fun h18 => ?_) (fun h18 => ?_)
      · skip
        refine z_iconst (pc := 25) dX3_areTwo_25 ?_
        exact z_zret (pc := 26) (by decide) dX3_areTwo_26 (congrArg (fun z => some (Value.int z)) (bI_f (by omega))) rfl
      · skip
        refine z_iconst (pc := 21) dX3_areTwo_21 ?_
        refine z_goto (pc := 22) (tgt := 26) dX3_areTwo_22 (by decide) ?_
        exact z_zret (pc := 26) (by decide) dX3_areTwo_26 (congrArg (fun z => some (Value.int z)) (bI_t (by omega))) rfl
set_option maxHeartbeats 8000000 in
set_option maxRecDepth 100000 in
theorem c_X3_sumOf (l : Launch) (D : va_G) (cI cJ cB cS : ClassId) (xa : XA) (x h hK hH hM hO t k0 tp sh fi : Nat) (ik : Int32) (g : Gd) (r : Nat) (w : Int) (ok : Ok g) : Ct l D cI cJ cB cS xa yX3_sumOf cX3_sumOf 4 (some .int) 0 0 [.ref x, .ref r] [(x, .inr (3, [.ref h, .ref t, .ref k0, .int ik, .ref tp, .ref sh, .ref fi])), (h, oG g hK hH hM hO), (r, .inl (cI, 8, .inl (aG g w)))] (some (.int (iI (sumN (g w) (many g))))) [(x, .inr (3, [.ref h, .ref t, .ref k0, .int ik, .ref tp, .ref sh, .ref fi])), (h, oG g hK hH hM hO), (r, .inl (cI, 8, .inl (aG g w)))] := by
  have o0 := ok0 ok
  have o1 := ok1 ok
  have o2 := ok2 ok
  refine CtE.of (own := RX3) (lv := [(0, .ref x), (1, .ref r)]) (by decide) rfl rfl (Nat.le_of_ble_eq_true rfl) ?_
  intro xp xe xs xm xb xt xc
  refine z_iconst (pc := 0) dX3_sumOf_0 ?_
  refine z_istore_n (pc := 1) (lv2 := [(2, .int (iI 0)), (0, .ref x), (1, .ref r)]) dX3_sumOf_1 rfl (by decide) rfl ?_
  refine z_iconst (pc := 2) dX3_sumOf_2 ?_
  refine z_istore_n (pc := 3) (lv2 := [(3, .int (iI 0)), (2, .int (iI 0)), (0, .ref x), (1, .ref r)]) dX3_sumOf_3 rfl (by decide) rfl ?_
  have LP4 : ∀ (nn_ : Nat) (i : Int) (b : Int), (0 ≤ i) → (i ≤ g 4 2) → (b = sumN (g w) i.toNat) → (g 4 2 - i).toNat < nn_ → Z xp l xe { frames := 0, cells := 0, slots := 0, locals := 0 } xs xm ([.ref x, .ref r] : List Value).toArray xb xt xc 0 0 (MQ xb (Cq (S := Unit) D [(x, .inr (3, [.ref h, .ref t, .ref k0, .int ik, .ref tp, .ref sh, .ref fi])), (h, oG g hK hH hM hO), (r, .inl (cI, 8, .inl (aG g w)))] (fun _ => True) (fun _ => (some (.int (iI (sumN (g w) (many g)))))) (fun _ => [(x, .inr (3, [.ref h, .ref t, .ref k0, .int ik, .ref tp, .ref sh, .ref fi])), (h, oG g hK hH hM hO), (r, .inl (cI, 8, .inl (aG g w)))])) ([.ref x, .ref r] : List Value).toArray xs 0 0 (va_A0 [(x, .inr (3, [.ref h, .ref t, .ref k0, .int ik, .ref tp, .ref sh, .ref fi])), (h, oG g hK hH hM hO), (r, .inl (cI, 8, .inl (aG g w)))])) cX3_sumOf RX3 4 (some .int) D cI cJ cB cS xa (va_A0 [(x, .inr (3, [.ref h, .ref t, .ref k0, .int ik, .ref tp, .ref sh, .ref fi])), (h, oG g hK hH hM hO), (r, .inl (cI, 8, .inl (aG g w)))]) [(x, .inr (3, [.ref h, .ref t, .ref k0, .int ik, .ref tp, .ref sh, .ref fi])), (h, oG g hK hH hM hO), (r, .inl (cI, 8, .inl (aG g w)))] [(0, .ref x), (1, .ref r), (2, .int (iI b)), (3, .int (iI i))] 4 [] := by
    intro nn_
    induction nn_ with
    | zero => intro i b hi0 hi1 hb hms; exact absurd hms (Nat.not_lt_zero _)
    | succ nn_ ih =>
      intro i b hi0 hi1 hb hms
      have ih4 := ih
      clear ih
      refine z_iload_n (pc := 4) dX3_sumOf_4 3 rfl ?_
      refine z_aload_n (pc := 5) dX3_sumOf_5 0 rfl ?_
      refine z_get (pc := 6) (q0 := 0) (v := .ref h) fL_X3_10 dX3_sumOf_6 rfl rfl ?_
      refine z_get (pc := 9) (q0 := 1) (v := .int (iI (g 4 2))) fL_X3_159 dX3_sumOf_9 rfl rfl ?_
      refine z_icmp_ge (pc := 12) (tgt := 27) dX3_sumOf_12 (by decide) (by omega) (by omega) (fun h12 => ?_) (fun h12 => ?_)
      · skip
        obtain rfl : i = g 4 2 := by omega
        refine z_iload_n (pc := 27) dX3_sumOf_27 2 rfl ?_
        exact z_iret (pc := 28) dX3_sumOf_28 (congrArg (fun z => some (Value.int (iI z))) (show (sumN (g w) (many g)) = b from by exact hb.symm)) rfl
      · skip
        refine z_iload_n (pc := 15) dX3_sumOf_15 2 rfl ?_
        refine z_aload_n (pc := 16) dX3_sumOf_16 1 rfl ?_
        refine z_iload_n (pc := 17) dX3_sumOf_17 3 rfl ?_
        refine z_iald (pc := 18) (q0 := 2) (v := (iI (g w i))) dX3_sumOf_18 rfl (by omega) (by decide) (aG_at (by omega)) ?_
        refine z_iadd (pc := 19) dX3_sumOf_19 ?_
        refine z_istore_n (pc := 20) (lv2 := [(2, .int (iI (b + (g w i)))), (0, .ref x), (1, .ref r), (3, .int (iI i))]) dX3_sumOf_20 rfl (by decide) rfl ?_
        refine z_iinc (pc := 21) (lv2 := [(3, .int (iI (i + 1))), (2, .int (iI (b + (g w i)))), (0, .ref x), (1, .ref r)]) dX3_sumOf_21 3 rfl (by decide) rfl ?_
        refine z_goto (pc := 24) (tgt := 4) dX3_sumOf_24 (by decide) ?_
        refine z_lv (lv2 := [(0, .ref x), (1, .ref r), (2, .int (iI (b + (g w i)))), (3, .int (iI (i + 1)))]) [2, 3, 1, 0] rfl ?_
        exact ih4 (i + 1) (b + (g w i)) (by omega) (by omega) (by rw [sumN_s _ hi0, ← hb]) (by omega)
  refine z_lv (lv2 := [(0, .ref x), (1, .ref r), (2, .int (iI 0)), (3, .int (iI 0))]) [2, 3, 1, 0] rfl ?_
  exact LP4 _ 0 0 (by omega) (by omega) (by rfl) (Nat.lt_succ_self _)
set_option maxHeartbeats 8000000 in
set_option maxRecDepth 100000 in
theorem c_X3_put (l : Launch) (D : va_G) (cI cJ cB cS : ClassId) (xa : XA) (x h t k0 tp sh fi : Nat) (ik : Int32) (g : Gd) (fd : FF) (r : Nat) (w c v a b : Int) (hc : 0 ≤ c ∧ c < 8) (hv : inr v) (ha : inr a) (hb : inr b) : Ct l D cI cJ cB cS xa yX3_put cX3_put 7 (some .int) 1 22 [.ref x, .ref r, .int (iI c), .int (iI v), .int (iI a), .int (iI b)] [(x, .inr (3, [.ref h, .ref t, .ref k0, .int ik, .ref tp, .ref sh, .ref fi])), (r, .inl (cI, 8, .inl (aG g w))), (fi, .inl (cI, 7, .inl (ar fd)))] (some (.int ((opPut g fd w c v a b).1))) [(x, .inr (3, [.ref h, .ref t, .ref k0, .int ik, .ref tp, .ref sh, .ref fi])), (r, .inl (cI, 8, .inl (aG ((opPut g fd w c v a b).2.1) w))), (fi, .inl (cI, 7, .inl (ar ((opPut g fd w c v a b).2.2))))] := by
  refine CtE.of (own := RX3) (lv := [(0, .ref x), (1, .ref r), (2, .int (iI c)), (3, .int (iI v)), (4, .int (iI a)), (5, .int (iI b))]) (by decide) rfl rfl (Nat.le_of_ble_eq_true rfl) ?_
  intro xp xe xs xm xb xt xc
  refine z_iload_n (pc := 0) dX3_put_0 3 rfl ?_
  refine z_iload (pc := 1) dX3_put_1 4 rfl ?_
  refine z_iload (pc := 3) dX3_put_3 5 rfl ?_
  refine z_callS (pc := 5) (st := []) (st2 := [.int (bI (a ≤ v ∧ v ≤ b))]) (ws2 := [(x, .inr (3, [.ref h, .ref t, .ref k0, .int ik, .ref tp, .ref sh, .ref fi])), (r, .inl (cI, 8, .inl (aG g w))), (fi, .inl (cI, 7, .inl (ar fd)))]) (c_X3_within l D cI cJ cB cS xa v a b (by omega) (by omega) (by omega)) mS_X3_within kM_X3_44 dX3_put_5 [] rfl rfl rfl rfl rfl rfl rfl rfl ⟨Nat.le_of_ble_eq_true rfl, Nat.le_of_ble_eq_true rfl, Nat.le_of_ble_eq_true rfl⟩ ?_
  refine z_ifb_ne (pc := 8) (tgt := 17) dX3_put_8 (by decide) (fun h8 => ?_) (fun h8 => ?_)
  · skip
    refine z_aload_n (pc := 17) dX3_put_17 1 rfl ?_
    refine z_iload_n (pc := 18) dX3_put_18 2 rfl ?_
    refine z_iald (pc := 19) (q0 := 1) (v := (iI (g w c))) dX3_put_19 rfl (by omega) (by decide) (aG_at (by omega)) ?_
    refine z_istore (pc := 20) (lv2 := [(6, .int (iI (g w c))), (0, .ref x), (1, .ref r), (2, .int (iI c)), (3, .int (iI v)), (4, .int (iI a)), (5, .int (iI b))]) dX3_put_20 (by decide) rfl ?_
    refine z_aload_n (pc := 22) dX3_put_22 2 rfl ?_
    refine z_iload_n (pc := 23) dX3_put_23 3 rfl ?_
    refine z_iload_n (pc := 24) dX3_put_24 4 rfl ?_
    refine z_iast (pc := 25) (q0 := 1) (ws2 := [(x, .inr (3, [.ref h, .ref t, .ref k0, .int ik, .ref tp, .ref sh, .ref fi])), (r, .inl (cI, 8, .inl (aG (up2 g w c v) w))), (fi, .inl (cI, 7, .inl (ar fd)))]) dX3_put_25 rfl (by omega) (by decide) (by rw [aG_up (by omega)]; rfl) ?_
    refine z_iload (pc := 26) dX3_put_26 0 rfl ?_
    have e9 : opPut g fd w c v a b = ((iI (g w c)), up2 g w c v, fd) := by
      unfold opPut; rw [if_pos h8]
    exact z_iret (pc := 28) dX3_put_28 (by rw [e9]) (by rw [e9])
  · skip
    refine z_aload_n (pc := 11) dX3_put_11 0 rfl ?_
    refine z_iconst (pc := 12) dX3_put_12 ?_
    refine z_callV (pc := 13) (st := []) (st2 := [.int (iI (-1000000001 - 0))]) (ws2 := [(x, .inr (3, [.ref h, .ref t, .ref k0, .int ik, .ref tp, .ref sh, .ref fi])), (r, .inl (cI, 8, .inl (aG g w))), (fi, .inl (cI, 7, .inl (ar (fnd fd 0))))]) (q0 := 0) (c_X3_found l D cI cJ cB cS xa x h t k0 tp sh fi ik fd 0 (by omega)) mV_X3_found kM_X3_48 dX3_put_13 rfl rfl [0, 2] rfl rfl rfl rfl rfl rfl rfl rfl ⟨Nat.le_of_ble_eq_true rfl, Nat.le_of_ble_eq_true rfl, Nat.le_of_ble_eq_true rfl⟩ ?_
    have e9 : opPut g fd w c v a b = ((iI (-1000000001 - 0)), g, fnd fd 0) := by
      unfold opPut; rw [if_neg h8]; rfl
    exact z_iret (pc := 16) dX3_put_16 (by rw [e9]) (by rw [e9])
set_option maxHeartbeats 8000000 in
set_option maxRecDepth 100000 in
theorem c_X3_tryAsItIs (l : Launch) (D : va_G) (cI cJ cB cS : ClassId) (xa : XA) (x h hK hH hM hO t tK tH tM tO k0 tp sh fi : Nat) (ik : Int32) (g : Gd) (gt : Gd) (ok : Ok g) (okt : Ok gt) : Ct l D cI cJ cB cS xa yX3_tryAsItIs cX3_tryAsItIs 1 none 2 47 [.ref x] [(x, .inr (3, [.ref h, .ref t, .ref k0, .int ik, .ref tp, .ref sh, .ref fi])), (h, oG g hK hH hM hO), (hK, .inl (cI, 8, .inl (aG g 0))), (hH, .inl (cI, 8, .inl (aG g 1))), (hM, .inl (cI, 8, .inl (aG g 2))), (hO, .inl (cI, 8, .inl (aG g 3))), (t, oG gt tK tH tM tO), (tK, .inl (cI, 8, .inl (aG gt 0))), (tH, .inl (cI, 8, .inl (aG gt 1))), (tM, .inl (cI, 8, .inl (aG gt 2))), (tO, .inl (cI, 8, .inl (aG gt 3)))] none [(x, .inr (3, [.ref h, .ref t, .ref k0, .int ik, .ref tp, .ref sh, .ref fi])), (h, oG g hK hH hM hO), (hK, .inl (cI, 8, .inl (aG g 0))), (hH, .inl (cI, 8, .inl (aG g 1))), (hM, .inl (cI, 8, .inl (aG g 2))), (hO, .inl (cI, 8, .inl (aG g 3))), (t, oG (likeG gt g) tK tH tM tO), (tK, .inl (cI, 8, .inl (aG (likeG gt g) 0))), (tH, .inl (cI, 8, .inl (aG (likeG gt g) 1))), (tM, .inl (cI, 8, .inl (aG (likeG gt g) 2))), (tO, .inl (cI, 8, .inl (aG (likeG gt g) 3)))] := by
  refine CtE.of (own := RX3) (lv := [(0, .ref x)]) (by decide) rfl rfl (Nat.le_of_ble_eq_true rfl) ?_
  intro xp xe xs xm xb xt xc
  refine z_aload_n (pc := 0) dX3_tryAsItIs_0 0 rfl ?_
  refine z_get (pc := 1) (q0 := 0) (v := .ref t) fL_X3_16 dX3_tryAsItIs_1 rfl rfl ?_
  refine z_aload_n (pc := 4) dX3_tryAsItIs_4 0 rfl ?_
  refine z_get (pc := 5) (q0 := 0) (v := .ref h) fL_X3_10 dX3_tryAsItIs_5 rfl rfl ?_
  refine z_callV (pc := 8) (st := []) (st2 := []) (ws2 := [(x, .inr (3, [.ref h, .ref t, .ref k0, .int ik, .ref tp, .ref sh, .ref fi])), (h, oG g hK hH hM hO), (hK, .inl (cI, 8, .inl (aG g 0))), (hH, .inl (cI, 8, .inl (aG g 1))), (hM, .inl (cI, 8, .inl (aG g 2))), (hO, .inl (cI, 8, .inl (aG g 3))), (t, oG (likeG gt g) tK tH tM tO), (tK, .inl (cI, 8, .inl (aG (likeG gt g) 0))), (tH, .inl (cI, 8, .inl (aG (likeG gt g) 1))), (tM, .inl (cI, 8, .inl (aG (likeG gt g) 2))), (tO, .inl (cI, 8, .inl (aG (likeG gt g) 3)))]) (q0 := 6) (c_X0_becomeLike l D cI cJ cB cS xa t tK tH tM tO gt h hK hH hM hO g okt ok) mV_X0_becomeLike kM_X3_182 dX3_tryAsItIs_8 rfl rfl [6, 7, 8, 9, 10, 1, 2, 3, 4, 5] rfl rfl rfl rfl rfl rfl rfl rfl ⟨Nat.le_of_ble_eq_true rfl, Nat.le_of_ble_eq_true rfl, Nat.le_of_ble_eq_true rfl⟩ ?_
  have ok8_1 : Ok (likeG gt g) := likeG_ok okt ok
  have f8_2 := (show likeG gt g 4 0 = g 4 0 from rfl)
  have f8_3 := (show likeG gt g 4 1 = g 4 1 from rfl)
  have f8_4 := (show likeG gt g 4 2 = g 4 2 from rfl)
  exact z_vret (pc := 11) dX3_tryAsItIs_11 rfl rfl
set_option maxHeartbeats 8000000 in
set_option maxRecDepth 100000 in
theorem c_X3_heightLater (l : Launch) (D : va_G) (cI cJ cB cS : ClassId) (xa : XA) (x h t tK tH tM tO k0 tp sh fi : Nat) (ik : Int32) (gt : Gd) (c n : Int) (okt : Ok gt) (hc : 0 ≤ c ∧ c < 8) (hn : 0 ≤ n ∧ n ≤ 400) (hm : gt 4 0 + n ≤ 1000000) : Ct l D cI cJ cB cS xa yX3_heightLater cX3_heightLater 3 (some .int) 5 112 [.ref x, .int (iI c), .int (iI n)] [(x, .inr (3, [.ref h, .ref t, .ref k0, .int ik, .ref tp, .ref sh, .ref fi])), (t, oG gt tK tH tM tO), (tK, .inl (cI, 8, .inl (aG gt 0))), (tH, .inl (cI, 8, .inl (aG gt 1))), (tM, .inl (cI, 8, .inl (aG gt 2))), (tO, .inl (cI, 8, .inl (aG gt 3)))] (some (.int (iI (minsG gt (Int.toNat n) 1 c)))) [(x, .inr (3, [.ref h, .ref t, .ref k0, .int ik, .ref tp, .ref sh, .ref fi])), (t, oG (minsG gt (Int.toNat n)) tK tH tM tO), (tK, .inl (cI, 8, .inl (aG (minsG gt (Int.toNat n)) 0))), (tH, .inl (cI, 8, .inl (aG (minsG gt (Int.toNat n)) 1))), (tM, .inl (cI, 8, .inl (aG (minsG gt (Int.toNat n)) 2))), (tO, .inl (cI, 8, .inl (aG (minsG gt (Int.toNat n)) 3)))] := by
  refine CtE.of (own := RX3) (lv := [(0, .ref x), (1, .int (iI c)), (2, .int (iI n))]) (by decide) rfl rfl (Nat.le_of_ble_eq_true rfl) ?_
  intro xp xe xs xm xb xt xc
  refine z_aload_n (pc := 0) dX3_heightLater_0 0 rfl ?_
  refine z_get (pc := 1) (q0 := 0) (v := .ref t) fL_X3_16 dX3_heightLater_1 rfl rfl ?_
  refine z_iload_n (pc := 4) dX3_heightLater_4 2 rfl ?_
  refine z_callV (pc := 5) (st := []) (st2 := []) (ws2 := [(x, .inr (3, [.ref h, .ref t, .ref k0, .int ik, .ref tp, .ref sh, .ref fi])), (t, oG (minsG gt (Int.toNat n)) tK tH tM tO), (tK, .inl (cI, 8, .inl (aG (minsG gt (Int.toNat n)) 0))), (tH, .inl (cI, 8, .inl (aG (minsG gt (Int.toNat n)) 1))), (tM, .inl (cI, 8, .inl (aG (minsG gt (Int.toNat n)) 2))), (tO, .inl (cI, 8, .inl (aG (minsG gt (Int.toNat n)) 3)))]) (q0 := 1) (c_X0_goOn l D cI cJ cB cS xa t tK tH tM tO gt n okt (by omega) (by omega)) mV_X0_goOn kM_X3_141 dX3_heightLater_5 rfl rfl [1, 2, 3, 4, 5] rfl rfl rfl rfl rfl rfl rfl rfl ⟨Nat.le_of_ble_eq_true rfl, Nat.le_of_ble_eq_true rfl, Nat.le_of_ble_eq_true rfl⟩ ?_
  have ok5_1 : Ok (minsG gt (Int.toNat n)) := minsG_ok okt _ (by omega)
  have f5_2 := minsG_40 gt (Int.toNat n)
  have f5_3 := minsG_41 gt (Int.toNat n)
  have f5_4 := minsG_42 gt (Int.toNat n)
  refine z_aload_n (pc := 8) dX3_heightLater_8 0 rfl ?_
  refine z_get (pc := 9) (q0 := 0) (v := .ref t) fL_X3_16 dX3_heightLater_9 rfl rfl ?_
  refine z_get (pc := 12) (q0 := 1) (v := .ref tH) fL_X3_74 dX3_heightLater_12 rfl rfl ?_
  refine z_iload_n (pc := 15) dX3_heightLater_15 1 rfl ?_
  refine z_iald (pc := 16) (q0 := 3) (v := (iI ((minsG gt (Int.toNat n)) 1 c))) dX3_heightLater_16 rfl (by omega) (by decide) (aG_at (by omega)) ?_
  have b5 := okH ok5_1 c
  exact z_iret (pc := 17) dX3_heightLater_17 (congrArg (fun z => some (Value.int (iI z))) (show (minsG gt (Int.toNat n) 1 c) = (minsG gt (Int.toNat n)) 1 c from by omega)) rfl
set_option maxHeartbeats 8000000 in
set_option maxRecDepth 100000 in
theorem c_X3_dark (l : Launch) (D : va_G) (cI cJ cB cS : ClassId) (xa : XA) (x h hK hH hM hO t k0 tp sh fi : Nat) (ik : Int32) (g : Gd) (fd : FF) (v : Int) (ok : Ok g) (rv : inr v) : Ct l D cI cJ cB cS xa yX3_dark cX3_dark 3 (some .int) 1 22 [.ref x, .int (iI v)] [(x, .inr (3, [.ref h, .ref t, .ref k0, .int ik, .ref tp, .ref sh, .ref fi])), (h, oG g hK hH hM hO), (hK, .inl (cI, 8, .inl (aG g 0))), (hH, .inl (cI, 8, .inl (aG g 1))), (hM, .inl (cI, 8, .inl (aG g 2))), (hO, .inl (cI, 8, .inl (aG g 3))), (fi, .inl (cI, 7, .inl (ar fd)))] (some (.int ((opDark g fd v).1))) [(x, .inr (3, [.ref h, .ref t, .ref k0, .int ik, .ref tp, .ref sh, .ref fi])), (h, oG ((opDark g fd v).2.1) hK hH hM hO), (hK, .inl (cI, 8, .inl (aG ((opDark g fd v).2.1) 0))), (hH, .inl (cI, 8, .inl (aG ((opDark g fd v).2.1) 1))), (hM, .inl (cI, 8, .inl (aG ((opDark g fd v).2.1) 2))), (hO, .inl (cI, 8, .inl (aG ((opDark g fd v).2.1) 3))), (fi, .inl (cI, 7, .inl (ar ((opDark g fd v).2.2))))] := by
  have o0 := ok0 ok
  have o1 := ok1 ok
  have o2 := ok2 ok
  refine CtE.of (own := RX3) (lv := [(0, .ref x), (1, .int (iI v))]) (by decide) rfl rfl (Nat.le_of_ble_eq_true rfl) ?_
  intro xp xe xs xm xb xt xc
  refine z_iload_n (pc := 0) dX3_dark_0 1 rfl ?_
  refine z_iconst (pc := 1) dX3_dark_1 ?_
  refine z_bipush (pc := 2) dX3_dark_2 (by decide) ?_
  refine z_callS (pc := 4) (st := []) (st2 := [.int (bI (0 ≤ v ∧ v ≤ 59))]) (ws2 := [(x, .inr (3, [.ref h, .ref t, .ref k0, .int ik, .ref tp, .ref sh, .ref fi])), (h, oG g hK hH hM hO), (hK, .inl (cI, 8, .inl (aG g 0))), (hH, .inl (cI, 8, .inl (aG g 1))), (hM, .inl (cI, 8, .inl (aG g 2))), (hO, .inl (cI, 8, .inl (aG g 3))), (fi, .inl (cI, 7, .inl (ar fd)))]) (c_X3_within l D cI cJ cB cS xa v 0 59 (by omega) (by omega) (by omega)) mS_X3_within kM_X3_44 dX3_dark_4 [] rfl rfl rfl rfl rfl rfl rfl rfl ⟨Nat.le_of_ble_eq_true rfl, Nat.le_of_ble_eq_true rfl, Nat.le_of_ble_eq_true rfl⟩ ?_
  refine z_ifb_ne (pc := 7) (tgt := 16) dX3_dark_7 (by decide) (fun h7 => ?_) (fun h7 => ?_)
  · skip
    refine z_aload_n (pc := 16) dX3_dark_16 0 rfl ?_
    refine z_get (pc := 17) (q0 := 0) (v := .ref h) fL_X3_10 dX3_dark_17 rfl rfl ?_
    refine z_get (pc := 20) (q0 := 1) (v := .int (iI (g 4 1))) fL_X3_52 dX3_dark_20 rfl rfl ?_
    refine z_istore_n (pc := 23) (lv2 := [(2, .int (iI (g 4 1))), (0, .ref x), (1, .int (iI v))]) dX3_dark_23 rfl (by decide) rfl ?_
    refine z_aload_n (pc := 24) dX3_dark_24 1 rfl ?_
    refine z_get (pc := 25) (q0 := 0) (v := .ref h) fL_X3_10 dX3_dark_25 rfl rfl ?_
    refine z_iload_n (pc := 28) dX3_dark_28 2 rfl ?_
    refine z_put (pc := 29) (q0 := 1) (ws2 := [(x, .inr (3, [.ref h, .ref t, .ref k0, .int ik, .ref tp, .ref sh, .ref fi])), (h, oG (up2 g 4 1 v) hK hH hM hO), (hK, .inl (cI, 8, .inl (aG (up2 g 4 1 v) 0))), (hH, .inl (cI, 8, .inl (aG (up2 g 4 1 v) 1))), (hM, .inl (cI, 8, .inl (aG (up2 g 4 1 v) 2))), (hO, .inl (cI, 8, .inl (aG (up2 g 4 1 v) 3))), (fi, .inl (cI, 7, .inl (ar fd)))]) fP_X3_52 dX3_dark_29 rfl rfl rfl (Nat.le_of_ble_eq_true rfl) rfl ?_
    refine z_iload_n (pc := 32) dX3_dark_32 0 rfl ?_
    have e9 : opDark g fd v = ((iI (g 4 1)), up2 g 4 1 v, fd) := by
      unfold opDark; try unfold bI
      (repeat' split) <;> first | (exfalso; omega) | contradiction | rfl
    exact z_iret (pc := 33) dX3_dark_33 (by rw [e9]) (by rw [e9])
  · skip
    refine z_aload_n (pc := 10) dX3_dark_10 0 rfl ?_
    refine z_iconst (pc := 11) dX3_dark_11 ?_
    refine z_callV (pc := 12) (st := []) (st2 := [.int (iI (-1000000001 - 0))]) (ws2 := [(x, .inr (3, [.ref h, .ref t, .ref k0, .int ik, .ref tp, .ref sh, .ref fi])), (h, oG g hK hH hM hO), (hK, .inl (cI, 8, .inl (aG g 0))), (hH, .inl (cI, 8, .inl (aG g 1))), (hM, .inl (cI, 8, .inl (aG g 2))), (hO, .inl (cI, 8, .inl (aG g 3))), (fi, .inl (cI, 7, .inl (ar (fnd fd 0))))]) (q0 := 0) (c_X3_found l D cI cJ cB cS xa x h t k0 tp sh fi ik fd 0 (by omega)) mV_X3_found kM_X3_48 dX3_dark_12 rfl rfl [0, 6] rfl rfl rfl rfl rfl rfl rfl rfl ⟨Nat.le_of_ble_eq_true rfl, Nat.le_of_ble_eq_true rfl, Nat.le_of_ble_eq_true rfl⟩ ?_
    have e9 : opDark g fd v = ((iI (-1000000001 - 0)), g, fnd fd 0) := by
      unfold opDark; try unfold bI
      (repeat' split) <;> first | (exfalso; omega) | contradiction | rfl
    exact z_iret (pc := 15) dX3_dark_15 (by rw [e9]) (by rw [e9])
set_option maxHeartbeats 8000000 in
set_option maxRecDepth 100000 in
theorem c_X3_now (l : Launch) (D : va_G) (cI cJ cB cS : ClassId) (xa : XA) (x h hK hH hM hO t k0 tp sh fi : Nat) (ik : Int32) (g : Gd) (fd : FF) (w : Int) (ok : Ok g) (rw : inr w) : Ct l D cI cJ cB cS xa yX3_now cX3_now 2 (some .int) 4 85 [.ref x, .int (iI w)] [(x, .inr (3, [.ref h, .ref t, .ref k0, .int ik, .ref tp, .ref sh, .ref fi])), (h, oG g hK hH hM hO), (hK, .inl (cI, 8, .inl (aG g 0))), (hH, .inl (cI, 8, .inl (aG g 1))), (hM, .inl (cI, 8, .inl (aG g 2))), (hO, .inl (cI, 8, .inl (aG g 3))), (fi, .inl (cI, 7, .inl (ar fd)))] (some (.int ((opNow g fd w).1))) [(x, .inr (3, [.ref h, .ref t, .ref k0, .int ik, .ref tp, .ref sh, .ref fi])), (h, oG g hK hH hM hO), (hK, .inl (cI, 8, .inl (aG g 0))), (hH, .inl (cI, 8, .inl (aG g 1))), (hM, .inl (cI, 8, .inl (aG g 2))), (hO, .inl (cI, 8, .inl (aG g 3))), (fi, .inl (cI, 7, .inl (ar ((opNow g fd w).2))))] := by
  have o0 := ok0 ok
  have o1 := ok1 ok
  have o2 := ok2 ok
  refine CtE.of (own := RX3) (lv := [(0, .ref x), (1, .int (iI w))]) (by decide) rfl rfl (Nat.le_of_ble_eq_true rfl) ?_
  intro xp xe xs xm xb xt xc
  refine z_iload_n (pc := 0) dX3_now_0 1 rfl ?_
  by_cases h1 : 0 ≤ w ∧ w ≤ 7
  · skip
    have h1v : w = 0 ∨ w = 1 ∨ w = 2 ∨ w = 3 ∨ w = 4 ∨ w = 5 ∨ w = 6 ∨ w = 7 := by omega
    rcases h1v with h1v | h1v | h1v | h1v | h1v | h1v | h1v | h1v
    · skip
      refine z_tableIn (pc := 1) (tgt := 48) dX3_now_1 (by omega) (by omega) (by omega) (by rw [h1v]; rfl) (by decide) ?_
      refine z_aload_n (pc := 48) dX3_now_48 0 rfl ?_
      refine z_get (pc := 49) (q0 := 0) (v := .ref h) fL_X3_10 dX3_now_49 rfl rfl ?_
      refine z_get (pc := 52) (q0 := 1) (v := .int (iI (g 4 0))) fL_X3_56 dX3_now_52 rfl rfl ?_
      have e9 : opNow g fd w = ((iI (g 4 0)), fd) := by
        unfold opNow; try unfold bI
        (repeat' split) <;> first | (exfalso; omega) | contradiction | rfl
      exact z_iret (pc := 55) dX3_now_55 (by rw [e9]) (by rw [e9])
    · skip
      refine z_tableIn (pc := 1) (tgt := 56) dX3_now_1 (by omega) (by omega) (by omega) (by rw [h1v]; rfl) (by decide) ?_
      refine z_aload_n (pc := 56) dX3_now_56 0 rfl ?_
      refine z_get (pc := 57) (q0 := 0) (v := .ref h) fL_X3_10 dX3_now_57 rfl rfl ?_
      refine z_callV (pc := 60) (st := []) (st2 := [.int (iI (g 4 0 % 60))]) (ws2 := [(x, .inr (3, [.ref h, .ref t, .ref k0, .int ik, .ref tp, .ref sh, .ref fi])), (h, oG g hK hH hM hO), (hK, .inl (cI, 8, .inl (aG g 0))), (hH, .inl (cI, 8, .inl (aG g 1))), (hM, .inl (cI, 8, .inl (aG g 2))), (hO, .inl (cI, 8, .inl (aG g 3))), (fi, .inl (cI, 7, .inl (ar fd)))]) (q0 := 1) (c_X0_minuteOfDay l D cI cJ cB cS xa h hK hH hM hO g ok) mV_X0_minuteOfDay kM_X3_59 dX3_now_60 rfl rfl [1] rfl rfl rfl rfl rfl rfl rfl rfl ⟨Nat.le_of_ble_eq_true rfl, Nat.le_of_ble_eq_true rfl, Nat.le_of_ble_eq_true rfl⟩ ?_
      have e9 : opNow g fd w = ((iI (g 4 0 % 60)), fd) := by
        unfold opNow; try unfold bI
        (repeat' split) <;> first | (exfalso; omega) | contradiction | rfl
      exact z_iret (pc := 63) dX3_now_63 (by rw [e9]) (by rw [e9])
    · skip
      refine z_tableIn (pc := 1) (tgt := 64) dX3_now_1 (by omega) (by omega) (by omega) (by rw [h1v]; rfl) (by decide) ?_
      refine z_aload_n (pc := 64) dX3_now_64 0 rfl ?_
      refine z_get (pc := 65) (q0 := 0) (v := .ref h) fL_X3_10 dX3_now_65 rfl rfl ?_
      refine z_callV (pc := 68) (st := []) (st2 := [.int (bI (dusk g))]) (ws2 := [(x, .inr (3, [.ref h, .ref t, .ref k0, .int ik, .ref tp, .ref sh, .ref fi])), (h, oG g hK hH hM hO), (hK, .inl (cI, 8, .inl (aG g 0))), (hH, .inl (cI, 8, .inl (aG g 1))), (hM, .inl (cI, 8, .inl (aG g 2))), (hO, .inl (cI, 8, .inl (aG g 3))), (fi, .inl (cI, 7, .inl (ar fd)))]) (q0 := 1) (c_X0_isDusk l D cI cJ cB cS xa h hK hH hM hO g ok) mV_X0_isDusk kM_X3_63 dX3_now_68 rfl rfl [1] rfl rfl rfl rfl rfl rfl rfl rfl ⟨Nat.le_of_ble_eq_true rfl, Nat.le_of_ble_eq_true rfl, Nat.le_of_ble_eq_true rfl⟩ ?_
      refine z_callS (pc := 71) (st := []) (st2 := [.int (bI (dusk g))]) (ws2 := [(x, .inr (3, [.ref h, .ref t, .ref k0, .int ik, .ref tp, .ref sh, .ref fi])), (h, oG g hK hH hM hO), (hK, .inl (cI, 8, .inl (aG g 0))), (hH, .inl (cI, 8, .inl (aG g 1))), (hM, .inl (cI, 8, .inl (aG g 2))), (hO, .inl (cI, 8, .inl (aG g 3))), (fi, .inl (cI, 7, .inl (ar fd)))]) (c_X3_asNumber l D cI cJ cB cS xa (bI (dusk g)) (bI_01 _)) mS_X3_asNumber kM_X3_67 dX3_now_71 [] rfl rfl rfl rfl rfl rfl rfl rfl ⟨Nat.le_of_ble_eq_true rfl, Nat.le_of_ble_eq_true rfl, Nat.le_of_ble_eq_true rfl⟩ ?_
      have e9 : opNow g fd w = ((bI (dusk g)), fd) := by
        unfold opNow; try unfold bI
        (repeat' split) <;> first | (exfalso; omega) | contradiction | rfl
      exact z_iret (pc := 74) dX3_now_74 (by rw [e9]) (by rw [e9])
    · skip
      refine z_tableIn (pc := 1) (tgt := 75) dX3_now_1 (by omega) (by omega) (by omega) (by rw [h1v]; rfl) (by decide) ?_
      refine z_aload_n (pc := 75) dX3_now_75 0 rfl ?_
      refine z_get (pc := 76) (q0 := 0) (v := .ref h) fL_X3_10 dX3_now_76 rfl rfl ?_
      refine z_callV (pc := 79) (st := []) (st2 := [.int (bI (satur g))]) (ws2 := [(x, .inr (3, [.ref h, .ref t, .ref k0, .int ik, .ref tp, .ref sh, .ref fi])), (h, oG g hK hH hM hO), (hK, .inl (cI, 8, .inl (aG g 0))), (hH, .inl (cI, 8, .inl (aG g 1))), (hM, .inl (cI, 8, .inl (aG g 2))), (hO, .inl (cI, 8, .inl (aG g 3))), (fi, .inl (cI, 7, .inl (ar fd)))]) (q0 := 1) (c_X0_isSaturday l D cI cJ cB cS xa h hK hH hM hO g ok) mV_X0_isSaturday kM_X3_71 dX3_now_79 rfl rfl [1] rfl rfl rfl rfl rfl rfl rfl rfl ⟨Nat.le_of_ble_eq_true rfl, Nat.le_of_ble_eq_true rfl, Nat.le_of_ble_eq_true rfl⟩ ?_
      refine z_callS (pc := 82) (st := []) (st2 := [.int (bI (satur g))]) (ws2 := [(x, .inr (3, [.ref h, .ref t, .ref k0, .int ik, .ref tp, .ref sh, .ref fi])), (h, oG g hK hH hM hO), (hK, .inl (cI, 8, .inl (aG g 0))), (hH, .inl (cI, 8, .inl (aG g 1))), (hM, .inl (cI, 8, .inl (aG g 2))), (hO, .inl (cI, 8, .inl (aG g 3))), (fi, .inl (cI, 7, .inl (ar fd)))]) (c_X3_asNumber l D cI cJ cB cS xa (bI (satur g)) (bI_01 _)) mS_X3_asNumber kM_X3_67 dX3_now_82 [] rfl rfl rfl rfl rfl rfl rfl rfl ⟨Nat.le_of_ble_eq_true rfl, Nat.le_of_ble_eq_true rfl, Nat.le_of_ble_eq_true rfl⟩ ?_
      have e9 : opNow g fd w = ((bI (satur g)), fd) := by
        unfold opNow; try unfold bI
        (repeat' split) <;> first | (exfalso; omega) | contradiction | rfl
      exact z_iret (pc := 85) dX3_now_85 (by rw [e9]) (by rw [e9])
    · skip
      refine z_tableIn (pc := 1) (tgt := 86) dX3_now_1 (by omega) (by omega) (by omega) (by rw [h1v]; rfl) (by decide) ?_
      refine z_aload_n (pc := 86) dX3_now_86 0 rfl ?_
      refine z_aload_n (pc := 87) dX3_now_87 0 rfl ?_
      refine z_get (pc := 88) (q0 := 0) (v := .ref h) fL_X3_10 dX3_now_88 rfl rfl ?_
      refine z_get (pc := 91) (q0 := 1) (v := .ref hH) fL_X3_74 dX3_now_91 rfl rfl ?_
      refine z_callV (pc := 94) (st := []) (st2 := [.int (iI (sumN (g 1) (many g)))]) (ws2 := [(x, .inr (3, [.ref h, .ref t, .ref k0, .int ik, .ref tp, .ref sh, .ref fi])), (h, oG g hK hH hM hO), (hK, .inl (cI, 8, .inl (aG g 0))), (hH, .inl (cI, 8, .inl (aG g 1))), (hM, .inl (cI, 8, .inl (aG g 2))), (hO, .inl (cI, 8, .inl (aG g 3))), (fi, .inl (cI, 7, .inl (ar fd)))]) (q0 := 0) (c_X3_sumOf l D cI cJ cB cS xa x h hK hH hM hO t k0 tp sh fi ik g hH 1 ok) mV_X3_sumOf kM_X3_77 dX3_now_94 rfl rfl [0, 1, 3] rfl rfl rfl rfl rfl rfl rfl rfl ⟨Nat.le_of_ble_eq_true rfl, Nat.le_of_ble_eq_true rfl, Nat.le_of_ble_eq_true rfl⟩ ?_
      have e9 : opNow g fd w = ((iI (sumN (g 1) (many g))), fd) := by
        unfold opNow; try unfold bI
        (repeat' split) <;> first | (exfalso; omega) | contradiction | rfl
      exact z_iret (pc := 97) dX3_now_97 (by rw [e9]) (by rw [e9])
    · skip
      refine z_tableIn (pc := 1) (tgt := 98) dX3_now_1 (by omega) (by omega) (by omega) (by rw [h1v]; rfl) (by decide) ?_
      refine z_aload_n (pc := 98) dX3_now_98 0 rfl ?_
      refine z_get (pc := 99) (q0 := 0) (v := .ref h) fL_X3_10 dX3_now_99 rfl rfl ?_
      refine z_callV (pc := 102) (st := []) (st2 := [.int (bI (diffG g < 2))]) (ws2 := [(x, .inr (3, [.ref h, .ref t, .ref k0, .int ik, .ref tp, .ref sh, .ref fi])), (h, oG g hK hH hM hO), (hK, .inl (cI, 8, .inl (aG g 0))), (hH, .inl (cI, 8, .inl (aG g 1))), (hM, .inl (cI, 8, .inl (aG g 2))), (hO, .inl (cI, 8, .inl (aG g 3))), (fi, .inl (cI, 7, .inl (ar fd)))]) (q0 := 1) (c_X0_isLevel l D cI cJ cB cS xa h hK hH hM hO g ok) mV_X0_isLevel kM_X3_81 dX3_now_102 rfl rfl [1, 3] rfl rfl rfl rfl rfl rfl rfl rfl ⟨Nat.le_of_ble_eq_true rfl, Nat.le_of_ble_eq_true rfl, Nat.le_of_ble_eq_true rfl⟩ ?_
      refine z_callS (pc := 105) (st := []) (st2 := [.int (bI (diffG g < 2))]) (ws2 := [(x, .inr (3, [.ref h, .ref t, .ref k0, .int ik, .ref tp, .ref sh, .ref fi])), (h, oG g hK hH hM hO), (hK, .inl (cI, 8, .inl (aG g 0))), (hH, .inl (cI, 8, .inl (aG g 1))), (hM, .inl (cI, 8, .inl (aG g 2))), (hO, .inl (cI, 8, .inl (aG g 3))), (fi, .inl (cI, 7, .inl (ar fd)))]) (c_X3_asNumber l D cI cJ cB cS xa (bI (diffG g < 2)) (bI_01 _)) mS_X3_asNumber kM_X3_67 dX3_now_105 [] rfl rfl rfl rfl rfl rfl rfl rfl ⟨Nat.le_of_ble_eq_true rfl, Nat.le_of_ble_eq_true rfl, Nat.le_of_ble_eq_true rfl⟩ ?_
      have e9 : opNow g fd w = ((bI (diffG g < 2)), fd) := by
        unfold opNow; try unfold bI
        (repeat' split) <;> first | (exfalso; omega) | contradiction | rfl
      exact z_iret (pc := 108) dX3_now_108 (by rw [e9]) (by rw [e9])
    · skip
      refine z_tableIn (pc := 1) (tgt := 109) dX3_now_1 (by omega) (by omega) (by omega) (by rw [h1v]; rfl) (by decide) ?_
      refine z_aload_n (pc := 109) dX3_now_109 0 rfl ?_
      refine z_get (pc := 110) (q0 := 0) (v := .ref h) fL_X3_10 dX3_now_110 rfl rfl ?_
      refine z_callV (pc := 113) (st := []) (st2 := [.int (dustN (g 1) (many g))]) (ws2 := [(x, .inr (3, [.ref h, .ref t, .ref k0, .int ik, .ref tp, .ref sh, .ref fi])), (h, oG g hK hH hM hO), (hK, .inl (cI, 8, .inl (aG g 0))), (hH, .inl (cI, 8, .inl (aG g 1))), (hM, .inl (cI, 8, .inl (aG g 2))), (hO, .inl (cI, 8, .inl (aG g 3))), (fi, .inl (cI, 7, .inl (ar fd)))]) (q0 := 1) (c_X0_inTheDust l D cI cJ cB cS xa h hK hH hM hO g ok) mV_X0_inTheDust kM_X3_84 dX3_now_113 rfl rfl [1, 3] rfl rfl rfl rfl rfl rfl rfl rfl ⟨Nat.le_of_ble_eq_true rfl, Nat.le_of_ble_eq_true rfl, Nat.le_of_ble_eq_true rfl⟩ ?_
      have e9 : opNow g fd w = ((dustN (g 1) (many g)), fd) := by
        unfold opNow; try unfold bI
        (repeat' split) <;> first | (exfalso; omega) | contradiction | rfl
      exact z_iret (pc := 116) dX3_now_116 (by rw [e9]) (by rw [e9])
    · skip
      refine z_tableIn (pc := 1) (tgt := 117) dX3_now_1 (by omega) (by omega) (by omega) (by rw [h1v]; rfl) (by decide) ?_
      refine z_aload_n (pc := 117) dX3_now_117 0 rfl ?_
      refine z_get (pc := 118) (q0 := 0) (v := .ref h) fL_X3_10 dX3_now_118 rfl rfl ?_
      refine z_callV (pc := 121) (st := []) (st2 := [.int (iI (highG g))]) (ws2 := [(x, .inr (3, [.ref h, .ref t, .ref k0, .int ik, .ref tp, .ref sh, .ref fi])), (h, oG g hK hH hM hO), (hK, .inl (cI, 8, .inl (aG g 0))), (hH, .inl (cI, 8, .inl (aG g 1))), (hM, .inl (cI, 8, .inl (aG g 2))), (hO, .inl (cI, 8, .inl (aG g 3))), (fi, .inl (cI, 7, .inl (ar fd)))]) (q0 := 1) (c_X0_highest l D cI cJ cB cS xa h hK hH hM hO g ok) mV_X0_highest kM_X3_87 dX3_now_121 rfl rfl [1, 3] rfl rfl rfl rfl rfl rfl rfl rfl ⟨Nat.le_of_ble_eq_true rfl, Nat.le_of_ble_eq_true rfl, Nat.le_of_ble_eq_true rfl⟩ ?_
      have f121_1 := highG_rng ok
      have e9 : opNow g fd w = ((iI (highG g)), fd) := by
        unfold opNow; try unfold bI
        (repeat' split) <;> first | (exfalso; omega) | contradiction | rfl
      exact z_iret (pc := 124) dX3_now_124 (by rw [e9]) (by rw [e9])
  · skip
    refine z_tableOut (pc := 1) (tgt := 125) dX3_now_1 (by omega) (by omega) (by decide) ?_
    refine z_aload_n (pc := 125) dX3_now_125 0 rfl ?_
    refine z_iconst (pc := 126) dX3_now_126 ?_
    refine z_callV (pc := 127) (st := []) (st2 := [.int (iI (-1000000001 - 0))]) (ws2 := [(x, .inr (3, [.ref h, .ref t, .ref k0, .int ik, .ref tp, .ref sh, .ref fi])), (h, oG g hK hH hM hO), (hK, .inl (cI, 8, .inl (aG g 0))), (hH, .inl (cI, 8, .inl (aG g 1))), (hM, .inl (cI, 8, .inl (aG g 2))), (hO, .inl (cI, 8, .inl (aG g 3))), (fi, .inl (cI, 7, .inl (ar (fnd fd 0))))]) (q0 := 0) (c_X3_found l D cI cJ cB cS xa x h t k0 tp sh fi ik fd 0 (by omega)) mV_X3_found kM_X3_48 dX3_now_127 rfl rfl [0, 6] rfl rfl rfl rfl rfl rfl rfl rfl ⟨Nat.le_of_ble_eq_true rfl, Nat.le_of_ble_eq_true rfl, Nat.le_of_ble_eq_true rfl⟩ ?_
    have e9 : opNow g fd w = ((iI (-1000000001 - 0)), fnd fd 0) := by
      unfold opNow; try unfold bI
      (repeat' split) <;> first | (exfalso; omega) | contradiction | rfl
    exact z_iret (pc := 130) dX3_now_130 (by rw [e9]) (by rw [e9])
set_option maxHeartbeats 8000000 in
set_option maxRecDepth 100000 in
theorem c_X3_child (l : Launch) (D : va_G) (cI cJ cB cS : ClassId) (xa : XA) (x h hK hH hM hO t k0 tp sh fi : Nat) (ik : Int32) (g : Gd) (fd : FF) (k : Int) (ok : Ok g) (rk : inr k) : Ct l D cI cJ cB cS xa yX3_child cX3_child 2 (some .int) 2 42 [.ref x, .int (iI k)] [(x, .inr (3, [.ref h, .ref t, .ref k0, .int ik, .ref tp, .ref sh, .ref fi])), (h, oG g hK hH hM hO), (hK, .inl (cI, 8, .inl (aG g 0))), (hH, .inl (cI, 8, .inl (aG g 1))), (hM, .inl (cI, 8, .inl (aG g 2))), (hO, .inl (cI, 8, .inl (aG g 3))), (fi, .inl (cI, 7, .inl (ar fd)))] (some (.int ((opChild g fd k).1))) [(x, .inr (3, [.ref h, .ref t, .ref k0, .int ik, .ref tp, .ref sh, .ref fi])), (h, oG ((opChild g fd k).2.1) hK hH hM hO), (hK, .inl (cI, 8, .inl (aG ((opChild g fd k).2.1) 0))), (hH, .inl (cI, 8, .inl (aG ((opChild g fd k).2.1) 1))), (hM, .inl (cI, 8, .inl (aG ((opChild g fd k).2.1) 2))), (hO, .inl (cI, 8, .inl (aG ((opChild g fd k).2.1) 3))), (fi, .inl (cI, 7, .inl (ar ((opChild g fd k).2.2))))] := by
  have o0 := ok0 ok
  have o1 := ok1 ok
  have o2 := ok2 ok
  refine CtE.of (own := RX3) (lv := [(0, .ref x), (1, .int (iI k))]) (by decide) rfl rfl (Nat.le_of_ble_eq_true rfl) ?_
  intro xp xe xs xm xb xt xc
  refine z_iload_n (pc := 0) dX3_child_0 1 rfl ?_
  refine z_callS (pc := 1) (st := []) (st2 := [.int (bI (0 ≤ k ∧ k ≤ 5))]) (ws2 := [(x, .inr (3, [.ref h, .ref t, .ref k0, .int ik, .ref tp, .ref sh, .ref fi])), (h, oG g hK hH hM hO), (hK, .inl (cI, 8, .inl (aG g 0))), (hH, .inl (cI, 8, .inl (aG g 1))), (hM, .inl (cI, 8, .inl (aG g 2))), (hO, .inl (cI, 8, .inl (aG g 3))), (fi, .inl (cI, 7, .inl (ar fd)))]) (c_X3_isKind l D cI cJ cB cS xa k (by omega)) mS_X3_isKind kM_X3_90 dX3_child_1 [] rfl rfl rfl rfl rfl rfl rfl rfl ⟨Nat.le_of_ble_eq_true rfl, Nat.le_of_ble_eq_true rfl, Nat.le_of_ble_eq_true rfl⟩ ?_
  refine z_ifb_ne (pc := 4) (tgt := 13) dX3_child_4 (by decide) (fun h4 => ?_) (fun h4 => ?_)
  · skip
    refine z_aload_n (pc := 13) dX3_child_13 0 rfl ?_
    refine z_get (pc := 14) (q0 := 0) (v := .ref h) fL_X3_10 dX3_child_14 rfl rfl ?_
    refine z_callV (pc := 17) (st := []) (st2 := [.int (bI (g 4 2 < 8))]) (ws2 := [(x, .inr (3, [.ref h, .ref t, .ref k0, .int ik, .ref tp, .ref sh, .ref fi])), (h, oG g hK hH hM hO), (hK, .inl (cI, 8, .inl (aG g 0))), (hH, .inl (cI, 8, .inl (aG g 1))), (hM, .inl (cI, 8, .inl (aG g 2))), (hO, .inl (cI, 8, .inl (aG g 3))), (fi, .inl (cI, 7, .inl (ar fd)))]) (q0 := 1) (c_X0_hasRoom l D cI cJ cB cS xa h hK hH hM hO g ok) mV_X0_hasRoom kM_X3_94 dX3_child_17 rfl rfl [1] rfl rfl rfl rfl rfl rfl rfl rfl ⟨Nat.le_of_ble_eq_true rfl, Nat.le_of_ble_eq_true rfl, Nat.le_of_ble_eq_true rfl⟩ ?_
    refine z_ifb_ne (pc := 20) (tgt := 29) dX3_child_20 (by decide) (fun h20 => ?_) (fun h20 => ?_)
    · skip
      refine z_aload_n (pc := 29) dX3_child_29 0 rfl ?_
      refine z_get (pc := 30) (q0 := 0) (v := .ref h) fL_X3_10 dX3_child_30 rfl rfl ?_
      refine z_iload_n (pc := 33) dX3_child_33 1 rfl ?_
      refine z_callV (pc := 34) (st := []) (st2 := [.int (iI (g 4 2))]) (ws2 := [(x, .inr (3, [.ref h, .ref t, .ref k0, .int ik, .ref tp, .ref sh, .ref fi])), (h, oG (addG g k 50 5) hK hH hM hO), (hK, .inl (cI, 8, .inl (aG (addG g k 50 5) 0))), (hH, .inl (cI, 8, .inl (aG (addG g k 50 5) 1))), (hM, .inl (cI, 8, .inl (aG (addG g k 50 5) 2))), (hO, .inl (cI, 8, .inl (aG (addG g k 50 5) 3))), (fi, .inl (cI, 7, .inl (ar fd)))]) (q0 := 1) (c_X0_addOne l D cI cJ cB cS xa h hK hH hM hO g k ok (by omega) (by omega)) mV_X0_addOne kM_X3_97 dX3_child_34 rfl rfl [1, 2, 3, 4, 5] rfl rfl rfl rfl rfl rfl rfl rfl ⟨Nat.le_of_ble_eq_true rfl, Nat.le_of_ble_eq_true rfl, Nat.le_of_ble_eq_true rfl⟩ ?_
      have ok34_1 : Ok (addG g k 50 5) := addG_ok ok (by omega) (by omega) (by omega) (by omega)
      have e9 : opChild g fd k = ((iI (g 4 2)), addG g k 50 5, fd) := by
        unfold opChild; try unfold bI
        (repeat' split) <;> first | (exfalso; omega) | contradiction | rfl
      exact z_iret (pc := 37) dX3_child_37 (by rw [e9]) (by rw [e9])
    · skip
      refine z_aload_n (pc := 23) dX3_child_23 0 rfl ?_
      refine z_iconst (pc := 24) dX3_child_24 ?_
      refine z_callV (pc := 25) (st := []) (st2 := [.int (iI (-1000000001 - 1))]) (ws2 := [(x, .inr (3, [.ref h, .ref t, .ref k0, .int ik, .ref tp, .ref sh, .ref fi])), (h, oG g hK hH hM hO), (hK, .inl (cI, 8, .inl (aG g 0))), (hH, .inl (cI, 8, .inl (aG g 1))), (hM, .inl (cI, 8, .inl (aG g 2))), (hO, .inl (cI, 8, .inl (aG g 3))), (fi, .inl (cI, 7, .inl (ar (fnd fd 1))))]) (q0 := 0) (c_X3_found l D cI cJ cB cS xa x h t k0 tp sh fi ik fd 1 (by omega)) mV_X3_found kM_X3_48 dX3_child_25 rfl rfl [0, 6] rfl rfl rfl rfl rfl rfl rfl rfl ⟨Nat.le_of_ble_eq_true rfl, Nat.le_of_ble_eq_true rfl, Nat.le_of_ble_eq_true rfl⟩ ?_
      have e9 : opChild g fd k = ((iI (-1000000001 - 1)), g, fnd fd 1) := by
        unfold opChild; try unfold bI
        (repeat' split) <;> first | (exfalso; omega) | contradiction | rfl
      exact z_iret (pc := 28) dX3_child_28 (by rw [e9]) (by rw [e9])
  · skip
    refine z_aload_n (pc := 7) dX3_child_7 0 rfl ?_
    refine z_iconst (pc := 8) dX3_child_8 ?_
    refine z_callV (pc := 9) (st := []) (st2 := [.int (iI (-1000000001 - 0))]) (ws2 := [(x, .inr (3, [.ref h, .ref t, .ref k0, .int ik, .ref tp, .ref sh, .ref fi])), (h, oG g hK hH hM hO), (hK, .inl (cI, 8, .inl (aG g 0))), (hH, .inl (cI, 8, .inl (aG g 1))), (hM, .inl (cI, 8, .inl (aG g 2))), (hO, .inl (cI, 8, .inl (aG g 3))), (fi, .inl (cI, 7, .inl (ar (fnd fd 0))))]) (q0 := 0) (c_X3_found l D cI cJ cB cS xa x h t k0 tp sh fi ik fd 0 (by omega)) mV_X3_found kM_X3_48 dX3_child_9 rfl rfl [0, 6] rfl rfl rfl rfl rfl rfl rfl rfl ⟨Nat.le_of_ble_eq_true rfl, Nat.le_of_ble_eq_true rfl, Nat.le_of_ble_eq_true rfl⟩ ?_
    have e9 : opChild g fd k = ((iI (-1000000001 - 0)), g, fnd fd 0) := by
      unfold opChild; try unfold bI
      (repeat' split) <;> first | (exfalso; omega) | contradiction | rfl
    exact z_iret (pc := 12) dX3_child_12 (by rw [e9]) (by rw [e9])
set_option maxHeartbeats 8000000 in
set_option maxRecDepth 100000 in
theorem c_X3_of (l : Launch) (D : va_G) (cI cJ cB cS : ClassId) (xa : XA) (x h hK hH hM hO t k0 tp sh fi : Nat) (ik : Int32) (g : Gd) (fd : FF) (c w : Int) (ok : Ok g) (rc : inr c) (rw : inr w) : Ct l D cI cJ cB cS xa yX3_of cX3_of 3 (some .int) 2 45 [.ref x, .int (iI c), .int (iI w)] [(x, .inr (3, [.ref h, .ref t, .ref k0, .int ik, .ref tp, .ref sh, .ref fi])), (h, oG g hK hH hM hO), (hK, .inl (cI, 8, .inl (aG g 0))), (hH, .inl (cI, 8, .inl (aG g 1))), (hM, .inl (cI, 8, .inl (aG g 2))), (hO, .inl (cI, 8, .inl (aG g 3))), (fi, .inl (cI, 7, .inl (ar fd)))] (some (.int ((opOf g fd c w).1))) [(x, .inr (3, [.ref h, .ref t, .ref k0, .int ik, .ref tp, .ref sh, .ref fi])), (h, oG g hK hH hM hO), (hK, .inl (cI, 8, .inl (aG g 0))), (hH, .inl (cI, 8, .inl (aG g 1))), (hM, .inl (cI, 8, .inl (aG g 2))), (hO, .inl (cI, 8, .inl (aG g 3))), (fi, .inl (cI, 7, .inl (ar ((opOf g fd c w).2))))] := by
  have o0 := ok0 ok
  have o1 := ok1 ok
  have o2 := ok2 ok
  refine CtE.of (own := RX3) (lv := [(0, .ref x), (1, .int (iI c)), (2, .int (iI w))]) (by decide) rfl rfl (Nat.le_of_ble_eq_true rfl) ?_
  intro xp xe xs xm xb xt xc
  refine z_aload_n (pc := 0) dX3_of_0 0 rfl ?_
  refine z_iload_n (pc := 1) dX3_of_1 1 rfl ?_
  refine z_callV (pc := 2) (st := []) (st2 := [.int (bI (0 ≤ c ∧ c < g 4 2))]) (ws2 := [(x, .inr (3, [.ref h, .ref t, .ref k0, .int ik, .ref tp, .ref sh, .ref fi])), (h, oG g hK hH hM hO), (hK, .inl (cI, 8, .inl (aG g 0))), (hH, .inl (cI, 8, .inl (aG g 1))), (hM, .inl (cI, 8, .inl (aG g 2))), (hO, .inl (cI, 8, .inl (aG g 3))), (fi, .inl (cI, 7, .inl (ar fd)))]) (q0 := 0) (c_X3_isChild l D cI cJ cB cS xa x h hK hH hM hO t k0 tp sh fi ik g c ok (by omega)) mV_X3_isChild kM_X3_100 dX3_of_2 rfl rfl [0, 1] rfl rfl rfl rfl rfl rfl rfl rfl ⟨Nat.le_of_ble_eq_true rfl, Nat.le_of_ble_eq_true rfl, Nat.le_of_ble_eq_true rfl⟩ ?_
  refine z_ifb_ne (pc := 5) (tgt := 14) dX3_of_5 (by decide) (fun h5 => ?_) (fun h5 => ?_)
  · skip
    refine z_iload_n (pc := 14) dX3_of_14 2 rfl ?_
    by_cases h15 : 0 ≤ w ∧ w ≤ 6
    · skip
      have h15v : w = 0 ∨ w = 1 ∨ w = 2 ∨ w = 3 ∨ w = 4 ∨ w = 5 ∨ w = 6 := by omega
      rcases h15v with h15v | h15v | h15v | h15v | h15v | h15v | h15v
      · skip
        refine z_tableIn (pc := 15) (tgt := 56) dX3_of_15 (by omega) (by omega) (by omega) (by rw [h15v]; rfl) (by decide) ?_
        refine z_aload_n (pc := 56) dX3_of_56 0 rfl ?_
        refine z_get (pc := 57) (q0 := 0) (v := .ref h) fL_X3_10 dX3_of_57 rfl rfl ?_
        refine z_get (pc := 60) (q0 := 1) (v := .ref hK) fL_X3_103 dX3_of_60 rfl rfl ?_
        refine z_iload_n (pc := 63) dX3_of_63 1 rfl ?_
        refine z_iald (pc := 64) (q0 := 2) (v := (iI (g 0 c))) dX3_of_64 rfl (by omega) (by decide) (aG_at (by omega)) ?_
        have b1 := okK ok c
        have e9 : opOf g fd c w = ((iI (g 0 c)), fd) := by
          unfold opOf; try unfold bI
          (repeat' split) <;> first | (exfalso; omega) | contradiction | rfl
        exact z_iret (pc := 65) dX3_of_65 (by rw [e9]) (by rw [e9])
      · skip
        refine z_tableIn (pc := 15) (tgt := 66) dX3_of_15 (by omega) (by omega) (by omega) (by rw [h15v]; rfl) (by decide) ?_
        refine z_aload_n (pc := 66) dX3_of_66 0 rfl ?_
        refine z_get (pc := 67) (q0 := 0) (v := .ref h) fL_X3_10 dX3_of_67 rfl rfl ?_
        refine z_get (pc := 70) (q0 := 1) (v := .ref hH) fL_X3_74 dX3_of_70 rfl rfl ?_
        refine z_iload_n (pc := 73) dX3_of_73 1 rfl ?_
        refine z_iald (pc := 74) (q0 := 3) (v := (iI (g 1 c))) dX3_of_74 rfl (by omega) (by decide) (aG_at (by omega)) ?_
        have b2 := okH ok c
        have e9 : opOf g fd c w = ((iI (g 1 c)), fd) := by
          unfold opOf; try unfold bI
          (repeat' split) <;> first | (exfalso; omega) | contradiction | rfl
        exact z_iret (pc := 75) dX3_of_75 (by rw [e9]) (by rw [e9])
      · skip
        refine z_tableIn (pc := 15) (tgt := 76) dX3_of_15 (by omega) (by omega) (by omega) (by rw [h15v]; rfl) (by decide) ?_
        refine z_aload_n (pc := 76) dX3_of_76 0 rfl ?_
        refine z_get (pc := 77) (q0 := 0) (v := .ref h) fL_X3_10 dX3_of_77 rfl rfl ?_
        refine z_get (pc := 80) (q0 := 1) (v := .ref hM) fL_X3_106 dX3_of_80 rfl rfl ?_
        refine z_iload_n (pc := 83) dX3_of_83 1 rfl ?_
        refine z_iald (pc := 84) (q0 := 4) (v := (iI (g 2 c))) dX3_of_84 rfl (by omega) (by decide) (aG_at (by omega)) ?_
        have b3 := okM ok c
        have e9 : opOf g fd c w = ((iI (g 2 c)), fd) := by
          unfold opOf; try unfold bI
          (repeat' split) <;> first | (exfalso; omega) | contradiction | rfl
        exact z_iret (pc := 85) dX3_of_85 (by rw [e9]) (by rw [e9])
      · skip
        refine z_tableIn (pc := 15) (tgt := 86) dX3_of_15 (by omega) (by omega) (by omega) (by rw [h15v]; rfl) (by decide) ?_
        refine z_ldc (pc := 86) (n := 100000) kC_X3_109 dX3_of_86 (by decide) ?_
        refine z_aload_n (pc := 88) dX3_of_88 0 rfl ?_
        refine z_get (pc := 89) (q0 := 0) (v := .ref h) fL_X3_10 dX3_of_89 rfl rfl ?_
        refine z_get (pc := 92) (q0 := 1) (v := .ref hO) fL_X3_110 dX3_of_92 rfl rfl ?_
        refine z_iload_n (pc := 95) dX3_of_95 1 rfl ?_
        refine z_iald (pc := 96) (q0 := 5) (v := (iI (g 3 c))) dX3_of_96 rfl (by omega) (by decide) (aG_at (by omega)) ?_
        have b4 := okO ok c
        refine z_iadd (pc := 97) dX3_of_97 ?_
        have e9 : opOf g fd c w = ((iI (100000 + (g 3 c))), fd) := by
          unfold opOf; try unfold bI
          (repeat' split) <;> first | (exfalso; omega) | contradiction | rfl
        exact z_iret (pc := 98) dX3_of_98 (by rw [e9]) (by rw [e9])
      · skip
        refine z_tableIn (pc := 15) (tgt := 99) dX3_of_15 (by omega) (by omega) (by omega) (by rw [h15v]; rfl) (by decide) ?_
        refine z_bipush (pc := 99) dX3_of_99 (by decide) ?_
        refine z_aload_n (pc := 101) dX3_of_101 0 rfl ?_
        refine z_get (pc := 102) (q0 := 0) (v := .ref h) fL_X3_10 dX3_of_102 rfl rfl ?_
        refine z_iload_n (pc := 105) dX3_of_105 1 rfl ?_
        refine z_callV (pc := 106) (st := [.int (iI 100)]) (st2 := [.int (iI (wantsG g c)), .int (iI 100)]) (ws2 := [(x, .inr (3, [.ref h, .ref t, .ref k0, .int ik, .ref tp, .ref sh, .ref fi])), (h, oG g hK hH hM hO), (hK, .inl (cI, 8, .inl (aG g 0))), (hH, .inl (cI, 8, .inl (aG g 1))), (hM, .inl (cI, 8, .inl (aG g 2))), (hO, .inl (cI, 8, .inl (aG g 3))), (fi, .inl (cI, 7, .inl (ar fd)))]) (q0 := 1) (c_X0_wantsOf l D cI cJ cB cS xa h hK hH hM hO g c ok (by omega) (by omega)) mV_X0_wantsOf kM_X3_113 dX3_of_106 rfl rfl [1, 2, 3] rfl rfl rfl rfl rfl rfl rfl rfl ⟨Nat.le_of_ble_eq_true rfl, Nat.le_of_ble_eq_true rfl, Nat.le_of_ble_eq_true rfl⟩ ?_
        have f106_5 := wantsG_rng g c
        refine z_iadd (pc := 109) dX3_of_109 ?_
        have e9 : opOf g fd c w = ((iI (100 + (wantsG g c))), fd) := by
          unfold opOf; try unfold bI
          (repeat' split) <;> first | (exfalso; omega) | contradiction | rfl
        exact z_iret (pc := 110) dX3_of_110 (by rw [e9]) (by rw [e9])
      · skip
        refine z_tableIn (pc := 15) (tgt := 111) dX3_of_15 (by omega) (by omega) (by omega) (by rw [h15v]; rfl) (by decide) ?_
        refine z_aload_n (pc := 111) dX3_of_111 0 rfl ?_
        refine z_get (pc := 112) (q0 := 0) (v := .ref h) fL_X3_10 dX3_of_112 rfl rfl ?_
        refine z_iload_n (pc := 115) dX3_of_115 1 rfl ?_
        refine z_callV (pc := 116) (st := []) (st2 := [.int (iI (paysG g c))]) (ws2 := [(x, .inr (3, [.ref h, .ref t, .ref k0, .int ik, .ref tp, .ref sh, .ref fi])), (h, oG g hK hH hM hO), (hK, .inl (cI, 8, .inl (aG g 0))), (hH, .inl (cI, 8, .inl (aG g 1))), (hM, .inl (cI, 8, .inl (aG g 2))), (hO, .inl (cI, 8, .inl (aG g 3))), (fi, .inl (cI, 7, .inl (ar fd)))]) (q0 := 1) (c_X0_paysOf l D cI cJ cB cS xa h hK hH hM hO g c ok (by omega) (by omega)) mV_X0_paysOf kM_X3_116 dX3_of_116 rfl rfl [1, 2] rfl rfl rfl rfl rfl rfl rfl rfl ⟨Nat.le_of_ble_eq_true rfl, Nat.le_of_ble_eq_true rfl, Nat.le_of_ble_eq_true rfl⟩ ?_
        have f116_6 := paysG_rng g c
        have e9 : opOf g fd c w = ((iI (paysG g c)), fd) := by
          unfold opOf; try unfold bI
          (repeat' split) <;> first | (exfalso; omega) | contradiction | rfl
        exact z_iret (pc := 119) dX3_of_119 (by rw [e9]) (by rw [e9])
      · skip
        refine z_tableIn (pc := 15) (tgt := 120) dX3_of_15 (by omega) (by omega) (by omega) (by rw [h15v]; rfl) (by decide) ?_
        refine z_aload_n (pc := 120) dX3_of_120 0 rfl ?_
        refine z_get (pc := 121) (q0 := 0) (v := .ref h) fL_X3_10 dX3_of_121 rfl rfl ?_
        refine z_iload_n (pc := 124) dX3_of_124 1 rfl ?_
        refine z_callV (pc := 125) (st := []) (st2 := [.int (iI (yieldsG g c))]) (ws2 := [(x, .inr (3, [.ref h, .ref t, .ref k0, .int ik, .ref tp, .ref sh, .ref fi])), (h, oG g hK hH hM hO), (hK, .inl (cI, 8, .inl (aG g 0))), (hH, .inl (cI, 8, .inl (aG g 1))), (hM, .inl (cI, 8, .inl (aG g 2))), (hO, .inl (cI, 8, .inl (aG g 3))), (fi, .inl (cI, 7, .inl (ar fd)))]) (q0 := 1) (c_X0_yieldsOf l D cI cJ cB cS xa h hK hH hM hO g c ok (by omega) (by omega)) mV_X0_yieldsOf kM_X3_119 dX3_of_125 rfl rfl [1, 2, 3] rfl rfl rfl rfl rfl rfl rfl rfl ⟨Nat.le_of_ble_eq_true rfl, Nat.le_of_ble_eq_true rfl, Nat.le_of_ble_eq_true rfl⟩ ?_
        have f125_7 := yieldsG_rng ok c
        have e9 : opOf g fd c w = ((iI (yieldsG g c)), fd) := by
          unfold opOf; try unfold bI
          (repeat' split) <;> first | (exfalso; omega) | contradiction | rfl
        exact z_iret (pc := 128) dX3_of_128 (by rw [e9]) (by rw [e9])
    · skip
      refine z_tableOut (pc := 15) (tgt := 129) dX3_of_15 (by omega) (by omega) (by decide) ?_
      refine z_aload_n (pc := 129) dX3_of_129 0 rfl ?_
      refine z_iconst (pc := 130) dX3_of_130 ?_
      refine z_callV (pc := 131) (st := []) (st2 := [.int (iI (-1000000001 - 0))]) (ws2 := [(x, .inr (3, [.ref h, .ref t, .ref k0, .int ik, .ref tp, .ref sh, .ref fi])), (h, oG g hK hH hM hO), (hK, .inl (cI, 8, .inl (aG g 0))), (hH, .inl (cI, 8, .inl (aG g 1))), (hM, .inl (cI, 8, .inl (aG g 2))), (hO, .inl (cI, 8, .inl (aG g 3))), (fi, .inl (cI, 7, .inl (ar (fnd fd 0))))]) (q0 := 0) (c_X3_found l D cI cJ cB cS xa x h t k0 tp sh fi ik fd 0 (by omega)) mV_X3_found kM_X3_48 dX3_of_131 rfl rfl [0, 6] rfl rfl rfl rfl rfl rfl rfl rfl ⟨Nat.le_of_ble_eq_true rfl, Nat.le_of_ble_eq_true rfl, Nat.le_of_ble_eq_true rfl⟩ ?_
      have e9 : opOf g fd c w = ((iI (-1000000001 - 0)), fnd fd 0) := by
        unfold opOf; try unfold bI
        (repeat' split) <;> first | (exfalso; omega) | contradiction | rfl
      exact z_iret (pc := 134) dX3_of_134 (by rw [e9]) (by rw [e9])
  · skip
    refine z_aload_n (pc := 8) dX3_of_8 0 rfl ?_
    refine z_iconst (pc := 9) dX3_of_9 ?_
    refine z_callV (pc := 10) (st := []) (st2 := [.int (iI (-1000000001 - 0))]) (ws2 := [(x, .inr (3, [.ref h, .ref t, .ref k0, .int ik, .ref tp, .ref sh, .ref fi])), (h, oG g hK hH hM hO), (hK, .inl (cI, 8, .inl (aG g 0))), (hH, .inl (cI, 8, .inl (aG g 1))), (hM, .inl (cI, 8, .inl (aG g 2))), (hO, .inl (cI, 8, .inl (aG g 3))), (fi, .inl (cI, 7, .inl (ar (fnd fd 0))))]) (q0 := 0) (c_X3_found l D cI cJ cB cS xa x h t k0 tp sh fi ik fd 0 (by omega)) mV_X3_found kM_X3_48 dX3_of_10 rfl rfl [0, 6] rfl rfl rfl rfl rfl rfl rfl rfl ⟨Nat.le_of_ble_eq_true rfl, Nat.le_of_ble_eq_true rfl, Nat.le_of_ble_eq_true rfl⟩ ?_
    have e9 : opOf g fd c w = ((iI (-1000000001 - 0)), fnd fd 0) := by
      unfold opOf; try unfold bI
      (repeat' split) <;> first | (exfalso; omega) | contradiction | rfl
    exact z_iret (pc := 13) dX3_of_13 (by rw [e9]) (by rw [e9])
set_option maxHeartbeats 8000000 in
set_option maxRecDepth 100000 in
theorem c_X3_set (l : Launch) (D : va_G) (cI cJ cB cS : ClassId) (xa : XA) (x h hK hH hM hO t k0 tp sh fi : Nat) (ik : Int32) (g : Gd) (fd : FF) (c w v : Int) (ok : Ok g) (rc : inr c) (rw : inr w) (rv : inr v) : Ct l D cI cJ cB cS xa yX3_set cX3_set 4 (some .int) 2 48 [.ref x, .int (iI c), .int (iI w), .int (iI v)] [(x, .inr (3, [.ref h, .ref t, .ref k0, .int ik, .ref tp, .ref sh, .ref fi])), (h, oG g hK hH hM hO), (hK, .inl (cI, 8, .inl (aG g 0))), (hH, .inl (cI, 8, .inl (aG g 1))), (hM, .inl (cI, 8, .inl (aG g 2))), (hO, .inl (cI, 8, .inl (aG g 3))), (fi, .inl (cI, 7, .inl (ar fd)))] (some (.int ((opSet g fd c w v).1))) [(x, .inr (3, [.ref h, .ref t, .ref k0, .int ik, .ref tp, .ref sh, .ref fi])), (h, oG ((opSet g fd c w v).2.1) hK hH hM hO), (hK, .inl (cI, 8, .inl (aG ((opSet g fd c w v).2.1) 0))), (hH, .inl (cI, 8, .inl (aG ((opSet g fd c w v).2.1) 1))), (hM, .inl (cI, 8, .inl (aG ((opSet g fd c w v).2.1) 2))), (hO, .inl (cI, 8, .inl (aG ((opSet g fd c w v).2.1) 3))), (fi, .inl (cI, 7, .inl (ar ((opSet g fd c w v).2.2))))] := by
  have o0 := ok0 ok
  have o1 := ok1 ok
  have o2 := ok2 ok
  refine CtE.of (own := RX3) (lv := [(0, .ref x), (1, .int (iI c)), (2, .int (iI w)), (3, .int (iI v))]) (by decide) rfl rfl (Nat.le_of_ble_eq_true rfl) ?_
  intro xp xe xs xm xb xt xc
  refine z_aload_n (pc := 0) dX3_set_0 0 rfl ?_
  refine z_iload_n (pc := 1) dX3_set_1 1 rfl ?_
  refine z_callV (pc := 2) (st := []) (st2 := [.int (bI (0 ≤ c ∧ c < g 4 2))]) (ws2 := [(x, .inr (3, [.ref h, .ref t, .ref k0, .int ik, .ref tp, .ref sh, .ref fi])), (h, oG g hK hH hM hO), (hK, .inl (cI, 8, .inl (aG g 0))), (hH, .inl (cI, 8, .inl (aG g 1))), (hM, .inl (cI, 8, .inl (aG g 2))), (hO, .inl (cI, 8, .inl (aG g 3))), (fi, .inl (cI, 7, .inl (ar fd)))]) (q0 := 0) (c_X3_isChild l D cI cJ cB cS xa x h hK hH hM hO t k0 tp sh fi ik g c ok (by omega)) mV_X3_isChild kM_X3_100 dX3_set_2 rfl rfl [0, 1] rfl rfl rfl rfl rfl rfl rfl rfl ⟨Nat.le_of_ble_eq_true rfl, Nat.le_of_ble_eq_true rfl, Nat.le_of_ble_eq_true rfl⟩ ?_
  refine z_ifb_ne (pc := 5) (tgt := 14) dX3_set_5 (by decide) (fun h5 => ?_) (fun h5 => ?_)
  · skip
    refine z_iload_n (pc := 14) dX3_set_14 2 rfl ?_
    by_cases h15 : 1 ≤ w ∧ w ≤ 3
    · skip
      have h15v : w = 1 ∨ w = 2 ∨ w = 3 := by omega
      rcases h15v with h15v | h15v | h15v
      · skip
        refine z_tableIn (pc := 15) (tgt := 40) dX3_set_15 (by omega) (by omega) (by omega) (by rw [h15v]; rfl) (by decide) ?_
        refine z_aload_n (pc := 40) dX3_set_40 0 rfl ?_
        refine z_aload_n (pc := 41) dX3_set_41 0 rfl ?_
        refine z_get (pc := 42) (q0 := 0) (v := .ref h) fL_X3_10 dX3_set_42 rfl rfl ?_
        refine z_get (pc := 45) (q0 := 1) (v := .ref hH) fL_X3_74 dX3_set_45 rfl rfl ?_
        refine z_iload_n (pc := 48) dX3_set_48 1 rfl ?_
        refine z_iload_n (pc := 49) dX3_set_49 3 rfl ?_
        refine z_iconst (pc := 50) dX3_set_50 ?_
        refine z_sipush (pc := 51) dX3_set_51 (by decide) ?_
        refine z_callV (pc := 54) (st := []) (st2 := [.int ((opPut g fd 1 c v 0 200).1)]) (ws2 := [(x, .inr (3, [.ref h, .ref t, .ref k0, .int ik, .ref tp, .ref sh, .ref fi])), (h, oG g hK hH hM hO), (hK, .inl (cI, 8, .inl (aG g 0))), (hH, .inl (cI, 8, .inl (aG ((opPut g fd 1 c v 0 200).2.1) 1))), (hM, .inl (cI, 8, .inl (aG g 2))), (hO, .inl (cI, 8, .inl (aG g 3))), (fi, .inl (cI, 7, .inl (ar ((opPut g fd 1 c v 0 200).2.2))))]) (q0 := 0) (c_X3_put l D cI cJ cB cS xa x h t k0 tp sh fi ik g fd hH 1 c v 0 200 (by omega) (by omega) (by omega) (by omega)) mV_X3_put kM_X3_122 dX3_set_54 rfl rfl [0, 3, 6] rfl rfl rfl rfl rfl rfl rfl rfl ⟨Nat.le_of_ble_eq_true rfl, Nat.le_of_ble_eq_true rfl, Nat.le_of_ble_eq_true rfl⟩ ?_
        by_cases hp : 0 ≤ v ∧ v ≤ 200
        · skip
          have eP : opPut g fd 1 c v 0 200 = (iI (g 1 c), up2 g 1 c v, fd) := by unfold opPut; rw [if_pos hp]
          refine z_st (st2 := [.int (iI (g 1 c))]) (by rw [eP]) ?_
          refine z_ws (ws2 := [(x, .inr (3, [.ref h, .ref t, .ref k0, .int ik, .ref tp, .ref sh, .ref fi])), (h, oG (up2 g 1 c v) hK hH hM hO), (hK, .inl (cI, 8, .inl (aG (up2 g 1 c v) 0))), (hH, .inl (cI, 8, .inl (aG (up2 g 1 c v) 1))), (hM, .inl (cI, 8, .inl (aG (up2 g 1 c v) 2))), (hO, .inl (cI, 8, .inl (aG (up2 g 1 c v) 3))), (fi, .inl (cI, 7, .inl (ar fd)))]) (by rw [eP]; try rfl) ?_
          have e9 : opSet g fd c w v = ((iI (g 1 c)), up2 g 1 c v, fd) := by
            obtain rfl : w = 1 := by omega
            unfold opSet; try unfold bI
            (repeat' split) <;> first | (exfalso; omega) | contradiction | rfl
          exact z_iret (pc := 57) dX3_set_57 (by rw [e9]) (by rw [e9])
        · skip
          have eP : opPut g fd 1 c v 0 200 = (fin 0, g, fnd fd 0) := by unfold opPut; rw [if_neg hp]
          refine z_st (st2 := [.int (fin 0)]) (by rw [eP]) ?_
          refine z_ws (ws2 := [(x, .inr (3, [.ref h, .ref t, .ref k0, .int ik, .ref tp, .ref sh, .ref fi])), (h, oG g hK hH hM hO), (hK, .inl (cI, 8, .inl (aG g 0))), (hH, .inl (cI, 8, .inl (aG g 1))), (hM, .inl (cI, 8, .inl (aG g 2))), (hO, .inl (cI, 8, .inl (aG g 3))), (fi, .inl (cI, 7, .inl (ar (fnd fd 0))))]) (by rw [eP]; try rfl) ?_
          have e9 : opSet g fd c w v = ((fin 0), g, fnd fd 0) := by
            obtain rfl : w = 1 := by omega
            unfold opSet; try unfold bI
            (repeat' split) <;> first | (exfalso; omega) | contradiction | rfl
          exact z_iret (pc := 57) dX3_set_57 (by rw [e9]) (by rw [e9])
      · skip
        refine z_tableIn (pc := 15) (tgt := 58) dX3_set_15 (by omega) (by omega) (by omega) (by rw [h15v]; rfl) (by decide) ?_
        refine z_aload_n (pc := 58) dX3_set_58 0 rfl ?_
        refine z_aload_n (pc := 59) dX3_set_59 0 rfl ?_
        refine z_get (pc := 60) (q0 := 0) (v := .ref h) fL_X3_10 dX3_set_60 rfl rfl ?_
        refine z_get (pc := 63) (q0 := 1) (v := .ref hM) fL_X3_106 dX3_set_63 rfl rfl ?_
        refine z_iload_n (pc := 66) dX3_set_66 1 rfl ?_
        refine z_iload_n (pc := 67) dX3_set_67 3 rfl ?_
        refine z_iconst (pc := 68) dX3_set_68 ?_
        refine z_bipush (pc := 69) dX3_set_69 (by decide) ?_
        refine z_callV (pc := 71) (st := []) (st2 := [.int ((opPut g fd 2 c v 0 99).1)]) (ws2 := [(x, .inr (3, [.ref h, .ref t, .ref k0, .int ik, .ref tp, .ref sh, .ref fi])), (h, oG g hK hH hM hO), (hK, .inl (cI, 8, .inl (aG g 0))), (hH, .inl (cI, 8, .inl (aG g 1))), (hM, .inl (cI, 8, .inl (aG ((opPut g fd 2 c v 0 99).2.1) 2))), (hO, .inl (cI, 8, .inl (aG g 3))), (fi, .inl (cI, 7, .inl (ar ((opPut g fd 2 c v 0 99).2.2))))]) (q0 := 0) (c_X3_put l D cI cJ cB cS xa x h t k0 tp sh fi ik g fd hM 2 c v 0 99 (by omega) (by omega) (by omega) (by omega)) mV_X3_put kM_X3_122 dX3_set_71 rfl rfl [0, 4, 6] rfl rfl rfl rfl rfl rfl rfl rfl ⟨Nat.le_of_ble_eq_true rfl, Nat.le_of_ble_eq_true rfl, Nat.le_of_ble_eq_true rfl⟩ ?_
        by_cases hp : 0 ≤ v ∧ v ≤ 99
        · skip
          have eP : opPut g fd 2 c v 0 99 = (iI (g 2 c), up2 g 2 c v, fd) := by unfold opPut; rw [if_pos hp]
          refine z_st (st2 := [.int (iI (g 2 c))]) (by rw [eP]) ?_
          refine z_ws (ws2 := [(x, .inr (3, [.ref h, .ref t, .ref k0, .int ik, .ref tp, .ref sh, .ref fi])), (h, oG (up2 g 2 c v) hK hH hM hO), (hK, .inl (cI, 8, .inl (aG (up2 g 2 c v) 0))), (hH, .inl (cI, 8, .inl (aG (up2 g 2 c v) 1))), (hM, .inl (cI, 8, .inl (aG (up2 g 2 c v) 2))), (hO, .inl (cI, 8, .inl (aG (up2 g 2 c v) 3))), (fi, .inl (cI, 7, .inl (ar fd)))]) (by rw [eP]; try rfl) ?_
          have e9 : opSet g fd c w v = ((iI (g 2 c)), up2 g 2 c v, fd) := by
            obtain rfl : w = 2 := by omega
            unfold opSet; try unfold bI
            (repeat' split) <;> first | (exfalso; omega) | contradiction | rfl
          exact z_iret (pc := 74) dX3_set_74 (by rw [e9]) (by rw [e9])
        · skip
          have eP : opPut g fd 2 c v 0 99 = (fin 0, g, fnd fd 0) := by unfold opPut; rw [if_neg hp]
          refine z_st (st2 := [.int (fin 0)]) (by rw [eP]) ?_
          refine z_ws (ws2 := [(x, .inr (3, [.ref h, .ref t, .ref k0, .int ik, .ref tp, .ref sh, .ref fi])), (h, oG g hK hH hM hO), (hK, .inl (cI, 8, .inl (aG g 0))), (hH, .inl (cI, 8, .inl (aG g 1))), (hM, .inl (cI, 8, .inl (aG g 2))), (hO, .inl (cI, 8, .inl (aG g 3))), (fi, .inl (cI, 7, .inl (ar (fnd fd 0))))]) (by rw [eP]; try rfl) ?_
          have e9 : opSet g fd c w v = ((fin 0), g, fnd fd 0) := by
            obtain rfl : w = 2 := by omega
            unfold opSet; try unfold bI
            (repeat' split) <;> first | (exfalso; omega) | contradiction | rfl
          exact z_iret (pc := 74) dX3_set_74 (by rw [e9]) (by rw [e9])
      · skip
        refine z_tableIn (pc := 15) (tgt := 75) dX3_set_15 (by omega) (by omega) (by omega) (by rw [h15v]; rfl) (by decide) ?_
        refine z_aload_n (pc := 75) dX3_set_75 0 rfl ?_
        refine z_aload_n (pc := 76) dX3_set_76 0 rfl ?_
        refine z_get (pc := 77) (q0 := 0) (v := .ref h) fL_X3_10 dX3_set_77 rfl rfl ?_
        refine z_get (pc := 80) (q0 := 1) (v := .ref hO) fL_X3_110 dX3_set_80 rfl rfl ?_
        refine z_iload_n (pc := 83) dX3_set_83 1 rfl ?_
        refine z_iload_n (pc := 84) dX3_set_84 3 rfl ?_
        refine z_sipush (pc := 85) dX3_set_85 (by decide) ?_
        refine z_sipush (pc := 88) dX3_set_88 (by decide) ?_
        refine z_callV (pc := 91) (st := []) (st2 := [.int ((opPut g fd 3 c v (-9999) 9999).1)]) (ws2 := [(x, .inr (3, [.ref h, .ref t, .ref k0, .int ik, .ref tp, .ref sh, .ref fi])), (h, oG g hK hH hM hO), (hK, .inl (cI, 8, .inl (aG g 0))), (hH, .inl (cI, 8, .inl (aG g 1))), (hM, .inl (cI, 8, .inl (aG g 2))), (hO, .inl (cI, 8, .inl (aG ((opPut g fd 3 c v (-9999) 9999).2.1) 3))), (fi, .inl (cI, 7, .inl (ar ((opPut g fd 3 c v (-9999) 9999).2.2))))]) (q0 := 0) (c_X3_put l D cI cJ cB cS xa x h t k0 tp sh fi ik g fd hO 3 c v (-9999) 9999 (by omega) (by omega) (by omega) (by omega)) mV_X3_put kM_X3_122 dX3_set_91 rfl rfl [0, 5, 6] rfl rfl rfl rfl rfl rfl rfl rfl ⟨Nat.le_of_ble_eq_true rfl, Nat.le_of_ble_eq_true rfl, Nat.le_of_ble_eq_true rfl⟩ ?_
        by_cases hp : (-9999) ≤ v ∧ v ≤ 9999
        · skip
          have eP : opPut g fd 3 c v (-9999) 9999 = (iI (g 3 c), up2 g 3 c v, fd) := by unfold opPut; rw [if_pos hp]
          refine z_st (st2 := [.int (iI (g 3 c))]) (by rw [eP]) ?_
          refine z_ws (ws2 := [(x, .inr (3, [.ref h, .ref t, .ref k0, .int ik, .ref tp, .ref sh, .ref fi])), (h, oG (up2 g 3 c v) hK hH hM hO), (hK, .inl (cI, 8, .inl (aG (up2 g 3 c v) 0))), (hH, .inl (cI, 8, .inl (aG (up2 g 3 c v) 1))), (hM, .inl (cI, 8, .inl (aG (up2 g 3 c v) 2))), (hO, .inl (cI, 8, .inl (aG (up2 g 3 c v) 3))), (fi, .inl (cI, 7, .inl (ar fd)))]) (by rw [eP]; try rfl) ?_
          have e9 : opSet g fd c w v = ((iI (g 3 c)), up2 g 3 c v, fd) := by
            obtain rfl : w = 3 := by omega
            unfold opSet; try unfold bI
            (repeat' split) <;> first | (exfalso; omega) | contradiction | rfl
          exact z_iret (pc := 94) dX3_set_94 (by rw [e9]) (by rw [e9])
        · skip
          have eP : opPut g fd 3 c v (-9999) 9999 = (fin 0, g, fnd fd 0) := by unfold opPut; rw [if_neg hp]
          refine z_st (st2 := [.int (fin 0)]) (by rw [eP]) ?_
          refine z_ws (ws2 := [(x, .inr (3, [.ref h, .ref t, .ref k0, .int ik, .ref tp, .ref sh, .ref fi])), (h, oG g hK hH hM hO), (hK, .inl (cI, 8, .inl (aG g 0))), (hH, .inl (cI, 8, .inl (aG g 1))), (hM, .inl (cI, 8, .inl (aG g 2))), (hO, .inl (cI, 8, .inl (aG g 3))), (fi, .inl (cI, 7, .inl (ar (fnd fd 0))))]) (by rw [eP]; try rfl) ?_
          have e9 : opSet g fd c w v = ((fin 0), g, fnd fd 0) := by
            obtain rfl : w = 3 := by omega
            unfold opSet; try unfold bI
            (repeat' split) <;> first | (exfalso; omega) | contradiction | rfl
          exact z_iret (pc := 94) dX3_set_94 (by rw [e9]) (by rw [e9])
    · skip
      refine z_tableOut (pc := 15) (tgt := 95) dX3_set_15 (by omega) (by omega) (by decide) ?_
      refine z_aload_n (pc := 95) dX3_set_95 0 rfl ?_
      refine z_iconst (pc := 96) dX3_set_96 ?_
      refine z_callV (pc := 97) (st := []) (st2 := [.int (iI (-1000000001 - 0))]) (ws2 := [(x, .inr (3, [.ref h, .ref t, .ref k0, .int ik, .ref tp, .ref sh, .ref fi])), (h, oG g hK hH hM hO), (hK, .inl (cI, 8, .inl (aG g 0))), (hH, .inl (cI, 8, .inl (aG g 1))), (hM, .inl (cI, 8, .inl (aG g 2))), (hO, .inl (cI, 8, .inl (aG g 3))), (fi, .inl (cI, 7, .inl (ar (fnd fd 0))))]) (q0 := 0) (c_X3_found l D cI cJ cB cS xa x h t k0 tp sh fi ik fd 0 (by omega)) mV_X3_found kM_X3_48 dX3_set_97 rfl rfl [0, 6] rfl rfl rfl rfl rfl rfl rfl rfl ⟨Nat.le_of_ble_eq_true rfl, Nat.le_of_ble_eq_true rfl, Nat.le_of_ble_eq_true rfl⟩ ?_
      have e9 : opSet g fd c w v = ((iI (-1000000001 - 0)), g, fnd fd 0) := by
        unfold opSet; try unfold bI
        (repeat' split) <;> first | (exfalso; omega) | contradiction | rfl
      exact z_iret (pc := 100) dX3_set_100 (by rw [e9]) (by rw [e9])
  · skip
    refine z_aload_n (pc := 8) dX3_set_8 0 rfl ?_
    refine z_iconst (pc := 9) dX3_set_9 ?_
    refine z_callV (pc := 10) (st := []) (st2 := [.int (iI (-1000000001 - 0))]) (ws2 := [(x, .inr (3, [.ref h, .ref t, .ref k0, .int ik, .ref tp, .ref sh, .ref fi])), (h, oG g hK hH hM hO), (hK, .inl (cI, 8, .inl (aG g 0))), (hH, .inl (cI, 8, .inl (aG g 1))), (hM, .inl (cI, 8, .inl (aG g 2))), (hO, .inl (cI, 8, .inl (aG g 3))), (fi, .inl (cI, 7, .inl (ar (fnd fd 0))))]) (q0 := 0) (c_X3_found l D cI cJ cB cS xa x h t k0 tp sh fi ik fd 0 (by omega)) mV_X3_found kM_X3_48 dX3_set_10 rfl rfl [0, 6] rfl rfl rfl rfl rfl rfl rfl rfl ⟨Nat.le_of_ble_eq_true rfl, Nat.le_of_ble_eq_true rfl, Nat.le_of_ble_eq_true rfl⟩ ?_
    have e9 : opSet g fd c w v = ((iI (-1000000001 - 0)), g, fnd fd 0) := by
      unfold opSet; try unfold bI
      (repeat' split) <;> first | (exfalso; omega) | contradiction | rfl
    exact z_iret (pc := 13) dX3_set_13 (by rw [e9]) (by rw [e9])
set_option maxHeartbeats 8000000 in
set_option maxRecDepth 100000 in
theorem c_X3_turn (l : Launch) (D : va_G) (cI cJ cB cS : ClassId) (xa : XA) (x h hK hH hM hO t k0 tp sh fi : Nat) (ik : Int32) (g : Gd) (fd : FF) (c k : Int) (ok : Ok g) (rc : inr c) (rk : inr k) : Ct l D cI cJ cB cS xa yX3_turn cX3_turn 4 (some .int) 2 43 [.ref x, .int (iI c), .int (iI k)] [(x, .inr (3, [.ref h, .ref t, .ref k0, .int ik, .ref tp, .ref sh, .ref fi])), (h, oG g hK hH hM hO), (hK, .inl (cI, 8, .inl (aG g 0))), (hH, .inl (cI, 8, .inl (aG g 1))), (hM, .inl (cI, 8, .inl (aG g 2))), (hO, .inl (cI, 8, .inl (aG g 3))), (fi, .inl (cI, 7, .inl (ar fd)))] (some (.int ((opTurn g fd c k).1))) [(x, .inr (3, [.ref h, .ref t, .ref k0, .int ik, .ref tp, .ref sh, .ref fi])), (h, oG ((opTurn g fd c k).2.1) hK hH hM hO), (hK, .inl (cI, 8, .inl (aG ((opTurn g fd c k).2.1) 0))), (hH, .inl (cI, 8, .inl (aG ((opTurn g fd c k).2.1) 1))), (hM, .inl (cI, 8, .inl (aG ((opTurn g fd c k).2.1) 2))), (hO, .inl (cI, 8, .inl (aG ((opTurn g fd c k).2.1) 3))), (fi, .inl (cI, 7, .inl (ar ((opTurn g fd c k).2.2))))] := by
  have o0 := ok0 ok
  have o1 := ok1 ok
  have o2 := ok2 ok
  refine CtE.of (own := RX3) (lv := [(0, .ref x), (1, .int (iI c)), (2, .int (iI k))]) (by decide) rfl rfl (Nat.le_of_ble_eq_true rfl) ?_
  intro xp xe xs xm xb xt xc
  refine z_aload_n (pc := 0) dX3_turn_0 0 rfl ?_
  refine z_iload_n (pc := 1) dX3_turn_1 1 rfl ?_
  refine z_callV (pc := 2) (st := []) (st2 := [.int (bI (0 ≤ c ∧ c < g 4 2))]) (ws2 := [(x, .inr (3, [.ref h, .ref t, .ref k0, .int ik, .ref tp, .ref sh, .ref fi])), (h, oG g hK hH hM hO), (hK, .inl (cI, 8, .inl (aG g 0))), (hH, .inl (cI, 8, .inl (aG g 1))), (hM, .inl (cI, 8, .inl (aG g 2))), (hO, .inl (cI, 8, .inl (aG g 3))), (fi, .inl (cI, 7, .inl (ar fd)))]) (q0 := 0) (c_X3_isChild l D cI cJ cB cS xa x h hK hH hM hO t k0 tp sh fi ik g c ok (by omega)) mV_X3_isChild kM_X3_100 dX3_turn_2 rfl rfl [0, 1] rfl rfl rfl rfl rfl rfl rfl rfl ⟨Nat.le_of_ble_eq_true rfl, Nat.le_of_ble_eq_true rfl, Nat.le_of_ble_eq_true rfl⟩ ?_
  refine z_ifb_eq (pc := 5) (tgt := 15) dX3_turn_5 (by decide) (fun h5 => ?_) (fun h5 => ?_)
  · skip
    refine z_aload_n (pc := 15) dX3_turn_15 0 rfl ?_
    refine z_iconst (pc := 16) dX3_turn_16 ?_
    refine z_callV (pc := 17) (st := []) (st2 := [.int (iI (-1000000001 - 0))]) (ws2 := [(x, .inr (3, [.ref h, .ref t, .ref k0, .int ik, .ref tp, .ref sh, .ref fi])), (h, oG g hK hH hM hO), (hK, .inl (cI, 8, .inl (aG g 0))), (hH, .inl (cI, 8, .inl (aG g 1))), (hM, .inl (cI, 8, .inl (aG g 2))), (hO, .inl (cI, 8, .inl (aG g 3))), (fi, .inl (cI, 7, .inl (ar (fnd fd 0))))]) (q0 := 0) (c_X3_found l D cI cJ cB cS xa x h t k0 tp sh fi ik fd 0 (by omega)) mV_X3_found kM_X3_48 dX3_turn_17 rfl rfl [0, 6] rfl rfl rfl rfl rfl rfl rfl rfl ⟨Nat.le_of_ble_eq_true rfl, Nat.le_of_ble_eq_true rfl, Nat.le_of_ble_eq_true rfl⟩ ?_
    have e9 : opTurn g fd c k = ((iI (-1000000001 - 0)), g, fnd fd 0) := by
      unfold opTurn; try unfold bI
      (repeat' split) <;> first | (exfalso; omega) | contradiction | rfl
    exact z_iret (pc := 20) dX3_turn_20 (by rw [e9]) (by rw [e9])
  · skip
    refine z_iload_n (pc := 8) dX3_turn_8 2 rfl ?_
    refine z_callS (pc := 9) (st := []) (st2 := [.int (bI (0 ≤ k ∧ k ≤ 5))]) (ws2 := [(x, .inr (3, [.ref h, .ref t, .ref k0, .int ik, .ref tp, .ref sh, .ref fi])), (h, oG g hK hH hM hO), (hK, .inl (cI, 8, .inl (aG g 0))), (hH, .inl (cI, 8, .inl (aG g 1))), (hM, .inl (cI, 8, .inl (aG g 2))), (hO, .inl (cI, 8, .inl (aG g 3))), (fi, .inl (cI, 7, .inl (ar fd)))]) (c_X3_isKind l D cI cJ cB cS xa k (by omega)) mS_X3_isKind kM_X3_90 dX3_turn_9 [] rfl rfl rfl rfl rfl rfl rfl rfl ⟨Nat.le_of_ble_eq_true rfl, Nat.le_of_ble_eq_true rfl, Nat.le_of_ble_eq_true rfl⟩ ?_
    refine z_ifb_ne (pc := 12) (tgt := 21) dX3_turn_12 (by decide) (fun h12 => ?_) (fun h12 => ?_)
    · skip
      refine z_aload_n (pc := 21) dX3_turn_21 0 rfl ?_
      refine z_get (pc := 22) (q0 := 0) (v := .ref h) fL_X3_10 dX3_turn_22 rfl rfl ?_
      refine z_get (pc := 25) (q0 := 1) (v := .ref hK) fL_X3_103 dX3_turn_25 rfl rfl ?_
      refine z_iload_n (pc := 28) dX3_turn_28 1 rfl ?_
      refine z_iald (pc := 29) (q0 := 2) (v := (iI (g 0 c))) dX3_turn_29 rfl (by omega) (by decide) (aG_at (by omega)) ?_
      have b1 := okK ok c
      refine z_istore_n (pc := 30) (lv2 := [(3, .int (iI (g 0 c))), (0, .ref x), (1, .int (iI c)), (2, .int (iI k))]) dX3_turn_30 rfl (by decide) rfl ?_
      refine z_aload_n (pc := 31) dX3_turn_31 1 rfl ?_
      refine z_get (pc := 32) (q0 := 0) (v := .ref h) fL_X3_10 dX3_turn_32 rfl rfl ?_
      refine z_get (pc := 35) (q0 := 1) (v := .ref hK) fL_X3_103 dX3_turn_35 rfl rfl ?_
      refine z_iload_n (pc := 38) dX3_turn_38 2 rfl ?_
      refine z_iload_n (pc := 39) dX3_turn_39 3 rfl ?_
      refine z_iast (pc := 40) (q0 := 2) (ws2 := [(x, .inr (3, [.ref h, .ref t, .ref k0, .int ik, .ref tp, .ref sh, .ref fi])), (h, oG (up2 g 0 c k) hK hH hM hO), (hK, .inl (cI, 8, .inl (aG (up2 g 0 c k) 0))), (hH, .inl (cI, 8, .inl (aG (up2 g 0 c k) 1))), (hM, .inl (cI, 8, .inl (aG (up2 g 0 c k) 2))), (hO, .inl (cI, 8, .inl (aG (up2 g 0 c k) 3))), (fi, .inl (cI, 7, .inl (ar fd)))]) dX3_turn_40 rfl (by omega) (by decide) (by rw [aG_up (by omega)]; rfl) ?_
      refine z_iload_n (pc := 41) dX3_turn_41 0 rfl ?_
      have e9 : opTurn g fd c k = ((iI (g 0 c)), up2 g 0 c k, fd) := by
        unfold opTurn; try unfold bI
        (repeat' split) <;> first | (exfalso; omega) | contradiction | rfl
      exact z_iret (pc := 42) dX3_turn_42 (by rw [e9]) (by rw [e9])
    · skip
      refine z_aload_n (pc := 15) dX3_turn_15 0 rfl ?_
      refine z_iconst (pc := 16) dX3_turn_16 ?_
      refine z_callV (pc := 17) (st := []) (st2 := [.int (iI (-1000000001 - 0))]) (ws2 := [(x, .inr (3, [.ref h, .ref t, .ref k0, .int ik, .ref tp, .ref sh, .ref fi])), (h, oG g hK hH hM hO), (hK, .inl (cI, 8, .inl (aG g 0))), (hH, .inl (cI, 8, .inl (aG g 1))), (hM, .inl (cI, 8, .inl (aG g 2))), (hO, .inl (cI, 8, .inl (aG g 3))), (fi, .inl (cI, 7, .inl (ar (fnd fd 0))))]) (q0 := 0) (c_X3_found l D cI cJ cB cS xa x h t k0 tp sh fi ik fd 0 (by omega)) mV_X3_found kM_X3_48 dX3_turn_17 rfl rfl [0, 6] rfl rfl rfl rfl rfl rfl rfl rfl ⟨Nat.le_of_ble_eq_true rfl, Nat.le_of_ble_eq_true rfl, Nat.le_of_ble_eq_true rfl⟩ ?_
      have e9 : opTurn g fd c k = ((iI (-1000000001 - 0)), g, fnd fd 0) := by
        unfold opTurn; try unfold bI
        (repeat' split) <;> first | (exfalso; omega) | contradiction | rfl
      exact z_iret (pc := 20) dX3_turn_20 (by rw [e9]) (by rw [e9])
set_option maxHeartbeats 8000000 in
set_option maxRecDepth 100000 in
theorem c_X3_as (l : Launch) (D : va_G) (cI cJ cB cS : ClassId) (xa : XA) (x h hK hH hM hO t k0 tp sh fi : Nat) (ik : Int32) (g : Gd) (fd : FF) (c k : Int) (ok : Ok g) (rc : inr c) (rk : inr k) : Ct l D cI cJ cB cS xa yX3_as cX3_as 3 (some .int) 2 43 [.ref x, .int (iI c), .int (iI k)] [(x, .inr (3, [.ref h, .ref t, .ref k0, .int ik, .ref tp, .ref sh, .ref fi])), (h, oG g hK hH hM hO), (hK, .inl (cI, 8, .inl (aG g 0))), (hH, .inl (cI, 8, .inl (aG g 1))), (hM, .inl (cI, 8, .inl (aG g 2))), (hO, .inl (cI, 8, .inl (aG g 3))), (fi, .inl (cI, 7, .inl (ar fd)))] (some (.int ((opAs g fd c k).1))) [(x, .inr (3, [.ref h, .ref t, .ref k0, .int ik, .ref tp, .ref sh, .ref fi])), (h, oG g hK hH hM hO), (hK, .inl (cI, 8, .inl (aG g 0))), (hH, .inl (cI, 8, .inl (aG g 1))), (hM, .inl (cI, 8, .inl (aG g 2))), (hO, .inl (cI, 8, .inl (aG g 3))), (fi, .inl (cI, 7, .inl (ar ((opAs g fd c k).2))))] := by
  have o0 := ok0 ok
  have o1 := ok1 ok
  have o2 := ok2 ok
  refine CtE.of (own := RX3) (lv := [(0, .ref x), (1, .int (iI c)), (2, .int (iI k))]) (by decide) rfl rfl (Nat.le_of_ble_eq_true rfl) ?_
  intro xp xe xs xm xb xt xc
  refine z_aload_n (pc := 0) dX3_as_0 0 rfl ?_
  refine z_iload_n (pc := 1) dX3_as_1 1 rfl ?_
  refine z_callV (pc := 2) (st := []) (st2 := [.int (bI (0 ≤ c ∧ c < g 4 2))]) (ws2 := [(x, .inr (3, [.ref h, .ref t, .ref k0, .int ik, .ref tp, .ref sh, .ref fi])), (h, oG g hK hH hM hO), (hK, .inl (cI, 8, .inl (aG g 0))), (hH, .inl (cI, 8, .inl (aG g 1))), (hM, .inl (cI, 8, .inl (aG g 2))), (hO, .inl (cI, 8, .inl (aG g 3))), (fi, .inl (cI, 7, .inl (ar fd)))]) (q0 := 0) (c_X3_isChild l D cI cJ cB cS xa x h hK hH hM hO t k0 tp sh fi ik g c ok (by omega)) mV_X3_isChild kM_X3_100 dX3_as_2 rfl rfl [0, 1] rfl rfl rfl rfl rfl rfl rfl rfl ⟨Nat.le_of_ble_eq_true rfl, Nat.le_of_ble_eq_true rfl, Nat.le_of_ble_eq_true rfl⟩ ?_
  refine z_ifb_eq (pc := 5) (tgt := 15) dX3_as_5 (by decide) (fun h5 => ?_) (fun h5 => ?_)
  · skip
    refine z_aload_n (pc := 15) dX3_as_15 0 rfl ?_
    refine z_iconst (pc := 16) dX3_as_16 ?_
    refine z_callV (pc := 17) (st := []) (st2 := [.int (iI (-1000000001 - 0))]) (ws2 := [(x, .inr (3, [.ref h, .ref t, .ref k0, .int ik, .ref tp, .ref sh, .ref fi])), (h, oG g hK hH hM hO), (hK, .inl (cI, 8, .inl (aG g 0))), (hH, .inl (cI, 8, .inl (aG g 1))), (hM, .inl (cI, 8, .inl (aG g 2))), (hO, .inl (cI, 8, .inl (aG g 3))), (fi, .inl (cI, 7, .inl (ar (fnd fd 0))))]) (q0 := 0) (c_X3_found l D cI cJ cB cS xa x h t k0 tp sh fi ik fd 0 (by omega)) mV_X3_found kM_X3_48 dX3_as_17 rfl rfl [0, 6] rfl rfl rfl rfl rfl rfl rfl rfl ⟨Nat.le_of_ble_eq_true rfl, Nat.le_of_ble_eq_true rfl, Nat.le_of_ble_eq_true rfl⟩ ?_
    have e9 : opAs g fd c k = ((iI (-1000000001 - 0)), fnd fd 0) := by
      unfold opAs; try unfold bI
      (repeat' split) <;> first | (exfalso; omega) | contradiction | rfl
    exact z_iret (pc := 20) dX3_as_20 (by rw [e9]) (by rw [e9])
  · skip
    refine z_iload_n (pc := 8) dX3_as_8 2 rfl ?_
    refine z_callS (pc := 9) (st := []) (st2 := [.int (bI (0 ≤ k ∧ k ≤ 5))]) (ws2 := [(x, .inr (3, [.ref h, .ref t, .ref k0, .int ik, .ref tp, .ref sh, .ref fi])), (h, oG g hK hH hM hO), (hK, .inl (cI, 8, .inl (aG g 0))), (hH, .inl (cI, 8, .inl (aG g 1))), (hM, .inl (cI, 8, .inl (aG g 2))), (hO, .inl (cI, 8, .inl (aG g 3))), (fi, .inl (cI, 7, .inl (ar fd)))]) (c_X3_isKind l D cI cJ cB cS xa k (by omega)) mS_X3_isKind kM_X3_90 dX3_as_9 [] rfl rfl rfl rfl rfl rfl rfl rfl ⟨Nat.le_of_ble_eq_true rfl, Nat.le_of_ble_eq_true rfl, Nat.le_of_ble_eq_true rfl⟩ ?_
    refine z_ifb_ne (pc := 12) (tgt := 21) dX3_as_12 (by decide) (fun h12 => ?_) (fun h12 => ?_)
    · skip
      refine z_aload_n (pc := 21) dX3_as_21 0 rfl ?_
      refine z_get (pc := 22) (q0 := 0) (v := .ref h) fL_X3_10 dX3_as_22 rfl rfl ?_
      refine z_get (pc := 25) (q0 := 1) (v := .ref hK) fL_X3_103 dX3_as_25 rfl rfl ?_
      refine z_iload_n (pc := 28) dX3_as_28 1 rfl ?_
      refine z_iald (pc := 29) (q0 := 2) (v := (iI (g 0 c))) dX3_as_29 rfl (by omega) (by decide) (aG_at (by omega)) ?_
      have b1 := okK ok c
      refine z_iload_n (pc := 30) dX3_as_30 2 rfl ?_
      refine z_callS (pc := 31) (st := []) (st2 := [.int (bI (isK (g 0 c) k))]) (ws2 := [(x, .inr (3, [.ref h, .ref t, .ref k0, .int ik, .ref tp, .ref sh, .ref fi])), (h, oG g hK hH hM hO), (hK, .inl (cI, 8, .inl (aG g 0))), (hH, .inl (cI, 8, .inl (aG g 1))), (hM, .inl (cI, 8, .inl (aG g 2))), (hO, .inl (cI, 8, .inl (aG g 3))), (fi, .inl (cI, 7, .inl (ar fd)))]) (c_X0_isOfKind l D cI cJ cB cS xa (g 0 c) k (by omega) (by omega)) mS_X0_isOfKind kM_X3_126 dX3_as_31 [] rfl rfl rfl rfl rfl rfl rfl rfl ⟨Nat.le_of_ble_eq_true rfl, Nat.le_of_ble_eq_true rfl, Nat.le_of_ble_eq_true rfl⟩ ?_
      refine z_ifb_ne (pc := 34) (tgt := 43) dX3_as_34 (by decide) (fun h34 => ?_) (fun h34 => ?_)
      · skip
        refine z_aload_n (pc := 43) dX3_as_43 0 rfl ?_
        refine z_get (pc := 44) (q0 := 0) (v := .ref h) fL_X3_10 dX3_as_44 rfl rfl ?_
        refine z_get (pc := 47) (q0 := 1) (v := .ref hH) fL_X3_74 dX3_as_47 rfl rfl ?_
        refine z_iload_n (pc := 50) dX3_as_50 1 rfl ?_
        refine z_iald (pc := 51) (q0 := 3) (v := (iI (g 1 c))) dX3_as_51 rfl (by omega) (by decide) (aG_at (by omega)) ?_
        have b2 := okH ok c
        have e9 : opAs g fd c k = ((iI (g 1 c)), fd) := by
          unfold opAs; try unfold bI
          (repeat' split) <;> first | (exfalso; omega) | contradiction | rfl
        exact z_iret (pc := 52) dX3_as_52 (by rw [e9]) (by rw [e9])
      · skip
        refine z_aload_n (pc := 37) dX3_as_37 0 rfl ?_
        refine z_iconst (pc := 38) dX3_as_38 ?_
        refine z_callV (pc := 39) (st := []) (st2 := [.int (iI (-1000000001 - 2))]) (ws2 := [(x, .inr (3, [.ref h, .ref t, .ref k0, .int ik, .ref tp, .ref sh, .ref fi])), (h, oG g hK hH hM hO), (hK, .inl (cI, 8, .inl (aG g 0))), (hH, .inl (cI, 8, .inl (aG g 1))), (hM, .inl (cI, 8, .inl (aG g 2))), (hO, .inl (cI, 8, .inl (aG g 3))), (fi, .inl (cI, 7, .inl (ar (fnd fd 2))))]) (q0 := 0) (c_X3_found l D cI cJ cB cS xa x h t k0 tp sh fi ik fd 2 (by omega)) mV_X3_found kM_X3_48 dX3_as_39 rfl rfl [0, 6] rfl rfl rfl rfl rfl rfl rfl rfl ⟨Nat.le_of_ble_eq_true rfl, Nat.le_of_ble_eq_true rfl, Nat.le_of_ble_eq_true rfl⟩ ?_
        have e9 : opAs g fd c k = ((iI (-1000000001 - 2)), fnd fd 2) := by
          unfold opAs; try unfold bI
          (repeat' split) <;> first | (exfalso; omega) | contradiction | rfl
        exact z_iret (pc := 42) dX3_as_42 (by rw [e9]) (by rw [e9])
    · skip
      refine z_aload_n (pc := 15) dX3_as_15 0 rfl ?_
      refine z_iconst (pc := 16) dX3_as_16 ?_
      refine z_callV (pc := 17) (st := []) (st2 := [.int (iI (-1000000001 - 0))]) (ws2 := [(x, .inr (3, [.ref h, .ref t, .ref k0, .int ik, .ref tp, .ref sh, .ref fi])), (h, oG g hK hH hM hO), (hK, .inl (cI, 8, .inl (aG g 0))), (hH, .inl (cI, 8, .inl (aG g 1))), (hM, .inl (cI, 8, .inl (aG g 2))), (hO, .inl (cI, 8, .inl (aG g 3))), (fi, .inl (cI, 7, .inl (ar (fnd fd 0))))]) (q0 := 0) (c_X3_found l D cI cJ cB cS xa x h t k0 tp sh fi ik fd 0 (by omega)) mV_X3_found kM_X3_48 dX3_as_17 rfl rfl [0, 6] rfl rfl rfl rfl rfl rfl rfl rfl ⟨Nat.le_of_ble_eq_true rfl, Nat.le_of_ble_eq_true rfl, Nat.le_of_ble_eq_true rfl⟩ ?_
      have e9 : opAs g fd c k = ((iI (-1000000001 - 0)), fnd fd 0) := by
        unfold opAs; try unfold bI
        (repeat' split) <;> first | (exfalso; omega) | contradiction | rfl
      exact z_iret (pc := 20) dX3_as_20 (by rw [e9]) (by rw [e9])
set_option maxHeartbeats 8000000 in
set_option maxRecDepth 100000 in
theorem c_X3_push (l : Launch) (D : va_G) (cI cJ cB cS : ClassId) (xa : XA) (x h hK hH hM hO t k0 tp sh fi : Nat) (ik : Int32) (g : Gd) (fd : FF) (c v : Int) (ok : Ok g) (rc : inr c) (rv : inr v) : Ct l D cI cJ cB cS xa yX3_push cX3_push 3 (some .int) 2 43 [.ref x, .int (iI c), .int (iI v)] [(x, .inr (3, [.ref h, .ref t, .ref k0, .int ik, .ref tp, .ref sh, .ref fi])), (h, oG g hK hH hM hO), (hK, .inl (cI, 8, .inl (aG g 0))), (hH, .inl (cI, 8, .inl (aG g 1))), (hM, .inl (cI, 8, .inl (aG g 2))), (hO, .inl (cI, 8, .inl (aG g 3))), (fi, .inl (cI, 7, .inl (ar fd)))] (some (.int ((opPush g fd c v).1))) [(x, .inr (3, [.ref h, .ref t, .ref k0, .int ik, .ref tp, .ref sh, .ref fi])), (h, oG ((opPush g fd c v).2.1) hK hH hM hO), (hK, .inl (cI, 8, .inl (aG ((opPush g fd c v).2.1) 0))), (hH, .inl (cI, 8, .inl (aG ((opPush g fd c v).2.1) 1))), (hM, .inl (cI, 8, .inl (aG ((opPush g fd c v).2.1) 2))), (hO, .inl (cI, 8, .inl (aG ((opPush g fd c v).2.1) 3))), (fi, .inl (cI, 7, .inl (ar ((opPush g fd c v).2.2))))] := by
  have o0 := ok0 ok
  have o1 := ok1 ok
  have o2 := ok2 ok
  refine CtE.of (own := RX3) (lv := [(0, .ref x), (1, .int (iI c)), (2, .int (iI v))]) (by decide) rfl rfl (Nat.le_of_ble_eq_true rfl) ?_
  intro xp xe xs xm xb xt xc
  refine z_aload_n (pc := 0) dX3_push_0 0 rfl ?_
  refine z_iload_n (pc := 1) dX3_push_1 1 rfl ?_
  refine z_callV (pc := 2) (st := []) (st2 := [.int (bI (0 ≤ c ∧ c < g 4 2))]) (ws2 := [(x, .inr (3, [.ref h, .ref t, .ref k0, .int ik, .ref tp, .ref sh, .ref fi])), (h, oG g hK hH hM hO), (hK, .inl (cI, 8, .inl (aG g 0))), (hH, .inl (cI, 8, .inl (aG g 1))), (hM, .inl (cI, 8, .inl (aG g 2))), (hO, .inl (cI, 8, .inl (aG g 3))), (fi, .inl (cI, 7, .inl (ar fd)))]) (q0 := 0) (c_X3_isChild l D cI cJ cB cS xa x h hK hH hM hO t k0 tp sh fi ik g c ok (by omega)) mV_X3_isChild kM_X3_100 dX3_push_2 rfl rfl [0, 1] rfl rfl rfl rfl rfl rfl rfl rfl ⟨Nat.le_of_ble_eq_true rfl, Nat.le_of_ble_eq_true rfl, Nat.le_of_ble_eq_true rfl⟩ ?_
  refine z_ifb_eq (pc := 5) (tgt := 18) dX3_push_5 (by decide) (fun h5 => ?_) (fun h5 => ?_)
  · skip
    refine z_aload_n (pc := 18) dX3_push_18 0 rfl ?_
    refine z_iconst (pc := 19) dX3_push_19 ?_
    refine z_callV (pc := 20) (st := []) (st2 := [.int (iI (-1000000001 - 0))]) (ws2 := [(x, .inr (3, [.ref h, .ref t, .ref k0, .int ik, .ref tp, .ref sh, .ref fi])), (h, oG g hK hH hM hO), (hK, .inl (cI, 8, .inl (aG g 0))), (hH, .inl (cI, 8, .inl (aG g 1))), (hM, .inl (cI, 8, .inl (aG g 2))), (hO, .inl (cI, 8, .inl (aG g 3))), (fi, .inl (cI, 7, .inl (ar (fnd fd 0))))]) (q0 := 0) (c_X3_found l D cI cJ cB cS xa x h t k0 tp sh fi ik fd 0 (by omega)) mV_X3_found kM_X3_48 dX3_push_20 rfl rfl [0, 6] rfl rfl rfl rfl rfl rfl rfl rfl ⟨Nat.le_of_ble_eq_true rfl, Nat.le_of_ble_eq_true rfl, Nat.le_of_ble_eq_true rfl⟩ ?_
    have e9 : opPush g fd c v = ((iI (-1000000001 - 0)), g, fnd fd 0) := by
      unfold opPush; try unfold bI
      (repeat' split) <;> first | (exfalso; omega) | contradiction | rfl
    exact z_iret (pc := 23) dX3_push_23 (by rw [e9]) (by rw [e9])
  · skip
    refine z_iload_n (pc := 8) dX3_push_8 2 rfl ?_
    refine z_iconst (pc := 9) dX3_push_9 ?_
    refine z_bipush (pc := 10) dX3_push_10 (by decide) ?_
    refine z_callS (pc := 12) (st := []) (st2 := [.int (bI (1 ≤ v ∧ v ≤ 99))]) (ws2 := [(x, .inr (3, [.ref h, .ref t, .ref k0, .int ik, .ref tp, .ref sh, .ref fi])), (h, oG g hK hH hM hO), (hK, .inl (cI, 8, .inl (aG g 0))), (hH, .inl (cI, 8, .inl (aG g 1))), (hM, .inl (cI, 8, .inl (aG g 2))), (hO, .inl (cI, 8, .inl (aG g 3))), (fi, .inl (cI, 7, .inl (ar fd)))]) (c_X3_within l D cI cJ cB cS xa v 1 99 (by omega) (by omega) (by omega)) mS_X3_within kM_X3_44 dX3_push_12 [] rfl rfl rfl rfl rfl rfl rfl rfl ⟨Nat.le_of_ble_eq_true rfl, Nat.le_of_ble_eq_true rfl, Nat.le_of_ble_eq_true rfl⟩ ?_
    refine z_ifb_ne (pc := 15) (tgt := 24) dX3_push_15 (by decide) (fun h15 => ?_) (fun h15 => ?_)
    · skip
      refine z_aload_n (pc := 24) dX3_push_24 0 rfl ?_
      refine z_get (pc := 25) (q0 := 0) (v := .ref h) fL_X3_10 dX3_push_25 rfl rfl ?_
      refine z_iload_n (pc := 28) dX3_push_28 1 rfl ?_
      refine z_iload_n (pc := 29) dX3_push_29 2 rfl ?_
      refine z_callV (pc := 30) (st := []) (st2 := []) (ws2 := [(x, .inr (3, [.ref h, .ref t, .ref k0, .int ik, .ref tp, .ref sh, .ref fi])), (h, oG (pushG g c v) hK hH hM hO), (hK, .inl (cI, 8, .inl (aG (pushG g c v) 0))), (hH, .inl (cI, 8, .inl (aG (pushG g c v) 1))), (hM, .inl (cI, 8, .inl (aG (pushG g c v) 2))), (hO, .inl (cI, 8, .inl (aG (pushG g c v) 3))), (fi, .inl (cI, 7, .inl (ar fd)))]) (q0 := 1) (c_X0_shove l D cI cJ cB cS xa h hK hH hM hO g c v ok (by omega) (by omega) (by omega)) mV_X0_shove kM_X3_130 dX3_push_30 rfl rfl [1, 2, 3, 4, 5] rfl rfl rfl rfl rfl rfl rfl rfl ⟨Nat.le_of_ble_eq_true rfl, Nat.le_of_ble_eq_true rfl, Nat.le_of_ble_eq_true rfl⟩ ?_
      have ok30_1 : Ok (pushG g c v) := pushG_ok ok c (by omega)
      have f30_2 := (show pushG g c v 4 0 = g 4 0 from rfl)
      have f30_3 := (show pushG g c v 4 2 = g 4 2 from rfl)
      refine z_aload_n (pc := 33) dX3_push_33 0 rfl ?_
      refine z_get (pc := 34) (q0 := 0) (v := .ref h) fL_X3_10 dX3_push_34 rfl rfl ?_
      refine z_get (pc := 37) (q0 := 1) (v := .ref hH) fL_X3_74 dX3_push_37 rfl rfl ?_
      refine z_iload_n (pc := 40) dX3_push_40 1 rfl ?_
      refine z_iald (pc := 41) (q0 := 3) (v := (iI ((pushG g c v) 1 c))) dX3_push_41 rfl (by omega) (by decide) (aG_at (by omega)) ?_
      have b4 := okH ok30_1 c
      have e9 : opPush g fd c v = ((iI ((pushG g c v) 1 c)), pushG g c v, fd) := by
        unfold opPush; try unfold bI
        (repeat' split) <;> first | (exfalso; omega) | contradiction | rfl
      exact z_iret (pc := 42) dX3_push_42 (by rw [e9]) (by rw [e9])
    · skip
      refine z_aload_n (pc := 18) dX3_push_18 0 rfl ?_
      refine z_iconst (pc := 19) dX3_push_19 ?_
      refine z_callV (pc := 20) (st := []) (st2 := [.int (iI (-1000000001 - 0))]) (ws2 := [(x, .inr (3, [.ref h, .ref t, .ref k0, .int ik, .ref tp, .ref sh, .ref fi])), (h, oG g hK hH hM hO), (hK, .inl (cI, 8, .inl (aG g 0))), (hH, .inl (cI, 8, .inl (aG g 1))), (hM, .inl (cI, 8, .inl (aG g 2))), (hO, .inl (cI, 8, .inl (aG g 3))), (fi, .inl (cI, 7, .inl (ar (fnd fd 0))))]) (q0 := 0) (c_X3_found l D cI cJ cB cS xa x h t k0 tp sh fi ik fd 0 (by omega)) mV_X3_found kM_X3_48 dX3_push_20 rfl rfl [0, 6] rfl rfl rfl rfl rfl rfl rfl rfl ⟨Nat.le_of_ble_eq_true rfl, Nat.le_of_ble_eq_true rfl, Nat.le_of_ble_eq_true rfl⟩ ?_
      have e9 : opPush g fd c v = ((iI (-1000000001 - 0)), g, fnd fd 0) := by
        unfold opPush; try unfold bI
        (repeat' split) <;> first | (exfalso; omega) | contradiction | rfl
      exact z_iret (pc := 23) dX3_push_23 (by rw [e9]) (by rw [e9])
set_option maxHeartbeats 8000000 in
set_option maxRecDepth 100000 in
theorem c_X3_swap (l : Launch) (D : va_G) (cI cJ cB cS : ClassId) (xa : XA) (x h hK hH hM hO t k0 tp sh fi : Nat) (ik : Int32) (g : Gd) (fd : FF) (a b : Int) (ok : Ok g) (ra : inr a) (rb : inr b) : Ct l D cI cJ cB cS xa yX3_swap cX3_swap 3 (some .int) 3 65 [.ref x, .int (iI a), .int (iI b)] [(x, .inr (3, [.ref h, .ref t, .ref k0, .int ik, .ref tp, .ref sh, .ref fi])), (h, oG g hK hH hM hO), (hK, .inl (cI, 8, .inl (aG g 0))), (hH, .inl (cI, 8, .inl (aG g 1))), (hM, .inl (cI, 8, .inl (aG g 2))), (hO, .inl (cI, 8, .inl (aG g 3))), (fi, .inl (cI, 7, .inl (ar fd)))] (some (.int ((opSwap g fd a b).1))) [(x, .inr (3, [.ref h, .ref t, .ref k0, .int ik, .ref tp, .ref sh, .ref fi])), (h, oG ((opSwap g fd a b).2.1) hK hH hM hO), (hK, .inl (cI, 8, .inl (aG ((opSwap g fd a b).2.1) 0))), (hH, .inl (cI, 8, .inl (aG ((opSwap g fd a b).2.1) 1))), (hM, .inl (cI, 8, .inl (aG ((opSwap g fd a b).2.1) 2))), (hO, .inl (cI, 8, .inl (aG ((opSwap g fd a b).2.1) 3))), (fi, .inl (cI, 7, .inl (ar ((opSwap g fd a b).2.2))))] := by
  have o0 := ok0 ok
  have o1 := ok1 ok
  have o2 := ok2 ok
  refine CtE.of (own := RX3) (lv := [(0, .ref x), (1, .int (iI a)), (2, .int (iI b))]) (by decide) rfl rfl (Nat.le_of_ble_eq_true rfl) ?_
  intro xp xe xs xm xb xt xc
  refine z_aload_n (pc := 0) dX3_swap_0 0 rfl ?_
  refine z_iload_n (pc := 1) dX3_swap_1 1 rfl ?_
  refine z_iload_n (pc := 2) dX3_swap_2 2 rfl ?_
  refine z_callV (pc := 3) (st := []) (st2 := [.int (bI ((0 ≤ a ∧ a < g 4 2) ∧ (0 ≤ b ∧ b < g 4 2) ∧ a ≠ b))]) (ws2 := [(x, .inr (3, [.ref h, .ref t, .ref k0, .int ik, .ref tp, .ref sh, .ref fi])), (h, oG g hK hH hM hO), (hK, .inl (cI, 8, .inl (aG g 0))), (hH, .inl (cI, 8, .inl (aG g 1))), (hM, .inl (cI, 8, .inl (aG g 2))), (hO, .inl (cI, 8, .inl (aG g 3))), (fi, .inl (cI, 7, .inl (ar fd)))]) (q0 := 0) (c_X3_areTwo l D cI cJ cB cS xa x h hK hH hM hO t k0 tp sh fi ik g a b ok (by omega) (by omega)) mV_X3_areTwo kM_X3_134 dX3_swap_3 rfl rfl [0, 1] rfl rfl rfl rfl rfl rfl rfl rfl ⟨Nat.le_of_ble_eq_true rfl, Nat.le_of_ble_eq_true rfl, Nat.le_of_ble_eq_true rfl⟩ ?_
  refine z_ifb_ne (pc := 6) (tgt := 15) dX3_swap_6 (by decide) (fun h6 => ?_) (fun h6 => ?_)
  · skip
    refine z_aload_n (pc := 15) dX3_swap_15 0 rfl ?_
    refine z_get (pc := 16) (q0 := 0) (v := .ref h) fL_X3_10 dX3_swap_16 rfl rfl ?_
    refine z_iload_n (pc := 19) dX3_swap_19 1 rfl ?_
    refine z_iload_n (pc := 20) dX3_swap_20 2 rfl ?_
    refine z_callV (pc := 21) (st := []) (st2 := []) (ws2 := [(x, .inr (3, [.ref h, .ref t, .ref k0, .int ik, .ref tp, .ref sh, .ref fi])), (h, oG (swapG g a b) hK hH hM hO), (hK, .inl (cI, 8, .inl (aG (swapG g a b) 0))), (hH, .inl (cI, 8, .inl (aG (swapG g a b) 1))), (hM, .inl (cI, 8, .inl (aG (swapG g a b) 2))), (hO, .inl (cI, 8, .inl (aG (swapG g a b) 3))), (fi, .inl (cI, 7, .inl (ar fd)))]) (q0 := 1) (c_X0_exchange l D cI cJ cB cS xa h hK hH hM hO g a b ok (by omega) (by omega)) mV_X0_exchange kM_X3_137 dX3_swap_21 rfl rfl [1, 2, 3, 4, 5] rfl rfl rfl rfl rfl rfl rfl rfl ⟨Nat.le_of_ble_eq_true rfl, Nat.le_of_ble_eq_true rfl, Nat.le_of_ble_eq_true rfl⟩ ?_
    have ok21_1 : Ok (swapG g a b) := swapG_ok ok a b
    have f21_2 := (show swapG g a b 4 0 = g 4 0 from rfl)
    have f21_3 := (show swapG g a b 4 2 = g 4 2 from rfl)
    refine z_iconst (pc := 24) dX3_swap_24 ?_
    have e9 : opSwap g fd a b = ((iI 1), swapG g a b, fd) := by
      unfold opSwap; try unfold bI
      (repeat' split) <;> first | (exfalso; omega) | contradiction | rfl
    exact z_iret (pc := 25) dX3_swap_25 (by rw [e9]) (by rw [e9])
  · skip
    refine z_aload_n (pc := 9) dX3_swap_9 0 rfl ?_
    refine z_iconst (pc := 10) dX3_swap_10 ?_
    refine z_callV (pc := 11) (st := []) (st2 := [.int (iI (-1000000001 - 0))]) (ws2 := [(x, .inr (3, [.ref h, .ref t, .ref k0, .int ik, .ref tp, .ref sh, .ref fi])), (h, oG g hK hH hM hO), (hK, .inl (cI, 8, .inl (aG g 0))), (hH, .inl (cI, 8, .inl (aG g 1))), (hM, .inl (cI, 8, .inl (aG g 2))), (hO, .inl (cI, 8, .inl (aG g 3))), (fi, .inl (cI, 7, .inl (ar (fnd fd 0))))]) (q0 := 0) (c_X3_found l D cI cJ cB cS xa x h t k0 tp sh fi ik fd 0 (by omega)) mV_X3_found kM_X3_48 dX3_swap_11 rfl rfl [0, 6] rfl rfl rfl rfl rfl rfl rfl rfl ⟨Nat.le_of_ble_eq_true rfl, Nat.le_of_ble_eq_true rfl, Nat.le_of_ble_eq_true rfl⟩ ?_
    have e9 : opSwap g fd a b = ((iI (-1000000001 - 0)), g, fnd fd 0) := by
      unfold opSwap; try unfold bI
      (repeat' split) <;> first | (exfalso; omega) | contradiction | rfl
    exact z_iret (pc := 14) dX3_swap_14 (by rw [e9]) (by rw [e9])
set_option maxHeartbeats 8000000 in
set_option maxRecDepth 100000 in
theorem c_X3_minutes (l : Launch) (D : va_G) (cI cJ cB cS : ClassId) (xa : XA) (x h hK hH hM hO t k0 tp sh fi : Nat) (ik : Int32) (g : Gd) (fd : FF) (n : Int) (ok : Ok g) (rn : inr n) (hm : g 4 0 ≤ 99999) : Ct l D cI cJ cB cS xa yX3_minutes cX3_minutes 2 (some .int) 5 112 [.ref x, .int (iI n)] [(x, .inr (3, [.ref h, .ref t, .ref k0, .int ik, .ref tp, .ref sh, .ref fi])), (h, oG g hK hH hM hO), (hK, .inl (cI, 8, .inl (aG g 0))), (hH, .inl (cI, 8, .inl (aG g 1))), (hM, .inl (cI, 8, .inl (aG g 2))), (hO, .inl (cI, 8, .inl (aG g 3))), (fi, .inl (cI, 7, .inl (ar fd)))] (some (.int ((opMinutes g fd n).1))) [(x, .inr (3, [.ref h, .ref t, .ref k0, .int ik, .ref tp, .ref sh, .ref fi])), (h, oG ((opMinutes g fd n).2.1) hK hH hM hO), (hK, .inl (cI, 8, .inl (aG ((opMinutes g fd n).2.1) 0))), (hH, .inl (cI, 8, .inl (aG ((opMinutes g fd n).2.1) 1))), (hM, .inl (cI, 8, .inl (aG ((opMinutes g fd n).2.1) 2))), (hO, .inl (cI, 8, .inl (aG ((opMinutes g fd n).2.1) 3))), (fi, .inl (cI, 7, .inl (ar ((opMinutes g fd n).2.2))))] := by
  have o0 := ok0 ok
  have o1 := ok1 ok
  have o2 := ok2 ok
  refine CtE.of (own := RX3) (lv := [(0, .ref x), (1, .int (iI n))]) (by decide) rfl rfl (Nat.le_of_ble_eq_true rfl) ?_
  intro xp xe xs xm xb xt xc
  refine z_iload_n (pc := 0) dX3_minutes_0 1 rfl ?_
  refine z_iconst (pc := 1) dX3_minutes_1 ?_
  refine z_sipush (pc := 2) dX3_minutes_2 (by decide) ?_
  refine z_callS (pc := 5) (st := []) (st2 := [.int (bI (1 ≤ n ∧ n ≤ 200))]) (ws2 := [(x, .inr (3, [.ref h, .ref t, .ref k0, .int ik, .ref tp, .ref sh, .ref fi])), (h, oG g hK hH hM hO), (hK, .inl (cI, 8, .inl (aG g 0))), (hH, .inl (cI, 8, .inl (aG g 1))), (hM, .inl (cI, 8, .inl (aG g 2))), (hO, .inl (cI, 8, .inl (aG g 3))), (fi, .inl (cI, 7, .inl (ar fd)))]) (c_X3_within l D cI cJ cB cS xa n 1 200 (by omega) (by omega) (by omega)) mS_X3_within kM_X3_44 dX3_minutes_5 [] rfl rfl rfl rfl rfl rfl rfl rfl ⟨Nat.le_of_ble_eq_true rfl, Nat.le_of_ble_eq_true rfl, Nat.le_of_ble_eq_true rfl⟩ ?_
  refine z_ifb_ne (pc := 8) (tgt := 17) dX3_minutes_8 (by decide) (fun h8 => ?_) (fun h8 => ?_)
  · skip
    refine z_aload_n (pc := 17) dX3_minutes_17 0 rfl ?_
    refine z_get (pc := 18) (q0 := 0) (v := .ref h) fL_X3_10 dX3_minutes_18 rfl rfl ?_
    refine z_get (pc := 21) (q0 := 1) (v := .int (iI (g 4 0))) fL_X3_56 dX3_minutes_21 rfl rfl ?_
    refine z_ldc (pc := 24) (n := 99999) kC_X3_140 dX3_minutes_24 (by decide) ?_
    refine z_iload_n (pc := 26) dX3_minutes_26 1 rfl ?_
    refine z_isub (pc := 27) dX3_minutes_27 ?_
    refine z_icmp_le (pc := 28) (tgt := 37) dX3_minutes_28 (by decide) (by omega) (by omega) (fun h28 => ?_) (fun h28 => ?_)
    · skip
      refine z_aload_n (pc := 37) dX3_minutes_37 0 rfl ?_
      refine z_get (pc := 38) (q0 := 0) (v := .ref h) fL_X3_10 dX3_minutes_38 rfl rfl ?_
      refine z_iload_n (pc := 41) dX3_minutes_41 1 rfl ?_
      refine z_callV (pc := 42) (st := []) (st2 := []) (ws2 := [(x, .inr (3, [.ref h, .ref t, .ref k0, .int ik, .ref tp, .ref sh, .ref fi])), (h, oG (minsG g (Int.toNat n)) hK hH hM hO), (hK, .inl (cI, 8, .inl (aG (minsG g (Int.toNat n)) 0))), (hH, .inl (cI, 8, .inl (aG (minsG g (Int.toNat n)) 1))), (hM, .inl (cI, 8, .inl (aG (minsG g (Int.toNat n)) 2))), (hO, .inl (cI, 8, .inl (aG (minsG g (Int.toNat n)) 3))), (fi, .inl (cI, 7, .inl (ar fd)))]) (q0 := 1) (c_X0_goOn l D cI cJ cB cS xa h hK hH hM hO g n ok (by omega) (by omega)) mV_X0_goOn kM_X3_141 dX3_minutes_42 rfl rfl [1, 2, 3, 4, 5] rfl rfl rfl rfl rfl rfl rfl rfl ⟨Nat.le_of_ble_eq_true rfl, Nat.le_of_ble_eq_true rfl, Nat.le_of_ble_eq_true rfl⟩ ?_
      have ok42_1 : Ok (minsG g (Int.toNat n)) := minsG_ok ok _ (by omega)
      have f42_2 := minsG_40 g (Int.toNat n)
      have f42_3 := minsG_41 g (Int.toNat n)
      have f42_4 := minsG_42 g (Int.toNat n)
      refine z_aload_n (pc := 45) dX3_minutes_45 0 rfl ?_
      refine z_get (pc := 46) (q0 := 0) (v := .ref h) fL_X3_10 dX3_minutes_46 rfl rfl ?_
      refine z_callV (pc := 49) (st := []) (st2 := [.int (iI (highG (minsG g (Int.toNat n))))]) (ws2 := [(x, .inr (3, [.ref h, .ref t, .ref k0, .int ik, .ref tp, .ref sh, .ref fi])), (h, oG (minsG g (Int.toNat n)) hK hH hM hO), (hK, .inl (cI, 8, .inl (aG (minsG g (Int.toNat n)) 0))), (hH, .inl (cI, 8, .inl (aG (minsG g (Int.toNat n)) 1))), (hM, .inl (cI, 8, .inl (aG (minsG g (Int.toNat n)) 2))), (hO, .inl (cI, 8, .inl (aG (minsG g (Int.toNat n)) 3))), (fi, .inl (cI, 7, .inl (ar fd)))]) (q0 := 1) (c_X0_highest l D cI cJ cB cS xa h hK hH hM hO (minsG g (Int.toNat n)) ok42_1) mV_X0_highest kM_X3_87 dX3_minutes_49 rfl rfl [1, 3] rfl rfl rfl rfl rfl rfl rfl rfl ⟨Nat.le_of_ble_eq_true rfl, Nat.le_of_ble_eq_true rfl, Nat.le_of_ble_eq_true rfl⟩ ?_
      have f49_5 := highG_rng ok42_1
      have e9 : opMinutes g fd n = ((iI (highG (minsG g (Int.toNat n)))), (minsG g (Int.toNat n)), fd) := by
        unfold opMinutes; try unfold bI
        (repeat' split) <;> first | (exfalso; omega) | contradiction | rfl
      exact z_iret (pc := 52) dX3_minutes_52 (by rw [e9]) (by rw [e9])
    · skip
      refine z_aload_n (pc := 31) dX3_minutes_31 0 rfl ?_
      refine z_iconst (pc := 32) dX3_minutes_32 ?_
      refine z_callV (pc := 33) (st := []) (st2 := [.int (iI (-1000000001 - 4))]) (ws2 := [(x, .inr (3, [.ref h, .ref t, .ref k0, .int ik, .ref tp, .ref sh, .ref fi])), (h, oG g hK hH hM hO), (hK, .inl (cI, 8, .inl (aG g 0))), (hH, .inl (cI, 8, .inl (aG g 1))), (hM, .inl (cI, 8, .inl (aG g 2))), (hO, .inl (cI, 8, .inl (aG g 3))), (fi, .inl (cI, 7, .inl (ar (fnd fd 4))))]) (q0 := 0) (c_X3_found l D cI cJ cB cS xa x h t k0 tp sh fi ik fd 4 (by omega)) mV_X3_found kM_X3_48 dX3_minutes_33 rfl rfl [0, 6] rfl rfl rfl rfl rfl rfl rfl rfl ⟨Nat.le_of_ble_eq_true rfl, Nat.le_of_ble_eq_true rfl, Nat.le_of_ble_eq_true rfl⟩ ?_
      have e9 : opMinutes g fd n = ((iI (-1000000001 - 4)), g, fnd fd 4) := by
        unfold opMinutes; try unfold bI
        (repeat' split) <;> first | (exfalso; omega) | contradiction | rfl
      exact z_iret (pc := 36) dX3_minutes_36 (by rw [e9]) (by rw [e9])
  · skip
    refine z_aload_n (pc := 11) dX3_minutes_11 0 rfl ?_
    refine z_iconst (pc := 12) dX3_minutes_12 ?_
    refine z_callV (pc := 13) (st := []) (st2 := [.int (iI (-1000000001 - 0))]) (ws2 := [(x, .inr (3, [.ref h, .ref t, .ref k0, .int ik, .ref tp, .ref sh, .ref fi])), (h, oG g hK hH hM hO), (hK, .inl (cI, 8, .inl (aG g 0))), (hH, .inl (cI, 8, .inl (aG g 1))), (hM, .inl (cI, 8, .inl (aG g 2))), (hO, .inl (cI, 8, .inl (aG g 3))), (fi, .inl (cI, 7, .inl (ar (fnd fd 0))))]) (q0 := 0) (c_X3_found l D cI cJ cB cS xa x h t k0 tp sh fi ik fd 0 (by omega)) mV_X3_found kM_X3_48 dX3_minutes_13 rfl rfl [0, 6] rfl rfl rfl rfl rfl rfl rfl rfl ⟨Nat.le_of_ble_eq_true rfl, Nat.le_of_ble_eq_true rfl, Nat.le_of_ble_eq_true rfl⟩ ?_
    have e9 : opMinutes g fd n = ((iI (-1000000001 - 0)), g, fnd fd 0) := by
      unfold opMinutes; try unfold bI
      (repeat' split) <;> first | (exfalso; omega) | contradiction | rfl
    exact z_iret (pc := 16) dX3_minutes_16 (by rw [e9]) (by rw [e9])
set_option maxHeartbeats 8000000 in
set_option maxRecDepth 100000 in
theorem c_X3_on (l : Launch) (D : va_G) (cI cJ cB cS : ClassId) (xa : XA) (x h hK hH hM hO t tK tH tM tO k0 tp sh fi : Nat) (ik : Int32) (g : Gd) (fd : FF) (gt : Gd) (c n w : Int) (ok : Ok g) (rc : inr c) (rn : inr n) (rw : inr w) (okt : Ok gt) (hm : g 4 0 ≤ 99999) : CtE (S := Gd) l D cI cJ cB cS xa yX3_on cX3_on 4 (some .int) 5 112 [.ref x, .int (iI c), .int (iI n), .int (iI w)] [(x, .inr (3, [.ref h, .ref t, .ref k0, .int ik, .ref tp, .ref sh, .ref fi])), (h, oG g hK hH hM hO), (hK, .inl (cI, 8, .inl (aG g 0))), (hH, .inl (cI, 8, .inl (aG g 1))), (hM, .inl (cI, 8, .inl (aG g 2))), (hO, .inl (cI, 8, .inl (aG g 3))), (t, oG gt tK tH tM tO), (tK, .inl (cI, 8, .inl (aG gt 0))), (tH, .inl (cI, 8, .inl (aG gt 1))), (tM, .inl (cI, 8, .inl (aG gt 2))), (tO, .inl (cI, 8, .inl (aG gt 3))), (fi, .inl (cI, 7, .inl (ar fd)))] (fun gt2 : Gd => Ok gt2) (fun gt2 : Gd => (some (.int ((opOn g fd c n w).1)))) (fun gt2 : Gd => [(x, .inr (3, [.ref h, .ref t, .ref k0, .int ik, .ref tp, .ref sh, .ref fi])), (h, oG g hK hH hM hO), (hK, .inl (cI, 8, .inl (aG g 0))), (hH, .inl (cI, 8, .inl (aG g 1))), (hM, .inl (cI, 8, .inl (aG g 2))), (hO, .inl (cI, 8, .inl (aG g 3))), (t, oG gt2 tK tH tM tO), (tK, .inl (cI, 8, .inl (aG gt2 0))), (tH, .inl (cI, 8, .inl (aG gt2 1))), (tM, .inl (cI, 8, .inl (aG gt2 2))), (tO, .inl (cI, 8, .inl (aG gt2 3))), (fi, .inl (cI, 7, .inl (ar ((opOn g fd c n w).2))))]) := by
  have o0 := ok0 ok
  have o1 := ok1 ok
  have o2 := ok2 ok
  refine CtE.of (own := RX3) (lv := [(0, .ref x), (1, .int (iI c)), (2, .int (iI n)), (3, .int (iI w))]) (by decide) rfl rfl (Nat.le_of_ble_eq_true rfl) ?_
  intro xp xe xs xm xb xt xc
  refine z_aload_n (pc := 0) dX3_on_0 0 rfl ?_
  refine z_iload_n (pc := 1) dX3_on_1 1 rfl ?_
  refine z_callV (pc := 2) (st := []) (st2 := [.int (bI (0 ≤ c ∧ c < g 4 2))]) (ws2 := [(x, .inr (3, [.ref h, .ref t, .ref k0, .int ik, .ref tp, .ref sh, .ref fi])), (h, oG g hK hH hM hO), (hK, .inl (cI, 8, .inl (aG g 0))), (hH, .inl (cI, 8, .inl (aG g 1))), (hM, .inl (cI, 8, .inl (aG g 2))), (hO, .inl (cI, 8, .inl (aG g 3))), (t, oG gt tK tH tM tO), (tK, .inl (cI, 8, .inl (aG gt 0))), (tH, .inl (cI, 8, .inl (aG gt 1))), (tM, .inl (cI, 8, .inl (aG gt 2))), (tO, .inl (cI, 8, .inl (aG gt 3))), (fi, .inl (cI, 7, .inl (ar fd)))]) (q0 := 0) (c_X3_isChild l D cI cJ cB cS xa x h hK hH hM hO t k0 tp sh fi ik g c ok (by omega)) mV_X3_isChild kM_X3_100 dX3_on_2 rfl rfl [0, 1] rfl rfl rfl rfl rfl rfl rfl rfl ⟨Nat.le_of_ble_eq_true rfl, Nat.le_of_ble_eq_true rfl, Nat.le_of_ble_eq_true rfl⟩ ?_
  refine z_ifb_eq (pc := 5) (tgt := 28) dX3_on_5 (by decide) (fun h5 => ?_) (fun h5 => ?_)
  · skip
    refine z_aload_n (pc := 28) dX3_on_28 0 rfl ?_
    refine z_iconst (pc := 29) dX3_on_29 ?_
    refine z_callV (pc := 30) (st := []) (st2 := [.int (iI (-1000000001 - 0))]) (ws2 := [(x, .inr (3, [.ref h, .ref t, .ref k0, .int ik, .ref tp, .ref sh, .ref fi])), (h, oG g hK hH hM hO), (hK, .inl (cI, 8, .inl (aG g 0))), (hH, .inl (cI, 8, .inl (aG g 1))), (hM, .inl (cI, 8, .inl (aG g 2))), (hO, .inl (cI, 8, .inl (aG g 3))), (t, oG gt tK tH tM tO), (tK, .inl (cI, 8, .inl (aG gt 0))), (tH, .inl (cI, 8, .inl (aG gt 1))), (tM, .inl (cI, 8, .inl (aG gt 2))), (tO, .inl (cI, 8, .inl (aG gt 3))), (fi, .inl (cI, 7, .inl (ar (fnd fd 0))))]) (q0 := 0) (c_X3_found l D cI cJ cB cS xa x h t k0 tp sh fi ik fd 0 (by omega)) mV_X3_found kM_X3_48 dX3_on_30 rfl rfl [0, 11] rfl rfl rfl rfl rfl rfl rfl rfl ⟨Nat.le_of_ble_eq_true rfl, Nat.le_of_ble_eq_true rfl, Nat.le_of_ble_eq_true rfl⟩ ?_
    have e9 : opOn g fd c n w = ((iI (-1000000001 - 0)), fnd fd 0) := by
      unfold opOn; try unfold bI
      (repeat' split) <;> first | (exfalso; omega) | contradiction | rfl
    exact z_iretE (pc := 33) dX3_on_33 gt okt (by rw [e9]) (by rw [e9])
  · skip
    refine z_iload_n (pc := 8) dX3_on_8 2 rfl ?_
    refine z_iconst (pc := 9) dX3_on_9 ?_
    refine z_sipush (pc := 10) dX3_on_10 (by decide) ?_
    refine z_callS (pc := 13) (st := []) (st2 := [.int (bI (0 ≤ n ∧ n ≤ 400))]) (ws2 := [(x, .inr (3, [.ref h, .ref t, .ref k0, .int ik, .ref tp, .ref sh, .ref fi])), (h, oG g hK hH hM hO), (hK, .inl (cI, 8, .inl (aG g 0))), (hH, .inl (cI, 8, .inl (aG g 1))), (hM, .inl (cI, 8, .inl (aG g 2))), (hO, .inl (cI, 8, .inl (aG g 3))), (t, oG gt tK tH tM tO), (tK, .inl (cI, 8, .inl (aG gt 0))), (tH, .inl (cI, 8, .inl (aG gt 1))), (tM, .inl (cI, 8, .inl (aG gt 2))), (tO, .inl (cI, 8, .inl (aG gt 3))), (fi, .inl (cI, 7, .inl (ar fd)))]) (c_X3_within l D cI cJ cB cS xa n 0 400 (by omega) (by omega) (by omega)) mS_X3_within kM_X3_44 dX3_on_13 [] rfl rfl rfl rfl rfl rfl rfl rfl ⟨Nat.le_of_ble_eq_true rfl, Nat.le_of_ble_eq_true rfl, Nat.le_of_ble_eq_true rfl⟩ ?_
    refine z_ifb_eq (pc := 16) (tgt := 28) dX3_on_16 (by decide) (fun h16 => ?_) (fun h16 => ?_)
    · skip
      refine z_aload_n (pc := 28) dX3_on_28 0 rfl ?_
      refine z_iconst (pc := 29) dX3_on_29 ?_
      refine z_callV (pc := 30) (st := []) (st2 := [.int (iI (-1000000001 - 0))]) (ws2 := [(x, .inr (3, [.ref h, .ref t, .ref k0, .int ik, .ref tp, .ref sh, .ref fi])), (h, oG g hK hH hM hO), (hK, .inl (cI, 8, .inl (aG g 0))), (hH, .inl (cI, 8, .inl (aG g 1))), (hM, .inl (cI, 8, .inl (aG g 2))), (hO, .inl (cI, 8, .inl (aG g 3))), (t, oG gt tK tH tM tO), (tK, .inl (cI, 8, .inl (aG gt 0))), (tH, .inl (cI, 8, .inl (aG gt 1))), (tM, .inl (cI, 8, .inl (aG gt 2))), (tO, .inl (cI, 8, .inl (aG gt 3))), (fi, .inl (cI, 7, .inl (ar (fnd fd 0))))]) (q0 := 0) (c_X3_found l D cI cJ cB cS xa x h t k0 tp sh fi ik fd 0 (by omega)) mV_X3_found kM_X3_48 dX3_on_30 rfl rfl [0, 11] rfl rfl rfl rfl rfl rfl rfl rfl ⟨Nat.le_of_ble_eq_true rfl, Nat.le_of_ble_eq_true rfl, Nat.le_of_ble_eq_true rfl⟩ ?_
      have e9 : opOn g fd c n w = ((iI (-1000000001 - 0)), fnd fd 0) := by
        unfold opOn; try unfold bI
        (repeat' split) <;> first | (exfalso; omega) | contradiction | rfl
      exact z_iretE (pc := 33) dX3_on_33 gt okt (by rw [e9]) (by rw [e9])
    · skip
      refine z_iload_n (pc := 19) dX3_on_19 3 rfl ?_
      refine z_iconst (pc := 20) dX3_on_20 ?_
      refine z_iconst (pc := 21) dX3_on_21 ?_
      refine z_callS (pc := 22) (st := []) (st2 := [.int (bI (0 ≤ w ∧ w ≤ 1))]) (ws2 := [(x, .inr (3, [.ref h, .ref t, .ref k0, .int ik, .ref tp, .ref sh, .ref fi])), (h, oG g hK hH hM hO), (hK, .inl (cI, 8, .inl (aG g 0))), (hH, .inl (cI, 8, .inl (aG g 1))), (hM, .inl (cI, 8, .inl (aG g 2))), (hO, .inl (cI, 8, .inl (aG g 3))), (t, oG gt tK tH tM tO), (tK, .inl (cI, 8, .inl (aG gt 0))), (tH, .inl (cI, 8, .inl (aG gt 1))), (tM, .inl (cI, 8, .inl (aG gt 2))), (tO, .inl (cI, 8, .inl (aG gt 3))), (fi, .inl (cI, 7, .inl (ar fd)))]) (c_X3_within l D cI cJ cB cS xa w 0 1 (by omega) (by omega) (by omega)) mS_X3_within kM_X3_44 dX3_on_22 [] rfl rfl rfl rfl rfl rfl rfl rfl ⟨Nat.le_of_ble_eq_true rfl, Nat.le_of_ble_eq_true rfl, Nat.le_of_ble_eq_true rfl⟩ ?_
      refine z_ifb_ne (pc := 25) (tgt := 34) dX3_on_25 (by decide) (fun h25 => ?_) (fun h25 => ?_)
      · skip
        refine z_aload_n (pc := 34) dX3_on_34 0 rfl ?_
        refine z_callV (pc := 35) (st := []) (st2 := []) (ws2 := [(x, .inr (3, [.ref h, .ref t, .ref k0, .int ik, .ref tp, .ref sh, .ref fi])), (h, oG g hK hH hM hO), (hK, .inl (cI, 8, .inl (aG g 0))), (hH, .inl (cI, 8, .inl (aG g 1))), (hM, .inl (cI, 8, .inl (aG g 2))), (hO, .inl (cI, 8, .inl (aG g 3))), (t, oG (likeG gt g) tK tH tM tO), (tK, .inl (cI, 8, .inl (aG (likeG gt g) 0))), (tH, .inl (cI, 8, .inl (aG (likeG gt g) 1))), (tM, .inl (cI, 8, .inl (aG (likeG gt g) 2))), (tO, .inl (cI, 8, .inl (aG (likeG gt g) 3))), (fi, .inl (cI, 7, .inl (ar fd)))]) (q0 := 0) (c_X3_tryAsItIs l D cI cJ cB cS xa x h hK hH hM hO t tK tH tM tO k0 tp sh fi ik g gt ok okt) mV_X3_tryAsItIs kM_X3_145 dX3_on_35 rfl rfl [0, 1, 2, 3, 4, 5, 6, 7, 8, 9, 10] rfl rfl rfl rfl rfl rfl rfl rfl ⟨Nat.le_of_ble_eq_true rfl, Nat.le_of_ble_eq_true rfl, Nat.le_of_ble_eq_true rfl⟩ ?_
        have ok35_1 : Ok (likeG gt g) := likeG_ok okt ok
        have f35_2 := (show likeG gt g 4 0 = g 4 0 from rfl)
        have f35_3 := (show likeG gt g 4 1 = g 4 1 from rfl)
        have f35_4 := (show likeG gt g 4 2 = g 4 2 from rfl)
        refine z_aload_n (pc := 38) dX3_on_38 0 rfl ?_
        refine z_get (pc := 39) (q0 := 0) (v := .ref t) fL_X3_16 dX3_on_39 rfl rfl ?_
        refine z_iload_n (pc := 42) dX3_on_42 2 rfl ?_
        refine z_callV (pc := 43) (st := []) (st2 := []) (ws2 := [(x, .inr (3, [.ref h, .ref t, .ref k0, .int ik, .ref tp, .ref sh, .ref fi])), (h, oG g hK hH hM hO), (hK, .inl (cI, 8, .inl (aG g 0))), (hH, .inl (cI, 8, .inl (aG g 1))), (hM, .inl (cI, 8, .inl (aG g 2))), (hO, .inl (cI, 8, .inl (aG g 3))), (t, oG (minsG (likeG gt g) (Int.toNat n)) tK tH tM tO), (tK, .inl (cI, 8, .inl (aG (minsG (likeG gt g) (Int.toNat n)) 0))), (tH, .inl (cI, 8, .inl (aG (minsG (likeG gt g) (Int.toNat n)) 1))), (tM, .inl (cI, 8, .inl (aG (minsG (likeG gt g) (Int.toNat n)) 2))), (tO, .inl (cI, 8, .inl (aG (minsG (likeG gt g) (Int.toNat n)) 3))), (fi, .inl (cI, 7, .inl (ar fd)))]) (q0 := 6) (c_X0_goOn l D cI cJ cB cS xa t tK tH tM tO (likeG gt g) n ok35_1 (by omega) (by omega)) mV_X0_goOn kM_X3_141 dX3_on_43 rfl rfl [6, 7, 8, 9, 10] rfl rfl rfl rfl rfl rfl rfl rfl ⟨Nat.le_of_ble_eq_true rfl, Nat.le_of_ble_eq_true rfl, Nat.le_of_ble_eq_true rfl⟩ ?_
        have ok43_5 : Ok (minsG (likeG gt g) (Int.toNat n)) := minsG_ok ok35_1 _ (by omega)
        have f43_6 := minsG_40 (likeG gt g) (Int.toNat n)
        have f43_7 := minsG_41 (likeG gt g) (Int.toNat n)
        have f43_8 := minsG_42 (likeG gt g) (Int.toNat n)
        refine z_iload_n (pc := 46) dX3_on_46 3 rfl ?_
        refine z_if_ne (pc := 47) (tgt := 62) dX3_on_47 (by decide) (by omega) (fun h47 => ?_) (fun h47 => ?_)
        · skip
          refine z_aload_n (pc := 62) dX3_on_62 0 rfl ?_
          refine z_get (pc := 63) (q0 := 0) (v := .ref t) fL_X3_16 dX3_on_63 rfl rfl ?_
          refine z_get (pc := 66) (q0 := 6) (v := .ref tM) fL_X3_106 dX3_on_66 rfl rfl ?_
          refine z_iload_n (pc := 69) dX3_on_69 1 rfl ?_
          refine z_iald (pc := 70) (q0 := 9) (v := (iI ((minsG (likeG gt g) (Int.toNat n)) 2 c))) dX3_on_70 rfl (by omega) (by decide) (aG_at (by omega)) ?_
          have b9 := okM ok43_5 c
          have e9 : opOn g fd c n w = ((iI ((minsG (likeG gt g) (Int.toNat n)) 2 c)), fd) := by
            obtain rfl : w = 1 := by omega
            unfold opOn
            rw [if_pos ⟨⟨by omega, by omega⟩, ⟨by omega, by omega⟩, by omega, by omega⟩, show (1 + 1 : Int) = 2 from rfl, ← later (agr_like gt g) ok35_1 (by omega) (by omega) (by decide) ⟨by omega, by omega⟩]
          exact z_iretE (pc := 71) dX3_on_71 (minsG (likeG gt g) (Int.toNat n)) ok43_5 (by rw [e9]) (by rw [e9])
        · skip
          refine z_aload_n (pc := 50) dX3_on_50 0 rfl ?_
          refine z_get (pc := 51) (q0 := 0) (v := .ref t) fL_X3_16 dX3_on_51 rfl rfl ?_
          refine z_get (pc := 54) (q0 := 6) (v := .ref tH) fL_X3_74 dX3_on_54 rfl rfl ?_
          refine z_iload_n (pc := 57) dX3_on_57 1 rfl ?_
          refine z_iald (pc := 58) (q0 := 8) (v := (iI ((minsG (likeG gt g) (Int.toNat n)) 1 c))) dX3_on_58 rfl (by omega) (by decide) (aG_at (by omega)) ?_
          have b10 := okH ok43_5 c
          refine z_goto (pc := 59) (tgt := 71) dX3_on_59 (by decide) ?_
          have e9 : opOn g fd c n w = ((iI ((minsG (likeG gt g) (Int.toNat n)) 1 c)), fd) := by
            obtain rfl : w = 0 := by omega
            unfold opOn
            rw [if_pos ⟨⟨by omega, by omega⟩, ⟨by omega, by omega⟩, by omega, by omega⟩, show (1 + 0 : Int) = 1 from rfl, ← later (agr_like gt g) ok35_1 (by omega) (by omega) (by decide) ⟨by omega, by omega⟩]
          exact z_iretE (pc := 71) dX3_on_71 (minsG (likeG gt g) (Int.toNat n)) ok43_5 (by rw [e9]) (by rw [e9])
      · skip
        refine z_aload_n (pc := 28) dX3_on_28 0 rfl ?_
        refine z_iconst (pc := 29) dX3_on_29 ?_
        refine z_callV (pc := 30) (st := []) (st2 := [.int (iI (-1000000001 - 0))]) (ws2 := [(x, .inr (3, [.ref h, .ref t, .ref k0, .int ik, .ref tp, .ref sh, .ref fi])), (h, oG g hK hH hM hO), (hK, .inl (cI, 8, .inl (aG g 0))), (hH, .inl (cI, 8, .inl (aG g 1))), (hM, .inl (cI, 8, .inl (aG g 2))), (hO, .inl (cI, 8, .inl (aG g 3))), (t, oG gt tK tH tM tO), (tK, .inl (cI, 8, .inl (aG gt 0))), (tH, .inl (cI, 8, .inl (aG gt 1))), (tM, .inl (cI, 8, .inl (aG gt 2))), (tO, .inl (cI, 8, .inl (aG gt 3))), (fi, .inl (cI, 7, .inl (ar (fnd fd 0))))]) (q0 := 0) (c_X3_found l D cI cJ cB cS xa x h t k0 tp sh fi ik fd 0 (by omega)) mV_X3_found kM_X3_48 dX3_on_30 rfl rfl [0, 11] rfl rfl rfl rfl rfl rfl rfl rfl ⟨Nat.le_of_ble_eq_true rfl, Nat.le_of_ble_eq_true rfl, Nat.le_of_ble_eq_true rfl⟩ ?_
        have e9 : opOn g fd c n w = ((iI (-1000000001 - 0)), fnd fd 0) := by
          unfold opOn; try unfold bI
          (repeat' split) <;> first | (exfalso; omega) | contradiction | rfl
        exact z_iretE (pc := 33) dX3_on_33 gt okt (by rw [e9]) (by rw [e9])
set_option maxHeartbeats 8000000 in
set_option maxRecDepth 100000 in
theorem c_X3_owes (l : Launch) (D : va_G) (cI cJ cB cS : ClassId) (xa : XA) (x h hK hH hM hO t tK tH tM tO k0 tp sh fi : Nat) (ik : Int32) (g : Gd) (fd : FF) (gt : Gd) (c n : Int) (ok : Ok g) (rc : inr c) (rn : inr n) (okt : Ok gt) (hm : g 4 0 ≤ 99999) : CtE (S := Gd) l D cI cJ cB cS xa yX3_owes cX3_owes 3 (some .int) 5 112 [.ref x, .int (iI c), .int (iI n)] [(x, .inr (3, [.ref h, .ref t, .ref k0, .int ik, .ref tp, .ref sh, .ref fi])), (h, oG g hK hH hM hO), (hK, .inl (cI, 8, .inl (aG g 0))), (hH, .inl (cI, 8, .inl (aG g 1))), (hM, .inl (cI, 8, .inl (aG g 2))), (hO, .inl (cI, 8, .inl (aG g 3))), (t, oG gt tK tH tM tO), (tK, .inl (cI, 8, .inl (aG gt 0))), (tH, .inl (cI, 8, .inl (aG gt 1))), (tM, .inl (cI, 8, .inl (aG gt 2))), (tO, .inl (cI, 8, .inl (aG gt 3))), (fi, .inl (cI, 7, .inl (ar fd)))] (fun gt2 : Gd => Ok gt2) (fun gt2 : Gd => (some (.int ((opOwes g fd c n).1)))) (fun gt2 : Gd => [(x, .inr (3, [.ref h, .ref t, .ref k0, .int ik, .ref tp, .ref sh, .ref fi])), (h, oG g hK hH hM hO), (hK, .inl (cI, 8, .inl (aG g 0))), (hH, .inl (cI, 8, .inl (aG g 1))), (hM, .inl (cI, 8, .inl (aG g 2))), (hO, .inl (cI, 8, .inl (aG g 3))), (t, oG gt2 tK tH tM tO), (tK, .inl (cI, 8, .inl (aG gt2 0))), (tH, .inl (cI, 8, .inl (aG gt2 1))), (tM, .inl (cI, 8, .inl (aG gt2 2))), (tO, .inl (cI, 8, .inl (aG gt2 3))), (fi, .inl (cI, 7, .inl (ar ((opOwes g fd c n).2))))]) := by
  have o0 := ok0 ok
  have o1 := ok1 ok
  have o2 := ok2 ok
  refine CtE.of (own := RX3) (lv := [(0, .ref x), (1, .int (iI c)), (2, .int (iI n))]) (by decide) rfl rfl (Nat.le_of_ble_eq_true rfl) ?_
  intro xp xe xs xm xb xt xc
  refine z_aload_n (pc := 0) dX3_owes_0 0 rfl ?_
  refine z_iload_n (pc := 1) dX3_owes_1 1 rfl ?_
  refine z_callV (pc := 2) (st := []) (st2 := [.int (bI (0 ≤ c ∧ c < g 4 2))]) (ws2 := [(x, .inr (3, [.ref h, .ref t, .ref k0, .int ik, .ref tp, .ref sh, .ref fi])), (h, oG g hK hH hM hO), (hK, .inl (cI, 8, .inl (aG g 0))), (hH, .inl (cI, 8, .inl (aG g 1))), (hM, .inl (cI, 8, .inl (aG g 2))), (hO, .inl (cI, 8, .inl (aG g 3))), (t, oG gt tK tH tM tO), (tK, .inl (cI, 8, .inl (aG gt 0))), (tH, .inl (cI, 8, .inl (aG gt 1))), (tM, .inl (cI, 8, .inl (aG gt 2))), (tO, .inl (cI, 8, .inl (aG gt 3))), (fi, .inl (cI, 7, .inl (ar fd)))]) (q0 := 0) (c_X3_isChild l D cI cJ cB cS xa x h hK hH hM hO t k0 tp sh fi ik g c ok (by omega)) mV_X3_isChild kM_X3_100 dX3_owes_2 rfl rfl [0, 1] rfl rfl rfl rfl rfl rfl rfl rfl ⟨Nat.le_of_ble_eq_true rfl, Nat.le_of_ble_eq_true rfl, Nat.le_of_ble_eq_true rfl⟩ ?_
  refine z_ifb_eq (pc := 5) (tgt := 19) dX3_owes_5 (by decide) (fun h5 => ?_) (fun h5 => ?_)
  · skip
    refine z_aload_n (pc := 19) dX3_owes_19 0 rfl ?_
    refine z_iconst (pc := 20) dX3_owes_20 ?_
    refine z_callV (pc := 21) (st := []) (st2 := [.int (iI (-1000000001 - 0))]) (ws2 := [(x, .inr (3, [.ref h, .ref t, .ref k0, .int ik, .ref tp, .ref sh, .ref fi])), (h, oG g hK hH hM hO), (hK, .inl (cI, 8, .inl (aG g 0))), (hH, .inl (cI, 8, .inl (aG g 1))), (hM, .inl (cI, 8, .inl (aG g 2))), (hO, .inl (cI, 8, .inl (aG g 3))), (t, oG gt tK tH tM tO), (tK, .inl (cI, 8, .inl (aG gt 0))), (tH, .inl (cI, 8, .inl (aG gt 1))), (tM, .inl (cI, 8, .inl (aG gt 2))), (tO, .inl (cI, 8, .inl (aG gt 3))), (fi, .inl (cI, 7, .inl (ar (fnd fd 0))))]) (q0 := 0) (c_X3_found l D cI cJ cB cS xa x h t k0 tp sh fi ik fd 0 (by omega)) mV_X3_found kM_X3_48 dX3_owes_21 rfl rfl [0, 11] rfl rfl rfl rfl rfl rfl rfl rfl ⟨Nat.le_of_ble_eq_true rfl, Nat.le_of_ble_eq_true rfl, Nat.le_of_ble_eq_true rfl⟩ ?_
    have e9 : opOwes g fd c n = ((iI (-1000000001 - 0)), fnd fd 0) := by
      unfold opOwes; try unfold bI
      (repeat' split) <;> first | (exfalso; omega) | contradiction | rfl
    exact z_iretE (pc := 24) dX3_owes_24 gt okt (by rw [e9]) (by rw [e9])
  · skip
    refine z_iload_n (pc := 8) dX3_owes_8 2 rfl ?_
    refine z_iconst (pc := 9) dX3_owes_9 ?_
    refine z_sipush (pc := 10) dX3_owes_10 (by decide) ?_
    refine z_callS (pc := 13) (st := []) (st2 := [.int (bI (0 ≤ n ∧ n ≤ 400))]) (ws2 := [(x, .inr (3, [.ref h, .ref t, .ref k0, .int ik, .ref tp, .ref sh, .ref fi])), (h, oG g hK hH hM hO), (hK, .inl (cI, 8, .inl (aG g 0))), (hH, .inl (cI, 8, .inl (aG g 1))), (hM, .inl (cI, 8, .inl (aG g 2))), (hO, .inl (cI, 8, .inl (aG g 3))), (t, oG gt tK tH tM tO), (tK, .inl (cI, 8, .inl (aG gt 0))), (tH, .inl (cI, 8, .inl (aG gt 1))), (tM, .inl (cI, 8, .inl (aG gt 2))), (tO, .inl (cI, 8, .inl (aG gt 3))), (fi, .inl (cI, 7, .inl (ar fd)))]) (c_X3_within l D cI cJ cB cS xa n 0 400 (by omega) (by omega) (by omega)) mS_X3_within kM_X3_44 dX3_owes_13 [] rfl rfl rfl rfl rfl rfl rfl rfl ⟨Nat.le_of_ble_eq_true rfl, Nat.le_of_ble_eq_true rfl, Nat.le_of_ble_eq_true rfl⟩ ?_
    refine z_ifb_ne (pc := 16) (tgt := 25) dX3_owes_16 (by decide) (fun h16 => ?_) (fun h16 => ?_)
    · skip
      refine z_aload_n (pc := 25) dX3_owes_25 0 rfl ?_
      refine z_callV (pc := 26) (st := []) (st2 := []) (ws2 := [(x, .inr (3, [.ref h, .ref t, .ref k0, .int ik, .ref tp, .ref sh, .ref fi])), (h, oG g hK hH hM hO), (hK, .inl (cI, 8, .inl (aG g 0))), (hH, .inl (cI, 8, .inl (aG g 1))), (hM, .inl (cI, 8, .inl (aG g 2))), (hO, .inl (cI, 8, .inl (aG g 3))), (t, oG (likeG gt g) tK tH tM tO), (tK, .inl (cI, 8, .inl (aG (likeG gt g) 0))), (tH, .inl (cI, 8, .inl (aG (likeG gt g) 1))), (tM, .inl (cI, 8, .inl (aG (likeG gt g) 2))), (tO, .inl (cI, 8, .inl (aG (likeG gt g) 3))), (fi, .inl (cI, 7, .inl (ar fd)))]) (q0 := 0) (c_X3_tryAsItIs l D cI cJ cB cS xa x h hK hH hM hO t tK tH tM tO k0 tp sh fi ik g gt ok okt) mV_X3_tryAsItIs kM_X3_145 dX3_owes_26 rfl rfl [0, 1, 2, 3, 4, 5, 6, 7, 8, 9, 10] rfl rfl rfl rfl rfl rfl rfl rfl ⟨Nat.le_of_ble_eq_true rfl, Nat.le_of_ble_eq_true rfl, Nat.le_of_ble_eq_true rfl⟩ ?_
      have ok26_1 : Ok (likeG gt g) := likeG_ok okt ok
      have f26_2 := (show likeG gt g 4 0 = g 4 0 from rfl)
      have f26_3 := (show likeG gt g 4 1 = g 4 1 from rfl)
      have f26_4 := (show likeG gt g 4 2 = g 4 2 from rfl)
      refine z_aload_n (pc := 29) dX3_owes_29 0 rfl ?_
      refine z_get (pc := 30) (q0 := 0) (v := .ref t) fL_X3_16 dX3_owes_30 rfl rfl ?_
      refine z_iload_n (pc := 33) dX3_owes_33 2 rfl ?_
      refine z_callV (pc := 34) (st := []) (st2 := []) (ws2 := [(x, .inr (3, [.ref h, .ref t, .ref k0, .int ik, .ref tp, .ref sh, .ref fi])), (h, oG g hK hH hM hO), (hK, .inl (cI, 8, .inl (aG g 0))), (hH, .inl (cI, 8, .inl (aG g 1))), (hM, .inl (cI, 8, .inl (aG g 2))), (hO, .inl (cI, 8, .inl (aG g 3))), (t, oG (minsG (likeG gt g) (Int.toNat n)) tK tH tM tO), (tK, .inl (cI, 8, .inl (aG (minsG (likeG gt g) (Int.toNat n)) 0))), (tH, .inl (cI, 8, .inl (aG (minsG (likeG gt g) (Int.toNat n)) 1))), (tM, .inl (cI, 8, .inl (aG (minsG (likeG gt g) (Int.toNat n)) 2))), (tO, .inl (cI, 8, .inl (aG (minsG (likeG gt g) (Int.toNat n)) 3))), (fi, .inl (cI, 7, .inl (ar fd)))]) (q0 := 6) (c_X0_goOn l D cI cJ cB cS xa t tK tH tM tO (likeG gt g) n ok26_1 (by omega) (by omega)) mV_X0_goOn kM_X3_141 dX3_owes_34 rfl rfl [6, 7, 8, 9, 10] rfl rfl rfl rfl rfl rfl rfl rfl ⟨Nat.le_of_ble_eq_true rfl, Nat.le_of_ble_eq_true rfl, Nat.le_of_ble_eq_true rfl⟩ ?_
      have ok34_5 : Ok (minsG (likeG gt g) (Int.toNat n)) := minsG_ok ok26_1 _ (by omega)
      have f34_6 := minsG_40 (likeG gt g) (Int.toNat n)
      have f34_7 := minsG_41 (likeG gt g) (Int.toNat n)
      have f34_8 := minsG_42 (likeG gt g) (Int.toNat n)
      refine z_aload_n (pc := 37) dX3_owes_37 0 rfl ?_
      refine z_get (pc := 38) (q0 := 0) (v := .ref t) fL_X3_16 dX3_owes_38 rfl rfl ?_
      refine z_get (pc := 41) (q0 := 6) (v := .ref tO) fL_X3_110 dX3_owes_41 rfl rfl ?_
      refine z_iload_n (pc := 44) dX3_owes_44 1 rfl ?_
      refine z_iald (pc := 45) (q0 := 10) (v := (iI ((minsG (likeG gt g) (Int.toNat n)) 3 c))) dX3_owes_45 rfl (by omega) (by decide) (aG_at (by omega)) ?_
      have b9 := okO ok34_5 c
      have e9 : opOwes g fd c n = ((iI ((minsG (likeG gt g) (Int.toNat n)) 3 c)), fd) := by
        unfold opOwes
        rw [if_pos ⟨⟨by omega, by omega⟩, by omega, by omega⟩, ← later (agr_like gt g) ok26_1 (by omega) (by omega) (by decide) ⟨by omega, by omega⟩]
      exact z_iretE (pc := 46) dX3_owes_46 (minsG (likeG gt g) (Int.toNat n)) ok34_5 (by rw [e9]) (by rw [e9])
    · skip
      refine z_aload_n (pc := 19) dX3_owes_19 0 rfl ?_
      refine z_iconst (pc := 20) dX3_owes_20 ?_
      refine z_callV (pc := 21) (st := []) (st2 := [.int (iI (-1000000001 - 0))]) (ws2 := [(x, .inr (3, [.ref h, .ref t, .ref k0, .int ik, .ref tp, .ref sh, .ref fi])), (h, oG g hK hH hM hO), (hK, .inl (cI, 8, .inl (aG g 0))), (hH, .inl (cI, 8, .inl (aG g 1))), (hM, .inl (cI, 8, .inl (aG g 2))), (hO, .inl (cI, 8, .inl (aG g 3))), (t, oG gt tK tH tM tO), (tK, .inl (cI, 8, .inl (aG gt 0))), (tH, .inl (cI, 8, .inl (aG gt 1))), (tM, .inl (cI, 8, .inl (aG gt 2))), (tO, .inl (cI, 8, .inl (aG gt 3))), (fi, .inl (cI, 7, .inl (ar (fnd fd 0))))]) (q0 := 0) (c_X3_found l D cI cJ cB cS xa x h t k0 tp sh fi ik fd 0 (by omega)) mV_X3_found kM_X3_48 dX3_owes_21 rfl rfl [0, 11] rfl rfl rfl rfl rfl rfl rfl rfl ⟨Nat.le_of_ble_eq_true rfl, Nat.le_of_ble_eq_true rfl, Nat.le_of_ble_eq_true rfl⟩ ?_
      have e9 : opOwes g fd c n = ((iI (-1000000001 - 0)), fnd fd 0) := by
        unfold opOwes; try unfold bI
        (repeat' split) <;> first | (exfalso; omega) | contradiction | rfl
      exact z_iretE (pc := 24) dX3_owes_24 gt okt (by rw [e9]) (by rw [e9])
set_option maxHeartbeats 8000000 in
set_option maxRecDepth 100000 in
theorem c_X3_level (l : Launch) (D : va_G) (cI cJ cB cS : ClassId) (xa : XA) (x h hK hH hM hO t tK tH tM tO k0 tp sh fi : Nat) (ik : Int32) (g : Gd) (fd : FF) (gt : Gd) (ok : Ok g) (okt : Ok gt) (hm : g 4 0 ≤ 99999) : CtE (S := Gd) l D cI cJ cB cS xa yX3_level cX3_level 2 (some .int) 4 90 [.ref x] [(x, .inr (3, [.ref h, .ref t, .ref k0, .int ik, .ref tp, .ref sh, .ref fi])), (h, oG g hK hH hM hO), (hK, .inl (cI, 8, .inl (aG g 0))), (hH, .inl (cI, 8, .inl (aG g 1))), (hM, .inl (cI, 8, .inl (aG g 2))), (hO, .inl (cI, 8, .inl (aG g 3))), (t, oG gt tK tH tM tO), (tK, .inl (cI, 8, .inl (aG gt 0))), (tH, .inl (cI, 8, .inl (aG gt 1))), (tM, .inl (cI, 8, .inl (aG gt 2))), (tO, .inl (cI, 8, .inl (aG gt 3))), (fi, .inl (cI, 7, .inl (ar fd)))] (fun gt2 : Gd => Ok gt2) (fun gt2 : Gd => (some (.int ((opLevel g fd).1)))) (fun gt2 : Gd => [(x, .inr (3, [.ref h, .ref t, .ref k0, .int ik, .ref tp, .ref sh, .ref fi])), (h, oG g hK hH hM hO), (hK, .inl (cI, 8, .inl (aG g 0))), (hH, .inl (cI, 8, .inl (aG g 1))), (hM, .inl (cI, 8, .inl (aG g 2))), (hO, .inl (cI, 8, .inl (aG g 3))), (t, oG gt2 tK tH tM tO), (tK, .inl (cI, 8, .inl (aG gt2 0))), (tH, .inl (cI, 8, .inl (aG gt2 1))), (tM, .inl (cI, 8, .inl (aG gt2 2))), (tO, .inl (cI, 8, .inl (aG gt2 3))), (fi, .inl (cI, 7, .inl (ar ((opLevel g fd).2))))]) := by
  have o0 := ok0 ok
  have o1 := ok1 ok
  have o2 := ok2 ok
  refine CtE.of (own := RX3) (lv := [(0, .ref x)]) (by decide) rfl rfl (Nat.le_of_ble_eq_true rfl) ?_
  intro xp xe xs xm xb xt xc
  refine z_aload_n (pc := 0) dX3_level_0 0 rfl ?_
  refine z_callV (pc := 1) (st := []) (st2 := []) (ws2 := [(x, .inr (3, [.ref h, .ref t, .ref k0, .int ik, .ref tp, .ref sh, .ref fi])), (h, oG g hK hH hM hO), (hK, .inl (cI, 8, .inl (aG g 0))), (hH, .inl (cI, 8, .inl (aG g 1))), (hM, .inl (cI, 8, .inl (aG g 2))), (hO, .inl (cI, 8, .inl (aG g 3))), (t, oG (likeG gt g) tK tH tM tO), (tK, .inl (cI, 8, .inl (aG (likeG gt g) 0))), (tH, .inl (cI, 8, .inl (aG (likeG gt g) 1))), (tM, .inl (cI, 8, .inl (aG (likeG gt g) 2))), (tO, .inl (cI, 8, .inl (aG (likeG gt g) 3))), (fi, .inl (cI, 7, .inl (ar fd)))]) (q0 := 0) (c_X3_tryAsItIs l D cI cJ cB cS xa x h hK hH hM hO t tK tH tM tO k0 tp sh fi ik g gt ok okt) mV_X3_tryAsItIs kM_X3_145 dX3_level_1 rfl rfl [0, 1, 2, 3, 4, 5, 6, 7, 8, 9, 10] rfl rfl rfl rfl rfl rfl rfl rfl ⟨Nat.le_of_ble_eq_true rfl, Nat.le_of_ble_eq_true rfl, Nat.le_of_ble_eq_true rfl⟩ ?_
  have ok1_1 : Ok (likeG gt g) := likeG_ok okt ok
  have f1_2 := (show likeG gt g 4 0 = g 4 0 from rfl)
  have f1_3 := (show likeG gt g 4 1 = g 4 1 from rfl)
  have f1_4 := (show likeG gt g 4 2 = g 4 2 from rfl)
  refine z_iconst (pc := 4) dX3_level_4 ?_
  refine z_istore_n (pc := 5) (lv2 := [(1, .int (iI 0)), (0, .ref x)]) dX3_level_5 rfl (by decide) rfl ?_
  have LP6 : ∀ (nn_ : Nat) (i : Int) (gg : Gd), (0 ≤ i) → (i ≤ 401) → (gg = minsG (likeG gt g) i.toNat) → (∀ j : Int, 0 ≤ j → j < i → ¬ (diffG (minsG g (Int.toNat j)) < 2)) → (401 - i).toNat < nn_ → Z xp l xe { frames := 4, cells := 0, slots := 0, locals := 90 } xs xm ([.ref x] : List Value).toArray xb xt xc 0 0 (MQ xb (Cq (S := Gd) D [(x, .inr (3, [.ref h, .ref t, .ref k0, .int ik, .ref tp, .ref sh, .ref fi])), (h, oG g hK hH hM hO), (hK, .inl (cI, 8, .inl (aG g 0))), (hH, .inl (cI, 8, .inl (aG g 1))), (hM, .inl (cI, 8, .inl (aG g 2))), (hO, .inl (cI, 8, .inl (aG g 3))), (t, oG gt tK tH tM tO), (tK, .inl (cI, 8, .inl (aG gt 0))), (tH, .inl (cI, 8, .inl (aG gt 1))), (tM, .inl (cI, 8, .inl (aG gt 2))), (tO, .inl (cI, 8, .inl (aG gt 3))), (fi, .inl (cI, 7, .inl (ar fd)))] (fun gt2 : Gd => Ok gt2) (fun gt2 : Gd => (some (.int ((opLevel g fd).1)))) (fun gt2 : Gd => [(x, .inr (3, [.ref h, .ref t, .ref k0, .int ik, .ref tp, .ref sh, .ref fi])), (h, oG g hK hH hM hO), (hK, .inl (cI, 8, .inl (aG g 0))), (hH, .inl (cI, 8, .inl (aG g 1))), (hM, .inl (cI, 8, .inl (aG g 2))), (hO, .inl (cI, 8, .inl (aG g 3))), (t, oG gt2 tK tH tM tO), (tK, .inl (cI, 8, .inl (aG gt2 0))), (tH, .inl (cI, 8, .inl (aG gt2 1))), (tM, .inl (cI, 8, .inl (aG gt2 2))), (tO, .inl (cI, 8, .inl (aG gt2 3))), (fi, .inl (cI, 7, .inl (ar ((opLevel g fd).2))))])) ([.ref x] : List Value).toArray xs 0 0 (va_A0 [(x, .inr (3, [.ref h, .ref t, .ref k0, .int ik, .ref tp, .ref sh, .ref fi])), (h, oG g hK hH hM hO), (hK, .inl (cI, 8, .inl (aG g 0))), (hH, .inl (cI, 8, .inl (aG g 1))), (hM, .inl (cI, 8, .inl (aG g 2))), (hO, .inl (cI, 8, .inl (aG g 3))), (t, oG gt tK tH tM tO), (tK, .inl (cI, 8, .inl (aG gt 0))), (tH, .inl (cI, 8, .inl (aG gt 1))), (tM, .inl (cI, 8, .inl (aG gt 2))), (tO, .inl (cI, 8, .inl (aG gt 3))), (fi, .inl (cI, 7, .inl (ar fd)))])) cX3_level RX3 2 (some .int) D cI cJ cB cS xa (va_A0 [(x, .inr (3, [.ref h, .ref t, .ref k0, .int ik, .ref tp, .ref sh, .ref fi])), (h, oG g hK hH hM hO), (hK, .inl (cI, 8, .inl (aG g 0))), (hH, .inl (cI, 8, .inl (aG g 1))), (hM, .inl (cI, 8, .inl (aG g 2))), (hO, .inl (cI, 8, .inl (aG g 3))), (t, oG gt tK tH tM tO), (tK, .inl (cI, 8, .inl (aG gt 0))), (tH, .inl (cI, 8, .inl (aG gt 1))), (tM, .inl (cI, 8, .inl (aG gt 2))), (tO, .inl (cI, 8, .inl (aG gt 3))), (fi, .inl (cI, 7, .inl (ar fd)))]) [(x, .inr (3, [.ref h, .ref t, .ref k0, .int ik, .ref tp, .ref sh, .ref fi])), (h, oG g hK hH hM hO), (hK, .inl (cI, 8, .inl (aG g 0))), (hH, .inl (cI, 8, .inl (aG g 1))), (hM, .inl (cI, 8, .inl (aG g 2))), (hO, .inl (cI, 8, .inl (aG g 3))), (t, oG gg tK tH tM tO), (tK, .inl (cI, 8, .inl (aG gg 0))), (tH, .inl (cI, 8, .inl (aG gg 1))), (tM, .inl (cI, 8, .inl (aG gg 2))), (tO, .inl (cI, 8, .inl (aG gg 3))), (fi, .inl (cI, 7, .inl (ar fd)))] [(0, .ref x), (1, .int (iI i))] 6 [] := by
    intro nn_
    induction nn_ with
    | zero => intro i gg hi0 hi1 hg hq hms; exact absurd hms (Nat.not_lt_zero _)
    | succ nn_ ih =>
      intro i gg hi0 hi1 hg hq hms
      have okl : Ok (likeG gt g) := likeG_ok okt ok
      have okg : Ok gg := by rw [hg]; exact minsG_ok okl _ (by show g 4 0 + _ ≤ _; omega)
      have q0 : gg 4 0 = g 4 0 + i.toNat := by rw [hg]; exact minsG_40 (likeG gt g) _
      have q2 : gg 4 2 = g 4 2 := by rw [hg]; exact minsG_42 (likeG gt g) _
      have ed : i ≤ 400 → diffG gg = diffG (minsG g (Int.toNat i)) := fun _ => by rw [hg]; exact laterD (agr_like gt g) okl hi0 (by show g 4 0 + i ≤ 1000000; omega)
      have ih6 := ih
      clear ih
      refine z_iload_n (pc := 6) dX3_level_6 1 rfl ?_
      refine z_sipush (pc := 7) dX3_level_7 (by decide) ?_
      refine z_icmp_gt (pc := 10) (tgt := 38) dX3_level_10 (by decide) (by omega) (by omega) (fun h10 => ?_) (fun h10 => ?_)
      · skip
        refine z_aload_n (pc := 38) dX3_level_38 0 rfl ?_
        refine z_iconst (pc := 39) dX3_level_39 ?_
        refine z_callV (pc := 40) (st := []) (st2 := [.int (iI (-1000000001 - 3))]) (ws2 := [(x, .inr (3, [.ref h, .ref t, .ref k0, .int ik, .ref tp, .ref sh, .ref fi])), (h, oG g hK hH hM hO), (hK, .inl (cI, 8, .inl (aG g 0))), (hH, .inl (cI, 8, .inl (aG g 1))), (hM, .inl (cI, 8, .inl (aG g 2))), (hO, .inl (cI, 8, .inl (aG g 3))), (t, oG gg tK tH tM tO), (tK, .inl (cI, 8, .inl (aG gg 0))), (tH, .inl (cI, 8, .inl (aG gg 1))), (tM, .inl (cI, 8, .inl (aG gg 2))), (tO, .inl (cI, 8, .inl (aG gg 3))), (fi, .inl (cI, 7, .inl (ar (fnd fd 3))))]) (q0 := 0) (c_X3_found l D cI cJ cB cS xa x h t k0 tp sh fi ik fd 3 (by omega)) mV_X3_found kM_X3_48 dX3_level_40 rfl rfl [0, 11] rfl rfl rfl rfl rfl rfl rfl rfl ⟨Nat.le_of_ble_eq_true rfl, Nat.le_of_ble_eq_true rfl, Nat.le_of_ble_eq_true rfl⟩ ?_
        have e9 : opLevel g fd = ((iI (-1000000001 - 3)), fnd fd 3) := by
          have ef := fst_none (fun i => diffG (minsG g (Int.toNat i)) < 2) 401 (fun j h0 h1 => hq j h0 (by omega))
          unfold opLevel foundI
          rw [ef, if_neg (by omega)]
          rfl
        exact z_iretE (pc := 43) dX3_level_43 gg okg (by rw [e9]) (by rw [e9])
      · skip
        have ed1 := ed (by omega)
        refine z_aload_n (pc := 13) dX3_level_13 0 rfl ?_
        refine z_get (pc := 14) (q0 := 0) (v := .ref t) fL_X3_16 dX3_level_14 rfl rfl ?_
        refine z_callV (pc := 17) (st := []) (st2 := [.int (bI (diffG gg < 2))]) (ws2 := [(x, .inr (3, [.ref h, .ref t, .ref k0, .int ik, .ref tp, .ref sh, .ref fi])), (h, oG g hK hH hM hO), (hK, .inl (cI, 8, .inl (aG g 0))), (hH, .inl (cI, 8, .inl (aG g 1))), (hM, .inl (cI, 8, .inl (aG g 2))), (hO, .inl (cI, 8, .inl (aG g 3))), (t, oG gg tK tH tM tO), (tK, .inl (cI, 8, .inl (aG gg 0))), (tH, .inl (cI, 8, .inl (aG gg 1))), (tM, .inl (cI, 8, .inl (aG gg 2))), (tO, .inl (cI, 8, .inl (aG gg 3))), (fi, .inl (cI, 7, .inl (ar fd)))]) (q0 := 6) (c_X0_isLevel l D cI cJ cB cS xa t tK tH tM tO gg okg) mV_X0_isLevel kM_X3_81 dX3_level_17 rfl rfl [6, 8] rfl rfl rfl rfl rfl rfl rfl rfl ⟨Nat.le_of_ble_eq_true rfl, Nat.le_of_ble_eq_true rfl, Nat.le_of_ble_eq_true rfl⟩ ?_
        refine z_ifb_eq (pc := 20) (tgt := 25) dX3_level_20 (by decide) (fun h20 => ?_) (fun h20 => ?_)
        · skip
          refine z_aload_n (pc := 25) dX3_level_25 0 rfl ?_
          refine z_get (pc := 26) (q0 := 0) (v := .ref t) fL_X3_16 dX3_level_26 rfl rfl ?_
          refine z_callV (pc := 29) (st := []) (st2 := []) (ws2 := [(x, .inr (3, [.ref h, .ref t, .ref k0, .int ik, .ref tp, .ref sh, .ref fi])), (h, oG g hK hH hM hO), (hK, .inl (cI, 8, .inl (aG g 0))), (hH, .inl (cI, 8, .inl (aG g 1))), (hM, .inl (cI, 8, .inl (aG g 2))), (hO, .inl (cI, 8, .inl (aG g 3))), (t, oG (minG gg) tK tH tM tO), (tK, .inl (cI, 8, .inl (aG (minG gg) 0))), (tH, .inl (cI, 8, .inl (aG (minG gg) 1))), (tM, .inl (cI, 8, .inl (aG (minG gg) 2))), (tO, .inl (cI, 8, .inl (aG (minG gg) 3))), (fi, .inl (cI, 7, .inl (ar fd)))]) (q0 := 6) (c_X0_goMinute l D cI cJ cB cS xa t tK tH tM tO gg okg (by omega)) mV_X0_goMinute kM_X3_148 dX3_level_29 rfl rfl [6, 7, 8, 9, 10] rfl rfl rfl rfl rfl rfl rfl rfl ⟨Nat.le_of_ble_eq_true rfl, Nat.le_of_ble_eq_true rfl, Nat.le_of_ble_eq_true rfl⟩ ?_
          have ok29_5 : Ok (minG gg) := minG_ok okg (by omega)
          have f29_6 := minG_40 gg
          have f29_7 := minG_41 gg
          have f29_8 := minG_42 gg
          refine z_iinc (pc := 32) (lv2 := [(1, .int (iI (i + 1))), (0, .ref x)]) dX3_level_32 1 rfl (by decide) rfl ?_
          refine z_goto (pc := 35) (tgt := 6) dX3_level_35 (by decide) ?_
          refine z_lv (lv2 := [(0, .ref x), (1, .int (iI (i + 1)))]) [1, 0] rfl ?_
          exact ih6 (i + 1) (minG gg) (by omega) (by omega) (by rw [minsG_s _ hi0, ← hg]) (lt_si hq (by have := ed (by omega); omega)) (by omega)
        · skip
          refine z_iload_n (pc := 23) dX3_level_23 1 rfl ?_
          have e9 : opLevel g fd = ((iI i), fd) := by
            have ef := fst_hit (fun i => diffG (minsG g (Int.toNat i)) < 2) 401 i (by omega) (by omega) (by show diffG (minsG g (Int.toNat i)) < 2; omega) hq
            unfold opLevel foundI
            rw [ef, if_pos (by omega)]
          exact z_iretE (pc := 24) dX3_level_24 gg okg (by rw [e9]) (by rw [e9])
  refine z_lv (lv2 := [(0, .ref x), (1, .int (iI 0))]) [1, 0] rfl ?_
  exact LP6 _ 0 (likeG gt g) (by omega) (by omega) (by rfl) (fun j h0 h1 => absurd h1 (by omega)) (Nat.lt_succ_self _)
set_option maxHeartbeats 8000000 in
set_option maxRecDepth 100000 in
theorem c_X3_firstMinuteWithin (l : Launch) (D : va_G) (cI cJ cB cS : ClassId) (xa : XA) (x h hK hH hM hO t tK tH tM tO k0 tp sh fi : Nat) (ik : Int32) (g : Gd) (fd : FF) (gt : Gd) (c a b : Int) (ok : Ok g) (rc : inr c) (ra : inr a) (rb : inr b) (okt : Ok gt) (hm : g 4 0 ≤ 99999) (hc : 0 ≤ c ∧ c < g 4 2) : CtE (S := Gd) l D cI cJ cB cS xa yX3_firstMinuteWithin cX3_firstMinuteWithin 5 (some .int) 4 90 [.ref x, .int (iI c), .int (iI a), .int (iI b)] [(x, .inr (3, [.ref h, .ref t, .ref k0, .int ik, .ref tp, .ref sh, .ref fi])), (h, oG g hK hH hM hO), (hK, .inl (cI, 8, .inl (aG g 0))), (hH, .inl (cI, 8, .inl (aG g 1))), (hM, .inl (cI, 8, .inl (aG g 2))), (hO, .inl (cI, 8, .inl (aG g 3))), (t, oG gt tK tH tM tO), (tK, .inl (cI, 8, .inl (aG gt 0))), (tH, .inl (cI, 8, .inl (aG gt 1))), (tM, .inl (cI, 8, .inl (aG gt 2))), (tO, .inl (cI, 8, .inl (aG gt 3))), (fi, .inl (cI, 7, .inl (ar fd)))] (fun gt2 : Gd => Ok gt2) (fun gt2 : Gd => (some (.int ((opFirst g fd c a b).1)))) (fun gt2 : Gd => [(x, .inr (3, [.ref h, .ref t, .ref k0, .int ik, .ref tp, .ref sh, .ref fi])), (h, oG g hK hH hM hO), (hK, .inl (cI, 8, .inl (aG g 0))), (hH, .inl (cI, 8, .inl (aG g 1))), (hM, .inl (cI, 8, .inl (aG g 2))), (hO, .inl (cI, 8, .inl (aG g 3))), (t, oG gt2 tK tH tM tO), (tK, .inl (cI, 8, .inl (aG gt2 0))), (tH, .inl (cI, 8, .inl (aG gt2 1))), (tM, .inl (cI, 8, .inl (aG gt2 2))), (tO, .inl (cI, 8, .inl (aG gt2 3))), (fi, .inl (cI, 7, .inl (ar ((opFirst g fd c a b).2))))]) := by
  have o0 := ok0 ok
  have o1 := ok1 ok
  have o2 := ok2 ok
  refine CtE.of (own := RX3) (lv := [(0, .ref x), (1, .int (iI c)), (2, .int (iI a)), (3, .int (iI b))]) (by decide) rfl rfl (Nat.le_of_ble_eq_true rfl) ?_
  intro xp xe xs xm xb xt xc
  refine z_aload_n (pc := 0) dX3_firstMinuteWithin_0 0 rfl ?_
  refine z_callV (pc := 1) (st := []) (st2 := []) (ws2 := [(x, .inr (3, [.ref h, .ref t, .ref k0, .int ik, .ref tp, .ref sh, .ref fi])), (h, oG g hK hH hM hO), (hK, .inl (cI, 8, .inl (aG g 0))), (hH, .inl (cI, 8, .inl (aG g 1))), (hM, .inl (cI, 8, .inl (aG g 2))), (hO, .inl (cI, 8, .inl (aG g 3))), (t, oG (likeG gt g) tK tH tM tO), (tK, .inl (cI, 8, .inl (aG (likeG gt g) 0))), (tH, .inl (cI, 8, .inl (aG (likeG gt g) 1))), (tM, .inl (cI, 8, .inl (aG (likeG gt g) 2))), (tO, .inl (cI, 8, .inl (aG (likeG gt g) 3))), (fi, .inl (cI, 7, .inl (ar fd)))]) (q0 := 0) (c_X3_tryAsItIs l D cI cJ cB cS xa x h hK hH hM hO t tK tH tM tO k0 tp sh fi ik g gt ok okt) mV_X3_tryAsItIs kM_X3_145 dX3_firstMinuteWithin_1 rfl rfl [0, 1, 2, 3, 4, 5, 6, 7, 8, 9, 10] rfl rfl rfl rfl rfl rfl rfl rfl ⟨Nat.le_of_ble_eq_true rfl, Nat.le_of_ble_eq_true rfl, Nat.le_of_ble_eq_true rfl⟩ ?_
  have ok1_1 : Ok (likeG gt g) := likeG_ok okt ok
  have f1_2 := (show likeG gt g 4 0 = g 4 0 from rfl)
  have f1_3 := (show likeG gt g 4 1 = g 4 1 from rfl)
  have f1_4 := (show likeG gt g 4 2 = g 4 2 from rfl)
  refine z_iconst (pc := 4) dX3_firstMinuteWithin_4 ?_
  refine z_istore (pc := 5) (lv2 := [(4, .int (iI 0)), (0, .ref x), (1, .int (iI c)), (2, .int (iI a)), (3, .int (iI b))]) dX3_firstMinuteWithin_5 (by decide) rfl ?_
  have LP7 : ∀ (nn_ : Nat) (i : Int) (gg : Gd), (0 ≤ i) → (i ≤ 401) → (gg = minsG (likeG gt g) i.toNat) → (∀ j : Int, 0 ≤ j → j < i → ¬ (a ≤ minsG g (Int.toNat j) 1 c ∧ minsG g (Int.toNat j) 1 c ≤ b)) → (401 - i).toNat < nn_ → Z xp l xe { frames := 4, cells := 0, slots := 0, locals := 90 } xs xm ([.ref x, .int (iI c), .int (iI a), .int (iI b)] : List Value).toArray xb xt xc 0 0 (MQ xb (Cq (S := Gd) D [(x, .inr (3, [.ref h, .ref t, .ref k0, .int ik, .ref tp, .ref sh, .ref fi])), (h, oG g hK hH hM hO), (hK, .inl (cI, 8, .inl (aG g 0))), (hH, .inl (cI, 8, .inl (aG g 1))), (hM, .inl (cI, 8, .inl (aG g 2))), (hO, .inl (cI, 8, .inl (aG g 3))), (t, oG gt tK tH tM tO), (tK, .inl (cI, 8, .inl (aG gt 0))), (tH, .inl (cI, 8, .inl (aG gt 1))), (tM, .inl (cI, 8, .inl (aG gt 2))), (tO, .inl (cI, 8, .inl (aG gt 3))), (fi, .inl (cI, 7, .inl (ar fd)))] (fun gt2 : Gd => Ok gt2) (fun gt2 : Gd => (some (.int ((opFirst g fd c a b).1)))) (fun gt2 : Gd => [(x, .inr (3, [.ref h, .ref t, .ref k0, .int ik, .ref tp, .ref sh, .ref fi])), (h, oG g hK hH hM hO), (hK, .inl (cI, 8, .inl (aG g 0))), (hH, .inl (cI, 8, .inl (aG g 1))), (hM, .inl (cI, 8, .inl (aG g 2))), (hO, .inl (cI, 8, .inl (aG g 3))), (t, oG gt2 tK tH tM tO), (tK, .inl (cI, 8, .inl (aG gt2 0))), (tH, .inl (cI, 8, .inl (aG gt2 1))), (tM, .inl (cI, 8, .inl (aG gt2 2))), (tO, .inl (cI, 8, .inl (aG gt2 3))), (fi, .inl (cI, 7, .inl (ar ((opFirst g fd c a b).2))))])) ([.ref x, .int (iI c), .int (iI a), .int (iI b)] : List Value).toArray xs 0 0 (va_A0 [(x, .inr (3, [.ref h, .ref t, .ref k0, .int ik, .ref tp, .ref sh, .ref fi])), (h, oG g hK hH hM hO), (hK, .inl (cI, 8, .inl (aG g 0))), (hH, .inl (cI, 8, .inl (aG g 1))), (hM, .inl (cI, 8, .inl (aG g 2))), (hO, .inl (cI, 8, .inl (aG g 3))), (t, oG gt tK tH tM tO), (tK, .inl (cI, 8, .inl (aG gt 0))), (tH, .inl (cI, 8, .inl (aG gt 1))), (tM, .inl (cI, 8, .inl (aG gt 2))), (tO, .inl (cI, 8, .inl (aG gt 3))), (fi, .inl (cI, 7, .inl (ar fd)))])) cX3_firstMinuteWithin RX3 5 (some .int) D cI cJ cB cS xa (va_A0 [(x, .inr (3, [.ref h, .ref t, .ref k0, .int ik, .ref tp, .ref sh, .ref fi])), (h, oG g hK hH hM hO), (hK, .inl (cI, 8, .inl (aG g 0))), (hH, .inl (cI, 8, .inl (aG g 1))), (hM, .inl (cI, 8, .inl (aG g 2))), (hO, .inl (cI, 8, .inl (aG g 3))), (t, oG gt tK tH tM tO), (tK, .inl (cI, 8, .inl (aG gt 0))), (tH, .inl (cI, 8, .inl (aG gt 1))), (tM, .inl (cI, 8, .inl (aG gt 2))), (tO, .inl (cI, 8, .inl (aG gt 3))), (fi, .inl (cI, 7, .inl (ar fd)))]) [(x, .inr (3, [.ref h, .ref t, .ref k0, .int ik, .ref tp, .ref sh, .ref fi])), (h, oG g hK hH hM hO), (hK, .inl (cI, 8, .inl (aG g 0))), (hH, .inl (cI, 8, .inl (aG g 1))), (hM, .inl (cI, 8, .inl (aG g 2))), (hO, .inl (cI, 8, .inl (aG g 3))), (t, oG gg tK tH tM tO), (tK, .inl (cI, 8, .inl (aG gg 0))), (tH, .inl (cI, 8, .inl (aG gg 1))), (tM, .inl (cI, 8, .inl (aG gg 2))), (tO, .inl (cI, 8, .inl (aG gg 3))), (fi, .inl (cI, 7, .inl (ar fd)))] [(0, .ref x), (1, .int (iI c)), (2, .int (iI a)), (3, .int (iI b)), (4, .int (iI i))] 7 [] := by
    intro nn_
    induction nn_ with
    | zero => intro i gg hi0 hi1 hg hq hms; exact absurd hms (Nat.not_lt_zero _)
    | succ nn_ ih =>
      intro i gg hi0 hi1 hg hq hms
      have okl : Ok (likeG gt g) := likeG_ok okt ok
      have okg : Ok gg := by rw [hg]; exact minsG_ok okl _ (by show g 4 0 + _ ≤ _; omega)
      have q0 : gg 4 0 = g 4 0 + i.toNat := by rw [hg]; exact minsG_40 (likeG gt g) _
      have q2 : gg 4 2 = g 4 2 := by rw [hg]; exact minsG_42 (likeG gt g) _
      have ed : i ≤ 400 → gg 1 c = minsG g (Int.toNat i) 1 c := fun _ => by rw [hg]; exact later (agr_like gt g) okl hi0 (by show g 4 0 + i ≤ 1000000; omega) (by decide) ⟨by omega, by show c < g 4 2; omega⟩
      have ih7 := ih
      clear ih
      refine z_iload (pc := 7) dX3_firstMinuteWithin_7 4 rfl ?_
      refine z_sipush (pc := 9) dX3_firstMinuteWithin_9 (by decide) ?_
      refine z_icmp_gt (pc := 12) (tgt := 48) dX3_firstMinuteWithin_12 (by decide) (by omega) (by omega) (fun h12 => ?_) (fun h12 => ?_)
      · skip
        refine z_aload_n (pc := 48) dX3_firstMinuteWithin_48 0 rfl ?_
        refine z_iconst (pc := 49) dX3_firstMinuteWithin_49 ?_
        refine z_callV (pc := 50) (st := []) (st2 := [.int (iI (-1000000001 - 3))]) (ws2 := [(x, .inr (3, [.ref h, .ref t, .ref k0, .int ik, .ref tp, .ref sh, .ref fi])), (h, oG g hK hH hM hO), (hK, .inl (cI, 8, .inl (aG g 0))), (hH, .inl (cI, 8, .inl (aG g 1))), (hM, .inl (cI, 8, .inl (aG g 2))), (hO, .inl (cI, 8, .inl (aG g 3))), (t, oG gg tK tH tM tO), (tK, .inl (cI, 8, .inl (aG gg 0))), (tH, .inl (cI, 8, .inl (aG gg 1))), (tM, .inl (cI, 8, .inl (aG gg 2))), (tO, .inl (cI, 8, .inl (aG gg 3))), (fi, .inl (cI, 7, .inl (ar (fnd fd 3))))]) (q0 := 0) (c_X3_found l D cI cJ cB cS xa x h t k0 tp sh fi ik fd 3 (by omega)) mV_X3_found kM_X3_48 dX3_firstMinuteWithin_50 rfl rfl [0, 11] rfl rfl rfl rfl rfl rfl rfl rfl ⟨Nat.le_of_ble_eq_true rfl, Nat.le_of_ble_eq_true rfl, Nat.le_of_ble_eq_true rfl⟩ ?_
        have e9 : opFirst g fd c a b = ((iI (-1000000001 - 3)), fnd fd 3) := by
          have ef := fst_none (fun i => a ≤ minsG g (Int.toNat i) 1 c ∧ minsG g (Int.toNat i) 1 c ≤ b) 401 (fun j h0 h1 => hq j h0 (by omega))
          unfold opFirst foundI
          rw [ef, if_neg (by omega)]
          rfl
        exact z_iretE (pc := 53) dX3_firstMinuteWithin_53 gg okg (by rw [e9]) (by rw [e9])
      · skip
        have ed1 := ed (by omega)
        refine z_aload_n (pc := 15) dX3_firstMinuteWithin_15 0 rfl ?_
        refine z_get (pc := 16) (q0 := 0) (v := .ref t) fL_X3_16 dX3_firstMinuteWithin_16 rfl rfl ?_
        refine z_get (pc := 19) (q0 := 6) (v := .ref tH) fL_X3_74 dX3_firstMinuteWithin_19 rfl rfl ?_
        refine z_iload_n (pc := 22) dX3_firstMinuteWithin_22 1 rfl ?_
        refine z_iald (pc := 23) (q0 := 8) (v := (iI (gg 1 c))) dX3_firstMinuteWithin_23 rfl (by omega) (by decide) (aG_at (by omega)) ?_
        have b5 := okH okg c
        refine z_iload_n (pc := 24) dX3_firstMinuteWithin_24 2 rfl ?_
        refine z_iload_n (pc := 25) dX3_firstMinuteWithin_25 3 rfl ?_
        refine z_callS (pc := 26) (st := []) (st2 := [.int (bI (a ≤ (gg 1 c) ∧ (gg 1 c) ≤ b))]) (ws2 := [(x, .inr (3, [.ref h, .ref t, .ref k0, .int ik, .ref tp, .ref sh, .ref fi])), (h, oG g hK hH hM hO), (hK, .inl (cI, 8, .inl (aG g 0))), (hH, .inl (cI, 8, .inl (aG g 1))), (hM, .inl (cI, 8, .inl (aG g 2))), (hO, .inl (cI, 8, .inl (aG g 3))), (t, oG gg tK tH tM tO), (tK, .inl (cI, 8, .inl (aG gg 0))), (tH, .inl (cI, 8, .inl (aG gg 1))), (tM, .inl (cI, 8, .inl (aG gg 2))), (tO, .inl (cI, 8, .inl (aG gg 3))), (fi, .inl (cI, 7, .inl (ar fd)))]) (c_X3_within l D cI cJ cB cS xa (gg 1 c) a b (by omega) (by omega) (by omega)) mS_X3_within kM_X3_44 dX3_firstMinuteWithin_26 [] rfl rfl rfl rfl rfl rfl rfl rfl ⟨Nat.le_of_ble_eq_true rfl, Nat.le_of_ble_eq_true rfl, Nat.le_of_ble_eq_true rfl⟩ ?_
        refine z_ifb_eq (pc := 29) (tgt := 35) dX3_firstMinuteWithin_29 (by decide) (fun h29 => ?_) (fun h29 => ?_)
        · skip
          refine z_aload_n (pc := 35) dX3_firstMinuteWithin_35 0 rfl ?_
          refine z_get (pc := 36) (q0 := 0) (v := .ref t) fL_X3_16 dX3_firstMinuteWithin_36 rfl rfl ?_
          refine z_callV (pc := 39) (st := []) (st2 := []) (ws2 := [(x, .inr (3, [.ref h, .ref t, .ref k0, .int ik, .ref tp, .ref sh, .ref fi])), (h, oG g hK hH hM hO), (hK, .inl (cI, 8, .inl (aG g 0))), (hH, .inl (cI, 8, .inl (aG g 1))), (hM, .inl (cI, 8, .inl (aG g 2))), (hO, .inl (cI, 8, .inl (aG g 3))), (t, oG (minG gg) tK tH tM tO), (tK, .inl (cI, 8, .inl (aG (minG gg) 0))), (tH, .inl (cI, 8, .inl (aG (minG gg) 1))), (tM, .inl (cI, 8, .inl (aG (minG gg) 2))), (tO, .inl (cI, 8, .inl (aG (minG gg) 3))), (fi, .inl (cI, 7, .inl (ar fd)))]) (q0 := 6) (c_X0_goMinute l D cI cJ cB cS xa t tK tH tM tO gg okg (by omega)) mV_X0_goMinute kM_X3_148 dX3_firstMinuteWithin_39 rfl rfl [6, 7, 8, 9, 10] rfl rfl rfl rfl rfl rfl rfl rfl ⟨Nat.le_of_ble_eq_true rfl, Nat.le_of_ble_eq_true rfl, Nat.le_of_ble_eq_true rfl⟩ ?_
          have ok39_6 : Ok (minG gg) := minG_ok okg (by omega)
          have f39_7 := minG_40 gg
          have f39_8 := minG_41 gg
          have f39_9 := minG_42 gg
          refine z_iinc (pc := 42) (lv2 := [(4, .int (iI (i + 1))), (0, .ref x), (1, .int (iI c)), (2, .int (iI a)), (3, .int (iI b))]) dX3_firstMinuteWithin_42 4 rfl (by decide) rfl ?_
          refine z_goto (pc := 45) (tgt := 7) dX3_firstMinuteWithin_45 (by decide) ?_
          refine z_lv (lv2 := [(0, .ref x), (1, .int (iI c)), (2, .int (iI a)), (3, .int (iI b)), (4, .int (iI (i + 1)))]) [1, 2, 3, 4, 0] rfl ?_
          exact ih7 (i + 1) (minG gg) (by omega) (by omega) (by rw [minsG_s _ hi0, ← hg]) (lt_si hq (by have := ed (by omega); omega)) (by omega)
        · skip
          refine z_iload (pc := 32) dX3_firstMinuteWithin_32 4 rfl ?_
          have e9 : opFirst g fd c a b = ((iI i), fd) := by
            have ef := fst_hit (fun i => a ≤ minsG g (Int.toNat i) 1 c ∧ minsG g (Int.toNat i) 1 c ≤ b) 401 i (by omega) (by omega) (by show a ≤ minsG g (Int.toNat i) 1 c ∧ minsG g (Int.toNat i) 1 c ≤ b; omega) hq
            unfold opFirst foundI
            rw [ef, if_pos (by omega)]
          exact z_iretE (pc := 34) dX3_firstMinuteWithin_34 gg okg (by rw [e9]) (by rw [e9])
  refine z_lv (lv2 := [(0, .ref x), (1, .int (iI c)), (2, .int (iI a)), (3, .int (iI b)), (4, .int (iI 0))]) [1, 2, 3, 4, 0] rfl ?_
  exact LP7 _ 0 (likeG gt g) (by omega) (by omega) (by rfl) (fun j h0 h1 => absurd h1 (by omega)) (Nat.lt_succ_self _)
set_option maxHeartbeats 8000000 in
set_option maxRecDepth 100000 in
theorem c_X3_comes (l : Launch) (D : va_G) (cI cJ cB cS : ClassId) (xa : XA) (x h hK hH hM hO t tK tH tM tO k0 tp sh fi : Nat) (ik : Int32) (g : Gd) (fd : FF) (gt : Gd) (c v : Int) (ok : Ok g) (rc : inr c) (rv : inr v) (okt : Ok gt) (hm : g 4 0 ≤ 99999) : CtE (S := Gd) l D cI cJ cB cS xa yX3_comes cX3_comes 3 (some .int) 5 114 [.ref x, .int (iI c), .int (iI v)] [(x, .inr (3, [.ref h, .ref t, .ref k0, .int ik, .ref tp, .ref sh, .ref fi])), (h, oG g hK hH hM hO), (hK, .inl (cI, 8, .inl (aG g 0))), (hH, .inl (cI, 8, .inl (aG g 1))), (hM, .inl (cI, 8, .inl (aG g 2))), (hO, .inl (cI, 8, .inl (aG g 3))), (t, oG gt tK tH tM tO), (tK, .inl (cI, 8, .inl (aG gt 0))), (tH, .inl (cI, 8, .inl (aG gt 1))), (tM, .inl (cI, 8, .inl (aG gt 2))), (tO, .inl (cI, 8, .inl (aG gt 3))), (fi, .inl (cI, 7, .inl (ar fd)))] (fun gt2 : Gd => Ok gt2) (fun gt2 : Gd => (some (.int ((opComes g fd c v).1)))) (fun gt2 : Gd => [(x, .inr (3, [.ref h, .ref t, .ref k0, .int ik, .ref tp, .ref sh, .ref fi])), (h, oG g hK hH hM hO), (hK, .inl (cI, 8, .inl (aG g 0))), (hH, .inl (cI, 8, .inl (aG g 1))), (hM, .inl (cI, 8, .inl (aG g 2))), (hO, .inl (cI, 8, .inl (aG g 3))), (t, oG gt2 tK tH tM tO), (tK, .inl (cI, 8, .inl (aG gt2 0))), (tH, .inl (cI, 8, .inl (aG gt2 1))), (tM, .inl (cI, 8, .inl (aG gt2 2))), (tO, .inl (cI, 8, .inl (aG gt2 3))), (fi, .inl (cI, 7, .inl (ar ((opComes g fd c v).2))))]) := by
  have o0 := ok0 ok
  have o1 := ok1 ok
  have o2 := ok2 ok
  refine CtE.of (own := RX3) (lv := [(0, .ref x), (1, .int (iI c)), (2, .int (iI v))]) (by decide) rfl rfl (Nat.le_of_ble_eq_true rfl) ?_
  intro xp xe xs xm xb xt xc
  refine z_aload_n (pc := 0) dX3_comes_0 0 rfl ?_
  refine z_iload_n (pc := 1) dX3_comes_1 1 rfl ?_
  refine z_callV (pc := 2) (st := []) (st2 := [.int (bI (0 ≤ c ∧ c < g 4 2))]) (ws2 := [(x, .inr (3, [.ref h, .ref t, .ref k0, .int ik, .ref tp, .ref sh, .ref fi])), (h, oG g hK hH hM hO), (hK, .inl (cI, 8, .inl (aG g 0))), (hH, .inl (cI, 8, .inl (aG g 1))), (hM, .inl (cI, 8, .inl (aG g 2))), (hO, .inl (cI, 8, .inl (aG g 3))), (t, oG gt tK tH tM tO), (tK, .inl (cI, 8, .inl (aG gt 0))), (tH, .inl (cI, 8, .inl (aG gt 1))), (tM, .inl (cI, 8, .inl (aG gt 2))), (tO, .inl (cI, 8, .inl (aG gt 3))), (fi, .inl (cI, 7, .inl (ar fd)))]) (q0 := 0) (c_X3_isChild l D cI cJ cB cS xa x h hK hH hM hO t k0 tp sh fi ik g c ok (by omega)) mV_X3_isChild kM_X3_100 dX3_comes_2 rfl rfl [0, 1] rfl rfl rfl rfl rfl rfl rfl rfl ⟨Nat.le_of_ble_eq_true rfl, Nat.le_of_ble_eq_true rfl, Nat.le_of_ble_eq_true rfl⟩ ?_
  refine z_ifb_eq (pc := 5) (tgt := 19) dX3_comes_5 (by decide) (fun h5 => ?_) (fun h5 => ?_)
  · skip
    refine z_aload_n (pc := 19) dX3_comes_19 0 rfl ?_
    refine z_iconst (pc := 20) dX3_comes_20 ?_
    refine z_callV (pc := 21) (st := []) (st2 := [.int (iI (-1000000001 - 0))]) (ws2 := [(x, .inr (3, [.ref h, .ref t, .ref k0, .int ik, .ref tp, .ref sh, .ref fi])), (h, oG g hK hH hM hO), (hK, .inl (cI, 8, .inl (aG g 0))), (hH, .inl (cI, 8, .inl (aG g 1))), (hM, .inl (cI, 8, .inl (aG g 2))), (hO, .inl (cI, 8, .inl (aG g 3))), (t, oG gt tK tH tM tO), (tK, .inl (cI, 8, .inl (aG gt 0))), (tH, .inl (cI, 8, .inl (aG gt 1))), (tM, .inl (cI, 8, .inl (aG gt 2))), (tO, .inl (cI, 8, .inl (aG gt 3))), (fi, .inl (cI, 7, .inl (ar (fnd fd 0))))]) (q0 := 0) (c_X3_found l D cI cJ cB cS xa x h t k0 tp sh fi ik fd 0 (by omega)) mV_X3_found kM_X3_48 dX3_comes_21 rfl rfl [0, 11] rfl rfl rfl rfl rfl rfl rfl rfl ⟨Nat.le_of_ble_eq_true rfl, Nat.le_of_ble_eq_true rfl, Nat.le_of_ble_eq_true rfl⟩ ?_
    have e9 : opComes g fd c v = ((iI (-1000000001 - 0)), fnd fd 0) := by
      unfold opComes; try unfold bI
      (repeat' split) <;> first | (exfalso; omega) | contradiction | rfl
    exact z_iretE (pc := 24) dX3_comes_24 gt okt (by rw [e9]) (by rw [e9])
  · skip
    refine z_iload_n (pc := 8) dX3_comes_8 2 rfl ?_
    refine z_iconst (pc := 9) dX3_comes_9 ?_
    refine z_sipush (pc := 10) dX3_comes_10 (by decide) ?_
    refine z_callS (pc := 13) (st := []) (st2 := [.int (bI (0 ≤ v ∧ v ≤ 200))]) (ws2 := [(x, .inr (3, [.ref h, .ref t, .ref k0, .int ik, .ref tp, .ref sh, .ref fi])), (h, oG g hK hH hM hO), (hK, .inl (cI, 8, .inl (aG g 0))), (hH, .inl (cI, 8, .inl (aG g 1))), (hM, .inl (cI, 8, .inl (aG g 2))), (hO, .inl (cI, 8, .inl (aG g 3))), (t, oG gt tK tH tM tO), (tK, .inl (cI, 8, .inl (aG gt 0))), (tH, .inl (cI, 8, .inl (aG gt 1))), (tM, .inl (cI, 8, .inl (aG gt 2))), (tO, .inl (cI, 8, .inl (aG gt 3))), (fi, .inl (cI, 7, .inl (ar fd)))]) (c_X3_within l D cI cJ cB cS xa v 0 200 (by omega) (by omega) (by omega)) mS_X3_within kM_X3_44 dX3_comes_13 [] rfl rfl rfl rfl rfl rfl rfl rfl ⟨Nat.le_of_ble_eq_true rfl, Nat.le_of_ble_eq_true rfl, Nat.le_of_ble_eq_true rfl⟩ ?_
    refine z_ifb_ne (pc := 16) (tgt := 25) dX3_comes_16 (by decide) (fun h16 => ?_) (fun h16 => ?_)
    · skip
      refine z_aload_n (pc := 25) dX3_comes_25 0 rfl ?_
      refine z_iload_n (pc := 26) dX3_comes_26 1 rfl ?_
      refine z_iload_n (pc := 27) dX3_comes_27 2 rfl ?_
      refine z_sipush (pc := 28) dX3_comes_28 (by decide) ?_
      refine z_callVE (pc := 31) (st := []) (q0 := 0) (c_X3_firstMinuteWithin l D cI cJ cB cS xa x h hK hH hM hO t tK tH tM tO k0 tp sh fi ik g fd gt c v 200 ok (by omega) (by omega) (by omega) okt (by omega) (by omega)) mV_X3_firstMinuteWithin kM_X3_151 dX3_comes_31 rfl rfl [0, 1, 2, 3, 4, 5, 6, 7, 8, 9, 10, 11] rfl rfl (fun _ => rfl) (fun _ => rfl) rfl rfl ⟨Nat.le_of_ble_eq_true rfl, Nat.le_of_ble_eq_true rfl, Nat.le_of_ble_eq_true rfl⟩ (fun u31 hu31 => ?_)
      obtain ⟨gt231, hz31⟩ : ∃ z, z = u31 := ⟨_, rfl⟩
      subst hz31
      refine z_ws (ws2 := [(x, .inr (3, [.ref h, .ref t, .ref k0, .int ik, .ref tp, .ref sh, .ref fi])), (h, oG g hK hH hM hO), (hK, .inl (cI, 8, .inl (aG g 0))), (hH, .inl (cI, 8, .inl (aG g 1))), (hM, .inl (cI, 8, .inl (aG g 2))), (hO, .inl (cI, 8, .inl (aG g 3))), (t, oG gt231 tK tH tM tO), (tK, .inl (cI, 8, .inl (aG gt231 0))), (tH, .inl (cI, 8, .inl (aG gt231 1))), (tM, .inl (cI, 8, .inl (aG gt231 2))), (tO, .inl (cI, 8, .inl (aG gt231 3))), (fi, .inl (cI, 7, .inl (ar ((opFirst g fd c v 200).2))))]) rfl ?_
      refine z_st (st2 := [.int ((opFirst g fd c v 200).1)]) rfl ?_
      have e9 : opComes g fd c v = (((opFirst g fd c v 200).1), (opFirst g fd c v 200).2) := by
        unfold opComes
        rw [if_pos ⟨⟨by omega, by omega⟩, by omega, by omega⟩]
        exact (opFirst_eq (fun j h0 h1 => by have := okH (minsG_ok ok (Int.toNat j) (by omega)) c; omega)).symm
      exact z_iretE (pc := 34) dX3_comes_34 gt231 hu31 (by rw [e9]) (by rw [e9])
    · skip
      refine z_aload_n (pc := 19) dX3_comes_19 0 rfl ?_
      refine z_iconst (pc := 20) dX3_comes_20 ?_
      refine z_callV (pc := 21) (st := []) (st2 := [.int (iI (-1000000001 - 0))]) (ws2 := [(x, .inr (3, [.ref h, .ref t, .ref k0, .int ik, .ref tp, .ref sh, .ref fi])), (h, oG g hK hH hM hO), (hK, .inl (cI, 8, .inl (aG g 0))), (hH, .inl (cI, 8, .inl (aG g 1))), (hM, .inl (cI, 8, .inl (aG g 2))), (hO, .inl (cI, 8, .inl (aG g 3))), (t, oG gt tK tH tM tO), (tK, .inl (cI, 8, .inl (aG gt 0))), (tH, .inl (cI, 8, .inl (aG gt 1))), (tM, .inl (cI, 8, .inl (aG gt 2))), (tO, .inl (cI, 8, .inl (aG gt 3))), (fi, .inl (cI, 7, .inl (ar (fnd fd 0))))]) (q0 := 0) (c_X3_found l D cI cJ cB cS xa x h t k0 tp sh fi ik fd 0 (by omega)) mV_X3_found kM_X3_48 dX3_comes_21 rfl rfl [0, 11] rfl rfl rfl rfl rfl rfl rfl rfl ⟨Nat.le_of_ble_eq_true rfl, Nat.le_of_ble_eq_true rfl, Nat.le_of_ble_eq_true rfl⟩ ?_
      have e9 : opComes g fd c v = ((iI (-1000000001 - 0)), fnd fd 0) := by
        unfold opComes; try unfold bI
        (repeat' split) <;> first | (exfalso; omega) | contradiction | rfl
      exact z_iretE (pc := 24) dX3_comes_24 gt okt (by rw [e9]) (by rw [e9])
set_option maxHeartbeats 8000000 in
set_option maxRecDepth 100000 in
theorem c_X3_dust (l : Launch) (D : va_G) (cI cJ cB cS : ClassId) (xa : XA) (x h hK hH hM hO t tK tH tM tO k0 tp sh fi : Nat) (ik : Int32) (g : Gd) (fd : FF) (gt : Gd) (c : Int) (ok : Ok g) (rc : inr c) (okt : Ok gt) (hm : g 4 0 ≤ 99999) : CtE (S := Gd) l D cI cJ cB cS xa yX3_dust cX3_dust 2 (some .int) 5 114 [.ref x, .int (iI c)] [(x, .inr (3, [.ref h, .ref t, .ref k0, .int ik, .ref tp, .ref sh, .ref fi])), (h, oG g hK hH hM hO), (hK, .inl (cI, 8, .inl (aG g 0))), (hH, .inl (cI, 8, .inl (aG g 1))), (hM, .inl (cI, 8, .inl (aG g 2))), (hO, .inl (cI, 8, .inl (aG g 3))), (t, oG gt tK tH tM tO), (tK, .inl (cI, 8, .inl (aG gt 0))), (tH, .inl (cI, 8, .inl (aG gt 1))), (tM, .inl (cI, 8, .inl (aG gt 2))), (tO, .inl (cI, 8, .inl (aG gt 3))), (fi, .inl (cI, 7, .inl (ar fd)))] (fun gt2 : Gd => Ok gt2) (fun gt2 : Gd => (some (.int ((opDust g fd c).1)))) (fun gt2 : Gd => [(x, .inr (3, [.ref h, .ref t, .ref k0, .int ik, .ref tp, .ref sh, .ref fi])), (h, oG g hK hH hM hO), (hK, .inl (cI, 8, .inl (aG g 0))), (hH, .inl (cI, 8, .inl (aG g 1))), (hM, .inl (cI, 8, .inl (aG g 2))), (hO, .inl (cI, 8, .inl (aG g 3))), (t, oG gt2 tK tH tM tO), (tK, .inl (cI, 8, .inl (aG gt2 0))), (tH, .inl (cI, 8, .inl (aG gt2 1))), (tM, .inl (cI, 8, .inl (aG gt2 2))), (tO, .inl (cI, 8, .inl (aG gt2 3))), (fi, .inl (cI, 7, .inl (ar ((opDust g fd c).2))))]) := by
  have o0 := ok0 ok
  have o1 := ok1 ok
  have o2 := ok2 ok
  refine CtE.of (own := RX3) (lv := [(0, .ref x), (1, .int (iI c))]) (by decide) rfl rfl (Nat.le_of_ble_eq_true rfl) ?_
  intro xp xe xs xm xb xt xc
  refine z_aload_n (pc := 0) dX3_dust_0 0 rfl ?_
  refine z_iload_n (pc := 1) dX3_dust_1 1 rfl ?_
  refine z_callV (pc := 2) (st := []) (st2 := [.int (bI (0 ≤ c ∧ c < g 4 2))]) (ws2 := [(x, .inr (3, [.ref h, .ref t, .ref k0, .int ik, .ref tp, .ref sh, .ref fi])), (h, oG g hK hH hM hO), (hK, .inl (cI, 8, .inl (aG g 0))), (hH, .inl (cI, 8, .inl (aG g 1))), (hM, .inl (cI, 8, .inl (aG g 2))), (hO, .inl (cI, 8, .inl (aG g 3))), (t, oG gt tK tH tM tO), (tK, .inl (cI, 8, .inl (aG gt 0))), (tH, .inl (cI, 8, .inl (aG gt 1))), (tM, .inl (cI, 8, .inl (aG gt 2))), (tO, .inl (cI, 8, .inl (aG gt 3))), (fi, .inl (cI, 7, .inl (ar fd)))]) (q0 := 0) (c_X3_isChild l D cI cJ cB cS xa x h hK hH hM hO t k0 tp sh fi ik g c ok (by omega)) mV_X3_isChild kM_X3_100 dX3_dust_2 rfl rfl [0, 1] rfl rfl rfl rfl rfl rfl rfl rfl ⟨Nat.le_of_ble_eq_true rfl, Nat.le_of_ble_eq_true rfl, Nat.le_of_ble_eq_true rfl⟩ ?_
  refine z_ifb_ne (pc := 5) (tgt := 14) dX3_dust_5 (by decide) (fun h5 => ?_) (fun h5 => ?_)
  · skip
    refine z_aload_n (pc := 14) dX3_dust_14 0 rfl ?_
    refine z_iload_n (pc := 15) dX3_dust_15 1 rfl ?_
    refine z_iconst (pc := 16) dX3_dust_16 ?_
    refine z_iconst (pc := 17) dX3_dust_17 ?_
    refine z_callVE (pc := 18) (st := []) (q0 := 0) (c_X3_firstMinuteWithin l D cI cJ cB cS xa x h hK hH hM hO t tK tH tM tO k0 tp sh fi ik g fd gt c 0 0 ok (by omega) (by omega) (by omega) okt (by omega) (by omega)) mV_X3_firstMinuteWithin kM_X3_151 dX3_dust_18 rfl rfl [0, 1, 2, 3, 4, 5, 6, 7, 8, 9, 10, 11] rfl rfl (fun _ => rfl) (fun _ => rfl) rfl rfl ⟨Nat.le_of_ble_eq_true rfl, Nat.le_of_ble_eq_true rfl, Nat.le_of_ble_eq_true rfl⟩ (fun u18 hu18 => ?_)
    obtain ⟨gt218, hz18⟩ : ∃ z, z = u18 := ⟨_, rfl⟩
    subst hz18
    refine z_ws (ws2 := [(x, .inr (3, [.ref h, .ref t, .ref k0, .int ik, .ref tp, .ref sh, .ref fi])), (h, oG g hK hH hM hO), (hK, .inl (cI, 8, .inl (aG g 0))), (hH, .inl (cI, 8, .inl (aG g 1))), (hM, .inl (cI, 8, .inl (aG g 2))), (hO, .inl (cI, 8, .inl (aG g 3))), (t, oG gt218 tK tH tM tO), (tK, .inl (cI, 8, .inl (aG gt218 0))), (tH, .inl (cI, 8, .inl (aG gt218 1))), (tM, .inl (cI, 8, .inl (aG gt218 2))), (tO, .inl (cI, 8, .inl (aG gt218 3))), (fi, .inl (cI, 7, .inl (ar ((opFirst g fd c 0 0).2))))]) rfl ?_
    refine z_st (st2 := [.int ((opFirst g fd c 0 0).1)]) rfl ?_
    have e9 : opDust g fd c = (((opFirst g fd c 0 0).1), (opFirst g fd c 0 0).2) := by
      unfold opDust
      rw [if_pos ⟨by omega, by omega⟩]
      exact (opFirst_eq (fun j h0 h1 => by have := okH (minsG_ok ok (Int.toNat j) (by omega)) c; omega)).symm
    exact z_iretE (pc := 21) dX3_dust_21 gt218 hu18 (by rw [e9]) (by rw [e9])
  · skip
    refine z_aload_n (pc := 8) dX3_dust_8 0 rfl ?_
    refine z_iconst (pc := 9) dX3_dust_9 ?_
    refine z_callV (pc := 10) (st := []) (st2 := [.int (iI (-1000000001 - 0))]) (ws2 := [(x, .inr (3, [.ref h, .ref t, .ref k0, .int ik, .ref tp, .ref sh, .ref fi])), (h, oG g hK hH hM hO), (hK, .inl (cI, 8, .inl (aG g 0))), (hH, .inl (cI, 8, .inl (aG g 1))), (hM, .inl (cI, 8, .inl (aG g 2))), (hO, .inl (cI, 8, .inl (aG g 3))), (t, oG gt tK tH tM tO), (tK, .inl (cI, 8, .inl (aG gt 0))), (tH, .inl (cI, 8, .inl (aG gt 1))), (tM, .inl (cI, 8, .inl (aG gt 2))), (tO, .inl (cI, 8, .inl (aG gt 3))), (fi, .inl (cI, 7, .inl (ar (fnd fd 0))))]) (q0 := 0) (c_X3_found l D cI cJ cB cS xa x h t k0 tp sh fi ik fd 0 (by omega)) mV_X3_found kM_X3_48 dX3_dust_10 rfl rfl [0, 11] rfl rfl rfl rfl rfl rfl rfl rfl ⟨Nat.le_of_ble_eq_true rfl, Nat.le_of_ble_eq_true rfl, Nat.le_of_ble_eq_true rfl⟩ ?_
    have e9 : opDust g fd c = ((iI (-1000000001 - 0)), fnd fd 0) := by
      unfold opDust; try unfold bI
      (repeat' split) <;> first | (exfalso; omega) | contradiction | rfl
    exact z_iretE (pc := 13) dX3_dust_13 gt okt (by rw [e9]) (by rw [e9])
set_option maxHeartbeats 8000000 in
set_option maxRecDepth 100000 in
theorem c_X3_place (l : Launch) (D : va_G) (cI cJ cB cS : ClassId) (xa : XA) (x h hK hH hM hO t tK tH tM tO k0 tp sh fi : Nat) (ik : Int32) (g : Gd) (fd : FF) (gt : Gd) (c n : Int) (ok : Ok g) (rc : inr c) (rn : inr n) (okt : Ok gt) (hm : g 4 0 ≤ 99999) : CtE (S := Gd) l D cI cJ cB cS xa yX3_place cX3_place 7 (some .int) 6 134 [.ref x, .int (iI c), .int (iI n)] [(x, .inr (3, [.ref h, .ref t, .ref k0, .int ik, .ref tp, .ref sh, .ref fi])), (h, oG g hK hH hM hO), (hK, .inl (cI, 8, .inl (aG g 0))), (hH, .inl (cI, 8, .inl (aG g 1))), (hM, .inl (cI, 8, .inl (aG g 2))), (hO, .inl (cI, 8, .inl (aG g 3))), (t, oG gt tK tH tM tO), (tK, .inl (cI, 8, .inl (aG gt 0))), (tH, .inl (cI, 8, .inl (aG gt 1))), (tM, .inl (cI, 8, .inl (aG gt 2))), (tO, .inl (cI, 8, .inl (aG gt 3))), (fi, .inl (cI, 7, .inl (ar fd)))] (fun gt2 : Gd => Ok gt2) (fun gt2 : Gd => (some (.int ((opPlace g fd c n).1)))) (fun gt2 : Gd => [(x, .inr (3, [.ref h, .ref t, .ref k0, .int ik, .ref tp, .ref sh, .ref fi])), (h, oG g hK hH hM hO), (hK, .inl (cI, 8, .inl (aG g 0))), (hH, .inl (cI, 8, .inl (aG g 1))), (hM, .inl (cI, 8, .inl (aG g 2))), (hO, .inl (cI, 8, .inl (aG g 3))), (t, oG gt2 tK tH tM tO), (tK, .inl (cI, 8, .inl (aG gt2 0))), (tH, .inl (cI, 8, .inl (aG gt2 1))), (tM, .inl (cI, 8, .inl (aG gt2 2))), (tO, .inl (cI, 8, .inl (aG gt2 3))), (fi, .inl (cI, 7, .inl (ar ((opPlace g fd c n).2))))]) := by
  have o0 := ok0 ok
  have o1 := ok1 ok
  have o2 := ok2 ok
  refine CtE.of (own := RX3) (lv := [(0, .ref x), (1, .int (iI c)), (2, .int (iI n))]) (by decide) rfl rfl (Nat.le_of_ble_eq_true rfl) ?_
  intro xp xe xs xm xb xt xc
  refine z_aload_n (pc := 0) dX3_place_0 0 rfl ?_
  refine z_iload_n (pc := 1) dX3_place_1 1 rfl ?_
  refine z_callV (pc := 2) (st := []) (st2 := [.int (bI (0 ≤ c ∧ c < g 4 2))]) (ws2 := [(x, .inr (3, [.ref h, .ref t, .ref k0, .int ik, .ref tp, .ref sh, .ref fi])), (h, oG g hK hH hM hO), (hK, .inl (cI, 8, .inl (aG g 0))), (hH, .inl (cI, 8, .inl (aG g 1))), (hM, .inl (cI, 8, .inl (aG g 2))), (hO, .inl (cI, 8, .inl (aG g 3))), (t, oG gt tK tH tM tO), (tK, .inl (cI, 8, .inl (aG gt 0))), (tH, .inl (cI, 8, .inl (aG gt 1))), (tM, .inl (cI, 8, .inl (aG gt 2))), (tO, .inl (cI, 8, .inl (aG gt 3))), (fi, .inl (cI, 7, .inl (ar fd)))]) (q0 := 0) (c_X3_isChild l D cI cJ cB cS xa x h hK hH hM hO t k0 tp sh fi ik g c ok (by omega)) mV_X3_isChild kM_X3_100 dX3_place_2 rfl rfl [0, 1] rfl rfl rfl rfl rfl rfl rfl rfl ⟨Nat.le_of_ble_eq_true rfl, Nat.le_of_ble_eq_true rfl, Nat.le_of_ble_eq_true rfl⟩ ?_
  refine z_ifb_eq (pc := 5) (tgt := 18) dX3_place_5 (by decide) (fun h5 => ?_) (fun h5 => ?_)
  · skip
    refine z_aload_n (pc := 18) dX3_place_18 0 rfl ?_
    refine z_iconst (pc := 19) dX3_place_19 ?_
    refine z_callV (pc := 20) (st := []) (st2 := [.int (iI (-1000000001 - 0))]) (ws2 := [(x, .inr (3, [.ref h, .ref t, .ref k0, .int ik, .ref tp, .ref sh, .ref fi])), (h, oG g hK hH hM hO), (hK, .inl (cI, 8, .inl (aG g 0))), (hH, .inl (cI, 8, .inl (aG g 1))), (hM, .inl (cI, 8, .inl (aG g 2))), (hO, .inl (cI, 8, .inl (aG g 3))), (t, oG gt tK tH tM tO), (tK, .inl (cI, 8, .inl (aG gt 0))), (tH, .inl (cI, 8, .inl (aG gt 1))), (tM, .inl (cI, 8, .inl (aG gt 2))), (tO, .inl (cI, 8, .inl (aG gt 3))), (fi, .inl (cI, 7, .inl (ar (fnd fd 0))))]) (q0 := 0) (c_X3_found l D cI cJ cB cS xa x h t k0 tp sh fi ik fd 0 (by omega)) mV_X3_found kM_X3_48 dX3_place_20 rfl rfl [0, 11] rfl rfl rfl rfl rfl rfl rfl rfl ⟨Nat.le_of_ble_eq_true rfl, Nat.le_of_ble_eq_true rfl, Nat.le_of_ble_eq_true rfl⟩ ?_
    have e9 : opPlace g fd c n = ((iI (-1000000001 - 0)), fnd fd 0) := by
      unfold opPlace; try unfold bI
      (repeat' split) <;> first | (exfalso; omega) | contradiction | rfl
    exact z_iretE (pc := 23) dX3_place_23 gt okt (by rw [e9]) (by rw [e9])
  · skip
    refine z_iload_n (pc := 8) dX3_place_8 2 rfl ?_
    refine z_iconst (pc := 9) dX3_place_9 ?_
    refine z_bipush (pc := 10) dX3_place_10 (by decide) ?_
    refine z_callS (pc := 12) (st := []) (st2 := [.int (bI (1 ≤ n ∧ n ≤ 100))]) (ws2 := [(x, .inr (3, [.ref h, .ref t, .ref k0, .int ik, .ref tp, .ref sh, .ref fi])), (h, oG g hK hH hM hO), (hK, .inl (cI, 8, .inl (aG g 0))), (hH, .inl (cI, 8, .inl (aG g 1))), (hM, .inl (cI, 8, .inl (aG g 2))), (hO, .inl (cI, 8, .inl (aG g 3))), (t, oG gt tK tH tM tO), (tK, .inl (cI, 8, .inl (aG gt 0))), (tH, .inl (cI, 8, .inl (aG gt 1))), (tM, .inl (cI, 8, .inl (aG gt 2))), (tO, .inl (cI, 8, .inl (aG gt 3))), (fi, .inl (cI, 7, .inl (ar fd)))]) (c_X3_within l D cI cJ cB cS xa n 1 100 (by omega) (by omega) (by omega)) mS_X3_within kM_X3_44 dX3_place_12 [] rfl rfl rfl rfl rfl rfl rfl rfl ⟨Nat.le_of_ble_eq_true rfl, Nat.le_of_ble_eq_true rfl, Nat.le_of_ble_eq_true rfl⟩ ?_
    refine z_ifb_ne (pc := 15) (tgt := 24) dX3_place_15 (by decide) (fun h15 => ?_) (fun h15 => ?_)
    · skip
      refine z_aload_n (pc := 24) dX3_place_24 0 rfl ?_
      refine z_callV (pc := 25) (st := []) (st2 := []) (ws2 := [(x, .inr (3, [.ref h, .ref t, .ref k0, .int ik, .ref tp, .ref sh, .ref fi])), (h, oG g hK hH hM hO), (hK, .inl (cI, 8, .inl (aG g 0))), (hH, .inl (cI, 8, .inl (aG g 1))), (hM, .inl (cI, 8, .inl (aG g 2))), (hO, .inl (cI, 8, .inl (aG g 3))), (t, oG (likeG gt g) tK tH tM tO), (tK, .inl (cI, 8, .inl (aG (likeG gt g) 0))), (tH, .inl (cI, 8, .inl (aG (likeG gt g) 1))), (tM, .inl (cI, 8, .inl (aG (likeG gt g) 2))), (tO, .inl (cI, 8, .inl (aG (likeG gt g) 3))), (fi, .inl (cI, 7, .inl (ar fd)))]) (q0 := 0) (c_X3_tryAsItIs l D cI cJ cB cS xa x h hK hH hM hO t tK tH tM tO k0 tp sh fi ik g gt ok okt) mV_X3_tryAsItIs kM_X3_145 dX3_place_25 rfl rfl [0, 1, 2, 3, 4, 5, 6, 7, 8, 9, 10] rfl rfl rfl rfl rfl rfl rfl rfl ⟨Nat.le_of_ble_eq_true rfl, Nat.le_of_ble_eq_true rfl, Nat.le_of_ble_eq_true rfl⟩ ?_
      have ok25_1 : Ok (likeG gt g) := likeG_ok okt ok
      have f25_2 := (show likeG gt g 4 0 = g 4 0 from rfl)
      have f25_3 := (show likeG gt g 4 1 = g 4 1 from rfl)
      have f25_4 := (show likeG gt g 4 2 = g 4 2 from rfl)
      refine z_aload_n (pc := 28) dX3_place_28 0 rfl ?_
      refine z_iload_n (pc := 29) dX3_place_29 1 rfl ?_
      refine z_iload_n (pc := 30) dX3_place_30 2 rfl ?_
      refine z_callV (pc := 31) (st := []) (st2 := [.int (iI (minsG (likeG gt g) (Int.toNat n) 1 c))]) (ws2 := [(x, .inr (3, [.ref h, .ref t, .ref k0, .int ik, .ref tp, .ref sh, .ref fi])), (h, oG g hK hH hM hO), (hK, .inl (cI, 8, .inl (aG g 0))), (hH, .inl (cI, 8, .inl (aG g 1))), (hM, .inl (cI, 8, .inl (aG g 2))), (hO, .inl (cI, 8, .inl (aG g 3))), (t, oG (minsG (likeG gt g) (Int.toNat n)) tK tH tM tO), (tK, .inl (cI, 8, .inl (aG (minsG (likeG gt g) (Int.toNat n)) 0))), (tH, .inl (cI, 8, .inl (aG (minsG (likeG gt g) (Int.toNat n)) 1))), (tM, .inl (cI, 8, .inl (aG (minsG (likeG gt g) (Int.toNat n)) 2))), (tO, .inl (cI, 8, .inl (aG (minsG (likeG gt g) (Int.toNat n)) 3))), (fi, .inl (cI, 7, .inl (ar fd)))]) (q0 := 0) (c_X3_heightLater l D cI cJ cB cS xa x h t tK tH tM tO k0 tp sh fi ik (likeG gt g) c n ok25_1 (by omega) (by omega) (by omega)) mV_X3_heightLater kM_X3_155 dX3_place_31 rfl rfl [0, 6, 7, 8, 9, 10] rfl rfl rfl rfl rfl rfl rfl rfl ⟨Nat.le_of_ble_eq_true rfl, Nat.le_of_ble_eq_true rfl, Nat.le_of_ble_eq_true rfl⟩ ?_
      have ok31_5 : Ok (minsG (likeG gt g) (Int.toNat n)) := minsG_ok ok25_1 _ (by omega)
      have f31_6 := minsG_40 (likeG gt g) (Int.toNat n)
      have f31_7 := minsG_42 (likeG gt g) (Int.toNat n)
      have el : minsG (likeG gt g) (Int.toNat n) 1 c = minsG g (Int.toNat n) 1 c := later (agr_like gt g) (ok25_1) (by omega) (by show g 4 0 + n ≤ 1000000; omega) (by decide) ⟨by omega, by show c < g 4 2; omega⟩
      refine z_st (st2 := [.int (iI (minsG g (Int.toNat n) 1 c))]) (by rw [el]) ?_
      refine z_istore_n (pc := 34) (lv2 := [(3, .int (iI (minsG g (Int.toNat n) 1 c))), (0, .ref x), (1, .int (iI c)), (2, .int (iI n))]) dX3_place_34 rfl (by decide) rfl ?_
      have bm := okH (minsG_ok ok (Int.toNat n) (by omega)) c
      refine z_iconst (pc := 35) dX3_place_35 ?_
      refine z_istore (pc := 36) (lv2 := [(4, .int (iI (-1))), (3, .int (iI (minsG g (Int.toNat n) 1 c))), (0, .ref x), (1, .int (iI c)), (2, .int (iI n))]) dX3_place_36 (by decide) rfl ?_
      refine z_iconst (pc := 38) dX3_place_38 ?_
      refine z_istore (pc := 39) (lv2 := [(5, .int (iI 0)), (4, .int (iI (-1))), (3, .int (iI (minsG g (Int.toNat n) 1 c))), (0, .ref x), (1, .int (iI c)), (2, .int (iI n))]) dX3_place_39 (by decide) rfl ?_
      have LP41 : ∀ (nn_ : Nat) (i : Int) (b : Int) (mx : Int) (gx : Gd), (0 ≤ i) → (i ≤ g 4 2) → (-1 ≤ b ∧ b < 10 ∧ -1 ≤ mx ∧ mx ≤ 200) → (Ok gx) → ((b, mx) = amx (plV g c n) (plS c) (-1) (minsG g (Int.toNat n) 1 c) i.toNat) → (g 4 2 - i).toNat < nn_ → Z xp l xe { frames := 6, cells := 0, slots := 0, locals := 134 } xs xm ([.ref x, .int (iI c), .int (iI n)] : List Value).toArray xb xt xc 0 0 (MQ xb (Cq (S := Gd) D [(x, .inr (3, [.ref h, .ref t, .ref k0, .int ik, .ref tp, .ref sh, .ref fi])), (h, oG g hK hH hM hO), (hK, .inl (cI, 8, .inl (aG g 0))), (hH, .inl (cI, 8, .inl (aG g 1))), (hM, .inl (cI, 8, .inl (aG g 2))), (hO, .inl (cI, 8, .inl (aG g 3))), (t, oG gt tK tH tM tO), (tK, .inl (cI, 8, .inl (aG gt 0))), (tH, .inl (cI, 8, .inl (aG gt 1))), (tM, .inl (cI, 8, .inl (aG gt 2))), (tO, .inl (cI, 8, .inl (aG gt 3))), (fi, .inl (cI, 7, .inl (ar fd)))] (fun gt2 : Gd => Ok gt2) (fun gt2 : Gd => (some (.int ((opPlace g fd c n).1)))) (fun gt2 : Gd => [(x, .inr (3, [.ref h, .ref t, .ref k0, .int ik, .ref tp, .ref sh, .ref fi])), (h, oG g hK hH hM hO), (hK, .inl (cI, 8, .inl (aG g 0))), (hH, .inl (cI, 8, .inl (aG g 1))), (hM, .inl (cI, 8, .inl (aG g 2))), (hO, .inl (cI, 8, .inl (aG g 3))), (t, oG gt2 tK tH tM tO), (tK, .inl (cI, 8, .inl (aG gt2 0))), (tH, .inl (cI, 8, .inl (aG gt2 1))), (tM, .inl (cI, 8, .inl (aG gt2 2))), (tO, .inl (cI, 8, .inl (aG gt2 3))), (fi, .inl (cI, 7, .inl (ar ((opPlace g fd c n).2))))])) ([.ref x, .int (iI c), .int (iI n)] : List Value).toArray xs 0 0 (va_A0 [(x, .inr (3, [.ref h, .ref t, .ref k0, .int ik, .ref tp, .ref sh, .ref fi])), (h, oG g hK hH hM hO), (hK, .inl (cI, 8, .inl (aG g 0))), (hH, .inl (cI, 8, .inl (aG g 1))), (hM, .inl (cI, 8, .inl (aG g 2))), (hO, .inl (cI, 8, .inl (aG g 3))), (t, oG gt tK tH tM tO), (tK, .inl (cI, 8, .inl (aG gt 0))), (tH, .inl (cI, 8, .inl (aG gt 1))), (tM, .inl (cI, 8, .inl (aG gt 2))), (tO, .inl (cI, 8, .inl (aG gt 3))), (fi, .inl (cI, 7, .inl (ar fd)))])) cX3_place RX3 7 (some .int) D cI cJ cB cS xa (va_A0 [(x, .inr (3, [.ref h, .ref t, .ref k0, .int ik, .ref tp, .ref sh, .ref fi])), (h, oG g hK hH hM hO), (hK, .inl (cI, 8, .inl (aG g 0))), (hH, .inl (cI, 8, .inl (aG g 1))), (hM, .inl (cI, 8, .inl (aG g 2))), (hO, .inl (cI, 8, .inl (aG g 3))), (t, oG gt tK tH tM tO), (tK, .inl (cI, 8, .inl (aG gt 0))), (tH, .inl (cI, 8, .inl (aG gt 1))), (tM, .inl (cI, 8, .inl (aG gt 2))), (tO, .inl (cI, 8, .inl (aG gt 3))), (fi, .inl (cI, 7, .inl (ar fd)))]) [(x, .inr (3, [.ref h, .ref t, .ref k0, .int ik, .ref tp, .ref sh, .ref fi])), (h, oG g hK hH hM hO), (hK, .inl (cI, 8, .inl (aG g 0))), (hH, .inl (cI, 8, .inl (aG g 1))), (hM, .inl (cI, 8, .inl (aG g 2))), (hO, .inl (cI, 8, .inl (aG g 3))), (t, oG gx tK tH tM tO), (tK, .inl (cI, 8, .inl (aG gx 0))), (tH, .inl (cI, 8, .inl (aG gx 1))), (tM, .inl (cI, 8, .inl (aG gx 2))), (tO, .inl (cI, 8, .inl (aG gx 3))), (fi, .inl (cI, 7, .inl (ar fd)))] [(0, .ref x), (1, .int (iI c)), (2, .int (iI n)), (3, .int (iI mx)), (4, .int (iI b)), (5, .int (iI i))] 41 [] := by
        intro nn_
        induction nn_ with
        | zero => intro i b mx gx hi0 hi1 hr hx hb hms; exact absurd hms (Nat.not_lt_zero _)
        | succ nn_ ih =>
          intro i b mx gx hi0 hi1 hr hx hb hms
          have ih41 := ih
          clear ih
          refine z_iload (pc := 41) dX3_place_41 5 rfl ?_
          refine z_aload_n (pc := 43) dX3_place_43 0 rfl ?_
          refine z_get (pc := 44) (q0 := 0) (v := .ref h) fL_X3_10 dX3_place_44 rfl rfl ?_
          refine z_get (pc := 47) (q0 := 1) (v := .int (iI (g 4 2))) fL_X3_159 dX3_place_47 rfl rfl ?_
          refine z_icmp_ge (pc := 50) (tgt := 101) dX3_place_50 (by decide) (by omega) (by omega) (fun h50 => ?_) (fun h50 => ?_)
          · skip
            obtain rfl : i = g 4 2 := by omega
            refine z_iload (pc := 101) dX3_place_101 4 rfl ?_
            refine z_if_ge (pc := 103) (tgt := 114) dX3_place_103 (by decide) (by omega) (fun h103 => ?_) (fun h103 => ?_)
            · skip
              refine z_iload (pc := 114) dX3_place_114 4 rfl ?_
              have e9 : opPlace g fd c n = ((iI b), fd) := by
                unfold opPlace noneI
                rw [if_pos ⟨⟨by omega, by omega⟩, by omega, by omega⟩, ← hb, if_neg (by omega)]
              exact z_iretE (pc := 116) dX3_place_116 gx hx (by rw [e9]) (by rw [e9])
            · skip
              refine z_aload_n (pc := 106) dX3_place_106 0 rfl ?_
              refine z_iconst (pc := 107) dX3_place_107 ?_
              refine z_callV (pc := 108) (st := []) (st2 := [.int (iI (-1000000001 - 3))]) (ws2 := [(x, .inr (3, [.ref h, .ref t, .ref k0, .int ik, .ref tp, .ref sh, .ref fi])), (h, oG g hK hH hM hO), (hK, .inl (cI, 8, .inl (aG g 0))), (hH, .inl (cI, 8, .inl (aG g 1))), (hM, .inl (cI, 8, .inl (aG g 2))), (hO, .inl (cI, 8, .inl (aG g 3))), (t, oG gx tK tH tM tO), (tK, .inl (cI, 8, .inl (aG gx 0))), (tH, .inl (cI, 8, .inl (aG gx 1))), (tM, .inl (cI, 8, .inl (aG gx 2))), (tO, .inl (cI, 8, .inl (aG gx 3))), (fi, .inl (cI, 7, .inl (ar (fnd fd 3))))]) (q0 := 0) (c_X3_found l D cI cJ cB cS xa x h t k0 tp sh fi ik fd 3 (by omega)) mV_X3_found kM_X3_48 dX3_place_108 rfl rfl [0, 11] rfl rfl rfl rfl rfl rfl rfl rfl ⟨Nat.le_of_ble_eq_true rfl, Nat.le_of_ble_eq_true rfl, Nat.le_of_ble_eq_true rfl⟩ ?_
              refine z_goto (pc := 111) (tgt := 116) dX3_place_111 (by decide) ?_
              have e9 : opPlace g fd c n = ((iI (-1000000001 - 3)), fnd fd 3) := by
                unfold opPlace noneI
                rw [if_pos ⟨⟨by omega, by omega⟩, by omega, by omega⟩, ← hb, if_pos (by omega)]
                rfl
              exact z_iretE (pc := 116) dX3_place_116 gx hx (by rw [e9]) (by rw [e9])
          · skip
            refine z_iload (pc := 53) dX3_place_53 5 rfl ?_
            refine z_iload_n (pc := 55) dX3_place_55 1 rfl ?_
            refine z_icmp_eq (pc := 56) (tgt := 95) dX3_place_56 (by decide) (by omega) (by omega) (fun h56 => ?_) (fun h56 => ?_)
            · skip
              refine z_iinc (pc := 95) (lv2 := [(5, .int (iI (i + 1))), (0, .ref x), (1, .int (iI c)), (2, .int (iI n)), (3, .int (iI mx)), (4, .int (iI b))]) dX3_place_95 5 rfl (by decide) rfl ?_
              refine z_goto (pc := 98) (tgt := 41) dX3_place_98 (by decide) ?_
              refine z_lv (lv2 := [(0, .ref x), (1, .int (iI c)), (2, .int (iI n)), (3, .int (iI mx)), (4, .int (iI b)), (5, .int (iI (i + 1)))]) [1, 2, 3, 4, 5, 0] rfl ?_
              exact ih41 (i + 1) b mx gx (by omega) (by omega) (by omega) (hx) (amx_f hi0 hb (fun q => by have q1 := of_decide_eq_false q.1; omega)) (by omega)
            · skip
              refine z_aload_n (pc := 59) dX3_place_59 0 rfl ?_
              refine z_callV (pc := 60) (st := []) (st2 := []) (ws2 := [(x, .inr (3, [.ref h, .ref t, .ref k0, .int ik, .ref tp, .ref sh, .ref fi])), (h, oG g hK hH hM hO), (hK, .inl (cI, 8, .inl (aG g 0))), (hH, .inl (cI, 8, .inl (aG g 1))), (hM, .inl (cI, 8, .inl (aG g 2))), (hO, .inl (cI, 8, .inl (aG g 3))), (t, oG (likeG gx g) tK tH tM tO), (tK, .inl (cI, 8, .inl (aG (likeG gx g) 0))), (tH, .inl (cI, 8, .inl (aG (likeG gx g) 1))), (tM, .inl (cI, 8, .inl (aG (likeG gx g) 2))), (tO, .inl (cI, 8, .inl (aG (likeG gx g) 3))), (fi, .inl (cI, 7, .inl (ar fd)))]) (q0 := 0) (c_X3_tryAsItIs l D cI cJ cB cS xa x h hK hH hM hO t tK tH tM tO k0 tp sh fi ik g gx ok hx) mV_X3_tryAsItIs kM_X3_145 dX3_place_60 rfl rfl [0, 1, 2, 3, 4, 5, 6, 7, 8, 9, 10] rfl rfl rfl rfl rfl rfl rfl rfl ⟨Nat.le_of_ble_eq_true rfl, Nat.le_of_ble_eq_true rfl, Nat.le_of_ble_eq_true rfl⟩ ?_
              have ok60_8 : Ok (likeG gx g) := likeG_ok hx ok
              have f60_9 := (show likeG gx g 4 0 = g 4 0 from rfl)
              have f60_10 := (show likeG gx g 4 1 = g 4 1 from rfl)
              have f60_11 := (show likeG gx g 4 2 = g 4 2 from rfl)
              refine z_aload_n (pc := 63) dX3_place_63 0 rfl ?_
              refine z_get (pc := 64) (q0 := 0) (v := .ref t) fL_X3_16 dX3_place_64 rfl rfl ?_
              refine z_iload_n (pc := 67) dX3_place_67 1 rfl ?_
              refine z_iload (pc := 68) dX3_place_68 5 rfl ?_
              refine z_callV (pc := 70) (st := []) (st2 := []) (ws2 := [(x, .inr (3, [.ref h, .ref t, .ref k0, .int ik, .ref tp, .ref sh, .ref fi])), (h, oG g hK hH hM hO), (hK, .inl (cI, 8, .inl (aG g 0))), (hH, .inl (cI, 8, .inl (aG g 1))), (hM, .inl (cI, 8, .inl (aG g 2))), (hO, .inl (cI, 8, .inl (aG g 3))), (t, oG (swapG (likeG gx g) c i) tK tH tM tO), (tK, .inl (cI, 8, .inl (aG (swapG (likeG gx g) c i) 0))), (tH, .inl (cI, 8, .inl (aG (swapG (likeG gx g) c i) 1))), (tM, .inl (cI, 8, .inl (aG (swapG (likeG gx g) c i) 2))), (tO, .inl (cI, 8, .inl (aG (swapG (likeG gx g) c i) 3))), (fi, .inl (cI, 7, .inl (ar fd)))]) (q0 := 6) (c_X0_exchange l D cI cJ cB cS xa t tK tH tM tO (likeG gx g) c i ok60_8 (by omega) (by omega)) mV_X0_exchange kM_X3_137 dX3_place_70 rfl rfl [6, 7, 8, 9, 10] rfl rfl rfl rfl rfl rfl rfl rfl ⟨Nat.le_of_ble_eq_true rfl, Nat.le_of_ble_eq_true rfl, Nat.le_of_ble_eq_true rfl⟩ ?_
              have ok70_12 : Ok (swapG (likeG gx g) c i) := swapG_ok ok60_8 c i
              have f70_13 := (show swapG (likeG gx g) c i 4 0 = (likeG gx g) 4 0 from rfl)
              have f70_14 := (show swapG (likeG gx g) c i 4 2 = (likeG gx g) 4 2 from rfl)
              refine z_aload_n (pc := 73) dX3_place_73 0 rfl ?_
              refine z_iload (pc := 74) dX3_place_74 5 rfl ?_
              refine z_iload_n (pc := 76) dX3_place_76 2 rfl ?_
              refine z_callV (pc := 77) (st := []) (st2 := [.int (iI (minsG (swapG (likeG gx g) c i) (Int.toNat n) 1 i))]) (ws2 := [(x, .inr (3, [.ref h, .ref t, .ref k0, .int ik, .ref tp, .ref sh, .ref fi])), (h, oG g hK hH hM hO), (hK, .inl (cI, 8, .inl (aG g 0))), (hH, .inl (cI, 8, .inl (aG g 1))), (hM, .inl (cI, 8, .inl (aG g 2))), (hO, .inl (cI, 8, .inl (aG g 3))), (t, oG (minsG (swapG (likeG gx g) c i) (Int.toNat n)) tK tH tM tO), (tK, .inl (cI, 8, .inl (aG (minsG (swapG (likeG gx g) c i) (Int.toNat n)) 0))), (tH, .inl (cI, 8, .inl (aG (minsG (swapG (likeG gx g) c i) (Int.toNat n)) 1))), (tM, .inl (cI, 8, .inl (aG (minsG (swapG (likeG gx g) c i) (Int.toNat n)) 2))), (tO, .inl (cI, 8, .inl (aG (minsG (swapG (likeG gx g) c i) (Int.toNat n)) 3))), (fi, .inl (cI, 7, .inl (ar fd)))]) (q0 := 0) (c_X3_heightLater l D cI cJ cB cS xa x h t tK tH tM tO k0 tp sh fi ik (swapG (likeG gx g) c i) i n ok70_12 (by omega) (by omega) (by omega)) mV_X3_heightLater kM_X3_155 dX3_place_77 rfl rfl [0, 6, 7, 8, 9, 10] rfl rfl rfl rfl rfl rfl rfl rfl ⟨Nat.le_of_ble_eq_true rfl, Nat.le_of_ble_eq_true rfl, Nat.le_of_ble_eq_true rfl⟩ ?_
              have ok77_15 : Ok (minsG (swapG (likeG gx g) c i) (Int.toNat n)) := minsG_ok ok70_12 _ (by omega)
              have f77_16 := minsG_40 (swapG (likeG gx g) c i) (Int.toNat n)
              have f77_17 := minsG_42 (swapG (likeG gx g) c i) (Int.toNat n)
              have el : minsG (swapG (likeG gx g) c i) (Int.toNat n) 1 i = minsG (swapG g c i) (Int.toNat n) 1 i := later (agr_swap (agr_like gx g) ⟨by omega, by show c < g 4 2; omega⟩ ⟨by omega, by show i < g 4 2; omega⟩) (ok70_12) (by omega) (by show g 4 0 + n ≤ 1000000; omega) (by decide) ⟨by omega, by show i < g 4 2; omega⟩
              refine z_st (st2 := [.int (iI (minsG (swapG g c i) (Int.toNat n) 1 i))]) (by rw [el]) ?_
              refine z_istore (pc := 80) (lv2 := [(6, .int (iI (minsG (swapG g c i) (Int.toNat n) 1 i))), (0, .ref x), (1, .int (iI c)), (2, .int (iI n)), (3, .int (iI mx)), (4, .int (iI b)), (5, .int (iI i))]) dX3_place_80 (by decide) rfl ?_
              have bv := okH (minsG_ok (swapG_ok ok c i) (Int.toNat n) (by show g 4 0 + _ ≤ _; omega)) i
              refine z_iload (pc := 82) dX3_place_82 0 rfl ?_
              refine z_iload_n (pc := 84) dX3_place_84 4 rfl ?_
              refine z_icmp_le (pc := 85) (tgt := 95) dX3_place_85 (by decide) (by omega) (by omega) (fun h85 => ?_) (fun h85 => ?_)
              · skip
                refine z_iinc (pc := 95) (lv2 := [(5, .int (iI (i + 1))), (6, .int (iI (minsG (swapG g c i) (Int.toNat n) 1 i))), (0, .ref x), (1, .int (iI c)), (2, .int (iI n)), (3, .int (iI mx)), (4, .int (iI b))]) dX3_place_95 6 rfl (by decide) rfl ?_
                refine z_goto (pc := 98) (tgt := 41) dX3_place_98 (by decide) ?_
                refine z_lv (lv2 := [(0, .ref x), (1, .int (iI c)), (2, .int (iI n)), (3, .int (iI mx)), (4, .int (iI b)), (5, .int (iI (i + 1)))]) [2, 3, 4, 5, 6, 0] rfl ?_
                exact ih41 (i + 1) b mx (minsG (swapG (likeG gx g) c i) (Int.toNat n)) (by omega) (by omega) (by omega) (ok77_15) (amx_f hi0 hb (fun q => by have q2 : mx < minsG (swapG g c i) (Int.toNat n) 1 i := q.2; omega)) (by omega)
              · skip
                refine z_iload (pc := 88) dX3_place_88 0 rfl ?_
                refine z_istore_n (pc := 90) (lv2 := [(3, .int (iI (minsG (swapG g c i) (Int.toNat n) 1 i))), (6, .int (iI (minsG (swapG g c i) (Int.toNat n) 1 i))), (0, .ref x), (1, .int (iI c)), (2, .int (iI n)), (4, .int (iI b)), (5, .int (iI i))]) dX3_place_90 rfl (by decide) rfl ?_
                refine z_iload (pc := 91) dX3_place_91 6 rfl ?_
                refine z_istore (pc := 93) (lv2 := [(4, .int (iI i)), (3, .int (iI (minsG (swapG g c i) (Int.toNat n) 1 i))), (6, .int (iI (minsG (swapG g c i) (Int.toNat n) 1 i))), (0, .ref x), (1, .int (iI c)), (2, .int (iI n)), (5, .int (iI i))]) dX3_place_93 (by decide) rfl ?_
                refine z_iinc (pc := 95) (lv2 := [(5, .int (iI (i + 1))), (4, .int (iI i)), (3, .int (iI (minsG (swapG g c i) (Int.toNat n) 1 i))), (6, .int (iI (minsG (swapG g c i) (Int.toNat n) 1 i))), (0, .ref x), (1, .int (iI c)), (2, .int (iI n))]) dX3_place_95 6 rfl (by decide) rfl ?_
                refine z_goto (pc := 98) (tgt := 41) dX3_place_98 (by decide) ?_
                refine z_lv (lv2 := [(0, .ref x), (1, .int (iI c)), (2, .int (iI n)), (3, .int (iI (minsG (swapG g c i) (Int.toNat n) 1 i))), (4, .int (iI i)), (5, .int (iI (i + 1)))]) [4, 5, 6, 2, 1, 0] rfl ?_
                exact ih41 (i + 1) i (minsG (swapG g c i) (Int.toNat n) 1 i) (minsG (swapG (likeG gx g) c i) (Int.toNat n)) (by omega) (by omega) (by omega) (ok77_15) (amx_t hi0 hb (by exact decide_eq_false (by omega)) (by show mx < minsG (swapG g c i) (Int.toNat n) 1 i; omega)) (by omega)
      refine z_lv (lv2 := [(0, .ref x), (1, .int (iI c)), (2, .int (iI n)), (3, .int (iI (minsG g (Int.toNat n) 1 c))), (4, .int (iI (-1))), (5, .int (iI 0))]) [3, 4, 5, 2, 1, 0] rfl ?_
      exact LP41 _ 0 (-1) (minsG g (Int.toNat n) 1 c) (minsG (likeG gt g) (Int.toNat n)) (by omega) (by omega) (by omega) (ok31_5) (by rfl) (Nat.lt_succ_self _)
    · skip
      refine z_aload_n (pc := 18) dX3_place_18 0 rfl ?_
      refine z_iconst (pc := 19) dX3_place_19 ?_
      refine z_callV (pc := 20) (st := []) (st2 := [.int (iI (-1000000001 - 0))]) (ws2 := [(x, .inr (3, [.ref h, .ref t, .ref k0, .int ik, .ref tp, .ref sh, .ref fi])), (h, oG g hK hH hM hO), (hK, .inl (cI, 8, .inl (aG g 0))), (hH, .inl (cI, 8, .inl (aG g 1))), (hM, .inl (cI, 8, .inl (aG g 2))), (hO, .inl (cI, 8, .inl (aG g 3))), (t, oG gt tK tH tM tO), (tK, .inl (cI, 8, .inl (aG gt 0))), (tH, .inl (cI, 8, .inl (aG gt 1))), (tM, .inl (cI, 8, .inl (aG gt 2))), (tO, .inl (cI, 8, .inl (aG gt 3))), (fi, .inl (cI, 7, .inl (ar (fnd fd 0))))]) (q0 := 0) (c_X3_found l D cI cJ cB cS xa x h t k0 tp sh fi ik fd 0 (by omega)) mV_X3_found kM_X3_48 dX3_place_20 rfl rfl [0, 11] rfl rfl rfl rfl rfl rfl rfl rfl ⟨Nat.le_of_ble_eq_true rfl, Nat.le_of_ble_eq_true rfl, Nat.le_of_ble_eq_true rfl⟩ ?_
      have e9 : opPlace g fd c n = ((iI (-1000000001 - 0)), fnd fd 0) := by
        unfold opPlace; try unfold bI
        (repeat' split) <;> first | (exfalso; omega) | contradiction | rfl
      exact z_iretE (pc := 23) dX3_place_23 gt okt (by rw [e9]) (by rw [e9])
set_option maxHeartbeats 8000000 in
set_option maxRecDepth 100000 in
theorem c_X3_kind (l : Launch) (D : va_G) (cI cJ cB cS : ClassId) (xa : XA) (x h hK hH hM hO t tK tH tM tO k0 tp sh fi : Nat) (ik : Int32) (g : Gd) (fd : FF) (gt : Gd) (c n : Int) (ok : Ok g) (rc : inr c) (rn : inr n) (okt : Ok gt) (hm : g 4 0 ≤ 99999) : CtE (S := Gd) l D cI cJ cB cS xa yX3_kind cX3_kind 7 (some .int) 6 134 [.ref x, .int (iI c), .int (iI n)] [(x, .inr (3, [.ref h, .ref t, .ref k0, .int ik, .ref tp, .ref sh, .ref fi])), (h, oG g hK hH hM hO), (hK, .inl (cI, 8, .inl (aG g 0))), (hH, .inl (cI, 8, .inl (aG g 1))), (hM, .inl (cI, 8, .inl (aG g 2))), (hO, .inl (cI, 8, .inl (aG g 3))), (t, oG gt tK tH tM tO), (tK, .inl (cI, 8, .inl (aG gt 0))), (tH, .inl (cI, 8, .inl (aG gt 1))), (tM, .inl (cI, 8, .inl (aG gt 2))), (tO, .inl (cI, 8, .inl (aG gt 3))), (fi, .inl (cI, 7, .inl (ar fd)))] (fun gt2 : Gd => Ok gt2) (fun gt2 : Gd => (some (.int ((opKind g fd c n).1)))) (fun gt2 : Gd => [(x, .inr (3, [.ref h, .ref t, .ref k0, .int ik, .ref tp, .ref sh, .ref fi])), (h, oG g hK hH hM hO), (hK, .inl (cI, 8, .inl (aG g 0))), (hH, .inl (cI, 8, .inl (aG g 1))), (hM, .inl (cI, 8, .inl (aG g 2))), (hO, .inl (cI, 8, .inl (aG g 3))), (t, oG gt2 tK tH tM tO), (tK, .inl (cI, 8, .inl (aG gt2 0))), (tH, .inl (cI, 8, .inl (aG gt2 1))), (tM, .inl (cI, 8, .inl (aG gt2 2))), (tO, .inl (cI, 8, .inl (aG gt2 3))), (fi, .inl (cI, 7, .inl (ar ((opKind g fd c n).2))))]) := by
  have o0 := ok0 ok
  have o1 := ok1 ok
  have o2 := ok2 ok
  refine CtE.of (own := RX3) (lv := [(0, .ref x), (1, .int (iI c)), (2, .int (iI n))]) (by decide) rfl rfl (Nat.le_of_ble_eq_true rfl) ?_
  intro xp xe xs xm xb xt xc
  refine z_aload_n (pc := 0) dX3_kind_0 0 rfl ?_
  refine z_iload_n (pc := 1) dX3_kind_1 1 rfl ?_
  refine z_callV (pc := 2) (st := []) (st2 := [.int (bI (0 ≤ c ∧ c < g 4 2))]) (ws2 := [(x, .inr (3, [.ref h, .ref t, .ref k0, .int ik, .ref tp, .ref sh, .ref fi])), (h, oG g hK hH hM hO), (hK, .inl (cI, 8, .inl (aG g 0))), (hH, .inl (cI, 8, .inl (aG g 1))), (hM, .inl (cI, 8, .inl (aG g 2))), (hO, .inl (cI, 8, .inl (aG g 3))), (t, oG gt tK tH tM tO), (tK, .inl (cI, 8, .inl (aG gt 0))), (tH, .inl (cI, 8, .inl (aG gt 1))), (tM, .inl (cI, 8, .inl (aG gt 2))), (tO, .inl (cI, 8, .inl (aG gt 3))), (fi, .inl (cI, 7, .inl (ar fd)))]) (q0 := 0) (c_X3_isChild l D cI cJ cB cS xa x h hK hH hM hO t k0 tp sh fi ik g c ok (by omega)) mV_X3_isChild kM_X3_100 dX3_kind_2 rfl rfl [0, 1] rfl rfl rfl rfl rfl rfl rfl rfl ⟨Nat.le_of_ble_eq_true rfl, Nat.le_of_ble_eq_true rfl, Nat.le_of_ble_eq_true rfl⟩ ?_
  refine z_ifb_eq (pc := 5) (tgt := 18) dX3_kind_5 (by decide) (fun h5 => ?_) (fun h5 => ?_)
  · skip
    refine z_aload_n (pc := 18) dX3_kind_18 0 rfl ?_
    refine z_iconst (pc := 19) dX3_kind_19 ?_
    refine z_callV (pc := 20) (st := []) (st2 := [.int (iI (-1000000001 - 0))]) (ws2 := [(x, .inr (3, [.ref h, .ref t, .ref k0, .int ik, .ref tp, .ref sh, .ref fi])), (h, oG g hK hH hM hO), (hK, .inl (cI, 8, .inl (aG g 0))), (hH, .inl (cI, 8, .inl (aG g 1))), (hM, .inl (cI, 8, .inl (aG g 2))), (hO, .inl (cI, 8, .inl (aG g 3))), (t, oG gt tK tH tM tO), (tK, .inl (cI, 8, .inl (aG gt 0))), (tH, .inl (cI, 8, .inl (aG gt 1))), (tM, .inl (cI, 8, .inl (aG gt 2))), (tO, .inl (cI, 8, .inl (aG gt 3))), (fi, .inl (cI, 7, .inl (ar (fnd fd 0))))]) (q0 := 0) (c_X3_found l D cI cJ cB cS xa x h t k0 tp sh fi ik fd 0 (by omega)) mV_X3_found kM_X3_48 dX3_kind_20 rfl rfl [0, 11] rfl rfl rfl rfl rfl rfl rfl rfl ⟨Nat.le_of_ble_eq_true rfl, Nat.le_of_ble_eq_true rfl, Nat.le_of_ble_eq_true rfl⟩ ?_
    have e9 : opKind g fd c n = ((iI (-1000000001 - 0)), fnd fd 0) := by
      unfold opKind; try unfold bI
      (repeat' split) <;> first | (exfalso; omega) | contradiction | rfl
    exact z_iretE (pc := 23) dX3_kind_23 gt okt (by rw [e9]) (by rw [e9])
  · skip
    refine z_iload_n (pc := 8) dX3_kind_8 2 rfl ?_
    refine z_iconst (pc := 9) dX3_kind_9 ?_
    refine z_bipush (pc := 10) dX3_kind_10 (by decide) ?_
    refine z_callS (pc := 12) (st := []) (st2 := [.int (bI (1 ≤ n ∧ n ≤ 100))]) (ws2 := [(x, .inr (3, [.ref h, .ref t, .ref k0, .int ik, .ref tp, .ref sh, .ref fi])), (h, oG g hK hH hM hO), (hK, .inl (cI, 8, .inl (aG g 0))), (hH, .inl (cI, 8, .inl (aG g 1))), (hM, .inl (cI, 8, .inl (aG g 2))), (hO, .inl (cI, 8, .inl (aG g 3))), (t, oG gt tK tH tM tO), (tK, .inl (cI, 8, .inl (aG gt 0))), (tH, .inl (cI, 8, .inl (aG gt 1))), (tM, .inl (cI, 8, .inl (aG gt 2))), (tO, .inl (cI, 8, .inl (aG gt 3))), (fi, .inl (cI, 7, .inl (ar fd)))]) (c_X3_within l D cI cJ cB cS xa n 1 100 (by omega) (by omega) (by omega)) mS_X3_within kM_X3_44 dX3_kind_12 [] rfl rfl rfl rfl rfl rfl rfl rfl ⟨Nat.le_of_ble_eq_true rfl, Nat.le_of_ble_eq_true rfl, Nat.le_of_ble_eq_true rfl⟩ ?_
    refine z_ifb_ne (pc := 15) (tgt := 24) dX3_kind_15 (by decide) (fun h15 => ?_) (fun h15 => ?_)
    · skip
      refine z_iconst (pc := 24) dX3_kind_24 ?_
      refine z_istore_n (pc := 25) (lv2 := [(3, .int (iI (-1))), (0, .ref x), (1, .int (iI c)), (2, .int (iI n))]) dX3_kind_25 rfl (by decide) rfl ?_
      refine z_iconst (pc := 26) dX3_kind_26 ?_
      refine z_istore (pc := 27) (lv2 := [(4, .int (iI 0)), (3, .int (iI (-1))), (0, .ref x), (1, .int (iI c)), (2, .int (iI n))]) dX3_kind_27 (by decide) rfl ?_
      refine z_iconst (pc := 29) dX3_kind_29 ?_
      refine z_istore (pc := 30) (lv2 := [(5, .int (iI 0)), (4, .int (iI 0)), (3, .int (iI (-1))), (0, .ref x), (1, .int (iI c)), (2, .int (iI n))]) dX3_kind_30 (by decide) rfl ?_
      have LP32 : ∀ (nn_ : Nat) (i : Int) (b : Int) (mx : Int) (gx : Gd), (0 ≤ i) → (i ≤ 6) → (-1 ≤ b ∧ b < 10 ∧ -1 ≤ mx ∧ mx ≤ 200) → (Ok gx) → ((b, mx) = amx (knV g c n) (fun _ => false) 0 (-1) i.toNat) → (6 - i).toNat < nn_ → Z xp l xe { frames := 6, cells := 0, slots := 0, locals := 134 } xs xm ([.ref x, .int (iI c), .int (iI n)] : List Value).toArray xb xt xc 0 0 (MQ xb (Cq (S := Gd) D [(x, .inr (3, [.ref h, .ref t, .ref k0, .int ik, .ref tp, .ref sh, .ref fi])), (h, oG g hK hH hM hO), (hK, .inl (cI, 8, .inl (aG g 0))), (hH, .inl (cI, 8, .inl (aG g 1))), (hM, .inl (cI, 8, .inl (aG g 2))), (hO, .inl (cI, 8, .inl (aG g 3))), (t, oG gt tK tH tM tO), (tK, .inl (cI, 8, .inl (aG gt 0))), (tH, .inl (cI, 8, .inl (aG gt 1))), (tM, .inl (cI, 8, .inl (aG gt 2))), (tO, .inl (cI, 8, .inl (aG gt 3))), (fi, .inl (cI, 7, .inl (ar fd)))] (fun gt2 : Gd => Ok gt2) (fun gt2 : Gd => (some (.int ((opKind g fd c n).1)))) (fun gt2 : Gd => [(x, .inr (3, [.ref h, .ref t, .ref k0, .int ik, .ref tp, .ref sh, .ref fi])), (h, oG g hK hH hM hO), (hK, .inl (cI, 8, .inl (aG g 0))), (hH, .inl (cI, 8, .inl (aG g 1))), (hM, .inl (cI, 8, .inl (aG g 2))), (hO, .inl (cI, 8, .inl (aG g 3))), (t, oG gt2 tK tH tM tO), (tK, .inl (cI, 8, .inl (aG gt2 0))), (tH, .inl (cI, 8, .inl (aG gt2 1))), (tM, .inl (cI, 8, .inl (aG gt2 2))), (tO, .inl (cI, 8, .inl (aG gt2 3))), (fi, .inl (cI, 7, .inl (ar ((opKind g fd c n).2))))])) ([.ref x, .int (iI c), .int (iI n)] : List Value).toArray xs 0 0 (va_A0 [(x, .inr (3, [.ref h, .ref t, .ref k0, .int ik, .ref tp, .ref sh, .ref fi])), (h, oG g hK hH hM hO), (hK, .inl (cI, 8, .inl (aG g 0))), (hH, .inl (cI, 8, .inl (aG g 1))), (hM, .inl (cI, 8, .inl (aG g 2))), (hO, .inl (cI, 8, .inl (aG g 3))), (t, oG gt tK tH tM tO), (tK, .inl (cI, 8, .inl (aG gt 0))), (tH, .inl (cI, 8, .inl (aG gt 1))), (tM, .inl (cI, 8, .inl (aG gt 2))), (tO, .inl (cI, 8, .inl (aG gt 3))), (fi, .inl (cI, 7, .inl (ar fd)))])) cX3_kind RX3 7 (some .int) D cI cJ cB cS xa (va_A0 [(x, .inr (3, [.ref h, .ref t, .ref k0, .int ik, .ref tp, .ref sh, .ref fi])), (h, oG g hK hH hM hO), (hK, .inl (cI, 8, .inl (aG g 0))), (hH, .inl (cI, 8, .inl (aG g 1))), (hM, .inl (cI, 8, .inl (aG g 2))), (hO, .inl (cI, 8, .inl (aG g 3))), (t, oG gt tK tH tM tO), (tK, .inl (cI, 8, .inl (aG gt 0))), (tH, .inl (cI, 8, .inl (aG gt 1))), (tM, .inl (cI, 8, .inl (aG gt 2))), (tO, .inl (cI, 8, .inl (aG gt 3))), (fi, .inl (cI, 7, .inl (ar fd)))]) [(x, .inr (3, [.ref h, .ref t, .ref k0, .int ik, .ref tp, .ref sh, .ref fi])), (h, oG g hK hH hM hO), (hK, .inl (cI, 8, .inl (aG g 0))), (hH, .inl (cI, 8, .inl (aG g 1))), (hM, .inl (cI, 8, .inl (aG g 2))), (hO, .inl (cI, 8, .inl (aG g 3))), (t, oG gx tK tH tM tO), (tK, .inl (cI, 8, .inl (aG gx 0))), (tH, .inl (cI, 8, .inl (aG gx 1))), (tM, .inl (cI, 8, .inl (aG gx 2))), (tO, .inl (cI, 8, .inl (aG gx 3))), (fi, .inl (cI, 7, .inl (ar fd)))] [(0, .ref x), (1, .int (iI c)), (2, .int (iI n)), (3, .int (iI mx)), (4, .int (iI b)), (5, .int (iI i))] 32 [] := by
        intro nn_
        induction nn_ with
        | zero => intro i b mx gx hi0 hi1 hr hx hb hms; exact absurd hms (Nat.not_lt_zero _)
        | succ nn_ ih =>
          intro i b mx gx hi0 hi1 hr hx hb hms
          have ih32 := ih
          clear ih
          refine z_iload (pc := 32) dX3_kind_32 5 rfl ?_
          refine z_bipush (pc := 34) dX3_kind_34 (by decide) ?_
          refine z_icmp_ge (pc := 36) (tgt := 81) dX3_kind_36 (by decide) (by omega) (by omega) (fun h36 => ?_) (fun h36 => ?_)
          · skip
            obtain rfl : i = 6 := by omega
            refine z_iload (pc := 81) dX3_kind_81 4 rfl ?_
            have e9 : opKind g fd c n = ((iI b), fd) := by
              unfold opKind
              rw [if_pos ⟨⟨by omega, by omega⟩, by omega, by omega⟩, show (6 : Nat) = Int.toNat 6 from rfl, ← hb]
            exact z_iretE (pc := 83) dX3_kind_83 gx hx (by rw [e9]) (by rw [e9])
          · skip
            refine z_aload_n (pc := 39) dX3_kind_39 0 rfl ?_
            refine z_callV (pc := 40) (st := []) (st2 := []) (ws2 := [(x, .inr (3, [.ref h, .ref t, .ref k0, .int ik, .ref tp, .ref sh, .ref fi])), (h, oG g hK hH hM hO), (hK, .inl (cI, 8, .inl (aG g 0))), (hH, .inl (cI, 8, .inl (aG g 1))), (hM, .inl (cI, 8, .inl (aG g 2))), (hO, .inl (cI, 8, .inl (aG g 3))), (t, oG (likeG gx g) tK tH tM tO), (tK, .inl (cI, 8, .inl (aG (likeG gx g) 0))), (tH, .inl (cI, 8, .inl (aG (likeG gx g) 1))), (tM, .inl (cI, 8, .inl (aG (likeG gx g) 2))), (tO, .inl (cI, 8, .inl (aG (likeG gx g) 3))), (fi, .inl (cI, 7, .inl (ar fd)))]) (q0 := 0) (c_X3_tryAsItIs l D cI cJ cB cS xa x h hK hH hM hO t tK tH tM tO k0 tp sh fi ik g gx ok hx) mV_X3_tryAsItIs kM_X3_145 dX3_kind_40 rfl rfl [0, 1, 2, 3, 4, 5, 6, 7, 8, 9, 10] rfl rfl rfl rfl rfl rfl rfl rfl ⟨Nat.le_of_ble_eq_true rfl, Nat.le_of_ble_eq_true rfl, Nat.le_of_ble_eq_true rfl⟩ ?_
            have ok40_1 : Ok (likeG gx g) := likeG_ok hx ok
            have f40_2 := (show likeG gx g 4 0 = g 4 0 from rfl)
            have f40_3 := (show likeG gx g 4 1 = g 4 1 from rfl)
            have f40_4 := (show likeG gx g 4 2 = g 4 2 from rfl)
            refine z_aload_n (pc := 43) dX3_kind_43 0 rfl ?_
            refine z_get (pc := 44) (q0 := 0) (v := .ref t) fL_X3_16 dX3_kind_44 rfl rfl ?_
            refine z_get (pc := 47) (q0 := 6) (v := .ref tK) fL_X3_103 dX3_kind_47 rfl rfl ?_
            refine z_iload_n (pc := 50) dX3_kind_50 1 rfl ?_
            refine z_iload (pc := 51) dX3_kind_51 5 rfl ?_
            refine z_iast (pc := 53) (q0 := 7) (ws2 := [(x, .inr (3, [.ref h, .ref t, .ref k0, .int ik, .ref tp, .ref sh, .ref fi])), (h, oG g hK hH hM hO), (hK, .inl (cI, 8, .inl (aG g 0))), (hH, .inl (cI, 8, .inl (aG g 1))), (hM, .inl (cI, 8, .inl (aG g 2))), (hO, .inl (cI, 8, .inl (aG g 3))), (t, oG (up2 (likeG gx g) 0 c i) tK tH tM tO), (tK, .inl (cI, 8, .inl (aG (up2 (likeG gx g) 0 c i) 0))), (tH, .inl (cI, 8, .inl (aG (up2 (likeG gx g) 0 c i) 1))), (tM, .inl (cI, 8, .inl (aG (up2 (likeG gx g) 0 c i) 2))), (tO, .inl (cI, 8, .inl (aG (up2 (likeG gx g) 0 c i) 3))), (fi, .inl (cI, 7, .inl (ar fd)))]) dX3_kind_53 rfl (by omega) (by decide) (by rw [aG_up (by omega)]; rfl) ?_
            have oku5 : Ok (up2 (likeG gx g) 0 c i) := Ok.upK ok40_1 c (by omega)
            have uu : (up2 (likeG gx g) 0 c i) 4 0 = g 4 0 := rfl
            have uv : (up2 (likeG gx g) 0 c i) 4 2 = g 4 2 := rfl
            refine z_aload_n (pc := 54) dX3_kind_54 0 rfl ?_
            refine z_iload_n (pc := 55) dX3_kind_55 1 rfl ?_
            refine z_iload_n (pc := 56) dX3_kind_56 2 rfl ?_
            refine z_callV (pc := 57) (st := []) (st2 := [.int (iI (minsG (up2 (likeG gx g) 0 c i) (Int.toNat n) 1 c))]) (ws2 := [(x, .inr (3, [.ref h, .ref t, .ref k0, .int ik, .ref tp, .ref sh, .ref fi])), (h, oG g hK hH hM hO), (hK, .inl (cI, 8, .inl (aG g 0))), (hH, .inl (cI, 8, .inl (aG g 1))), (hM, .inl (cI, 8, .inl (aG g 2))), (hO, .inl (cI, 8, .inl (aG g 3))), (t, oG (minsG (up2 (likeG gx g) 0 c i) (Int.toNat n)) tK tH tM tO), (tK, .inl (cI, 8, .inl (aG (minsG (up2 (likeG gx g) 0 c i) (Int.toNat n)) 0))), (tH, .inl (cI, 8, .inl (aG (minsG (up2 (likeG gx g) 0 c i) (Int.toNat n)) 1))), (tM, .inl (cI, 8, .inl (aG (minsG (up2 (likeG gx g) 0 c i) (Int.toNat n)) 2))), (tO, .inl (cI, 8, .inl (aG (minsG (up2 (likeG gx g) 0 c i) (Int.toNat n)) 3))), (fi, .inl (cI, 7, .inl (ar fd)))]) (q0 := 0) (c_X3_heightLater l D cI cJ cB cS xa x h t tK tH tM tO k0 tp sh fi ik (up2 (likeG gx g) 0 c i) c n oku5 (by omega) (by omega) (by omega)) mV_X3_heightLater kM_X3_155 dX3_kind_57 rfl rfl [0, 6, 7, 8, 9, 10] rfl rfl rfl rfl rfl rfl rfl rfl ⟨Nat.le_of_ble_eq_true rfl, Nat.le_of_ble_eq_true rfl, Nat.le_of_ble_eq_true rfl⟩ ?_
            have ok57_6 : Ok (minsG (up2 (likeG gx g) 0 c i) (Int.toNat n)) := minsG_ok oku5 _ (by omega)
            have f57_7 := minsG_40 (up2 (likeG gx g) 0 c i) (Int.toNat n)
            have f57_8 := minsG_42 (up2 (likeG gx g) 0 c i) (Int.toNat n)
            have el : minsG (up2 (likeG gx g) 0 c i) (Int.toNat n) 1 c = minsG (up2 g 0 c i) (Int.toNat n) 1 c := later (agr_up (agr_like gx g) 0 c (by decide) rfl) (oku5) (by omega) (by show g 4 0 + n ≤ 1000000; omega) (by decide) ⟨by omega, by show c < g 4 2; omega⟩
            refine z_st (st2 := [.int (iI (minsG (up2 g 0 c i) (Int.toNat n) 1 c))]) (by rw [el]) ?_
            refine z_istore (pc := 60) (lv2 := [(6, .int (iI (minsG (up2 g 0 c i) (Int.toNat n) 1 c))), (0, .ref x), (1, .int (iI c)), (2, .int (iI n)), (3, .int (iI mx)), (4, .int (iI b)), (5, .int (iI i))]) dX3_kind_60 (by decide) rfl ?_
            have bv := okH (minsG_ok (ok.upK c (v := i) (by omega)) (Int.toNat n) (by show g 4 0 + _ ≤ _; omega)) c
            refine z_iload (pc := 62) dX3_kind_62 0 rfl ?_
            refine z_iload_n (pc := 64) dX3_kind_64 4 rfl ?_
            refine z_icmp_le (pc := 65) (tgt := 75) dX3_kind_65 (by decide) (by omega) (by omega) (fun h65 => ?_) (fun h65 => ?_)
            · skip
              refine z_iinc (pc := 75) (lv2 := [(5, .int (iI (i + 1))), (6, .int (iI (minsG (up2 g 0 c i) (Int.toNat n) 1 c))), (0, .ref x), (1, .int (iI c)), (2, .int (iI n)), (3, .int (iI mx)), (4, .int (iI b))]) dX3_kind_75 6 rfl (by decide) rfl ?_
              refine z_goto (pc := 78) (tgt := 32) dX3_kind_78 (by decide) ?_
              refine z_lv (lv2 := [(0, .ref x), (1, .int (iI c)), (2, .int (iI n)), (3, .int (iI mx)), (4, .int (iI b)), (5, .int (iI (i + 1)))]) [2, 3, 4, 5, 6, 0] rfl ?_
              exact ih32 (i + 1) b mx (minsG (up2 (likeG gx g) 0 c i) (Int.toNat n)) (by omega) (by omega) (by omega) (ok57_6) (amx_f hi0 hb (fun q => by have q2 : mx < minsG (up2 g 0 c i) (Int.toNat n) 1 c := q.2; omega)) (by omega)
            · skip
              refine z_iload (pc := 68) dX3_kind_68 0 rfl ?_
              refine z_istore_n (pc := 70) (lv2 := [(3, .int (iI (minsG (up2 g 0 c i) (Int.toNat n) 1 c))), (6, .int (iI (minsG (up2 g 0 c i) (Int.toNat n) 1 c))), (0, .ref x), (1, .int (iI c)), (2, .int (iI n)), (4, .int (iI b)), (5, .int (iI i))]) dX3_kind_70 rfl (by decide) rfl ?_
              refine z_iload (pc := 71) dX3_kind_71 6 rfl ?_
              refine z_istore (pc := 73) (lv2 := [(4, .int (iI i)), (3, .int (iI (minsG (up2 g 0 c i) (Int.toNat n) 1 c))), (6, .int (iI (minsG (up2 g 0 c i) (Int.toNat n) 1 c))), (0, .ref x), (1, .int (iI c)), (2, .int (iI n)), (5, .int (iI i))]) dX3_kind_73 (by decide) rfl ?_
              refine z_iinc (pc := 75) (lv2 := [(5, .int (iI (i + 1))), (4, .int (iI i)), (3, .int (iI (minsG (up2 g 0 c i) (Int.toNat n) 1 c))), (6, .int (iI (minsG (up2 g 0 c i) (Int.toNat n) 1 c))), (0, .ref x), (1, .int (iI c)), (2, .int (iI n))]) dX3_kind_75 6 rfl (by decide) rfl ?_
              refine z_goto (pc := 78) (tgt := 32) dX3_kind_78 (by decide) ?_
              refine z_lv (lv2 := [(0, .ref x), (1, .int (iI c)), (2, .int (iI n)), (3, .int (iI (minsG (up2 g 0 c i) (Int.toNat n) 1 c))), (4, .int (iI i)), (5, .int (iI (i + 1)))]) [4, 5, 6, 2, 1, 0] rfl ?_
              exact ih32 (i + 1) i (minsG (up2 g 0 c i) (Int.toNat n) 1 c) (minsG (up2 (likeG gx g) 0 c i) (Int.toNat n)) (by omega) (by omega) (by omega) (ok57_6) (amx_t hi0 hb (by rfl) (by show mx < minsG (up2 g 0 c i) (Int.toNat n) 1 c; omega)) (by omega)
      refine z_lv (lv2 := [(0, .ref x), (1, .int (iI c)), (2, .int (iI n)), (3, .int (iI (-1))), (4, .int (iI 0)), (5, .int (iI 0))]) [3, 4, 5, 2, 1, 0] rfl ?_
      exact LP32 _ 0 0 (-1) gt (by omega) (by omega) (by omega) (okt) (by rfl) (Nat.lt_succ_self _)
    · skip
      refine z_aload_n (pc := 18) dX3_kind_18 0 rfl ?_
      refine z_iconst (pc := 19) dX3_kind_19 ?_
      refine z_callV (pc := 20) (st := []) (st2 := [.int (iI (-1000000001 - 0))]) (ws2 := [(x, .inr (3, [.ref h, .ref t, .ref k0, .int ik, .ref tp, .ref sh, .ref fi])), (h, oG g hK hH hM hO), (hK, .inl (cI, 8, .inl (aG g 0))), (hH, .inl (cI, 8, .inl (aG g 1))), (hM, .inl (cI, 8, .inl (aG g 2))), (hO, .inl (cI, 8, .inl (aG g 3))), (t, oG gt tK tH tM tO), (tK, .inl (cI, 8, .inl (aG gt 0))), (tH, .inl (cI, 8, .inl (aG gt 1))), (tM, .inl (cI, 8, .inl (aG gt 2))), (tO, .inl (cI, 8, .inl (aG gt 3))), (fi, .inl (cI, 7, .inl (ar (fnd fd 0))))]) (q0 := 0) (c_X3_found l D cI cJ cB cS xa x h t k0 tp sh fi ik fd 0 (by omega)) mV_X3_found kM_X3_48 dX3_kind_20 rfl rfl [0, 11] rfl rfl rfl rfl rfl rfl rfl rfl ⟨Nat.le_of_ble_eq_true rfl, Nat.le_of_ble_eq_true rfl, Nat.le_of_ble_eq_true rfl⟩ ?_
      have e9 : opKind g fd c n = ((iI (-1000000001 - 0)), fnd fd 0) := by
        unfold opKind; try unfold bI
        (repeat' split) <;> first | (exfalso; omega) | contradiction | rfl
      exact z_iretE (pc := 23) dX3_kind_23 gt okt (by rw [e9]) (by rw [e9])
set_option maxHeartbeats 8000000 in
set_option maxRecDepth 100000 in
theorem c_X3_whom (l : Launch) (D : va_G) (cI cJ cB cS : ClassId) (xa : XA) (x h hK hH hM hO t tK tH tM tO k0 tp sh fi : Nat) (ik : Int32) (g : Gd) (fd : FF) (gt : Gd) (v n : Int) (ok : Ok g) (rv : inr v) (rn : inr n) (okt : Ok gt) (hm : g 4 0 ≤ 99999) : CtE (S := Gd) l D cI cJ cB cS xa yX3_whom cX3_whom 7 (some .int) 6 134 [.ref x, .int (iI v), .int (iI n)] [(x, .inr (3, [.ref h, .ref t, .ref k0, .int ik, .ref tp, .ref sh, .ref fi])), (h, oG g hK hH hM hO), (hK, .inl (cI, 8, .inl (aG g 0))), (hH, .inl (cI, 8, .inl (aG g 1))), (hM, .inl (cI, 8, .inl (aG g 2))), (hO, .inl (cI, 8, .inl (aG g 3))), (t, oG gt tK tH tM tO), (tK, .inl (cI, 8, .inl (aG gt 0))), (tH, .inl (cI, 8, .inl (aG gt 1))), (tM, .inl (cI, 8, .inl (aG gt 2))), (tO, .inl (cI, 8, .inl (aG gt 3))), (fi, .inl (cI, 7, .inl (ar fd)))] (fun gt2 : Gd => Ok gt2) (fun gt2 : Gd => (some (.int ((opWhom g fd v n).1)))) (fun gt2 : Gd => [(x, .inr (3, [.ref h, .ref t, .ref k0, .int ik, .ref tp, .ref sh, .ref fi])), (h, oG g hK hH hM hO), (hK, .inl (cI, 8, .inl (aG g 0))), (hH, .inl (cI, 8, .inl (aG g 1))), (hM, .inl (cI, 8, .inl (aG g 2))), (hO, .inl (cI, 8, .inl (aG g 3))), (t, oG gt2 tK tH tM tO), (tK, .inl (cI, 8, .inl (aG gt2 0))), (tH, .inl (cI, 8, .inl (aG gt2 1))), (tM, .inl (cI, 8, .inl (aG gt2 2))), (tO, .inl (cI, 8, .inl (aG gt2 3))), (fi, .inl (cI, 7, .inl (ar ((opWhom g fd v n).2))))]) := by
  have o0 := ok0 ok
  have o1 := ok1 ok
  have o2 := ok2 ok
  refine CtE.of (own := RX3) (lv := [(0, .ref x), (1, .int (iI v)), (2, .int (iI n))]) (by decide) rfl rfl (Nat.le_of_ble_eq_true rfl) ?_
  intro xp xe xs xm xb xt xc
  refine z_iload_n (pc := 0) dX3_whom_0 1 rfl ?_
  refine z_iconst (pc := 1) dX3_whom_1 ?_
  refine z_bipush (pc := 2) dX3_whom_2 (by decide) ?_
  refine z_callS (pc := 4) (st := []) (st2 := [.int (bI (1 ≤ v ∧ v ≤ 99))]) (ws2 := [(x, .inr (3, [.ref h, .ref t, .ref k0, .int ik, .ref tp, .ref sh, .ref fi])), (h, oG g hK hH hM hO), (hK, .inl (cI, 8, .inl (aG g 0))), (hH, .inl (cI, 8, .inl (aG g 1))), (hM, .inl (cI, 8, .inl (aG g 2))), (hO, .inl (cI, 8, .inl (aG g 3))), (t, oG gt tK tH tM tO), (tK, .inl (cI, 8, .inl (aG gt 0))), (tH, .inl (cI, 8, .inl (aG gt 1))), (tM, .inl (cI, 8, .inl (aG gt 2))), (tO, .inl (cI, 8, .inl (aG gt 3))), (fi, .inl (cI, 7, .inl (ar fd)))]) (c_X3_within l D cI cJ cB cS xa v 1 99 (by omega) (by omega) (by omega)) mS_X3_within kM_X3_44 dX3_whom_4 [] rfl rfl rfl rfl rfl rfl rfl rfl ⟨Nat.le_of_ble_eq_true rfl, Nat.le_of_ble_eq_true rfl, Nat.le_of_ble_eq_true rfl⟩ ?_
  refine z_ifb_eq (pc := 7) (tgt := 20) dX3_whom_7 (by decide) (fun h7 => ?_) (fun h7 => ?_)
  · skip
    refine z_aload_n (pc := 20) dX3_whom_20 0 rfl ?_
    refine z_iconst (pc := 21) dX3_whom_21 ?_
    refine z_callV (pc := 22) (st := []) (st2 := [.int (iI (-1000000001 - 0))]) (ws2 := [(x, .inr (3, [.ref h, .ref t, .ref k0, .int ik, .ref tp, .ref sh, .ref fi])), (h, oG g hK hH hM hO), (hK, .inl (cI, 8, .inl (aG g 0))), (hH, .inl (cI, 8, .inl (aG g 1))), (hM, .inl (cI, 8, .inl (aG g 2))), (hO, .inl (cI, 8, .inl (aG g 3))), (t, oG gt tK tH tM tO), (tK, .inl (cI, 8, .inl (aG gt 0))), (tH, .inl (cI, 8, .inl (aG gt 1))), (tM, .inl (cI, 8, .inl (aG gt 2))), (tO, .inl (cI, 8, .inl (aG gt 3))), (fi, .inl (cI, 7, .inl (ar (fnd fd 0))))]) (q0 := 0) (c_X3_found l D cI cJ cB cS xa x h t k0 tp sh fi ik fd 0 (by omega)) mV_X3_found kM_X3_48 dX3_whom_22 rfl rfl [0, 11] rfl rfl rfl rfl rfl rfl rfl rfl ⟨Nat.le_of_ble_eq_true rfl, Nat.le_of_ble_eq_true rfl, Nat.le_of_ble_eq_true rfl⟩ ?_
    have e9 : opWhom g fd v n = ((iI (-1000000001 - 0)), fnd fd 0) := by
      unfold opWhom; try unfold bI
      (repeat' split) <;> first | (exfalso; omega) | contradiction | rfl
    exact z_iretE (pc := 25) dX3_whom_25 gt okt (by rw [e9]) (by rw [e9])
  · skip
    refine z_iload_n (pc := 10) dX3_whom_10 2 rfl ?_
    refine z_iconst (pc := 11) dX3_whom_11 ?_
    refine z_bipush (pc := 12) dX3_whom_12 (by decide) ?_
    refine z_callS (pc := 14) (st := []) (st2 := [.int (bI (0 ≤ n ∧ n ≤ 100))]) (ws2 := [(x, .inr (3, [.ref h, .ref t, .ref k0, .int ik, .ref tp, .ref sh, .ref fi])), (h, oG g hK hH hM hO), (hK, .inl (cI, 8, .inl (aG g 0))), (hH, .inl (cI, 8, .inl (aG g 1))), (hM, .inl (cI, 8, .inl (aG g 2))), (hO, .inl (cI, 8, .inl (aG g 3))), (t, oG gt tK tH tM tO), (tK, .inl (cI, 8, .inl (aG gt 0))), (tH, .inl (cI, 8, .inl (aG gt 1))), (tM, .inl (cI, 8, .inl (aG gt 2))), (tO, .inl (cI, 8, .inl (aG gt 3))), (fi, .inl (cI, 7, .inl (ar fd)))]) (c_X3_within l D cI cJ cB cS xa n 0 100 (by omega) (by omega) (by omega)) mS_X3_within kM_X3_44 dX3_whom_14 [] rfl rfl rfl rfl rfl rfl rfl rfl ⟨Nat.le_of_ble_eq_true rfl, Nat.le_of_ble_eq_true rfl, Nat.le_of_ble_eq_true rfl⟩ ?_
    refine z_ifb_ne (pc := 17) (tgt := 26) dX3_whom_17 (by decide) (fun h17 => ?_) (fun h17 => ?_)
    · skip
      refine z_iconst (pc := 26) dX3_whom_26 ?_
      refine z_istore_n (pc := 27) (lv2 := [(3, .int (iI (-1))), (0, .ref x), (1, .int (iI v)), (2, .int (iI n))]) dX3_whom_27 rfl (by decide) rfl ?_
      refine z_iconst (pc := 28) dX3_whom_28 ?_
      refine z_istore (pc := 29) (lv2 := [(4, .int (iI (-1))), (3, .int (iI (-1))), (0, .ref x), (1, .int (iI v)), (2, .int (iI n))]) dX3_whom_29 (by decide) rfl ?_
      refine z_iconst (pc := 31) dX3_whom_31 ?_
      refine z_istore (pc := 32) (lv2 := [(5, .int (iI 0)), (4, .int (iI (-1))), (3, .int (iI (-1))), (0, .ref x), (1, .int (iI v)), (2, .int (iI n))]) dX3_whom_32 (by decide) rfl ?_
      have LP34 : ∀ (nn_ : Nat) (i : Int) (b : Int) (mx : Int) (gx : Gd), (0 ≤ i) → (i ≤ g 4 2) → (-1 ≤ b ∧ b < 10 ∧ -1 ≤ mx ∧ mx ≤ 200) → (Ok gx) → ((b, mx) = amx (whV g v n) (fun _ => false) (-1) (-1) i.toNat) → (g 4 2 - i).toNat < nn_ → Z xp l xe { frames := 6, cells := 0, slots := 0, locals := 134 } xs xm ([.ref x, .int (iI v), .int (iI n)] : List Value).toArray xb xt xc 0 0 (MQ xb (Cq (S := Gd) D [(x, .inr (3, [.ref h, .ref t, .ref k0, .int ik, .ref tp, .ref sh, .ref fi])), (h, oG g hK hH hM hO), (hK, .inl (cI, 8, .inl (aG g 0))), (hH, .inl (cI, 8, .inl (aG g 1))), (hM, .inl (cI, 8, .inl (aG g 2))), (hO, .inl (cI, 8, .inl (aG g 3))), (t, oG gt tK tH tM tO), (tK, .inl (cI, 8, .inl (aG gt 0))), (tH, .inl (cI, 8, .inl (aG gt 1))), (tM, .inl (cI, 8, .inl (aG gt 2))), (tO, .inl (cI, 8, .inl (aG gt 3))), (fi, .inl (cI, 7, .inl (ar fd)))] (fun gt2 : Gd => Ok gt2) (fun gt2 : Gd => (some (.int ((opWhom g fd v n).1)))) (fun gt2 : Gd => [(x, .inr (3, [.ref h, .ref t, .ref k0, .int ik, .ref tp, .ref sh, .ref fi])), (h, oG g hK hH hM hO), (hK, .inl (cI, 8, .inl (aG g 0))), (hH, .inl (cI, 8, .inl (aG g 1))), (hM, .inl (cI, 8, .inl (aG g 2))), (hO, .inl (cI, 8, .inl (aG g 3))), (t, oG gt2 tK tH tM tO), (tK, .inl (cI, 8, .inl (aG gt2 0))), (tH, .inl (cI, 8, .inl (aG gt2 1))), (tM, .inl (cI, 8, .inl (aG gt2 2))), (tO, .inl (cI, 8, .inl (aG gt2 3))), (fi, .inl (cI, 7, .inl (ar ((opWhom g fd v n).2))))])) ([.ref x, .int (iI v), .int (iI n)] : List Value).toArray xs 0 0 (va_A0 [(x, .inr (3, [.ref h, .ref t, .ref k0, .int ik, .ref tp, .ref sh, .ref fi])), (h, oG g hK hH hM hO), (hK, .inl (cI, 8, .inl (aG g 0))), (hH, .inl (cI, 8, .inl (aG g 1))), (hM, .inl (cI, 8, .inl (aG g 2))), (hO, .inl (cI, 8, .inl (aG g 3))), (t, oG gt tK tH tM tO), (tK, .inl (cI, 8, .inl (aG gt 0))), (tH, .inl (cI, 8, .inl (aG gt 1))), (tM, .inl (cI, 8, .inl (aG gt 2))), (tO, .inl (cI, 8, .inl (aG gt 3))), (fi, .inl (cI, 7, .inl (ar fd)))])) cX3_whom RX3 7 (some .int) D cI cJ cB cS xa (va_A0 [(x, .inr (3, [.ref h, .ref t, .ref k0, .int ik, .ref tp, .ref sh, .ref fi])), (h, oG g hK hH hM hO), (hK, .inl (cI, 8, .inl (aG g 0))), (hH, .inl (cI, 8, .inl (aG g 1))), (hM, .inl (cI, 8, .inl (aG g 2))), (hO, .inl (cI, 8, .inl (aG g 3))), (t, oG gt tK tH tM tO), (tK, .inl (cI, 8, .inl (aG gt 0))), (tH, .inl (cI, 8, .inl (aG gt 1))), (tM, .inl (cI, 8, .inl (aG gt 2))), (tO, .inl (cI, 8, .inl (aG gt 3))), (fi, .inl (cI, 7, .inl (ar fd)))]) [(x, .inr (3, [.ref h, .ref t, .ref k0, .int ik, .ref tp, .ref sh, .ref fi])), (h, oG g hK hH hM hO), (hK, .inl (cI, 8, .inl (aG g 0))), (hH, .inl (cI, 8, .inl (aG g 1))), (hM, .inl (cI, 8, .inl (aG g 2))), (hO, .inl (cI, 8, .inl (aG g 3))), (t, oG gx tK tH tM tO), (tK, .inl (cI, 8, .inl (aG gx 0))), (tH, .inl (cI, 8, .inl (aG gx 1))), (tM, .inl (cI, 8, .inl (aG gx 2))), (tO, .inl (cI, 8, .inl (aG gx 3))), (fi, .inl (cI, 7, .inl (ar fd)))] [(0, .ref x), (1, .int (iI v)), (2, .int (iI n)), (3, .int (iI mx)), (4, .int (iI b)), (5, .int (iI i))] 34 [] := by
        intro nn_
        induction nn_ with
        | zero => intro i b mx gx hi0 hi1 hr hx hb hms; exact absurd hms (Nat.not_lt_zero _)
        | succ nn_ ih =>
          intro i b mx gx hi0 hi1 hr hx hb hms
          have ih34 := ih
          clear ih
          refine z_iload (pc := 34) dX3_whom_34 5 rfl ?_
          refine z_aload_n (pc := 36) dX3_whom_36 0 rfl ?_
          refine z_get (pc := 37) (q0 := 0) (v := .ref h) fL_X3_10 dX3_whom_37 rfl rfl ?_
          refine z_get (pc := 40) (q0 := 1) (v := .int (iI (g 4 2))) fL_X3_159 dX3_whom_40 rfl rfl ?_
          refine z_icmp_ge (pc := 43) (tgt := 88) dX3_whom_43 (by decide) (by omega) (by omega) (fun h43 => ?_) (fun h43 => ?_)
          · skip
            obtain rfl : i = g 4 2 := by omega
            refine z_iload (pc := 88) dX3_whom_88 4 rfl ?_
            refine z_if_ge (pc := 90) (tgt := 101) dX3_whom_90 (by decide) (by omega) (fun h90 => ?_) (fun h90 => ?_)
            · skip
              refine z_iload (pc := 101) dX3_whom_101 4 rfl ?_
              have e9 : opWhom g fd v n = ((iI b), fd) := by
                unfold opWhom noneI
                rw [if_pos ⟨⟨by omega, by omega⟩, by omega, by omega⟩, ← hb, if_neg (by omega)]
              exact z_iretE (pc := 103) dX3_whom_103 gx hx (by rw [e9]) (by rw [e9])
            · skip
              refine z_aload_n (pc := 93) dX3_whom_93 0 rfl ?_
              refine z_iconst (pc := 94) dX3_whom_94 ?_
              refine z_callV (pc := 95) (st := []) (st2 := [.int (iI (-1000000001 - 3))]) (ws2 := [(x, .inr (3, [.ref h, .ref t, .ref k0, .int ik, .ref tp, .ref sh, .ref fi])), (h, oG g hK hH hM hO), (hK, .inl (cI, 8, .inl (aG g 0))), (hH, .inl (cI, 8, .inl (aG g 1))), (hM, .inl (cI, 8, .inl (aG g 2))), (hO, .inl (cI, 8, .inl (aG g 3))), (t, oG gx tK tH tM tO), (tK, .inl (cI, 8, .inl (aG gx 0))), (tH, .inl (cI, 8, .inl (aG gx 1))), (tM, .inl (cI, 8, .inl (aG gx 2))), (tO, .inl (cI, 8, .inl (aG gx 3))), (fi, .inl (cI, 7, .inl (ar (fnd fd 3))))]) (q0 := 0) (c_X3_found l D cI cJ cB cS xa x h t k0 tp sh fi ik fd 3 (by omega)) mV_X3_found kM_X3_48 dX3_whom_95 rfl rfl [0, 11] rfl rfl rfl rfl rfl rfl rfl rfl ⟨Nat.le_of_ble_eq_true rfl, Nat.le_of_ble_eq_true rfl, Nat.le_of_ble_eq_true rfl⟩ ?_
              refine z_goto (pc := 98) (tgt := 103) dX3_whom_98 (by decide) ?_
              have e9 : opWhom g fd v n = ((iI (-1000000001 - 3)), fnd fd 3) := by
                unfold opWhom noneI
                rw [if_pos ⟨⟨by omega, by omega⟩, by omega, by omega⟩, ← hb, if_pos (by omega)]
                rfl
              exact z_iretE (pc := 103) dX3_whom_103 gx hx (by rw [e9]) (by rw [e9])
          · skip
            refine z_aload_n (pc := 46) dX3_whom_46 0 rfl ?_
            refine z_callV (pc := 47) (st := []) (st2 := []) (ws2 := [(x, .inr (3, [.ref h, .ref t, .ref k0, .int ik, .ref tp, .ref sh, .ref fi])), (h, oG g hK hH hM hO), (hK, .inl (cI, 8, .inl (aG g 0))), (hH, .inl (cI, 8, .inl (aG g 1))), (hM, .inl (cI, 8, .inl (aG g 2))), (hO, .inl (cI, 8, .inl (aG g 3))), (t, oG (likeG gx g) tK tH tM tO), (tK, .inl (cI, 8, .inl (aG (likeG gx g) 0))), (tH, .inl (cI, 8, .inl (aG (likeG gx g) 1))), (tM, .inl (cI, 8, .inl (aG (likeG gx g) 2))), (tO, .inl (cI, 8, .inl (aG (likeG gx g) 3))), (fi, .inl (cI, 7, .inl (ar fd)))]) (q0 := 0) (c_X3_tryAsItIs l D cI cJ cB cS xa x h hK hH hM hO t tK tH tM tO k0 tp sh fi ik g gx ok hx) mV_X3_tryAsItIs kM_X3_145 dX3_whom_47 rfl rfl [0, 1, 2, 3, 4, 5, 6, 7, 8, 9, 10] rfl rfl rfl rfl rfl rfl rfl rfl ⟨Nat.le_of_ble_eq_true rfl, Nat.le_of_ble_eq_true rfl, Nat.le_of_ble_eq_true rfl⟩ ?_
            have ok47_1 : Ok (likeG gx g) := likeG_ok hx ok
            have f47_2 := (show likeG gx g 4 0 = g 4 0 from rfl)
            have f47_3 := (show likeG gx g 4 1 = g 4 1 from rfl)
            have f47_4 := (show likeG gx g 4 2 = g 4 2 from rfl)
            refine z_aload_n (pc := 50) dX3_whom_50 0 rfl ?_
            refine z_get (pc := 51) (q0 := 0) (v := .ref t) fL_X3_16 dX3_whom_51 rfl rfl ?_
            refine z_iload (pc := 54) dX3_whom_54 5 rfl ?_
            refine z_iload_n (pc := 56) dX3_whom_56 1 rfl ?_
            refine z_callV (pc := 57) (st := []) (st2 := []) (ws2 := [(x, .inr (3, [.ref h, .ref t, .ref k0, .int ik, .ref tp, .ref sh, .ref fi])), (h, oG g hK hH hM hO), (hK, .inl (cI, 8, .inl (aG g 0))), (hH, .inl (cI, 8, .inl (aG g 1))), (hM, .inl (cI, 8, .inl (aG g 2))), (hO, .inl (cI, 8, .inl (aG g 3))), (t, oG (pushG (likeG gx g) i v) tK tH tM tO), (tK, .inl (cI, 8, .inl (aG (pushG (likeG gx g) i v) 0))), (tH, .inl (cI, 8, .inl (aG (pushG (likeG gx g) i v) 1))), (tM, .inl (cI, 8, .inl (aG (pushG (likeG gx g) i v) 2))), (tO, .inl (cI, 8, .inl (aG (pushG (likeG gx g) i v) 3))), (fi, .inl (cI, 7, .inl (ar fd)))]) (q0 := 6) (c_X0_shove l D cI cJ cB cS xa t tK tH tM tO (likeG gx g) i v ok47_1 (by omega) (by omega) (by omega)) mV_X0_shove kM_X3_130 dX3_whom_57 rfl rfl [6, 7, 8, 9, 10] rfl rfl rfl rfl rfl rfl rfl rfl ⟨Nat.le_of_ble_eq_true rfl, Nat.le_of_ble_eq_true rfl, Nat.le_of_ble_eq_true rfl⟩ ?_
            have ok57_5 : Ok (pushG (likeG gx g) i v) := pushG_ok ok47_1 i (by omega)
            have f57_6 := (show pushG (likeG gx g) i v 4 0 = (likeG gx g) 4 0 from rfl)
            have f57_7 := (show pushG (likeG gx g) i v 4 2 = (likeG gx g) 4 2 from rfl)
            refine z_aload_n (pc := 60) dX3_whom_60 0 rfl ?_
            refine z_iload (pc := 61) dX3_whom_61 5 rfl ?_
            refine z_iload_n (pc := 63) dX3_whom_63 2 rfl ?_
            refine z_callV (pc := 64) (st := []) (st2 := [.int (iI (minsG (pushG (likeG gx g) i v) (Int.toNat n) 1 i))]) (ws2 := [(x, .inr (3, [.ref h, .ref t, .ref k0, .int ik, .ref tp, .ref sh, .ref fi])), (h, oG g hK hH hM hO), (hK, .inl (cI, 8, .inl (aG g 0))), (hH, .inl (cI, 8, .inl (aG g 1))), (hM, .inl (cI, 8, .inl (aG g 2))), (hO, .inl (cI, 8, .inl (aG g 3))), (t, oG (minsG (pushG (likeG gx g) i v) (Int.toNat n)) tK tH tM tO), (tK, .inl (cI, 8, .inl (aG (minsG (pushG (likeG gx g) i v) (Int.toNat n)) 0))), (tH, .inl (cI, 8, .inl (aG (minsG (pushG (likeG gx g) i v) (Int.toNat n)) 1))), (tM, .inl (cI, 8, .inl (aG (minsG (pushG (likeG gx g) i v) (Int.toNat n)) 2))), (tO, .inl (cI, 8, .inl (aG (minsG (pushG (likeG gx g) i v) (Int.toNat n)) 3))), (fi, .inl (cI, 7, .inl (ar fd)))]) (q0 := 0) (c_X3_heightLater l D cI cJ cB cS xa x h t tK tH tM tO k0 tp sh fi ik (pushG (likeG gx g) i v) i n ok57_5 (by omega) (by omega) (by omega)) mV_X3_heightLater kM_X3_155 dX3_whom_64 rfl rfl [0, 6, 7, 8, 9, 10] rfl rfl rfl rfl rfl rfl rfl rfl ⟨Nat.le_of_ble_eq_true rfl, Nat.le_of_ble_eq_true rfl, Nat.le_of_ble_eq_true rfl⟩ ?_
            have ok64_8 : Ok (minsG (pushG (likeG gx g) i v) (Int.toNat n)) := minsG_ok ok57_5 _ (by omega)
            have f64_9 := minsG_40 (pushG (likeG gx g) i v) (Int.toNat n)
            have f64_10 := minsG_42 (pushG (likeG gx g) i v) (Int.toNat n)
            have el : minsG (pushG (likeG gx g) i v) (Int.toNat n) 1 i = minsG (pushG g i v) (Int.toNat n) 1 i := later (agr_push (agr_like gx g) ⟨by omega, by show i < g 4 2; omega⟩) (ok57_5) (by omega) (by show g 4 0 + n ≤ 1000000; omega) (by decide) ⟨by omega, by show i < g 4 2; omega⟩
            refine z_st (st2 := [.int (iI (minsG (pushG g i v) (Int.toNat n) 1 i))]) (by rw [el]) ?_
            refine z_istore (pc := 67) (lv2 := [(6, .int (iI (minsG (pushG g i v) (Int.toNat n) 1 i))), (0, .ref x), (1, .int (iI v)), (2, .int (iI n)), (3, .int (iI mx)), (4, .int (iI b)), (5, .int (iI i))]) dX3_whom_67 (by decide) rfl ?_
            have bv := okH (minsG_ok (pushG_ok ok i (v := v) (by omega)) (Int.toNat n) (by show g 4 0 + _ ≤ _; omega)) i
            refine z_iload (pc := 69) dX3_whom_69 0 rfl ?_
            refine z_iload_n (pc := 71) dX3_whom_71 4 rfl ?_
            refine z_icmp_le (pc := 72) (tgt := 82) dX3_whom_72 (by decide) (by omega) (by omega) (fun h72 => ?_) (fun h72 => ?_)
            · skip
              refine z_iinc (pc := 82) (lv2 := [(5, .int (iI (i + 1))), (6, .int (iI (minsG (pushG g i v) (Int.toNat n) 1 i))), (0, .ref x), (1, .int (iI v)), (2, .int (iI n)), (3, .int (iI mx)), (4, .int (iI b))]) dX3_whom_82 6 rfl (by decide) rfl ?_
              refine z_goto (pc := 85) (tgt := 34) dX3_whom_85 (by decide) ?_
              refine z_lv (lv2 := [(0, .ref x), (1, .int (iI v)), (2, .int (iI n)), (3, .int (iI mx)), (4, .int (iI b)), (5, .int (iI (i + 1)))]) [2, 3, 4, 5, 6, 0] rfl ?_
              exact ih34 (i + 1) b mx (minsG (pushG (likeG gx g) i v) (Int.toNat n)) (by omega) (by omega) (by omega) (ok64_8) (amx_f hi0 hb (fun q => by have q2 : mx < minsG (pushG g i v) (Int.toNat n) 1 i := q.2; omega)) (by omega)
            · skip
              refine z_iload (pc := 75) dX3_whom_75 0 rfl ?_
              refine z_istore_n (pc := 77) (lv2 := [(3, .int (iI (minsG (pushG g i v) (Int.toNat n) 1 i))), (6, .int (iI (minsG (pushG g i v) (Int.toNat n) 1 i))), (0, .ref x), (1, .int (iI v)), (2, .int (iI n)), (4, .int (iI b)), (5, .int (iI i))]) dX3_whom_77 rfl (by decide) rfl ?_
              refine z_iload (pc := 78) dX3_whom_78 6 rfl ?_
              refine z_istore (pc := 80) (lv2 := [(4, .int (iI i)), (3, .int (iI (minsG (pushG g i v) (Int.toNat n) 1 i))), (6, .int (iI (minsG (pushG g i v) (Int.toNat n) 1 i))), (0, .ref x), (1, .int (iI v)), (2, .int (iI n)), (5, .int (iI i))]) dX3_whom_80 (by decide) rfl ?_
              refine z_iinc (pc := 82) (lv2 := [(5, .int (iI (i + 1))), (4, .int (iI i)), (3, .int (iI (minsG (pushG g i v) (Int.toNat n) 1 i))), (6, .int (iI (minsG (pushG g i v) (Int.toNat n) 1 i))), (0, .ref x), (1, .int (iI v)), (2, .int (iI n))]) dX3_whom_82 6 rfl (by decide) rfl ?_
              refine z_goto (pc := 85) (tgt := 34) dX3_whom_85 (by decide) ?_
              refine z_lv (lv2 := [(0, .ref x), (1, .int (iI v)), (2, .int (iI n)), (3, .int (iI (minsG (pushG g i v) (Int.toNat n) 1 i))), (4, .int (iI i)), (5, .int (iI (i + 1)))]) [4, 5, 6, 2, 1, 0] rfl ?_
              exact ih34 (i + 1) i (minsG (pushG g i v) (Int.toNat n) 1 i) (minsG (pushG (likeG gx g) i v) (Int.toNat n)) (by omega) (by omega) (by omega) (ok64_8) (amx_t hi0 hb (by rfl) (by show mx < minsG (pushG g i v) (Int.toNat n) 1 i; omega)) (by omega)
      refine z_lv (lv2 := [(0, .ref x), (1, .int (iI v)), (2, .int (iI n)), (3, .int (iI (-1))), (4, .int (iI (-1))), (5, .int (iI 0))]) [3, 4, 5, 2, 1, 0] rfl ?_
      exact LP34 _ 0 (-1) (-1) gt (by omega) (by omega) (by omega) (okt) (by rfl) (Nat.lt_succ_self _)
    · skip
      refine z_aload_n (pc := 20) dX3_whom_20 0 rfl ?_
      refine z_iconst (pc := 21) dX3_whom_21 ?_
      refine z_callV (pc := 22) (st := []) (st2 := [.int (iI (-1000000001 - 0))]) (ws2 := [(x, .inr (3, [.ref h, .ref t, .ref k0, .int ik, .ref tp, .ref sh, .ref fi])), (h, oG g hK hH hM hO), (hK, .inl (cI, 8, .inl (aG g 0))), (hH, .inl (cI, 8, .inl (aG g 1))), (hM, .inl (cI, 8, .inl (aG g 2))), (hO, .inl (cI, 8, .inl (aG g 3))), (t, oG gt tK tH tM tO), (tK, .inl (cI, 8, .inl (aG gt 0))), (tH, .inl (cI, 8, .inl (aG gt 1))), (tM, .inl (cI, 8, .inl (aG gt 2))), (tO, .inl (cI, 8, .inl (aG gt 3))), (fi, .inl (cI, 7, .inl (ar (fnd fd 0))))]) (q0 := 0) (c_X3_found l D cI cJ cB cS xa x h t k0 tp sh fi ik fd 0 (by omega)) mV_X3_found kM_X3_48 dX3_whom_22 rfl rfl [0, 11] rfl rfl rfl rfl rfl rfl rfl rfl ⟨Nat.le_of_ble_eq_true rfl, Nat.le_of_ble_eq_true rfl, Nat.le_of_ble_eq_true rfl⟩ ?_
      have e9 : opWhom g fd v n = ((iI (-1000000001 - 0)), fnd fd 0) := by
        unfold opWhom; try unfold bI
        (repeat' split) <;> first | (exfalso; omega) | contradiction | rfl
      exact z_iretE (pc := 25) dX3_whom_25 gt okt (by rw [e9]) (by rw [e9])
set_option maxHeartbeats 8000000 in
set_option maxRecDepth 100000 in
theorem c_X3_night (l : Launch) (D : va_G) (cI cJ cB cS : ClassId) (xa : XA) (x h hK hH hM hO t tK tH tM tO k0 tp sh fi : Nat) (ik : Int32) (g : Gd) (fd : FF) (gt : Gd) (n : Int) (ok : Ok g) (rn : inr n) (okt : Ok gt) (hm : g 4 0 ≤ 99999) : CtE (S := Gd) l D cI cJ cB cS xa yX3_night cX3_night 6 (some .int) 5 112 [.ref x, .int (iI n)] [(x, .inr (3, [.ref h, .ref t, .ref k0, .int ik, .ref tp, .ref sh, .ref fi])), (h, oG g hK hH hM hO), (hK, .inl (cI, 8, .inl (aG g 0))), (hH, .inl (cI, 8, .inl (aG g 1))), (hM, .inl (cI, 8, .inl (aG g 2))), (hO, .inl (cI, 8, .inl (aG g 3))), (t, oG gt tK tH tM tO), (tK, .inl (cI, 8, .inl (aG gt 0))), (tH, .inl (cI, 8, .inl (aG gt 1))), (tM, .inl (cI, 8, .inl (aG gt 2))), (tO, .inl (cI, 8, .inl (aG gt 3))), (fi, .inl (cI, 7, .inl (ar fd)))] (fun gt2 : Gd => Ok gt2) (fun gt2 : Gd => (some (.int ((opNight g fd n).1)))) (fun gt2 : Gd => [(x, .inr (3, [.ref h, .ref t, .ref k0, .int ik, .ref tp, .ref sh, .ref fi])), (h, oG g hK hH hM hO), (hK, .inl (cI, 8, .inl (aG g 0))), (hH, .inl (cI, 8, .inl (aG g 1))), (hM, .inl (cI, 8, .inl (aG g 2))), (hO, .inl (cI, 8, .inl (aG g 3))), (t, oG gt2 tK tH tM tO), (tK, .inl (cI, 8, .inl (aG gt2 0))), (tH, .inl (cI, 8, .inl (aG gt2 1))), (tM, .inl (cI, 8, .inl (aG gt2 2))), (tO, .inl (cI, 8, .inl (aG gt2 3))), (fi, .inl (cI, 7, .inl (ar ((opNight g fd n).2))))]) := by
  have o0 := ok0 ok
  have o1 := ok1 ok
  have o2 := ok2 ok
  refine CtE.of (own := RX3) (lv := [(0, .ref x), (1, .int (iI n))]) (by decide) rfl rfl (Nat.le_of_ble_eq_true rfl) ?_
  intro xp xe xs xm xb xt xc
  refine z_iload_n (pc := 0) dX3_night_0 1 rfl ?_
  refine z_iconst (pc := 1) dX3_night_1 ?_
  refine z_bipush (pc := 2) dX3_night_2 (by decide) ?_
  refine z_callS (pc := 4) (st := []) (st2 := [.int (bI (1 ≤ n ∧ n ≤ 120))]) (ws2 := [(x, .inr (3, [.ref h, .ref t, .ref k0, .int ik, .ref tp, .ref sh, .ref fi])), (h, oG g hK hH hM hO), (hK, .inl (cI, 8, .inl (aG g 0))), (hH, .inl (cI, 8, .inl (aG g 1))), (hM, .inl (cI, 8, .inl (aG g 2))), (hO, .inl (cI, 8, .inl (aG g 3))), (t, oG gt tK tH tM tO), (tK, .inl (cI, 8, .inl (aG gt 0))), (tH, .inl (cI, 8, .inl (aG gt 1))), (tM, .inl (cI, 8, .inl (aG gt 2))), (tO, .inl (cI, 8, .inl (aG gt 3))), (fi, .inl (cI, 7, .inl (ar fd)))]) (c_X3_within l D cI cJ cB cS xa n 1 120 (by omega) (by omega) (by omega)) mS_X3_within kM_X3_44 dX3_night_4 [] rfl rfl rfl rfl rfl rfl rfl rfl ⟨Nat.le_of_ble_eq_true rfl, Nat.le_of_ble_eq_true rfl, Nat.le_of_ble_eq_true rfl⟩ ?_
  refine z_ifb_ne (pc := 7) (tgt := 16) dX3_night_7 (by decide) (fun h7 => ?_) (fun h7 => ?_)
  · skip
    refine z_sipush (pc := 16) dX3_night_16 (by decide) ?_
    refine z_istore_n (pc := 19) (lv2 := [(2, .int (iI 201)), (0, .ref x), (1, .int (iI n))]) dX3_night_19 rfl (by decide) rfl ?_
    refine z_iconst (pc := 20) dX3_night_20 ?_
    refine z_istore_n (pc := 21) (lv2 := [(3, .int (iI 0)), (2, .int (iI 201)), (0, .ref x), (1, .int (iI n))]) dX3_night_21 rfl (by decide) rfl ?_
    refine z_iconst (pc := 22) dX3_night_22 ?_
    refine z_istore (pc := 23) (lv2 := [(4, .int (iI 0)), (3, .int (iI 0)), (2, .int (iI 201)), (0, .ref x), (1, .int (iI n))]) dX3_night_23 (by decide) rfl ?_
    have LP25 : ∀ (nn_ : Nat) (i : Int) (b : Int) (mx : Int) (gx : Gd), (0 ≤ i) → (i ≤ 60) → (0 ≤ b ∧ b < 60 ∧ 0 ≤ mx ∧ mx ≤ 201) → (Ok gx) → ((b, mx) = amn (niV g n) 0 201 i.toNat) → (60 - i).toNat < nn_ → Z xp l xe { frames := 5, cells := 0, slots := 0, locals := 112 } xs xm ([.ref x, .int (iI n)] : List Value).toArray xb xt xc 0 0 (MQ xb (Cq (S := Gd) D [(x, .inr (3, [.ref h, .ref t, .ref k0, .int ik, .ref tp, .ref sh, .ref fi])), (h, oG g hK hH hM hO), (hK, .inl (cI, 8, .inl (aG g 0))), (hH, .inl (cI, 8, .inl (aG g 1))), (hM, .inl (cI, 8, .inl (aG g 2))), (hO, .inl (cI, 8, .inl (aG g 3))), (t, oG gt tK tH tM tO), (tK, .inl (cI, 8, .inl (aG gt 0))), (tH, .inl (cI, 8, .inl (aG gt 1))), (tM, .inl (cI, 8, .inl (aG gt 2))), (tO, .inl (cI, 8, .inl (aG gt 3))), (fi, .inl (cI, 7, .inl (ar fd)))] (fun gt2 : Gd => Ok gt2) (fun gt2 : Gd => (some (.int ((opNight g fd n).1)))) (fun gt2 : Gd => [(x, .inr (3, [.ref h, .ref t, .ref k0, .int ik, .ref tp, .ref sh, .ref fi])), (h, oG g hK hH hM hO), (hK, .inl (cI, 8, .inl (aG g 0))), (hH, .inl (cI, 8, .inl (aG g 1))), (hM, .inl (cI, 8, .inl (aG g 2))), (hO, .inl (cI, 8, .inl (aG g 3))), (t, oG gt2 tK tH tM tO), (tK, .inl (cI, 8, .inl (aG gt2 0))), (tH, .inl (cI, 8, .inl (aG gt2 1))), (tM, .inl (cI, 8, .inl (aG gt2 2))), (tO, .inl (cI, 8, .inl (aG gt2 3))), (fi, .inl (cI, 7, .inl (ar ((opNight g fd n).2))))])) ([.ref x, .int (iI n)] : List Value).toArray xs 0 0 (va_A0 [(x, .inr (3, [.ref h, .ref t, .ref k0, .int ik, .ref tp, .ref sh, .ref fi])), (h, oG g hK hH hM hO), (hK, .inl (cI, 8, .inl (aG g 0))), (hH, .inl (cI, 8, .inl (aG g 1))), (hM, .inl (cI, 8, .inl (aG g 2))), (hO, .inl (cI, 8, .inl (aG g 3))), (t, oG gt tK tH tM tO), (tK, .inl (cI, 8, .inl (aG gt 0))), (tH, .inl (cI, 8, .inl (aG gt 1))), (tM, .inl (cI, 8, .inl (aG gt 2))), (tO, .inl (cI, 8, .inl (aG gt 3))), (fi, .inl (cI, 7, .inl (ar fd)))])) cX3_night RX3 6 (some .int) D cI cJ cB cS xa (va_A0 [(x, .inr (3, [.ref h, .ref t, .ref k0, .int ik, .ref tp, .ref sh, .ref fi])), (h, oG g hK hH hM hO), (hK, .inl (cI, 8, .inl (aG g 0))), (hH, .inl (cI, 8, .inl (aG g 1))), (hM, .inl (cI, 8, .inl (aG g 2))), (hO, .inl (cI, 8, .inl (aG g 3))), (t, oG gt tK tH tM tO), (tK, .inl (cI, 8, .inl (aG gt 0))), (tH, .inl (cI, 8, .inl (aG gt 1))), (tM, .inl (cI, 8, .inl (aG gt 2))), (tO, .inl (cI, 8, .inl (aG gt 3))), (fi, .inl (cI, 7, .inl (ar fd)))]) [(x, .inr (3, [.ref h, .ref t, .ref k0, .int ik, .ref tp, .ref sh, .ref fi])), (h, oG g hK hH hM hO), (hK, .inl (cI, 8, .inl (aG g 0))), (hH, .inl (cI, 8, .inl (aG g 1))), (hM, .inl (cI, 8, .inl (aG g 2))), (hO, .inl (cI, 8, .inl (aG g 3))), (t, oG gx tK tH tM tO), (tK, .inl (cI, 8, .inl (aG gx 0))), (tH, .inl (cI, 8, .inl (aG gx 1))), (tM, .inl (cI, 8, .inl (aG gx 2))), (tO, .inl (cI, 8, .inl (aG gx 3))), (fi, .inl (cI, 7, .inl (ar fd)))] [(0, .ref x), (1, .int (iI n)), (2, .int (iI mx)), (3, .int (iI b)), (4, .int (iI i))] 25 [] := by
      intro nn_
      induction nn_ with
      | zero => intro i b mx gx hi0 hi1 hr hx hb hms; exact absurd hms (Nat.not_lt_zero _)
      | succ nn_ ih =>
        intro i b mx gx hi0 hi1 hr hx hb hms
        have ih25 := ih
        clear ih
        refine z_iload (pc := 25) dX3_night_25 4 rfl ?_
        refine z_bipush (pc := 27) dX3_night_27 (by decide) ?_
        refine z_icmp_gt (pc := 29) (tgt := 80) dX3_night_29 (by decide) (by omega) (by omega) (fun h29 => ?_) (fun h29 => ?_)
        · skip
          obtain rfl : i = 60 := by omega
          refine z_iload_n (pc := 80) dX3_night_80 3 rfl ?_
          have e9 : opNight g fd n = ((iI b), fd) := by
            unfold opNight
            rw [if_pos ⟨by omega, by omega⟩, show (60 : Nat) = Int.toNat 60 from rfl, ← hb]
          exact z_iretE (pc := 81) dX3_night_81 gx hx (by rw [e9]) (by rw [e9])
        · skip
          refine z_aload_n (pc := 32) dX3_night_32 0 rfl ?_
          refine z_callV (pc := 33) (st := []) (st2 := []) (ws2 := [(x, .inr (3, [.ref h, .ref t, .ref k0, .int ik, .ref tp, .ref sh, .ref fi])), (h, oG g hK hH hM hO), (hK, .inl (cI, 8, .inl (aG g 0))), (hH, .inl (cI, 8, .inl (aG g 1))), (hM, .inl (cI, 8, .inl (aG g 2))), (hO, .inl (cI, 8, .inl (aG g 3))), (t, oG (likeG gx g) tK tH tM tO), (tK, .inl (cI, 8, .inl (aG (likeG gx g) 0))), (tH, .inl (cI, 8, .inl (aG (likeG gx g) 1))), (tM, .inl (cI, 8, .inl (aG (likeG gx g) 2))), (tO, .inl (cI, 8, .inl (aG (likeG gx g) 3))), (fi, .inl (cI, 7, .inl (ar fd)))]) (q0 := 0) (c_X3_tryAsItIs l D cI cJ cB cS xa x h hK hH hM hO t tK tH tM tO k0 tp sh fi ik g gx ok hx) mV_X3_tryAsItIs kM_X3_145 dX3_night_33 rfl rfl [0, 1, 2, 3, 4, 5, 6, 7, 8, 9, 10] rfl rfl rfl rfl rfl rfl rfl rfl ⟨Nat.le_of_ble_eq_true rfl, Nat.le_of_ble_eq_true rfl, Nat.le_of_ble_eq_true rfl⟩ ?_
          have ok33_1 : Ok (likeG gx g) := likeG_ok hx ok
          have f33_2 := (show likeG gx g 4 0 = g 4 0 from rfl)
          have f33_3 := (show likeG gx g 4 1 = g 4 1 from rfl)
          have f33_4 := (show likeG gx g 4 2 = g 4 2 from rfl)
          refine z_aload_n (pc := 36) dX3_night_36 0 rfl ?_
          refine z_get (pc := 37) (q0 := 0) (v := .ref t) fL_X3_16 dX3_night_37 rfl rfl ?_
          refine z_iload (pc := 40) dX3_night_40 4 rfl ?_
          refine z_put (pc := 42) (q0 := 6) (ws2 := [(x, .inr (3, [.ref h, .ref t, .ref k0, .int ik, .ref tp, .ref sh, .ref fi])), (h, oG g hK hH hM hO), (hK, .inl (cI, 8, .inl (aG g 0))), (hH, .inl (cI, 8, .inl (aG g 1))), (hM, .inl (cI, 8, .inl (aG g 2))), (hO, .inl (cI, 8, .inl (aG g 3))), (t, oG (up2 (likeG gx g) 4 1 i) tK tH tM tO), (tK, .inl (cI, 8, .inl (aG (up2 (likeG gx g) 4 1 i) 0))), (tH, .inl (cI, 8, .inl (aG (up2 (likeG gx g) 4 1 i) 1))), (tM, .inl (cI, 8, .inl (aG (up2 (likeG gx g) 4 1 i) 2))), (tO, .inl (cI, 8, .inl (aG (up2 (likeG gx g) 4 1 i) 3))), (fi, .inl (cI, 7, .inl (ar fd)))]) fP_X3_52 dX3_night_42 rfl rfl rfl (Nat.le_of_ble_eq_true rfl) rfl ?_
          have oku5 : Ok (up2 (likeG gx g) 4 1 i) := Ok.up1 ok33_1 (by omega)
          have uu : (up2 (likeG gx g) 4 1 i) 4 0 = g 4 0 := rfl
          have uv : (up2 (likeG gx g) 4 1 i) 4 2 = g 4 2 := rfl
          refine z_aload_n (pc := 45) dX3_night_45 0 rfl ?_
          refine z_get (pc := 46) (q0 := 0) (v := .ref t) fL_X3_16 dX3_night_46 rfl rfl ?_
          refine z_iload_n (pc := 49) dX3_night_49 1 rfl ?_
          refine z_callV (pc := 50) (st := []) (st2 := []) (ws2 := [(x, .inr (3, [.ref h, .ref t, .ref k0, .int ik, .ref tp, .ref sh, .ref fi])), (h, oG g hK hH hM hO), (hK, .inl (cI, 8, .inl (aG g 0))), (hH, .inl (cI, 8, .inl (aG g 1))), (hM, .inl (cI, 8, .inl (aG g 2))), (hO, .inl (cI, 8, .inl (aG g 3))), (t, oG (minsG (up2 (likeG gx g) 4 1 i) (Int.toNat n)) tK tH tM tO), (tK, .inl (cI, 8, .inl (aG (minsG (up2 (likeG gx g) 4 1 i) (Int.toNat n)) 0))), (tH, .inl (cI, 8, .inl (aG (minsG (up2 (likeG gx g) 4 1 i) (Int.toNat n)) 1))), (tM, .inl (cI, 8, .inl (aG (minsG (up2 (likeG gx g) 4 1 i) (Int.toNat n)) 2))), (tO, .inl (cI, 8, .inl (aG (minsG (up2 (likeG gx g) 4 1 i) (Int.toNat n)) 3))), (fi, .inl (cI, 7, .inl (ar fd)))]) (q0 := 6) (c_X0_goOn l D cI cJ cB cS xa t tK tH tM tO (up2 (likeG gx g) 4 1 i) n oku5 (by omega) (by omega)) mV_X0_goOn kM_X3_141 dX3_night_50 rfl rfl [6, 7, 8, 9, 10] rfl rfl rfl rfl rfl rfl rfl rfl ⟨Nat.le_of_ble_eq_true rfl, Nat.le_of_ble_eq_true rfl, Nat.le_of_ble_eq_true rfl⟩ ?_
          have ok50_6 : Ok (minsG (up2 (likeG gx g) 4 1 i) (Int.toNat n)) := minsG_ok oku5 _ (by omega)
          have f50_7 := minsG_40 (up2 (likeG gx g) 4 1 i) (Int.toNat n)
          have f50_8 := minsG_41 (up2 (likeG gx g) 4 1 i) (Int.toNat n)
          have f50_9 := minsG_42 (up2 (likeG gx g) 4 1 i) (Int.toNat n)
          refine z_aload_n (pc := 53) dX3_night_53 0 rfl ?_
          refine z_get (pc := 54) (q0 := 0) (v := .ref t) fL_X3_16 dX3_night_54 rfl rfl ?_
          refine z_callV (pc := 57) (st := []) (st2 := [.int (iI (diffG (minsG (up2 (likeG gx g) 4 1 i) (Int.toNat n))))]) (ws2 := [(x, .inr (3, [.ref h, .ref t, .ref k0, .int ik, .ref tp, .ref sh, .ref fi])), (h, oG g hK hH hM hO), (hK, .inl (cI, 8, .inl (aG g 0))), (hH, .inl (cI, 8, .inl (aG g 1))), (hM, .inl (cI, 8, .inl (aG g 2))), (hO, .inl (cI, 8, .inl (aG g 3))), (t, oG (minsG (up2 (likeG gx g) 4 1 i) (Int.toNat n)) tK tH tM tO), (tK, .inl (cI, 8, .inl (aG (minsG (up2 (likeG gx g) 4 1 i) (Int.toNat n)) 0))), (tH, .inl (cI, 8, .inl (aG (minsG (up2 (likeG gx g) 4 1 i) (Int.toNat n)) 1))), (tM, .inl (cI, 8, .inl (aG (minsG (up2 (likeG gx g) 4 1 i) (Int.toNat n)) 2))), (tO, .inl (cI, 8, .inl (aG (minsG (up2 (likeG gx g) 4 1 i) (Int.toNat n)) 3))), (fi, .inl (cI, 7, .inl (ar fd)))]) (q0 := 6) (c_X0_apart l D cI cJ cB cS xa t tK tH tM tO (minsG (up2 (likeG gx g) 4 1 i) (Int.toNat n)) ok50_6) mV_X0_apart kM_X3_162 dX3_night_57 rfl rfl [6, 8] rfl rfl rfl rfl rfl rfl rfl rfl ⟨Nat.le_of_ble_eq_true rfl, Nat.le_of_ble_eq_true rfl, Nat.le_of_ble_eq_true rfl⟩ ?_
          have f57_10 := diffG_rng ok50_6
          have el : diffG (minsG (up2 (likeG gx g) 4 1 i) (Int.toNat n)) = diffG (minsG (up2 g 4 1 i) (Int.toNat n)) := laterD (agr_up4 (agr_like gx g) (by decide) rfl) (oku5) (by omega) (by show g 4 0 + n ≤ 1000000; omega)
          refine z_st (st2 := [.int (iI (diffG (minsG (up2 g 4 1 i) (Int.toNat n))))]) (by rw [el]) ?_
          refine z_istore (pc := 60) (lv2 := [(5, .int (iI (diffG (minsG (up2 g 4 1 i) (Int.toNat n))))), (0, .ref x), (1, .int (iI n)), (2, .int (iI mx)), (3, .int (iI b)), (4, .int (iI i))]) dX3_night_60 (by decide) rfl ?_
          refine z_iload (pc := 62) dX3_night_62 0 rfl ?_
          refine z_iload_n (pc := 64) dX3_night_64 3 rfl ?_
          refine z_icmp_ge (pc := 65) (tgt := 74) dX3_night_65 (by decide) (by omega) (by omega) (fun h65 => ?_) (fun h65 => ?_)
          · skip
            refine z_iinc (pc := 74) (lv2 := [(4, .int (iI (i + 1))), (5, .int (iI (diffG (minsG (up2 g 4 1 i) (Int.toNat n))))), (0, .ref x), (1, .int (iI n)), (2, .int (iI mx)), (3, .int (iI b))]) dX3_night_74 5 rfl (by decide) rfl ?_
            refine z_goto (pc := 77) (tgt := 25) dX3_night_77 (by decide) ?_
            refine z_lv (lv2 := [(0, .ref x), (1, .int (iI n)), (2, .int (iI mx)), (3, .int (iI b)), (4, .int (iI (i + 1)))]) [2, 3, 4, 5, 0] rfl ?_
            exact ih25 (i + 1) b mx (minsG (up2 (likeG gx g) 4 1 i) (Int.toNat n)) (by omega) (by omega) (by omega) (ok50_6) (amn_f hi0 hb (fun q => by have q2 : diffG (minsG (up2 g 4 1 i) (Int.toNat n)) < mx := q; omega)) (by omega)
          · skip
            refine z_iload (pc := 68) dX3_night_68 0 rfl ?_
            refine z_istore_n (pc := 70) (lv2 := [(2, .int (iI (diffG (minsG (up2 g 4 1 i) (Int.toNat n))))), (5, .int (iI (diffG (minsG (up2 g 4 1 i) (Int.toNat n))))), (0, .ref x), (1, .int (iI n)), (3, .int (iI b)), (4, .int (iI i))]) dX3_night_70 rfl (by decide) rfl ?_
            refine z_iload (pc := 71) dX3_night_71 5 rfl ?_
            refine z_istore_n (pc := 73) (lv2 := [(3, .int (iI i)), (2, .int (iI (diffG (minsG (up2 g 4 1 i) (Int.toNat n))))), (5, .int (iI (diffG (minsG (up2 g 4 1 i) (Int.toNat n))))), (0, .ref x), (1, .int (iI n)), (4, .int (iI i))]) dX3_night_73 rfl (by decide) rfl ?_
            refine z_iinc (pc := 74) (lv2 := [(4, .int (iI (i + 1))), (3, .int (iI i)), (2, .int (iI (diffG (minsG (up2 g 4 1 i) (Int.toNat n))))), (5, .int (iI (diffG (minsG (up2 g 4 1 i) (Int.toNat n))))), (0, .ref x), (1, .int (iI n))]) dX3_night_74 5 rfl (by decide) rfl ?_
            refine z_goto (pc := 77) (tgt := 25) dX3_night_77 (by decide) ?_
            refine z_lv (lv2 := [(0, .ref x), (1, .int (iI n)), (2, .int (iI (diffG (minsG (up2 g 4 1 i) (Int.toNat n))))), (3, .int (iI i)), (4, .int (iI (i + 1)))]) [4, 5, 2, 1, 0] rfl ?_
            exact ih25 (i + 1) i (diffG (minsG (up2 g 4 1 i) (Int.toNat n))) (minsG (up2 (likeG gx g) 4 1 i) (Int.toNat n)) (by omega) (by omega) (by omega) (ok50_6) (amn_t hi0 hb (by show diffG (minsG (up2 g 4 1 i) (Int.toNat n)) < mx; omega)) (by omega)
    refine z_lv (lv2 := [(0, .ref x), (1, .int (iI n)), (2, .int (iI 201)), (3, .int (iI 0)), (4, .int (iI 0))]) [3, 4, 2, 1, 0] rfl ?_
    exact LP25 _ 0 0 201 gt (by omega) (by omega) (by omega) (okt) (by rfl) (Nat.lt_succ_self _)
  · skip
    refine z_aload_n (pc := 10) dX3_night_10 0 rfl ?_
    refine z_iconst (pc := 11) dX3_night_11 ?_
    refine z_callV (pc := 12) (st := []) (st2 := [.int (iI (-1000000001 - 0))]) (ws2 := [(x, .inr (3, [.ref h, .ref t, .ref k0, .int ik, .ref tp, .ref sh, .ref fi])), (h, oG g hK hH hM hO), (hK, .inl (cI, 8, .inl (aG g 0))), (hH, .inl (cI, 8, .inl (aG g 1))), (hM, .inl (cI, 8, .inl (aG g 2))), (hO, .inl (cI, 8, .inl (aG g 3))), (t, oG gt tK tH tM tO), (tK, .inl (cI, 8, .inl (aG gt 0))), (tH, .inl (cI, 8, .inl (aG gt 1))), (tM, .inl (cI, 8, .inl (aG gt 2))), (tO, .inl (cI, 8, .inl (aG gt 3))), (fi, .inl (cI, 7, .inl (ar (fnd fd 0))))]) (q0 := 0) (c_X3_found l D cI cJ cB cS xa x h t k0 tp sh fi ik fd 0 (by omega)) mV_X3_found kM_X3_48 dX3_night_12 rfl rfl [0, 11] rfl rfl rfl rfl rfl rfl rfl rfl ⟨Nat.le_of_ble_eq_true rfl, Nat.le_of_ble_eq_true rfl, Nat.le_of_ble_eq_true rfl⟩ ?_
    have e9 : opNight g fd n = ((iI (-1000000001 - 0)), fnd fd 0) := by
      unfold opNight; try unfold bI
      (repeat' split) <;> first | (exfalso; omega) | contradiction | rfl
    exact z_iretE (pc := 15) dX3_night_15 gt okt (by rw [e9]) (by rw [e9])
set_option maxHeartbeats 8000000 in
set_option maxRecDepth 100000 in
theorem c_X3_marbles (l : Launch) (D : va_G) (cI cJ cB cS : ClassId) (xa : XA) (x h hK hH hM hO t tK tH tM tO k0 tp sh fi : Nat) (ik : Int32) (g : Gd) (fd : FF) (gt : Gd) (c n v : Int) (ok : Ok g) (rc : inr c) (rn : inr n) (rv : inr v) (okt : Ok gt) (hm : g 4 0 ≤ 99999) : CtE (S := Gd) l D cI cJ cB cS xa yX3_marbles cX3_marbles 5 (some .int) 6 134 [.ref x, .int (iI c), .int (iI n), .int (iI v)] [(x, .inr (3, [.ref h, .ref t, .ref k0, .int ik, .ref tp, .ref sh, .ref fi])), (h, oG g hK hH hM hO), (hK, .inl (cI, 8, .inl (aG g 0))), (hH, .inl (cI, 8, .inl (aG g 1))), (hM, .inl (cI, 8, .inl (aG g 2))), (hO, .inl (cI, 8, .inl (aG g 3))), (t, oG gt tK tH tM tO), (tK, .inl (cI, 8, .inl (aG gt 0))), (tH, .inl (cI, 8, .inl (aG gt 1))), (tM, .inl (cI, 8, .inl (aG gt 2))), (tO, .inl (cI, 8, .inl (aG gt 3))), (fi, .inl (cI, 7, .inl (ar fd)))] (fun gt2 : Gd => Ok gt2) (fun gt2 : Gd => (some (.int ((opMarbles g fd c n v).1)))) (fun gt2 : Gd => [(x, .inr (3, [.ref h, .ref t, .ref k0, .int ik, .ref tp, .ref sh, .ref fi])), (h, oG g hK hH hM hO), (hK, .inl (cI, 8, .inl (aG g 0))), (hH, .inl (cI, 8, .inl (aG g 1))), (hM, .inl (cI, 8, .inl (aG g 2))), (hO, .inl (cI, 8, .inl (aG g 3))), (t, oG gt2 tK tH tM tO), (tK, .inl (cI, 8, .inl (aG gt2 0))), (tH, .inl (cI, 8, .inl (aG gt2 1))), (tM, .inl (cI, 8, .inl (aG gt2 2))), (tO, .inl (cI, 8, .inl (aG gt2 3))), (fi, .inl (cI, 7, .inl (ar ((opMarbles g fd c n v).2))))]) := by
  have o0 := ok0 ok
  have o1 := ok1 ok
  have o2 := ok2 ok
  refine CtE.of (own := RX3) (lv := [(0, .ref x), (1, .int (iI c)), (2, .int (iI n)), (3, .int (iI v))]) (by decide) rfl rfl (Nat.le_of_ble_eq_true rfl) ?_
  intro xp xe xs xm xb xt xc
  refine z_aload_n (pc := 0) dX3_marbles_0 0 rfl ?_
  refine z_iload_n (pc := 1) dX3_marbles_1 1 rfl ?_
  refine z_callV (pc := 2) (st := []) (st2 := [.int (bI (0 ≤ c ∧ c < g 4 2))]) (ws2 := [(x, .inr (3, [.ref h, .ref t, .ref k0, .int ik, .ref tp, .ref sh, .ref fi])), (h, oG g hK hH hM hO), (hK, .inl (cI, 8, .inl (aG g 0))), (hH, .inl (cI, 8, .inl (aG g 1))), (hM, .inl (cI, 8, .inl (aG g 2))), (hO, .inl (cI, 8, .inl (aG g 3))), (t, oG gt tK tH tM tO), (tK, .inl (cI, 8, .inl (aG gt 0))), (tH, .inl (cI, 8, .inl (aG gt 1))), (tM, .inl (cI, 8, .inl (aG gt 2))), (tO, .inl (cI, 8, .inl (aG gt 3))), (fi, .inl (cI, 7, .inl (ar fd)))]) (q0 := 0) (c_X3_isChild l D cI cJ cB cS xa x h hK hH hM hO t k0 tp sh fi ik g c ok (by omega)) mV_X3_isChild kM_X3_100 dX3_marbles_2 rfl rfl [0, 1] rfl rfl rfl rfl rfl rfl rfl rfl ⟨Nat.le_of_ble_eq_true rfl, Nat.le_of_ble_eq_true rfl, Nat.le_of_ble_eq_true rfl⟩ ?_
  refine z_ifb_eq (pc := 5) (tgt := 29) dX3_marbles_5 (by decide) (fun h5 => ?_) (fun h5 => ?_)
  · skip
    refine z_aload_n (pc := 29) dX3_marbles_29 0 rfl ?_
    refine z_iconst (pc := 30) dX3_marbles_30 ?_
    refine z_callV (pc := 31) (st := []) (st2 := [.int (iI (-1000000001 - 0))]) (ws2 := [(x, .inr (3, [.ref h, .ref t, .ref k0, .int ik, .ref tp, .ref sh, .ref fi])), (h, oG g hK hH hM hO), (hK, .inl (cI, 8, .inl (aG g 0))), (hH, .inl (cI, 8, .inl (aG g 1))), (hM, .inl (cI, 8, .inl (aG g 2))), (hO, .inl (cI, 8, .inl (aG g 3))), (t, oG gt tK tH tM tO), (tK, .inl (cI, 8, .inl (aG gt 0))), (tH, .inl (cI, 8, .inl (aG gt 1))), (tM, .inl (cI, 8, .inl (aG gt 2))), (tO, .inl (cI, 8, .inl (aG gt 3))), (fi, .inl (cI, 7, .inl (ar (fnd fd 0))))]) (q0 := 0) (c_X3_found l D cI cJ cB cS xa x h t k0 tp sh fi ik fd 0 (by omega)) mV_X3_found kM_X3_48 dX3_marbles_31 rfl rfl [0, 11] rfl rfl rfl rfl rfl rfl rfl rfl ⟨Nat.le_of_ble_eq_true rfl, Nat.le_of_ble_eq_true rfl, Nat.le_of_ble_eq_true rfl⟩ ?_
    have e9 : opMarbles g fd c n v = ((iI (-1000000001 - 0)), fnd fd 0) := by
      unfold opMarbles; try unfold bI
      (repeat' split) <;> first | (exfalso; omega) | contradiction | rfl
    exact z_iretE (pc := 34) dX3_marbles_34 gt okt (by rw [e9]) (by rw [e9])
  · skip
    refine z_iload_n (pc := 8) dX3_marbles_8 2 rfl ?_
    refine z_iconst (pc := 9) dX3_marbles_9 ?_
    refine z_bipush (pc := 10) dX3_marbles_10 (by decide) ?_
    refine z_callS (pc := 12) (st := []) (st2 := [.int (bI (1 ≤ n ∧ n ≤ 100))]) (ws2 := [(x, .inr (3, [.ref h, .ref t, .ref k0, .int ik, .ref tp, .ref sh, .ref fi])), (h, oG g hK hH hM hO), (hK, .inl (cI, 8, .inl (aG g 0))), (hH, .inl (cI, 8, .inl (aG g 1))), (hM, .inl (cI, 8, .inl (aG g 2))), (hO, .inl (cI, 8, .inl (aG g 3))), (t, oG gt tK tH tM tO), (tK, .inl (cI, 8, .inl (aG gt 0))), (tH, .inl (cI, 8, .inl (aG gt 1))), (tM, .inl (cI, 8, .inl (aG gt 2))), (tO, .inl (cI, 8, .inl (aG gt 3))), (fi, .inl (cI, 7, .inl (ar fd)))]) (c_X3_within l D cI cJ cB cS xa n 1 100 (by omega) (by omega) (by omega)) mS_X3_within kM_X3_44 dX3_marbles_12 [] rfl rfl rfl rfl rfl rfl rfl rfl ⟨Nat.le_of_ble_eq_true rfl, Nat.le_of_ble_eq_true rfl, Nat.le_of_ble_eq_true rfl⟩ ?_
    refine z_ifb_eq (pc := 15) (tgt := 29) dX3_marbles_15 (by decide) (fun h15 => ?_) (fun h15 => ?_)
    · skip
      refine z_aload_n (pc := 29) dX3_marbles_29 0 rfl ?_
      refine z_iconst (pc := 30) dX3_marbles_30 ?_
      refine z_callV (pc := 31) (st := []) (st2 := [.int (iI (-1000000001 - 0))]) (ws2 := [(x, .inr (3, [.ref h, .ref t, .ref k0, .int ik, .ref tp, .ref sh, .ref fi])), (h, oG g hK hH hM hO), (hK, .inl (cI, 8, .inl (aG g 0))), (hH, .inl (cI, 8, .inl (aG g 1))), (hM, .inl (cI, 8, .inl (aG g 2))), (hO, .inl (cI, 8, .inl (aG g 3))), (t, oG gt tK tH tM tO), (tK, .inl (cI, 8, .inl (aG gt 0))), (tH, .inl (cI, 8, .inl (aG gt 1))), (tM, .inl (cI, 8, .inl (aG gt 2))), (tO, .inl (cI, 8, .inl (aG gt 3))), (fi, .inl (cI, 7, .inl (ar (fnd fd 0))))]) (q0 := 0) (c_X3_found l D cI cJ cB cS xa x h t k0 tp sh fi ik fd 0 (by omega)) mV_X3_found kM_X3_48 dX3_marbles_31 rfl rfl [0, 11] rfl rfl rfl rfl rfl rfl rfl rfl ⟨Nat.le_of_ble_eq_true rfl, Nat.le_of_ble_eq_true rfl, Nat.le_of_ble_eq_true rfl⟩ ?_
      have e9 : opMarbles g fd c n v = ((iI (-1000000001 - 0)), fnd fd 0) := by
        unfold opMarbles; try unfold bI
        (repeat' split) <;> first | (exfalso; omega) | contradiction | rfl
      exact z_iretE (pc := 34) dX3_marbles_34 gt okt (by rw [e9]) (by rw [e9])
    · skip
      refine z_iload_n (pc := 18) dX3_marbles_18 3 rfl ?_
      refine z_iconst (pc := 19) dX3_marbles_19 ?_
      refine z_sipush (pc := 20) dX3_marbles_20 (by decide) ?_
      refine z_callS (pc := 23) (st := []) (st2 := [.int (bI (0 ≤ v ∧ v ≤ 200))]) (ws2 := [(x, .inr (3, [.ref h, .ref t, .ref k0, .int ik, .ref tp, .ref sh, .ref fi])), (h, oG g hK hH hM hO), (hK, .inl (cI, 8, .inl (aG g 0))), (hH, .inl (cI, 8, .inl (aG g 1))), (hM, .inl (cI, 8, .inl (aG g 2))), (hO, .inl (cI, 8, .inl (aG g 3))), (t, oG gt tK tH tM tO), (tK, .inl (cI, 8, .inl (aG gt 0))), (tH, .inl (cI, 8, .inl (aG gt 1))), (tM, .inl (cI, 8, .inl (aG gt 2))), (tO, .inl (cI, 8, .inl (aG gt 3))), (fi, .inl (cI, 7, .inl (ar fd)))]) (c_X3_within l D cI cJ cB cS xa v 0 200 (by omega) (by omega) (by omega)) mS_X3_within kM_X3_44 dX3_marbles_23 [] rfl rfl rfl rfl rfl rfl rfl rfl ⟨Nat.le_of_ble_eq_true rfl, Nat.le_of_ble_eq_true rfl, Nat.le_of_ble_eq_true rfl⟩ ?_
      refine z_ifb_ne (pc := 26) (tgt := 35) dX3_marbles_26 (by decide) (fun h26 => ?_) (fun h26 => ?_)
      · skip
        refine z_iconst (pc := 35) dX3_marbles_35 ?_
        refine z_istore (pc := 36) (lv2 := [(4, .int (iI 0)), (0, .ref x), (1, .int (iI c)), (2, .int (iI n)), (3, .int (iI v))]) dX3_marbles_36 (by decide) rfl ?_
        have LP38 : ∀ (nn_ : Nat) (k : Int) (gx : Gd), (0 ≤ k ∧ k ≤ 100) → (Ok gx) → (∀ j : Int, 0 ≤ j → j < k → ¬ (v ≤ minsG (up2 g 2 c j) (Int.toNat n) 1 c)) → (100 - k).toNat < nn_ → Z xp l xe { frames := 6, cells := 0, slots := 0, locals := 134 } xs xm ([.ref x, .int (iI c), .int (iI n), .int (iI v)] : List Value).toArray xb xt xc 0 0 (MQ xb (Cq (S := Gd) D [(x, .inr (3, [.ref h, .ref t, .ref k0, .int ik, .ref tp, .ref sh, .ref fi])), (h, oG g hK hH hM hO), (hK, .inl (cI, 8, .inl (aG g 0))), (hH, .inl (cI, 8, .inl (aG g 1))), (hM, .inl (cI, 8, .inl (aG g 2))), (hO, .inl (cI, 8, .inl (aG g 3))), (t, oG gt tK tH tM tO), (tK, .inl (cI, 8, .inl (aG gt 0))), (tH, .inl (cI, 8, .inl (aG gt 1))), (tM, .inl (cI, 8, .inl (aG gt 2))), (tO, .inl (cI, 8, .inl (aG gt 3))), (fi, .inl (cI, 7, .inl (ar fd)))] (fun gt2 : Gd => Ok gt2) (fun gt2 : Gd => (some (.int ((opMarbles g fd c n v).1)))) (fun gt2 : Gd => [(x, .inr (3, [.ref h, .ref t, .ref k0, .int ik, .ref tp, .ref sh, .ref fi])), (h, oG g hK hH hM hO), (hK, .inl (cI, 8, .inl (aG g 0))), (hH, .inl (cI, 8, .inl (aG g 1))), (hM, .inl (cI, 8, .inl (aG g 2))), (hO, .inl (cI, 8, .inl (aG g 3))), (t, oG gt2 tK tH tM tO), (tK, .inl (cI, 8, .inl (aG gt2 0))), (tH, .inl (cI, 8, .inl (aG gt2 1))), (tM, .inl (cI, 8, .inl (aG gt2 2))), (tO, .inl (cI, 8, .inl (aG gt2 3))), (fi, .inl (cI, 7, .inl (ar ((opMarbles g fd c n v).2))))])) ([.ref x, .int (iI c), .int (iI n), .int (iI v)] : List Value).toArray xs 0 0 (va_A0 [(x, .inr (3, [.ref h, .ref t, .ref k0, .int ik, .ref tp, .ref sh, .ref fi])), (h, oG g hK hH hM hO), (hK, .inl (cI, 8, .inl (aG g 0))), (hH, .inl (cI, 8, .inl (aG g 1))), (hM, .inl (cI, 8, .inl (aG g 2))), (hO, .inl (cI, 8, .inl (aG g 3))), (t, oG gt tK tH tM tO), (tK, .inl (cI, 8, .inl (aG gt 0))), (tH, .inl (cI, 8, .inl (aG gt 1))), (tM, .inl (cI, 8, .inl (aG gt 2))), (tO, .inl (cI, 8, .inl (aG gt 3))), (fi, .inl (cI, 7, .inl (ar fd)))])) cX3_marbles RX3 5 (some .int) D cI cJ cB cS xa (va_A0 [(x, .inr (3, [.ref h, .ref t, .ref k0, .int ik, .ref tp, .ref sh, .ref fi])), (h, oG g hK hH hM hO), (hK, .inl (cI, 8, .inl (aG g 0))), (hH, .inl (cI, 8, .inl (aG g 1))), (hM, .inl (cI, 8, .inl (aG g 2))), (hO, .inl (cI, 8, .inl (aG g 3))), (t, oG gt tK tH tM tO), (tK, .inl (cI, 8, .inl (aG gt 0))), (tH, .inl (cI, 8, .inl (aG gt 1))), (tM, .inl (cI, 8, .inl (aG gt 2))), (tO, .inl (cI, 8, .inl (aG gt 3))), (fi, .inl (cI, 7, .inl (ar fd)))]) [(x, .inr (3, [.ref h, .ref t, .ref k0, .int ik, .ref tp, .ref sh, .ref fi])), (h, oG g hK hH hM hO), (hK, .inl (cI, 8, .inl (aG g 0))), (hH, .inl (cI, 8, .inl (aG g 1))), (hM, .inl (cI, 8, .inl (aG g 2))), (hO, .inl (cI, 8, .inl (aG g 3))), (t, oG gx tK tH tM tO), (tK, .inl (cI, 8, .inl (aG gx 0))), (tH, .inl (cI, 8, .inl (aG gx 1))), (tM, .inl (cI, 8, .inl (aG gx 2))), (tO, .inl (cI, 8, .inl (aG gx 3))), (fi, .inl (cI, 7, .inl (ar fd)))] [(0, .ref x), (1, .int (iI c)), (2, .int (iI n)), (3, .int (iI v)), (4, .int (iI k))] 38 [] := by
          intro nn_
          induction nn_ with
          | zero => intro k gx hk hx hq hms; exact absurd hms (Nat.not_lt_zero _)
          | succ nn_ ih =>
            intro k gx hk hx hq hms
            have ih38 := ih
            clear ih
            refine z_iload (pc := 38) dX3_marbles_38 4 rfl ?_
            refine z_bipush (pc := 40) dX3_marbles_40 (by decide) ?_
            refine z_icmp_gt (pc := 42) (tgt := 79) dX3_marbles_42 (by decide) (by omega) (by omega) (fun h42 => ?_) (fun h42 => ?_)
            · skip
              refine z_aload_n (pc := 79) dX3_marbles_79 0 rfl ?_
              refine z_iconst (pc := 80) dX3_marbles_80 ?_
              refine z_callV (pc := 81) (st := []) (st2 := [.int (iI (-1000000001 - 3))]) (ws2 := [(x, .inr (3, [.ref h, .ref t, .ref k0, .int ik, .ref tp, .ref sh, .ref fi])), (h, oG g hK hH hM hO), (hK, .inl (cI, 8, .inl (aG g 0))), (hH, .inl (cI, 8, .inl (aG g 1))), (hM, .inl (cI, 8, .inl (aG g 2))), (hO, .inl (cI, 8, .inl (aG g 3))), (t, oG gx tK tH tM tO), (tK, .inl (cI, 8, .inl (aG gx 0))), (tH, .inl (cI, 8, .inl (aG gx 1))), (tM, .inl (cI, 8, .inl (aG gx 2))), (tO, .inl (cI, 8, .inl (aG gx 3))), (fi, .inl (cI, 7, .inl (ar (fnd fd 3))))]) (q0 := 0) (c_X3_found l D cI cJ cB cS xa x h t k0 tp sh fi ik fd 3 (by omega)) mV_X3_found kM_X3_48 dX3_marbles_81 rfl rfl [0, 11] rfl rfl rfl rfl rfl rfl rfl rfl ⟨Nat.le_of_ble_eq_true rfl, Nat.le_of_ble_eq_true rfl, Nat.le_of_ble_eq_true rfl⟩ ?_
              have e9 : opMarbles g fd c n v = ((iI (-1000000001 - 3)), fnd fd 3) := by
                have ef := fst_none (fun k => v ≤ minsG (up2 g 2 c k) (Int.toNat n) 1 c) 100 (fun j h0 h1 => hq j h0 (by omega))
                unfold opMarbles foundI
                rw [if_pos ⟨⟨by omega, by omega⟩, ⟨by omega, by omega⟩, by omega, by omega⟩]
                rw [ef, if_neg (by omega)]
                rfl
              exact z_iretE (pc := 84) dX3_marbles_84 gx hx (by rw [e9]) (by rw [e9])
            · skip
              have bv := okH (minsG_ok (ok.upM c (v := k) (by omega)) (Int.toNat n) (by show g 4 0 + _ ≤ _; omega)) c
              refine z_aload_n (pc := 45) dX3_marbles_45 0 rfl ?_
              refine z_callV (pc := 46) (st := []) (st2 := []) (ws2 := [(x, .inr (3, [.ref h, .ref t, .ref k0, .int ik, .ref tp, .ref sh, .ref fi])), (h, oG g hK hH hM hO), (hK, .inl (cI, 8, .inl (aG g 0))), (hH, .inl (cI, 8, .inl (aG g 1))), (hM, .inl (cI, 8, .inl (aG g 2))), (hO, .inl (cI, 8, .inl (aG g 3))), (t, oG (likeG gx g) tK tH tM tO), (tK, .inl (cI, 8, .inl (aG (likeG gx g) 0))), (tH, .inl (cI, 8, .inl (aG (likeG gx g) 1))), (tM, .inl (cI, 8, .inl (aG (likeG gx g) 2))), (tO, .inl (cI, 8, .inl (aG (likeG gx g) 3))), (fi, .inl (cI, 7, .inl (ar fd)))]) (q0 := 0) (c_X3_tryAsItIs l D cI cJ cB cS xa x h hK hH hM hO t tK tH tM tO k0 tp sh fi ik g gx ok hx) mV_X3_tryAsItIs kM_X3_145 dX3_marbles_46 rfl rfl [0, 1, 2, 3, 4, 5, 6, 7, 8, 9, 10] rfl rfl rfl rfl rfl rfl rfl rfl ⟨Nat.le_of_ble_eq_true rfl, Nat.le_of_ble_eq_true rfl, Nat.le_of_ble_eq_true rfl⟩ ?_
              have ok46_1 : Ok (likeG gx g) := likeG_ok hx ok
              have f46_2 := (show likeG gx g 4 0 = g 4 0 from rfl)
              have f46_3 := (show likeG gx g 4 1 = g 4 1 from rfl)
              have f46_4 := (show likeG gx g 4 2 = g 4 2 from rfl)
              refine z_aload_n (pc := 49) dX3_marbles_49 0 rfl ?_
              refine z_get (pc := 50) (q0 := 0) (v := .ref t) fL_X3_16 dX3_marbles_50 rfl rfl ?_
              refine z_get (pc := 53) (q0 := 6) (v := .ref tM) fL_X3_106 dX3_marbles_53 rfl rfl ?_
              refine z_iload_n (pc := 56) dX3_marbles_56 1 rfl ?_
              refine z_iload (pc := 57) dX3_marbles_57 4 rfl ?_
              refine z_iast (pc := 59) (q0 := 9) (ws2 := [(x, .inr (3, [.ref h, .ref t, .ref k0, .int ik, .ref tp, .ref sh, .ref fi])), (h, oG g hK hH hM hO), (hK, .inl (cI, 8, .inl (aG g 0))), (hH, .inl (cI, 8, .inl (aG g 1))), (hM, .inl (cI, 8, .inl (aG g 2))), (hO, .inl (cI, 8, .inl (aG g 3))), (t, oG (up2 (likeG gx g) 2 c k) tK tH tM tO), (tK, .inl (cI, 8, .inl (aG (up2 (likeG gx g) 2 c k) 0))), (tH, .inl (cI, 8, .inl (aG (up2 (likeG gx g) 2 c k) 1))), (tM, .inl (cI, 8, .inl (aG (up2 (likeG gx g) 2 c k) 2))), (tO, .inl (cI, 8, .inl (aG (up2 (likeG gx g) 2 c k) 3))), (fi, .inl (cI, 7, .inl (ar fd)))]) dX3_marbles_59 rfl (by omega) (by decide) (by rw [aG_up (by omega)]; rfl) ?_
              have oku5 : Ok (up2 (likeG gx g) 2 c k) := Ok.upM ok46_1 c (by omega)
              have uu : (up2 (likeG gx g) 2 c k) 4 0 = g 4 0 := rfl
              have uv : (up2 (likeG gx g) 2 c k) 4 2 = g 4 2 := rfl
              refine z_aload_n (pc := 60) dX3_marbles_60 0 rfl ?_
              refine z_iload_n (pc := 61) dX3_marbles_61 1 rfl ?_
              refine z_iload_n (pc := 62) dX3_marbles_62 2 rfl ?_
              refine z_callV (pc := 63) (st := []) (st2 := [.int (iI (minsG (up2 (likeG gx g) 2 c k) (Int.toNat n) 1 c))]) (ws2 := [(x, .inr (3, [.ref h, .ref t, .ref k0, .int ik, .ref tp, .ref sh, .ref fi])), (h, oG g hK hH hM hO), (hK, .inl (cI, 8, .inl (aG g 0))), (hH, .inl (cI, 8, .inl (aG g 1))), (hM, .inl (cI, 8, .inl (aG g 2))), (hO, .inl (cI, 8, .inl (aG g 3))), (t, oG (minsG (up2 (likeG gx g) 2 c k) (Int.toNat n)) tK tH tM tO), (tK, .inl (cI, 8, .inl (aG (minsG (up2 (likeG gx g) 2 c k) (Int.toNat n)) 0))), (tH, .inl (cI, 8, .inl (aG (minsG (up2 (likeG gx g) 2 c k) (Int.toNat n)) 1))), (tM, .inl (cI, 8, .inl (aG (minsG (up2 (likeG gx g) 2 c k) (Int.toNat n)) 2))), (tO, .inl (cI, 8, .inl (aG (minsG (up2 (likeG gx g) 2 c k) (Int.toNat n)) 3))), (fi, .inl (cI, 7, .inl (ar fd)))]) (q0 := 0) (c_X3_heightLater l D cI cJ cB cS xa x h t tK tH tM tO k0 tp sh fi ik (up2 (likeG gx g) 2 c k) c n oku5 (by omega) (by omega) (by omega)) mV_X3_heightLater kM_X3_155 dX3_marbles_63 rfl rfl [0, 6, 7, 8, 9, 10] rfl rfl rfl rfl rfl rfl rfl rfl ⟨Nat.le_of_ble_eq_true rfl, Nat.le_of_ble_eq_true rfl, Nat.le_of_ble_eq_true rfl⟩ ?_
              have ok63_6 : Ok (minsG (up2 (likeG gx g) 2 c k) (Int.toNat n)) := minsG_ok oku5 _ (by omega)
              have f63_7 := minsG_40 (up2 (likeG gx g) 2 c k) (Int.toNat n)
              have f63_8 := minsG_42 (up2 (likeG gx g) 2 c k) (Int.toNat n)
              have el : minsG (up2 (likeG gx g) 2 c k) (Int.toNat n) 1 c = minsG (up2 g 2 c k) (Int.toNat n) 1 c := later (agr_up (agr_like gx g) 2 c (by decide) rfl) (oku5) (by omega) (by show g 4 0 + n ≤ 1000000; omega) (by decide) ⟨by omega, by show c < g 4 2; omega⟩
              refine z_st (st2 := [.int (iI (minsG (up2 g 2 c k) (Int.toNat n) 1 c))]) (by rw [el]) ?_
              refine z_iload_n (pc := 66) dX3_marbles_66 3 rfl ?_
              refine z_icmp_lt (pc := 67) (tgt := 73) dX3_marbles_67 (by decide) (by omega) (by omega) (fun h67 => ?_) (fun h67 => ?_)
              · skip
                refine z_iinc (pc := 73) (lv2 := [(4, .int (iI (k + 1))), (0, .ref x), (1, .int (iI c)), (2, .int (iI n)), (3, .int (iI v))]) dX3_marbles_73 4 rfl (by decide) rfl ?_
                refine z_goto (pc := 76) (tgt := 38) dX3_marbles_76 (by decide) ?_
                refine z_lv (lv2 := [(0, .ref x), (1, .int (iI c)), (2, .int (iI n)), (3, .int (iI v)), (4, .int (iI (k + 1)))]) [1, 2, 3, 4, 0] rfl ?_
                exact ih38 (k + 1) (minsG (up2 (likeG gx g) 2 c k) (Int.toNat n)) (by omega) (ok63_6) (lt_si hq (by show ¬ (v ≤ minsG (up2 g 2 c k) (Int.toNat n) 1 c); omega)) (by omega)
              · skip
                refine z_iload (pc := 70) dX3_marbles_70 4 rfl ?_
                have e9 : opMarbles g fd c n v = ((iI k), fd) := by
                  have ef := fst_hit (fun k => v ≤ minsG (up2 g 2 c k) (Int.toNat n) 1 c) 100 k (by omega) (by omega) (by show v ≤ minsG (up2 g 2 c k) (Int.toNat n) 1 c; omega) hq
                  unfold opMarbles foundI
                  rw [if_pos ⟨⟨by omega, by omega⟩, ⟨by omega, by omega⟩, by omega, by omega⟩]
                  rw [ef, if_pos (by omega)]
                exact z_iretE (pc := 72) dX3_marbles_72 (minsG (up2 (likeG gx g) 2 c k) (Int.toNat n)) ok63_6 (by rw [e9]) (by rw [e9])
        refine z_lv (lv2 := [(0, .ref x), (1, .int (iI c)), (2, .int (iI n)), (3, .int (iI v)), (4, .int (iI 0))]) [1, 2, 3, 4, 0] rfl ?_
        exact LP38 _ 0 gt (by omega) (okt) (fun j h0 h1 => absurd h1 (by omega)) (Nat.lt_succ_self _)
      · skip
        refine z_aload_n (pc := 29) dX3_marbles_29 0 rfl ?_
        refine z_iconst (pc := 30) dX3_marbles_30 ?_
        refine z_callV (pc := 31) (st := []) (st2 := [.int (iI (-1000000001 - 0))]) (ws2 := [(x, .inr (3, [.ref h, .ref t, .ref k0, .int ik, .ref tp, .ref sh, .ref fi])), (h, oG g hK hH hM hO), (hK, .inl (cI, 8, .inl (aG g 0))), (hH, .inl (cI, 8, .inl (aG g 1))), (hM, .inl (cI, 8, .inl (aG g 2))), (hO, .inl (cI, 8, .inl (aG g 3))), (t, oG gt tK tH tM tO), (tK, .inl (cI, 8, .inl (aG gt 0))), (tH, .inl (cI, 8, .inl (aG gt 1))), (tM, .inl (cI, 8, .inl (aG gt 2))), (tO, .inl (cI, 8, .inl (aG gt 3))), (fi, .inl (cI, 7, .inl (ar (fnd fd 0))))]) (q0 := 0) (c_X3_found l D cI cJ cB cS xa x h t k0 tp sh fi ik fd 0 (by omega)) mV_X3_found kM_X3_48 dX3_marbles_31 rfl rfl [0, 11] rfl rfl rfl rfl rfl rfl rfl rfl ⟨Nat.le_of_ble_eq_true rfl, Nat.le_of_ble_eq_true rfl, Nat.le_of_ble_eq_true rfl⟩ ?_
        have e9 : opMarbles g fd c n v = ((iI (-1000000001 - 0)), fnd fd 0) := by
          unfold opMarbles; try unfold bI
          (repeat' split) <;> first | (exfalso; omega) | contradiction | rfl
        exact z_iretE (pc := 34) dX3_marbles_34 gt okt (by rw [e9]) (by rw [e9])
set_option maxHeartbeats 8000000 in
set_option maxRecDepth 100000 in
theorem c_X3_enough (l : Launch) (D : va_G) (cI cJ cB cS : ClassId) (xa : XA) (x h hK hH hM hO t tK tH tM tO k0 tp sh fi : Nat) (ik : Int32) (g : Gd) (fd : FF) (gt : Gd) (c n v : Int) (ok : Ok g) (rc : inr c) (rn : inr n) (rv : inr v) (okt : Ok gt) (hm : g 4 0 ≤ 99999) : CtE (S := Gd) l D cI cJ cB cS xa yX3_enough cX3_enough 5 (some .int) 6 134 [.ref x, .int (iI c), .int (iI n), .int (iI v)] [(x, .inr (3, [.ref h, .ref t, .ref k0, .int ik, .ref tp, .ref sh, .ref fi])), (h, oG g hK hH hM hO), (hK, .inl (cI, 8, .inl (aG g 0))), (hH, .inl (cI, 8, .inl (aG g 1))), (hM, .inl (cI, 8, .inl (aG g 2))), (hO, .inl (cI, 8, .inl (aG g 3))), (t, oG gt tK tH tM tO), (tK, .inl (cI, 8, .inl (aG gt 0))), (tH, .inl (cI, 8, .inl (aG gt 1))), (tM, .inl (cI, 8, .inl (aG gt 2))), (tO, .inl (cI, 8, .inl (aG gt 3))), (fi, .inl (cI, 7, .inl (ar fd)))] (fun gt2 : Gd => Ok gt2) (fun gt2 : Gd => (some (.int ((opEnough g fd c n v).1)))) (fun gt2 : Gd => [(x, .inr (3, [.ref h, .ref t, .ref k0, .int ik, .ref tp, .ref sh, .ref fi])), (h, oG g hK hH hM hO), (hK, .inl (cI, 8, .inl (aG g 0))), (hH, .inl (cI, 8, .inl (aG g 1))), (hM, .inl (cI, 8, .inl (aG g 2))), (hO, .inl (cI, 8, .inl (aG g 3))), (t, oG gt2 tK tH tM tO), (tK, .inl (cI, 8, .inl (aG gt2 0))), (tH, .inl (cI, 8, .inl (aG gt2 1))), (tM, .inl (cI, 8, .inl (aG gt2 2))), (tO, .inl (cI, 8, .inl (aG gt2 3))), (fi, .inl (cI, 7, .inl (ar ((opEnough g fd c n v).2))))]) := by
  have o0 := ok0 ok
  have o1 := ok1 ok
  have o2 := ok2 ok
  refine CtE.of (own := RX3) (lv := [(0, .ref x), (1, .int (iI c)), (2, .int (iI n)), (3, .int (iI v))]) (by decide) rfl rfl (Nat.le_of_ble_eq_true rfl) ?_
  intro xp xe xs xm xb xt xc
  refine z_aload_n (pc := 0) dX3_enough_0 0 rfl ?_
  refine z_iload_n (pc := 1) dX3_enough_1 1 rfl ?_
  refine z_callV (pc := 2) (st := []) (st2 := [.int (bI (0 ≤ c ∧ c < g 4 2))]) (ws2 := [(x, .inr (3, [.ref h, .ref t, .ref k0, .int ik, .ref tp, .ref sh, .ref fi])), (h, oG g hK hH hM hO), (hK, .inl (cI, 8, .inl (aG g 0))), (hH, .inl (cI, 8, .inl (aG g 1))), (hM, .inl (cI, 8, .inl (aG g 2))), (hO, .inl (cI, 8, .inl (aG g 3))), (t, oG gt tK tH tM tO), (tK, .inl (cI, 8, .inl (aG gt 0))), (tH, .inl (cI, 8, .inl (aG gt 1))), (tM, .inl (cI, 8, .inl (aG gt 2))), (tO, .inl (cI, 8, .inl (aG gt 3))), (fi, .inl (cI, 7, .inl (ar fd)))]) (q0 := 0) (c_X3_isChild l D cI cJ cB cS xa x h hK hH hM hO t k0 tp sh fi ik g c ok (by omega)) mV_X3_isChild kM_X3_100 dX3_enough_2 rfl rfl [0, 1] rfl rfl rfl rfl rfl rfl rfl rfl ⟨Nat.le_of_ble_eq_true rfl, Nat.le_of_ble_eq_true rfl, Nat.le_of_ble_eq_true rfl⟩ ?_
  refine z_ifb_eq (pc := 5) (tgt := 29) dX3_enough_5 (by decide) (fun h5 => ?_) (fun h5 => ?_)
  · skip
    refine z_aload_n (pc := 29) dX3_enough_29 0 rfl ?_
    refine z_iconst (pc := 30) dX3_enough_30 ?_
    refine z_callV (pc := 31) (st := []) (st2 := [.int (iI (-1000000001 - 0))]) (ws2 := [(x, .inr (3, [.ref h, .ref t, .ref k0, .int ik, .ref tp, .ref sh, .ref fi])), (h, oG g hK hH hM hO), (hK, .inl (cI, 8, .inl (aG g 0))), (hH, .inl (cI, 8, .inl (aG g 1))), (hM, .inl (cI, 8, .inl (aG g 2))), (hO, .inl (cI, 8, .inl (aG g 3))), (t, oG gt tK tH tM tO), (tK, .inl (cI, 8, .inl (aG gt 0))), (tH, .inl (cI, 8, .inl (aG gt 1))), (tM, .inl (cI, 8, .inl (aG gt 2))), (tO, .inl (cI, 8, .inl (aG gt 3))), (fi, .inl (cI, 7, .inl (ar (fnd fd 0))))]) (q0 := 0) (c_X3_found l D cI cJ cB cS xa x h t k0 tp sh fi ik fd 0 (by omega)) mV_X3_found kM_X3_48 dX3_enough_31 rfl rfl [0, 11] rfl rfl rfl rfl rfl rfl rfl rfl ⟨Nat.le_of_ble_eq_true rfl, Nat.le_of_ble_eq_true rfl, Nat.le_of_ble_eq_true rfl⟩ ?_
    have e9 : opEnough g fd c n v = ((iI (-1000000001 - 0)), fnd fd 0) := by
      unfold opEnough; try unfold bI
      (repeat' split) <;> first | (exfalso; omega) | contradiction | rfl
    exact z_iretE (pc := 34) dX3_enough_34 gt okt (by rw [e9]) (by rw [e9])
  · skip
    refine z_iload_n (pc := 8) dX3_enough_8 2 rfl ?_
    refine z_iconst (pc := 9) dX3_enough_9 ?_
    refine z_bipush (pc := 10) dX3_enough_10 (by decide) ?_
    refine z_callS (pc := 12) (st := []) (st2 := [.int (bI (0 ≤ n ∧ n ≤ 100))]) (ws2 := [(x, .inr (3, [.ref h, .ref t, .ref k0, .int ik, .ref tp, .ref sh, .ref fi])), (h, oG g hK hH hM hO), (hK, .inl (cI, 8, .inl (aG g 0))), (hH, .inl (cI, 8, .inl (aG g 1))), (hM, .inl (cI, 8, .inl (aG g 2))), (hO, .inl (cI, 8, .inl (aG g 3))), (t, oG gt tK tH tM tO), (tK, .inl (cI, 8, .inl (aG gt 0))), (tH, .inl (cI, 8, .inl (aG gt 1))), (tM, .inl (cI, 8, .inl (aG gt 2))), (tO, .inl (cI, 8, .inl (aG gt 3))), (fi, .inl (cI, 7, .inl (ar fd)))]) (c_X3_within l D cI cJ cB cS xa n 0 100 (by omega) (by omega) (by omega)) mS_X3_within kM_X3_44 dX3_enough_12 [] rfl rfl rfl rfl rfl rfl rfl rfl ⟨Nat.le_of_ble_eq_true rfl, Nat.le_of_ble_eq_true rfl, Nat.le_of_ble_eq_true rfl⟩ ?_
    refine z_ifb_eq (pc := 15) (tgt := 29) dX3_enough_15 (by decide) (fun h15 => ?_) (fun h15 => ?_)
    · skip
      refine z_aload_n (pc := 29) dX3_enough_29 0 rfl ?_
      refine z_iconst (pc := 30) dX3_enough_30 ?_
      refine z_callV (pc := 31) (st := []) (st2 := [.int (iI (-1000000001 - 0))]) (ws2 := [(x, .inr (3, [.ref h, .ref t, .ref k0, .int ik, .ref tp, .ref sh, .ref fi])), (h, oG g hK hH hM hO), (hK, .inl (cI, 8, .inl (aG g 0))), (hH, .inl (cI, 8, .inl (aG g 1))), (hM, .inl (cI, 8, .inl (aG g 2))), (hO, .inl (cI, 8, .inl (aG g 3))), (t, oG gt tK tH tM tO), (tK, .inl (cI, 8, .inl (aG gt 0))), (tH, .inl (cI, 8, .inl (aG gt 1))), (tM, .inl (cI, 8, .inl (aG gt 2))), (tO, .inl (cI, 8, .inl (aG gt 3))), (fi, .inl (cI, 7, .inl (ar (fnd fd 0))))]) (q0 := 0) (c_X3_found l D cI cJ cB cS xa x h t k0 tp sh fi ik fd 0 (by omega)) mV_X3_found kM_X3_48 dX3_enough_31 rfl rfl [0, 11] rfl rfl rfl rfl rfl rfl rfl rfl ⟨Nat.le_of_ble_eq_true rfl, Nat.le_of_ble_eq_true rfl, Nat.le_of_ble_eq_true rfl⟩ ?_
      have e9 : opEnough g fd c n v = ((iI (-1000000001 - 0)), fnd fd 0) := by
        unfold opEnough; try unfold bI
        (repeat' split) <;> first | (exfalso; omega) | contradiction | rfl
      exact z_iretE (pc := 34) dX3_enough_34 gt okt (by rw [e9]) (by rw [e9])
    · skip
      refine z_iload_n (pc := 18) dX3_enough_18 3 rfl ?_
      refine z_iconst (pc := 19) dX3_enough_19 ?_
      refine z_sipush (pc := 20) dX3_enough_20 (by decide) ?_
      refine z_callS (pc := 23) (st := []) (st2 := [.int (bI (0 ≤ v ∧ v ≤ 200))]) (ws2 := [(x, .inr (3, [.ref h, .ref t, .ref k0, .int ik, .ref tp, .ref sh, .ref fi])), (h, oG g hK hH hM hO), (hK, .inl (cI, 8, .inl (aG g 0))), (hH, .inl (cI, 8, .inl (aG g 1))), (hM, .inl (cI, 8, .inl (aG g 2))), (hO, .inl (cI, 8, .inl (aG g 3))), (t, oG gt tK tH tM tO), (tK, .inl (cI, 8, .inl (aG gt 0))), (tH, .inl (cI, 8, .inl (aG gt 1))), (tM, .inl (cI, 8, .inl (aG gt 2))), (tO, .inl (cI, 8, .inl (aG gt 3))), (fi, .inl (cI, 7, .inl (ar fd)))]) (c_X3_within l D cI cJ cB cS xa v 0 200 (by omega) (by omega) (by omega)) mS_X3_within kM_X3_44 dX3_enough_23 [] rfl rfl rfl rfl rfl rfl rfl rfl ⟨Nat.le_of_ble_eq_true rfl, Nat.le_of_ble_eq_true rfl, Nat.le_of_ble_eq_true rfl⟩ ?_
      refine z_ifb_ne (pc := 26) (tgt := 35) dX3_enough_26 (by decide) (fun h26 => ?_) (fun h26 => ?_)
      · skip
        refine z_iconst (pc := 35) dX3_enough_35 ?_
        refine z_istore (pc := 36) (lv2 := [(4, .int (iI 0)), (0, .ref x), (1, .int (iI c)), (2, .int (iI n)), (3, .int (iI v))]) dX3_enough_36 (by decide) rfl ?_
        have LP38 : ∀ (nn_ : Nat) (k : Int) (gx : Gd), (0 ≤ k ∧ k ≤ 100) → (Ok gx) → (∀ j : Int, 0 ≤ j → j < k → ¬ (v ≤ minsG (pushG g c j) (Int.toNat n) 1 c)) → (100 - k).toNat < nn_ → Z xp l xe { frames := 6, cells := 0, slots := 0, locals := 134 } xs xm ([.ref x, .int (iI c), .int (iI n), .int (iI v)] : List Value).toArray xb xt xc 0 0 (MQ xb (Cq (S := Gd) D [(x, .inr (3, [.ref h, .ref t, .ref k0, .int ik, .ref tp, .ref sh, .ref fi])), (h, oG g hK hH hM hO), (hK, .inl (cI, 8, .inl (aG g 0))), (hH, .inl (cI, 8, .inl (aG g 1))), (hM, .inl (cI, 8, .inl (aG g 2))), (hO, .inl (cI, 8, .inl (aG g 3))), (t, oG gt tK tH tM tO), (tK, .inl (cI, 8, .inl (aG gt 0))), (tH, .inl (cI, 8, .inl (aG gt 1))), (tM, .inl (cI, 8, .inl (aG gt 2))), (tO, .inl (cI, 8, .inl (aG gt 3))), (fi, .inl (cI, 7, .inl (ar fd)))] (fun gt2 : Gd => Ok gt2) (fun gt2 : Gd => (some (.int ((opEnough g fd c n v).1)))) (fun gt2 : Gd => [(x, .inr (3, [.ref h, .ref t, .ref k0, .int ik, .ref tp, .ref sh, .ref fi])), (h, oG g hK hH hM hO), (hK, .inl (cI, 8, .inl (aG g 0))), (hH, .inl (cI, 8, .inl (aG g 1))), (hM, .inl (cI, 8, .inl (aG g 2))), (hO, .inl (cI, 8, .inl (aG g 3))), (t, oG gt2 tK tH tM tO), (tK, .inl (cI, 8, .inl (aG gt2 0))), (tH, .inl (cI, 8, .inl (aG gt2 1))), (tM, .inl (cI, 8, .inl (aG gt2 2))), (tO, .inl (cI, 8, .inl (aG gt2 3))), (fi, .inl (cI, 7, .inl (ar ((opEnough g fd c n v).2))))])) ([.ref x, .int (iI c), .int (iI n), .int (iI v)] : List Value).toArray xs 0 0 (va_A0 [(x, .inr (3, [.ref h, .ref t, .ref k0, .int ik, .ref tp, .ref sh, .ref fi])), (h, oG g hK hH hM hO), (hK, .inl (cI, 8, .inl (aG g 0))), (hH, .inl (cI, 8, .inl (aG g 1))), (hM, .inl (cI, 8, .inl (aG g 2))), (hO, .inl (cI, 8, .inl (aG g 3))), (t, oG gt tK tH tM tO), (tK, .inl (cI, 8, .inl (aG gt 0))), (tH, .inl (cI, 8, .inl (aG gt 1))), (tM, .inl (cI, 8, .inl (aG gt 2))), (tO, .inl (cI, 8, .inl (aG gt 3))), (fi, .inl (cI, 7, .inl (ar fd)))])) cX3_enough RX3 5 (some .int) D cI cJ cB cS xa (va_A0 [(x, .inr (3, [.ref h, .ref t, .ref k0, .int ik, .ref tp, .ref sh, .ref fi])), (h, oG g hK hH hM hO), (hK, .inl (cI, 8, .inl (aG g 0))), (hH, .inl (cI, 8, .inl (aG g 1))), (hM, .inl (cI, 8, .inl (aG g 2))), (hO, .inl (cI, 8, .inl (aG g 3))), (t, oG gt tK tH tM tO), (tK, .inl (cI, 8, .inl (aG gt 0))), (tH, .inl (cI, 8, .inl (aG gt 1))), (tM, .inl (cI, 8, .inl (aG gt 2))), (tO, .inl (cI, 8, .inl (aG gt 3))), (fi, .inl (cI, 7, .inl (ar fd)))]) [(x, .inr (3, [.ref h, .ref t, .ref k0, .int ik, .ref tp, .ref sh, .ref fi])), (h, oG g hK hH hM hO), (hK, .inl (cI, 8, .inl (aG g 0))), (hH, .inl (cI, 8, .inl (aG g 1))), (hM, .inl (cI, 8, .inl (aG g 2))), (hO, .inl (cI, 8, .inl (aG g 3))), (t, oG gx tK tH tM tO), (tK, .inl (cI, 8, .inl (aG gx 0))), (tH, .inl (cI, 8, .inl (aG gx 1))), (tM, .inl (cI, 8, .inl (aG gx 2))), (tO, .inl (cI, 8, .inl (aG gx 3))), (fi, .inl (cI, 7, .inl (ar fd)))] [(0, .ref x), (1, .int (iI c)), (2, .int (iI n)), (3, .int (iI v)), (4, .int (iI k))] 38 [] := by
          intro nn_
          induction nn_ with
          | zero => intro k gx hk hx hq hms; exact absurd hms (Nat.not_lt_zero _)
          | succ nn_ ih =>
            intro k gx hk hx hq hms
            have ih38 := ih
            clear ih
            refine z_iload (pc := 38) dX3_enough_38 4 rfl ?_
            refine z_bipush (pc := 40) dX3_enough_40 (by decide) ?_
            refine z_icmp_gt (pc := 42) (tgt := 78) dX3_enough_42 (by decide) (by omega) (by omega) (fun h42 => ?_) (fun h42 => ?_)
            · skip
              refine z_aload_n (pc := 78) dX3_enough_78 0 rfl ?_
              refine z_iconst (pc := 79) dX3_enough_79 ?_
              refine z_callV (pc := 80) (st := []) (st2 := [.int (iI (-1000000001 - 3))]) (ws2 := [(x, .inr (3, [.ref h, .ref t, .ref k0, .int ik, .ref tp, .ref sh, .ref fi])), (h, oG g hK hH hM hO), (hK, .inl (cI, 8, .inl (aG g 0))), (hH, .inl (cI, 8, .inl (aG g 1))), (hM, .inl (cI, 8, .inl (aG g 2))), (hO, .inl (cI, 8, .inl (aG g 3))), (t, oG gx tK tH tM tO), (tK, .inl (cI, 8, .inl (aG gx 0))), (tH, .inl (cI, 8, .inl (aG gx 1))), (tM, .inl (cI, 8, .inl (aG gx 2))), (tO, .inl (cI, 8, .inl (aG gx 3))), (fi, .inl (cI, 7, .inl (ar (fnd fd 3))))]) (q0 := 0) (c_X3_found l D cI cJ cB cS xa x h t k0 tp sh fi ik fd 3 (by omega)) mV_X3_found kM_X3_48 dX3_enough_80 rfl rfl [0, 11] rfl rfl rfl rfl rfl rfl rfl rfl ⟨Nat.le_of_ble_eq_true rfl, Nat.le_of_ble_eq_true rfl, Nat.le_of_ble_eq_true rfl⟩ ?_
              have e9 : opEnough g fd c n v = ((iI (-1000000001 - 3)), fnd fd 3) := by
                have ef := fst_none (fun k => v ≤ minsG (pushG g c k) (Int.toNat n) 1 c) 100 (fun j h0 h1 => hq j h0 (by omega))
                unfold opEnough foundI
                rw [if_pos ⟨⟨by omega, by omega⟩, ⟨by omega, by omega⟩, by omega, by omega⟩]
                rw [ef, if_neg (by omega)]
                rfl
              exact z_iretE (pc := 83) dX3_enough_83 gx hx (by rw [e9]) (by rw [e9])
            · skip
              have bv := okH (minsG_ok (pushG_ok ok c (v := k) (by omega)) (Int.toNat n) (by show g 4 0 + _ ≤ _; omega)) c
              refine z_aload_n (pc := 45) dX3_enough_45 0 rfl ?_
              refine z_callV (pc := 46) (st := []) (st2 := []) (ws2 := [(x, .inr (3, [.ref h, .ref t, .ref k0, .int ik, .ref tp, .ref sh, .ref fi])), (h, oG g hK hH hM hO), (hK, .inl (cI, 8, .inl (aG g 0))), (hH, .inl (cI, 8, .inl (aG g 1))), (hM, .inl (cI, 8, .inl (aG g 2))), (hO, .inl (cI, 8, .inl (aG g 3))), (t, oG (likeG gx g) tK tH tM tO), (tK, .inl (cI, 8, .inl (aG (likeG gx g) 0))), (tH, .inl (cI, 8, .inl (aG (likeG gx g) 1))), (tM, .inl (cI, 8, .inl (aG (likeG gx g) 2))), (tO, .inl (cI, 8, .inl (aG (likeG gx g) 3))), (fi, .inl (cI, 7, .inl (ar fd)))]) (q0 := 0) (c_X3_tryAsItIs l D cI cJ cB cS xa x h hK hH hM hO t tK tH tM tO k0 tp sh fi ik g gx ok hx) mV_X3_tryAsItIs kM_X3_145 dX3_enough_46 rfl rfl [0, 1, 2, 3, 4, 5, 6, 7, 8, 9, 10] rfl rfl rfl rfl rfl rfl rfl rfl ⟨Nat.le_of_ble_eq_true rfl, Nat.le_of_ble_eq_true rfl, Nat.le_of_ble_eq_true rfl⟩ ?_
              have ok46_1 : Ok (likeG gx g) := likeG_ok hx ok
              have f46_2 := (show likeG gx g 4 0 = g 4 0 from rfl)
              have f46_3 := (show likeG gx g 4 1 = g 4 1 from rfl)
              have f46_4 := (show likeG gx g 4 2 = g 4 2 from rfl)
              refine z_aload_n (pc := 49) dX3_enough_49 0 rfl ?_
              refine z_get (pc := 50) (q0 := 0) (v := .ref t) fL_X3_16 dX3_enough_50 rfl rfl ?_
              refine z_iload_n (pc := 53) dX3_enough_53 1 rfl ?_
              refine z_iload (pc := 54) dX3_enough_54 4 rfl ?_
              refine z_callV (pc := 56) (st := []) (st2 := []) (ws2 := [(x, .inr (3, [.ref h, .ref t, .ref k0, .int ik, .ref tp, .ref sh, .ref fi])), (h, oG g hK hH hM hO), (hK, .inl (cI, 8, .inl (aG g 0))), (hH, .inl (cI, 8, .inl (aG g 1))), (hM, .inl (cI, 8, .inl (aG g 2))), (hO, .inl (cI, 8, .inl (aG g 3))), (t, oG (pushG (likeG gx g) c k) tK tH tM tO), (tK, .inl (cI, 8, .inl (aG (pushG (likeG gx g) c k) 0))), (tH, .inl (cI, 8, .inl (aG (pushG (likeG gx g) c k) 1))), (tM, .inl (cI, 8, .inl (aG (pushG (likeG gx g) c k) 2))), (tO, .inl (cI, 8, .inl (aG (pushG (likeG gx g) c k) 3))), (fi, .inl (cI, 7, .inl (ar fd)))]) (q0 := 6) (c_X0_shove l D cI cJ cB cS xa t tK tH tM tO (likeG gx g) c k ok46_1 (by omega) (by omega) (by omega)) mV_X0_shove kM_X3_130 dX3_enough_56 rfl rfl [6, 7, 8, 9, 10] rfl rfl rfl rfl rfl rfl rfl rfl ⟨Nat.le_of_ble_eq_true rfl, Nat.le_of_ble_eq_true rfl, Nat.le_of_ble_eq_true rfl⟩ ?_
              have ok56_5 : Ok (pushG (likeG gx g) c k) := pushG_ok ok46_1 c (by omega)
              have f56_6 := (show pushG (likeG gx g) c k 4 0 = (likeG gx g) 4 0 from rfl)
              have f56_7 := (show pushG (likeG gx g) c k 4 2 = (likeG gx g) 4 2 from rfl)
              refine z_aload_n (pc := 59) dX3_enough_59 0 rfl ?_
              refine z_iload_n (pc := 60) dX3_enough_60 1 rfl ?_
              refine z_iload_n (pc := 61) dX3_enough_61 2 rfl ?_
              refine z_callV (pc := 62) (st := []) (st2 := [.int (iI (minsG (pushG (likeG gx g) c k) (Int.toNat n) 1 c))]) (ws2 := [(x, .inr (3, [.ref h, .ref t, .ref k0, .int ik, .ref tp, .ref sh, .ref fi])), (h, oG g hK hH hM hO), (hK, .inl (cI, 8, .inl (aG g 0))), (hH, .inl (cI, 8, .inl (aG g 1))), (hM, .inl (cI, 8, .inl (aG g 2))), (hO, .inl (cI, 8, .inl (aG g 3))), (t, oG (minsG (pushG (likeG gx g) c k) (Int.toNat n)) tK tH tM tO), (tK, .inl (cI, 8, .inl (aG (minsG (pushG (likeG gx g) c k) (Int.toNat n)) 0))), (tH, .inl (cI, 8, .inl (aG (minsG (pushG (likeG gx g) c k) (Int.toNat n)) 1))), (tM, .inl (cI, 8, .inl (aG (minsG (pushG (likeG gx g) c k) (Int.toNat n)) 2))), (tO, .inl (cI, 8, .inl (aG (minsG (pushG (likeG gx g) c k) (Int.toNat n)) 3))), (fi, .inl (cI, 7, .inl (ar fd)))]) (q0 := 0) (c_X3_heightLater l D cI cJ cB cS xa x h t tK tH tM tO k0 tp sh fi ik (pushG (likeG gx g) c k) c n ok56_5 (by omega) (by omega) (by omega)) mV_X3_heightLater kM_X3_155 dX3_enough_62 rfl rfl [0, 6, 7, 8, 9, 10] rfl rfl rfl rfl rfl rfl rfl rfl ⟨Nat.le_of_ble_eq_true rfl, Nat.le_of_ble_eq_true rfl, Nat.le_of_ble_eq_true rfl⟩ ?_
              have ok62_8 : Ok (minsG (pushG (likeG gx g) c k) (Int.toNat n)) := minsG_ok ok56_5 _ (by omega)
              have f62_9 := minsG_40 (pushG (likeG gx g) c k) (Int.toNat n)
              have f62_10 := minsG_42 (pushG (likeG gx g) c k) (Int.toNat n)
              have el : minsG (pushG (likeG gx g) c k) (Int.toNat n) 1 c = minsG (pushG g c k) (Int.toNat n) 1 c := later (agr_push (agr_like gx g) ⟨by omega, by show c < g 4 2; omega⟩) (ok56_5) (by omega) (by show g 4 0 + n ≤ 1000000; omega) (by decide) ⟨by omega, by show c < g 4 2; omega⟩
              refine z_st (st2 := [.int (iI (minsG (pushG g c k) (Int.toNat n) 1 c))]) (by rw [el]) ?_
              refine z_iload_n (pc := 65) dX3_enough_65 3 rfl ?_
              refine z_icmp_lt (pc := 66) (tgt := 72) dX3_enough_66 (by decide) (by omega) (by omega) (fun h66 => ?_) (fun h66 => ?_)
              · skip
                refine z_iinc (pc := 72) (lv2 := [(4, .int (iI (k + 1))), (0, .ref x), (1, .int (iI c)), (2, .int (iI n)), (3, .int (iI v))]) dX3_enough_72 4 rfl (by decide) rfl ?_
                refine z_goto (pc := 75) (tgt := 38) dX3_enough_75 (by decide) ?_
                refine z_lv (lv2 := [(0, .ref x), (1, .int (iI c)), (2, .int (iI n)), (3, .int (iI v)), (4, .int (iI (k + 1)))]) [1, 2, 3, 4, 0] rfl ?_
                exact ih38 (k + 1) (minsG (pushG (likeG gx g) c k) (Int.toNat n)) (by omega) (ok62_8) (lt_si hq (by show ¬ (v ≤ minsG (pushG g c k) (Int.toNat n) 1 c); omega)) (by omega)
              · skip
                refine z_iload (pc := 69) dX3_enough_69 4 rfl ?_
                have e9 : opEnough g fd c n v = ((iI k), fd) := by
                  have ef := fst_hit (fun k => v ≤ minsG (pushG g c k) (Int.toNat n) 1 c) 100 k (by omega) (by omega) (by show v ≤ minsG (pushG g c k) (Int.toNat n) 1 c; omega) hq
                  unfold opEnough foundI
                  rw [if_pos ⟨⟨by omega, by omega⟩, ⟨by omega, by omega⟩, by omega, by omega⟩]
                  rw [ef, if_pos (by omega)]
                exact z_iretE (pc := 71) dX3_enough_71 (minsG (pushG (likeG gx g) c k) (Int.toNat n)) ok62_8 (by rw [e9]) (by rw [e9])
        refine z_lv (lv2 := [(0, .ref x), (1, .int (iI c)), (2, .int (iI n)), (3, .int (iI v)), (4, .int (iI 0))]) [1, 2, 3, 4, 0] rfl ?_
        exact LP38 _ 0 gt (by omega) (okt) (fun j h0 h1 => absurd h1 (by omega)) (Nat.lt_succ_self _)
      · skip
        refine z_aload_n (pc := 29) dX3_enough_29 0 rfl ?_
        refine z_iconst (pc := 30) dX3_enough_30 ?_
        refine z_callV (pc := 31) (st := []) (st2 := [.int (iI (-1000000001 - 0))]) (ws2 := [(x, .inr (3, [.ref h, .ref t, .ref k0, .int ik, .ref tp, .ref sh, .ref fi])), (h, oG g hK hH hM hO), (hK, .inl (cI, 8, .inl (aG g 0))), (hH, .inl (cI, 8, .inl (aG g 1))), (hM, .inl (cI, 8, .inl (aG g 2))), (hO, .inl (cI, 8, .inl (aG g 3))), (t, oG gt tK tH tM tO), (tK, .inl (cI, 8, .inl (aG gt 0))), (tH, .inl (cI, 8, .inl (aG gt 1))), (tM, .inl (cI, 8, .inl (aG gt 2))), (tO, .inl (cI, 8, .inl (aG gt 3))), (fi, .inl (cI, 7, .inl (ar (fnd fd 0))))]) (q0 := 0) (c_X3_found l D cI cJ cB cS xa x h t k0 tp sh fi ik fd 0 (by omega)) mV_X3_found kM_X3_48 dX3_enough_31 rfl rfl [0, 11] rfl rfl rfl rfl rfl rfl rfl rfl ⟨Nat.le_of_ble_eq_true rfl, Nat.le_of_ble_eq_true rfl, Nat.le_of_ble_eq_true rfl⟩ ?_
        have e9 : opEnough g fd c n v = ((iI (-1000000001 - 0)), fnd fd 0) := by
          unfold opEnough; try unfold bI
          (repeat' split) <;> first | (exfalso; omega) | contradiction | rfl
        exact z_iretE (pc := 34) dX3_enough_34 gt okt (by rw [e9]) (by rw [e9])
set_option maxHeartbeats 8000000 in
set_option maxRecDepth 100000 in
theorem c_X3_debtor (l : Launch) (D : va_G) (cI cJ cB cS : ClassId) (xa : XA) (x h hK hH hM hO t tK tH tM tO k0 tp sh fi : Nat) (ik : Int32) (g : Gd) (fd : FF) (gt : Gd) (n : Int) (ok : Ok g) (rn : inr n) (okt : Ok gt) (hm : g 4 0 ≤ 99999) : CtE (S := Gd) l D cI cJ cB cS xa yX3_debtor cX3_debtor 2 (some .int) 5 112 [.ref x, .int (iI n)] [(x, .inr (3, [.ref h, .ref t, .ref k0, .int ik, .ref tp, .ref sh, .ref fi])), (h, oG g hK hH hM hO), (hK, .inl (cI, 8, .inl (aG g 0))), (hH, .inl (cI, 8, .inl (aG g 1))), (hM, .inl (cI, 8, .inl (aG g 2))), (hO, .inl (cI, 8, .inl (aG g 3))), (t, oG gt tK tH tM tO), (tK, .inl (cI, 8, .inl (aG gt 0))), (tH, .inl (cI, 8, .inl (aG gt 1))), (tM, .inl (cI, 8, .inl (aG gt 2))), (tO, .inl (cI, 8, .inl (aG gt 3))), (fi, .inl (cI, 7, .inl (ar fd)))] (fun gt2 : Gd => Ok gt2) (fun gt2 : Gd => (some (.int ((opDebtor g fd n).1)))) (fun gt2 : Gd => [(x, .inr (3, [.ref h, .ref t, .ref k0, .int ik, .ref tp, .ref sh, .ref fi])), (h, oG g hK hH hM hO), (hK, .inl (cI, 8, .inl (aG g 0))), (hH, .inl (cI, 8, .inl (aG g 1))), (hM, .inl (cI, 8, .inl (aG g 2))), (hO, .inl (cI, 8, .inl (aG g 3))), (t, oG gt2 tK tH tM tO), (tK, .inl (cI, 8, .inl (aG gt2 0))), (tH, .inl (cI, 8, .inl (aG gt2 1))), (tM, .inl (cI, 8, .inl (aG gt2 2))), (tO, .inl (cI, 8, .inl (aG gt2 3))), (fi, .inl (cI, 7, .inl (ar ((opDebtor g fd n).2))))]) := by
  have o0 := ok0 ok
  have o1 := ok1 ok
  have o2 := ok2 ok
  refine CtE.of (own := RX3) (lv := [(0, .ref x), (1, .int (iI n))]) (by decide) rfl rfl (Nat.le_of_ble_eq_true rfl) ?_
  intro xp xe xs xm xb xt xc
  refine z_iload_n (pc := 0) dX3_debtor_0 1 rfl ?_
  refine z_iconst (pc := 1) dX3_debtor_1 ?_
  refine z_sipush (pc := 2) dX3_debtor_2 (by decide) ?_
  refine z_callS (pc := 5) (st := []) (st2 := [.int (bI (0 ≤ n ∧ n ≤ 400))]) (ws2 := [(x, .inr (3, [.ref h, .ref t, .ref k0, .int ik, .ref tp, .ref sh, .ref fi])), (h, oG g hK hH hM hO), (hK, .inl (cI, 8, .inl (aG g 0))), (hH, .inl (cI, 8, .inl (aG g 1))), (hM, .inl (cI, 8, .inl (aG g 2))), (hO, .inl (cI, 8, .inl (aG g 3))), (t, oG gt tK tH tM tO), (tK, .inl (cI, 8, .inl (aG gt 0))), (tH, .inl (cI, 8, .inl (aG gt 1))), (tM, .inl (cI, 8, .inl (aG gt 2))), (tO, .inl (cI, 8, .inl (aG gt 3))), (fi, .inl (cI, 7, .inl (ar fd)))]) (c_X3_within l D cI cJ cB cS xa n 0 400 (by omega) (by omega) (by omega)) mS_X3_within kM_X3_44 dX3_debtor_5 [] rfl rfl rfl rfl rfl rfl rfl rfl ⟨Nat.le_of_ble_eq_true rfl, Nat.le_of_ble_eq_true rfl, Nat.le_of_ble_eq_true rfl⟩ ?_
  refine z_ifb_ne (pc := 8) (tgt := 17) dX3_debtor_8 (by decide) (fun h8 => ?_) (fun h8 => ?_)
  · skip
    refine z_aload_n (pc := 17) dX3_debtor_17 0 rfl ?_
    refine z_get (pc := 18) (q0 := 0) (v := .ref h) fL_X3_10 dX3_debtor_18 rfl rfl ?_
    refine z_get (pc := 21) (q0 := 1) (v := .int (iI (g 4 2))) fL_X3_159 dX3_debtor_21 rfl rfl ?_
    refine z_if_ne (pc := 24) (tgt := 33) dX3_debtor_24 (by decide) (by omega) (fun h24 => ?_) (fun h24 => ?_)
    · skip
      refine z_aload_n (pc := 33) dX3_debtor_33 0 rfl ?_
      refine z_callV (pc := 34) (st := []) (st2 := []) (ws2 := [(x, .inr (3, [.ref h, .ref t, .ref k0, .int ik, .ref tp, .ref sh, .ref fi])), (h, oG g hK hH hM hO), (hK, .inl (cI, 8, .inl (aG g 0))), (hH, .inl (cI, 8, .inl (aG g 1))), (hM, .inl (cI, 8, .inl (aG g 2))), (hO, .inl (cI, 8, .inl (aG g 3))), (t, oG (likeG gt g) tK tH tM tO), (tK, .inl (cI, 8, .inl (aG (likeG gt g) 0))), (tH, .inl (cI, 8, .inl (aG (likeG gt g) 1))), (tM, .inl (cI, 8, .inl (aG (likeG gt g) 2))), (tO, .inl (cI, 8, .inl (aG (likeG gt g) 3))), (fi, .inl (cI, 7, .inl (ar fd)))]) (q0 := 0) (c_X3_tryAsItIs l D cI cJ cB cS xa x h hK hH hM hO t tK tH tM tO k0 tp sh fi ik g gt ok okt) mV_X3_tryAsItIs kM_X3_145 dX3_debtor_34 rfl rfl [0, 1, 2, 3, 4, 5, 6, 7, 8, 9, 10] rfl rfl rfl rfl rfl rfl rfl rfl ⟨Nat.le_of_ble_eq_true rfl, Nat.le_of_ble_eq_true rfl, Nat.le_of_ble_eq_true rfl⟩ ?_
      have ok34_1 : Ok (likeG gt g) := likeG_ok okt ok
      have f34_2 := (show likeG gt g 4 0 = g 4 0 from rfl)
      have f34_3 := (show likeG gt g 4 1 = g 4 1 from rfl)
      have f34_4 := (show likeG gt g 4 2 = g 4 2 from rfl)
      refine z_aload_n (pc := 37) dX3_debtor_37 0 rfl ?_
      refine z_get (pc := 38) (q0 := 0) (v := .ref t) fL_X3_16 dX3_debtor_38 rfl rfl ?_
      refine z_iload_n (pc := 41) dX3_debtor_41 1 rfl ?_
      refine z_callV (pc := 42) (st := []) (st2 := []) (ws2 := [(x, .inr (3, [.ref h, .ref t, .ref k0, .int ik, .ref tp, .ref sh, .ref fi])), (h, oG g hK hH hM hO), (hK, .inl (cI, 8, .inl (aG g 0))), (hH, .inl (cI, 8, .inl (aG g 1))), (hM, .inl (cI, 8, .inl (aG g 2))), (hO, .inl (cI, 8, .inl (aG g 3))), (t, oG (minsG (likeG gt g) (Int.toNat n)) tK tH tM tO), (tK, .inl (cI, 8, .inl (aG (minsG (likeG gt g) (Int.toNat n)) 0))), (tH, .inl (cI, 8, .inl (aG (minsG (likeG gt g) (Int.toNat n)) 1))), (tM, .inl (cI, 8, .inl (aG (minsG (likeG gt g) (Int.toNat n)) 2))), (tO, .inl (cI, 8, .inl (aG (minsG (likeG gt g) (Int.toNat n)) 3))), (fi, .inl (cI, 7, .inl (ar fd)))]) (q0 := 6) (c_X0_goOn l D cI cJ cB cS xa t tK tH tM tO (likeG gt g) n ok34_1 (by omega) (by omega)) mV_X0_goOn kM_X3_141 dX3_debtor_42 rfl rfl [6, 7, 8, 9, 10] rfl rfl rfl rfl rfl rfl rfl rfl ⟨Nat.le_of_ble_eq_true rfl, Nat.le_of_ble_eq_true rfl, Nat.le_of_ble_eq_true rfl⟩ ?_
      have ok42_5 : Ok (minsG (likeG gt g) (Int.toNat n)) := minsG_ok ok34_1 _ (by omega)
      have f42_6 := minsG_40 (likeG gt g) (Int.toNat n)
      have f42_7 := minsG_41 (likeG gt g) (Int.toNat n)
      have f42_8 := minsG_42 (likeG gt g) (Int.toNat n)
      refine z_aload_n (pc := 45) dX3_debtor_45 0 rfl ?_
      refine z_get (pc := 46) (q0 := 0) (v := .ref t) fL_X3_16 dX3_debtor_46 rfl rfl ?_
      refine z_aload_n (pc := 49) dX3_debtor_49 0 rfl ?_
      refine z_get (pc := 50) (q0 := 0) (v := .ref t) fL_X3_16 dX3_debtor_50 rfl rfl ?_
      refine z_get (pc := 53) (q0 := 6) (v := .ref tO) fL_X3_110 dX3_debtor_53 rfl rfl ?_
      refine z_callV (pc := 56) (st := []) (st2 := [.int (iI (mostN ((minsG (likeG gt g) (Int.toNat n)) 3) (many (minsG (likeG gt g) (Int.toNat n)))))]) (ws2 := [(x, .inr (3, [.ref h, .ref t, .ref k0, .int ik, .ref tp, .ref sh, .ref fi])), (h, oG g hK hH hM hO), (hK, .inl (cI, 8, .inl (aG g 0))), (hH, .inl (cI, 8, .inl (aG g 1))), (hM, .inl (cI, 8, .inl (aG g 2))), (hO, .inl (cI, 8, .inl (aG g 3))), (t, oG (minsG (likeG gt g) (Int.toNat n)) tK tH tM tO), (tK, .inl (cI, 8, .inl (aG (minsG (likeG gt g) (Int.toNat n)) 0))), (tH, .inl (cI, 8, .inl (aG (minsG (likeG gt g) (Int.toNat n)) 1))), (tM, .inl (cI, 8, .inl (aG (minsG (likeG gt g) (Int.toNat n)) 2))), (tO, .inl (cI, 8, .inl (aG (minsG (likeG gt g) (Int.toNat n)) 3))), (fi, .inl (cI, 7, .inl (ar fd)))]) (q0 := 6) (c_X0_firstOfMost l D cI cJ cB cS xa t tK tH tM tO (minsG (likeG gt g) (Int.toNat n)) tO 3 ok42_5 (fun c => ⟨by have := okO ok42_5 c; omega, by have := okO ok42_5 c; omega⟩)) mV_X0_firstOfMost kM_X3_165 dX3_debtor_56 rfl rfl [6, 10] rfl rfl rfl rfl rfl rfl rfl rfl ⟨Nat.le_of_ble_eq_true rfl, Nat.le_of_ble_eq_true rfl, Nat.le_of_ble_eq_true rfl⟩ ?_
      have f56_9 := mostG_rng ok42_5 3
      have e9 : opDebtor g fd n = ((iI (mostN ((minsG (likeG gt g) (Int.toNat n)) 3) (many (minsG (likeG gt g) (Int.toNat n))))), fd) := by
        have a9 := agr_mins (agr_like gt g) ok34_1 (Int.toNat n) (by show g 4 0 + _ ≤ _; omega)
        have o9 := ok42_5
        have m9 := mostG_rng o9 3
        have e9a : mostN (minsG (likeG gt g) (Int.toNat n) 3) (many (minsG (likeG gt g) (Int.toNat n))) = mostN (minsG g (Int.toNat n) 3) (many (minsG g (Int.toNat n))) := by rw [← agr_many a9]; exact agr_most a9 (by decide) _ (many_le o9)
        unfold opDebtor noneI
        rw [if_pos ⟨by omega, by omega⟩, ← e9a, if_neg (by omega)]
      exact z_iretE (pc := 59) dX3_debtor_59 (minsG (likeG gt g) (Int.toNat n)) ok42_5 (by rw [e9]) (by rw [e9])
    · skip
      refine z_aload_n (pc := 27) dX3_debtor_27 0 rfl ?_
      refine z_iconst (pc := 28) dX3_debtor_28 ?_
      refine z_callV (pc := 29) (st := []) (st2 := [.int (iI (-1000000001 - 3))]) (ws2 := [(x, .inr (3, [.ref h, .ref t, .ref k0, .int ik, .ref tp, .ref sh, .ref fi])), (h, oG g hK hH hM hO), (hK, .inl (cI, 8, .inl (aG g 0))), (hH, .inl (cI, 8, .inl (aG g 1))), (hM, .inl (cI, 8, .inl (aG g 2))), (hO, .inl (cI, 8, .inl (aG g 3))), (t, oG gt tK tH tM tO), (tK, .inl (cI, 8, .inl (aG gt 0))), (tH, .inl (cI, 8, .inl (aG gt 1))), (tM, .inl (cI, 8, .inl (aG gt 2))), (tO, .inl (cI, 8, .inl (aG gt 3))), (fi, .inl (cI, 7, .inl (ar (fnd fd 3))))]) (q0 := 0) (c_X3_found l D cI cJ cB cS xa x h t k0 tp sh fi ik fd 3 (by omega)) mV_X3_found kM_X3_48 dX3_debtor_29 rfl rfl [0, 11] rfl rfl rfl rfl rfl rfl rfl rfl ⟨Nat.le_of_ble_eq_true rfl, Nat.le_of_ble_eq_true rfl, Nat.le_of_ble_eq_true rfl⟩ ?_
      have e9 : opDebtor g fd n = ((iI (-1000000001 - 3)), fnd fd 3) := by
        unfold opDebtor noneI
        rw [if_pos ⟨by omega, by omega⟩, if_pos]
        · rfl
        · have e : many (minsG g (Int.toNat n)) = 0 := by unfold many; rw [minsG_42]; omega
          rw [e]; show (-1 : Int) < 0; decide
      exact z_iretE (pc := 32) dX3_debtor_32 gt okt (by rw [e9]) (by rw [e9])
  · skip
    refine z_aload_n (pc := 11) dX3_debtor_11 0 rfl ?_
    refine z_iconst (pc := 12) dX3_debtor_12 ?_
    refine z_callV (pc := 13) (st := []) (st2 := [.int (iI (-1000000001 - 0))]) (ws2 := [(x, .inr (3, [.ref h, .ref t, .ref k0, .int ik, .ref tp, .ref sh, .ref fi])), (h, oG g hK hH hM hO), (hK, .inl (cI, 8, .inl (aG g 0))), (hH, .inl (cI, 8, .inl (aG g 1))), (hM, .inl (cI, 8, .inl (aG g 2))), (hO, .inl (cI, 8, .inl (aG g 3))), (t, oG gt tK tH tM tO), (tK, .inl (cI, 8, .inl (aG gt 0))), (tH, .inl (cI, 8, .inl (aG gt 1))), (tM, .inl (cI, 8, .inl (aG gt 2))), (tO, .inl (cI, 8, .inl (aG gt 3))), (fi, .inl (cI, 7, .inl (ar (fnd fd 0))))]) (q0 := 0) (c_X3_found l D cI cJ cB cS xa x h t k0 tp sh fi ik fd 0 (by omega)) mV_X3_found kM_X3_48 dX3_debtor_13 rfl rfl [0, 11] rfl rfl rfl rfl rfl rfl rfl rfl ⟨Nat.le_of_ble_eq_true rfl, Nat.le_of_ble_eq_true rfl, Nat.le_of_ble_eq_true rfl⟩ ?_
    have e9 : opDebtor g fd n = ((iI (-1000000001 - 0)), fnd fd 0) := by
      unfold opDebtor; try unfold bI
      (repeat' split) <;> first | (exfalso; omega) | contradiction | rfl
    exact z_iretE (pc := 16) dX3_debtor_16 gt okt (by rw [e9]) (by rw [e9])
