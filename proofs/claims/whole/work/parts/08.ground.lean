set_option maxHeartbeats 8000000 in
set_option maxRecDepth 100000 in
theorem c_X0_hasRoom (l : Launch) (D : va_G) (cI cJ cB cS : ClassId) (xa : XA) (h hK hH hM hO : Nat) (g : Gd) (ok : Ok g) : Ct l D cI cJ cB cS xa yX0_hasRoom cX0_hasRoom 1 (some .boolean) 0 0 [.ref h] [(h, oG g hK hH hM hO)] (some (.int (bI (g 4 2 < 8)))) [(h, oG g hK hH hM hO)] := by
  have o0 := ok0 ok
  have o1 := ok1 ok
  have o2 := ok2 ok
  refine CtE.of (own := RX0) (lv := [(0, .ref h)]) (by decide) rfl rfl (Nat.le_of_ble_eq_true rfl) ?_
  intro xp xe xs xm xb xt xc
  refine z_aload_n (pc := 0) dX0_hasRoom_0 0 rfl ?_
  refine z_get (pc := 1) (q0 := 0) (v := .int (iI (g 4 2))) fL_X0_16 dX0_hasRoom_1 rfl rfl ?_
  refine z_bipush (pc := 4) dX0_hasRoom_4 (by decide) ?_
  refine z_icmp_ge (pc := 6) (tgt := 13) dX0_hasRoom_6 (by decide) (by omega) (by omega) (fun h6 => ?_) (fun h6 => ?_)
  · skip
    refine z_iconst (pc := 13) dX0_hasRoom_13 ?_
    exact z_zret (pc := 14) (by decide) dX0_hasRoom_14 (congrArg (fun z => some (Value.int z)) (bI_f (by omega))) rfl
  · skip
    refine z_iconst (pc := 9) dX0_hasRoom_9 ?_
    refine z_goto (pc := 10) (tgt := 14) dX0_hasRoom_10 (by decide) ?_
    exact z_zret (pc := 14) (by decide) dX0_hasRoom_14 (congrArg (fun z => some (Value.int z)) (bI_t (by omega))) rfl
set_option maxHeartbeats 8000000 in
set_option maxRecDepth 100000 in
theorem c_X0_minuteOfDay (l : Launch) (D : va_G) (cI cJ cB cS : ClassId) (xa : XA) (h hK hH hM hO : Nat) (g : Gd) (ok : Ok g) : Ct l D cI cJ cB cS xa yX0_minuteOfDay cX0_minuteOfDay 1 (some .int) 0 0 [.ref h] [(h, oG g hK hH hM hO)] (some (.int (iI (g 4 0 % 60)))) [(h, oG g hK hH hM hO)] := by
  have o0 := ok0 ok
  have o1 := ok1 ok
  have o2 := ok2 ok
  refine CtE.of (own := RX0) (lv := [(0, .ref h)]) (by decide) rfl rfl (Nat.le_of_ble_eq_true rfl) ?_
  intro xp xe xs xm xb xt xc
  refine z_aload_n (pc := 0) dX0_minuteOfDay_0 0 rfl ?_
  refine z_get (pc := 1) (q0 := 0) (v := .int (iI (g 4 0))) fL_X0_7 dX0_minuteOfDay_1 rfl rfl ?_
  refine z_bipush (pc := 4) dX0_minuteOfDay_4 (by decide) ?_
  refine z_irem (pc := 6) dX0_minuteOfDay_6 (by omega) ?_
  exact z_iret (pc := 7) dX0_minuteOfDay_7 (congrArg (fun z => some (Value.int (iI z))) (show (g 4 0 % 60) = (g 4 0) % 60 from by omega)) rfl
set_option maxHeartbeats 8000000 in
set_option maxRecDepth 100000 in
theorem c_X0_isDusk (l : Launch) (D : va_G) (cI cJ cB cS : ClassId) (xa : XA) (h hK hH hM hO : Nat) (g : Gd) (ok : Ok g) : Ct l D cI cJ cB cS xa yX0_isDusk cX0_isDusk 1 (some .boolean) 1 20 [.ref h] [(h, oG g hK hH hM hO)] (some (.int (bI (dusk g)))) [(h, oG g hK hH hM hO)] := by
  have o0 := ok0 ok
  have o1 := ok1 ok
  have o2 := ok2 ok
  refine CtE.of (own := RX0) (lv := [(0, .ref h)]) (by decide) rfl rfl (Nat.le_of_ble_eq_true rfl) ?_
  intro xp xe xs xm xb xt xc
  refine z_aload_n (pc := 0) dX0_isDusk_0 0 rfl ?_
  refine z_callV (pc := 1) (st := []) (st2 := [.int (iI (g 4 0 % 60))]) (ws2 := [(h, oG g hK hH hM hO)]) (q0 := 0) (c_X0_minuteOfDay l D cI cJ cB cS xa h hK hH hM hO g ok) mV_X0_minuteOfDay kM_X0_51 dX0_isDusk_1 rfl rfl [0] rfl rfl rfl rfl rfl rfl rfl rfl ⟨Nat.le_of_ble_eq_true rfl, Nat.le_of_ble_eq_true rfl, Nat.le_of_ble_eq_true rfl⟩ ?_
  refine z_aload_n (pc := 4) dX0_isDusk_4 0 rfl ?_
  refine z_get (pc := 5) (q0 := 0) (v := .int (iI (g 4 1))) fL_X0_13 dX0_isDusk_5 rfl rfl ?_
  refine z_icmp_lt (pc := 8) (tgt := 15) dX0_isDusk_8 (by decide) (by omega) (by omega) (fun h8 => ?_) (fun h8 => ?_)
  · skip
    refine z_iconst (pc := 15) dX0_isDusk_15 ?_
    exact z_zret (pc := 16) (by decide) dX0_isDusk_16 (congrArg (fun z => some (Value.int z)) (bI_f (by omega))) rfl
  · skip
    refine z_iconst (pc := 11) dX0_isDusk_11 ?_
    refine z_goto (pc := 12) (tgt := 16) dX0_isDusk_12 (by decide) ?_
    exact z_zret (pc := 16) (by decide) dX0_isDusk_16 (congrArg (fun z => some (Value.int z)) (bI_t (by omega))) rfl
set_option maxHeartbeats 8000000 in
set_option maxRecDepth 100000 in
theorem c_X0_isSaturday (l : Launch) (D : va_G) (cI cJ cB cS : ClassId) (xa : XA) (h hK hH hM hO : Nat) (g : Gd) (ok : Ok g) : Ct l D cI cJ cB cS xa yX0_isSaturday cX0_isSaturday 1 (some .boolean) 0 0 [.ref h] [(h, oG g hK hH hM hO)] (some (.int (bI (satur g)))) [(h, oG g hK hH hM hO)] := by
  have o0 := ok0 ok
  have o1 := ok1 ok
  have o2 := ok2 ok
  refine CtE.of (own := RX0) (lv := [(0, .ref h)]) (by decide) rfl rfl (Nat.le_of_ble_eq_true rfl) ?_
  intro xp xe xs xm xb xt xc
  refine z_aload_n (pc := 0) dX0_isSaturday_0 0 rfl ?_
  refine z_get (pc := 1) (q0 := 0) (v := .int (iI (g 4 0))) fL_X0_7 dX0_isSaturday_1 rfl rfl ?_
  refine z_bipush (pc := 4) dX0_isSaturday_4 (by decide) ?_
  refine z_idiv (pc := 6) dX0_isSaturday_6 (by omega) ?_
  refine z_bipush (pc := 7) dX0_isSaturday_7 (by decide) ?_
  refine z_irem (pc := 9) dX0_isSaturday_9 (by omega) ?_
  refine z_iconst (pc := 10) dX0_isSaturday_10 ?_
  refine z_icmp_ne (pc := 11) (tgt := 18) dX0_isSaturday_11 (by decide) (by omega) (by omega) (fun h11 => ?_) (fun h11 => ?_)
  · skip
    refine z_iconst (pc := 18) dX0_isSaturday_18 ?_
    exact z_zret (pc := 19) (by decide) dX0_isSaturday_19 (congrArg (fun z => some (Value.int z)) (bI_f (by omega))) rfl
  · skip
    refine z_iconst (pc := 14) dX0_isSaturday_14 ?_
    refine z_goto (pc := 15) (tgt := 19) dX0_isSaturday_15 (by decide) ?_
    exact z_zret (pc := 19) (by decide) dX0_isSaturday_19 (congrArg (fun z => some (Value.int z)) (bI_t (by omega))) rfl
set_option maxHeartbeats 8000000 in
set_option maxRecDepth 100000 in
theorem c_X0_nextOf (l : Launch) (D : va_G) (cI cJ cB cS : ClassId) (xa : XA) (h hK hH hM hO : Nat) (g : Gd) (c : Int) (ok : Ok g) (hc0 : 0 ≤ c) (hc1 : c < g 4 2) : Ct l D cI cJ cB cS xa yX0_nextOf cX0_nextOf 2 (some .int) 0 0 [.ref h, .int (iI c)] [(h, oG g hK hH hM hO)] (some (.int (iI (nextG g c)))) [(h, oG g hK hH hM hO)] := by
  have o0 := ok0 ok
  have o1 := ok1 ok
  have o2 := ok2 ok
  refine CtE.of (own := RX0) (lv := [(0, .ref h), (1, .int (iI c))]) (by decide) rfl rfl (Nat.le_of_ble_eq_true rfl) ?_
  intro xp xe xs xm xb xt xc
  refine z_iload_n (pc := 0) dX0_nextOf_0 1 rfl ?_
  refine z_iconst (pc := 1) dX0_nextOf_1 ?_
  refine z_iadd (pc := 2) dX0_nextOf_2 ?_
  refine z_aload_n (pc := 3) dX0_nextOf_3 0 rfl ?_
  refine z_get (pc := 4) (q0 := 0) (v := .int (iI (g 4 2))) fL_X0_16 dX0_nextOf_4 rfl rfl ?_
  refine z_icmp_ge (pc := 7) (tgt := 16) dX0_nextOf_7 (by decide) (by omega) (by omega) (fun h7 => ?_) (fun h7 => ?_)
  · skip
    refine z_iconst (pc := 16) dX0_nextOf_16 ?_
    exact z_iret (pc := 17) dX0_nextOf_17 (congrArg (fun z => some (Value.int (iI z))) (show (nextG g c) = 0 from by unfold nextG; split <;> omega)) rfl
  · skip
    refine z_iload_n (pc := 10) dX0_nextOf_10 1 rfl ?_
    refine z_iconst (pc := 11) dX0_nextOf_11 ?_
    refine z_iadd (pc := 12) dX0_nextOf_12 ?_
    refine z_goto (pc := 13) (tgt := 17) dX0_nextOf_13 (by decide) ?_
    exact z_iret (pc := 17) dX0_nextOf_17 (congrArg (fun z => some (Value.int (iI z))) (show (nextG g c) = c + 1 from by unfold nextG; split <;> omega)) rfl
set_option maxHeartbeats 8000000 in
set_option maxRecDepth 100000 in
theorem c_X0_paysOf (l : Launch) (D : va_G) (cI cJ cB cS : ClassId) (xa : XA) (h hK hH hM hO : Nat) (g : Gd) (c : Int) (ok : Ok g) (hc0 : 0 ≤ c) (hc1 : c < g 4 2) : Ct l D cI cJ cB cS xa yX0_paysOf cX0_paysOf 2 (some .int) 0 0 [.ref h, .int (iI c)] [(h, oG g hK hH hM hO), (hK, .inl (cI, 8, .inl (aG g 0)))] (some (.int (iI (paysG g c)))) [(h, oG g hK hH hM hO), (hK, .inl (cI, 8, .inl (aG g 0)))] := by
  have o0 := ok0 ok
  have o1 := ok1 ok
  have o2 := ok2 ok
  refine CtE.of (own := RX0) (lv := [(0, .ref h), (1, .int (iI c))]) (by decide) rfl rfl (Nat.le_of_ble_eq_true rfl) ?_
  intro xp xe xs xm xb xt xc
  refine z_aload_n (pc := 0) dX0_paysOf_0 0 rfl ?_
  refine z_get (pc := 1) (q0 := 0) (v := .ref hK) fL_X0_19 dX0_paysOf_1 rfl rfl ?_
  refine z_iload_n (pc := 4) dX0_paysOf_4 1 rfl ?_
  refine z_iald (pc := 5) (q0 := 1) (v := (iI (g 0 c))) dX0_paysOf_5 rfl (by omega) (by decide) (aG_at (by omega)) ?_
  have b1 := okK ok c
  refine z_iconst (pc := 6) dX0_paysOf_6 ?_
  refine z_icmp_ne (pc := 7) (tgt := 14) dX0_paysOf_7 (by decide) (by omega) (by omega) (fun h7 => ?_) (fun h7 => ?_)
  · skip
    refine z_iconst (pc := 14) dX0_paysOf_14 ?_
    exact z_iret (pc := 15) dX0_paysOf_15 (congrArg (fun z => some (Value.int (iI z))) (show (paysG g c) = 0 from by unfold paysG; split <;> omega)) rfl
  · skip
    refine z_iconst (pc := 10) dX0_paysOf_10 ?_
    refine z_goto (pc := 11) (tgt := 15) dX0_paysOf_11 (by decide) ?_
    exact z_iret (pc := 15) dX0_paysOf_15 (congrArg (fun z => some (Value.int (iI z))) (show (paysG g c) = 1 from by unfold paysG; split <;> omega)) rfl
set_option maxHeartbeats 8000000 in
set_option maxRecDepth 100000 in
theorem c_X0_shove (l : Launch) (D : va_G) (cI cJ cB cS : ClassId) (xa : XA) (h hK hH hM hO : Nat) (g : Gd) (c v : Int) (ok : Ok g) (hc0 : 0 ≤ c) (hc1 : c < g 4 2) (hv : 0 ≤ v ∧ v ≤ 99) : Ct l D cI cJ cB cS xa yX0_shove cX0_shove 3 none 1 21 [.ref h, .int (iI c), .int (iI v)] [(h, oG g hK hH hM hO), (hK, .inl (cI, 8, .inl (aG g 0))), (hH, .inl (cI, 8, .inl (aG g 1))), (hM, .inl (cI, 8, .inl (aG g 2))), (hO, .inl (cI, 8, .inl (aG g 3)))] none [(h, oG (pushG g c v) hK hH hM hO), (hK, .inl (cI, 8, .inl (aG (pushG g c v) 0))), (hH, .inl (cI, 8, .inl (aG (pushG g c v) 1))), (hM, .inl (cI, 8, .inl (aG (pushG g c v) 2))), (hO, .inl (cI, 8, .inl (aG (pushG g c v) 3)))] := by
  have o0 := ok0 ok
  have o1 := ok1 ok
  have o2 := ok2 ok
  refine CtE.of (own := RX0) (lv := [(0, .ref h), (1, .int (iI c)), (2, .int (iI v))]) (by decide) rfl rfl (Nat.le_of_ble_eq_true rfl) ?_
  intro xp xe xs xm xb xt xc
  refine z_aload_n (pc := 0) dX0_shove_0 0 rfl ?_
  refine z_get (pc := 1) (q0 := 0) (v := .ref hH) fL_X0_23 dX0_shove_1 rfl rfl ?_
  refine z_iload_n (pc := 4) dX0_shove_4 1 rfl ?_
  refine z_aload_n (pc := 5) dX0_shove_5 0 rfl ?_
  refine z_get (pc := 6) (q0 := 0) (v := .ref hH) fL_X0_23 dX0_shove_6 rfl rfl ?_
  refine z_iload_n (pc := 9) dX0_shove_9 1 rfl ?_
  refine z_iald (pc := 10) (q0 := 2) (v := (iI (g 1 c))) dX0_shove_10 rfl (by omega) (by decide) (aG_at (by omega)) ?_
  have b1 := okH ok c
  refine z_iload_n (pc := 11) dX0_shove_11 2 rfl ?_
  refine z_iadd (pc := 12) dX0_shove_12 ?_
  refine z_sipush (pc := 13) dX0_shove_13 (by decide) ?_
  refine z_min (pc := 16) mmin_X0_41 dX0_shove_16 (by omega) (by omega) ⟨Nat.le_of_ble_eq_true rfl, Nat.le_of_ble_eq_true rfl⟩ ?_
  refine z_iast (pc := 19) (q0 := 2) (ws2 := [(h, oG (up2 g 1 c (min ((g 1 c) + v) 200)) hK hH hM hO), (hK, .inl (cI, 8, .inl (aG (up2 g 1 c (min ((g 1 c) + v) 200)) 0))), (hH, .inl (cI, 8, .inl (aG (up2 g 1 c (min ((g 1 c) + v) 200)) 1))), (hM, .inl (cI, 8, .inl (aG (up2 g 1 c (min ((g 1 c) + v) 200)) 2))), (hO, .inl (cI, 8, .inl (aG (up2 g 1 c (min ((g 1 c) + v) 200)) 3)))]) dX0_shove_19 rfl (by omega) (by decide) (by rw [aG_up (by omega)]; rfl) ?_
  exact z_vret (pc := 20) dX0_shove_20 rfl rfl
set_option maxHeartbeats 8000000 in
set_option maxRecDepth 100000 in
theorem c_X0_becomeLike (l : Launch) (D : va_G) (cI cJ cB cS : ClassId) (xa : XA) (h hK hH hM hO : Nat) (g : Gd) (t tK tH tM tO : Nat) (gt : Gd) (ok : Ok g) (okt : Ok gt) : Ct l D cI cJ cB cS xa yX0_becomeLike cX0_becomeLike 2 none 1 26 [.ref h, .ref t] [(h, oG g hK hH hM hO), (hK, .inl (cI, 8, .inl (aG g 0))), (hH, .inl (cI, 8, .inl (aG g 1))), (hM, .inl (cI, 8, .inl (aG g 2))), (hO, .inl (cI, 8, .inl (aG g 3))), (t, oG gt tK tH tM tO), (tK, .inl (cI, 8, .inl (aG gt 0))), (tH, .inl (cI, 8, .inl (aG gt 1))), (tM, .inl (cI, 8, .inl (aG gt 2))), (tO, .inl (cI, 8, .inl (aG gt 3)))] none [(h, oG (likeG g gt) hK hH hM hO), (hK, .inl (cI, 8, .inl (aG (likeG g gt) 0))), (hH, .inl (cI, 8, .inl (aG (likeG g gt) 1))), (hM, .inl (cI, 8, .inl (aG (likeG g gt) 2))), (hO, .inl (cI, 8, .inl (aG (likeG g gt) 3))), (t, oG gt tK tH tM tO), (tK, .inl (cI, 8, .inl (aG gt 0))), (tH, .inl (cI, 8, .inl (aG gt 1))), (tM, .inl (cI, 8, .inl (aG gt 2))), (tO, .inl (cI, 8, .inl (aG gt 3)))] := by
  have o0 := ok0 ok
  have o2 := ok2 okt
  refine CtE.of (own := RX0) (lv := [(0, .ref h), (1, .ref t)]) (by decide) rfl rfl (Nat.le_of_ble_eq_true rfl) ?_
  intro xp xe xs xm xb xt xc
  refine z_aload_n (pc := 0) dX0_becomeLike_0 0 rfl ?_
  refine z_aload_n (pc := 1) dX0_becomeLike_1 1 rfl ?_
  refine z_get (pc := 2) (q0 := 5) (v := .int (iI (gt 4 0))) fL_X0_7 dX0_becomeLike_2 rfl rfl ?_
  refine z_put (pc := 5) (q0 := 0) (ws2 := [(h, oG (up2 g 4 0 (gt 4 0)) hK hH hM hO), (hK, .inl (cI, 8, .inl (aG (up2 g 4 0 (gt 4 0)) 0))), (hH, .inl (cI, 8, .inl (aG (up2 g 4 0 (gt 4 0)) 1))), (hM, .inl (cI, 8, .inl (aG (up2 g 4 0 (gt 4 0)) 2))), (hO, .inl (cI, 8, .inl (aG (up2 g 4 0 (gt 4 0)) 3))), (t, oG gt tK tH tM tO), (tK, .inl (cI, 8, .inl (aG gt 0))), (tH, .inl (cI, 8, .inl (aG gt 1))), (tM, .inl (cI, 8, .inl (aG gt 2))), (tO, .inl (cI, 8, .inl (aG gt 3)))]) fP_X0_7 dX0_becomeLike_5 rfl rfl rfl (Nat.le_of_ble_eq_true rfl) rfl ?_
  refine z_aload_n (pc := 8) dX0_becomeLike_8 0 rfl ?_
  refine z_aload_n (pc := 9) dX0_becomeLike_9 1 rfl ?_
  refine z_get (pc := 10) (q0 := 5) (v := .int (iI (gt 4 1))) fL_X0_13 dX0_becomeLike_10 rfl rfl ?_
  refine z_put (pc := 13) (q0 := 0) (ws2 := [(h, oG (up2 (up2 g 4 0 (gt 4 0)) 4 1 (gt 4 1)) hK hH hM hO), (hK, .inl (cI, 8, .inl (aG (up2 (up2 g 4 0 (gt 4 0)) 4 1 (gt 4 1)) 0))), (hH, .inl (cI, 8, .inl (aG (up2 (up2 g 4 0 (gt 4 0)) 4 1 (gt 4 1)) 1))), (hM, .inl (cI, 8, .inl (aG (up2 (up2 g 4 0 (gt 4 0)) 4 1 (gt 4 1)) 2))), (hO, .inl (cI, 8, .inl (aG (up2 (up2 g 4 0 (gt 4 0)) 4 1 (gt 4 1)) 3))), (t, oG gt tK tH tM tO), (tK, .inl (cI, 8, .inl (aG gt 0))), (tH, .inl (cI, 8, .inl (aG gt 1))), (tM, .inl (cI, 8, .inl (aG gt 2))), (tO, .inl (cI, 8, .inl (aG gt 3)))]) fP_X0_13 dX0_becomeLike_13 rfl rfl rfl (Nat.le_of_ble_eq_true rfl) rfl ?_
  refine z_aload_n (pc := 16) dX0_becomeLike_16 0 rfl ?_
  refine z_aload_n (pc := 17) dX0_becomeLike_17 1 rfl ?_
  refine z_get (pc := 18) (q0 := 5) (v := .int (iI (gt 4 2))) fL_X0_16 dX0_becomeLike_18 rfl rfl ?_
  refine z_put (pc := 21) (q0 := 0) (ws2 := [(h, oG (up2 (up2 (up2 g 4 0 (gt 4 0)) 4 1 (gt 4 1)) 4 2 (gt 4 2)) hK hH hM hO), (hK, .inl (cI, 8, .inl (aG (up2 (up2 (up2 g 4 0 (gt 4 0)) 4 1 (gt 4 1)) 4 2 (gt 4 2)) 0))), (hH, .inl (cI, 8, .inl (aG (up2 (up2 (up2 g 4 0 (gt 4 0)) 4 1 (gt 4 1)) 4 2 (gt 4 2)) 1))), (hM, .inl (cI, 8, .inl (aG (up2 (up2 (up2 g 4 0 (gt 4 0)) 4 1 (gt 4 1)) 4 2 (gt 4 2)) 2))), (hO, .inl (cI, 8, .inl (aG (up2 (up2 (up2 g 4 0 (gt 4 0)) 4 1 (gt 4 1)) 4 2 (gt 4 2)) 3))), (t, oG gt tK tH tM tO), (tK, .inl (cI, 8, .inl (aG gt 0))), (tH, .inl (cI, 8, .inl (aG gt 1))), (tM, .inl (cI, 8, .inl (aG gt 2))), (tO, .inl (cI, 8, .inl (aG gt 3)))]) fP_X0_16 dX0_becomeLike_21 rfl rfl rfl (Nat.le_of_ble_eq_true rfl) rfl ?_
  refine z_aload_n (pc := 24) dX0_becomeLike_24 1 rfl ?_
  refine z_get (pc := 25) (q0 := 5) (v := .ref tK) fL_X0_19 dX0_becomeLike_25 rfl rfl ?_
  refine z_iconst (pc := 28) dX0_becomeLike_28 ?_
  refine z_aload_n (pc := 29) dX0_becomeLike_29 0 rfl ?_
  refine z_get (pc := 30) (q0 := 0) (v := .ref hK) fL_X0_19 dX0_becomeLike_30 rfl rfl ?_
  refine z_iconst (pc := 33) dX0_becomeLike_33 ?_
  refine z_aload_n (pc := 34) dX0_becomeLike_34 0 rfl ?_
  refine z_get (pc := 35) (q0 := 0) (v := .int (iI (gt 4 2))) fL_X0_16 dX0_becomeLike_35 rfl rfl ?_
  refine z_copyi (pc := 38) (q0 := 6) (q1 := 1) (ws2 := [(h, oG (up2 (up2 (up2 g 4 0 (gt 4 0)) 4 1 (gt 4 1)) 4 2 (gt 4 2)) hK hH hM hO), (hK, .inl (cI, 8, .inl (va_cpy (aG gt 0) (aG (up2 (up2 (up2 g 4 0 (gt 4 0)) 4 1 (gt 4 1)) 4 2 (gt 4 2)) 0) (Int.toNat 0) (Int.toNat 0) (Int.toNat (gt 4 2))))), (hH, .inl (cI, 8, .inl (aG (up2 (up2 (up2 g 4 0 (gt 4 0)) 4 1 (gt 4 1)) 4 2 (gt 4 2)) 1))), (hM, .inl (cI, 8, .inl (aG (up2 (up2 (up2 g 4 0 (gt 4 0)) 4 1 (gt 4 1)) 4 2 (gt 4 2)) 2))), (hO, .inl (cI, 8, .inl (aG (up2 (up2 (up2 g 4 0 (gt 4 0)) 4 1 (gt 4 1)) 4 2 (gt 4 2)) 3))), (t, oG gt tK tH tM tO), (tK, .inl (cI, 8, .inl (aG gt 0))), (tH, .inl (cI, 8, .inl (aG gt 1))), (tM, .inl (cI, 8, .inl (aG gt 2))), (tO, .inl (cI, 8, .inl (aG gt 3)))]) mcpy_X0_32 dX0_becomeLike_38 rfl rfl (by omega) ⟨Nat.le_of_ble_eq_true rfl, Nat.le_of_ble_eq_true rfl⟩ rfl ?_
  refine z_aload_n (pc := 41) dX0_becomeLike_41 1 rfl ?_
  refine z_get (pc := 42) (q0 := 5) (v := .ref tH) fL_X0_23 dX0_becomeLike_42 rfl rfl ?_
  refine z_iconst (pc := 45) dX0_becomeLike_45 ?_
  refine z_aload_n (pc := 46) dX0_becomeLike_46 0 rfl ?_
  refine z_get (pc := 47) (q0 := 0) (v := .ref hH) fL_X0_23 dX0_becomeLike_47 rfl rfl ?_
  refine z_iconst (pc := 50) dX0_becomeLike_50 ?_
  refine z_aload_n (pc := 51) dX0_becomeLike_51 0 rfl ?_
  refine z_get (pc := 52) (q0 := 0) (v := .int (iI (gt 4 2))) fL_X0_16 dX0_becomeLike_52 rfl rfl ?_
  refine z_copyi (pc := 55) (q0 := 7) (q1 := 2) (ws2 := [(h, oG (up2 (up2 (up2 g 4 0 (gt 4 0)) 4 1 (gt 4 1)) 4 2 (gt 4 2)) hK hH hM hO), (hK, .inl (cI, 8, .inl (va_cpy (aG gt 0) (aG (up2 (up2 (up2 g 4 0 (gt 4 0)) 4 1 (gt 4 1)) 4 2 (gt 4 2)) 0) (Int.toNat 0) (Int.toNat 0) (Int.toNat (gt 4 2))))), (hH, .inl (cI, 8, .inl (va_cpy (aG gt 1) (aG (up2 (up2 (up2 g 4 0 (gt 4 0)) 4 1 (gt 4 1)) 4 2 (gt 4 2)) 1) (Int.toNat 0) (Int.toNat 0) (Int.toNat (gt 4 2))))), (hM, .inl (cI, 8, .inl (aG (up2 (up2 (up2 g 4 0 (gt 4 0)) 4 1 (gt 4 1)) 4 2 (gt 4 2)) 2))), (hO, .inl (cI, 8, .inl (aG (up2 (up2 (up2 g 4 0 (gt 4 0)) 4 1 (gt 4 1)) 4 2 (gt 4 2)) 3))), (t, oG gt tK tH tM tO), (tK, .inl (cI, 8, .inl (aG gt 0))), (tH, .inl (cI, 8, .inl (aG gt 1))), (tM, .inl (cI, 8, .inl (aG gt 2))), (tO, .inl (cI, 8, .inl (aG gt 3)))]) mcpy_X0_32 dX0_becomeLike_55 rfl rfl (by omega) ⟨Nat.le_of_ble_eq_true rfl, Nat.le_of_ble_eq_true rfl⟩ rfl ?_
  refine z_aload_n (pc := 58) dX0_becomeLike_58 1 rfl ?_
  refine z_get (pc := 59) (q0 := 5) (v := .ref tM) fL_X0_26 dX0_becomeLike_59 rfl rfl ?_
  refine z_iconst (pc := 62) dX0_becomeLike_62 ?_
  refine z_aload_n (pc := 63) dX0_becomeLike_63 0 rfl ?_
  refine z_get (pc := 64) (q0 := 0) (v := .ref hM) fL_X0_26 dX0_becomeLike_64 rfl rfl ?_
  refine z_iconst (pc := 67) dX0_becomeLike_67 ?_
  refine z_aload_n (pc := 68) dX0_becomeLike_68 0 rfl ?_
  refine z_get (pc := 69) (q0 := 0) (v := .int (iI (gt 4 2))) fL_X0_16 dX0_becomeLike_69 rfl rfl ?_
  refine z_copyi (pc := 72) (q0 := 8) (q1 := 3) (ws2 := [(h, oG (up2 (up2 (up2 g 4 0 (gt 4 0)) 4 1 (gt 4 1)) 4 2 (gt 4 2)) hK hH hM hO), (hK, .inl (cI, 8, .inl (va_cpy (aG gt 0) (aG (up2 (up2 (up2 g 4 0 (gt 4 0)) 4 1 (gt 4 1)) 4 2 (gt 4 2)) 0) (Int.toNat 0) (Int.toNat 0) (Int.toNat (gt 4 2))))), (hH, .inl (cI, 8, .inl (va_cpy (aG gt 1) (aG (up2 (up2 (up2 g 4 0 (gt 4 0)) 4 1 (gt 4 1)) 4 2 (gt 4 2)) 1) (Int.toNat 0) (Int.toNat 0) (Int.toNat (gt 4 2))))), (hM, .inl (cI, 8, .inl (va_cpy (aG gt 2) (aG (up2 (up2 (up2 g 4 0 (gt 4 0)) 4 1 (gt 4 1)) 4 2 (gt 4 2)) 2) (Int.toNat 0) (Int.toNat 0) (Int.toNat (gt 4 2))))), (hO, .inl (cI, 8, .inl (aG (up2 (up2 (up2 g 4 0 (gt 4 0)) 4 1 (gt 4 1)) 4 2 (gt 4 2)) 3))), (t, oG gt tK tH tM tO), (tK, .inl (cI, 8, .inl (aG gt 0))), (tH, .inl (cI, 8, .inl (aG gt 1))), (tM, .inl (cI, 8, .inl (aG gt 2))), (tO, .inl (cI, 8, .inl (aG gt 3)))]) mcpy_X0_32 dX0_becomeLike_72 rfl rfl (by omega) ⟨Nat.le_of_ble_eq_true rfl, Nat.le_of_ble_eq_true rfl⟩ rfl ?_
  refine z_aload_n (pc := 75) dX0_becomeLike_75 1 rfl ?_
  refine z_get (pc := 76) (q0 := 5) (v := .ref tO) fL_X0_29 dX0_becomeLike_76 rfl rfl ?_
  refine z_iconst (pc := 79) dX0_becomeLike_79 ?_
  refine z_aload_n (pc := 80) dX0_becomeLike_80 0 rfl ?_
  refine z_get (pc := 81) (q0 := 0) (v := .ref hO) fL_X0_29 dX0_becomeLike_81 rfl rfl ?_
  refine z_iconst (pc := 84) dX0_becomeLike_84 ?_
  refine z_aload_n (pc := 85) dX0_becomeLike_85 0 rfl ?_
  refine z_get (pc := 86) (q0 := 0) (v := .int (iI (gt 4 2))) fL_X0_16 dX0_becomeLike_86 rfl rfl ?_
  refine z_copyi (pc := 89) (q0 := 9) (q1 := 4) (ws2 := [(h, oG (up2 (up2 (up2 g 4 0 (gt 4 0)) 4 1 (gt 4 1)) 4 2 (gt 4 2)) hK hH hM hO), (hK, .inl (cI, 8, .inl (va_cpy (aG gt 0) (aG (up2 (up2 (up2 g 4 0 (gt 4 0)) 4 1 (gt 4 1)) 4 2 (gt 4 2)) 0) (Int.toNat 0) (Int.toNat 0) (Int.toNat (gt 4 2))))), (hH, .inl (cI, 8, .inl (va_cpy (aG gt 1) (aG (up2 (up2 (up2 g 4 0 (gt 4 0)) 4 1 (gt 4 1)) 4 2 (gt 4 2)) 1) (Int.toNat 0) (Int.toNat 0) (Int.toNat (gt 4 2))))), (hM, .inl (cI, 8, .inl (va_cpy (aG gt 2) (aG (up2 (up2 (up2 g 4 0 (gt 4 0)) 4 1 (gt 4 1)) 4 2 (gt 4 2)) 2) (Int.toNat 0) (Int.toNat 0) (Int.toNat (gt 4 2))))), (hO, .inl (cI, 8, .inl (va_cpy (aG gt 3) (aG (up2 (up2 (up2 g 4 0 (gt 4 0)) 4 1 (gt 4 1)) 4 2 (gt 4 2)) 3) (Int.toNat 0) (Int.toNat 0) (Int.toNat (gt 4 2))))), (t, oG gt tK tH tM tO), (tK, .inl (cI, 8, .inl (aG gt 0))), (tH, .inl (cI, 8, .inl (aG gt 1))), (tM, .inl (cI, 8, .inl (aG gt 2))), (tO, .inl (cI, 8, .inl (aG gt 3)))]) mcpy_X0_32 dX0_becomeLike_89 rfl rfl (by omega) ⟨Nat.le_of_ble_eq_true rfl, Nat.le_of_ble_eq_true rfl⟩ rfl ?_
  exact z_vret (pc := 92) dX0_becomeLike_92 rfl (by rw [← like_cpy (g := g) okt (w := 0) (by decide), ← like_cpy (g := g) okt (w := 1) (by decide), ← like_cpy (g := g) okt (w := 2) (by decide), ← like_cpy (g := g) okt (w := 3) (by decide)]; rfl)
set_option maxHeartbeats 8000000 in
set_option maxRecDepth 100000 in
theorem c_X0_exchangeIn (l : Launch) (D : va_G) (cI cJ cB cS : ClassId) (xa : XA) (r : Nat) (f : Nat → Int32) (a b : Int) (ha : 0 ≤ a ∧ a < 8) (hb : 0 ≤ b ∧ b < 8) : Ct l D cI cJ cB cS xa yX0_exchangeIn cX0_exchangeIn 4 none 0 0 [.ref r, .int (iI a), .int (iI b)] [(r, .inl (cI, 8, .inl f))] none [(r, .inl (cI, 8, .inl (upd (upd f (Int.toNat a) (f (Int.toNat b))) (Int.toNat b) (f (Int.toNat a)))))] := by
  refine CtE.of (own := RX0) (lv := [(0, .ref r), (1, .int (iI a)), (2, .int (iI b))]) (by decide) rfl rfl (Nat.le_of_ble_eq_true rfl) ?_
  intro xp xe xs xm xb xt xc
  refine z_aload_n (pc := 0) dX0_exchangeIn_0 0 rfl ?_
  refine z_iload_n (pc := 1) dX0_exchangeIn_1 1 rfl ?_
  refine z_iald (pc := 2) (q0 := 0) (v := (f (Int.toNat a))) dX0_exchangeIn_2 rfl (by omega) (by decide) rfl ?_
  refine z_istore_n (pc := 3) (lv2 := [(3, .int (f (Int.toNat a))), (0, .ref r), (1, .int (iI a)), (2, .int (iI b))]) dX0_exchangeIn_3 rfl (by decide) rfl ?_
  refine z_aload_n (pc := 4) dX0_exchangeIn_4 1 rfl ?_
  refine z_iload_n (pc := 5) dX0_exchangeIn_5 2 rfl ?_
  refine z_aload_n (pc := 6) dX0_exchangeIn_6 1 rfl ?_
  refine z_iload_n (pc := 7) dX0_exchangeIn_7 3 rfl ?_
  refine z_iald (pc := 8) (q0 := 0) (v := (f (Int.toNat b))) dX0_exchangeIn_8 rfl (by omega) (by decide) rfl ?_
  refine z_iast (pc := 9) (q0 := 0) (ws2 := [(r, .inl (cI, 8, .inl (upd f (Int.toNat a) (f (Int.toNat b)))))]) dX0_exchangeIn_9 rfl (by omega) (by decide) rfl ?_
  refine z_aload_n (pc := 10) dX0_exchangeIn_10 1 rfl ?_
  refine z_iload_n (pc := 11) dX0_exchangeIn_11 3 rfl ?_
  refine z_iload_n (pc := 12) dX0_exchangeIn_12 0 rfl ?_
  refine z_iast (pc := 13) (q0 := 0) (ws2 := [(r, .inl (cI, 8, .inl (upd (upd f (Int.toNat a) (f (Int.toNat b))) (Int.toNat b) (f (Int.toNat a)))))]) dX0_exchangeIn_13 rfl (by omega) (by decide) rfl ?_
  exact z_vret (pc := 14) dX0_exchangeIn_14 rfl rfl
set_option maxHeartbeats 8000000 in
set_option maxRecDepth 100000 in
theorem c_X0_exchange (l : Launch) (D : va_G) (cI cJ cB cS : ClassId) (xa : XA) (h hK hH hM hO : Nat) (g : Gd) (a b : Int) (ok : Ok g) (ha : 0 ≤ a ∧ a < g 4 2) (hb : 0 ≤ b ∧ b < g 4 2) : Ct l D cI cJ cB cS xa yX0_exchange cX0_exchange 3 none 1 23 [.ref h, .int (iI a), .int (iI b)] [(h, oG g hK hH hM hO), (hK, .inl (cI, 8, .inl (aG g 0))), (hH, .inl (cI, 8, .inl (aG g 1))), (hM, .inl (cI, 8, .inl (aG g 2))), (hO, .inl (cI, 8, .inl (aG g 3)))] none [(h, oG (swapG g a b) hK hH hM hO), (hK, .inl (cI, 8, .inl (aG (swapG g a b) 0))), (hH, .inl (cI, 8, .inl (aG (swapG g a b) 1))), (hM, .inl (cI, 8, .inl (aG (swapG g a b) 2))), (hO, .inl (cI, 8, .inl (aG (swapG g a b) 3)))] := by
  have o0 := ok0 ok
  have o1 := ok1 ok
  have o2 := ok2 ok
  refine CtE.of (own := RX0) (lv := [(0, .ref h), (1, .int (iI a)), (2, .int (iI b))]) (by decide) rfl rfl (Nat.le_of_ble_eq_true rfl) ?_
  intro xp xe xs xm xb xt xc
  refine z_aload_n (pc := 0) dX0_exchange_0 0 rfl ?_
  refine z_get (pc := 1) (q0 := 0) (v := .ref hK) fL_X0_19 dX0_exchange_1 rfl rfl ?_
  refine z_iload_n (pc := 4) dX0_exchange_4 1 rfl ?_
  refine z_iload_n (pc := 5) dX0_exchange_5 2 rfl ?_
  refine z_callS (pc := 6) (st := []) (st2 := []) (ws2 := [(h, oG g hK hH hM hO), (hK, .inl (cI, 8, .inl (upd (upd (aG g 0) (Int.toNat a) ((aG g 0) (Int.toNat b))) (Int.toNat b) ((aG g 0) (Int.toNat a))))), (hH, .inl (cI, 8, .inl (aG g 1))), (hM, .inl (cI, 8, .inl (aG g 2))), (hO, .inl (cI, 8, .inl (aG g 3)))]) (c_X0_exchangeIn l D cI cJ cB cS xa hK (aG g 0) a b (by omega) (by omega)) mS_X0_exchangeIn kM_X0_47 dX0_exchange_6 [1] rfl rfl rfl rfl rfl rfl rfl rfl ⟨Nat.le_of_ble_eq_true rfl, Nat.le_of_ble_eq_true rfl, Nat.le_of_ble_eq_true rfl⟩ ?_
  refine z_aload_n (pc := 9) dX0_exchange_9 0 rfl ?_
  refine z_get (pc := 10) (q0 := 0) (v := .ref hH) fL_X0_23 dX0_exchange_10 rfl rfl ?_
  refine z_iload_n (pc := 13) dX0_exchange_13 1 rfl ?_
  refine z_iload_n (pc := 14) dX0_exchange_14 2 rfl ?_
  refine z_callS (pc := 15) (st := []) (st2 := []) (ws2 := [(h, oG g hK hH hM hO), (hK, .inl (cI, 8, .inl (upd (upd (aG g 0) (Int.toNat a) ((aG g 0) (Int.toNat b))) (Int.toNat b) ((aG g 0) (Int.toNat a))))), (hH, .inl (cI, 8, .inl (upd (upd (aG g 1) (Int.toNat a) ((aG g 1) (Int.toNat b))) (Int.toNat b) ((aG g 1) (Int.toNat a))))), (hM, .inl (cI, 8, .inl (aG g 2))), (hO, .inl (cI, 8, .inl (aG g 3)))]) (c_X0_exchangeIn l D cI cJ cB cS xa hH (aG g 1) a b (by omega) (by omega)) mS_X0_exchangeIn kM_X0_47 dX0_exchange_15 [2] rfl rfl rfl rfl rfl rfl rfl rfl ⟨Nat.le_of_ble_eq_true rfl, Nat.le_of_ble_eq_true rfl, Nat.le_of_ble_eq_true rfl⟩ ?_
  refine z_aload_n (pc := 18) dX0_exchange_18 0 rfl ?_
  refine z_get (pc := 19) (q0 := 0) (v := .ref hM) fL_X0_26 dX0_exchange_19 rfl rfl ?_
  refine z_iload_n (pc := 22) dX0_exchange_22 1 rfl ?_
  refine z_iload_n (pc := 23) dX0_exchange_23 2 rfl ?_
  refine z_callS (pc := 24) (st := []) (st2 := []) (ws2 := [(h, oG g hK hH hM hO), (hK, .inl (cI, 8, .inl (upd (upd (aG g 0) (Int.toNat a) ((aG g 0) (Int.toNat b))) (Int.toNat b) ((aG g 0) (Int.toNat a))))), (hH, .inl (cI, 8, .inl (upd (upd (aG g 1) (Int.toNat a) ((aG g 1) (Int.toNat b))) (Int.toNat b) ((aG g 1) (Int.toNat a))))), (hM, .inl (cI, 8, .inl (upd (upd (aG g 2) (Int.toNat a) ((aG g 2) (Int.toNat b))) (Int.toNat b) ((aG g 2) (Int.toNat a))))), (hO, .inl (cI, 8, .inl (aG g 3)))]) (c_X0_exchangeIn l D cI cJ cB cS xa hM (aG g 2) a b (by omega) (by omega)) mS_X0_exchangeIn kM_X0_47 dX0_exchange_24 [3] rfl rfl rfl rfl rfl rfl rfl rfl ⟨Nat.le_of_ble_eq_true rfl, Nat.le_of_ble_eq_true rfl, Nat.le_of_ble_eq_true rfl⟩ ?_
  refine z_aload_n (pc := 27) dX0_exchange_27 0 rfl ?_
  refine z_get (pc := 28) (q0 := 0) (v := .ref hO) fL_X0_29 dX0_exchange_28 rfl rfl ?_
  refine z_iload_n (pc := 31) dX0_exchange_31 1 rfl ?_
  refine z_iload_n (pc := 32) dX0_exchange_32 2 rfl ?_
  refine z_callS (pc := 33) (st := []) (st2 := []) (ws2 := [(h, oG g hK hH hM hO), (hK, .inl (cI, 8, .inl (upd (upd (aG g 0) (Int.toNat a) ((aG g 0) (Int.toNat b))) (Int.toNat b) ((aG g 0) (Int.toNat a))))), (hH, .inl (cI, 8, .inl (upd (upd (aG g 1) (Int.toNat a) ((aG g 1) (Int.toNat b))) (Int.toNat b) ((aG g 1) (Int.toNat a))))), (hM, .inl (cI, 8, .inl (upd (upd (aG g 2) (Int.toNat a) ((aG g 2) (Int.toNat b))) (Int.toNat b) ((aG g 2) (Int.toNat a))))), (hO, .inl (cI, 8, .inl (upd (upd (aG g 3) (Int.toNat a) ((aG g 3) (Int.toNat b))) (Int.toNat b) ((aG g 3) (Int.toNat a)))))]) (c_X0_exchangeIn l D cI cJ cB cS xa hO (aG g 3) a b (by omega) (by omega)) mS_X0_exchangeIn kM_X0_47 dX0_exchange_33 [4] rfl rfl rfl rfl rfl rfl rfl rfl ⟨Nat.le_of_ble_eq_true rfl, Nat.le_of_ble_eq_true rfl, Nat.le_of_ble_eq_true rfl⟩ ?_
  exact z_vret (pc := 36) dX0_exchange_36 rfl (by rw [← swap_cpy (g := g) (w := 0) ha.1 hb.1 (by decide), ← swap_cpy (g := g) (w := 1) ha.1 hb.1 (by decide), ← swap_cpy (g := g) (w := 2) ha.1 hb.1 (by decide), ← swap_cpy (g := g) (w := 3) ha.1 hb.1 (by decide)]; rfl)
set_option maxHeartbeats 8000000 in
set_option maxRecDepth 100000 in
theorem c_X0_firstOfMost (l : Launch) (D : va_G) (cI cJ cB cS : ClassId) (xa : XA) (h hK hH hM hO : Nat) (g : Gd) (r : Nat) (w : Int) (ok : Ok g) (hw : ∀ c, -10000 ≤ g w c ∧ g w c ≤ 10000) : Ct l D cI cJ cB cS xa yX0_firstOfMost cX0_firstOfMost 4 (some .int) 0 0 [.ref h, .ref r] [(h, oG g hK hH hM hO), (r, .inl (cI, 8, .inl (aG g w)))] (some (.int (iI (mostN (g w) (many g))))) [(h, oG g hK hH hM hO), (r, .inl (cI, 8, .inl (aG g w)))] := by
  have o0 := ok0 ok
  have o1 := ok1 ok
  have o2 := ok2 ok
  refine CtE.of (own := RX0) (lv := [(0, .ref h), (1, .ref r)]) (by decide) rfl rfl (Nat.le_of_ble_eq_true rfl) ?_
  intro xp xe xs xm xb xt xc
  refine z_iconst (pc := 0) dX0_firstOfMost_0 ?_
  refine z_istore_n (pc := 1) (lv2 := [(2, .int (iI (-1))), (0, .ref h), (1, .ref r)]) dX0_firstOfMost_1 rfl (by decide) rfl ?_
  refine z_iconst (pc := 2) dX0_firstOfMost_2 ?_
  refine z_istore_n (pc := 3) (lv2 := [(3, .int (iI 0)), (2, .int (iI (-1))), (0, .ref h), (1, .ref r)]) dX0_firstOfMost_3 rfl (by decide) rfl ?_
  have LP4 : ∀ (nn_ : Nat) (i : Int) (b : Int), (0 ≤ i) → (i ≤ g 4 2) → (b = mostN (g w) i.toNat) → (g 4 2 - i).toNat < nn_ → Z xp l xe { frames := 0, cells := 0, slots := 0, locals := 0 } xs xm ([.ref h, .ref r] : List Value).toArray xb xt xc 0 0 (MQ xb (Cq (S := Unit) D [(h, oG g hK hH hM hO), (r, .inl (cI, 8, .inl (aG g w)))] (fun _ => True) (fun _ => (some (.int (iI (mostN (g w) (many g)))))) (fun _ => [(h, oG g hK hH hM hO), (r, .inl (cI, 8, .inl (aG g w)))])) ([.ref h, .ref r] : List Value).toArray xs 0 0 (va_A0 [(h, oG g hK hH hM hO), (r, .inl (cI, 8, .inl (aG g w)))])) cX0_firstOfMost RX0 4 (some .int) D cI cJ cB cS xa (va_A0 [(h, oG g hK hH hM hO), (r, .inl (cI, 8, .inl (aG g w)))]) [(h, oG g hK hH hM hO), (r, .inl (cI, 8, .inl (aG g w)))] [(0, .ref h), (1, .ref r), (2, .int (iI b)), (3, .int (iI i))] 4 [] := by
    intro nn_
    induction nn_ with
    | zero => intro i b hi0 hi1 hb hms; exact absurd hms (Nat.not_lt_zero _)
    | succ nn_ ih =>
      intro i b hi0 hi1 hb hms
      have rb := mostN_rng (g w) i.toNat
      rw [← hb] at rb
      have rc := hw i
      have rd := hw b
      have ih4 := ih
      clear ih
      refine z_iload_n (pc := 4) dX0_firstOfMost_4 3 rfl ?_
      refine z_aload_n (pc := 5) dX0_firstOfMost_5 0 rfl ?_
      refine z_get (pc := 6) (q0 := 0) (v := .int (iI (g 4 2))) fL_X0_16 dX0_firstOfMost_6 rfl rfl ?_
      refine z_icmp_ge (pc := 9) (tgt := 33) dX0_firstOfMost_9 (by decide) (by omega) (by omega) (fun h9 => ?_) (fun h9 => ?_)
      · skip
        obtain rfl : i = g 4 2 := by omega
        refine z_iload_n (pc := 33) dX0_firstOfMost_33 2 rfl ?_
        exact z_iret (pc := 34) dX0_firstOfMost_34 (congrArg (fun z => some (Value.int (iI z))) (show (mostN (g w) (many g)) = b from by exact hb.symm)) rfl
      · skip
        refine z_iload_n (pc := 12) dX0_firstOfMost_12 2 rfl ?_
        refine z_if_lt (pc := 13) (tgt := 25) dX0_firstOfMost_13 (by decide) (by omega) (fun h13 => ?_) (fun h13 => ?_)
        · skip
          refine z_iload_n (pc := 25) dX0_firstOfMost_25 3 rfl ?_
          refine z_istore_n (pc := 26) (lv2 := [(2, .int (iI i)), (0, .ref h), (1, .ref r), (3, .int (iI i))]) dX0_firstOfMost_26 rfl (by decide) rfl ?_
          refine z_iinc (pc := 27) (lv2 := [(3, .int (iI (i + 1))), (2, .int (iI i)), (0, .ref h), (1, .ref r)]) dX0_firstOfMost_27 3 rfl (by decide) rfl ?_
          refine z_goto (pc := 30) (tgt := 4) dX0_firstOfMost_30 (by decide) ?_
          refine z_lv (lv2 := [(0, .ref h), (1, .ref r), (2, .int (iI i)), (3, .int (iI (i + 1)))]) [2, 3, 1, 0] rfl ?_
          exact ih4 (i + 1) i (by omega) (by omega) (by rw [mostN_s _ hi0, ← hb]; split <;> omega) (by omega)
        · skip
          refine z_aload_n (pc := 16) dX0_firstOfMost_16 1 rfl ?_
          refine z_iload_n (pc := 17) dX0_firstOfMost_17 3 rfl ?_
          refine z_iald (pc := 18) (q0 := 1) (v := (iI (g w i))) dX0_firstOfMost_18 rfl (by omega) (by decide) (aG_at (by omega)) ?_
          refine z_aload_n (pc := 19) dX0_firstOfMost_19 1 rfl ?_
          refine z_iload_n (pc := 20) dX0_firstOfMost_20 2 rfl ?_
          refine z_iald (pc := 21) (q0 := 1) (v := (iI (g w b))) dX0_firstOfMost_21 rfl (by omega) (by decide) (aG_at (by omega)) ?_
          refine z_icmp_le (pc := 22) (tgt := 27) dX0_firstOfMost_22 (by decide) (by omega) (by omega) (fun h22 => ?_) (fun h22 => ?_)
          · skip
            refine z_iinc (pc := 27) (lv2 := [(3, .int (iI (i + 1))), (0, .ref h), (1, .ref r), (2, .int (iI b))]) dX0_firstOfMost_27 3 rfl (by decide) rfl ?_
            refine z_goto (pc := 30) (tgt := 4) dX0_firstOfMost_30 (by decide) ?_
            refine z_lv (lv2 := [(0, .ref h), (1, .ref r), (2, .int (iI b)), (3, .int (iI (i + 1)))]) [1, 2, 3, 0] rfl ?_
            exact ih4 (i + 1) b (by omega) (by omega) (by rw [mostN_s _ hi0, ← hb]; split <;> omega) (by omega)
          · skip
            refine z_iload_n (pc := 25) dX0_firstOfMost_25 3 rfl ?_
            refine z_istore_n (pc := 26) (lv2 := [(2, .int (iI i)), (0, .ref h), (1, .ref r), (3, .int (iI i))]) dX0_firstOfMost_26 rfl (by decide) rfl ?_
            refine z_iinc (pc := 27) (lv2 := [(3, .int (iI (i + 1))), (2, .int (iI i)), (0, .ref h), (1, .ref r)]) dX0_firstOfMost_27 3 rfl (by decide) rfl ?_
            refine z_goto (pc := 30) (tgt := 4) dX0_firstOfMost_30 (by decide) ?_
            refine z_lv (lv2 := [(0, .ref h), (1, .ref r), (2, .int (iI i)), (3, .int (iI (i + 1)))]) [2, 3, 1, 0] rfl ?_
            exact ih4 (i + 1) i (by omega) (by omega) (by rw [mostN_s _ hi0, ← hb]; split <;> omega) (by omega)
  refine z_lv (lv2 := [(0, .ref h), (1, .ref r), (2, .int (iI (-1))), (3, .int (iI 0))]) [2, 3, 1, 0] rfl ?_
  exact LP4 _ 0 (-1) (by omega) (by omega) (by rfl) (Nat.lt_succ_self _)
set_option maxHeartbeats 8000000 in
set_option maxRecDepth 100000 in
theorem c_X0_highest (l : Launch) (D : va_G) (cI cJ cB cS : ClassId) (xa : XA) (h hK hH hM hO : Nat) (g : Gd) (ok : Ok g) : Ct l D cI cJ cB cS xa yX0_highest cX0_highest 1 (some .int) 1 23 [.ref h] [(h, oG g hK hH hM hO), (hH, .inl (cI, 8, .inl (aG g 1)))] (some (.int (iI (highG g)))) [(h, oG g hK hH hM hO), (hH, .inl (cI, 8, .inl (aG g 1)))] := by
  have o0 := ok0 ok
  have o1 := ok1 ok
  have o2 := ok2 ok
  refine CtE.of (own := RX0) (lv := [(0, .ref h)]) (by decide) rfl rfl (Nat.le_of_ble_eq_true rfl) ?_
  intro xp xe xs xm xb xt xc
  refine z_aload_n (pc := 0) dX0_highest_0 0 rfl ?_
  refine z_aload_n (pc := 1) dX0_highest_1 0 rfl ?_
  refine z_get (pc := 2) (q0 := 0) (v := .ref hH) fL_X0_23 dX0_highest_2 rfl rfl ?_
  refine z_callV (pc := 5) (st := []) (st2 := [.int (iI (highG g))]) (ws2 := [(h, oG g hK hH hM hO), (hH, .inl (cI, 8, .inl (aG g 1)))]) (q0 := 0) (c_X0_firstOfMost l D cI cJ cB cS xa h hK hH hM hO g hH 1 ok (fun c => ⟨by have := okH ok c; omega, by have := okH ok c; omega⟩)) mV_X0_firstOfMost kM_X0_55 dX0_highest_5 rfl rfl [0, 1] rfl rfl rfl rfl rfl rfl rfl rfl ⟨Nat.le_of_ble_eq_true rfl, Nat.le_of_ble_eq_true rfl, Nat.le_of_ble_eq_true rfl⟩ ?_
  have f5_1 := mostG_rng ok 1
  exact z_iret (pc := 8) dX0_highest_8 rfl rfl
set_option maxHeartbeats 8000000 in
set_option maxRecDepth 100000 in
theorem c_X0_lowest (l : Launch) (D : va_G) (cI cJ cB cS : ClassId) (xa : XA) (h hK hH hM hO : Nat) (g : Gd) (ok : Ok g) : Ct l D cI cJ cB cS xa yX0_lowest cX0_lowest 3 (some .int) 0 0 [.ref h] [(h, oG g hK hH hM hO), (hH, .inl (cI, 8, .inl (aG g 1)))] (some (.int (iI (lowG g)))) [(h, oG g hK hH hM hO), (hH, .inl (cI, 8, .inl (aG g 1)))] := by
  have o0 := ok0 ok
  have o1 := ok1 ok
  have o2 := ok2 ok
  refine CtE.of (own := RX0) (lv := [(0, .ref h)]) (by decide) rfl rfl (Nat.le_of_ble_eq_true rfl) ?_
  intro xp xe xs xm xb xt xc
  refine z_iconst (pc := 0) dX0_lowest_0 ?_
  refine z_istore_n (pc := 1) (lv2 := [(1, .int (iI (-1))), (0, .ref h)]) dX0_lowest_1 rfl (by decide) rfl ?_
  refine z_iconst (pc := 2) dX0_lowest_2 ?_
  refine z_istore_n (pc := 3) (lv2 := [(2, .int (iI 0)), (1, .int (iI (-1))), (0, .ref h)]) dX0_lowest_3 rfl (by decide) rfl ?_
  have LP4 : ∀ (nn_ : Nat) (i : Int) (b : Int), (0 ≤ i) → (i ≤ g 4 2) → (b = lowN (g 1) i.toNat) → (g 4 2 - i).toNat < nn_ → Z xp l xe { frames := 0, cells := 0, slots := 0, locals := 0 } xs xm ([.ref h] : List Value).toArray xb xt xc 0 0 (MQ xb (Cq (S := Unit) D [(h, oG g hK hH hM hO), (hH, .inl (cI, 8, .inl (aG g 1)))] (fun _ => True) (fun _ => (some (.int (iI (lowG g))))) (fun _ => [(h, oG g hK hH hM hO), (hH, .inl (cI, 8, .inl (aG g 1)))])) ([.ref h] : List Value).toArray xs 0 0 (va_A0 [(h, oG g hK hH hM hO), (hH, .inl (cI, 8, .inl (aG g 1)))])) cX0_lowest RX0 3 (some .int) D cI cJ cB cS xa (va_A0 [(h, oG g hK hH hM hO), (hH, .inl (cI, 8, .inl (aG g 1)))]) [(h, oG g hK hH hM hO), (hH, .inl (cI, 8, .inl (aG g 1)))] [(0, .ref h), (1, .int (iI b)), (2, .int (iI i))] 4 [] := by
    intro nn_
    induction nn_ with
    | zero => intro i b hi0 hi1 hb hms; exact absurd hms (Nat.not_lt_zero _)
    | succ nn_ ih =>
      intro i b hi0 hi1 hb hms
      have rb := lowN_rng (g 1) i.toNat
      rw [← hb] at rb
      have ih4 := ih
      clear ih
      refine z_iload_n (pc := 4) dX0_lowest_4 2 rfl ?_
      refine z_aload_n (pc := 5) dX0_lowest_5 0 rfl ?_
      refine z_get (pc := 6) (q0 := 0) (v := .int (iI (g 4 2))) fL_X0_16 dX0_lowest_6 rfl rfl ?_
      refine z_icmp_ge (pc := 9) (tgt := 39) dX0_lowest_9 (by decide) (by omega) (by omega) (fun h9 => ?_) (fun h9 => ?_)
      · skip
        obtain rfl : i = g 4 2 := by omega
        refine z_iload_n (pc := 39) dX0_lowest_39 1 rfl ?_
        exact z_iret (pc := 40) dX0_lowest_40 (congrArg (fun z => some (Value.int (iI z))) (show (lowG g) = b from by exact hb.symm)) rfl
      · skip
        refine z_iload_n (pc := 12) dX0_lowest_12 1 rfl ?_
        refine z_if_lt (pc := 13) (tgt := 31) dX0_lowest_13 (by decide) (by omega) (fun h13 => ?_) (fun h13 => ?_)
        · skip
          refine z_iload_n (pc := 31) dX0_lowest_31 2 rfl ?_
          refine z_istore_n (pc := 32) (lv2 := [(1, .int (iI i)), (0, .ref h), (2, .int (iI i))]) dX0_lowest_32 rfl (by decide) rfl ?_
          refine z_iinc (pc := 33) (lv2 := [(2, .int (iI (i + 1))), (1, .int (iI i)), (0, .ref h)]) dX0_lowest_33 2 rfl (by decide) rfl ?_
          refine z_goto (pc := 36) (tgt := 4) dX0_lowest_36 (by decide) ?_
          refine z_lv (lv2 := [(0, .ref h), (1, .int (iI i)), (2, .int (iI (i + 1)))]) [2, 1, 0] rfl ?_
          exact ih4 (i + 1) i (by omega) (by omega) (by rw [lowN_s _ hi0, ← hb]; split <;> omega) (by omega)
        · skip
          refine z_aload_n (pc := 16) dX0_lowest_16 0 rfl ?_
          refine z_get (pc := 17) (q0 := 0) (v := .ref hH) fL_X0_23 dX0_lowest_17 rfl rfl ?_
          refine z_iload_n (pc := 20) dX0_lowest_20 2 rfl ?_
          refine z_iald (pc := 21) (q0 := 1) (v := (iI (g 1 i))) dX0_lowest_21 rfl (by omega) (by decide) (aG_at (by omega)) ?_
          have b1 := okH ok i
          refine z_aload_n (pc := 22) dX0_lowest_22 0 rfl ?_
          refine z_get (pc := 23) (q0 := 0) (v := .ref hH) fL_X0_23 dX0_lowest_23 rfl rfl ?_
          refine z_iload_n (pc := 26) dX0_lowest_26 1 rfl ?_
          refine z_iald (pc := 27) (q0 := 1) (v := (iI (g 1 b))) dX0_lowest_27 rfl (by omega) (by decide) (aG_at (by omega)) ?_
          have b2 := okH ok b
          refine z_icmp_ge (pc := 28) (tgt := 33) dX0_lowest_28 (by decide) (by omega) (by omega) (fun h28 => ?_) (fun h28 => ?_)
          · skip
            refine z_iinc (pc := 33) (lv2 := [(2, .int (iI (i + 1))), (0, .ref h), (1, .int (iI b))]) dX0_lowest_33 2 rfl (by decide) rfl ?_
            refine z_goto (pc := 36) (tgt := 4) dX0_lowest_36 (by decide) ?_
            refine z_lv (lv2 := [(0, .ref h), (1, .int (iI b)), (2, .int (iI (i + 1)))]) [1, 2, 0] rfl ?_
            exact ih4 (i + 1) b (by omega) (by omega) (by rw [lowN_s _ hi0, ← hb]; split <;> omega) (by omega)
          · skip
            refine z_iload_n (pc := 31) dX0_lowest_31 2 rfl ?_
            refine z_istore_n (pc := 32) (lv2 := [(1, .int (iI i)), (0, .ref h), (2, .int (iI i))]) dX0_lowest_32 rfl (by decide) rfl ?_
            refine z_iinc (pc := 33) (lv2 := [(2, .int (iI (i + 1))), (1, .int (iI i)), (0, .ref h)]) dX0_lowest_33 2 rfl (by decide) rfl ?_
            refine z_goto (pc := 36) (tgt := 4) dX0_lowest_36 (by decide) ?_
            refine z_lv (lv2 := [(0, .ref h), (1, .int (iI i)), (2, .int (iI (i + 1)))]) [2, 1, 0] rfl ?_
            exact ih4 (i + 1) i (by omega) (by omega) (by rw [lowN_s _ hi0, ← hb]; split <;> omega) (by omega)
  refine z_lv (lv2 := [(0, .ref h), (1, .int (iI (-1))), (2, .int (iI 0))]) [2, 1, 0] rfl ?_
  exact LP4 _ 0 (-1) (by omega) (by omega) (by rfl) (Nat.lt_succ_self _)
set_option maxHeartbeats 8000000 in
set_option maxRecDepth 100000 in
theorem c_X0_apart (l : Launch) (D : va_G) (cI cJ cB cS : ClassId) (xa : XA) (h hK hH hM hO : Nat) (g : Gd) (ok : Ok g) : Ct l D cI cJ cB cS xa yX0_apart cX0_apart 3 (some .int) 2 43 [.ref h] [(h, oG g hK hH hM hO), (hH, .inl (cI, 8, .inl (aG g 1)))] (some (.int (iI (diffG g)))) [(h, oG g hK hH hM hO), (hH, .inl (cI, 8, .inl (aG g 1)))] := by
  have o0 := ok0 ok
  have o1 := ok1 ok
  have o2 := ok2 ok
  refine CtE.of (own := RX0) (lv := [(0, .ref h)]) (by decide) rfl rfl (Nat.le_of_ble_eq_true rfl) ?_
  intro xp xe xs xm xb xt xc
  refine z_aload_n (pc := 0) dX0_apart_0 0 rfl ?_
  refine z_callV (pc := 1) (st := []) (st2 := [.int (iI (highG g))]) (ws2 := [(h, oG g hK hH hM hO), (hH, .inl (cI, 8, .inl (aG g 1)))]) (q0 := 0) (c_X0_highest l D cI cJ cB cS xa h hK hH hM hO g ok) mV_X0_highest kM_X0_59 dX0_apart_1 rfl rfl [0, 1] rfl rfl rfl rfl rfl rfl rfl rfl ⟨Nat.le_of_ble_eq_true rfl, Nat.le_of_ble_eq_true rfl, Nat.le_of_ble_eq_true rfl⟩ ?_
  have f1_1 := highG_rng ok
  refine z_istore_n (pc := 4) (lv2 := [(1, .int (iI (highG g))), (0, .ref h)]) dX0_apart_4 rfl (by decide) rfl ?_
  refine z_aload_n (pc := 5) dX0_apart_5 1 rfl ?_
  refine z_callV (pc := 6) (st := []) (st2 := [.int (iI (lowG g))]) (ws2 := [(h, oG g hK hH hM hO), (hH, .inl (cI, 8, .inl (aG g 1)))]) (q0 := 0) (c_X0_lowest l D cI cJ cB cS xa h hK hH hM hO g ok) mV_X0_lowest kM_X0_62 dX0_apart_6 rfl rfl [0, 1] rfl rfl rfl rfl rfl rfl rfl rfl ⟨Nat.le_of_ble_eq_true rfl, Nat.le_of_ble_eq_true rfl, Nat.le_of_ble_eq_true rfl⟩ ?_
  have f6_2 := lowG_rng ok
  refine z_istore_n (pc := 9) (lv2 := [(2, .int (iI (lowG g))), (1, .int (iI (highG g))), (0, .ref h)]) dX0_apart_9 rfl (by decide) rfl ?_
  refine z_iload_n (pc := 10) dX0_apart_10 1 rfl ?_
  refine z_if_lt (pc := 11) (tgt := 18) dX0_apart_11 (by decide) (by omega) (fun h11 => ?_) (fun h11 => ?_)
  · skip
    refine z_iconst (pc := 18) dX0_apart_18 ?_
    refine z_goto (pc := 19) (tgt := 35) dX0_apart_19 (by decide) ?_
    exact z_iret (pc := 35) dX0_apart_35 (congrArg (fun z => some (Value.int (iI z))) (show (diffG g) = 0 from by unfold diffG; split <;> omega)) rfl
  · skip
    refine z_iload_n (pc := 14) dX0_apart_14 0 rfl ?_
    refine z_if_ge (pc := 15) (tgt := 22) dX0_apart_15 (by decide) (by omega) (fun h15 => ?_) (fun h15 => ?_)
    · skip
      refine z_aload_n (pc := 22) dX0_apart_22 2 rfl ?_
      refine z_get (pc := 23) (q0 := 0) (v := .ref hH) fL_X0_23 dX0_apart_23 rfl rfl ?_
      refine z_iload_n (pc := 26) dX0_apart_26 1 rfl ?_
      refine z_iald (pc := 27) (q0 := 1) (v := (iI (g 1 (highG g)))) dX0_apart_27 rfl (by omega) (by decide) (aG_at (by omega)) ?_
      have b3 := okH ok (highG g)
      refine z_aload_n (pc := 28) dX0_apart_28 2 rfl ?_
      refine z_get (pc := 29) (q0 := 0) (v := .ref hH) fL_X0_23 dX0_apart_29 rfl rfl ?_
      refine z_iload_n (pc := 32) dX0_apart_32 0 rfl ?_
      refine z_iald (pc := 33) (q0 := 1) (v := (iI (g 1 (lowG g)))) dX0_apart_33 rfl (by omega) (by decide) (aG_at (by omega)) ?_
      have b4 := okH ok (lowG g)
      refine z_isub (pc := 34) dX0_apart_34 ?_
      exact z_iret (pc := 35) dX0_apart_35 (congrArg (fun z => some (Value.int (iI z))) (show (diffG g) = (g 1 (highG g)) - (g 1 (lowG g)) from by unfold diffG; split <;> omega)) rfl
    · skip
      refine z_iconst (pc := 18) dX0_apart_18 ?_
      refine z_goto (pc := 19) (tgt := 35) dX0_apart_19 (by decide) ?_
      exact z_iret (pc := 35) dX0_apart_35 (congrArg (fun z => some (Value.int (iI z))) (show (diffG g) = 0 from by unfold diffG; split <;> omega)) rfl
set_option maxHeartbeats 8000000 in
set_option maxRecDepth 100000 in
theorem c_X0_isLevel (l : Launch) (D : va_G) (cI cJ cB cS : ClassId) (xa : XA) (h hK hH hM hO : Nat) (g : Gd) (ok : Ok g) : Ct l D cI cJ cB cS xa yX0_isLevel cX0_isLevel 1 (some .boolean) 3 65 [.ref h] [(h, oG g hK hH hM hO), (hH, .inl (cI, 8, .inl (aG g 1)))] (some (.int (bI (diffG g < 2)))) [(h, oG g hK hH hM hO), (hH, .inl (cI, 8, .inl (aG g 1)))] := by
  have o0 := ok0 ok
  have o1 := ok1 ok
  have o2 := ok2 ok
  refine CtE.of (own := RX0) (lv := [(0, .ref h)]) (by decide) rfl rfl (Nat.le_of_ble_eq_true rfl) ?_
  intro xp xe xs xm xb xt xc
  refine z_aload_n (pc := 0) dX0_isLevel_0 0 rfl ?_
  refine z_callV (pc := 1) (st := []) (st2 := [.int (iI (diffG g))]) (ws2 := [(h, oG g hK hH hM hO), (hH, .inl (cI, 8, .inl (aG g 1)))]) (q0 := 0) (c_X0_apart l D cI cJ cB cS xa h hK hH hM hO g ok) mV_X0_apart kM_X0_65 dX0_isLevel_1 rfl rfl [0, 1] rfl rfl rfl rfl rfl rfl rfl rfl ⟨Nat.le_of_ble_eq_true rfl, Nat.le_of_ble_eq_true rfl, Nat.le_of_ble_eq_true rfl⟩ ?_
  have f1_1 := diffG_rng ok
  refine z_iconst (pc := 4) dX0_isLevel_4 ?_
  refine z_icmp_ge (pc := 5) (tgt := 12) dX0_isLevel_5 (by decide) (by omega) (by omega) (fun h5 => ?_) (fun h5 => ?_)
  · skip
    refine z_iconst (pc := 12) dX0_isLevel_12 ?_
    exact z_zret (pc := 13) (by decide) dX0_isLevel_13 (congrArg (fun z => some (Value.int z)) (bI_f (by omega))) rfl
  · skip
    refine z_iconst (pc := 8) dX0_isLevel_8 ?_
    refine z_goto (pc := 9) (tgt := 13) dX0_isLevel_9 (by decide) ?_
    exact z_zret (pc := 13) (by decide) dX0_isLevel_13 (congrArg (fun z => some (Value.int z)) (bI_t (by omega))) rfl
set_option maxHeartbeats 8000000 in
set_option maxRecDepth 100000 in
theorem c_X0_inTheDust (l : Launch) (D : va_G) (cI cJ cB cS : ClassId) (xa : XA) (h hK hH hM hO : Nat) (g : Gd) (ok : Ok g) : Ct l D cI cJ cB cS xa yX0_inTheDust cX0_inTheDust 3 (some .int) 0 0 [.ref h] [(h, oG g hK hH hM hO), (hH, .inl (cI, 8, .inl (aG g 1)))] (some (.int (dustN (g 1) (many g)))) [(h, oG g hK hH hM hO), (hH, .inl (cI, 8, .inl (aG g 1)))] := by
  have o0 := ok0 ok
  have o1 := ok1 ok
  have o2 := ok2 ok
  refine CtE.of (own := RX0) (lv := [(0, .ref h)]) (by decide) rfl rfl (Nat.le_of_ble_eq_true rfl) ?_
  intro xp xe xs xm xb xt xc
  refine z_iconst (pc := 0) dX0_inTheDust_0 ?_
  refine z_istore_n (pc := 1) (lv2 := [(1, .int (iI 0)), (0, .ref h)]) dX0_inTheDust_1 rfl (by decide) rfl ?_
  refine z_iconst (pc := 2) dX0_inTheDust_2 ?_
  refine z_istore_n (pc := 3) (lv2 := [(2, .int (iI 0)), (1, .int (iI 0)), (0, .ref h)]) dX0_inTheDust_3 rfl (by decide) rfl ?_
  have LP4 : ∀ (nn_ : Nat) (i : Int) (b : Int32), (0 ≤ i) → (i ≤ g 4 2) → (b = dustN (g 1) i.toNat) → (g 4 2 - i).toNat < nn_ → Z xp l xe { frames := 0, cells := 0, slots := 0, locals := 0 } xs xm ([.ref h] : List Value).toArray xb xt xc 0 0 (MQ xb (Cq (S := Unit) D [(h, oG g hK hH hM hO), (hH, .inl (cI, 8, .inl (aG g 1)))] (fun _ => True) (fun _ => (some (.int (dustN (g 1) (many g))))) (fun _ => [(h, oG g hK hH hM hO), (hH, .inl (cI, 8, .inl (aG g 1)))])) ([.ref h] : List Value).toArray xs 0 0 (va_A0 [(h, oG g hK hH hM hO), (hH, .inl (cI, 8, .inl (aG g 1)))])) cX0_inTheDust RX0 3 (some .int) D cI cJ cB cS xa (va_A0 [(h, oG g hK hH hM hO), (hH, .inl (cI, 8, .inl (aG g 1)))]) [(h, oG g hK hH hM hO), (hH, .inl (cI, 8, .inl (aG g 1)))] [(0, .ref h), (1, .int b), (2, .int (iI i))] 4 [] := by
    intro nn_
    induction nn_ with
    | zero => intro i b hi0 hi1 hb hms; exact absurd hms (Nat.not_lt_zero _)
    | succ nn_ ih =>
      intro i b hi0 hi1 hb hms
      have ih4 := ih
      clear ih
      refine z_iload_n (pc := 4) dX0_inTheDust_4 2 rfl ?_
      refine z_aload_n (pc := 5) dX0_inTheDust_5 0 rfl ?_
      refine z_get (pc := 6) (q0 := 0) (v := .int (iI (g 4 2))) fL_X0_16 dX0_inTheDust_6 rfl rfl ?_
      refine z_icmp_ge (pc := 9) (tgt := 33) dX0_inTheDust_9 (by decide) (by omega) (by omega) (fun h9 => ?_) (fun h9 => ?_)
      · skip
        obtain rfl : i = g 4 2 := by omega
        refine z_iload_n (pc := 33) dX0_inTheDust_33 1 rfl ?_
        exact z_iret (pc := 34) dX0_inTheDust_34 (by rw [hb]) rfl
      · skip
        refine z_aload_n (pc := 12) dX0_inTheDust_12 0 rfl ?_
        refine z_get (pc := 13) (q0 := 0) (v := .ref hH) fL_X0_23 dX0_inTheDust_13 rfl rfl ?_
        refine z_iload_n (pc := 16) dX0_inTheDust_16 2 rfl ?_
        refine z_iald (pc := 17) (q0 := 1) (v := (iI (g 1 i))) dX0_inTheDust_17 rfl (by omega) (by decide) (aG_at (by omega)) ?_
        have b1 := okH ok i
        refine z_if_ne (pc := 18) (tgt := 27) dX0_inTheDust_18 (by decide) (by omega) (fun h18 => ?_) (fun h18 => ?_)
        · skip
          refine z_iinc (pc := 27) (lv2 := [(2, .int (iI (i + 1))), (0, .ref h), (1, .int b)]) dX0_inTheDust_27 2 rfl (by decide) rfl ?_
          refine z_goto (pc := 30) (tgt := 4) dX0_inTheDust_30 (by decide) ?_
          refine z_lv (lv2 := [(0, .ref h), (1, .int b), (2, .int (iI (i + 1)))]) [1, 2, 0] rfl ?_
          exact ih4 (i + 1) b (by omega) (by omega) (by rw [dustN_s _ hi0, ← hb, if_neg h18]) (by omega)
        · skip
          refine z_iload_n (pc := 21) dX0_inTheDust_21 1 rfl ?_
          refine z_iconst (pc := 22) dX0_inTheDust_22 ?_
          refine z_iload_n (pc := 23) dX0_inTheDust_23 2 rfl ?_
          refine z_ishl (pc := 24) dX0_inTheDust_24 ?_
          refine z_ior (pc := 25) dX0_inTheDust_25 ?_
          refine z_istore_n (pc := 26) (lv2 := [(1, .int (b ||| ((iI 1) <<< ((iI i) &&& 31)))), (0, .ref h), (2, .int (iI i))]) dX0_inTheDust_26 rfl (by decide) rfl ?_
          refine z_iinc (pc := 27) (lv2 := [(2, .int (iI (i + 1))), (1, .int (b ||| ((iI 1) <<< ((iI i) &&& 31)))), (0, .ref h)]) dX0_inTheDust_27 2 rfl (by decide) rfl ?_
          refine z_goto (pc := 30) (tgt := 4) dX0_inTheDust_30 (by decide) ?_
          refine z_lv (lv2 := [(0, .ref h), (1, .int (b ||| ((iI 1) <<< ((iI i) &&& 31)))), (2, .int (iI (i + 1)))]) [2, 1, 0] rfl ?_
          exact ih4 (i + 1) (b ||| ((iI 1) <<< ((iI i) &&& 31))) (by omega) (by omega) (by rw [dustN_s _ hi0, ← hb, if_pos (by omega)]) (by omega)
  refine z_lv (lv2 := [(0, .ref h), (1, .int (iI 0)), (2, .int (iI 0))]) [2, 1, 0] rfl ?_
  exact LP4 _ 0 (iI 0) (by omega) (by omega) (by rfl) (Nat.lt_succ_self _)
set_option maxHeartbeats 8000000 in
set_option maxRecDepth 100000 in
theorem c_X0_wantsOf (l : Launch) (D : va_G) (cI cJ cB cS : ClassId) (xa : XA) (h hK hH hM hO : Nat) (g : Gd) (c : Int) (ok : Ok g) (hc0 : 0 ≤ c) (hc1 : c < g 4 2) : Ct l D cI cJ cB cS xa yX0_wantsOf cX0_wantsOf 5 (some .int) 1 21 [.ref h, .int (iI c)] [(h, oG g hK hH hM hO), (hK, .inl (cI, 8, .inl (aG g 0))), (hH, .inl (cI, 8, .inl (aG g 1)))] (some (.int (iI (wantsG g c)))) [(h, oG g hK hH hM hO), (hK, .inl (cI, 8, .inl (aG g 0))), (hH, .inl (cI, 8, .inl (aG g 1)))] := by
  have o0 := ok0 ok
  have o1 := ok1 ok
  have o2 := ok2 ok
  refine CtE.of (own := RX0) (lv := [(0, .ref h), (1, .int (iI c))]) (by decide) rfl rfl (Nat.le_of_ble_eq_true rfl) ?_
  intro xp xe xs xm xb xt xc
  refine z_aload_n (pc := 0) dX0_wantsOf_0 0 rfl ?_
  refine z_get (pc := 1) (q0 := 0) (v := .int (iI (g 4 2))) fL_X0_16 dX0_wantsOf_1 rfl rfl ?_
  refine z_iconst (pc := 4) dX0_wantsOf_4 ?_
  refine z_icmp_ge (pc := 5) (tgt := 10) dX0_wantsOf_5 (by decide) (by omega) (by omega) (fun h5 => ?_) (fun h5 => ?_)
  · skip
    refine z_iconst (pc := 10) dX0_wantsOf_10 ?_
    refine z_istore_n (pc := 11) (lv2 := [(2, .int (iI 2)), (0, .ref h), (1, .int (iI c))]) dX0_wantsOf_11 rfl (by decide) rfl ?_
    refine z_iload_n (pc := 12) dX0_wantsOf_12 0 rfl ?_
    refine z_iconst (pc := 13) dX0_wantsOf_13 ?_
    refine z_iadd (pc := 14) dX0_wantsOf_14 ?_
    refine z_istore_n (pc := 15) (lv2 := [(3, .int (iI (2 + 3))), (2, .int (iI 2)), (0, .ref h), (1, .int (iI c))]) dX0_wantsOf_15 rfl (by decide) rfl ?_
    refine z_iload_n (pc := 16) dX0_wantsOf_16 1 rfl ?_
    refine z_iconst (pc := 17) dX0_wantsOf_17 ?_
    refine z_isub (pc := 18) dX0_wantsOf_18 ?_
    refine z_istore (pc := 19) (lv2 := [(4, .int (iI (2 - 1))), (3, .int (iI (2 + 3))), (2, .int (iI 2)), (0, .ref h), (1, .int (iI c))]) dX0_wantsOf_19 (by decide) rfl ?_
    refine z_aload_n (pc := 21) dX0_wantsOf_21 3 rfl ?_
    refine z_get (pc := 22) (q0 := 0) (v := .ref hK) fL_X0_19 dX0_wantsOf_22 rfl rfl ?_
    refine z_iload_n (pc := 25) dX0_wantsOf_25 4 rfl ?_
    refine z_iald (pc := 26) (q0 := 1) (v := (iI (g 0 c))) dX0_wantsOf_26 rfl (by omega) (by decide) (aG_at (by omega)) ?_
    have b1 := okK ok c
    by_cases h27 : 1 ≤ (g 0 c) ∧ (g 0 c) ≤ 5
    · skip
      have h27v : (g 0 c) = 1 ∨ (g 0 c) = 2 ∨ (g 0 c) = 3 ∨ (g 0 c) = 4 ∨ (g 0 c) = 5 := by omega
      rcases h27v with h27v | h27v | h27v | h27v | h27v
      · skip
        refine z_tableIn (pc := 27) (tgt := 60) dX0_wantsOf_27 (by omega) (by omega) (by omega) (by rw [h27v]; rfl) (by decide) ?_
        refine z_iload_n (pc := 60) dX0_wantsOf_60 1 rfl ?_
        exact z_iret (pc := 61) dX0_wantsOf_61 (congrArg (fun z => some (Value.int (iI z))) (show (wantsG g c) = 2 + 3 from by unfold wantsG; (repeat' split) <;> omega)) rfl
      · skip
        refine z_tableIn (pc := 27) (tgt := 62) dX0_wantsOf_27 (by omega) (by omega) (by omega) (by rw [h27v]; rfl) (by decide) ?_
        refine z_iload (pc := 62) dX0_wantsOf_62 0 rfl ?_
        exact z_iret (pc := 64) dX0_wantsOf_64 (congrArg (fun z => some (Value.int (iI z))) (show (wantsG g c) = 2 - 1 from by unfold wantsG; (repeat' split) <;> omega)) rfl
      · skip
        refine z_tableIn (pc := 27) (tgt := 65) dX0_wantsOf_27 (by omega) (by omega) (by omega) (by rw [h27v]; rfl) (by decide) ?_
        refine z_aload_n (pc := 65) dX0_wantsOf_65 3 rfl ?_
        refine z_get (pc := 66) (q0 := 0) (v := .ref hH) fL_X0_23 dX0_wantsOf_66 rfl rfl ?_
        refine z_aload_n (pc := 69) dX0_wantsOf_69 3 rfl ?_
        refine z_iload_n (pc := 70) dX0_wantsOf_70 4 rfl ?_
        refine z_callV (pc := 71) (st := [.ref hH]) (st2 := [.int (iI (nextG g c)), .ref hH]) (ws2 := [(h, oG g hK hH hM hO), (hK, .inl (cI, 8, .inl (aG g 0))), (hH, .inl (cI, 8, .inl (aG g 1)))]) (q0 := 0) (c_X0_nextOf l D cI cJ cB cS xa h hK hH hM hO g c ok (by omega) (by omega)) mV_X0_nextOf kM_X0_68 dX0_wantsOf_71 rfl rfl [0] rfl rfl rfl rfl rfl rfl rfl rfl ⟨Nat.le_of_ble_eq_true rfl, Nat.le_of_ble_eq_true rfl, Nat.le_of_ble_eq_true rfl⟩ ?_
        have f71_2 := nextG_rng ok (show (0 : Int) ≤ c by omega) (show c < g 4 2 by omega)
        refine z_iald (pc := 74) (q0 := 2) (v := (iI (g 1 (nextG g c)))) dX0_wantsOf_74 rfl (by omega) (by decide) (aG_at (by omega)) ?_
        have b3 := okH ok (nextG g c)
        refine z_aload_n (pc := 75) dX0_wantsOf_75 3 rfl ?_
        refine z_get (pc := 76) (q0 := 0) (v := .ref hH) fL_X0_23 dX0_wantsOf_76 rfl rfl ?_
        refine z_iload_n (pc := 79) dX0_wantsOf_79 4 rfl ?_
        refine z_iald (pc := 80) (q0 := 2) (v := (iI (g 1 c))) dX0_wantsOf_80 rfl (by omega) (by decide) (aG_at (by omega)) ?_
        have b4 := okH ok c
        refine z_icmp_ge (pc := 81) (tgt := 89) dX0_wantsOf_81 (by decide) (by omega) (by omega) (fun h81 => ?_) (fun h81 => ?_)
        · skip
          refine z_iconst (pc := 89) dX0_wantsOf_89 ?_
          exact z_iret (pc := 90) dX0_wantsOf_90 (congrArg (fun z => some (Value.int (iI z))) (show (wantsG g c) = 0 from by unfold wantsG; (repeat' split) <;> omega)) rfl
        · skip
          refine z_bipush (pc := 84) dX0_wantsOf_84 (by decide) ?_
          refine z_goto (pc := 86) (tgt := 90) dX0_wantsOf_86 (by decide) ?_
          exact z_iret (pc := 90) dX0_wantsOf_90 (congrArg (fun z => some (Value.int (iI z))) (show (wantsG g c) = -3 from by unfold wantsG; (repeat' split) <;> omega)) rfl
      · skip
        refine z_tableIn (pc := 27) (tgt := 91) dX0_wantsOf_27 (by omega) (by omega) (by omega) (by rw [h27v]; rfl) (by decide) ?_
        refine z_aload_n (pc := 91) dX0_wantsOf_91 3 rfl ?_
        refine z_callV (pc := 92) (st := []) (st2 := [.int (bI (satur g))]) (ws2 := [(h, oG g hK hH hM hO), (hK, .inl (cI, 8, .inl (aG g 0))), (hH, .inl (cI, 8, .inl (aG g 1)))]) (q0 := 0) (c_X0_isSaturday l D cI cJ cB cS xa h hK hH hM hO g ok) mV_X0_isSaturday kM_X0_72 dX0_wantsOf_92 rfl rfl [0] rfl rfl rfl rfl rfl rfl rfl rfl ⟨Nat.le_of_ble_eq_true rfl, Nat.le_of_ble_eq_true rfl, Nat.le_of_ble_eq_true rfl⟩ ?_
        refine z_ifb_eq (pc := 95) (tgt := 104) dX0_wantsOf_95 (by decide) (fun h95 => ?_) (fun h95 => ?_)
        · skip
          refine z_iload_n (pc := 104) dX0_wantsOf_104 1 rfl ?_
          exact z_iret (pc := 105) dX0_wantsOf_105 (congrArg (fun z => some (Value.int (iI z))) (show (wantsG g c) = 2 + 3 from by unfold wantsG; (repeat' split) <;> omega)) rfl
        · skip
          refine z_iconst (pc := 98) dX0_wantsOf_98 ?_
          refine z_iload_n (pc := 99) dX0_wantsOf_99 1 rfl ?_
          refine z_imul (pc := 100) dX0_wantsOf_100 ?_
          refine z_goto (pc := 101) (tgt := 105) dX0_wantsOf_101 (by decide) ?_
          exact z_iret (pc := 105) dX0_wantsOf_105 (congrArg (fun z => some (Value.int (iI z))) (show (wantsG g c) = 2 * (2 + 3) from by unfold wantsG; (repeat' split) <;> omega)) rfl
      · skip
        refine z_tableIn (pc := 27) (tgt := 106) dX0_wantsOf_27 (by omega) (by omega) (by omega) (by rw [h27v]; rfl) (by decide) ?_
        refine z_aload_n (pc := 106) dX0_wantsOf_106 3 rfl ?_
        refine z_get (pc := 107) (q0 := 0) (v := .ref hH) fL_X0_23 dX0_wantsOf_107 rfl rfl ?_
        refine z_iload_n (pc := 110) dX0_wantsOf_110 4 rfl ?_
        refine z_iald (pc := 111) (q0 := 2) (v := (iI (g 1 c))) dX0_wantsOf_111 rfl (by omega) (by decide) (aG_at (by omega)) ?_
        have b5 := okH ok c
        refine z_bipush (pc := 112) dX0_wantsOf_112 (by decide) ?_
        refine z_icmp_le (pc := 114) (tgt := 121) dX0_wantsOf_114 (by decide) (by omega) (by omega) (fun h114 => ?_) (fun h114 => ?_)
        · skip
          refine z_iload (pc := 121) dX0_wantsOf_121 0 rfl ?_
          exact z_iret (pc := 123) dX0_wantsOf_123 (congrArg (fun z => some (Value.int (iI z))) (show (wantsG g c) = 2 - 1 from by unfold wantsG; (repeat' split) <;> omega)) rfl
        · skip
          refine z_iconst (pc := 117) dX0_wantsOf_117 ?_
          refine z_goto (pc := 118) (tgt := 123) dX0_wantsOf_118 (by decide) ?_
          exact z_iret (pc := 123) dX0_wantsOf_123 (congrArg (fun z => some (Value.int (iI z))) (show (wantsG g c) = 0 from by unfold wantsG; (repeat' split) <;> omega)) rfl
    · skip
      refine z_tableOut (pc := 27) (tgt := 124) dX0_wantsOf_27 (by omega) (by omega) (by decide) ?_
      refine z_iload_n (pc := 124) dX0_wantsOf_124 2 rfl ?_
      exact z_iret (pc := 125) dX0_wantsOf_125 (congrArg (fun z => some (Value.int (iI z))) (show (wantsG g c) = 2 from by unfold wantsG; (repeat' split) <;> omega)) rfl
  · skip
    refine z_iconst (pc := 8) dX0_wantsOf_8 ?_
    exact z_iret (pc := 9) dX0_wantsOf_9 (congrArg (fun z => some (Value.int (iI z))) (show (wantsG g c) = 0 from by unfold wantsG; (repeat' split) <;> omega)) rfl
set_option maxHeartbeats 8000000 in
set_option maxRecDepth 100000 in
theorem c_X0_yieldsOf (l : Launch) (D : va_G) (cI cJ cB cS : ClassId) (xa : XA) (h hK hH hM hO : Nat) (g : Gd) (c : Int) (ok : Ok g) (hc0 : 0 ≤ c) (hc1 : c < g 4 2) : Ct l D cI cJ cB cS xa yX0_yieldsOf cX0_yieldsOf 5 (some .int) 1 20 [.ref h, .int (iI c)] [(h, oG g hK hH hM hO), (hK, .inl (cI, 8, .inl (aG g 0))), (hH, .inl (cI, 8, .inl (aG g 1)))] (some (.int (iI (yieldsG g c)))) [(h, oG g hK hH hM hO), (hK, .inl (cI, 8, .inl (aG g 0))), (hH, .inl (cI, 8, .inl (aG g 1)))] := by
  have o0 := ok0 ok
  have o1 := ok1 ok
  have o2 := ok2 ok
  refine CtE.of (own := RX0) (lv := [(0, .ref h), (1, .int (iI c))]) (by decide) rfl rfl (Nat.le_of_ble_eq_true rfl) ?_
  intro xp xe xs xm xb xt xc
  refine z_iconst (pc := 0) dX0_yieldsOf_0 ?_
  refine z_istore_n (pc := 1) (lv2 := [(2, .int (iI 4)), (0, .ref h), (1, .int (iI c))]) dX0_yieldsOf_1 rfl (by decide) rfl ?_
  refine z_iload_n (pc := 2) dX0_yieldsOf_2 0 rfl ?_
  refine z_iconst (pc := 3) dX0_yieldsOf_3 ?_
  refine z_idiv (pc := 4) dX0_yieldsOf_4 (by omega) ?_
  refine z_istore_n (pc := 5) (lv2 := [(3, .int (iI (4 / 2))), (2, .int (iI 4)), (0, .ref h), (1, .int (iI c))]) dX0_yieldsOf_5 rfl (by decide) rfl ?_
  refine z_iload_n (pc := 6) dX0_yieldsOf_6 1 rfl ?_
  refine z_iconst (pc := 7) dX0_yieldsOf_7 ?_
  refine z_iadd (pc := 8) dX0_yieldsOf_8 ?_
  refine z_istore (pc := 9) (lv2 := [(4, .int (iI (4 + 4))), (3, .int (iI (4 / 2))), (2, .int (iI 4)), (0, .ref h), (1, .int (iI c))]) dX0_yieldsOf_9 (by decide) rfl ?_
  refine z_aload_n (pc := 11) dX0_yieldsOf_11 3 rfl ?_
  refine z_get (pc := 12) (q0 := 0) (v := .ref hK) fL_X0_19 dX0_yieldsOf_12 rfl rfl ?_
  refine z_iload_n (pc := 15) dX0_yieldsOf_15 4 rfl ?_
  refine z_iald (pc := 16) (q0 := 1) (v := (iI (g 0 c))) dX0_yieldsOf_16 rfl (by omega) (by decide) (aG_at (by omega)) ?_
  have b1 := okK ok c
  by_cases h17 : 1 ≤ (g 0 c) ∧ (g 0 c) ≤ 5
  · skip
    have h17v : (g 0 c) = 1 ∨ (g 0 c) = 2 ∨ (g 0 c) = 3 ∨ (g 0 c) = 4 ∨ (g 0 c) = 5 := by omega
    rcases h17v with h17v | h17v | h17v | h17v | h17v
    · skip
      refine z_tableIn (pc := 17) (tgt := 52) dX0_yieldsOf_17 (by omega) (by omega) (by omega) (by rw [h17v]; rfl) (by decide) ?_
      refine z_iload_n (pc := 52) dX0_yieldsOf_52 1 rfl ?_
      exact z_iret (pc := 53) dX0_yieldsOf_53 (congrArg (fun z => some (Value.int (iI z))) (show (yieldsG g c) = 4 / 2 from by unfold yieldsG; (repeat' split) <;> omega)) rfl
    · skip
      refine z_tableIn (pc := 17) (tgt := 54) dX0_yieldsOf_17 (by omega) (by omega) (by omega) (by rw [h17v]; rfl) (by decide) ?_
      refine z_iload (pc := 54) dX0_yieldsOf_54 0 rfl ?_
      exact z_iret (pc := 56) dX0_yieldsOf_56 (congrArg (fun z => some (Value.int (iI z))) (show (yieldsG g c) = 4 + 4 from by unfold yieldsG; (repeat' split) <;> omega)) rfl
    · skip
      refine z_tableIn (pc := 17) (tgt := 57) dX0_yieldsOf_17 (by omega) (by omega) (by omega) (by rw [h17v]; rfl) (by decide) ?_
      refine z_aload_n (pc := 57) dX0_yieldsOf_57 3 rfl ?_
      refine z_get (pc := 58) (q0 := 0) (v := .ref hH) fL_X0_23 dX0_yieldsOf_58 rfl rfl ?_
      refine z_iload_n (pc := 61) dX0_yieldsOf_61 4 rfl ?_
      refine z_iald (pc := 62) (q0 := 2) (v := (iI (g 1 c))) dX0_yieldsOf_62 rfl (by omega) (by decide) (aG_at (by omega)) ?_
      have b2 := okH ok c
      exact z_iret (pc := 63) dX0_yieldsOf_63 (congrArg (fun z => some (Value.int (iI z))) (show (yieldsG g c) = g 1 c from by unfold yieldsG; (repeat' split) <;> omega)) rfl
    · skip
      refine z_tableIn (pc := 17) (tgt := 64) dX0_yieldsOf_17 (by omega) (by omega) (by omega) (by rw [h17v]; rfl) (by decide) ?_
      refine z_aload_n (pc := 64) dX0_yieldsOf_64 3 rfl ?_
      refine z_callV (pc := 65) (st := []) (st2 := [.int (bI (satur g))]) (ws2 := [(h, oG g hK hH hM hO), (hK, .inl (cI, 8, .inl (aG g 0))), (hH, .inl (cI, 8, .inl (aG g 1)))]) (q0 := 0) (c_X0_isSaturday l D cI cJ cB cS xa h hK hH hM hO g ok) mV_X0_isSaturday kM_X0_72 dX0_yieldsOf_65 rfl rfl [0] rfl rfl rfl rfl rfl rfl rfl rfl ⟨Nat.le_of_ble_eq_true rfl, Nat.le_of_ble_eq_true rfl, Nat.le_of_ble_eq_true rfl⟩ ?_
      refine z_ifb_eq (pc := 68) (tgt := 75) dX0_yieldsOf_68 (by decide) (fun h68 => ?_) (fun h68 => ?_)
      · skip
        refine z_iload_n (pc := 75) dX0_yieldsOf_75 1 rfl ?_
        exact z_iret (pc := 76) dX0_yieldsOf_76 (congrArg (fun z => some (Value.int (iI z))) (show (yieldsG g c) = 4 / 2 from by unfold yieldsG; (repeat' split) <;> omega)) rfl
      · skip
        refine z_iconst (pc := 71) dX0_yieldsOf_71 ?_
        refine z_goto (pc := 72) (tgt := 76) dX0_yieldsOf_72 (by decide) ?_
        exact z_iret (pc := 76) dX0_yieldsOf_76 (congrArg (fun z => some (Value.int (iI z))) (show (yieldsG g c) = 0 from by unfold yieldsG; (repeat' split) <;> omega)) rfl
    · skip
      refine z_tableIn (pc := 17) (tgt := 54) dX0_yieldsOf_17 (by omega) (by omega) (by omega) (by rw [h17v]; rfl) (by decide) ?_
      refine z_iload (pc := 54) dX0_yieldsOf_54 0 rfl ?_
      exact z_iret (pc := 56) dX0_yieldsOf_56 (congrArg (fun z => some (Value.int (iI z))) (show (yieldsG g c) = 4 + 4 from by unfold yieldsG; (repeat' split) <;> omega)) rfl
  · skip
    refine z_tableOut (pc := 17) (tgt := 77) dX0_yieldsOf_17 (by omega) (by omega) (by decide) ?_
    refine z_iload_n (pc := 77) dX0_yieldsOf_77 2 rfl ?_
    exact z_iret (pc := 78) dX0_yieldsOf_78 (congrArg (fun z => some (Value.int (iI z))) (show (yieldsG g c) = 4 from by unfold yieldsG; (repeat' split) <;> omega)) rfl
set_option maxHeartbeats 8000000 in
set_option maxRecDepth 100000 in
theorem c_X0_addOne (l : Launch) (D : va_G) (cI cJ cB cS : ClassId) (xa : XA) (h hK hH hM hO : Nat) (g : Gd) (k : Int) (ok : Ok g) (hn : g 4 2 < 8) (hk : 0 ≤ k ∧ k ≤ 5) : Ct l D cI cJ cB cS xa yX0_addOne cX0_addOne 3 (some .int) 0 0 [.ref h, .int (iI k)] [(h, oG g hK hH hM hO), (hK, .inl (cI, 8, .inl (aG g 0))), (hH, .inl (cI, 8, .inl (aG g 1))), (hM, .inl (cI, 8, .inl (aG g 2))), (hO, .inl (cI, 8, .inl (aG g 3)))] (some (.int (iI (g 4 2)))) [(h, oG (addG g k 50 5) hK hH hM hO), (hK, .inl (cI, 8, .inl (aG (addG g k 50 5) 0))), (hH, .inl (cI, 8, .inl (aG (addG g k 50 5) 1))), (hM, .inl (cI, 8, .inl (aG (addG g k 50 5) 2))), (hO, .inl (cI, 8, .inl (aG (addG g k 50 5) 3)))] := by
  have o0 := ok0 ok
  have o1 := ok1 ok
  have o2 := ok2 ok
  refine CtE.of (own := RX0) (lv := [(0, .ref h), (1, .int (iI k))]) (by decide) rfl rfl (Nat.le_of_ble_eq_true rfl) ?_
  intro xp xe xs xm xb xt xc
  refine z_aload_n (pc := 0) dX0_addOne_0 0 rfl ?_
  refine z_get (pc := 1) (q0 := 0) (v := .int (iI (g 4 2))) fL_X0_16 dX0_addOne_1 rfl rfl ?_
  refine z_istore_n (pc := 4) (lv2 := [(2, .int (iI (g 4 2))), (0, .ref h), (1, .int (iI k))]) dX0_addOne_4 rfl (by decide) rfl ?_
  refine z_aload_n (pc := 5) dX0_addOne_5 1 rfl ?_
  refine z_get (pc := 6) (q0 := 0) (v := .ref hK) fL_X0_19 dX0_addOne_6 rfl rfl ?_
  refine z_iload_n (pc := 9) dX0_addOne_9 0 rfl ?_
  refine z_iload_n (pc := 10) dX0_addOne_10 2 rfl ?_
  refine z_iast (pc := 11) (q0 := 1) (ws2 := [(h, oG (up2 g 0 (g 4 2) k) hK hH hM hO), (hK, .inl (cI, 8, .inl (aG (up2 g 0 (g 4 2) k) 0))), (hH, .inl (cI, 8, .inl (aG (up2 g 0 (g 4 2) k) 1))), (hM, .inl (cI, 8, .inl (aG (up2 g 0 (g 4 2) k) 2))), (hO, .inl (cI, 8, .inl (aG (up2 g 0 (g 4 2) k) 3)))]) dX0_addOne_11 rfl (by omega) (by decide) (by rw [aG_up (by omega)]; rfl) ?_
  refine z_aload_n (pc := 12) dX0_addOne_12 1 rfl ?_
  refine z_get (pc := 13) (q0 := 0) (v := .ref hH) fL_X0_23 dX0_addOne_13 rfl rfl ?_
  refine z_iload_n (pc := 16) dX0_addOne_16 0 rfl ?_
  refine z_bipush (pc := 17) dX0_addOne_17 (by decide) ?_
  refine z_iast (pc := 19) (q0 := 2) (ws2 := [(h, oG (up2 (up2 g 0 (g 4 2) k) 1 (g 4 2) 50) hK hH hM hO), (hK, .inl (cI, 8, .inl (aG (up2 (up2 g 0 (g 4 2) k) 1 (g 4 2) 50) 0))), (hH, .inl (cI, 8, .inl (aG (up2 (up2 g 0 (g 4 2) k) 1 (g 4 2) 50) 1))), (hM, .inl (cI, 8, .inl (aG (up2 (up2 g 0 (g 4 2) k) 1 (g 4 2) 50) 2))), (hO, .inl (cI, 8, .inl (aG (up2 (up2 g 0 (g 4 2) k) 1 (g 4 2) 50) 3)))]) dX0_addOne_19 rfl (by omega) (by decide) (by rw [aG_up (by omega)]; rfl) ?_
  refine z_aload_n (pc := 20) dX0_addOne_20 1 rfl ?_
  refine z_get (pc := 21) (q0 := 0) (v := .ref hM) fL_X0_26 dX0_addOne_21 rfl rfl ?_
  refine z_iload_n (pc := 24) dX0_addOne_24 0 rfl ?_
  refine z_iconst (pc := 25) dX0_addOne_25 ?_
  refine z_iast (pc := 26) (q0 := 3) (ws2 := [(h, oG (up2 (up2 (up2 g 0 (g 4 2) k) 1 (g 4 2) 50) 2 (g 4 2) 5) hK hH hM hO), (hK, .inl (cI, 8, .inl (aG (up2 (up2 (up2 g 0 (g 4 2) k) 1 (g 4 2) 50) 2 (g 4 2) 5) 0))), (hH, .inl (cI, 8, .inl (aG (up2 (up2 (up2 g 0 (g 4 2) k) 1 (g 4 2) 50) 2 (g 4 2) 5) 1))), (hM, .inl (cI, 8, .inl (aG (up2 (up2 (up2 g 0 (g 4 2) k) 1 (g 4 2) 50) 2 (g 4 2) 5) 2))), (hO, .inl (cI, 8, .inl (aG (up2 (up2 (up2 g 0 (g 4 2) k) 1 (g 4 2) 50) 2 (g 4 2) 5) 3)))]) dX0_addOne_26 rfl (by omega) (by decide) (by rw [aG_up (by omega)]; rfl) ?_
  refine z_aload_n (pc := 27) dX0_addOne_27 1 rfl ?_
  refine z_get (pc := 28) (q0 := 0) (v := .ref hO) fL_X0_29 dX0_addOne_28 rfl rfl ?_
  refine z_iload_n (pc := 31) dX0_addOne_31 0 rfl ?_
  refine z_iconst (pc := 32) dX0_addOne_32 ?_
  refine z_iast (pc := 33) (q0 := 4) (ws2 := [(h, oG (up2 (up2 (up2 (up2 g 0 (g 4 2) k) 1 (g 4 2) 50) 2 (g 4 2) 5) 3 (g 4 2) 0) hK hH hM hO), (hK, .inl (cI, 8, .inl (aG (up2 (up2 (up2 (up2 g 0 (g 4 2) k) 1 (g 4 2) 50) 2 (g 4 2) 5) 3 (g 4 2) 0) 0))), (hH, .inl (cI, 8, .inl (aG (up2 (up2 (up2 (up2 g 0 (g 4 2) k) 1 (g 4 2) 50) 2 (g 4 2) 5) 3 (g 4 2) 0) 1))), (hM, .inl (cI, 8, .inl (aG (up2 (up2 (up2 (up2 g 0 (g 4 2) k) 1 (g 4 2) 50) 2 (g 4 2) 5) 3 (g 4 2) 0) 2))), (hO, .inl (cI, 8, .inl (aG (up2 (up2 (up2 (up2 g 0 (g 4 2) k) 1 (g 4 2) 50) 2 (g 4 2) 5) 3 (g 4 2) 0) 3)))]) dX0_addOne_33 rfl (by omega) (by decide) (by rw [aG_up (by omega)]; rfl) ?_
  refine z_aload_n (pc := 34) dX0_addOne_34 1 rfl ?_
  refine z_dup (pc := 35) dX0_addOne_35 rfl ?_
  refine z_get (pc := 36) (q0 := 0) (v := .int (iI (g 4 2))) fL_X0_16 dX0_addOne_36 rfl rfl ?_
  refine z_iconst (pc := 39) dX0_addOne_39 ?_
  refine z_iadd (pc := 40) dX0_addOne_40 ?_
  refine z_put (pc := 41) (q0 := 0) (ws2 := [(h, oG (up2 (up2 (up2 (up2 (up2 g 0 (g 4 2) k) 1 (g 4 2) 50) 2 (g 4 2) 5) 3 (g 4 2) 0) 4 2 ((g 4 2) + 1)) hK hH hM hO), (hK, .inl (cI, 8, .inl (aG (up2 (up2 (up2 (up2 (up2 g 0 (g 4 2) k) 1 (g 4 2) 50) 2 (g 4 2) 5) 3 (g 4 2) 0) 4 2 ((g 4 2) + 1)) 0))), (hH, .inl (cI, 8, .inl (aG (up2 (up2 (up2 (up2 (up2 g 0 (g 4 2) k) 1 (g 4 2) 50) 2 (g 4 2) 5) 3 (g 4 2) 0) 4 2 ((g 4 2) + 1)) 1))), (hM, .inl (cI, 8, .inl (aG (up2 (up2 (up2 (up2 (up2 g 0 (g 4 2) k) 1 (g 4 2) 50) 2 (g 4 2) 5) 3 (g 4 2) 0) 4 2 ((g 4 2) + 1)) 2))), (hO, .inl (cI, 8, .inl (aG (up2 (up2 (up2 (up2 (up2 g 0 (g 4 2) k) 1 (g 4 2) 50) 2 (g 4 2) 5) 3 (g 4 2) 0) 4 2 ((g 4 2) + 1)) 3)))]) fP_X0_16 dX0_addOne_41 rfl rfl rfl (Nat.le_of_ble_eq_true rfl) rfl ?_
  refine z_iload_n (pc := 44) dX0_addOne_44 0 rfl ?_
  exact z_iret (pc := 45) dX0_addOne_45 rfl rfl
set_option maxHeartbeats 8000000 in
set_option maxRecDepth 100000 in
theorem c_X0_carry (l : Launch) (D : va_G) (cI cJ cB cS : ClassId) (xa : XA) (h hK hH hM hO : Nat) (g : Gd) (f t n : Int) (ok : Ok g) (hf : 0 ≤ f ∧ f < g 4 2) (ht : 0 ≤ t ∧ t < g 4 2) (hn : 0 ≤ n ∧ n ≤ 200) : Ct l D cI cJ cB cS xa yX0_carry cX0_carry 5 (some .int) 1 21 [.ref h, .int (iI f), .int (iI t), .int (iI n)] [(h, oG g hK hH hM hO), (hK, .inl (cI, 8, .inl (aG g 0))), (hH, .inl (cI, 8, .inl (aG g 1))), (hM, .inl (cI, 8, .inl (aG g 2))), (hO, .inl (cI, 8, .inl (aG g 3)))] (some (.int (iI (mayG g f t n)))) [(h, oG (goesG g f t (mayG g f t n)) hK hH hM hO), (hK, .inl (cI, 8, .inl (aG (goesG g f t (mayG g f t n)) 0))), (hH, .inl (cI, 8, .inl (aG (goesG g f t (mayG g f t n)) 1))), (hM, .inl (cI, 8, .inl (aG (goesG g f t (mayG g f t n)) 2))), (hO, .inl (cI, 8, .inl (aG (goesG g f t (mayG g f t n)) 3)))] := by
  have o0 := ok0 ok
  have o1 := ok1 ok
  have o2 := ok2 ok
  have mr := mayG_rng ok f t (n := n) (by omega)
  unfold mayG at mr
  refine CtE.of (own := RX0) (lv := [(0, .ref h), (1, .int (iI f)), (2, .int (iI t)), (3, .int (iI n))]) (by decide) rfl rfl (Nat.le_of_ble_eq_true rfl) ?_
  intro xp xe xs xm xb xt xc
  refine z_iload_n (pc := 0) dX0_carry_0 3 rfl ?_
  refine z_aload_n (pc := 1) dX0_carry_1 0 rfl ?_
  refine z_get (pc := 2) (q0 := 0) (v := .ref hH) fL_X0_23 dX0_carry_2 rfl rfl ?_
  refine z_iload_n (pc := 5) dX0_carry_5 1 rfl ?_
  refine z_iald (pc := 6) (q0 := 2) (v := (iI (g 1 f))) dX0_carry_6 rfl (by omega) (by decide) (aG_at (by omega)) ?_
  have b1 := okH ok f
  refine z_sipush (pc := 7) dX0_carry_7 (by decide) ?_
  refine z_aload_n (pc := 10) dX0_carry_10 0 rfl ?_
  refine z_get (pc := 11) (q0 := 0) (v := .ref hH) fL_X0_23 dX0_carry_11 rfl rfl ?_
  refine z_iload_n (pc := 14) dX0_carry_14 2 rfl ?_
  refine z_iald (pc := 15) (q0 := 2) (v := (iI (g 1 t))) dX0_carry_15 rfl (by omega) (by decide) (aG_at (by omega)) ?_
  have b2 := okH ok t
  refine z_isub (pc := 16) dX0_carry_16 ?_
  refine z_min (pc := 17) mmin_X0_41 dX0_carry_17 (by omega) (by omega) ⟨Nat.le_of_ble_eq_true rfl, Nat.le_of_ble_eq_true rfl⟩ ?_
  refine z_min (pc := 20) mmin_X0_41 dX0_carry_20 (by omega) (by omega) ⟨Nat.le_of_ble_eq_true rfl, Nat.le_of_ble_eq_true rfl⟩ ?_
  refine z_istore (pc := 23) (lv2 := [(4, .int (iI (min n (min (g 1 f) (200 - (g 1 t)))))), (0, .ref h), (1, .int (iI f)), (2, .int (iI t)), (3, .int (iI n))]) dX0_carry_23 (by decide) rfl ?_
  refine z_aload_n (pc := 25) dX0_carry_25 1 rfl ?_
  refine z_get (pc := 26) (q0 := 0) (v := .ref hH) fL_X0_23 dX0_carry_26 rfl rfl ?_
  refine z_iload_n (pc := 29) dX0_carry_29 2 rfl ?_
  refine z_dup2 (pc := 30) dX0_carry_30 rfl rfl ?_
  refine z_iald (pc := 31) (q0 := 2) (v := (iI (g 1 f))) dX0_carry_31 rfl (by omega) (by decide) (aG_at (by omega)) ?_
  have b3 := okH ok f
  refine z_iload (pc := 32) dX0_carry_32 0 rfl ?_
  refine z_isub (pc := 34) dX0_carry_34 ?_
  refine z_iast (pc := 35) (q0 := 2) (ws2 := [(h, oG (up2 g 1 f ((g 1 f) - (min n (min (g 1 f) (200 - (g 1 t)))))) hK hH hM hO), (hK, .inl (cI, 8, .inl (aG (up2 g 1 f ((g 1 f) - (min n (min (g 1 f) (200 - (g 1 t)))))) 0))), (hH, .inl (cI, 8, .inl (aG (up2 g 1 f ((g 1 f) - (min n (min (g 1 f) (200 - (g 1 t)))))) 1))), (hM, .inl (cI, 8, .inl (aG (up2 g 1 f ((g 1 f) - (min n (min (g 1 f) (200 - (g 1 t)))))) 2))), (hO, .inl (cI, 8, .inl (aG (up2 g 1 f ((g 1 f) - (min n (min (g 1 f) (200 - (g 1 t)))))) 3)))]) dX0_carry_35 rfl (by omega) (by decide) (by rw [aG_up (by omega)]; rfl) ?_
  refine z_aload_n (pc := 36) dX0_carry_36 1 rfl ?_
  refine z_get (pc := 37) (q0 := 0) (v := .ref hH) fL_X0_23 dX0_carry_37 rfl rfl ?_
  refine z_iload_n (pc := 40) dX0_carry_40 3 rfl ?_
  refine z_dup2 (pc := 41) dX0_carry_41 rfl rfl ?_
  refine z_iald (pc := 42) (q0 := 2) (v := (iI ((up2 g 1 f ((g 1 f) - (min n (min (g 1 f) (200 - (g 1 t)))))) 1 t))) dX0_carry_42 rfl (by omega) (by decide) (aG_at (by omega)) ?_
  refine z_iload (pc := 43) dX0_carry_43 0 rfl ?_
  refine z_iadd (pc := 45) dX0_carry_45 ?_
  refine z_iast (pc := 46) (q0 := 2) (ws2 := [(h, oG (up2 (up2 g 1 f ((g 1 f) - (min n (min (g 1 f) (200 - (g 1 t)))))) 1 t (((up2 g 1 f ((g 1 f) - (min n (min (g 1 f) (200 - (g 1 t)))))) 1 t) + (min n (min (g 1 f) (200 - (g 1 t)))))) hK hH hM hO), (hK, .inl (cI, 8, .inl (aG (up2 (up2 g 1 f ((g 1 f) - (min n (min (g 1 f) (200 - (g 1 t)))))) 1 t (((up2 g 1 f ((g 1 f) - (min n (min (g 1 f) (200 - (g 1 t)))))) 1 t) + (min n (min (g 1 f) (200 - (g 1 t)))))) 0))), (hH, .inl (cI, 8, .inl (aG (up2 (up2 g 1 f ((g 1 f) - (min n (min (g 1 f) (200 - (g 1 t)))))) 1 t (((up2 g 1 f ((g 1 f) - (min n (min (g 1 f) (200 - (g 1 t)))))) 1 t) + (min n (min (g 1 f) (200 - (g 1 t)))))) 1))), (hM, .inl (cI, 8, .inl (aG (up2 (up2 g 1 f ((g 1 f) - (min n (min (g 1 f) (200 - (g 1 t)))))) 1 t (((up2 g 1 f ((g 1 f) - (min n (min (g 1 f) (200 - (g 1 t)))))) 1 t) + (min n (min (g 1 f) (200 - (g 1 t)))))) 2))), (hO, .inl (cI, 8, .inl (aG (up2 (up2 g 1 f ((g 1 f) - (min n (min (g 1 f) (200 - (g 1 t)))))) 1 t (((up2 g 1 f ((g 1 f) - (min n (min (g 1 f) (200 - (g 1 t)))))) 1 t) + (min n (min (g 1 f) (200 - (g 1 t)))))) 3)))]) dX0_carry_46 rfl (by omega) (by decide) (by rw [aG_up (by omega)]; rfl) ?_
  refine z_aload_n (pc := 47) dX0_carry_47 1 rfl ?_
  refine z_get (pc := 48) (q0 := 0) (v := .ref hO) fL_X0_29 dX0_carry_48 rfl rfl ?_
  refine z_iload_n (pc := 51) dX0_carry_51 2 rfl ?_
  refine z_aload_n (pc := 52) dX0_carry_52 1 rfl ?_
  refine z_get (pc := 53) (q0 := 0) (v := .ref hO) fL_X0_29 dX0_carry_53 rfl rfl ?_
  refine z_iload_n (pc := 56) dX0_carry_56 2 rfl ?_
  refine z_iald (pc := 57) (q0 := 4) (v := (iI (g 3 f))) dX0_carry_57 rfl (by omega) (by decide) (aG_at (by omega)) ?_
  have b4 := okO ok f
  refine z_iload (pc := 58) dX0_carry_58 0 rfl ?_
  refine z_isub (pc := 60) dX0_carry_60 ?_
  refine z_sipush (pc := 61) dX0_carry_61 (by decide) ?_
  refine z_max (pc := 64) mmax_X0_106 dX0_carry_64 (by omega) (by omega) ⟨Nat.le_of_ble_eq_true rfl, Nat.le_of_ble_eq_true rfl⟩ ?_
  refine z_iast (pc := 67) (q0 := 4) (ws2 := [(h, oG (up2 (up2 (up2 g 1 f ((g 1 f) - (min n (min (g 1 f) (200 - (g 1 t)))))) 1 t (((up2 g 1 f ((g 1 f) - (min n (min (g 1 f) (200 - (g 1 t)))))) 1 t) + (min n (min (g 1 f) (200 - (g 1 t)))))) 3 f (max ((g 3 f) - (min n (min (g 1 f) (200 - (g 1 t))))) (-9999))) hK hH hM hO), (hK, .inl (cI, 8, .inl (aG (up2 (up2 (up2 g 1 f ((g 1 f) - (min n (min (g 1 f) (200 - (g 1 t)))))) 1 t (((up2 g 1 f ((g 1 f) - (min n (min (g 1 f) (200 - (g 1 t)))))) 1 t) + (min n (min (g 1 f) (200 - (g 1 t)))))) 3 f (max ((g 3 f) - (min n (min (g 1 f) (200 - (g 1 t))))) (-9999))) 0))), (hH, .inl (cI, 8, .inl (aG (up2 (up2 (up2 g 1 f ((g 1 f) - (min n (min (g 1 f) (200 - (g 1 t)))))) 1 t (((up2 g 1 f ((g 1 f) - (min n (min (g 1 f) (200 - (g 1 t)))))) 1 t) + (min n (min (g 1 f) (200 - (g 1 t)))))) 3 f (max ((g 3 f) - (min n (min (g 1 f) (200 - (g 1 t))))) (-9999))) 1))), (hM, .inl (cI, 8, .inl (aG (up2 (up2 (up2 g 1 f ((g 1 f) - (min n (min (g 1 f) (200 - (g 1 t)))))) 1 t (((up2 g 1 f ((g 1 f) - (min n (min (g 1 f) (200 - (g 1 t)))))) 1 t) + (min n (min (g 1 f) (200 - (g 1 t)))))) 3 f (max ((g 3 f) - (min n (min (g 1 f) (200 - (g 1 t))))) (-9999))) 2))), (hO, .inl (cI, 8, .inl (aG (up2 (up2 (up2 g 1 f ((g 1 f) - (min n (min (g 1 f) (200 - (g 1 t)))))) 1 t (((up2 g 1 f ((g 1 f) - (min n (min (g 1 f) (200 - (g 1 t)))))) 1 t) + (min n (min (g 1 f) (200 - (g 1 t)))))) 3 f (max ((g 3 f) - (min n (min (g 1 f) (200 - (g 1 t))))) (-9999))) 3)))]) dX0_carry_67 rfl (by omega) (by decide) (by rw [aG_up (by omega)]; rfl) ?_
  refine z_aload_n (pc := 68) dX0_carry_68 1 rfl ?_
  refine z_get (pc := 69) (q0 := 0) (v := .ref hO) fL_X0_29 dX0_carry_69 rfl rfl ?_
  refine z_iload_n (pc := 72) dX0_carry_72 3 rfl ?_
  refine z_aload_n (pc := 73) dX0_carry_73 1 rfl ?_
  refine z_get (pc := 74) (q0 := 0) (v := .ref hO) fL_X0_29 dX0_carry_74 rfl rfl ?_
  refine z_iload_n (pc := 77) dX0_carry_77 3 rfl ?_
  refine z_iald (pc := 78) (q0 := 4) (v := (iI ((up2 (up2 (up2 g 1 f ((g 1 f) - (min n (min (g 1 f) (200 - (g 1 t)))))) 1 t (((up2 g 1 f ((g 1 f) - (min n (min (g 1 f) (200 - (g 1 t)))))) 1 t) + (min n (min (g 1 f) (200 - (g 1 t)))))) 3 f (max ((g 3 f) - (min n (min (g 1 f) (200 - (g 1 t))))) (-9999))) 3 t))) dX0_carry_78 rfl (by omega) (by decide) (aG_at (by omega)) ?_
  have k9 : -9999 ≤ (up2 (up2 (up2 g 1 f ((g 1 f) - (min n (min (g 1 f) (200 - (g 1 t)))))) 1 t (((up2 g 1 f ((g 1 f) - (min n (min (g 1 f) (200 - (g 1 t)))))) 1 t) + (min n (min (g 1 f) (200 - (g 1 t)))))) 3 f (max ((g 3 f) - (min n (min (g 1 f) (200 - (g 1 t))))) (-9999))) 3 t ∧ (up2 (up2 (up2 g 1 f ((g 1 f) - (min n (min (g 1 f) (200 - (g 1 t)))))) 1 t (((up2 g 1 f ((g 1 f) - (min n (min (g 1 f) (200 - (g 1 t)))))) 1 t) + (min n (min (g 1 f) (200 - (g 1 t)))))) 3 f (max ((g 3 f) - (min n (min (g 1 f) (200 - (g 1 t))))) (-9999))) 3 t ≤ 9999 := by
    have kO := okO ok t
    rw [up2_if]
    split
    · omega
    · exact kO
  refine z_iload (pc := 79) dX0_carry_79 0 rfl ?_
  refine z_iadd (pc := 81) dX0_carry_81 ?_
  refine z_sipush (pc := 82) dX0_carry_82 (by decide) ?_
  refine z_min (pc := 85) mmin_X0_41 dX0_carry_85 (by omega) (by omega) ⟨Nat.le_of_ble_eq_true rfl, Nat.le_of_ble_eq_true rfl⟩ ?_
  refine z_iast (pc := 88) (q0 := 4) (ws2 := [(h, oG (up2 (up2 (up2 (up2 g 1 f ((g 1 f) - (min n (min (g 1 f) (200 - (g 1 t)))))) 1 t (((up2 g 1 f ((g 1 f) - (min n (min (g 1 f) (200 - (g 1 t)))))) 1 t) + (min n (min (g 1 f) (200 - (g 1 t)))))) 3 f (max ((g 3 f) - (min n (min (g 1 f) (200 - (g 1 t))))) (-9999))) 3 t (min (((up2 (up2 (up2 g 1 f ((g 1 f) - (min n (min (g 1 f) (200 - (g 1 t)))))) 1 t (((up2 g 1 f ((g 1 f) - (min n (min (g 1 f) (200 - (g 1 t)))))) 1 t) + (min n (min (g 1 f) (200 - (g 1 t)))))) 3 f (max ((g 3 f) - (min n (min (g 1 f) (200 - (g 1 t))))) (-9999))) 3 t) + (min n (min (g 1 f) (200 - (g 1 t))))) 9999)) hK hH hM hO), (hK, .inl (cI, 8, .inl (aG (up2 (up2 (up2 (up2 g 1 f ((g 1 f) - (min n (min (g 1 f) (200 - (g 1 t)))))) 1 t (((up2 g 1 f ((g 1 f) - (min n (min (g 1 f) (200 - (g 1 t)))))) 1 t) + (min n (min (g 1 f) (200 - (g 1 t)))))) 3 f (max ((g 3 f) - (min n (min (g 1 f) (200 - (g 1 t))))) (-9999))) 3 t (min (((up2 (up2 (up2 g 1 f ((g 1 f) - (min n (min (g 1 f) (200 - (g 1 t)))))) 1 t (((up2 g 1 f ((g 1 f) - (min n (min (g 1 f) (200 - (g 1 t)))))) 1 t) + (min n (min (g 1 f) (200 - (g 1 t)))))) 3 f (max ((g 3 f) - (min n (min (g 1 f) (200 - (g 1 t))))) (-9999))) 3 t) + (min n (min (g 1 f) (200 - (g 1 t))))) 9999)) 0))), (hH, .inl (cI, 8, .inl (aG (up2 (up2 (up2 (up2 g 1 f ((g 1 f) - (min n (min (g 1 f) (200 - (g 1 t)))))) 1 t (((up2 g 1 f ((g 1 f) - (min n (min (g 1 f) (200 - (g 1 t)))))) 1 t) + (min n (min (g 1 f) (200 - (g 1 t)))))) 3 f (max ((g 3 f) - (min n (min (g 1 f) (200 - (g 1 t))))) (-9999))) 3 t (min (((up2 (up2 (up2 g 1 f ((g 1 f) - (min n (min (g 1 f) (200 - (g 1 t)))))) 1 t (((up2 g 1 f ((g 1 f) - (min n (min (g 1 f) (200 - (g 1 t)))))) 1 t) + (min n (min (g 1 f) (200 - (g 1 t)))))) 3 f (max ((g 3 f) - (min n (min (g 1 f) (200 - (g 1 t))))) (-9999))) 3 t) + (min n (min (g 1 f) (200 - (g 1 t))))) 9999)) 1))), (hM, .inl (cI, 8, .inl (aG (up2 (up2 (up2 (up2 g 1 f ((g 1 f) - (min n (min (g 1 f) (200 - (g 1 t)))))) 1 t (((up2 g 1 f ((g 1 f) - (min n (min (g 1 f) (200 - (g 1 t)))))) 1 t) + (min n (min (g 1 f) (200 - (g 1 t)))))) 3 f (max ((g 3 f) - (min n (min (g 1 f) (200 - (g 1 t))))) (-9999))) 3 t (min (((up2 (up2 (up2 g 1 f ((g 1 f) - (min n (min (g 1 f) (200 - (g 1 t)))))) 1 t (((up2 g 1 f ((g 1 f) - (min n (min (g 1 f) (200 - (g 1 t)))))) 1 t) + (min n (min (g 1 f) (200 - (g 1 t)))))) 3 f (max ((g 3 f) - (min n (min (g 1 f) (200 - (g 1 t))))) (-9999))) 3 t) + (min n (min (g 1 f) (200 - (g 1 t))))) 9999)) 2))), (hO, .inl (cI, 8, .inl (aG (up2 (up2 (up2 (up2 g 1 f ((g 1 f) - (min n (min (g 1 f) (200 - (g 1 t)))))) 1 t (((up2 g 1 f ((g 1 f) - (min n (min (g 1 f) (200 - (g 1 t)))))) 1 t) + (min n (min (g 1 f) (200 - (g 1 t)))))) 3 f (max ((g 3 f) - (min n (min (g 1 f) (200 - (g 1 t))))) (-9999))) 3 t (min (((up2 (up2 (up2 g 1 f ((g 1 f) - (min n (min (g 1 f) (200 - (g 1 t)))))) 1 t (((up2 g 1 f ((g 1 f) - (min n (min (g 1 f) (200 - (g 1 t)))))) 1 t) + (min n (min (g 1 f) (200 - (g 1 t)))))) 3 f (max ((g 3 f) - (min n (min (g 1 f) (200 - (g 1 t))))) (-9999))) 3 t) + (min n (min (g 1 f) (200 - (g 1 t))))) 9999)) 3)))]) dX0_carry_88 rfl (by omega) (by decide) (by rw [aG_up (by omega)]; rfl) ?_
  refine z_iload (pc := 89) dX0_carry_89 0 rfl ?_
  exact z_iret (pc := 91) dX0_carry_91 (congrArg (fun z => some (Value.int (iI z))) (show (mayG g f t n) = min n (min (g 1 f) (200 - (g 1 t))) from by rfl)) rfl
set_option maxHeartbeats 8000000 in
set_option maxRecDepth 100000 in
theorem c_X0_payFor (l : Launch) (D : va_G) (cI cJ cB cS : ClassId) (xa : XA) (h hK hH hM hO : Nat) (g : Gd) (c o : Int) (ok : Ok g) (hc0 : 0 ≤ c) (hc1 : c < g 4 2) (ho : 0 ≤ o ∧ o < g 4 2) (hp : paysG g c ≤ g 2 c) : Ct l D cI cJ cB cS xa yX0_payFor cX0_payFor 4 none 1 21 [.ref h, .int (iI c), .int (iI o)] [(h, oG g hK hH hM hO), (hK, .inl (cI, 8, .inl (aG g 0))), (hH, .inl (cI, 8, .inl (aG g 1))), (hM, .inl (cI, 8, .inl (aG g 2))), (hO, .inl (cI, 8, .inl (aG g 3)))] none [(h, oG (payG g c o) hK hH hM hO), (hK, .inl (cI, 8, .inl (aG (payG g c o) 0))), (hH, .inl (cI, 8, .inl (aG (payG g c o) 1))), (hM, .inl (cI, 8, .inl (aG (payG g c o) 2))), (hO, .inl (cI, 8, .inl (aG (payG g c o) 3)))] := by
  have o0 := ok0 ok
  have o1 := ok1 ok
  have o2 := ok2 ok
  have rp := paysG_rng g c
  have rm := okM ok c
  have rk := okM (ok.upM c (v := g 2 c - paysG g c) (by omega)) o
  refine CtE.of (own := RX0) (lv := [(0, .ref h), (1, .int (iI c)), (2, .int (iI o))]) (by decide) rfl rfl (Nat.le_of_ble_eq_true rfl) ?_
  intro xp xe xs xm xb xt xc
  refine z_aload_n (pc := 0) dX0_payFor_0 0 rfl ?_
  refine z_iload_n (pc := 1) dX0_payFor_1 1 rfl ?_
  refine z_callV (pc := 2) (st := []) (st2 := [.int (iI (paysG g c))]) (ws2 := [(h, oG g hK hH hM hO), (hK, .inl (cI, 8, .inl (aG g 0))), (hH, .inl (cI, 8, .inl (aG g 1))), (hM, .inl (cI, 8, .inl (aG g 2))), (hO, .inl (cI, 8, .inl (aG g 3)))]) (q0 := 0) (c_X0_paysOf l D cI cJ cB cS xa h hK hH hM hO g c ok (by omega) (by omega)) mV_X0_paysOf kM_X0_96 dX0_payFor_2 rfl rfl [0, 1] rfl rfl rfl rfl rfl rfl rfl rfl ⟨Nat.le_of_ble_eq_true rfl, Nat.le_of_ble_eq_true rfl, Nat.le_of_ble_eq_true rfl⟩ ?_
  have f2_1 := paysG_rng g c
  refine z_istore_n (pc := 5) (lv2 := [(3, .int (iI (paysG g c))), (0, .ref h), (1, .int (iI c)), (2, .int (iI o))]) dX0_payFor_5 rfl (by decide) rfl ?_
  refine z_aload_n (pc := 6) dX0_payFor_6 1 rfl ?_
  refine z_get (pc := 7) (q0 := 0) (v := .ref hM) fL_X0_26 dX0_payFor_7 rfl rfl ?_
  refine z_iload_n (pc := 10) dX0_payFor_10 2 rfl ?_
  refine z_dup2 (pc := 11) dX0_payFor_11 rfl rfl ?_
  refine z_iald (pc := 12) (q0 := 3) (v := (iI (g 2 c))) dX0_payFor_12 rfl (by omega) (by decide) (aG_at (by omega)) ?_
  have b2 := okM ok c
  refine z_iload_n (pc := 13) dX0_payFor_13 0 rfl ?_
  refine z_isub (pc := 14) dX0_payFor_14 ?_
  refine z_iast (pc := 15) (q0 := 3) (ws2 := [(h, oG (up2 g 2 c ((g 2 c) - (paysG g c))) hK hH hM hO), (hK, .inl (cI, 8, .inl (aG (up2 g 2 c ((g 2 c) - (paysG g c))) 0))), (hH, .inl (cI, 8, .inl (aG (up2 g 2 c ((g 2 c) - (paysG g c))) 1))), (hM, .inl (cI, 8, .inl (aG (up2 g 2 c ((g 2 c) - (paysG g c))) 2))), (hO, .inl (cI, 8, .inl (aG (up2 g 2 c ((g 2 c) - (paysG g c))) 3)))]) dX0_payFor_15 rfl (by omega) (by decide) (by rw [aG_up (by omega)]; rfl) ?_
  refine z_aload_n (pc := 16) dX0_payFor_16 1 rfl ?_
  refine z_get (pc := 17) (q0 := 0) (v := .ref hM) fL_X0_26 dX0_payFor_17 rfl rfl ?_
  refine z_iload_n (pc := 20) dX0_payFor_20 3 rfl ?_
  refine z_aload_n (pc := 21) dX0_payFor_21 1 rfl ?_
  refine z_get (pc := 22) (q0 := 0) (v := .ref hM) fL_X0_26 dX0_payFor_22 rfl rfl ?_
  refine z_iload_n (pc := 25) dX0_payFor_25 3 rfl ?_
  refine z_iald (pc := 26) (q0 := 3) (v := (iI ((up2 g 2 c ((g 2 c) - (paysG g c))) 2 o))) dX0_payFor_26 rfl (by omega) (by decide) (aG_at (by omega)) ?_
  refine z_iload_n (pc := 27) dX0_payFor_27 0 rfl ?_
  refine z_iadd (pc := 28) dX0_payFor_28 ?_
  refine z_bipush (pc := 29) dX0_payFor_29 (by decide) ?_
  refine z_min (pc := 31) mmin_X0_41 dX0_payFor_31 (by omega) (by omega) ⟨Nat.le_of_ble_eq_true rfl, Nat.le_of_ble_eq_true rfl⟩ ?_
  refine z_iast (pc := 34) (q0 := 3) (ws2 := [(h, oG (up2 (up2 g 2 c ((g 2 c) - (paysG g c))) 2 o (min (((up2 g 2 c ((g 2 c) - (paysG g c))) 2 o) + (paysG g c)) 99)) hK hH hM hO), (hK, .inl (cI, 8, .inl (aG (up2 (up2 g 2 c ((g 2 c) - (paysG g c))) 2 o (min (((up2 g 2 c ((g 2 c) - (paysG g c))) 2 o) + (paysG g c)) 99)) 0))), (hH, .inl (cI, 8, .inl (aG (up2 (up2 g 2 c ((g 2 c) - (paysG g c))) 2 o (min (((up2 g 2 c ((g 2 c) - (paysG g c))) 2 o) + (paysG g c)) 99)) 1))), (hM, .inl (cI, 8, .inl (aG (up2 (up2 g 2 c ((g 2 c) - (paysG g c))) 2 o (min (((up2 g 2 c ((g 2 c) - (paysG g c))) 2 o) + (paysG g c)) 99)) 2))), (hO, .inl (cI, 8, .inl (aG (up2 (up2 g 2 c ((g 2 c) - (paysG g c))) 2 o (min (((up2 g 2 c ((g 2 c) - (paysG g c))) 2 o) + (paysG g c)) 99)) 3)))]) dX0_payFor_34 rfl (by omega) (by decide) (by rw [aG_up (by omega)]; rfl) ?_
  exact z_vret (pc := 35) dX0_payFor_35 rfl rfl
set_option maxHeartbeats 8000000 in
set_option maxRecDepth 100000 in
theorem c_X0_getMoreLevel (l : Launch) (D : va_G) (cI cJ cB cS : ClassId) (xa : XA) (h hK hH hM hO : Nat) (g : Gd) (ok : Ok g) : Ct l D cI cJ cB cS xa yX0_getMoreLevel cX0_getMoreLevel 3 none 2 45 [.ref h] [(h, oG g hK hH hM hO), (hK, .inl (cI, 8, .inl (aG g 0))), (hH, .inl (cI, 8, .inl (aG g 1))), (hM, .inl (cI, 8, .inl (aG g 2))), (hO, .inl (cI, 8, .inl (aG g 3)))] none [(h, oG (levG g) hK hH hM hO), (hK, .inl (cI, 8, .inl (aG (levG g) 0))), (hH, .inl (cI, 8, .inl (aG (levG g) 1))), (hM, .inl (cI, 8, .inl (aG (levG g) 2))), (hO, .inl (cI, 8, .inl (aG (levG g) 3)))] := by
  have o0 := ok0 ok
  have o1 := ok1 ok
  have o2 := ok2 ok
  refine CtE.of (own := RX0) (lv := [(0, .ref h)]) (by decide) rfl rfl (Nat.le_of_ble_eq_true rfl) ?_
  intro xp xe xs xm xb xt xc
  refine z_aload_n (pc := 0) dX0_getMoreLevel_0 0 rfl ?_
  refine z_callV (pc := 1) (st := []) (st2 := [.int (iI (highG g))]) (ws2 := [(h, oG g hK hH hM hO), (hK, .inl (cI, 8, .inl (aG g 0))), (hH, .inl (cI, 8, .inl (aG g 1))), (hM, .inl (cI, 8, .inl (aG g 2))), (hO, .inl (cI, 8, .inl (aG g 3)))]) (q0 := 0) (c_X0_highest l D cI cJ cB cS xa h hK hH hM hO g ok) mV_X0_highest kM_X0_59 dX0_getMoreLevel_1 rfl rfl [0, 2] rfl rfl rfl rfl rfl rfl rfl rfl ⟨Nat.le_of_ble_eq_true rfl, Nat.le_of_ble_eq_true rfl, Nat.le_of_ble_eq_true rfl⟩ ?_
  have f1_1 := highG_rng ok
  refine z_istore_n (pc := 4) (lv2 := [(1, .int (iI (highG g))), (0, .ref h)]) dX0_getMoreLevel_4 rfl (by decide) rfl ?_
  refine z_aload_n (pc := 5) dX0_getMoreLevel_5 1 rfl ?_
  refine z_callV (pc := 6) (st := []) (st2 := [.int (iI (lowG g))]) (ws2 := [(h, oG g hK hH hM hO), (hK, .inl (cI, 8, .inl (aG g 0))), (hH, .inl (cI, 8, .inl (aG g 1))), (hM, .inl (cI, 8, .inl (aG g 2))), (hO, .inl (cI, 8, .inl (aG g 3)))]) (q0 := 0) (c_X0_lowest l D cI cJ cB cS xa h hK hH hM hO g ok) mV_X0_lowest kM_X0_62 dX0_getMoreLevel_6 rfl rfl [0, 2] rfl rfl rfl rfl rfl rfl rfl rfl ⟨Nat.le_of_ble_eq_true rfl, Nat.le_of_ble_eq_true rfl, Nat.le_of_ble_eq_true rfl⟩ ?_
  have f6_2 := lowG_rng ok
  refine z_istore_n (pc := 9) (lv2 := [(2, .int (iI (lowG g))), (1, .int (iI (highG g))), (0, .ref h)]) dX0_getMoreLevel_9 rfl (by decide) rfl ?_
  refine z_iload_n (pc := 10) dX0_getMoreLevel_10 1 rfl ?_
  refine z_if_lt (pc := 11) (tgt := 43) dX0_getMoreLevel_11 (by decide) (by omega) (fun h11 => ?_) (fun h11 => ?_)
  · skip
    have e2 : levG g = g := by unfold levG; rw [if_neg]; unfold diffG; rw [if_pos (by omega)]; omega
    exact z_vret (pc := 43) dX0_getMoreLevel_43 rfl (by rw [e2])
  · skip
    refine z_iload_n (pc := 14) dX0_getMoreLevel_14 0 rfl ?_
    refine z_if_lt (pc := 15) (tgt := 43) dX0_getMoreLevel_15 (by decide) (by omega) (fun h15 => ?_) (fun h15 => ?_)
    · skip
      have e2 : levG g = g := by unfold levG; rw [if_neg]; unfold diffG; rw [if_pos (by omega)]; omega
      exact z_vret (pc := 43) dX0_getMoreLevel_43 rfl (by rw [e2])
    · skip
      refine z_aload_n (pc := 18) dX0_getMoreLevel_18 2 rfl ?_
      refine z_get (pc := 19) (q0 := 0) (v := .ref hH) fL_X0_23 dX0_getMoreLevel_19 rfl rfl ?_
      refine z_iload_n (pc := 22) dX0_getMoreLevel_22 1 rfl ?_
      refine z_iald (pc := 23) (q0 := 2) (v := (iI (g 1 (highG g)))) dX0_getMoreLevel_23 rfl (by omega) (by decide) (aG_at (by omega)) ?_
      have b3 := okH ok (highG g)
      refine z_aload_n (pc := 24) dX0_getMoreLevel_24 2 rfl ?_
      refine z_get (pc := 25) (q0 := 0) (v := .ref hH) fL_X0_23 dX0_getMoreLevel_25 rfl rfl ?_
      refine z_iload_n (pc := 28) dX0_getMoreLevel_28 0 rfl ?_
      refine z_iald (pc := 29) (q0 := 2) (v := (iI (g 1 (lowG g)))) dX0_getMoreLevel_29 rfl (by omega) (by decide) (aG_at (by omega)) ?_
      have b4 := okH ok (lowG g)
      refine z_isub (pc := 30) dX0_getMoreLevel_30 ?_
      refine z_iconst (pc := 31) dX0_getMoreLevel_31 ?_
      refine z_icmp_lt (pc := 32) (tgt := 43) dX0_getMoreLevel_32 (by decide) (by omega) (by omega) (fun h32 => ?_) (fun h32 => ?_)
      · skip
        have e2 : levG g = g := by unfold levG; rw [if_neg]; unfold diffG; rw [if_neg (by omega)]; omega
        exact z_vret (pc := 43) dX0_getMoreLevel_43 rfl (by rw [e2])
      · skip
        have bh := okH ok (highG g)
        have bl := okH ok (lowG g)
        have e1 : mayG g (highG g) (lowG g) 1 = 1 := by unfold mayG; omega
        have e2 : levG g = goesG g (highG g) (lowG g) (mayG g (highG g) (lowG g) 1) := by rw [e1]; unfold levG; rw [if_pos]; unfold diffG; rw [if_neg (by omega)]; omega
        refine z_aload_n (pc := 35) dX0_getMoreLevel_35 2 rfl ?_
        refine z_iload_n (pc := 36) dX0_getMoreLevel_36 1 rfl ?_
        refine z_iload_n (pc := 37) dX0_getMoreLevel_37 0 rfl ?_
        refine z_iconst (pc := 38) dX0_getMoreLevel_38 ?_
        refine z_callV (pc := 39) (st := []) (st2 := [.int (iI (mayG g (highG g) (lowG g) 1))]) (ws2 := [(h, oG (goesG g (highG g) (lowG g) (mayG g (highG g) (lowG g) 1)) hK hH hM hO), (hK, .inl (cI, 8, .inl (aG (goesG g (highG g) (lowG g) (mayG g (highG g) (lowG g) 1)) 0))), (hH, .inl (cI, 8, .inl (aG (goesG g (highG g) (lowG g) (mayG g (highG g) (lowG g) 1)) 1))), (hM, .inl (cI, 8, .inl (aG (goesG g (highG g) (lowG g) (mayG g (highG g) (lowG g) 1)) 2))), (hO, .inl (cI, 8, .inl (aG (goesG g (highG g) (lowG g) (mayG g (highG g) (lowG g) 1)) 3)))]) (q0 := 0) (c_X0_carry l D cI cJ cB cS xa h hK hH hM hO g (highG g) (lowG g) 1 ok (by omega) (by omega) (by omega)) mV_X0_carry kM_X0_89 dX0_getMoreLevel_39 rfl rfl [0, 1, 2, 3, 4] rfl rfl rfl rfl rfl rfl rfl rfl ⟨Nat.le_of_ble_eq_true rfl, Nat.le_of_ble_eq_true rfl, Nat.le_of_ble_eq_true rfl⟩ ?_
        have f39_5 := mayG_rng ok (highG g) (lowG g) (show (0 : Int) ≤ 1 by omega)
        have ok39_6 : Ok (goesG g (highG g) (lowG g) (mayG g (highG g) (lowG g) 1)) := goesG_ok ok (highG g) (lowG g) (by omega) (by omega) (by omega)
        refine z_pop (pc := 42) dX0_getMoreLevel_42 rfl ?_
        exact z_vret (pc := 43) dX0_getMoreLevel_43 rfl (by rw [e2])
set_option maxHeartbeats 8000000 in
set_option maxRecDepth 100000 in
theorem c_X0_deal (l : Launch) (D : va_G) (cI cJ cB cS : ClassId) (xa : XA) (h hK hH hM hO : Nat) (g : Gd) (c : Int) (ok : Ok g) (hc0 : 0 ≤ c) (hc1 : c < g 4 2) : Ct l D cI cJ cB cS xa yX0_deal cX0_deal 5 none 2 45 [.ref h, .int (iI c)] [(h, oG g hK hH hM hO), (hK, .inl (cI, 8, .inl (aG g 0))), (hH, .inl (cI, 8, .inl (aG g 1))), (hM, .inl (cI, 8, .inl (aG g 2))), (hO, .inl (cI, 8, .inl (aG g 3)))] none [(h, oG (dealG g c) hK hH hM hO), (hK, .inl (cI, 8, .inl (aG (dealG g c) 0))), (hH, .inl (cI, 8, .inl (aG (dealG g c) 1))), (hM, .inl (cI, 8, .inl (aG (dealG g c) 2))), (hO, .inl (cI, 8, .inl (aG (dealG g c) 3)))] := by
  have o0 := ok0 ok
  have o1 := ok1 ok
  have o2 := ok2 ok
  refine CtE.of (own := RX0) (lv := [(0, .ref h), (1, .int (iI c))]) (by decide) rfl rfl (Nat.le_of_ble_eq_true rfl) ?_
  intro xp xe xs xm xb xt xc
  refine z_aload_n (pc := 0) dX0_deal_0 0 rfl ?_
  refine z_iload_n (pc := 1) dX0_deal_1 1 rfl ?_
  refine z_callV (pc := 2) (st := []) (st2 := [.int (iI (wantsG g c))]) (ws2 := [(h, oG g hK hH hM hO), (hK, .inl (cI, 8, .inl (aG g 0))), (hH, .inl (cI, 8, .inl (aG g 1))), (hM, .inl (cI, 8, .inl (aG g 2))), (hO, .inl (cI, 8, .inl (aG g 3)))]) (q0 := 0) (c_X0_wantsOf l D cI cJ cB cS xa h hK hH hM hO g c ok (by omega) (by omega)) mV_X0_wantsOf kM_X0_93 dX0_deal_2 rfl rfl [0, 1, 2] rfl rfl rfl rfl rfl rfl rfl rfl ⟨Nat.le_of_ble_eq_true rfl, Nat.le_of_ble_eq_true rfl, Nat.le_of_ble_eq_true rfl⟩ ?_
  have f2_1 := wantsG_rng g c
  refine z_istore_n (pc := 5) (lv2 := [(2, .int (iI (wantsG g c))), (0, .ref h), (1, .int (iI c))]) dX0_deal_5 rfl (by decide) rfl ?_
  refine z_aload_n (pc := 6) dX0_deal_6 1 rfl ?_
  refine z_iload_n (pc := 7) dX0_deal_7 2 rfl ?_
  refine z_callV (pc := 8) (st := []) (st2 := [.int (iI (nextG g c))]) (ws2 := [(h, oG g hK hH hM hO), (hK, .inl (cI, 8, .inl (aG g 0))), (hH, .inl (cI, 8, .inl (aG g 1))), (hM, .inl (cI, 8, .inl (aG g 2))), (hO, .inl (cI, 8, .inl (aG g 3)))]) (q0 := 0) (c_X0_nextOf l D cI cJ cB cS xa h hK hH hM hO g c ok (by omega) (by omega)) mV_X0_nextOf kM_X0_68 dX0_deal_8 rfl rfl [0] rfl rfl rfl rfl rfl rfl rfl rfl ⟨Nat.le_of_ble_eq_true rfl, Nat.le_of_ble_eq_true rfl, Nat.le_of_ble_eq_true rfl⟩ ?_
  have f8_2 := nextG_rng ok (show (0 : Int) ≤ c by omega) (show c < g 4 2 by omega)
  refine z_istore_n (pc := 11) (lv2 := [(3, .int (iI (nextG g c))), (2, .int (iI (wantsG g c))), (0, .ref h), (1, .int (iI c))]) dX0_deal_11 rfl (by decide) rfl ?_
  refine z_iload_n (pc := 12) dX0_deal_12 1 rfl ?_
  refine z_if_le (pc := 13) (tgt := 61) dX0_deal_13 (by decide) (by omega) (fun h13 => ?_) (fun h13 => ?_)
  · skip
    refine z_iload_n (pc := 61) dX0_deal_61 1 rfl ?_
    refine z_if_ge (pc := 62) (tgt := 74) dX0_deal_62 (by decide) (by omega) (fun h62 => ?_) (fun h62 => ?_)
    · skip
      have e2 : dealG g c = g := by unfold dealG; rw [if_neg (by omega), if_neg (by omega)]
      exact z_vret (pc := 74) dX0_deal_74 rfl (by rw [e2])
    · skip
      have e2 : dealG g c = goesG g c (nextG g c) (mayG g c (nextG g c) (-(wantsG g c))) := by unfold dealG; rw [if_neg (by omega), if_pos (by omega)]
      refine z_aload_n (pc := 65) dX0_deal_65 2 rfl ?_
      refine z_iload_n (pc := 66) dX0_deal_66 3 rfl ?_
      refine z_iload_n (pc := 67) dX0_deal_67 0 rfl ?_
      refine z_iload_n (pc := 68) dX0_deal_68 1 rfl ?_
      refine z_ineg (pc := 69) dX0_deal_69 ?_
      refine z_callV (pc := 70) (st := []) (st2 := [.int (iI (mayG g c (nextG g c) (-(wantsG g c))))]) (ws2 := [(h, oG (goesG g c (nextG g c) (mayG g c (nextG g c) (-(wantsG g c)))) hK hH hM hO), (hK, .inl (cI, 8, .inl (aG (goesG g c (nextG g c) (mayG g c (nextG g c) (-(wantsG g c)))) 0))), (hH, .inl (cI, 8, .inl (aG (goesG g c (nextG g c) (mayG g c (nextG g c) (-(wantsG g c)))) 1))), (hM, .inl (cI, 8, .inl (aG (goesG g c (nextG g c) (mayG g c (nextG g c) (-(wantsG g c)))) 2))), (hO, .inl (cI, 8, .inl (aG (goesG g c (nextG g c) (mayG g c (nextG g c) (-(wantsG g c)))) 3)))]) (q0 := 0) (c_X0_carry l D cI cJ cB cS xa h hK hH hM hO g c (nextG g c) (-(wantsG g c)) ok (by omega) (by omega) (by omega)) mV_X0_carry kM_X0_89 dX0_deal_70 rfl rfl [0, 1, 2, 3, 4] rfl rfl rfl rfl rfl rfl rfl rfl ⟨Nat.le_of_ble_eq_true rfl, Nat.le_of_ble_eq_true rfl, Nat.le_of_ble_eq_true rfl⟩ ?_
      have f70_3 := mayG_rng ok c (nextG g c) (show (0 : Int) ≤ (-(wantsG g c)) by omega)
      have ok70_4 : Ok (goesG g c (nextG g c) (mayG g c (nextG g c) (-(wantsG g c)))) := goesG_ok ok c (nextG g c) (by omega) (by omega) (by omega)
      refine z_pop (pc := 73) dX0_deal_73 rfl ?_
      exact z_vret (pc := 74) dX0_deal_74 rfl (by rw [e2])
  · skip
    refine z_aload_n (pc := 16) dX0_deal_16 2 rfl ?_
    refine z_get (pc := 17) (q0 := 0) (v := .ref hM) fL_X0_26 dX0_deal_17 rfl rfl ?_
    refine z_iload_n (pc := 20) dX0_deal_20 3 rfl ?_
    refine z_iald (pc := 21) (q0 := 3) (v := (iI (g 2 c))) dX0_deal_21 rfl (by omega) (by decide) (aG_at (by omega)) ?_
    have b5 := okM ok c
    refine z_aload_n (pc := 22) dX0_deal_22 2 rfl ?_
    refine z_iload_n (pc := 23) dX0_deal_23 3 rfl ?_
    refine z_callV (pc := 24) (st := [.int (iI (g 2 c))]) (st2 := [.int (iI (paysG g c)), .int (iI (g 2 c))]) (ws2 := [(h, oG g hK hH hM hO), (hK, .inl (cI, 8, .inl (aG g 0))), (hH, .inl (cI, 8, .inl (aG g 1))), (hM, .inl (cI, 8, .inl (aG g 2))), (hO, .inl (cI, 8, .inl (aG g 3)))]) (q0 := 0) (c_X0_paysOf l D cI cJ cB cS xa h hK hH hM hO g c ok (by omega) (by omega)) mV_X0_paysOf kM_X0_96 dX0_deal_24 rfl rfl [0, 1] rfl rfl rfl rfl rfl rfl rfl rfl ⟨Nat.le_of_ble_eq_true rfl, Nat.le_of_ble_eq_true rfl, Nat.le_of_ble_eq_true rfl⟩ ?_
    have f24_6 := paysG_rng g c
    refine z_icmp_lt (pc := 27) (tgt := 61) dX0_deal_27 (by decide) (by omega) (by omega) (fun h27 => ?_) (fun h27 => ?_)
    · skip
      refine z_iload_n (pc := 61) dX0_deal_61 1 rfl ?_
      refine z_if_ge (pc := 62) (tgt := 74) dX0_deal_62 (by decide) (by omega) (fun h62 => ?_) (fun h62 => ?_)
      · skip
        have e2 : dealG g c = g := by unfold dealG; rw [if_neg (by omega), if_neg (by omega)]
        exact z_vret (pc := 74) dX0_deal_74 rfl (by rw [e2])
      · skip
        have e2 : dealG g c = goesG g c (nextG g c) (mayG g c (nextG g c) (-(wantsG g c))) := by unfold dealG; rw [if_neg (by omega), if_pos (by omega)]
        refine z_aload_n (pc := 65) dX0_deal_65 2 rfl ?_
        refine z_iload_n (pc := 66) dX0_deal_66 3 rfl ?_
        refine z_iload_n (pc := 67) dX0_deal_67 0 rfl ?_
        refine z_iload_n (pc := 68) dX0_deal_68 1 rfl ?_
        refine z_ineg (pc := 69) dX0_deal_69 ?_
        refine z_callV (pc := 70) (st := []) (st2 := [.int (iI (mayG g c (nextG g c) (-(wantsG g c))))]) (ws2 := [(h, oG (goesG g c (nextG g c) (mayG g c (nextG g c) (-(wantsG g c)))) hK hH hM hO), (hK, .inl (cI, 8, .inl (aG (goesG g c (nextG g c) (mayG g c (nextG g c) (-(wantsG g c)))) 0))), (hH, .inl (cI, 8, .inl (aG (goesG g c (nextG g c) (mayG g c (nextG g c) (-(wantsG g c)))) 1))), (hM, .inl (cI, 8, .inl (aG (goesG g c (nextG g c) (mayG g c (nextG g c) (-(wantsG g c)))) 2))), (hO, .inl (cI, 8, .inl (aG (goesG g c (nextG g c) (mayG g c (nextG g c) (-(wantsG g c)))) 3)))]) (q0 := 0) (c_X0_carry l D cI cJ cB cS xa h hK hH hM hO g c (nextG g c) (-(wantsG g c)) ok (by omega) (by omega) (by omega)) mV_X0_carry kM_X0_89 dX0_deal_70 rfl rfl [0, 1, 2, 3, 4] rfl rfl rfl rfl rfl rfl rfl rfl ⟨Nat.le_of_ble_eq_true rfl, Nat.le_of_ble_eq_true rfl, Nat.le_of_ble_eq_true rfl⟩ ?_
        have f70_7 := mayG_rng ok c (nextG g c) (show (0 : Int) ≤ (-(wantsG g c)) by omega)
        have ok70_8 : Ok (goesG g c (nextG g c) (mayG g c (nextG g c) (-(wantsG g c)))) := goesG_ok ok c (nextG g c) (by omega) (by omega) (by omega)
        refine z_pop (pc := 73) dX0_deal_73 rfl ?_
        exact z_vret (pc := 74) dX0_deal_74 rfl (by rw [e2])
    · skip
      refine z_aload_n (pc := 30) dX0_deal_30 2 rfl ?_
      refine z_iload_n (pc := 31) dX0_deal_31 0 rfl ?_
      refine z_iload_n (pc := 32) dX0_deal_32 3 rfl ?_
      refine z_iload_n (pc := 33) dX0_deal_33 1 rfl ?_
      refine z_aload_n (pc := 34) dX0_deal_34 2 rfl ?_
      refine z_iload_n (pc := 35) dX0_deal_35 0 rfl ?_
      refine z_callV (pc := 36) (st := [.int (iI (wantsG g c)), .int (iI c), .int (iI (nextG g c)), .ref h]) (st2 := [.int (iI (yieldsG g (nextG g c))), .int (iI (wantsG g c)), .int (iI c), .int (iI (nextG g c)), .ref h]) (ws2 := [(h, oG g hK hH hM hO), (hK, .inl (cI, 8, .inl (aG g 0))), (hH, .inl (cI, 8, .inl (aG g 1))), (hM, .inl (cI, 8, .inl (aG g 2))), (hO, .inl (cI, 8, .inl (aG g 3)))]) (q0 := 0) (c_X0_yieldsOf l D cI cJ cB cS xa h hK hH hM hO g (nextG g c) ok (by omega) (by omega)) mV_X0_yieldsOf kM_X0_99 dX0_deal_36 rfl rfl [0, 1, 2] rfl rfl rfl rfl rfl rfl rfl rfl ⟨Nat.le_of_ble_eq_true rfl, Nat.le_of_ble_eq_true rfl, Nat.le_of_ble_eq_true rfl⟩ ?_
      have f36_9 := yieldsG_rng ok (nextG g c)
      refine z_min (pc := 39) mmin_X0_41 dX0_deal_39 (by omega) (by omega) ⟨Nat.le_of_ble_eq_true rfl, Nat.le_of_ble_eq_true rfl⟩ ?_
      refine z_callV (pc := 42) (st := []) (st2 := [.int (iI (mayG g (nextG g c) c (min (wantsG g c) (yieldsG g (nextG g c)))))]) (ws2 := [(h, oG (goesG g (nextG g c) c (mayG g (nextG g c) c (min (wantsG g c) (yieldsG g (nextG g c))))) hK hH hM hO), (hK, .inl (cI, 8, .inl (aG (goesG g (nextG g c) c (mayG g (nextG g c) c (min (wantsG g c) (yieldsG g (nextG g c))))) 0))), (hH, .inl (cI, 8, .inl (aG (goesG g (nextG g c) c (mayG g (nextG g c) c (min (wantsG g c) (yieldsG g (nextG g c))))) 1))), (hM, .inl (cI, 8, .inl (aG (goesG g (nextG g c) c (mayG g (nextG g c) c (min (wantsG g c) (yieldsG g (nextG g c))))) 2))), (hO, .inl (cI, 8, .inl (aG (goesG g (nextG g c) c (mayG g (nextG g c) c (min (wantsG g c) (yieldsG g (nextG g c))))) 3)))]) (q0 := 0) (c_X0_carry l D cI cJ cB cS xa h hK hH hM hO g (nextG g c) c (min (wantsG g c) (yieldsG g (nextG g c))) ok (by omega) (by omega) (by omega)) mV_X0_carry kM_X0_89 dX0_deal_42 rfl rfl [0, 1, 2, 3, 4] rfl rfl rfl rfl rfl rfl rfl rfl ⟨Nat.le_of_ble_eq_true rfl, Nat.le_of_ble_eq_true rfl, Nat.le_of_ble_eq_true rfl⟩ ?_
      have f42_10 := mayG_rng ok (nextG g c) c (show (0 : Int) ≤ (min (wantsG g c) (yieldsG g (nextG g c))) by omega)
      have ok42_11 : Ok (goesG g (nextG g c) c (mayG g (nextG g c) c (min (wantsG g c) (yieldsG g (nextG g c))))) := goesG_ok ok (nextG g c) c (by omega) (by omega) (by omega)
      refine z_istore (pc := 45) (lv2 := [(4, .int (iI (mayG g (nextG g c) c (min (wantsG g c) (yieldsG g (nextG g c)))))), (3, .int (iI (nextG g c))), (2, .int (iI (wantsG g c))), (0, .ref h), (1, .int (iI c))]) dX0_deal_45 (by decide) rfl ?_
      refine z_iload (pc := 47) dX0_deal_47 0 rfl ?_
      refine z_if_le (pc := 49) (tgt := 58) dX0_deal_49 (by decide) (by omega) (fun h49 => ?_) (fun h49 => ?_)
      · skip
        have e2 : dealG g c = goesG g (nextG g c) c (mayG g (nextG g c) c (min (wantsG g c) (yieldsG g (nextG g c)))) := by unfold dealG; rw [if_pos ⟨by omega, by omega⟩]; unfold haveG; exact if_neg (by omega)
        refine z_goto (pc := 58) (tgt := 74) dX0_deal_58 (by decide) ?_
        exact z_vret (pc := 74) dX0_deal_74 rfl (by rw [e2])
      · skip
        have e2 : dealG g c = payG (goesG g (nextG g c) c (mayG g (nextG g c) c (min (wantsG g c) (yieldsG g (nextG g c))))) c (nextG g c) := by unfold dealG; rw [if_pos ⟨by omega, by omega⟩]; unfold haveG; exact if_pos (by omega)
        refine z_aload_n (pc := 52) dX0_deal_52 3 rfl ?_
        refine z_iload_n (pc := 53) dX0_deal_53 4 rfl ?_
        refine z_iload_n (pc := 54) dX0_deal_54 1 rfl ?_
        refine z_callV (pc := 55) (st := []) (st2 := []) (ws2 := [(h, oG (payG (goesG g (nextG g c) c (mayG g (nextG g c) c (min (wantsG g c) (yieldsG g (nextG g c))))) c (nextG g c)) hK hH hM hO), (hK, .inl (cI, 8, .inl (aG (payG (goesG g (nextG g c) c (mayG g (nextG g c) c (min (wantsG g c) (yieldsG g (nextG g c))))) c (nextG g c)) 0))), (hH, .inl (cI, 8, .inl (aG (payG (goesG g (nextG g c) c (mayG g (nextG g c) c (min (wantsG g c) (yieldsG g (nextG g c))))) c (nextG g c)) 1))), (hM, .inl (cI, 8, .inl (aG (payG (goesG g (nextG g c) c (mayG g (nextG g c) c (min (wantsG g c) (yieldsG g (nextG g c))))) c (nextG g c)) 2))), (hO, .inl (cI, 8, .inl (aG (payG (goesG g (nextG g c) c (mayG g (nextG g c) c (min (wantsG g c) (yieldsG g (nextG g c))))) c (nextG g c)) 3)))]) (q0 := 0) (c_X0_payFor l D cI cJ cB cS xa h hK hH hM hO (goesG g (nextG g c) c (mayG g (nextG g c) c (min (wantsG g c) (yieldsG g (nextG g c))))) c (nextG g c) ok42_11 (by omega) (show c < g 4 2 from by omega) (show 0 ≤ nextG g c ∧ nextG g c < g 4 2 from by omega) (show paysG g c ≤ g 2 c from by omega)) mV_X0_payFor kM_X0_102 dX0_deal_55 rfl rfl [0, 1, 2, 3, 4] rfl rfl rfl rfl rfl rfl rfl rfl ⟨Nat.le_of_ble_eq_true rfl, Nat.le_of_ble_eq_true rfl, Nat.le_of_ble_eq_true rfl⟩ ?_
        refine z_goto (pc := 58) (tgt := 74) dX0_deal_58 (by decide) ?_
        exact z_vret (pc := 74) dX0_deal_74 rfl (by rw [e2])
set_option maxHeartbeats 8000000 in
set_option maxRecDepth 100000 in
theorem c_X0_goMinute (l : Launch) (D : va_G) (cI cJ cB cS : ClassId) (xa : XA) (h hK hH hM hO : Nat) (g : Gd) (ok : Ok g) (hm : g 4 0 < 1000000) : Ct l D cI cJ cB cS xa yX0_goMinute cX0_goMinute 2 none 3 69 [.ref h] [(h, oG g hK hH hM hO), (hK, .inl (cI, 8, .inl (aG g 0))), (hH, .inl (cI, 8, .inl (aG g 1))), (hM, .inl (cI, 8, .inl (aG g 2))), (hO, .inl (cI, 8, .inl (aG g 3)))] none [(h, oG (minG g) hK hH hM hO), (hK, .inl (cI, 8, .inl (aG (minG g) 0))), (hH, .inl (cI, 8, .inl (aG (minG g) 1))), (hM, .inl (cI, 8, .inl (aG (minG g) 2))), (hO, .inl (cI, 8, .inl (aG (minG g) 3)))] := by
  have o0 := ok0 ok
  have o1 := ok1 ok
  have o2 := ok2 ok
  refine CtE.of (own := RX0) (lv := [(0, .ref h)]) (by decide) rfl rfl (Nat.le_of_ble_eq_true rfl) ?_
  intro xp xe xs xm xb xt xc
  refine z_aload_n (pc := 0) dX0_goMinute_0 0 rfl ?_
  refine z_callV (pc := 1) (st := []) (st2 := [.int (bI (dusk g))]) (ws2 := [(h, oG g hK hH hM hO), (hK, .inl (cI, 8, .inl (aG g 0))), (hH, .inl (cI, 8, .inl (aG g 1))), (hM, .inl (cI, 8, .inl (aG g 2))), (hO, .inl (cI, 8, .inl (aG g 3)))]) (q0 := 0) (c_X0_isDusk l D cI cJ cB cS xa h hK hH hM hO g ok) mV_X0_isDusk kM_X0_79 dX0_goMinute_1 rfl rfl [0] rfl rfl rfl rfl rfl rfl rfl rfl ⟨Nat.le_of_ble_eq_true rfl, Nat.le_of_ble_eq_true rfl, Nat.le_of_ble_eq_true rfl⟩ ?_
  refine z_ifb_eq (pc := 4) (tgt := 14) dX0_goMinute_4 (by decide) (fun h4 => ?_) (fun h4 => ?_)
  · skip
    refine z_iconst (pc := 14) dX0_goMinute_14 ?_
    refine z_istore_n (pc := 15) (lv2 := [(1, .int (iI 0)), (0, .ref h)]) dX0_goMinute_15 rfl (by decide) rfl ?_
    have LP16 : ∀ (nn_ : Nat) (i : Int) (gg : Gd), (0 ≤ i) → (i ≤ g 4 2) → (gg = dealsG g i.toNat) → (g 4 2 - i).toNat < nn_ → Z xp l xe { frames := 3, cells := 0, slots := 0, locals := 69 } xs xm ([.ref h] : List Value).toArray xb xt xc 0 0 (MQ xb (Cq (S := Unit) D [(h, oG g hK hH hM hO), (hK, .inl (cI, 8, .inl (aG g 0))), (hH, .inl (cI, 8, .inl (aG g 1))), (hM, .inl (cI, 8, .inl (aG g 2))), (hO, .inl (cI, 8, .inl (aG g 3)))] (fun _ => True) (fun _ => none) (fun _ => [(h, oG (minG g) hK hH hM hO), (hK, .inl (cI, 8, .inl (aG (minG g) 0))), (hH, .inl (cI, 8, .inl (aG (minG g) 1))), (hM, .inl (cI, 8, .inl (aG (minG g) 2))), (hO, .inl (cI, 8, .inl (aG (minG g) 3)))])) ([.ref h] : List Value).toArray xs 0 0 (va_A0 [(h, oG g hK hH hM hO), (hK, .inl (cI, 8, .inl (aG g 0))), (hH, .inl (cI, 8, .inl (aG g 1))), (hM, .inl (cI, 8, .inl (aG g 2))), (hO, .inl (cI, 8, .inl (aG g 3)))])) cX0_goMinute RX0 2 none D cI cJ cB cS xa (va_A0 [(h, oG g hK hH hM hO), (hK, .inl (cI, 8, .inl (aG g 0))), (hH, .inl (cI, 8, .inl (aG g 1))), (hM, .inl (cI, 8, .inl (aG g 2))), (hO, .inl (cI, 8, .inl (aG g 3)))]) [(h, oG gg hK hH hM hO), (hK, .inl (cI, 8, .inl (aG gg 0))), (hH, .inl (cI, 8, .inl (aG gg 1))), (hM, .inl (cI, 8, .inl (aG gg 2))), (hO, .inl (cI, 8, .inl (aG gg 3)))] [(0, .ref h), (1, .int (iI i))] 16 [] := by
      intro nn_
      induction nn_ with
      | zero => intro i gg hi0 hi1 hg hms; exact absurd hms (Nat.not_lt_zero _)
      | succ nn_ ih =>
        intro i gg hi0 hi1 hg hms
        have okg : Ok gg := by rw [hg]; exact dealsG_ok ok _
        have q4 : ∀ d, gg 4 d = g 4 d := fun d => by rw [hg]; exact dealsG_4 g d _
        have q2 := q4 2
        have q0 := q4 0
        have ih16 := ih
        clear ih
        refine z_iload_n (pc := 16) dX0_goMinute_16 1 rfl ?_
        refine z_aload_n (pc := 17) dX0_goMinute_17 0 rfl ?_
        refine z_get (pc := 18) (q0 := 0) (v := .int (iI (gg 4 2))) fL_X0_16 dX0_goMinute_18 rfl rfl ?_
        refine z_icmp_ge (pc := 21) (tgt := 35) dX0_goMinute_21 (by decide) (by omega) (by omega) (fun h21 => ?_) (fun h21 => ?_)
        · skip
          obtain rfl : i = g 4 2 := by omega
          have e2 : minG g = up2 gg 4 0 (gg 4 0 + 1) := by unfold minG; rw [if_neg h4, hg]
          refine z_aload_n (pc := 35) dX0_goMinute_35 0 rfl ?_
          refine z_dup (pc := 36) dX0_goMinute_36 rfl ?_
          refine z_get (pc := 37) (q0 := 0) (v := .int (iI (gg 4 0))) fL_X0_7 dX0_goMinute_37 rfl rfl ?_
          refine z_iconst (pc := 40) dX0_goMinute_40 ?_
          refine z_iadd (pc := 41) dX0_goMinute_41 ?_
          refine z_put (pc := 42) (q0 := 0) (ws2 := [(h, oG (up2 gg 4 0 ((gg 4 0) + 1)) hK hH hM hO), (hK, .inl (cI, 8, .inl (aG (up2 gg 4 0 ((gg 4 0) + 1)) 0))), (hH, .inl (cI, 8, .inl (aG (up2 gg 4 0 ((gg 4 0) + 1)) 1))), (hM, .inl (cI, 8, .inl (aG (up2 gg 4 0 ((gg 4 0) + 1)) 2))), (hO, .inl (cI, 8, .inl (aG (up2 gg 4 0 ((gg 4 0) + 1)) 3)))]) fP_X0_7 dX0_goMinute_42 rfl rfl rfl (Nat.le_of_ble_eq_true rfl) rfl ?_
          exact z_vret (pc := 45) dX0_goMinute_45 rfl (by rw [e2])
        · skip
          refine z_aload_n (pc := 24) dX0_goMinute_24 0 rfl ?_
          refine z_iload_n (pc := 25) dX0_goMinute_25 1 rfl ?_
          refine z_callV (pc := 26) (st := []) (st2 := []) (ws2 := [(h, oG (dealG gg i) hK hH hM hO), (hK, .inl (cI, 8, .inl (aG (dealG gg i) 0))), (hH, .inl (cI, 8, .inl (aG (dealG gg i) 1))), (hM, .inl (cI, 8, .inl (aG (dealG gg i) 2))), (hO, .inl (cI, 8, .inl (aG (dealG gg i) 3)))]) (q0 := 0) (c_X0_deal l D cI cJ cB cS xa h hK hH hM hO gg i okg (by omega) (by omega)) mV_X0_deal kM_X0_85 dX0_goMinute_26 rfl rfl [0, 1, 2, 3, 4] rfl rfl rfl rfl rfl rfl rfl rfl ⟨Nat.le_of_ble_eq_true rfl, Nat.le_of_ble_eq_true rfl, Nat.le_of_ble_eq_true rfl⟩ ?_
          have ok26_1 : Ok (dealG gg i) := dealG_ok okg i
          have f26_2 := dealG_4 gg i
          refine z_iinc (pc := 29) (lv2 := [(1, .int (iI (i + 1))), (0, .ref h)]) dX0_goMinute_29 1 rfl (by decide) rfl ?_
          refine z_goto (pc := 32) (tgt := 16) dX0_goMinute_32 (by decide) ?_
          refine z_lv (lv2 := [(0, .ref h), (1, .int (iI (i + 1)))]) [1, 0] rfl ?_
          exact ih16 (i + 1) (dealG gg i) (by omega) (by omega) (by rw [dealsG_s _ hi0, ← hg]) (by omega)
    refine z_lv (lv2 := [(0, .ref h), (1, .int (iI 0))]) [1, 0] rfl ?_
    exact LP16 _ 0 g (by omega) (by omega) (by rfl) (Nat.lt_succ_self _)
  · skip
    refine z_aload_n (pc := 7) dX0_goMinute_7 0 rfl ?_
    have e2 : minG g = up2 (levG g) 4 0 (levG g 4 0 + 1) := by unfold minG; rw [if_pos h4]
    refine z_callV (pc := 8) (st := []) (st2 := []) (ws2 := [(h, oG (levG g) hK hH hM hO), (hK, .inl (cI, 8, .inl (aG (levG g) 0))), (hH, .inl (cI, 8, .inl (aG (levG g) 1))), (hM, .inl (cI, 8, .inl (aG (levG g) 2))), (hO, .inl (cI, 8, .inl (aG (levG g) 3)))]) (q0 := 0) (c_X0_getMoreLevel l D cI cJ cB cS xa h hK hH hM hO g ok) mV_X0_getMoreLevel kM_X0_82 dX0_goMinute_8 rfl rfl [0, 1, 2, 3, 4] rfl rfl rfl rfl rfl rfl rfl rfl ⟨Nat.le_of_ble_eq_true rfl, Nat.le_of_ble_eq_true rfl, Nat.le_of_ble_eq_true rfl⟩ ?_
    have ok8_3 : Ok (levG g) := levG_ok ok
    refine z_goto (pc := 11) (tgt := 35) dX0_goMinute_11 (by decide) ?_
    refine z_aload_n (pc := 35) dX0_goMinute_35 0 rfl ?_
    refine z_dup (pc := 36) dX0_goMinute_36 rfl ?_
    refine z_get (pc := 37) (q0 := 0) (v := .int (iI ((levG g) 4 0))) fL_X0_7 dX0_goMinute_37 rfl rfl ?_
    refine z_iconst (pc := 40) dX0_goMinute_40 ?_
    refine z_iadd (pc := 41) dX0_goMinute_41 ?_
    refine z_put (pc := 42) (q0 := 0) (ws2 := [(h, oG (up2 (levG g) 4 0 (((levG g) 4 0) + 1)) hK hH hM hO), (hK, .inl (cI, 8, .inl (aG (up2 (levG g) 4 0 (((levG g) 4 0) + 1)) 0))), (hH, .inl (cI, 8, .inl (aG (up2 (levG g) 4 0 (((levG g) 4 0) + 1)) 1))), (hM, .inl (cI, 8, .inl (aG (up2 (levG g) 4 0 (((levG g) 4 0) + 1)) 2))), (hO, .inl (cI, 8, .inl (aG (up2 (levG g) 4 0 (((levG g) 4 0) + 1)) 3)))]) fP_X0_7 dX0_goMinute_42 rfl rfl rfl (Nat.le_of_ble_eq_true rfl) rfl ?_
    exact z_vret (pc := 45) dX0_goMinute_45 rfl (by rw [e2])
set_option maxHeartbeats 8000000 in
set_option maxRecDepth 100000 in
theorem c_X0_goOn (l : Launch) (D : va_G) (cI cJ cB cS : ClassId) (xa : XA) (h hK hH hM hO : Nat) (g : Gd) (k : Int) (ok : Ok g) (hk : 0 ≤ k ∧ k ≤ 400) (hm : g 4 0 + k ≤ 1000000) : Ct l D cI cJ cB cS xa yX0_goOn cX0_goOn 3 none 4 90 [.ref h, .int (iI k)] [(h, oG g hK hH hM hO), (hK, .inl (cI, 8, .inl (aG g 0))), (hH, .inl (cI, 8, .inl (aG g 1))), (hM, .inl (cI, 8, .inl (aG g 2))), (hO, .inl (cI, 8, .inl (aG g 3)))] none [(h, oG (minsG g (Int.toNat k)) hK hH hM hO), (hK, .inl (cI, 8, .inl (aG (minsG g (Int.toNat k)) 0))), (hH, .inl (cI, 8, .inl (aG (minsG g (Int.toNat k)) 1))), (hM, .inl (cI, 8, .inl (aG (minsG g (Int.toNat k)) 2))), (hO, .inl (cI, 8, .inl (aG (minsG g (Int.toNat k)) 3)))] := by
  have o0 := ok0 ok
  have o1 := ok1 ok
  have o2 := ok2 ok
  refine CtE.of (own := RX0) (lv := [(0, .ref h), (1, .int (iI k))]) (by decide) rfl rfl (Nat.le_of_ble_eq_true rfl) ?_
  intro xp xe xs xm xb xt xc
  refine z_iconst (pc := 0) dX0_goOn_0 ?_
  refine z_istore_n (pc := 1) (lv2 := [(2, .int (iI 0)), (0, .ref h), (1, .int (iI k))]) dX0_goOn_1 rfl (by decide) rfl ?_
  have LP2 : ∀ (nn_ : Nat) (i : Int) (gg : Gd), (0 ≤ i) → (i ≤ k) → (gg = minsG g i.toNat) → (k - i).toNat < nn_ → Z xp l xe { frames := 4, cells := 0, slots := 0, locals := 90 } xs xm ([.ref h, .int (iI k)] : List Value).toArray xb xt xc 0 0 (MQ xb (Cq (S := Unit) D [(h, oG g hK hH hM hO), (hK, .inl (cI, 8, .inl (aG g 0))), (hH, .inl (cI, 8, .inl (aG g 1))), (hM, .inl (cI, 8, .inl (aG g 2))), (hO, .inl (cI, 8, .inl (aG g 3)))] (fun _ => True) (fun _ => none) (fun _ => [(h, oG (minsG g (Int.toNat k)) hK hH hM hO), (hK, .inl (cI, 8, .inl (aG (minsG g (Int.toNat k)) 0))), (hH, .inl (cI, 8, .inl (aG (minsG g (Int.toNat k)) 1))), (hM, .inl (cI, 8, .inl (aG (minsG g (Int.toNat k)) 2))), (hO, .inl (cI, 8, .inl (aG (minsG g (Int.toNat k)) 3)))])) ([.ref h, .int (iI k)] : List Value).toArray xs 0 0 (va_A0 [(h, oG g hK hH hM hO), (hK, .inl (cI, 8, .inl (aG g 0))), (hH, .inl (cI, 8, .inl (aG g 1))), (hM, .inl (cI, 8, .inl (aG g 2))), (hO, .inl (cI, 8, .inl (aG g 3)))])) cX0_goOn RX0 3 none D cI cJ cB cS xa (va_A0 [(h, oG g hK hH hM hO), (hK, .inl (cI, 8, .inl (aG g 0))), (hH, .inl (cI, 8, .inl (aG g 1))), (hM, .inl (cI, 8, .inl (aG g 2))), (hO, .inl (cI, 8, .inl (aG g 3)))]) [(h, oG gg hK hH hM hO), (hK, .inl (cI, 8, .inl (aG gg 0))), (hH, .inl (cI, 8, .inl (aG gg 1))), (hM, .inl (cI, 8, .inl (aG gg 2))), (hO, .inl (cI, 8, .inl (aG gg 3)))] [(0, .ref h), (1, .int (iI k)), (2, .int (iI i))] 2 [] := by
    intro nn_
    induction nn_ with
    | zero => intro i gg hi0 hi1 hg hms; exact absurd hms (Nat.not_lt_zero _)
    | succ nn_ ih =>
      intro i gg hi0 hi1 hg hms
      have okg : Ok gg := by rw [hg]; exact minsG_ok ok _ (by omega)
      have q0 : gg 4 0 = g 4 0 + i.toNat := by rw [hg]; exact minsG_40 g _
      have ih2 := ih
      clear ih
      refine z_iload_n (pc := 2) dX0_goOn_2 2 rfl ?_
      refine z_iload_n (pc := 3) dX0_goOn_3 1 rfl ?_
      refine z_icmp_ge (pc := 4) (tgt := 17) dX0_goOn_4 (by decide) (by omega) (by omega) (fun h4 => ?_) (fun h4 => ?_)
      · skip
        obtain rfl : i = k := by omega
        exact z_vret (pc := 17) dX0_goOn_17 rfl (by rw [hg])
      · skip
        refine z_aload_n (pc := 7) dX0_goOn_7 0 rfl ?_
        refine z_callV (pc := 8) (st := []) (st2 := []) (ws2 := [(h, oG (minG gg) hK hH hM hO), (hK, .inl (cI, 8, .inl (aG (minG gg) 0))), (hH, .inl (cI, 8, .inl (aG (minG gg) 1))), (hM, .inl (cI, 8, .inl (aG (minG gg) 2))), (hO, .inl (cI, 8, .inl (aG (minG gg) 3)))]) (q0 := 0) (c_X0_goMinute l D cI cJ cB cS xa h hK hH hM hO gg okg (by omega)) mV_X0_goMinute kM_X0_76 dX0_goOn_8 rfl rfl [0, 1, 2, 3, 4] rfl rfl rfl rfl rfl rfl rfl rfl ⟨Nat.le_of_ble_eq_true rfl, Nat.le_of_ble_eq_true rfl, Nat.le_of_ble_eq_true rfl⟩ ?_
        have ok8_1 : Ok (minG gg) := minG_ok okg (by omega)
        have f8_2 := minG_40 gg
        have f8_3 := minG_41 gg
        have f8_4 := minG_42 gg
        refine z_iinc (pc := 11) (lv2 := [(2, .int (iI (i + 1))), (0, .ref h), (1, .int (iI k))]) dX0_goOn_11 2 rfl (by decide) rfl ?_
        refine z_goto (pc := 14) (tgt := 2) dX0_goOn_14 (by decide) ?_
        refine z_lv (lv2 := [(0, .ref h), (1, .int (iI k)), (2, .int (iI (i + 1)))]) [1, 2, 0] rfl ?_
        exact ih2 (i + 1) (minG gg) (by omega) (by omega) (by rw [minsG_s _ hi0, ← hg]) (by omega)
  refine z_lv (lv2 := [(0, .ref h), (1, .int (iI k)), (2, .int (iI 0))]) [1, 2, 0] rfl ?_
  exact LP2 _ 0 g (by omega) (by omega) (by rfl) (Nat.lt_succ_self _)
