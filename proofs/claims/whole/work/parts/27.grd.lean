set_option maxHeartbeats 8000000 in
set_option maxRecDepth 100000 in
theorem c_X3_ground (l : Launch) (D : va_G) (cI cJ cB cS : ClassId) (xa : XA) (x h hK hH hM hO t tK tH tM tO k0 tp sh fi : Nat) (ik : Int32) (g : Gd) (gt : Gd) (tb : Nat) (tn to ts te tu : Int) (tc : FF) (ok : Ok g) (okt : Ok gt) (hT : OkT tc tn) : CtE (S := (Gd × Gd × Int × Int × Int × Int)) l D cI cJ cB cS xa yX3_ground cX3_ground 2 (some .int) 9 198 [.ref x] [(x, .inr (3, [.ref h, .ref t, .ref k0, .int ik, .ref tp, .ref sh, .ref fi])), (h, oG g hK hH hM hO), (hK, .inl (cI, 8, .inl (aG g 0))), (hH, .inl (cI, 8, .inl (aG g 1))), (hM, .inl (cI, 8, .inl (aG g 2))), (hO, .inl (cI, 8, .inl (aG g 3))), (t, oG gt tK tH tM tO), (tK, .inl (cI, 8, .inl (aG gt 0))), (tH, .inl (cI, 8, .inl (aG gt 1))), (tM, .inl (cI, 8, .inl (aG gt 2))), (tO, .inl (cI, 8, .inl (aG gt 3))), (tp, .inr (2, [.ref tb, .int (iI tn), .int (iI to), .int (iI ts), .int (iI te), .int (iI tu)])), (tb, .inl (cB, 120, .inl (tbA tc)))] (fun u : (Gd × Gd × Int × Int × Int × Int) => match u with | (g2, gt2, to2, ts2, te2, tu2) => Ok g2 ∧ Ok gt2 ∧ agr g2 (opGround tc tn g).2) (fun u : (Gd × Gd × Int × Int × Int × Int) => match u with | (g2, gt2, to2, ts2, te2, tu2) => (some (.int ((opGround tc tn g).1)))) (fun u : (Gd × Gd × Int × Int × Int × Int) => match u with | (g2, gt2, to2, ts2, te2, tu2) => [(x, .inr (3, [.ref h, .ref t, .ref k0, .int ik, .ref tp, .ref sh, .ref fi])), (h, oG g2 hK hH hM hO), (hK, .inl (cI, 8, .inl (aG g2 0))), (hH, .inl (cI, 8, .inl (aG g2 1))), (hM, .inl (cI, 8, .inl (aG g2 2))), (hO, .inl (cI, 8, .inl (aG g2 3))), (t, oG gt2 tK tH tM tO), (tK, .inl (cI, 8, .inl (aG gt2 0))), (tH, .inl (cI, 8, .inl (aG gt2 1))), (tM, .inl (cI, 8, .inl (aG gt2 2))), (tO, .inl (cI, 8, .inl (aG gt2 3))), (tp, .inr (2, [.ref tb, .int (iI 0), .int (iI to2), .int (iI ts2), .int (iI te2), .int (iI tu2)])), (tb, .inl (cB, 120, .inl (tbA tc)))]) := by
  have o0 := ok0 ok
  have o1 := ok1 ok
  have o2 := ok2 ok
  have hTn := hT.2
  have psA := psT_agr hT 121 0 (likeG gt g) g 0 (by omega) hT.2.1 (agr_like gt g) (likeG_ok okt ok)
  have psR := psT_ok hT 121 0 (likeG gt g) 0 (by omega) hT.2.1 (likeG_ok okt ok) (by omega)
  refine CtE.of (own := RX3) (lv := [(0, .ref x)]) (by decide) rfl rfl (Nat.le_of_ble_eq_true rfl) ?_
  intro xp xe xs xm xb xt xc
  refine z_aload_n (pc := 0) dX3_ground_0 0 rfl ?_
  refine z_callV (pc := 1) (st := []) (st2 := []) (ws2 := [(x, .inr (3, [.ref h, .ref t, .ref k0, .int ik, .ref tp, .ref sh, .ref fi])), (h, oG g hK hH hM hO), (hK, .inl (cI, 8, .inl (aG g 0))), (hH, .inl (cI, 8, .inl (aG g 1))), (hM, .inl (cI, 8, .inl (aG g 2))), (hO, .inl (cI, 8, .inl (aG g 3))), (t, oG (likeG gt g) tK tH tM tO), (tK, .inl (cI, 8, .inl (aG (likeG gt g) 0))), (tH, .inl (cI, 8, .inl (aG (likeG gt g) 1))), (tM, .inl (cI, 8, .inl (aG (likeG gt g) 2))), (tO, .inl (cI, 8, .inl (aG (likeG gt g) 3))), (tp, .inr (2, [.ref tb, .int (iI tn), .int (iI to), .int (iI ts), .int (iI te), .int (iI tu)])), (tb, .inl (cB, 120, .inl (tbA tc)))]) (q0 := 0) (c_X3_tryAsItIs l D cI cJ cB cS xa x h hK hH hM hO t tK tH tM tO k0 tp sh fi ik g gt ok okt) mV_X3_tryAsItIs kM_X3_145 dX3_ground_1 rfl rfl [0, 1, 2, 3, 4, 5, 6, 7, 8, 9, 10] rfl rfl rfl rfl rfl rfl rfl rfl ⟨Nat.le_of_ble_eq_true rfl, Nat.le_of_ble_eq_true rfl, Nat.le_of_ble_eq_true rfl⟩ ?_
  have ok1_1 : Ok (likeG gt g) := likeG_ok okt ok
  have f1_2 := (show likeG gt g 4 0 = g 4 0 from rfl)
  have f1_3 := (show likeG gt g 4 1 = g 4 1 from rfl)
  have f1_4 := (show likeG gt g 4 2 = g 4 2 from rfl)
  refine z_aload_n (pc := 4) dX3_ground_4 0 rfl ?_
  refine z_get (pc := 5) (q0 := 0) (v := .ref tp) fL_X3_29 dX3_ground_5 rfl rfl ?_
  refine z_aload_n (pc := 8) dX3_ground_8 0 rfl ?_
  refine z_get (pc := 9) (q0 := 0) (v := .ref t) fL_X3_16 dX3_ground_9 rfl rfl ?_
  refine z_callVE (pc := 12) (st := []) (q0 := 11) (c_X2_tellTo l D cI cJ cB cS xa tp tb tn to ts te tu tc t tK tH tM tO (likeG gt g) (by assumption) ok1_1) mV_X2_tellTo kM_X3_178 dX3_ground_12 rfl rfl [11, 12, 6, 7, 8, 9, 10] rfl rfl (fun _ => rfl) (fun _ => rfl) rfl rfl ⟨Nat.le_of_ble_eq_true rfl, Nat.le_of_ble_eq_true rfl, Nat.le_of_ble_eq_true rfl⟩ (fun u12 hu12 => ?_)
  obtain ⟨to212, ts212, te212, tu212, g212⟩ := u12
  refine z_ws (ws2 := [(x, .inr (3, [.ref h, .ref t, .ref k0, .int ik, .ref tp, .ref sh, .ref fi])), (h, oG g hK hH hM hO), (hK, .inl (cI, 8, .inl (aG g 0))), (hH, .inl (cI, 8, .inl (aG g 1))), (hM, .inl (cI, 8, .inl (aG g 2))), (hO, .inl (cI, 8, .inl (aG g 3))), (t, oG g212 tK tH tM tO), (tK, .inl (cI, 8, .inl (aG g212 0))), (tH, .inl (cI, 8, .inl (aG g212 1))), (tM, .inl (cI, 8, .inl (aG g212 2))), (tO, .inl (cI, 8, .inl (aG g212 3))), (tp, .inr (2, [.ref tb, .int (iI tn), .int (iI to212), .int (iI ts212), .int (iI te212), .int (iI tu212)])), (tb, .inl (cB, 120, .inl (tbA tc)))]) rfl ?_
  refine z_st (st2 := [.int (iI ((psT tc tn 121 0 (likeG gt g) 0).1))]) rfl ?_
  have hv12 : Ok g212 ∧ (0 ≤ (psT tc tn 121 0 (likeG gt g) 0).1 → g212 = (psT tc tn 121 0 (likeG gt g) 0).2) := hu12
  refine z_istore_n (pc := 15) (lv2 := [(1, .int (iI ((psT tc tn 121 0 (likeG gt g) 0).1))), (0, .ref x)]) dX3_ground_15 rfl (by decide) rfl ?_
  refine z_aload_n (pc := 16) dX3_ground_16 1 rfl ?_
  refine z_get (pc := 17) (q0 := 0) (v := .ref tp) fL_X3_29 dX3_ground_17 rfl rfl ?_
  refine z_iconst (pc := 20) dX3_ground_20 ?_
  refine z_put (pc := 21) (q0 := 11) (ws2 := [(x, .inr (3, [.ref h, .ref t, .ref k0, .int ik, .ref tp, .ref sh, .ref fi])), (h, oG g hK hH hM hO), (hK, .inl (cI, 8, .inl (aG g 0))), (hH, .inl (cI, 8, .inl (aG g 1))), (hM, .inl (cI, 8, .inl (aG g 2))), (hO, .inl (cI, 8, .inl (aG g 3))), (t, oG g212 tK tH tM tO), (tK, .inl (cI, 8, .inl (aG g212 0))), (tH, .inl (cI, 8, .inl (aG g212 1))), (tM, .inl (cI, 8, .inl (aG g212 2))), (tO, .inl (cI, 8, .inl (aG g212 3))), (tp, .inr (2, [.ref tb, .int (iI 0), .int (iI to212), .int (iI ts212), .int (iI te212), .int (iI tu212)])), (tb, .inl (cB, 120, .inl (tbA tc)))]) fP_X3_175 dX3_ground_21 rfl rfl rfl (Nat.le_of_ble_eq_true rfl) rfl ?_
  refine z_iload_n (pc := 24) dX3_ground_24 0 rfl ?_
  refine z_if_lt (pc := 25) (tgt := 39) dX3_ground_25 (by decide) (by omega) (fun h25 => ?_) (fun h25 => ?_)
  · skip
    have eO : opGround tc tn g = (iI (psT tc tn 121 0 g 0).1, g) := by unfold opGround; rw [if_neg (by rw [← psA.1]; omega)]
    refine z_iload_n (pc := 39) dX3_ground_39 0 rfl ?_
    exact z_iretE (pc := 40) dX3_ground_40 (g, g212, to212, ts212, te212, tu212) (⟨ok, hv12.1, by rw [eO]; exact agr.rfl' g⟩) (congrArg (fun z => some (Value.int z)) (by rw [eO, psA.1])) rfl
  · skip
    have eO : opGround tc tn g = (iI (psT tc tn 121 0 g 0).1, (psT tc tn 121 0 g 0).2) := by unfold opGround; rw [if_pos (by rw [← psA.1]; omega)]
    refine z_aload_n (pc := 28) dX3_ground_28 1 rfl ?_
    refine z_get (pc := 29) (q0 := 0) (v := .ref h) fL_X3_10 dX3_ground_29 rfl rfl ?_
    refine z_aload_n (pc := 32) dX3_ground_32 1 rfl ?_
    refine z_get (pc := 33) (q0 := 0) (v := .ref t) fL_X3_16 dX3_ground_33 rfl rfl ?_
    refine z_callV (pc := 36) (st := []) (st2 := []) (ws2 := [(x, .inr (3, [.ref h, .ref t, .ref k0, .int ik, .ref tp, .ref sh, .ref fi])), (h, oG (likeG g g212) hK hH hM hO), (hK, .inl (cI, 8, .inl (aG (likeG g g212) 0))), (hH, .inl (cI, 8, .inl (aG (likeG g g212) 1))), (hM, .inl (cI, 8, .inl (aG (likeG g g212) 2))), (hO, .inl (cI, 8, .inl (aG (likeG g g212) 3))), (t, oG g212 tK tH tM tO), (tK, .inl (cI, 8, .inl (aG g212 0))), (tH, .inl (cI, 8, .inl (aG g212 1))), (tM, .inl (cI, 8, .inl (aG g212 2))), (tO, .inl (cI, 8, .inl (aG g212 3))), (tp, .inr (2, [.ref tb, .int (iI 0), .int (iI to212), .int (iI ts212), .int (iI te212), .int (iI tu212)])), (tb, .inl (cB, 120, .inl (tbA tc)))]) (q0 := 1) (c_X0_becomeLike l D cI cJ cB cS xa h hK hH hM hO g t tK tH tM tO g212 ok hu12.1) mV_X0_becomeLike kM_X3_182 dX3_ground_36 rfl rfl [1, 2, 3, 4, 5, 6, 7, 8, 9, 10] rfl rfl rfl rfl rfl rfl rfl rfl ⟨Nat.le_of_ble_eq_true rfl, Nat.le_of_ble_eq_true rfl, Nat.le_of_ble_eq_true rfl⟩ ?_
    have ok36_5 : Ok (likeG g g212) := likeG_ok ok hu12.1
    have f36_6 := (show likeG g g212 4 0 = g212 4 0 from rfl)
    have f36_7 := (show likeG g g212 4 1 = g212 4 1 from rfl)
    have f36_8 := (show likeG g g212 4 2 = g212 4 2 from rfl)
    refine z_iload_n (pc := 39) dX3_ground_39 0 rfl ?_
    exact z_iretE (pc := 40) dX3_ground_40 (likeG g g212, g212, to212, ts212, te212, tu212) (⟨likeG_ok ok hv12.1, hv12.1, by rw [eO]; exact (agr_like g g212).tr (by rw [hv12.2 (by omega)]; exact psA.2)⟩) (congrArg (fun z => some (Value.int z)) (by rw [eO, psA.1])) rfl
