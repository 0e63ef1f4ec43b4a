section WG
variable {p : Program} {l : Launch} {e : Env} {R : Room} {s : State} {m : MethodId} {args : Array Value} {below : List Frame} {meth : Method} {c : Code} {cells slots : Nat} {Q : State → Prop} {cc : ByteArray} {own : String} {nL : Nat} {rt : Option FieldType} {D : va_G}  {xa : XA} {A : Nat → Prop} {wr : va_W} {lv : List (Nat × Value)} {pc : Nat} {st : List Value}
set_option maxHeartbeats 4000000 in
set_option maxRecDepth 100000 in
theorem zx_ground {cI cJ cB cS : ClassId} {q : Nat → Nat} {fs : Nat → Option Nat} {g gv gk : Gd} {ik : Int} {tc : FF} {tn to ts te tu : Int} {bi si : FF} {sv : Int → LL} {fd : FF}  {index : Nat} (h_ok : Ok g) (h_okt : Ok gv) (h_hT : OkT tc tn) (hR : 12 ≤ R.frames ∧ 300 ≤ R.locals ∧ (st.map fun v => v.category).sum ≤ 8) (hlink : Cond.methodLink own index yX3_ground ∈ gt) (hdg : decode cc pc = .ok (.invokevirtual index, 3)) (k : ∀ (g2 : Gd) (gt2 : Gd) (to2 : Int) (ts2 : Int) (te2 : Int) (tu2 : Int), (Ok g2 ∧ Ok gt2 ∧ agr g2 (opGround tc tn g).2) → Z p l e R s m args below meth c cells slots Q cc own nL rt D cI cJ cB cS xa A (WX cI cJ cB cS q fs g2 gt2 gk ik tc 0 to2 ts2 te2 tu2 bi si sv fd ++ wr) lv (pc + 3) (.int ((opGround tc tn g).1) :: st)) : Z p l e R s m args below meth c cells slots Q cc own nL rt D cI cJ cB cS xa A (WX cI cJ cB cS q fs g gv gk ik tc tn to ts te tu bi si sv fd ++ wr) lv (pc) (.ref (q 0) :: st) := by
  exact z_callVE (pc := pc) (st := st) (q0 := 0) (c_X3_ground l D cI cJ cB cS xa (q 0) (q 1) (q 2) (q 3) (q 4) (q 5) (q 6) (q 7) (q 8) (q 9) (q 10) (q 11) (q 16) (q 18) (q 27) (iI ik) g gv (q 17) tn to ts te tu tc (h_ok) (h_okt) (h_hT)) mV_X3_ground hlink hdg rfl rfl [0, 1, 2, 3, 4, 5, 6, 7, 8, 9, 10, 16, 17] rfl rfl (fun _ => rfl) (fun _ => rfl) rfl rfl ⟨Nat.le_trans (Nat.le_of_ble_eq_true rfl) hR.1, Nat.le_trans (Nat.le_of_ble_eq_true rfl) hR.2.1, hR.2.2⟩ (fun u hu => by
    obtain ⟨g2, gt2, to2, ts2, te2, tu2⟩ := u
    exact z_ws (ws2 := WX cI cJ cB cS q fs g2 gt2 gk ik tc 0 to2 ts2 te2 tu2 bi si sv fd ++ wr) rfl (z_st (st2 := .int ((opGround tc tn g).1) :: st) rfl (k g2 gt2 to2 ts2 te2 tu2 hu)))
set_option maxHeartbeats 4000000 in
set_option maxRecDepth 100000 in
theorem zm_ground {cI cJ cB cS : ClassId} {q : Nat → Nat} {mg mi : Gd} {fd : FF} {ft fb ff : Nat → Int32} {fl : Nat → Int64} {tc : FF} {tn so be tE va : Int} {wd : Int64} {gd : Int32} {bi si : FF} {sv : Int → LL} {ik : Int}  {index : Nat} (h_ok : Ok mg) (h_hT : OkT tc tn) (hR : 12 ≤ R.frames ∧ 300 ≤ R.locals ∧ (st.map fun v => v.category).sum ≤ 8) (hlink : Cond.methodLink own index yX4_ground ∈ gt) (hdg : decode cc pc = .ok (.invokevirtual index, 3)) (k : ∀ (so2 : Int) (be2 : Int) (te2 : Int) (va2 : Int) (wd2 : Int64) (gd2 : Int) (fb2 : Nat → Int32), True → Z p l e R s m args below meth c cells slots Q cc own nL rt D cI cJ cB cS xa A (WM cI cJ q ((opGround tc tn mg).2) mi fd ft fb fb2 fl tc 0 so2 be2 te2 va2 wd2 (iI gd2) bi si sv ik ++ wr) lv (pc + 3) (.int ((opGround tc tn mg).1) :: st)) : Z p l e R s m args below meth c cells slots Q cc own nL rt D cI cJ cB cS xa A (WM cI cJ q mg mi fd ft fb ff fl tc tn so be tE va wd gd bi si sv ik ++ wr) lv (pc) (.ref (q 28) :: st) := by
  exact z_callVE (pc := pc) (st := st) (q0 := 0) (c_X4_ground l D cI cJ cB cS xa (q 28) (q 29) (q 30) (q 31) (q 32) (q 33) (q 34) (q 35) (q 36) (q 37) (q 38) (q 39) tn so be tE va wd gd (iI ik) mg tc ff (h_ok) (h_hT)) mV_X4_ground hlink hdg rfl rfl [0, 1, 5, 11] rfl rfl (fun _ => rfl) (fun _ => rfl) rfl rfl ⟨Nat.le_trans (Nat.le_of_ble_eq_true rfl) hR.1, Nat.le_trans (Nat.le_of_ble_eq_true rfl) hR.2.1, hR.2.2⟩ (fun u hu => by
    obtain ⟨so2, be2, te2, va2, wd2, gd2, fb2⟩ := u
    exact z_ws (ws2 := WM cI cJ q ((opGround tc tn mg).2) mi fd ft fb fb2 fl tc 0 so2 be2 te2 va2 wd2 (iI gd2) bi si sv ik ++ wr) rfl (z_st (st2 := .int ((opGround tc tn mg).1) :: st) rfl (k so2 be2 te2 va2 wd2 gd2 fb2 hu)))
end WG
section LG
variable {p : Program} {l : Launch} {e : Env} {R : Room} {s : State} {m : MethodId} {args : Array Value} {below : List Frame} {meth : Method} {c : Code} {cells slots : Nat} {Q : State → Prop} {rt : Option FieldType} {D : va_G} {cI cJ cB cS : ClassId} {xa : XA} {A : Nat → Prop} {b L : Nat} {xs : Nat → Int32} {fs : Nat → Option Nat} {q : Nat → Nat} {i : Int}
set_option maxHeartbeats 4000000 in
set_option maxRecDepth 100000 in
theorem lc_24 {g gv gk : Gd} {ik : Int} {tc : FF} {tn to ts te tu : Int} {bi si : FF} {sv : Int → LL} {fd : FF} {mg mi : Gd} {ft fb ff : Nat → Int32} {fl : Nat → Int64} {so be tE va : Int} {wd : Int64} {gd : Int32} (lf : LF R s A b L xs fs q) (hi : 0 ≤ i ∧ i + 6 ≤ (L : Int)) (iv : Inv g gv gk ik tc tn bi si mg mi) (K : ∀ (g gv gk : Gd) (ik : Int) (tc : FF) (tn to ts te tu : Int) (bi si : FF) (sv : Int → LL) (fd : FF) (mg mi : Gd) (ft fb ff : Nat → Int32) (fl : Nat → Int64) (so be tE va : Int) (wd : Int64) (gd : Int32), Inv g gv gk ik tc tn bi si mg mi → Z p l e R s m args below meth c cells slots Q cL_law RL 4 rt D cI cJ cB cS xa A (WX cI cJ cB cS q fs g gv gk ik tc tn to ts te tu bi si sv fd ++ WM cI cJ q mg mi fd ft fb ff fl tc tn so be tE va wd gd bi si sv ik) [(0, .ref b), (1, .ref (q 0)), (2, .ref (q 28)), (3, .int (iI i))] 1291 []) : Z p l e R s m args below meth c cells slots Q cL_law RL 4 rt D cI cJ cB cS xa A (WX cI cJ cB cS q fs g gv gk ik tc tn to ts te tu bi si sv fd ++ WM cI cJ q mg mi fd ft fb ff fl tc tn so be tE va wd gd bi si sv ik) [(0, .ref b), (1, .ref (q 0)), (2, .ref (q 28)), (3, .int (iI i))] 914 [] := by
  obtain ⟨hX, hbl, hbA, hL, hR0, f0, f1, f2, f3⟩ := lf
  obtain ⟨o1, o2, o3, o4, o5, ag, hm, hmk, hik, hak, hT, hB⟩ := id iv
  have hmm : mg 4 0 ≤ 99999 := by rw [← ag.1 0]; exact hm
  refine z_aload_n (pc := 914) dL_law_914 1 rfl ?_
  refine zx_ground (pc := 915) (st := []) o1 o2 hT ⟨hR0.1, hR0.2, Nat.le_of_ble_eq_true rfl⟩ kM_L_113 dL_law_915 (fun g2 gt2 to2 ts2 te2 tu2 hu => ?_)
  have e := s_ground hT ag o1 o4 hm
  rw [e.1]
  refine z_aload_n (pc := 918) dL_law_918 2 rfl ?_
  refine z_swap ?_
  refine zm_ground (pc := 919) (st := [.int ((opGround tc tn mg).1)]) o4 hT ⟨hR0.1, hR0.2, Nat.le_of_ble_eq_true rfl⟩ kM_L_116 dL_law_919 (fun so2m be2m te2m va2m wd2m gd2m fb2m hv => ?_)
  refine z_swap ?_
  refine z_same (pc := 922) (tgt := 1291) dL_law_922 (by decide) ?_
  exact K g2 gt2 gk ik tc 0 to2 ts2 te2 tu2 bi si sv fd ((opGround tc tn mg).2) mi ft fb fb2m fl so2m be2m te2m va2m wd2m (iI gd2m) ⟨hu.1, hu.2.1, o3, e.2.2.1, o5, hu.2.2.tr e.2.1, by rw [hu.2.2.1 0]; exact e.2.2.2, hmk, hik, hak, s_wipe hT, hB⟩
end LG
