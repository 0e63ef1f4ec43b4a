def LF (R : Room) (s : State) (A : Nat → Prop) (b L : Nat) (xs : Nat → Int32) (fs : Nat → Option Nat) (q : Nat → Nat) : Prop := va_X b L xs s s.heap ∧ b < s.heap.size ∧ ¬ A b ∧ L ≤ 3072 ∧ (12 ≤ R.frames ∧ 300 ≤ R.locals) ∧ fs 0 = some (q 19) ∧ fs 1 = some (q 21) ∧ fs 2 = some (q 23) ∧ fs 3 = some (q 25)
theorem fin_5 : fin 5 = iI (-1000000006) := congrArg iI (by decide)
theorem hB_sheet {bi si : FF} {sv : Int → LL} {fd : FF} {y b n : Int} (hB : ∀ s : Int, 0 ≤ s ∧ s ≤ 3 → (0 ≤ bi s ∧ bi s ≤ 64) ∧ 0 ≤ si s ∧ si s ≤ 40) (hy : 0 ≤ y ∧ y ≤ 3) : ∀ s : Int, 0 ≤ s ∧ s ≤ 3 → (0 ≤ up1 bi y (opSheet (bi y) (si y) (sv y) fd b n).2.1 s ∧ up1 bi y (opSheet (bi y) (si y) (sv y) fd b n).2.1 s ≤ 64) ∧ 0 ≤ up1 si y (opSheet (bi y) (si y) (sv y) fd b n).2.2.1 s ∧ up1 si y (opSheet (bi y) (si y) (sv y) fd b n).2.2.1 s ≤ 40 := fun s hs => by
  have h := s_sheet (F := sv y) (fd := fd) (b := b) (n := n) (hB y hy).1 (hB y hy).2
  by_cases z : s = y
  · subst z
    rw [up1_same, up1_same]
    exact h
  · rw [up1_ne _ _ z, up1_ne _ _ z]
    exact hB s hs
section LC
variable {p : Program} {l : Launch} {e : Env} {R : Room} {s : State} {m : MethodId} {args : Array Value} {below : List Frame} {meth : Method} {c : Code} {cells slots : Nat} {Q : State → Prop} {rt : Option FieldType} {D : va_G} {cI cJ cB cS : ClassId} {xa : XA} {A : Nat → Prop} {b L : Nat} {xs : Nat → Int32} {fs : Nat → Option Nat} {q : Nat → Nat} {i : Int}
set_option maxHeartbeats 4000000 in
set_option maxRecDepth 100000 in
theorem lc_0 {g gv gk : Gd} {ik : Int} {tc : FF} {tn to ts te tu : Int} {bi si : FF} {sv : Int → LL} {fd : FF} {mg mi : Gd} {ft fb ff : Nat → Int32} {fl : Nat → Int64} {so be tE va : Int} {wd : Int64} {gd : Int32} (lf : LF R s A b L xs fs q) (hi : 0 ≤ i ∧ i + 6 ≤ (L : Int)) (iv : Inv g gv gk ik tc tn bi si mg mi) (K : ∀ (g gv gk : Gd) (ik : Int) (tc : FF) (tn to ts te tu : Int) (bi si : FF) (sv : Int → LL) (fd : FF) (mg mi : Gd) (ft fb ff : Nat → Int32) (fl : Nat → Int64) (so be tE va : Int) (wd : Int64) (gd : Int32), Inv g gv gk ik tc tn bi si mg mi → Z p l e R s m args below meth c cells slots Q cL_law RL 4 rt D cI cJ cB cS xa A (WX cI cJ cB cS q fs g gv gk ik tc tn to ts te tu bi si sv fd ++ WM cI cJ q mg mi fd ft fb ff fl tc tn so be tE va wd gd bi si sv ik) [(0, .ref b), (1, .ref (q 0)), (2, .ref (q 28)), (3, .int (iI i))] 1291 []) : Z p l e R s m args below meth c cells slots Q cL_law RL 4 rt D cI cJ cB cS xa A (WX cI cJ cB cS q fs g gv gk ik tc tn to ts te tu bi si sv fd ++ WM cI cJ q mg mi fd ft fb ff fl tc tn so be tE va wd gd bi si sv ik) [(0, .ref b), (1, .ref (q 0)), (2, .ref (q 28)), (3, .int (iI i))] 192 [] := by
  obtain ⟨hX, hbl, hbA, hL, hR0, f0, f1, f2, f3⟩ := lf
  obtain ⟨o1, o2, o3, o4, o5, ag, hm, hmk, hik, hak, hT, hB⟩ := id iv
  have hmm : mg 4 0 ≤ 99999 := by rw [← ag.1 0]; exact hm
  refine z_aload_n (pc := 192) dL_law_192 1 rfl ?_
  refine z_aload_n (pc := 193) dL_law_193 0 rfl ?_
  refine z_iload_n (pc := 194) dL_law_194 3 rfl ?_
  refine z_iconst (pc := 195) dL_law_195 ?_
  refine z_iadd (pc := 196) dL_law_196 ?_
  refine z_sld (pc := 197) hX hbl hbA dL_law_197 (by omega) hL ?_
  refine zx_dark (pc := 198) (st := []) o1 (sI_r _ _) ⟨hR0.1, hR0.2, Nat.le_of_ble_eq_true rfl⟩ kM_L_13 dL_law_198 ?_
  have e := s_dark ag o1 o4 hm fd (sI xs (i + 1))
  rw [e.1, e.2.2.1]
  refine z_aload_n (pc := 201) dL_law_201 2 rfl ?_
  refine z_aload_n (pc := 202) dL_law_202 0 rfl ?_
  refine z_iload_n (pc := 203) dL_law_203 3 rfl ?_
  refine z_iconst (pc := 204) dL_law_204 ?_
  refine z_iadd (pc := 205) dL_law_205 ?_
  refine z_sld (pc := 206) hX hbl hbA dL_law_206 (by omega) hL ?_
  refine z_swap ?_
  refine zm_dark (pc := 207) (st := [.int ((opDark mg fd (sI xs (i + 1))).1)]) o4 (sI_r _ _) ⟨hR0.1, hR0.2, Nat.le_of_ble_eq_true rfl⟩ kM_L_17 dL_law_207 ?_
  refine z_swap ?_
  refine z_same (pc := 210) (tgt := 1291) dL_law_210 (by decide) ?_
  exact K ((opDark g fd (sI xs (i + 1))).2.1) gv gk ik tc tn to ts te tu bi si sv ((opDark mg fd (sI xs (i + 1))).2.2) ((opDark mg fd (sI xs (i + 1))).2.1) mi ft fb ff fl so be tE va wd gd ⟨e.2.2.2.1, o2, o3, e.2.2.2.2.1, o5, e.2.1, e.2.2.2.2.2, hmk, hik, hak, hT, hB⟩
set_option maxHeartbeats 4000000 in
set_option maxRecDepth 100000 in
theorem lc_1 {g gv gk : Gd} {ik : Int} {tc : FF} {tn to ts te tu : Int} {bi si : FF} {sv : Int → LL} {fd : FF} {mg mi : Gd} {ft fb ff : Nat → Int32} {fl : Nat → Int64} {so be tE va : Int} {wd : Int64} {gd : Int32} (lf : LF R s A b L xs fs q) (hi : 0 ≤ i ∧ i + 6 ≤ (L : Int)) (iv : Inv g gv gk ik tc tn bi si mg mi) (K : ∀ (g gv gk : Gd) (ik : Int) (tc : FF) (tn to ts te tu : Int) (bi si : FF) (sv : Int → LL) (fd : FF) (mg mi : Gd) (ft fb ff : Nat → Int32) (fl : Nat → Int64) (so be tE va : Int) (wd : Int64) (gd : Int32), Inv g gv gk ik tc tn bi si mg mi → Z p l e R s m args below meth c cells slots Q cL_law RL 4 rt D cI cJ cB cS xa A (WX cI cJ cB cS q fs g gv gk ik tc tn to ts te tu bi si sv fd ++ WM cI cJ q mg mi fd ft fb ff fl tc tn so be tE va wd gd bi si sv ik) [(0, .ref b), (1, .ref (q 0)), (2, .ref (q 28)), (3, .int (iI i))] 1291 []) : Z p l e R s m args below meth c cells slots Q cL_law RL 4 rt D cI cJ cB cS xa A (WX cI cJ cB cS q fs g gv gk ik tc tn to ts te tu bi si sv fd ++ WM cI cJ q mg mi fd ft fb ff fl tc tn so be tE va wd gd bi si sv ik) [(0, .ref b), (1, .ref (q 0)), (2, .ref (q 28)), (3, .int (iI i))] 215 [] := by
  obtain ⟨hX, hbl, hbA, hL, hR0, f0, f1, f2, f3⟩ := lf
  obtain ⟨o1, o2, o3, o4, o5, ag, hm, hmk, hik, hak, hT, hB⟩ := id iv
  have hmm : mg 4 0 ≤ 99999 := by rw [← ag.1 0]; exact hm
  refine z_aload_n (pc := 215) dL_law_215 1 rfl ?_
  refine z_aload_n (pc := 216) dL_law_216 0 rfl ?_
  refine z_iload_n (pc := 217) dL_law_217 3 rfl ?_
  refine z_iconst (pc := 218) dL_law_218 ?_
  refine z_iadd (pc := 219) dL_law_219 ?_
  refine z_sld (pc := 220) hX hbl hbA dL_law_220 (by omega) hL ?_
  refine zx_now (pc := 221) (st := []) o1 (sI_r _ _) ⟨hR0.1, hR0.2, Nat.le_of_ble_eq_true rfl⟩ kM_L_18 dL_law_221 ?_
  have e := q_now ag o1 fd (sI xs (i + 1))
  rw [e]
  refine z_aload_n (pc := 224) dL_law_224 2 rfl ?_
  refine z_aload_n (pc := 225) dL_law_225 0 rfl ?_
  refine z_iload_n (pc := 226) dL_law_226 3 rfl ?_
  refine z_iconst (pc := 227) dL_law_227 ?_
  refine z_iadd (pc := 228) dL_law_228 ?_
  refine z_sld (pc := 229) hX hbl hbA dL_law_229 (by omega) hL ?_
  refine z_swap ?_
  refine zm_now (pc := 230) (st := [.int ((opNow mg fd (sI xs (i + 1))).1)]) o4 (sI_r _ _) ⟨hR0.1, hR0.2, Nat.le_of_ble_eq_true rfl⟩ kM_L_21 dL_law_230 ?_
  refine z_swap ?_
  refine z_same (pc := 233) (tgt := 1291) dL_law_233 (by decide) ?_
  exact K g gv gk ik tc tn to ts te tu bi si sv ((opNow mg fd (sI xs (i + 1))).2) mg mi ft fb ff fl so be tE va wd gd iv
set_option maxHeartbeats 4000000 in
set_option maxRecDepth 100000 in
theorem lc_2 {g gv gk : Gd} {ik : Int} {tc : FF} {tn to ts te tu : Int} {bi si : FF} {sv : Int → LL} {fd : FF} {mg mi : Gd} {ft fb ff : Nat → Int32} {fl : Nat → Int64} {so be tE va : Int} {wd : Int64} {gd : Int32} (lf : LF R s A b L xs fs q) (hi : 0 ≤ i ∧ i + 6 ≤ (L : Int)) (iv : Inv g gv gk ik tc tn bi si mg mi) (K : ∀ (g gv gk : Gd) (ik : Int) (tc : FF) (tn to ts te tu : Int) (bi si : FF) (sv : Int → LL) (fd : FF) (mg mi : Gd) (ft fb ff : Nat → Int32) (fl : Nat → Int64) (so be tE va : Int) (wd : Int64) (gd : Int32), Inv g gv gk ik tc tn bi si mg mi → Z p l e R s m args below meth c cells slots Q cL_law RL 4 rt D cI cJ cB cS xa A (WX cI cJ cB cS q fs g gv gk ik tc tn to ts te tu bi si sv fd ++ WM cI cJ q mg mi fd ft fb ff fl tc tn so be tE va wd gd bi si sv ik) [(0, .ref b), (1, .ref (q 0)), (2, .ref (q 28)), (3, .int (iI i))] 1291 []) : Z p l e R s m args below meth c cells slots Q cL_law RL 4 rt D cI cJ cB cS xa A (WX cI cJ cB cS q fs g gv gk ik tc tn to ts te tu bi si sv fd ++ WM cI cJ q mg mi fd ft fb ff fl tc tn so be tE va wd gd bi si sv ik) [(0, .ref b), (1, .ref (q 0)), (2, .ref (q 28)), (3, .int (iI i))] 238 [] := by
  obtain ⟨hX, hbl, hbA, hL, hR0, f0, f1, f2, f3⟩ := lf
  obtain ⟨o1, o2, o3, o4, o5, ag, hm, hmk, hik, hak, hT, hB⟩ := id iv
  have hmm : mg 4 0 ≤ 99999 := by rw [← ag.1 0]; exact hm
  refine z_aload_n (pc := 238) dL_law_238 1 rfl ?_
  refine z_aload_n (pc := 239) dL_law_239 0 rfl ?_
  refine z_iload_n (pc := 240) dL_law_240 3 rfl ?_
  refine z_iconst (pc := 241) dL_law_241 ?_
  refine z_iadd (pc := 242) dL_law_242 ?_
  refine z_sld (pc := 243) hX hbl hbA dL_law_243 (by omega) hL ?_
  refine zx_child (pc := 244) (st := []) o1 (sI_r _ _) ⟨hR0.1, hR0.2, Nat.le_of_ble_eq_true rfl⟩ kM_L_22 dL_law_244 ?_
  have e := s_child ag o1 o4 hm fd (sI xs (i + 1))
  rw [e.1, e.2.2.1]
  refine z_aload_n (pc := 247) dL_law_247 2 rfl ?_
  refine z_aload_n (pc := 248) dL_law_248 0 rfl ?_
  refine z_iload_n (pc := 249) dL_law_249 3 rfl ?_
  refine z_iconst (pc := 250) dL_law_250 ?_
  refine z_iadd (pc := 251) dL_law_251 ?_
  refine z_sld (pc := 252) hX hbl hbA dL_law_252 (by omega) hL ?_
  refine z_swap ?_
  refine zm_child (pc := 253) (st := [.int ((opChild mg fd (sI xs (i + 1))).1)]) o4 (sI_r _ _) ⟨hR0.1, hR0.2, Nat.le_of_ble_eq_true rfl⟩ kM_L_25 dL_law_253 ?_
  refine z_swap ?_
  refine z_same (pc := 256) (tgt := 1291) dL_law_256 (by decide) ?_
  exact K ((opChild g fd (sI xs (i + 1))).2.1) gv gk ik tc tn to ts te tu bi si sv ((opChild mg fd (sI xs (i + 1))).2.2) ((opChild mg fd (sI xs (i + 1))).2.1) mi ft fb ff fl so be tE va wd gd ⟨e.2.2.2.1, o2, o3, e.2.2.2.2.1, o5, e.2.1, e.2.2.2.2.2, hmk, hik, hak, hT, hB⟩
set_option maxHeartbeats 4000000 in
set_option maxRecDepth 100000 in
theorem lc_3 {g gv gk : Gd} {ik : Int} {tc : FF} {tn to ts te tu : Int} {bi si : FF} {sv : Int → LL} {fd : FF} {mg mi : Gd} {ft fb ff : Nat → Int32} {fl : Nat → Int64} {so be tE va : Int} {wd : Int64} {gd : Int32} (lf : LF R s A b L xs fs q) (hi : 0 ≤ i ∧ i + 6 ≤ (L : Int)) (iv : Inv g gv gk ik tc tn bi si mg mi) (K : ∀ (g gv gk : Gd) (ik : Int) (tc : FF) (tn to ts te tu : Int) (bi si : FF) (sv : Int → LL) (fd : FF) (mg mi : Gd) (ft fb ff : Nat → Int32) (fl : Nat → Int64) (so be tE va : Int) (wd : Int64) (gd : Int32), Inv g gv gk ik tc tn bi si mg mi → Z p l e R s m args below meth c cells slots Q cL_law RL 4 rt D cI cJ cB cS xa A (WX cI cJ cB cS q fs g gv gk ik tc tn to ts te tu bi si sv fd ++ WM cI cJ q mg mi fd ft fb ff fl tc tn so be tE va wd gd bi si sv ik) [(0, .ref b), (1, .ref (q 0)), (2, .ref (q 28)), (3, .int (iI i))] 1291 []) : Z p l e R s m args below meth c cells slots Q cL_law RL 4 rt D cI cJ cB cS xa A (WX cI cJ cB cS q fs g gv gk ik tc tn to ts te tu bi si sv fd ++ WM cI cJ q mg mi fd ft fb ff fl tc tn so be tE va wd gd bi si sv ik) [(0, .ref b), (1, .ref (q 0)), (2, .ref (q 28)), (3, .int (iI i))] 261 [] := by
  obtain ⟨hX, hbl, hbA, hL, hR0, f0, f1, f2, f3⟩ := lf
  obtain ⟨o1, o2, o3, o4, o5, ag, hm, hmk, hik, hak, hT, hB⟩ := id iv
  have hmm : mg 4 0 ≤ 99999 := by rw [← ag.1 0]; exact hm
  refine z_aload_n (pc := 261) dL_law_261 1 rfl ?_
  refine z_aload_n (pc := 262) dL_law_262 0 rfl ?_
  refine z_iload_n (pc := 263) dL_law_263 3 rfl ?_
  refine z_iconst (pc := 264) dL_law_264 ?_
  refine z_iadd (pc := 265) dL_law_265 ?_
  refine z_sld (pc := 266) hX hbl hbA dL_law_266 (by omega) hL ?_
  refine z_aload_n (pc := 267) dL_law_267 0 rfl ?_
  refine z_iload_n (pc := 268) dL_law_268 3 rfl ?_
  refine z_iconst (pc := 269) dL_law_269 ?_
  refine z_iadd (pc := 270) dL_law_270 ?_
  refine z_sld (pc := 271) hX hbl hbA dL_law_271 (by omega) hL ?_
  refine zx_of (pc := 272) (st := []) o1 (sI_r _ _) (sI_r _ _) ⟨hR0.1, hR0.2, Nat.le_of_ble_eq_true rfl⟩ kM_L_26 dL_law_272 ?_
  have e := q_of ag o1 fd (sI xs (i + 1)) (sI xs (i + 2))
  rw [e]
  refine z_aload_n (pc := 275) dL_law_275 2 rfl ?_
  refine z_aload_n (pc := 276) dL_law_276 0 rfl ?_
  refine z_iload_n (pc := 277) dL_law_277 3 rfl ?_
  refine z_iconst (pc := 278) dL_law_278 ?_
  refine z_iadd (pc := 279) dL_law_279 ?_
  refine z_sld (pc := 280) hX hbl hbA dL_law_280 (by omega) hL ?_
  refine z_aload_n (pc := 281) dL_law_281 0 rfl ?_
  refine z_iload_n (pc := 282) dL_law_282 3 rfl ?_
  refine z_iconst (pc := 283) dL_law_283 ?_
  refine z_iadd (pc := 284) dL_law_284 ?_
  refine z_sld (pc := 285) hX hbl hbA dL_law_285 (by omega) hL ?_
  refine z_swap ?_
  refine zm_of (pc := 286) (st := [.int ((opOf mg fd (sI xs (i + 1)) (sI xs (i + 2))).1)]) o4 (sI_r _ _) (sI_r _ _) ⟨hR0.1, hR0.2, Nat.le_of_ble_eq_true rfl⟩ kM_L_30 dL_law_286 ?_
  refine z_swap ?_
  refine z_same (pc := 289) (tgt := 1291) dL_law_289 (by decide) ?_
  exact K g gv gk ik tc tn to ts te tu bi si sv ((opOf mg fd (sI xs (i + 1)) (sI xs (i + 2))).2) mg mi ft fb ff fl so be tE va wd gd iv
set_option maxHeartbeats 4000000 in
set_option maxRecDepth 100000 in
theorem lc_4 {g gv gk : Gd} {ik : Int} {tc : FF} {tn to ts te tu : Int} {bi si : FF} {sv : Int → LL} {fd : FF} {mg mi : Gd} {ft fb ff : Nat → Int32} {fl : Nat → Int64} {so be tE va : Int} {wd : Int64} {gd : Int32} (lf : LF R s A b L xs fs q) (hi : 0 ≤ i ∧ i + 6 ≤ (L : Int)) (iv : Inv g gv gk ik tc tn bi si mg mi) (K : ∀ (g gv gk : Gd) (ik : Int) (tc : FF) (tn to ts te tu : Int) (bi si : FF) (sv : Int → LL) (fd : FF) (mg mi : Gd) (ft fb ff : Nat → Int32) (fl : Nat → Int64) (so be tE va : Int) (wd : Int64) (gd : Int32), Inv g gv gk ik tc tn bi si mg mi → Z p l e R s m args below meth c cells slots Q cL_law RL 4 rt D cI cJ cB cS xa A (WX cI cJ cB cS q fs g gv gk ik tc tn to ts te tu bi si sv fd ++ WM cI cJ q mg mi fd ft fb ff fl tc tn so be tE va wd gd bi si sv ik) [(0, .ref b), (1, .ref (q 0)), (2, .ref (q 28)), (3, .int (iI i))] 1291 []) : Z p l e R s m args below meth c cells slots Q cL_law RL 4 rt D cI cJ cB cS xa A (WX cI cJ cB cS q fs g gv gk ik tc tn to ts te tu bi si sv fd ++ WM cI cJ q mg mi fd ft fb ff fl tc tn so be tE va wd gd bi si sv ik) [(0, .ref b), (1, .ref (q 0)), (2, .ref (q 28)), (3, .int (iI i))] 294 [] := by
  obtain ⟨hX, hbl, hbA, hL, hR0, f0, f1, f2, f3⟩ := lf
  obtain ⟨o1, o2, o3, o4, o5, ag, hm, hmk, hik, hak, hT, hB⟩ := id iv
  have hmm : mg 4 0 ≤ 99999 := by rw [← ag.1 0]; exact hm
  refine z_aload_n (pc := 294) dL_law_294 1 rfl ?_
  refine z_aload_n (pc := 295) dL_law_295 0 rfl ?_
  refine z_iload_n (pc := 296) dL_law_296 3 rfl ?_
  refine z_iconst (pc := 297) dL_law_297 ?_
  refine z_iadd (pc := 298) dL_law_298 ?_
  refine z_sld (pc := 299) hX hbl hbA dL_law_299 (by omega) hL ?_
  refine z_aload_n (pc := 300) dL_law_300 0 rfl ?_
  refine z_iload_n (pc := 301) dL_law_301 3 rfl ?_
  refine z_iconst (pc := 302) dL_law_302 ?_
  refine z_iadd (pc := 303) dL_law_303 ?_
  refine z_sld (pc := 304) hX hbl hbA dL_law_304 (by omega) hL ?_
  refine z_aload_n (pc := 305) dL_law_305 0 rfl ?_
  refine z_iload_n (pc := 306) dL_law_306 3 rfl ?_
  refine z_iconst (pc := 307) dL_law_307 ?_
  refine z_iadd (pc := 308) dL_law_308 ?_
  refine z_sld (pc := 309) hX hbl hbA dL_law_309 (by omega) hL ?_
  refine zx_set (pc := 310) (st := []) o1 (sI_r _ _) (sI_r _ _) (sI_r _ _) ⟨hR0.1, hR0.2, Nat.le_of_ble_eq_true rfl⟩ kM_L_31 dL_law_310 ?_
  have e := s_set ag o1 o4 hm fd (sI xs (i + 1)) (sI xs (i + 2)) (sI xs (i + 3))
  rw [e.1, e.2.2.1]
  refine z_aload_n (pc := 313) dL_law_313 2 rfl ?_
  refine z_aload_n (pc := 314) dL_law_314 0 rfl ?_
  refine z_iload_n (pc := 315) dL_law_315 3 rfl ?_
  refine z_iconst (pc := 316) dL_law_316 ?_
  refine z_iadd (pc := 317) dL_law_317 ?_
  refine z_sld (pc := 318) hX hbl hbA dL_law_318 (by omega) hL ?_
  refine z_aload_n (pc := 319) dL_law_319 0 rfl ?_
  refine z_iload_n (pc := 320) dL_law_320 3 rfl ?_
  refine z_iconst (pc := 321) dL_law_321 ?_
  refine z_iadd (pc := 322) dL_law_322 ?_
  refine z_sld (pc := 323) hX hbl hbA dL_law_323 (by omega) hL ?_
  refine z_aload_n (pc := 324) dL_law_324 0 rfl ?_
  refine z_iload_n (pc := 325) dL_law_325 3 rfl ?_
  refine z_iconst (pc := 326) dL_law_326 ?_
  refine z_iadd (pc := 327) dL_law_327 ?_
  refine z_sld (pc := 328) hX hbl hbA dL_law_328 (by omega) hL ?_
  refine z_swap ?_
  refine zm_set (pc := 329) (st := [.int ((opSet mg fd (sI xs (i + 1)) (sI xs (i + 2)) (sI xs (i + 3))).1)]) o4 (sI_r _ _) (sI_r _ _) (sI_r _ _) ⟨hR0.1, hR0.2, Nat.le_of_ble_eq_true rfl⟩ kM_L_35 dL_law_329 ?_
  refine z_swap ?_
  refine z_same (pc := 332) (tgt := 1291) dL_law_332 (by decide) ?_
  exact K ((opSet g fd (sI xs (i + 1)) (sI xs (i + 2)) (sI xs (i + 3))).2.1) gv gk ik tc tn to ts te tu bi si sv ((opSet mg fd (sI xs (i + 1)) (sI xs (i + 2)) (sI xs (i + 3))).2.2) ((opSet mg fd (sI xs (i + 1)) (sI xs (i + 2)) (sI xs (i + 3))).2.1) mi ft fb ff fl so be tE va wd gd ⟨e.2.2.2.1, o2, o3, e.2.2.2.2.1, o5, e.2.1, e.2.2.2.2.2, hmk, hik, hak, hT, hB⟩
set_option maxHeartbeats 4000000 in
set_option maxRecDepth 100000 in
theorem lc_5 {g gv gk : Gd} {ik : Int} {tc : FF} {tn to ts te tu : Int} {bi si : FF} {sv : Int → LL} {fd : FF} {mg mi : Gd} {ft fb ff : Nat → Int32} {fl : Nat → Int64} {so be tE va : Int} {wd : Int64} {gd : Int32} (lf : LF R s A b L xs fs q) (hi : 0 ≤ i ∧ i + 6 ≤ (L : Int)) (iv : Inv g gv gk ik tc tn bi si mg mi) (K : ∀ (g gv gk : Gd) (ik : Int) (tc : FF) (tn to ts te tu : Int) (bi si : FF) (sv : Int → LL) (fd : FF) (mg mi : Gd) (ft fb ff : Nat → Int32) (fl : Nat → Int64) (so be tE va : Int) (wd : Int64) (gd : Int32), Inv g gv gk ik tc tn bi si mg mi → Z p l e R s m args below meth c cells slots Q cL_law RL 4 rt D cI cJ cB cS xa A (WX cI cJ cB cS q fs g gv gk ik tc tn to ts te tu bi si sv fd ++ WM cI cJ q mg mi fd ft fb ff fl tc tn so be tE va wd gd bi si sv ik) [(0, .ref b), (1, .ref (q 0)), (2, .ref (q 28)), (3, .int (iI i))] 1291 []) : Z p l e R s m args below meth c cells slots Q cL_law RL 4 rt D cI cJ cB cS xa A (WX cI cJ cB cS q fs g gv gk ik tc tn to ts te tu bi si sv fd ++ WM cI cJ q mg mi fd ft fb ff fl tc tn so be tE va wd gd bi si sv ik) [(0, .ref b), (1, .ref (q 0)), (2, .ref (q 28)), (3, .int (iI i))] 337 [] := by
  obtain ⟨hX, hbl, hbA, hL, hR0, f0, f1, f2, f3⟩ := lf
  obtain ⟨o1, o2, o3, o4, o5, ag, hm, hmk, hik, hak, hT, hB⟩ := id iv
  have hmm : mg 4 0 ≤ 99999 := by rw [← ag.1 0]; exact hm
  refine z_aload_n (pc := 337) dL_law_337 1 rfl ?_
  refine z_aload_n (pc := 338) dL_law_338 0 rfl ?_
  refine z_iload_n (pc := 339) dL_law_339 3 rfl ?_
  refine z_iconst (pc := 340) dL_law_340 ?_
  refine z_iadd (pc := 341) dL_law_341 ?_
  refine z_sld (pc := 342) hX hbl hbA dL_law_342 (by omega) hL ?_
  refine z_aload_n (pc := 343) dL_law_343 0 rfl ?_
  refine z_iload_n (pc := 344) dL_law_344 3 rfl ?_
  refine z_iconst (pc := 345) dL_law_345 ?_
  refine z_iadd (pc := 346) dL_law_346 ?_
  refine z_sld (pc := 347) hX hbl hbA dL_law_347 (by omega) hL ?_
  refine zx_turn (pc := 348) (st := []) o1 (sI_r _ _) (sI_r _ _) ⟨hR0.1, hR0.2, Nat.le_of_ble_eq_true rfl⟩ kM_L_36 dL_law_348 ?_
  have e := s_turn ag o1 o4 hm fd (sI xs (i + 1)) (sI xs (i + 2))
  rw [e.1, e.2.2.1]
  refine z_aload_n (pc := 351) dL_law_351 2 rfl ?_
  refine z_aload_n (pc := 352) dL_law_352 0 rfl ?_
  refine z_iload_n (pc := 353) dL_law_353 3 rfl ?_
  refine z_iconst (pc := 354) dL_law_354 ?_
  refine z_iadd (pc := 355) dL_law_355 ?_
  refine z_sld (pc := 356) hX hbl hbA dL_law_356 (by omega) hL ?_
  refine z_aload_n (pc := 357) dL_law_357 0 rfl ?_
  refine z_iload_n (pc := 358) dL_law_358 3 rfl ?_
  refine z_iconst (pc := 359) dL_law_359 ?_
  refine z_iadd (pc := 360) dL_law_360 ?_
  refine z_sld (pc := 361) hX hbl hbA dL_law_361 (by omega) hL ?_
  refine z_swap ?_
  refine zm_turn (pc := 362) (st := [.int ((opTurn mg fd (sI xs (i + 1)) (sI xs (i + 2))).1)]) o4 (sI_r _ _) (sI_r _ _) ⟨hR0.1, hR0.2, Nat.le_of_ble_eq_true rfl⟩ kM_L_39 dL_law_362 ?_
  refine z_swap ?_
  refine z_same (pc := 365) (tgt := 1291) dL_law_365 (by decide) ?_
  exact K ((opTurn g fd (sI xs (i + 1)) (sI xs (i + 2))).2.1) gv gk ik tc tn to ts te tu bi si sv ((opTurn mg fd (sI xs (i + 1)) (sI xs (i + 2))).2.2) ((opTurn mg fd (sI xs (i + 1)) (sI xs (i + 2))).2.1) mi ft fb ff fl so be tE va wd gd ⟨e.2.2.2.1, o2, o3, e.2.2.2.2.1, o5, e.2.1, e.2.2.2.2.2, hmk, hik, hak, hT, hB⟩
set_option maxHeartbeats 4000000 in
set_option maxRecDepth 100000 in
theorem lc_6 {g gv gk : Gd} {ik : Int} {tc : FF} {tn to ts te tu : Int} {bi si : FF} {sv : Int → LL} {fd : FF} {mg mi : Gd} {ft fb ff : Nat → Int32} {fl : Nat → Int64} {so be tE va : Int} {wd : Int64} {gd : Int32} (lf : LF R s A b L xs fs q) (hi : 0 ≤ i ∧ i + 6 ≤ (L : Int)) (iv : Inv g gv gk ik tc tn bi si mg mi) (K : ∀ (g gv gk : Gd) (ik : Int) (tc : FF) (tn to ts te tu : Int) (bi si : FF) (sv : Int → LL) (fd : FF) (mg mi : Gd) (ft fb ff : Nat → Int32) (fl : Nat → Int64) (so be tE va : Int) (wd : Int64) (gd : Int32), Inv g gv gk ik tc tn bi si mg mi → Z p l e R s m args below meth c cells slots Q cL_law RL 4 rt D cI cJ cB cS xa A (WX cI cJ cB cS q fs g gv gk ik tc tn to ts te tu bi si sv fd ++ WM cI cJ q mg mi fd ft fb ff fl tc tn so be tE va wd gd bi si sv ik) [(0, .ref b), (1, .ref (q 0)), (2, .ref (q 28)), (3, .int (iI i))] 1291 []) : Z p l e R s m args below meth c cells slots Q cL_law RL 4 rt D cI cJ cB cS xa A (WX cI cJ cB cS q fs g gv gk ik tc tn to ts te tu bi si sv fd ++ WM cI cJ q mg mi fd ft fb ff fl tc tn so be tE va wd gd bi si sv ik) [(0, .ref b), (1, .ref (q 0)), (2, .ref (q 28)), (3, .int (iI i))] 370 [] := by
  obtain ⟨hX, hbl, hbA, hL, hR0, f0, f1, f2, f3⟩ := lf
  obtain ⟨o1, o2, o3, o4, o5, ag, hm, hmk, hik, hak, hT, hB⟩ := id iv
  have hmm : mg 4 0 ≤ 99999 := by rw [← ag.1 0]; exact hm
  refine z_aload_n (pc := 370) dL_law_370 1 rfl ?_
  refine z_aload_n (pc := 371) dL_law_371 0 rfl ?_
  refine z_iload_n (pc := 372) dL_law_372 3 rfl ?_
  refine z_iconst (pc := 373) dL_law_373 ?_
  refine z_iadd (pc := 374) dL_law_374 ?_
  refine z_sld (pc := 375) hX hbl hbA dL_law_375 (by omega) hL ?_
  refine z_aload_n (pc := 376) dL_law_376 0 rfl ?_
  refine z_iload_n (pc := 377) dL_law_377 3 rfl ?_
  refine z_iconst (pc := 378) dL_law_378 ?_
  refine z_iadd (pc := 379) dL_law_379 ?_
  refine z_sld (pc := 380) hX hbl hbA dL_law_380 (by omega) hL ?_
  refine zx_as (pc := 381) (st := []) o1 (sI_r _ _) (sI_r _ _) ⟨hR0.1, hR0.2, Nat.le_of_ble_eq_true rfl⟩ kM_L_40 dL_law_381 ?_
  have e := q_as ag fd (sI xs (i + 1)) (sI xs (i + 2))
  rw [e]
  refine z_aload_n (pc := 384) dL_law_384 2 rfl ?_
  refine z_aload_n (pc := 385) dL_law_385 0 rfl ?_
  refine z_iload_n (pc := 386) dL_law_386 3 rfl ?_
  refine z_iconst (pc := 387) dL_law_387 ?_
  refine z_iadd (pc := 388) dL_law_388 ?_
  refine z_sld (pc := 389) hX hbl hbA dL_law_389 (by omega) hL ?_
  refine z_aload_n (pc := 390) dL_law_390 0 rfl ?_
  refine z_iload_n (pc := 391) dL_law_391 3 rfl ?_
  refine z_iconst (pc := 392) dL_law_392 ?_
  refine z_iadd (pc := 393) dL_law_393 ?_
  refine z_sld (pc := 394) hX hbl hbA dL_law_394 (by omega) hL ?_
  refine z_swap ?_
  refine zm_as (pc := 395) (st := [.int ((opAs mg fd (sI xs (i + 1)) (sI xs (i + 2))).1)]) o4 (sI_r _ _) (sI_r _ _) ⟨hR0.1, hR0.2, Nat.le_of_ble_eq_true rfl⟩ kM_L_43 dL_law_395 ?_
  refine z_swap ?_
  refine z_same (pc := 398) (tgt := 1291) dL_law_398 (by decide) ?_
  exact K g gv gk ik tc tn to ts te tu bi si sv ((opAs mg fd (sI xs (i + 1)) (sI xs (i + 2))).2) mg mi ft fb ff fl so be tE va wd gd iv
set_option maxHeartbeats 4000000 in
set_option maxRecDepth 100000 in
theorem lc_7 {g gv gk : Gd} {ik : Int} {tc : FF} {tn to ts te tu : Int} {bi si : FF} {sv : Int → LL} {fd : FF} {mg mi : Gd} {ft fb ff : Nat → Int32} {fl : Nat → Int64} {so be tE va : Int} {wd : Int64} {gd : Int32} (lf : LF R s A b L xs fs q) (hi : 0 ≤ i ∧ i + 6 ≤ (L : Int)) (iv : Inv g gv gk ik tc tn bi si mg mi) (K : ∀ (g gv gk : Gd) (ik : Int) (tc : FF) (tn to ts te tu : Int) (bi si : FF) (sv : Int → LL) (fd : FF) (mg mi : Gd) (ft fb ff : Nat → Int32) (fl : Nat → Int64) (so be tE va : Int) (wd : Int64) (gd : Int32), Inv g gv gk ik tc tn bi si mg mi → Z p l e R s m args below meth c cells slots Q cL_law RL 4 rt D cI cJ cB cS xa A (WX cI cJ cB cS q fs g gv gk ik tc tn to ts te tu bi si sv fd ++ WM cI cJ q mg mi fd ft fb ff fl tc tn so be tE va wd gd bi si sv ik) [(0, .ref b), (1, .ref (q 0)), (2, .ref (q 28)), (3, .int (iI i))] 1291 []) : Z p l e R s m args below meth c cells slots Q cL_law RL 4 rt D cI cJ cB cS xa A (WX cI cJ cB cS q fs g gv gk ik tc tn to ts te tu bi si sv fd ++ WM cI cJ q mg mi fd ft fb ff fl tc tn so be tE va wd gd bi si sv ik) [(0, .ref b), (1, .ref (q 0)), (2, .ref (q 28)), (3, .int (iI i))] 403 [] := by
  obtain ⟨hX, hbl, hbA, hL, hR0, f0, f1, f2, f3⟩ := lf
  obtain ⟨o1, o2, o3, o4, o5, ag, hm, hmk, hik, hak, hT, hB⟩ := id iv
  have hmm : mg 4 0 ≤ 99999 := by rw [← ag.1 0]; exact hm
  refine z_aload_n (pc := 403) dL_law_403 1 rfl ?_
  refine z_aload_n (pc := 404) dL_law_404 0 rfl ?_
  refine z_iload_n (pc := 405) dL_law_405 3 rfl ?_
  refine z_iconst (pc := 406) dL_law_406 ?_
  refine z_iadd (pc := 407) dL_law_407 ?_
  refine z_sld (pc := 408) hX hbl hbA dL_law_408 (by omega) hL ?_
  refine z_aload_n (pc := 409) dL_law_409 0 rfl ?_
  refine z_iload_n (pc := 410) dL_law_410 3 rfl ?_
  refine z_iconst (pc := 411) dL_law_411 ?_
  refine z_iadd (pc := 412) dL_law_412 ?_
  refine z_sld (pc := 413) hX hbl hbA dL_law_413 (by omega) hL ?_
  refine zx_push (pc := 414) (st := []) o1 (sI_r _ _) (sI_r _ _) ⟨hR0.1, hR0.2, Nat.le_of_ble_eq_true rfl⟩ kM_L_44 dL_law_414 ?_
  have e := s_push ag o1 o4 hm fd (sI xs (i + 1)) (sI xs (i + 2))
  rw [e.1, e.2.2.1]
  refine z_aload_n (pc := 417) dL_law_417 2 rfl ?_
  refine z_aload_n (pc := 418) dL_law_418 0 rfl ?_
  refine z_iload_n (pc := 419) dL_law_419 3 rfl ?_
  refine z_iconst (pc := 420) dL_law_420 ?_
  refine z_iadd (pc := 421) dL_law_421 ?_
  refine z_sld (pc := 422) hX hbl hbA dL_law_422 (by omega) hL ?_
  refine z_aload_n (pc := 423) dL_law_423 0 rfl ?_
  refine z_iload_n (pc := 424) dL_law_424 3 rfl ?_
  refine z_iconst (pc := 425) dL_law_425 ?_
  refine z_iadd (pc := 426) dL_law_426 ?_
  refine z_sld (pc := 427) hX hbl hbA dL_law_427 (by omega) hL ?_
  refine z_swap ?_
  refine zm_push (pc := 428) (st := [.int ((opPush mg fd (sI xs (i + 1)) (sI xs (i + 2))).1)]) o4 (sI_r _ _) (sI_r _ _) ⟨hR0.1, hR0.2, Nat.le_of_ble_eq_true rfl⟩ kM_L_47 dL_law_428 ?_
  refine z_swap ?_
  refine z_same (pc := 431) (tgt := 1291) dL_law_431 (by decide) ?_
  exact K ((opPush g fd (sI xs (i + 1)) (sI xs (i + 2))).2.1) gv gk ik tc tn to ts te tu bi si sv ((opPush mg fd (sI xs (i + 1)) (sI xs (i + 2))).2.2) ((opPush mg fd (sI xs (i + 1)) (sI xs (i + 2))).2.1) mi ft fb ff fl so be tE va wd gd ⟨e.2.2.2.1, o2, o3, e.2.2.2.2.1, o5, e.2.1, e.2.2.2.2.2, hmk, hik, hak, hT, hB⟩
set_option maxHeartbeats 4000000 in
set_option maxRecDepth 100000 in
theorem lc_8 {g gv gk : Gd} {ik : Int} {tc : FF} {tn to ts te tu : Int} {bi si : FF} {sv : Int → LL} {fd : FF} {mg mi : Gd} {ft fb ff : Nat → Int32} {fl : Nat → Int64} {so be tE va : Int} {wd : Int64} {gd : Int32} (lf : LF R s A b L xs fs q) (hi : 0 ≤ i ∧ i + 6 ≤ (L : Int)) (iv : Inv g gv gk ik tc tn bi si mg mi) (K : ∀ (g gv gk : Gd) (ik : Int) (tc : FF) (tn to ts te tu : Int) (bi si : FF) (sv : Int → LL) (fd : FF) (mg mi : Gd) (ft fb ff : Nat → Int32) (fl : Nat → Int64) (so be tE va : Int) (wd : Int64) (gd : Int32), Inv g gv gk ik tc tn bi si mg mi → Z p l e R s m args below meth c cells slots Q cL_law RL 4 rt D cI cJ cB cS xa A (WX cI cJ cB cS q fs g gv gk ik tc tn to ts te tu bi si sv fd ++ WM cI cJ q mg mi fd ft fb ff fl tc tn so be tE va wd gd bi si sv ik) [(0, .ref b), (1, .ref (q 0)), (2, .ref (q 28)), (3, .int (iI i))] 1291 []) : Z p l e R s m args below meth c cells slots Q cL_law RL 4 rt D cI cJ cB cS xa A (WX cI cJ cB cS q fs g gv gk ik tc tn to ts te tu bi si sv fd ++ WM cI cJ q mg mi fd ft fb ff fl tc tn so be tE va wd gd bi si sv ik) [(0, .ref b), (1, .ref (q 0)), (2, .ref (q 28)), (3, .int (iI i))] 436 [] := by
  obtain ⟨hX, hbl, hbA, hL, hR0, f0, f1, f2, f3⟩ := lf
  obtain ⟨o1, o2, o3, o4, o5, ag, hm, hmk, hik, hak, hT, hB⟩ := id iv
  have hmm : mg 4 0 ≤ 99999 := by rw [← ag.1 0]; exact hm
  refine z_aload_n (pc := 436) dL_law_436 1 rfl ?_
  refine z_aload_n (pc := 437) dL_law_437 0 rfl ?_
  refine z_iload_n (pc := 438) dL_law_438 3 rfl ?_
  refine z_iconst (pc := 439) dL_law_439 ?_
  refine z_iadd (pc := 440) dL_law_440 ?_
  refine z_sld (pc := 441) hX hbl hbA dL_law_441 (by omega) hL ?_
  refine z_aload_n (pc := 442) dL_law_442 0 rfl ?_
  refine z_iload_n (pc := 443) dL_law_443 3 rfl ?_
  refine z_iconst (pc := 444) dL_law_444 ?_
  refine z_iadd (pc := 445) dL_law_445 ?_
  refine z_sld (pc := 446) hX hbl hbA dL_law_446 (by omega) hL ?_
  refine zx_swap (pc := 447) (st := []) o1 (sI_r _ _) (sI_r _ _) ⟨hR0.1, hR0.2, Nat.le_of_ble_eq_true rfl⟩ kM_L_48 dL_law_447 ?_
  have e := s_swap ag o1 o4 hm fd (sI xs (i + 1)) (sI xs (i + 2))
  rw [e.1, e.2.2.1]
  refine z_aload_n (pc := 450) dL_law_450 2 rfl ?_
  refine z_aload_n (pc := 451) dL_law_451 0 rfl ?_
  refine z_iload_n (pc := 452) dL_law_452 3 rfl ?_
  refine z_iconst (pc := 453) dL_law_453 ?_
  refine z_iadd (pc := 454) dL_law_454 ?_
  refine z_sld (pc := 455) hX hbl hbA dL_law_455 (by omega) hL ?_
  refine z_aload_n (pc := 456) dL_law_456 0 rfl ?_
  refine z_iload_n (pc := 457) dL_law_457 3 rfl ?_
  refine z_iconst (pc := 458) dL_law_458 ?_
  refine z_iadd (pc := 459) dL_law_459 ?_
  refine z_sld (pc := 460) hX hbl hbA dL_law_460 (by omega) hL ?_
  refine z_swap ?_
  refine zm_swap (pc := 461) (st := [.int ((opSwap mg fd (sI xs (i + 1)) (sI xs (i + 2))).1)]) o4 (sI_r _ _) (sI_r _ _) ⟨hR0.1, hR0.2, Nat.le_of_ble_eq_true rfl⟩ kM_L_51 dL_law_461 ?_
  refine z_swap ?_
  refine z_same (pc := 464) (tgt := 1291) dL_law_464 (by decide) ?_
  exact K ((opSwap g fd (sI xs (i + 1)) (sI xs (i + 2))).2.1) gv gk ik tc tn to ts te tu bi si sv ((opSwap mg fd (sI xs (i + 1)) (sI xs (i + 2))).2.2) ((opSwap mg fd (sI xs (i + 1)) (sI xs (i + 2))).2.1) mi ft fb ff fl so be tE va wd gd ⟨e.2.2.2.1, o2, o3, e.2.2.2.2.1, o5, e.2.1, e.2.2.2.2.2, hmk, hik, hak, hT, hB⟩
set_option maxHeartbeats 4000000 in
set_option maxRecDepth 100000 in
theorem lc_9 {g gv gk : Gd} {ik : Int} {tc : FF} {tn to ts te tu : Int} {bi si : FF} {sv : Int → LL} {fd : FF} {mg mi : Gd} {ft fb ff : Nat → Int32} {fl : Nat → Int64} {so be tE va : Int} {wd : Int64} {gd : Int32} (lf : LF R s A b L xs fs q) (hi : 0 ≤ i ∧ i + 6 ≤ (L : Int)) (iv : Inv g gv gk ik tc tn bi si mg mi) (K : ∀ (g gv gk : Gd) (ik : Int) (tc : FF) (tn to ts te tu : Int) (bi si : FF) (sv : Int → LL) (fd : FF) (mg mi : Gd) (ft fb ff : Nat → Int32) (fl : Nat → Int64) (so be tE va : Int) (wd : Int64) (gd : Int32), Inv g gv gk ik tc tn bi si mg mi → Z p l e R s m args below meth c cells slots Q cL_law RL 4 rt D cI cJ cB cS xa A (WX cI cJ cB cS q fs g gv gk ik tc tn to ts te tu bi si sv fd ++ WM cI cJ q mg mi fd ft fb ff fl tc tn so be tE va wd gd bi si sv ik) [(0, .ref b), (1, .ref (q 0)), (2, .ref (q 28)), (3, .int (iI i))] 1291 []) : Z p l e R s m args below meth c cells slots Q cL_law RL 4 rt D cI cJ cB cS xa A (WX cI cJ cB cS q fs g gv gk ik tc tn to ts te tu bi si sv fd ++ WM cI cJ q mg mi fd ft fb ff fl tc tn so be tE va wd gd bi si sv ik) [(0, .ref b), (1, .ref (q 0)), (2, .ref (q 28)), (3, .int (iI i))] 469 [] := by
  obtain ⟨hX, hbl, hbA, hL, hR0, f0, f1, f2, f3⟩ := lf
  obtain ⟨o1, o2, o3, o4, o5, ag, hm, hmk, hik, hak, hT, hB⟩ := id iv
  have hmm : mg 4 0 ≤ 99999 := by rw [← ag.1 0]; exact hm
  refine z_aload_n (pc := 469) dL_law_469 1 rfl ?_
  refine z_aload_n (pc := 470) dL_law_470 0 rfl ?_
  refine z_iload_n (pc := 471) dL_law_471 3 rfl ?_
  refine z_iconst (pc := 472) dL_law_472 ?_
  refine z_iadd (pc := 473) dL_law_473 ?_
  refine z_sld (pc := 474) hX hbl hbA dL_law_474 (by omega) hL ?_
  refine zx_minutes (pc := 475) (st := []) o1 (sI_r _ _) hm ⟨hR0.1, hR0.2, Nat.le_of_ble_eq_true rfl⟩ kM_L_52 dL_law_475 ?_
  have e := s_minutes ag o1 o4 hm fd (sI xs (i + 1))
  rw [e.1, e.2.2.1]
  refine z_aload_n (pc := 478) dL_law_478 2 rfl ?_
  refine z_aload_n (pc := 479) dL_law_479 0 rfl ?_
  refine z_iload_n (pc := 480) dL_law_480 3 rfl ?_
  refine z_iconst (pc := 481) dL_law_481 ?_
  refine z_iadd (pc := 482) dL_law_482 ?_
  refine z_sld (pc := 483) hX hbl hbA dL_law_483 (by omega) hL ?_
  refine z_swap ?_
  refine zm_minutes (pc := 484) (st := [.int ((opMinutes mg fd (sI xs (i + 1))).1)]) o4 (sI_r _ _) hmm ⟨hR0.1, hR0.2, Nat.le_of_ble_eq_true rfl⟩ kM_L_55 dL_law_484 ?_
  refine z_swap ?_
  refine z_same (pc := 487) (tgt := 1291) dL_law_487 (by decide) ?_
  exact K ((opMinutes g fd (sI xs (i + 1))).2.1) gv gk ik tc tn to ts te tu bi si sv ((opMinutes mg fd (sI xs (i + 1))).2.2) ((opMinutes mg fd (sI xs (i + 1))).2.1) mi ft fb ff fl so be tE va wd gd ⟨e.2.2.2.1, o2, o3, e.2.2.2.2.1, o5, e.2.1, e.2.2.2.2.2, hmk, hik, hak, hT, hB⟩
set_option maxHeartbeats 4000000 in
set_option maxRecDepth 100000 in
theorem lc_10 {g gv gk : Gd} {ik : Int} {tc : FF} {tn to ts te tu : Int} {bi si : FF} {sv : Int → LL} {fd : FF} {mg mi : Gd} {ft fb ff : Nat → Int32} {fl : Nat → Int64} {so be tE va : Int} {wd : Int64} {gd : Int32} (lf : LF R s A b L xs fs q) (hi : 0 ≤ i ∧ i + 6 ≤ (L : Int)) (iv : Inv g gv gk ik tc tn bi si mg mi) (K : ∀ (g gv gk : Gd) (ik : Int) (tc : FF) (tn to ts te tu : Int) (bi si : FF) (sv : Int → LL) (fd : FF) (mg mi : Gd) (ft fb ff : Nat → Int32) (fl : Nat → Int64) (so be tE va : Int) (wd : Int64) (gd : Int32), Inv g gv gk ik tc tn bi si mg mi → Z p l e R s m args below meth c cells slots Q cL_law RL 4 rt D cI cJ cB cS xa A (WX cI cJ cB cS q fs g gv gk ik tc tn to ts te tu bi si sv fd ++ WM cI cJ q mg mi fd ft fb ff fl tc tn so be tE va wd gd bi si sv ik) [(0, .ref b), (1, .ref (q 0)), (2, .ref (q 28)), (3, .int (iI i))] 1291 []) : Z p l e R s m args below meth c cells slots Q cL_law RL 4 rt D cI cJ cB cS xa A (WX cI cJ cB cS q fs g gv gk ik tc tn to ts te tu bi si sv fd ++ WM cI cJ q mg mi fd ft fb ff fl tc tn so be tE va wd gd bi si sv ik) [(0, .ref b), (1, .ref (q 0)), (2, .ref (q 28)), (3, .int (iI i))] 492 [] := by
  obtain ⟨hX, hbl, hbA, hL, hR0, f0, f1, f2, f3⟩ := lf
  obtain ⟨o1, o2, o3, o4, o5, ag, hm, hmk, hik, hak, hT, hB⟩ := id iv
  have hmm : mg 4 0 ≤ 99999 := by rw [← ag.1 0]; exact hm
  refine z_aload_n (pc := 492) dL_law_492 1 rfl ?_
  refine z_aload_n (pc := 493) dL_law_493 0 rfl ?_
  refine z_iload_n (pc := 494) dL_law_494 3 rfl ?_
  refine z_iconst (pc := 495) dL_law_495 ?_
  refine z_iadd (pc := 496) dL_law_496 ?_
  refine z_sld (pc := 497) hX hbl hbA dL_law_497 (by omega) hL ?_
  refine z_aload_n (pc := 498) dL_law_498 0 rfl ?_
  refine z_iload_n (pc := 499) dL_law_499 3 rfl ?_
  refine z_iconst (pc := 500) dL_law_500 ?_
  refine z_iadd (pc := 501) dL_law_501 ?_
  refine z_sld (pc := 502) hX hbl hbA dL_law_502 (by omega) hL ?_
  refine z_aload_n (pc := 503) dL_law_503 0 rfl ?_
  refine z_iload_n (pc := 504) dL_law_504 3 rfl ?_
  refine z_iconst (pc := 505) dL_law_505 ?_
  refine z_iadd (pc := 506) dL_law_506 ?_
  refine z_sld (pc := 507) hX hbl hbA dL_law_507 (by omega) hL ?_
  refine zx_on (pc := 508) (st := []) o1 (sI_r _ _) (sI_r _ _) (sI_r _ _) o2 hm ⟨hR0.1, hR0.2, Nat.le_of_ble_eq_true rfl⟩ kM_L_56 dL_law_508 (fun gt2 hu => ?_)
  have e := q_on ag o1 hm fd (sI xs (i + 1)) (sI xs (i + 2)) (sI xs (i + 3))
  rw [e]
  refine z_aload_n (pc := 511) dL_law_511 2 rfl ?_
  refine z_aload_n (pc := 512) dL_law_512 0 rfl ?_
  refine z_iload_n (pc := 513) dL_law_513 3 rfl ?_
  refine z_iconst (pc := 514) dL_law_514 ?_
  refine z_iadd (pc := 515) dL_law_515 ?_
  refine z_sld (pc := 516) hX hbl hbA dL_law_516 (by omega) hL ?_
  refine z_aload_n (pc := 517) dL_law_517 0 rfl ?_
  refine z_iload_n (pc := 518) dL_law_518 3 rfl ?_
  refine z_iconst (pc := 519) dL_law_519 ?_
  refine z_iadd (pc := 520) dL_law_520 ?_
  refine z_sld (pc := 521) hX hbl hbA dL_law_521 (by omega) hL ?_
  refine z_aload_n (pc := 522) dL_law_522 0 rfl ?_
  refine z_iload_n (pc := 523) dL_law_523 3 rfl ?_
  refine z_iconst (pc := 524) dL_law_524 ?_
  refine z_iadd (pc := 525) dL_law_525 ?_
  refine z_sld (pc := 526) hX hbl hbA dL_law_526 (by omega) hL ?_
  refine z_swap ?_
  refine zm_on (pc := 527) (st := [.int ((opOn mg fd (sI xs (i + 1)) (sI xs (i + 2)) (sI xs (i + 3))).1)]) o4 (sI_r _ _) (sI_r _ _) (sI_r _ _) hmm ⟨hR0.1, hR0.2, Nat.le_of_ble_eq_true rfl⟩ kM_L_59 dL_law_527 (fun ft2m hv => ?_)
  refine z_swap ?_
  refine z_same (pc := 530) (tgt := 1291) dL_law_530 (by decide) ?_
  exact K g gt2 gk ik tc tn to ts te tu bi si sv ((opOn mg fd (sI xs (i + 1)) (sI xs (i + 2)) (sI xs (i + 3))).2) mg mi ft2m fb ff fl so be tE va wd gd ⟨o1, hu, o3, o4, o5, ag, hm, hmk, hik, hak, hT, hB⟩
set_option maxHeartbeats 4000000 in
set_option maxRecDepth 100000 in
theorem lc_11 {g gv gk : Gd} {ik : Int} {tc : FF} {tn to ts te tu : Int} {bi si : FF} {sv : Int → LL} {fd : FF} {mg mi : Gd} {ft fb ff : Nat → Int32} {fl : Nat → Int64} {so be tE va : Int} {wd : Int64} {gd : Int32} (lf : LF R s A b L xs fs q) (hi : 0 ≤ i ∧ i + 6 ≤ (L : Int)) (iv : Inv g gv gk ik tc tn bi si mg mi) (K : ∀ (g gv gk : Gd) (ik : Int) (tc : FF) (tn to ts te tu : Int) (bi si : FF) (sv : Int → LL) (fd : FF) (mg mi : Gd) (ft fb ff : Nat → Int32) (fl : Nat → Int64) (so be tE va : Int) (wd : Int64) (gd : Int32), Inv g gv gk ik tc tn bi si mg mi → Z p l e R s m args below meth c cells slots Q cL_law RL 4 rt D cI cJ cB cS xa A (WX cI cJ cB cS q fs g gv gk ik tc tn to ts te tu bi si sv fd ++ WM cI cJ q mg mi fd ft fb ff fl tc tn so be tE va wd gd bi si sv ik) [(0, .ref b), (1, .ref (q 0)), (2, .ref (q 28)), (3, .int (iI i))] 1291 []) : Z p l e R s m args below meth c cells slots Q cL_law RL 4 rt D cI cJ cB cS xa A (WX cI cJ cB cS q fs g gv gk ik tc tn to ts te tu bi si sv fd ++ WM cI cJ q mg mi fd ft fb ff fl tc tn so be tE va wd gd bi si sv ik) [(0, .ref b), (1, .ref (q 0)), (2, .ref (q 28)), (3, .int (iI i))] 535 [] := by
  obtain ⟨hX, hbl, hbA, hL, hR0, f0, f1, f2, f3⟩ := lf
  obtain ⟨o1, o2, o3, o4, o5, ag, hm, hmk, hik, hak, hT, hB⟩ := id iv
  have hmm : mg 4 0 ≤ 99999 := by rw [← ag.1 0]; exact hm
  refine z_aload_n (pc := 535) dL_law_535 1 rfl ?_
  refine z_aload_n (pc := 536) dL_law_536 0 rfl ?_
  refine z_iload_n (pc := 537) dL_law_537 3 rfl ?_
  refine z_iconst (pc := 538) dL_law_538 ?_
  refine z_iadd (pc := 539) dL_law_539 ?_
  refine z_sld (pc := 540) hX hbl hbA dL_law_540 (by omega) hL ?_
  refine z_aload_n (pc := 541) dL_law_541 0 rfl ?_
  refine z_iload_n (pc := 542) dL_law_542 3 rfl ?_
  refine z_iconst (pc := 543) dL_law_543 ?_
  refine z_iadd (pc := 544) dL_law_544 ?_
  refine z_sld (pc := 545) hX hbl hbA dL_law_545 (by omega) hL ?_
  refine zx_owes (pc := 546) (st := []) o1 (sI_r _ _) (sI_r _ _) o2 hm ⟨hR0.1, hR0.2, Nat.le_of_ble_eq_true rfl⟩ kM_L_60 dL_law_546 (fun gt2 hu => ?_)
  have e := q_owes ag o1 hm fd (sI xs (i + 1)) (sI xs (i + 2))
  rw [e]
  refine z_aload_n (pc := 549) dL_law_549 2 rfl ?_
  refine z_aload_n (pc := 550) dL_law_550 0 rfl ?_
  refine z_iload_n (pc := 551) dL_law_551 3 rfl ?_
  refine z_iconst (pc := 552) dL_law_552 ?_
  refine z_iadd (pc := 553) dL_law_553 ?_
  refine z_sld (pc := 554) hX hbl hbA dL_law_554 (by omega) hL ?_
  refine z_aload_n (pc := 555) dL_law_555 0 rfl ?_
  refine z_iload_n (pc := 556) dL_law_556 3 rfl ?_
  refine z_iconst (pc := 557) dL_law_557 ?_
  refine z_iadd (pc := 558) dL_law_558 ?_
  refine z_sld (pc := 559) hX hbl hbA dL_law_559 (by omega) hL ?_
  refine z_swap ?_
  refine zm_owes (pc := 560) (st := [.int ((opOwes mg fd (sI xs (i + 1)) (sI xs (i + 2))).1)]) o4 (sI_r _ _) (sI_r _ _) hmm ⟨hR0.1, hR0.2, Nat.le_of_ble_eq_true rfl⟩ kM_L_63 dL_law_560 (fun ft2m hv => ?_)
  refine z_swap ?_
  refine z_same (pc := 563) (tgt := 1291) dL_law_563 (by decide) ?_
  exact K g gt2 gk ik tc tn to ts te tu bi si sv ((opOwes mg fd (sI xs (i + 1)) (sI xs (i + 2))).2) mg mi ft2m fb ff fl so be tE va wd gd ⟨o1, hu, o3, o4, o5, ag, hm, hmk, hik, hak, hT, hB⟩
set_option maxHeartbeats 4000000 in
set_option maxRecDepth 100000 in
theorem lc_12 {g gv gk : Gd} {ik : Int} {tc : FF} {tn to ts te tu : Int} {bi si : FF} {sv : Int → LL} {fd : FF} {mg mi : Gd} {ft fb ff : Nat → Int32} {fl : Nat → Int64} {so be tE va : Int} {wd : Int64} {gd : Int32} (lf : LF R s A b L xs fs q) (hi : 0 ≤ i ∧ i + 6 ≤ (L : Int)) (iv : Inv g gv gk ik tc tn bi si mg mi) (K : ∀ (g gv gk : Gd) (ik : Int) (tc : FF) (tn to ts te tu : Int) (bi si : FF) (sv : Int → LL) (fd : FF) (mg mi : Gd) (ft fb ff : Nat → Int32) (fl : Nat → Int64) (so be tE va : Int) (wd : Int64) (gd : Int32), Inv g gv gk ik tc tn bi si mg mi → Z p l e R s m args below meth c cells slots Q cL_law RL 4 rt D cI cJ cB cS xa A (WX cI cJ cB cS q fs g gv gk ik tc tn to ts te tu bi si sv fd ++ WM cI cJ q mg mi fd ft fb ff fl tc tn so be tE va wd gd bi si sv ik) [(0, .ref b), (1, .ref (q 0)), (2, .ref (q 28)), (3, .int (iI i))] 1291 []) : Z p l e R s m args below meth c cells slots Q cL_law RL 4 rt D cI cJ cB cS xa A (WX cI cJ cB cS q fs g gv gk ik tc tn to ts te tu bi si sv fd ++ WM cI cJ q mg mi fd ft fb ff fl tc tn so be tE va wd gd bi si sv ik) [(0, .ref b), (1, .ref (q 0)), (2, .ref (q 28)), (3, .int (iI i))] 568 [] := by
  obtain ⟨hX, hbl, hbA, hL, hR0, f0, f1, f2, f3⟩ := lf
  obtain ⟨o1, o2, o3, o4, o5, ag, hm, hmk, hik, hak, hT, hB⟩ := id iv
  have hmm : mg 4 0 ≤ 99999 := by rw [← ag.1 0]; exact hm
  refine z_aload_n (pc := 568) dL_law_568 1 rfl ?_
  refine zx_level (pc := 569) (st := []) o1 o2 hm ⟨hR0.1, hR0.2, Nat.le_of_ble_eq_true rfl⟩ kM_L_64 dL_law_569 (fun gt2 hu => ?_)
  have e := q_level ag o1 hm fd
  rw [e]
  refine z_aload_n (pc := 572) dL_law_572 2 rfl ?_
  refine z_swap ?_
  refine zm_level (pc := 573) (st := [.int ((opLevel mg fd).1)]) o4 hmm ⟨hR0.1, hR0.2, Nat.le_of_ble_eq_true rfl⟩ kM_L_68 dL_law_573 (fun ft2m hv => ?_)
  refine z_swap ?_
  refine z_same (pc := 576) (tgt := 1291) dL_law_576 (by decide) ?_
  exact K g gt2 gk ik tc tn to ts te tu bi si sv ((opLevel mg fd).2) mg mi ft2m fb ff fl so be tE va wd gd ⟨o1, hu, o3, o4, o5, ag, hm, hmk, hik, hak, hT, hB⟩
set_option maxHeartbeats 4000000 in
set_option maxRecDepth 100000 in
theorem lc_13 {g gv gk : Gd} {ik : Int} {tc : FF} {tn to ts te tu : Int} {bi si : FF} {sv : Int → LL} {fd : FF} {mg mi : Gd} {ft fb ff : Nat → Int32} {fl : Nat → Int64} {so be tE va : Int} {wd : Int64} {gd : Int32} (lf : LF R s A b L xs fs q) (hi : 0 ≤ i ∧ i + 6 ≤ (L : Int)) (iv : Inv g gv gk ik tc tn bi si mg mi) (K : ∀ (g gv gk : Gd) (ik : Int) (tc : FF) (tn to ts te tu : Int) (bi si : FF) (sv : Int → LL) (fd : FF) (mg mi : Gd) (ft fb ff : Nat → Int32) (fl : Nat → Int64) (so be tE va : Int) (wd : Int64) (gd : Int32), Inv g gv gk ik tc tn bi si mg mi → Z p l e R s m args below meth c cells slots Q cL_law RL 4 rt D cI cJ cB cS xa A (WX cI cJ cB cS q fs g gv gk ik tc tn to ts te tu bi si sv fd ++ WM cI cJ q mg mi fd ft fb ff fl tc tn so be tE va wd gd bi si sv ik) [(0, .ref b), (1, .ref (q 0)), (2, .ref (q 28)), (3, .int (iI i))] 1291 []) : Z p l e R s m args below meth c cells slots Q cL_law RL 4 rt D cI cJ cB cS xa A (WX cI cJ cB cS q fs g gv gk ik tc tn to ts te tu bi si sv fd ++ WM cI cJ q mg mi fd ft fb ff fl tc tn so be tE va wd gd bi si sv ik) [(0, .ref b), (1, .ref (q 0)), (2, .ref (q 28)), (3, .int (iI i))] 581 [] := by
  obtain ⟨hX, hbl, hbA, hL, hR0, f0, f1, f2, f3⟩ := lf
  obtain ⟨o1, o2, o3, o4, o5, ag, hm, hmk, hik, hak, hT, hB⟩ := id iv
  have hmm : mg 4 0 ≤ 99999 := by rw [← ag.1 0]; exact hm
  refine z_aload_n (pc := 581) dL_law_581 1 rfl ?_
  refine z_aload_n (pc := 582) dL_law_582 0 rfl ?_
  refine z_iload_n (pc := 583) dL_law_583 3 rfl ?_
  refine z_iconst (pc := 584) dL_law_584 ?_
  refine z_iadd (pc := 585) dL_law_585 ?_
  refine z_sld (pc := 586) hX hbl hbA dL_law_586 (by omega) hL ?_
  refine z_aload_n (pc := 587) dL_law_587 0 rfl ?_
  refine z_iload_n (pc := 588) dL_law_588 3 rfl ?_
  refine z_iconst (pc := 589) dL_law_589 ?_
  refine z_iadd (pc := 590) dL_law_590 ?_
  refine z_sld (pc := 591) hX hbl hbA dL_law_591 (by omega) hL ?_
  refine zx_comes (pc := 592) (st := []) o1 (sI_r _ _) (sI_r _ _) o2 hm ⟨hR0.1, hR0.2, Nat.le_of_ble_eq_true rfl⟩ kM_L_69 dL_law_592 (fun gt2 hu => ?_)
  have e := q_comes ag o1 hm fd (sI xs (i + 1)) (sI xs (i + 2))
  rw [e]
  refine z_aload_n (pc := 595) dL_law_595 2 rfl ?_
  refine z_aload_n (pc := 596) dL_law_596 0 rfl ?_
  refine z_iload_n (pc := 597) dL_law_597 3 rfl ?_
  refine z_iconst (pc := 598) dL_law_598 ?_
  refine z_iadd (pc := 599) dL_law_599 ?_
  refine z_sld (pc := 600) hX hbl hbA dL_law_600 (by omega) hL ?_
  refine z_aload_n (pc := 601) dL_law_601 0 rfl ?_
  refine z_iload_n (pc := 602) dL_law_602 3 rfl ?_
  refine z_iconst (pc := 603) dL_law_603 ?_
  refine z_iadd (pc := 604) dL_law_604 ?_
  refine z_sld (pc := 605) hX hbl hbA dL_law_605 (by omega) hL ?_
  refine z_swap ?_
  refine zm_comes (pc := 606) (st := [.int ((opComes mg fd (sI xs (i + 1)) (sI xs (i + 2))).1)]) o4 (sI_r _ _) (sI_r _ _) hmm ⟨hR0.1, hR0.2, Nat.le_of_ble_eq_true rfl⟩ kM_L_72 dL_law_606 (fun ft2m hv => ?_)
  refine z_swap ?_
  refine z_same (pc := 609) (tgt := 1291) dL_law_609 (by decide) ?_
  exact K g gt2 gk ik tc tn to ts te tu bi si sv ((opComes mg fd (sI xs (i + 1)) (sI xs (i + 2))).2) mg mi ft2m fb ff fl so be tE va wd gd ⟨o1, hu, o3, o4, o5, ag, hm, hmk, hik, hak, hT, hB⟩
set_option maxHeartbeats 4000000 in
set_option maxRecDepth 100000 in
theorem lc_14 {g gv gk : Gd} {ik : Int} {tc : FF} {tn to ts te tu : Int} {bi si : FF} {sv : Int → LL} {fd : FF} {mg mi : Gd} {ft fb ff : Nat → Int32} {fl : Nat → Int64} {so be tE va : Int} {wd : Int64} {gd : Int32} (lf : LF R s A b L xs fs q) (hi : 0 ≤ i ∧ i + 6 ≤ (L : Int)) (iv : Inv g gv gk ik tc tn bi si mg mi) (K : ∀ (g gv gk : Gd) (ik : Int) (tc : FF) (tn to ts te tu : Int) (bi si : FF) (sv : Int → LL) (fd : FF) (mg mi : Gd) (ft fb ff : Nat → Int32) (fl : Nat → Int64) (so be tE va : Int) (wd : Int64) (gd : Int32), Inv g gv gk ik tc tn bi si mg mi → Z p l e R s m args below meth c cells slots Q cL_law RL 4 rt D cI cJ cB cS xa A (WX cI cJ cB cS q fs g gv gk ik tc tn to ts te tu bi si sv fd ++ WM cI cJ q mg mi fd ft fb ff fl tc tn so be tE va wd gd bi si sv ik) [(0, .ref b), (1, .ref (q 0)), (2, .ref (q 28)), (3, .int (iI i))] 1291 []) : Z p l e R s m args below meth c cells slots Q cL_law RL 4 rt D cI cJ cB cS xa A (WX cI cJ cB cS q fs g gv gk ik tc tn to ts te tu bi si sv fd ++ WM cI cJ q mg mi fd ft fb ff fl tc tn so be tE va wd gd bi si sv ik) [(0, .ref b), (1, .ref (q 0)), (2, .ref (q 28)), (3, .int (iI i))] 614 [] := by
  obtain ⟨hX, hbl, hbA, hL, hR0, f0, f1, f2, f3⟩ := lf
  obtain ⟨o1, o2, o3, o4, o5, ag, hm, hmk, hik, hak, hT, hB⟩ := id iv
  have hmm : mg 4 0 ≤ 99999 := by rw [← ag.1 0]; exact hm
  refine z_aload_n (pc := 614) dL_law_614 1 rfl ?_
  refine z_aload_n (pc := 615) dL_law_615 0 rfl ?_
  refine z_iload_n (pc := 616) dL_law_616 3 rfl ?_
  refine z_iconst (pc := 617) dL_law_617 ?_
  refine z_iadd (pc := 618) dL_law_618 ?_
  refine z_sld (pc := 619) hX hbl hbA dL_law_619 (by omega) hL ?_
  refine zx_dust (pc := 620) (st := []) o1 (sI_r _ _) o2 hm ⟨hR0.1, hR0.2, Nat.le_of_ble_eq_true rfl⟩ kM_L_73 dL_law_620 (fun gt2 hu => ?_)
  have e := q_dust ag o1 hm fd (sI xs (i + 1))
  rw [e]
  refine z_aload_n (pc := 623) dL_law_623 2 rfl ?_
  refine z_aload_n (pc := 624) dL_law_624 0 rfl ?_
  refine z_iload_n (pc := 625) dL_law_625 3 rfl ?_
  refine z_iconst (pc := 626) dL_law_626 ?_
  refine z_iadd (pc := 627) dL_law_627 ?_
  refine z_sld (pc := 628) hX hbl hbA dL_law_628 (by omega) hL ?_
  refine z_swap ?_
  refine zm_dust (pc := 629) (st := [.int ((opDust mg fd (sI xs (i + 1))).1)]) o4 (sI_r _ _) hmm ⟨hR0.1, hR0.2, Nat.le_of_ble_eq_true rfl⟩ kM_L_76 dL_law_629 (fun ft2m hv => ?_)
  refine z_swap ?_
  refine z_same (pc := 632) (tgt := 1291) dL_law_632 (by decide) ?_
  exact K g gt2 gk ik tc tn to ts te tu bi si sv ((opDust mg fd (sI xs (i + 1))).2) mg mi ft2m fb ff fl so be tE va wd gd ⟨o1, hu, o3, o4, o5, ag, hm, hmk, hik, hak, hT, hB⟩
set_option maxHeartbeats 4000000 in
set_option maxRecDepth 100000 in
theorem lc_15 {g gv gk : Gd} {ik : Int} {tc : FF} {tn to ts te tu : Int} {bi si : FF} {sv : Int → LL} {fd : FF} {mg mi : Gd} {ft fb ff : Nat → Int32} {fl : Nat → Int64} {so be tE va : Int} {wd : Int64} {gd : Int32} (lf : LF R s A b L xs fs q) (hi : 0 ≤ i ∧ i + 6 ≤ (L : Int)) (iv : Inv g gv gk ik tc tn bi si mg mi) (K : ∀ (g gv gk : Gd) (ik : Int) (tc : FF) (tn to ts te tu : Int) (bi si : FF) (sv : Int → LL) (fd : FF) (mg mi : Gd) (ft fb ff : Nat → Int32) (fl : Nat → Int64) (so be tE va : Int) (wd : Int64) (gd : Int32), Inv g gv gk ik tc tn bi si mg mi → Z p l e R s m args below meth c cells slots Q cL_law RL 4 rt D cI cJ cB cS xa A (WX cI cJ cB cS q fs g gv gk ik tc tn to ts te tu bi si sv fd ++ WM cI cJ q mg mi fd ft fb ff fl tc tn so be tE va wd gd bi si sv ik) [(0, .ref b), (1, .ref (q 0)), (2, .ref (q 28)), (3, .int (iI i))] 1291 []) : Z p l e R s m args below meth c cells slots Q cL_law RL 4 rt D cI cJ cB cS xa A (WX cI cJ cB cS q fs g gv gk ik tc tn to ts te tu bi si sv fd ++ WM cI cJ q mg mi fd ft fb ff fl tc tn so be tE va wd gd bi si sv ik) [(0, .ref b), (1, .ref (q 0)), (2, .ref (q 28)), (3, .int (iI i))] 637 [] := by
  obtain ⟨hX, hbl, hbA, hL, hR0, f0, f1, f2, f3⟩ := lf
  obtain ⟨o1, o2, o3, o4, o5, ag, hm, hmk, hik, hak, hT, hB⟩ := id iv
  have hmm : mg 4 0 ≤ 99999 := by rw [← ag.1 0]; exact hm
  refine z_aload_n (pc := 637) dL_law_637 1 rfl ?_
  refine z_aload_n (pc := 638) dL_law_638 0 rfl ?_
  refine z_iload_n (pc := 639) dL_law_639 3 rfl ?_
  refine z_iconst (pc := 640) dL_law_640 ?_
  refine z_iadd (pc := 641) dL_law_641 ?_
  refine z_sld (pc := 642) hX hbl hbA dL_law_642 (by omega) hL ?_
  refine z_aload_n (pc := 643) dL_law_643 0 rfl ?_
  refine z_iload_n (pc := 644) dL_law_644 3 rfl ?_
  refine z_iconst (pc := 645) dL_law_645 ?_
  refine z_iadd (pc := 646) dL_law_646 ?_
  refine z_sld (pc := 647) hX hbl hbA dL_law_647 (by omega) hL ?_
  refine zx_place (pc := 648) (st := []) o1 (sI_r _ _) (sI_r _ _) o2 hm ⟨hR0.1, hR0.2, Nat.le_of_ble_eq_true rfl⟩ kM_L_77 dL_law_648 (fun gt2 hu => ?_)
  have e := q_place ag o1 hm fd (sI xs (i + 1)) (sI xs (i + 2))
  rw [e]
  refine z_aload_n (pc := 651) dL_law_651 2 rfl ?_
  refine z_aload_n (pc := 652) dL_law_652 0 rfl ?_
  refine z_iload_n (pc := 653) dL_law_653 3 rfl ?_
  refine z_iconst (pc := 654) dL_law_654 ?_
  refine z_iadd (pc := 655) dL_law_655 ?_
  refine z_sld (pc := 656) hX hbl hbA dL_law_656 (by omega) hL ?_
  refine z_aload_n (pc := 657) dL_law_657 0 rfl ?_
  refine z_iload_n (pc := 658) dL_law_658 3 rfl ?_
  refine z_iconst (pc := 659) dL_law_659 ?_
  refine z_iadd (pc := 660) dL_law_660 ?_
  refine z_sld (pc := 661) hX hbl hbA dL_law_661 (by omega) hL ?_
  refine z_swap ?_
  refine zm_place (pc := 662) (st := [.int ((opPlace mg fd (sI xs (i + 1)) (sI xs (i + 2))).1)]) o4 (sI_r _ _) (sI_r _ _) hmm ⟨hR0.1, hR0.2, Nat.le_of_ble_eq_true rfl⟩ kM_L_80 dL_law_662 (fun ft2m hv => ?_)
  refine z_swap ?_
  refine z_same (pc := 665) (tgt := 1291) dL_law_665 (by decide) ?_
  exact K g gt2 gk ik tc tn to ts te tu bi si sv ((opPlace mg fd (sI xs (i + 1)) (sI xs (i + 2))).2) mg mi ft2m fb ff fl so be tE va wd gd ⟨o1, hu, o3, o4, o5, ag, hm, hmk, hik, hak, hT, hB⟩
set_option maxHeartbeats 4000000 in
set_option maxRecDepth 100000 in
theorem lc_16 {g gv gk : Gd} {ik : Int} {tc : FF} {tn to ts te tu : Int} {bi si : FF} {sv : Int → LL} {fd : FF} {mg mi : Gd} {ft fb ff : Nat → Int32} {fl : Nat → Int64} {so be tE va : Int} {wd : Int64} {gd : Int32} (lf : LF R s A b L xs fs q) (hi : 0 ≤ i ∧ i + 6 ≤ (L : Int)) (iv : Inv g gv gk ik tc tn bi si mg mi) (K : ∀ (g gv gk : Gd) (ik : Int) (tc : FF) (tn to ts te tu : Int) (bi si : FF) (sv : Int → LL) (fd : FF) (mg mi : Gd) (ft fb ff : Nat → Int32) (fl : Nat → Int64) (so be tE va : Int) (wd : Int64) (gd : Int32), Inv g gv gk ik tc tn bi si mg mi → Z p l e R s m args below meth c cells slots Q cL_law RL 4 rt D cI cJ cB cS xa A (WX cI cJ cB cS q fs g gv gk ik tc tn to ts te tu bi si sv fd ++ WM cI cJ q mg mi fd ft fb ff fl tc tn so be tE va wd gd bi si sv ik) [(0, .ref b), (1, .ref (q 0)), (2, .ref (q 28)), (3, .int (iI i))] 1291 []) : Z p l e R s m args below meth c cells slots Q cL_law RL 4 rt D cI cJ cB cS xa A (WX cI cJ cB cS q fs g gv gk ik tc tn to ts te tu bi si sv fd ++ WM cI cJ q mg mi fd ft fb ff fl tc tn so be tE va wd gd bi si sv ik) [(0, .ref b), (1, .ref (q 0)), (2, .ref (q 28)), (3, .int (iI i))] 670 [] := by
  obtain ⟨hX, hbl, hbA, hL, hR0, f0, f1, f2, f3⟩ := lf
  obtain ⟨o1, o2, o3, o4, o5, ag, hm, hmk, hik, hak, hT, hB⟩ := id iv
  have hmm : mg 4 0 ≤ 99999 := by rw [← ag.1 0]; exact hm
  refine z_aload_n (pc := 670) dL_law_670 1 rfl ?_
  refine z_aload_n (pc := 671) dL_law_671 0 rfl ?_
  refine z_iload_n (pc := 672) dL_law_672 3 rfl ?_
  refine z_iconst (pc := 673) dL_law_673 ?_
  refine z_iadd (pc := 674) dL_law_674 ?_
  refine z_sld (pc := 675) hX hbl hbA dL_law_675 (by omega) hL ?_
  refine z_aload_n (pc := 676) dL_law_676 0 rfl ?_
  refine z_iload_n (pc := 677) dL_law_677 3 rfl ?_
  refine z_iconst (pc := 678) dL_law_678 ?_
  refine z_iadd (pc := 679) dL_law_679 ?_
  refine z_sld (pc := 680) hX hbl hbA dL_law_680 (by omega) hL ?_
  refine zx_kind (pc := 681) (st := []) o1 (sI_r _ _) (sI_r _ _) o2 hm ⟨hR0.1, hR0.2, Nat.le_of_ble_eq_true rfl⟩ kM_L_81 dL_law_681 (fun gt2 hu => ?_)
  have e := q_kind ag o1 hm fd (sI xs (i + 1)) (sI xs (i + 2))
  rw [e]
  refine z_aload_n (pc := 684) dL_law_684 2 rfl ?_
  refine z_aload_n (pc := 685) dL_law_685 0 rfl ?_
  refine z_iload_n (pc := 686) dL_law_686 3 rfl ?_
  refine z_iconst (pc := 687) dL_law_687 ?_
  refine z_iadd (pc := 688) dL_law_688 ?_
  refine z_sld (pc := 689) hX hbl hbA dL_law_689 (by omega) hL ?_
  refine z_aload_n (pc := 690) dL_law_690 0 rfl ?_
  refine z_iload_n (pc := 691) dL_law_691 3 rfl ?_
  refine z_iconst (pc := 692) dL_law_692 ?_
  refine z_iadd (pc := 693) dL_law_693 ?_
  refine z_sld (pc := 694) hX hbl hbA dL_law_694 (by omega) hL ?_
  refine z_swap ?_
  refine zm_kind (pc := 695) (st := [.int ((opKind mg fd (sI xs (i + 1)) (sI xs (i + 2))).1)]) o4 (sI_r _ _) (sI_r _ _) hmm ⟨hR0.1, hR0.2, Nat.le_of_ble_eq_true rfl⟩ kM_L_84 dL_law_695 (fun ft2m hv => ?_)
  refine z_swap ?_
  refine z_same (pc := 698) (tgt := 1291) dL_law_698 (by decide) ?_
  exact K g gt2 gk ik tc tn to ts te tu bi si sv ((opKind mg fd (sI xs (i + 1)) (sI xs (i + 2))).2) mg mi ft2m fb ff fl so be tE va wd gd ⟨o1, hu, o3, o4, o5, ag, hm, hmk, hik, hak, hT, hB⟩
set_option maxHeartbeats 4000000 in
set_option maxRecDepth 100000 in
theorem lc_17 {g gv gk : Gd} {ik : Int} {tc : FF} {tn to ts te tu : Int} {bi si : FF} {sv : Int → LL} {fd : FF} {mg mi : Gd} {ft fb ff : Nat → Int32} {fl : Nat → Int64} {so be tE va : Int} {wd : Int64} {gd : Int32} (lf : LF R s A b L xs fs q) (hi : 0 ≤ i ∧ i + 6 ≤ (L : Int)) (iv : Inv g gv gk ik tc tn bi si mg mi) (K : ∀ (g gv gk : Gd) (ik : Int) (tc : FF) (tn to ts te tu : Int) (bi si : FF) (sv : Int → LL) (fd : FF) (mg mi : Gd) (ft fb ff : Nat → Int32) (fl : Nat → Int64) (so be tE va : Int) (wd : Int64) (gd : Int32), Inv g gv gk ik tc tn bi si mg mi → Z p l e R s m args below meth c cells slots Q cL_law RL 4 rt D cI cJ cB cS xa A (WX cI cJ cB cS q fs g gv gk ik tc tn to ts te tu bi si sv fd ++ WM cI cJ q mg mi fd ft fb ff fl tc tn so be tE va wd gd bi si sv ik) [(0, .ref b), (1, .ref (q 0)), (2, .ref (q 28)), (3, .int (iI i))] 1291 []) : Z p l e R s m args below meth c cells slots Q cL_law RL 4 rt D cI cJ cB cS xa A (WX cI cJ cB cS q fs g gv gk ik tc tn to ts te tu bi si sv fd ++ WM cI cJ q mg mi fd ft fb ff fl tc tn so be tE va wd gd bi si sv ik) [(0, .ref b), (1, .ref (q 0)), (2, .ref (q 28)), (3, .int (iI i))] 703 [] := by
  obtain ⟨hX, hbl, hbA, hL, hR0, f0, f1, f2, f3⟩ := lf
  obtain ⟨o1, o2, o3, o4, o5, ag, hm, hmk, hik, hak, hT, hB⟩ := id iv
  have hmm : mg 4 0 ≤ 99999 := by rw [← ag.1 0]; exact hm
  refine z_aload_n (pc := 703) dL_law_703 1 rfl ?_
  refine z_aload_n (pc := 704) dL_law_704 0 rfl ?_
  refine z_iload_n (pc := 705) dL_law_705 3 rfl ?_
  refine z_iconst (pc := 706) dL_law_706 ?_
  refine z_iadd (pc := 707) dL_law_707 ?_
  refine z_sld (pc := 708) hX hbl hbA dL_law_708 (by omega) hL ?_
  refine z_aload_n (pc := 709) dL_law_709 0 rfl ?_
  refine z_iload_n (pc := 710) dL_law_710 3 rfl ?_
  refine z_iconst (pc := 711) dL_law_711 ?_
  refine z_iadd (pc := 712) dL_law_712 ?_
  refine z_sld (pc := 713) hX hbl hbA dL_law_713 (by omega) hL ?_
  refine z_aload_n (pc := 714) dL_law_714 0 rfl ?_
  refine z_iload_n (pc := 715) dL_law_715 3 rfl ?_
  refine z_iconst (pc := 716) dL_law_716 ?_
  refine z_iadd (pc := 717) dL_law_717 ?_
  refine z_sld (pc := 718) hX hbl hbA dL_law_718 (by omega) hL ?_
  refine zx_marbles (pc := 719) (st := []) o1 (sI_r _ _) (sI_r _ _) (sI_r _ _) o2 hm ⟨hR0.1, hR0.2, Nat.le_of_ble_eq_true rfl⟩ kM_L_85 dL_law_719 (fun gt2 hu => ?_)
  have e := q_marbles ag o1 hm fd (sI xs (i + 1)) (sI xs (i + 2)) (sI xs (i + 3))
  rw [e]
  refine z_aload_n (pc := 722) dL_law_722 2 rfl ?_
  refine z_aload_n (pc := 723) dL_law_723 0 rfl ?_
  refine z_iload_n (pc := 724) dL_law_724 3 rfl ?_
  refine z_iconst (pc := 725) dL_law_725 ?_
  refine z_iadd (pc := 726) dL_law_726 ?_
  refine z_sld (pc := 727) hX hbl hbA dL_law_727 (by omega) hL ?_
  refine z_aload_n (pc := 728) dL_law_728 0 rfl ?_
  refine z_iload_n (pc := 729) dL_law_729 3 rfl ?_
  refine z_iconst (pc := 730) dL_law_730 ?_
  refine z_iadd (pc := 731) dL_law_731 ?_
  refine z_sld (pc := 732) hX hbl hbA dL_law_732 (by omega) hL ?_
  refine z_aload_n (pc := 733) dL_law_733 0 rfl ?_
  refine z_iload_n (pc := 734) dL_law_734 3 rfl ?_
  refine z_iconst (pc := 735) dL_law_735 ?_
  refine z_iadd (pc := 736) dL_law_736 ?_
  refine z_sld (pc := 737) hX hbl hbA dL_law_737 (by omega) hL ?_
  refine z_swap ?_
  refine zm_marbles (pc := 738) (st := [.int ((opMarbles mg fd (sI xs (i + 1)) (sI xs (i + 2)) (sI xs (i + 3))).1)]) o4 (sI_r _ _) (sI_r _ _) (sI_r _ _) hmm ⟨hR0.1, hR0.2, Nat.le_of_ble_eq_true rfl⟩ kM_L_88 dL_law_738 (fun ft2m hv => ?_)
  refine z_swap ?_
  refine z_same (pc := 741) (tgt := 1291) dL_law_741 (by decide) ?_
  exact K g gt2 gk ik tc tn to ts te tu bi si sv ((opMarbles mg fd (sI xs (i + 1)) (sI xs (i + 2)) (sI xs (i + 3))).2) mg mi ft2m fb ff fl so be tE va wd gd ⟨o1, hu, o3, o4, o5, ag, hm, hmk, hik, hak, hT, hB⟩
set_option maxHeartbeats 4000000 in
set_option maxRecDepth 100000 in
theorem lc_18 {g gv gk : Gd} {ik : Int} {tc : FF} {tn to ts te tu : Int} {bi si : FF} {sv : Int → LL} {fd : FF} {mg mi : Gd} {ft fb ff : Nat → Int32} {fl : Nat → Int64} {so be tE va : Int} {wd : Int64} {gd : Int32} (lf : LF R s A b L xs fs q) (hi : 0 ≤ i ∧ i + 6 ≤ (L : Int)) (iv : Inv g gv gk ik tc tn bi si mg mi) (K : ∀ (g gv gk : Gd) (ik : Int) (tc : FF) (tn to ts te tu : Int) (bi si : FF) (sv : Int → LL) (fd : FF) (mg mi : Gd) (ft fb ff : Nat → Int32) (fl : Nat → Int64) (so be tE va : Int) (wd : Int64) (gd : Int32), Inv g gv gk ik tc tn bi si mg mi → Z p l e R s m args below meth c cells slots Q cL_law RL 4 rt D cI cJ cB cS xa A (WX cI cJ cB cS q fs g gv gk ik tc tn to ts te tu bi si sv fd ++ WM cI cJ q mg mi fd ft fb ff fl tc tn so be tE va wd gd bi si sv ik) [(0, .ref b), (1, .ref (q 0)), (2, .ref (q 28)), (3, .int (iI i))] 1291 []) : Z p l e R s m args below meth c cells slots Q cL_law RL 4 rt D cI cJ cB cS xa A (WX cI cJ cB cS q fs g gv gk ik tc tn to ts te tu bi si sv fd ++ WM cI cJ q mg mi fd ft fb ff fl tc tn so be tE va wd gd bi si sv ik) [(0, .ref b), (1, .ref (q 0)), (2, .ref (q 28)), (3, .int (iI i))] 746 [] := by
  obtain ⟨hX, hbl, hbA, hL, hR0, f0, f1, f2, f3⟩ := lf
  obtain ⟨o1, o2, o3, o4, o5, ag, hm, hmk, hik, hak, hT, hB⟩ := id iv
  have hmm : mg 4 0 ≤ 99999 := by rw [← ag.1 0]; exact hm
  refine z_aload_n (pc := 746) dL_law_746 1 rfl ?_
  refine z_aload_n (pc := 747) dL_law_747 0 rfl ?_
  refine z_iload_n (pc := 748) dL_law_748 3 rfl ?_
  refine z_iconst (pc := 749) dL_law_749 ?_
  refine z_iadd (pc := 750) dL_law_750 ?_
  refine z_sld (pc := 751) hX hbl hbA dL_law_751 (by omega) hL ?_
  refine zx_night (pc := 752) (st := []) o1 (sI_r _ _) o2 hm ⟨hR0.1, hR0.2, Nat.le_of_ble_eq_true rfl⟩ kM_L_89 dL_law_752 (fun gt2 hu => ?_)
  have e := q_night ag o1 hm fd (sI xs (i + 1))
  rw [e]
  refine z_aload_n (pc := 755) dL_law_755 2 rfl ?_
  refine z_aload_n (pc := 756) dL_law_756 0 rfl ?_
  refine z_iload_n (pc := 757) dL_law_757 3 rfl ?_
  refine z_iconst (pc := 758) dL_law_758 ?_
  refine z_iadd (pc := 759) dL_law_759 ?_
  refine z_sld (pc := 760) hX hbl hbA dL_law_760 (by omega) hL ?_
  refine z_swap ?_
  refine zm_night (pc := 761) (st := [.int ((opNight mg fd (sI xs (i + 1))).1)]) o4 (sI_r _ _) hmm ⟨hR0.1, hR0.2, Nat.le_of_ble_eq_true rfl⟩ kM_L_92 dL_law_761 (fun ft2m hv => ?_)
  refine z_swap ?_
  refine z_same (pc := 764) (tgt := 1291) dL_law_764 (by decide) ?_
  exact K g gt2 gk ik tc tn to ts te tu bi si sv ((opNight mg fd (sI xs (i + 1))).2) mg mi ft2m fb ff fl so be tE va wd gd ⟨o1, hu, o3, o4, o5, ag, hm, hmk, hik, hak, hT, hB⟩
set_option maxHeartbeats 4000000 in
set_option maxRecDepth 100000 in
theorem lc_19 {g gv gk : Gd} {ik : Int} {tc : FF} {tn to ts te tu : Int} {bi si : FF} {sv : Int → LL} {fd : FF} {mg mi : Gd} {ft fb ff : Nat → Int32} {fl : Nat → Int64} {so be tE va : Int} {wd : Int64} {gd : Int32} (lf : LF R s A b L xs fs q) (hi : 0 ≤ i ∧ i + 6 ≤ (L : Int)) (iv : Inv g gv gk ik tc tn bi si mg mi) (K : ∀ (g gv gk : Gd) (ik : Int) (tc : FF) (tn to ts te tu : Int) (bi si : FF) (sv : Int → LL) (fd : FF) (mg mi : Gd) (ft fb ff : Nat → Int32) (fl : Nat → Int64) (so be tE va : Int) (wd : Int64) (gd : Int32), Inv g gv gk ik tc tn bi si mg mi → Z p l e R s m args below meth c cells slots Q cL_law RL 4 rt D cI cJ cB cS xa A (WX cI cJ cB cS q fs g gv gk ik tc tn to ts te tu bi si sv fd ++ WM cI cJ q mg mi fd ft fb ff fl tc tn so be tE va wd gd bi si sv ik) [(0, .ref b), (1, .ref (q 0)), (2, .ref (q 28)), (3, .int (iI i))] 1291 []) : Z p l e R s m args below meth c cells slots Q cL_law RL 4 rt D cI cJ cB cS xa A (WX cI cJ cB cS q fs g gv gk ik tc tn to ts te tu bi si sv fd ++ WM cI cJ q mg mi fd ft fb ff fl tc tn so be tE va wd gd bi si sv ik) [(0, .ref b), (1, .ref (q 0)), (2, .ref (q 28)), (3, .int (iI i))] 769 [] := by
  obtain ⟨hX, hbl, hbA, hL, hR0, f0, f1, f2, f3⟩ := lf
  obtain ⟨o1, o2, o3, o4, o5, ag, hm, hmk, hik, hak, hT, hB⟩ := id iv
  have hmm : mg 4 0 ≤ 99999 := by rw [← ag.1 0]; exact hm
  refine z_aload_n (pc := 769) dL_law_769 1 rfl ?_
  refine z_aload_n (pc := 770) dL_law_770 0 rfl ?_
  refine z_iload_n (pc := 771) dL_law_771 3 rfl ?_
  refine z_iconst (pc := 772) dL_law_772 ?_
  refine z_iadd (pc := 773) dL_law_773 ?_
  refine z_sld (pc := 774) hX hbl hbA dL_law_774 (by omega) hL ?_
  refine z_aload_n (pc := 775) dL_law_775 0 rfl ?_
  refine z_iload_n (pc := 776) dL_law_776 3 rfl ?_
  refine z_iconst (pc := 777) dL_law_777 ?_
  refine z_iadd (pc := 778) dL_law_778 ?_
  refine z_sld (pc := 779) hX hbl hbA dL_law_779 (by omega) hL ?_
  refine z_aload_n (pc := 780) dL_law_780 0 rfl ?_
  refine z_iload_n (pc := 781) dL_law_781 3 rfl ?_
  refine z_iconst (pc := 782) dL_law_782 ?_
  refine z_iadd (pc := 783) dL_law_783 ?_
  refine z_sld (pc := 784) hX hbl hbA dL_law_784 (by omega) hL ?_
  refine zx_enough (pc := 785) (st := []) o1 (sI_r _ _) (sI_r _ _) (sI_r _ _) o2 hm ⟨hR0.1, hR0.2, Nat.le_of_ble_eq_true rfl⟩ kM_L_93 dL_law_785 (fun gt2 hu => ?_)
  have e := q_enough ag o1 hm fd (sI xs (i + 1)) (sI xs (i + 2)) (sI xs (i + 3))
  rw [e]
  refine z_aload_n (pc := 788) dL_law_788 2 rfl ?_
  refine z_aload_n (pc := 789) dL_law_789 0 rfl ?_
  refine z_iload_n (pc := 790) dL_law_790 3 rfl ?_
  refine z_iconst (pc := 791) dL_law_791 ?_
  refine z_iadd (pc := 792) dL_law_792 ?_
  refine z_sld (pc := 793) hX hbl hbA dL_law_793 (by omega) hL ?_
  refine z_aload_n (pc := 794) dL_law_794 0 rfl ?_
  refine z_iload_n (pc := 795) dL_law_795 3 rfl ?_
  refine z_iconst (pc := 796) dL_law_796 ?_
  refine z_iadd (pc := 797) dL_law_797 ?_
  refine z_sld (pc := 798) hX hbl hbA dL_law_798 (by omega) hL ?_
  refine z_aload_n (pc := 799) dL_law_799 0 rfl ?_
  refine z_iload_n (pc := 800) dL_law_800 3 rfl ?_
  refine z_iconst (pc := 801) dL_law_801 ?_
  refine z_iadd (pc := 802) dL_law_802 ?_
  refine z_sld (pc := 803) hX hbl hbA dL_law_803 (by omega) hL ?_
  refine z_swap ?_
  refine zm_enough (pc := 804) (st := [.int ((opEnough mg fd (sI xs (i + 1)) (sI xs (i + 2)) (sI xs (i + 3))).1)]) o4 (sI_r _ _) (sI_r _ _) (sI_r _ _) hmm ⟨hR0.1, hR0.2, Nat.le_of_ble_eq_true rfl⟩ kM_L_96 dL_law_804 (fun ft2m hv => ?_)
  refine z_swap ?_
  refine z_same (pc := 807) (tgt := 1291) dL_law_807 (by decide) ?_
  exact K g gt2 gk ik tc tn to ts te tu bi si sv ((opEnough mg fd (sI xs (i + 1)) (sI xs (i + 2)) (sI xs (i + 3))).2) mg mi ft2m fb ff fl so be tE va wd gd ⟨o1, hu, o3, o4, o5, ag, hm, hmk, hik, hak, hT, hB⟩
set_option maxHeartbeats 4000000 in
set_option maxRecDepth 100000 in
theorem lc_20 {g gv gk : Gd} {ik : Int} {tc : FF} {tn to ts te tu : Int} {bi si : FF} {sv : Int → LL} {fd : FF} {mg mi : Gd} {ft fb ff : Nat → Int32} {fl : Nat → Int64} {so be tE va : Int} {wd : Int64} {gd : Int32} (lf : LF R s A b L xs fs q) (hi : 0 ≤ i ∧ i + 6 ≤ (L : Int)) (iv : Inv g gv gk ik tc tn bi si mg mi) (K : ∀ (g gv gk : Gd) (ik : Int) (tc : FF) (tn to ts te tu : Int) (bi si : FF) (sv : Int → LL) (fd : FF) (mg mi : Gd) (ft fb ff : Nat → Int32) (fl : Nat → Int64) (so be tE va : Int) (wd : Int64) (gd : Int32), Inv g gv gk ik tc tn bi si mg mi → Z p l e R s m args below meth c cells slots Q cL_law RL 4 rt D cI cJ cB cS xa A (WX cI cJ cB cS q fs g gv gk ik tc tn to ts te tu bi si sv fd ++ WM cI cJ q mg mi fd ft fb ff fl tc tn so be tE va wd gd bi si sv ik) [(0, .ref b), (1, .ref (q 0)), (2, .ref (q 28)), (3, .int (iI i))] 1291 []) : Z p l e R s m args below meth c cells slots Q cL_law RL 4 rt D cI cJ cB cS xa A (WX cI cJ cB cS q fs g gv gk ik tc tn to ts te tu bi si sv fd ++ WM cI cJ q mg mi fd ft fb ff fl tc tn so be tE va wd gd bi si sv ik) [(0, .ref b), (1, .ref (q 0)), (2, .ref (q 28)), (3, .int (iI i))] 812 [] := by
  obtain ⟨hX, hbl, hbA, hL, hR0, f0, f1, f2, f3⟩ := lf
  obtain ⟨o1, o2, o3, o4, o5, ag, hm, hmk, hik, hak, hT, hB⟩ := id iv
  have hmm : mg 4 0 ≤ 99999 := by rw [← ag.1 0]; exact hm
  refine z_aload_n (pc := 812) dL_law_812 1 rfl ?_
  refine z_aload_n (pc := 813) dL_law_813 0 rfl ?_
  refine z_iload_n (pc := 814) dL_law_814 3 rfl ?_
  refine z_iconst (pc := 815) dL_law_815 ?_
  refine z_iadd (pc := 816) dL_law_816 ?_
  refine z_sld (pc := 817) hX hbl hbA dL_law_817 (by omega) hL ?_
  refine z_aload_n (pc := 818) dL_law_818 0 rfl ?_
  refine z_iload_n (pc := 819) dL_law_819 3 rfl ?_
  refine z_iconst (pc := 820) dL_law_820 ?_
  refine z_iadd (pc := 821) dL_law_821 ?_
  refine z_sld (pc := 822) hX hbl hbA dL_law_822 (by omega) hL ?_
  refine zx_whom (pc := 823) (st := []) o1 (sI_r _ _) (sI_r _ _) o2 hm ⟨hR0.1, hR0.2, Nat.le_of_ble_eq_true rfl⟩ kM_L_97 dL_law_823 (fun gt2 hu => ?_)
  have e := q_whom ag o1 hm fd (sI xs (i + 1)) (sI xs (i + 2))
  rw [e]
  refine z_aload_n (pc := 826) dL_law_826 2 rfl ?_
  refine z_aload_n (pc := 827) dL_law_827 0 rfl ?_
  refine z_iload_n (pc := 828) dL_law_828 3 rfl ?_
  refine z_iconst (pc := 829) dL_law_829 ?_
  refine z_iadd (pc := 830) dL_law_830 ?_
  refine z_sld (pc := 831) hX hbl hbA dL_law_831 (by omega) hL ?_
  refine z_aload_n (pc := 832) dL_law_832 0 rfl ?_
  refine z_iload_n (pc := 833) dL_law_833 3 rfl ?_
  refine z_iconst (pc := 834) dL_law_834 ?_
  refine z_iadd (pc := 835) dL_law_835 ?_
  refine z_sld (pc := 836) hX hbl hbA dL_law_836 (by omega) hL ?_
  refine z_swap ?_
  refine zm_whom (pc := 837) (st := [.int ((opWhom mg fd (sI xs (i + 1)) (sI xs (i + 2))).1)]) o4 (sI_r _ _) (sI_r _ _) hmm ⟨hR0.1, hR0.2, Nat.le_of_ble_eq_true rfl⟩ kM_L_100 dL_law_837 (fun ft2m hv => ?_)
  refine z_swap ?_
  refine z_same (pc := 840) (tgt := 1291) dL_law_840 (by decide) ?_
  exact K g gt2 gk ik tc tn to ts te tu bi si sv ((opWhom mg fd (sI xs (i + 1)) (sI xs (i + 2))).2) mg mi ft2m fb ff fl so be tE va wd gd ⟨o1, hu, o3, o4, o5, ag, hm, hmk, hik, hak, hT, hB⟩
set_option maxHeartbeats 4000000 in
set_option maxRecDepth 100000 in
theorem lc_21 {g gv gk : Gd} {ik : Int} {tc : FF} {tn to ts te tu : Int} {bi si : FF} {sv : Int → LL} {fd : FF} {mg mi : Gd} {ft fb ff : Nat → Int32} {fl : Nat → Int64} {so be tE va : Int} {wd : Int64} {gd : Int32} (lf : LF R s A b L xs fs q) (hi : 0 ≤ i ∧ i + 6 ≤ (L : Int)) (iv : Inv g gv gk ik tc tn bi si mg mi) (K : ∀ (g gv gk : Gd) (ik : Int) (tc : FF) (tn to ts te tu : Int) (bi si : FF) (sv : Int → LL) (fd : FF) (mg mi : Gd) (ft fb ff : Nat → Int32) (fl : Nat → Int64) (so be tE va : Int) (wd : Int64) (gd : Int32), Inv g gv gk ik tc tn bi si mg mi → Z p l e R s m args below meth c cells slots Q cL_law RL 4 rt D cI cJ cB cS xa A (WX cI cJ cB cS q fs g gv gk ik tc tn to ts te tu bi si sv fd ++ WM cI cJ q mg mi fd ft fb ff fl tc tn so be tE va wd gd bi si sv ik) [(0, .ref b), (1, .ref (q 0)), (2, .ref (q 28)), (3, .int (iI i))] 1291 []) : Z p l e R s m args below meth c cells slots Q cL_law RL 4 rt D cI cJ cB cS xa A (WX cI cJ cB cS q fs g gv gk ik tc tn to ts te tu bi si sv fd ++ WM cI cJ q mg mi fd ft fb ff fl tc tn so be tE va wd gd bi si sv ik) [(0, .ref b), (1, .ref (q 0)), (2, .ref (q 28)), (3, .int (iI i))] 845 [] := by
  obtain ⟨hX, hbl, hbA, hL, hR0, f0, f1, f2, f3⟩ := lf
  obtain ⟨o1, o2, o3, o4, o5, ag, hm, hmk, hik, hak, hT, hB⟩ := id iv
  have hmm : mg 4 0 ≤ 99999 := by rw [← ag.1 0]; exact hm
  refine z_aload_n (pc := 845) dL_law_845 1 rfl ?_
  refine z_aload_n (pc := 846) dL_law_846 0 rfl ?_
  refine z_iload_n (pc := 847) dL_law_847 3 rfl ?_
  refine z_iconst (pc := 848) dL_law_848 ?_
  refine z_iadd (pc := 849) dL_law_849 ?_
  refine z_sld (pc := 850) hX hbl hbA dL_law_850 (by omega) hL ?_
  refine zx_debtor (pc := 851) (st := []) o1 (sI_r _ _) o2 hm ⟨hR0.1, hR0.2, Nat.le_of_ble_eq_true rfl⟩ kM_L_101 dL_law_851 (fun gt2 hu => ?_)
  have e := q_debtor ag o1 hm fd (sI xs (i + 1))
  rw [e]
  refine z_aload_n (pc := 854) dL_law_854 2 rfl ?_
  refine z_aload_n (pc := 855) dL_law_855 0 rfl ?_
  refine z_iload_n (pc := 856) dL_law_856 3 rfl ?_
  refine z_iconst (pc := 857) dL_law_857 ?_
  refine z_iadd (pc := 858) dL_law_858 ?_
  refine z_sld (pc := 859) hX hbl hbA dL_law_859 (by omega) hL ?_
  refine z_swap ?_
  refine zm_debtor (pc := 860) (st := [.int ((opDebtor mg fd (sI xs (i + 1))).1)]) o4 (sI_r _ _) hmm ⟨hR0.1, hR0.2, Nat.le_of_ble_eq_true rfl⟩ kM_L_104 dL_law_860 (fun ft2m hv => ?_)
  refine z_swap ?_
  refine z_same (pc := 863) (tgt := 1291) dL_law_863 (by decide) ?_
  exact K g gt2 gk ik tc tn to ts te tu bi si sv ((opDebtor mg fd (sI xs (i + 1))).2) mg mi ft2m fb ff fl so be tE va wd gd ⟨o1, hu, o3, o4, o5, ag, hm, hmk, hik, hak, hT, hB⟩
set_option maxHeartbeats 4000000 in
set_option maxRecDepth 100000 in
theorem lc_22 {g gv gk : Gd} {ik : Int} {tc : FF} {tn to ts te tu : Int} {bi si : FF} {sv : Int → LL} {fd : FF} {mg mi : Gd} {ft fb ff : Nat → Int32} {fl : Nat → Int64} {so be tE va : Int} {wd : Int64} {gd : Int32} (lf : LF R s A b L xs fs q) (hi : 0 ≤ i ∧ i + 6 ≤ (L : Int)) (iv : Inv g gv gk ik tc tn bi si mg mi) (K : ∀ (g gv gk : Gd) (ik : Int) (tc : FF) (tn to ts te tu : Int) (bi si : FF) (sv : Int → LL) (fd : FF) (mg mi : Gd) (ft fb ff : Nat → Int32) (fl : Nat → Int64) (so be tE va : Int) (wd : Int64) (gd : Int32), Inv g gv gk ik tc tn bi si mg mi → Z p l e R s m args below meth c cells slots Q cL_law RL 4 rt D cI cJ cB cS xa A (WX cI cJ cB cS q fs g gv gk ik tc tn to ts te tu bi si sv fd ++ WM cI cJ q mg mi fd ft fb ff fl tc tn so be tE va wd gd bi si sv ik) [(0, .ref b), (1, .ref (q 0)), (2, .ref (q 28)), (3, .int (iI i))] 1291 []) : Z p l e R s m args below meth c cells slots Q cL_law RL 4 rt D cI cJ cB cS xa A (WX cI cJ cB cS q fs g gv gk ik tc tn to ts te tu bi si sv fd ++ WM cI cJ q mg mi fd ft fb ff fl tc tn so be tE va wd gd bi si sv ik) [(0, .ref b), (1, .ref (q 0)), (2, .ref (q 28)), (3, .int (iI i))] 868 [] := by
  obtain ⟨hX, hbl, hbA, hL, hR0, f0, f1, f2, f3⟩ := lf
  obtain ⟨o1, o2, o3, o4, o5, ag, hm, hmk, hik, hak, hT, hB⟩ := id iv
  have hmm : mg 4 0 ≤ 99999 := by rw [← ag.1 0]; exact hm
  refine z_aload_n (pc := 868) dL_law_868 1 rfl ?_
  refine z_aload_n (pc := 869) dL_law_869 0 rfl ?_
  refine z_iload_n (pc := 870) dL_law_870 3 rfl ?_
  refine z_iconst (pc := 871) dL_law_871 ?_
  refine z_iadd (pc := 872) dL_law_872 ?_
  refine z_sld (pc := 873) hX hbl hbA dL_law_873 (by omega) hL ?_
  refine z_aload_n (pc := 874) dL_law_874 0 rfl ?_
  refine z_iload_n (pc := 875) dL_law_875 3 rfl ?_
  refine z_iconst (pc := 876) dL_law_876 ?_
  refine z_iadd (pc := 877) dL_law_877 ?_
  refine z_sld (pc := 878) hX hbl hbA dL_law_878 (by omega) hL ?_
  refine zx_feed (pc := 879) (st := []) (sI_r _ _) (sI_r _ _) hT.2 ⟨hR0.1, hR0.2, Nat.le_of_ble_eq_true rfl⟩ kM_L_105 dL_law_879 ?_
  refine z_aload_n (pc := 882) dL_law_882 2 rfl ?_
  refine z_aload_n (pc := 883) dL_law_883 0 rfl ?_
  refine z_iload_n (pc := 884) dL_law_884 3 rfl ?_
  refine z_iconst (pc := 885) dL_law_885 ?_
  refine z_iadd (pc := 886) dL_law_886 ?_
  refine z_sld (pc := 887) hX hbl hbA dL_law_887 (by omega) hL ?_
  refine z_aload_n (pc := 888) dL_law_888 0 rfl ?_
  refine z_iload_n (pc := 889) dL_law_889 3 rfl ?_
  refine z_iconst (pc := 890) dL_law_890 ?_
  refine z_iadd (pc := 891) dL_law_891 ?_
  refine z_sld (pc := 892) hX hbl hbA dL_law_892 (by omega) hL ?_
  refine z_swap ?_
  refine zm_feed (pc := 893) (st := [.int ((opFeed tc tn fd (sI xs (i + 1)) (sI xs (i + 2))).1)]) (sI_r _ _) (sI_r _ _) hT.2 ⟨hR0.1, hR0.2, Nat.le_of_ble_eq_true rfl⟩ kM_L_108 dL_law_893 ?_
  refine z_swap ?_
  refine z_same (pc := 896) (tgt := 1291) dL_law_896 (by decide) ?_
  exact K g gv gk ik ((opFeed tc tn fd (sI xs (i + 1)) (sI xs (i + 2))).2.1) ((opFeed tc tn fd (sI xs (i + 1)) (sI xs (i + 2))).2.2.1) to ts te tu bi si sv ((opFeed tc tn fd (sI xs (i + 1)) (sI xs (i + 2))).2.2.2) mg mi ft fb ff fl so be tE va wd gd ⟨o1, o2, o3, o4, o5, ag, hm, hmk, hik, hak, s_feed hT fd _ _, hB⟩
set_option maxHeartbeats 4000000 in
set_option maxRecDepth 100000 in
theorem lc_23 {g gv gk : Gd} {ik : Int} {tc : FF} {tn to ts te tu : Int} {bi si : FF} {sv : Int → LL} {fd : FF} {mg mi : Gd} {ft fb ff : Nat → Int32} {fl : Nat → Int64} {so be tE va : Int} {wd : Int64} {gd : Int32} (lf : LF R s A b L xs fs q) (hi : 0 ≤ i ∧ i + 6 ≤ (L : Int)) (iv : Inv g gv gk ik tc tn bi si mg mi) (K : ∀ (g gv gk : Gd) (ik : Int) (tc : FF) (tn to ts te tu : Int) (bi si : FF) (sv : Int → LL) (fd : FF) (mg mi : Gd) (ft fb ff : Nat → Int32) (fl : Nat → Int64) (so be tE va : Int) (wd : Int64) (gd : Int32), Inv g gv gk ik tc tn bi si mg mi → Z p l e R s m args below meth c cells slots Q cL_law RL 4 rt D cI cJ cB cS xa A (WX cI cJ cB cS q fs g gv gk ik tc tn to ts te tu bi si sv fd ++ WM cI cJ q mg mi fd ft fb ff fl tc tn so be tE va wd gd bi si sv ik) [(0, .ref b), (1, .ref (q 0)), (2, .ref (q 28)), (3, .int (iI i))] 1291 []) : Z p l e R s m args below meth c cells slots Q cL_law RL 4 rt D cI cJ cB cS xa A (WX cI cJ cB cS q fs g gv gk ik tc tn to ts te tu bi si sv fd ++ WM cI cJ q mg mi fd ft fb ff fl tc tn so be tE va wd gd bi si sv ik) [(0, .ref b), (1, .ref (q 0)), (2, .ref (q 28)), (3, .int (iI i))] 901 [] := by
  obtain ⟨hX, hbl, hbA, hL, hR0, f0, f1, f2, f3⟩ := lf
  obtain ⟨o1, o2, o3, o4, o5, ag, hm, hmk, hik, hak, hT, hB⟩ := id iv
  have hmm : mg 4 0 ≤ 99999 := by rw [← ag.1 0]; exact hm
  refine z_aload_n (pc := 901) dL_law_901 1 rfl ?_
  refine zx_wipe (pc := 902) (st := [])  ⟨hR0.1, hR0.2, Nat.le_of_ble_eq_true rfl⟩ kM_L_109 dL_law_902 ?_
  refine z_aload_n (pc := 905) dL_law_905 2 rfl ?_
  refine z_swap ?_
  refine zm_wipe (pc := 906) (st := [.int (iI tn)])  ⟨hR0.1, hR0.2, Nat.le_of_ble_eq_true rfl⟩ kM_L_112 dL_law_906 ?_
  refine z_swap ?_
  refine z_same (pc := 909) (tgt := 1291) dL_law_909 (by decide) ?_
  exact K g gv gk ik tc 0 to ts te tu bi si sv fd mg mi ft fb ff fl so be tE va wd gd ⟨o1, o2, o3, o4, o5, ag, hm, hmk, hik, hak, s_wipe hT, hB⟩
set_option maxHeartbeats 4000000 in
set_option maxRecDepth 100000 in
theorem lc_25 {g gv gk : Gd} {ik : Int} {tc : FF} {tn to ts te tu : Int} {bi si : FF} {sv : Int → LL} {fd : FF} {mg mi : Gd} {ft fb ff : Nat → Int32} {fl : Nat → Int64} {so be tE va : Int} {wd : Int64} {gd : Int32} (lf : LF R s A b L xs fs q) (hi : 0 ≤ i ∧ i + 6 ≤ (L : Int)) (iv : Inv g gv gk ik tc tn bi si mg mi) (K : ∀ (g gv gk : Gd) (ik : Int) (tc : FF) (tn to ts te tu : Int) (bi si : FF) (sv : Int → LL) (fd : FF) (mg mi : Gd) (ft fb ff : Nat → Int32) (fl : Nat → Int64) (so be tE va : Int) (wd : Int64) (gd : Int32), Inv g gv gk ik tc tn bi si mg mi → Z p l e R s m args below meth c cells slots Q cL_law RL 4 rt D cI cJ cB cS xa A (WX cI cJ cB cS q fs g gv gk ik tc tn to ts te tu bi si sv fd ++ WM cI cJ q mg mi fd ft fb ff fl tc tn so be tE va wd gd bi si sv ik) [(0, .ref b), (1, .ref (q 0)), (2, .ref (q 28)), (3, .int (iI i))] 1291 []) : Z p l e R s m args below meth c cells slots Q cL_law RL 4 rt D cI cJ cB cS xa A (WX cI cJ cB cS q fs g gv gk ik tc tn to ts te tu bi si sv fd ++ WM cI cJ q mg mi fd ft fb ff fl tc tn so be tE va wd gd bi si sv ik) [(0, .ref b), (1, .ref (q 0)), (2, .ref (q 28)), (3, .int (iI i))] 927 [] := by
  obtain ⟨hX, hbl, hbA, hL, hR0, f0, f1, f2, f3⟩ := lf
  obtain ⟨o1, o2, o3, o4, o5, ag, hm, hmk, hik, hak, hT, hB⟩ := id iv
  have hmm : mg 4 0 ≤ 99999 := by rw [← ag.1 0]; exact hm
  by_cases hs : 0 ≤ sI xs (i + 1) ∧ sI xs (i + 1) ≤ 3
  · skip
    refine z_aload_n (pc := 927) dL_law_927 1 rfl ?_
    refine z_aload_n (pc := 928) dL_law_928 0 rfl ?_
    refine z_iload_n (pc := 929) dL_law_929 3 rfl ?_
    refine z_iconst (pc := 930) dL_law_930 ?_
    refine z_iadd (pc := 931) dL_law_931 ?_
    refine z_sld (pc := 932) hX hbl hbA dL_law_932 (by omega) hL ?_
    refine z_aload_n (pc := 933) dL_law_933 0 rfl ?_
    refine z_iload_n (pc := 934) dL_law_934 3 rfl ?_
    refine z_iconst (pc := 935) dL_law_935 ?_
    refine z_iadd (pc := 936) dL_law_936 ?_
    refine z_sld (pc := 937) hX hbl hbA dL_law_937 (by omega) hL ?_
    refine z_aload_n (pc := 938) dL_law_938 0 rfl ?_
    refine z_iload_n (pc := 939) dL_law_939 3 rfl ?_
    refine z_iconst (pc := 940) dL_law_940 ?_
    refine z_iadd (pc := 941) dL_law_941 ?_
    refine z_sld (pc := 942) hX hbl hbA dL_law_942 (by omega) hL ?_
    refine zx_sheet (pc := 943) (st := []) hs (sI_r _ _) (sI_r _ _) f0 f1 f2 f3 ⟨hR0.1, hR0.2, Nat.le_of_ble_eq_true rfl⟩ kM_L_117 dL_law_943 ?_
    refine z_aload_n (pc := 946) dL_law_946 2 rfl ?_
    refine z_aload_n (pc := 947) dL_law_947 0 rfl ?_
    refine z_iload_n (pc := 948) dL_law_948 3 rfl ?_
    refine z_iconst (pc := 949) dL_law_949 ?_
    refine z_iadd (pc := 950) dL_law_950 ?_
    refine z_sld (pc := 951) hX hbl hbA dL_law_951 (by omega) hL ?_
    refine z_aload_n (pc := 952) dL_law_952 0 rfl ?_
    refine z_iload_n (pc := 953) dL_law_953 3 rfl ?_
    refine z_iconst (pc := 954) dL_law_954 ?_
    refine z_iadd (pc := 955) dL_law_955 ?_
    refine z_sld (pc := 956) hX hbl hbA dL_law_956 (by omega) hL ?_
    refine z_aload_n (pc := 957) dL_law_957 0 rfl ?_
    refine z_iload_n (pc := 958) dL_law_958 3 rfl ?_
    refine z_iconst (pc := 959) dL_law_959 ?_
    refine z_iadd (pc := 960) dL_law_960 ?_
    refine z_sld (pc := 961) hX hbl hbA dL_law_961 (by omega) hL ?_
    refine z_swap ?_
    refine zm_sheet (pc := 962) (st := [.int ((opSheet (bi (sI xs (i + 1))) (si (sI xs (i + 1))) (sv (sI xs (i + 1))) fd (sI xs (i + 2)) (sI xs (i + 3))).1)]) hs (sI_r _ _) (sI_r _ _) ⟨hR0.1, hR0.2, Nat.le_of_ble_eq_true rfl⟩ kM_L_120 dL_law_962 ?_
    refine z_swap ?_
    refine z_same (pc := 965) (tgt := 1291) dL_law_965 (by decide) ?_
    exact K g gv gk ik tc tn to ts te tu (up1 bi (sI xs (i + 1)) (opSheet (bi (sI xs (i + 1))) (si (sI xs (i + 1))) (sv (sI xs (i + 1))) fd (sI xs (i + 2)) (sI xs (i + 3))).2.1) (up1 si (sI xs (i + 1)) (opSheet (bi (sI xs (i + 1))) (si (sI xs (i + 1))) (sv (sI xs (i + 1))) fd (sI xs (i + 2)) (sI xs (i + 3))).2.2.1) (setS sv (sI xs (i + 1)) (opSheet (bi (sI xs (i + 1))) (si (sI xs (i + 1))) (sv (sI xs (i + 1))) fd (sI xs (i + 2)) (sI xs (i + 3))).2.2.2.1) ((opSheet (bi (sI xs (i + 1))) (si (sI xs (i + 1))) (sv (sI xs (i + 1))) fd (sI xs (i + 2)) (sI xs (i + 3))).2.2.2.2) mg mi ft fb ff fl so be tE va wd gd ⟨o1, o2, o3, o4, o5, ag, hm, hmk, hik, hak, hT, hB_sheet hB hs⟩
  · skip
    refine z_aload_n (pc := 927) dL_law_927 1 rfl ?_
    refine z_aload_n (pc := 928) dL_law_928 0 rfl ?_
    refine z_iload_n (pc := 929) dL_law_929 3 rfl ?_
    refine z_iconst (pc := 930) dL_law_930 ?_
    refine z_iadd (pc := 931) dL_law_931 ?_
    refine z_sld (pc := 932) hX hbl hbA dL_law_932 (by omega) hL ?_
    refine z_aload_n (pc := 933) dL_law_933 0 rfl ?_
    refine z_iload_n (pc := 934) dL_law_934 3 rfl ?_
    refine z_iconst (pc := 935) dL_law_935 ?_
    refine z_iadd (pc := 936) dL_law_936 ?_
    refine z_sld (pc := 937) hX hbl hbA dL_law_937 (by omega) hL ?_
    refine z_aload_n (pc := 938) dL_law_938 0 rfl ?_
    refine z_iload_n (pc := 939) dL_law_939 3 rfl ?_
    refine z_iconst (pc := 940) dL_law_940 ?_
    refine z_iadd (pc := 941) dL_law_941 ?_
    refine z_sld (pc := 942) hX hbl hbA dL_law_942 (by omega) hL ?_
    refine zx_sheet_o (pc := 943) (st := []) hs (sI_r _ _) (sI_r _ _) (sI_r _ _) ⟨hR0.1, hR0.2, Nat.le_of_ble_eq_true rfl⟩ kM_L_117 dL_law_943 ?_
    refine z_aload_n (pc := 946) dL_law_946 2 rfl ?_
    refine z_aload_n (pc := 947) dL_law_947 0 rfl ?_
    refine z_iload_n (pc := 948) dL_law_948 3 rfl ?_
    refine z_iconst (pc := 949) dL_law_949 ?_
    refine z_iadd (pc := 950) dL_law_950 ?_
    refine z_sld (pc := 951) hX hbl hbA dL_law_951 (by omega) hL ?_
    refine z_aload_n (pc := 952) dL_law_952 0 rfl ?_
    refine z_iload_n (pc := 953) dL_law_953 3 rfl ?_
    refine z_iconst (pc := 954) dL_law_954 ?_
    refine z_iadd (pc := 955) dL_law_955 ?_
    refine z_sld (pc := 956) hX hbl hbA dL_law_956 (by omega) hL ?_
    refine z_aload_n (pc := 957) dL_law_957 0 rfl ?_
    refine z_iload_n (pc := 958) dL_law_958 3 rfl ?_
    refine z_iconst (pc := 959) dL_law_959 ?_
    refine z_iadd (pc := 960) dL_law_960 ?_
    refine z_sld (pc := 961) hX hbl hbA dL_law_961 (by omega) hL ?_
    refine z_swap ?_
    refine zm_sheet_o (pc := 962) (st := [.int (iI (-1000000001))]) hs (sI_r _ _) (sI_r _ _) (sI_r _ _) ⟨hR0.1, hR0.2, Nat.le_of_ble_eq_true rfl⟩ kM_L_120 dL_law_962 ?_
    refine z_swap ?_
    refine z_same (pc := 965) (tgt := 1291) dL_law_965 (by decide) ?_
    exact K g gv gk ik tc tn to ts te tu bi si sv (fnd fd 0) mg mi ft fb ff fl so be tE va wd gd iv
set_option maxHeartbeats 4000000 in
set_option maxRecDepth 100000 in
theorem lc_26 {g gv gk : Gd} {ik : Int} {tc : FF} {tn to ts te tu : Int} {bi si : FF} {sv : Int → LL} {fd : FF} {mg mi : Gd} {ft fb ff : Nat → Int32} {fl : Nat → Int64} {so be tE va : Int} {wd : Int64} {gd : Int32} (lf : LF R s A b L xs fs q) (hi : 0 ≤ i ∧ i + 6 ≤ (L : Int)) (iv : Inv g gv gk ik tc tn bi si mg mi) (K : ∀ (g gv gk : Gd) (ik : Int) (tc : FF) (tn to ts te tu : Int) (bi si : FF) (sv : Int → LL) (fd : FF) (mg mi : Gd) (ft fb ff : Nat → Int32) (fl : Nat → Int64) (so be tE va : Int) (wd : Int64) (gd : Int32), Inv g gv gk ik tc tn bi si mg mi → Z p l e R s m args below meth c cells slots Q cL_law RL 4 rt D cI cJ cB cS xa A (WX cI cJ cB cS q fs g gv gk ik tc tn to ts te tu bi si sv fd ++ WM cI cJ q mg mi fd ft fb ff fl tc tn so be tE va wd gd bi si sv ik) [(0, .ref b), (1, .ref (q 0)), (2, .ref (q 28)), (3, .int (iI i))] 1291 []) : Z p l e R s m args below meth c cells slots Q cL_law RL 4 rt D cI cJ cB cS xa A (WX cI cJ cB cS q fs g gv gk ik tc tn to ts te tu bi si sv fd ++ WM cI cJ q mg mi fd ft fb ff fl tc tn so be tE va wd gd bi si sv ik) [(0, .ref b), (1, .ref (q 0)), (2, .ref (q 28)), (3, .int (iI i))] 970 [] := by
  obtain ⟨hX, hbl, hbA, hL, hR0, f0, f1, f2, f3⟩ := lf
  obtain ⟨o1, o2, o3, o4, o5, ag, hm, hmk, hik, hak, hT, hB⟩ := id iv
  have hmm : mg 4 0 ≤ 99999 := by rw [← ag.1 0]; exact hm
  by_cases hs : 0 ≤ sI xs (i + 1) ∧ sI xs (i + 1) ≤ 3
  · skip
    refine z_aload_n (pc := 970) dL_law_970 1 rfl ?_
    refine z_aload_n (pc := 971) dL_law_971 0 rfl ?_
    refine z_iload_n (pc := 972) dL_law_972 3 rfl ?_
    refine z_iconst (pc := 973) dL_law_973 ?_
    refine z_iadd (pc := 974) dL_law_974 ?_
    refine z_sld (pc := 975) hX hbl hbA dL_law_975 (by omega) hL ?_
    refine z_aload_n (pc := 976) dL_law_976 0 rfl ?_
    refine z_iload_n (pc := 977) dL_law_977 3 rfl ?_
    refine z_iconst (pc := 978) dL_law_978 ?_
    refine z_iadd (pc := 979) dL_law_979 ?_
    refine z_sld (pc := 980) hX hbl hbA dL_law_980 (by omega) hL ?_
    refine z_aload_n (pc := 981) dL_law_981 0 rfl ?_
    refine z_iload_n (pc := 982) dL_law_982 3 rfl ?_
    refine z_iconst (pc := 983) dL_law_983 ?_
    refine z_iadd (pc := 984) dL_law_984 ?_
    refine z_sld (pc := 985) hX hbl hbA dL_law_985 (by omega) hL ?_
    refine z_i2l (pc := 986) dL_law_986 ?_
    refine z_bipush (pc := 987) dL_law_987 (by decide) ?_
    refine z_lshl (pc := 989) dL_law_989 ?_
    refine z_aload_n (pc := 990) dL_law_990 0 rfl ?_
    refine z_iload_n (pc := 991) dL_law_991 3 rfl ?_
    refine z_iconst (pc := 992) dL_law_992 ?_
    refine z_iadd (pc := 993) dL_law_993 ?_
    refine z_sld (pc := 994) hX hbl hbA dL_law_994 (by omega) hL ?_
    refine z_i2l (pc := 995) dL_law_995 ?_
    refine z_ldc2 (pc := 996) kL_L_121 dL_law_996 ?_
    refine z_land (pc := 999) dL_law_999 ?_
    refine z_lor (pc := 1000) dL_law_1000 ?_
    refine zx_write (pc := 1001) (st := []) hs (hB _ hs).1 (hB _ hs).2 (sI_r _ _) f0 f1 f2 f3 ⟨hR0.1, hR0.2, Nat.le_of_ble_eq_true rfl⟩ kM_L_123 dL_law_1001 ?_
    refine z_aload_n (pc := 1004) dL_law_1004 2 rfl ?_
    refine z_aload_n (pc := 1005) dL_law_1005 0 rfl ?_
    refine z_iload_n (pc := 1006) dL_law_1006 3 rfl ?_
    refine z_iconst (pc := 1007) dL_law_1007 ?_
    refine z_iadd (pc := 1008) dL_law_1008 ?_
    refine z_sld (pc := 1009) hX hbl hbA dL_law_1009 (by omega) hL ?_
    refine z_aload_n (pc := 1010) dL_law_1010 0 rfl ?_
    refine z_iload_n (pc := 1011) dL_law_1011 3 rfl ?_
    refine z_iconst (pc := 1012) dL_law_1012 ?_
    refine z_iadd (pc := 1013) dL_law_1013 ?_
    refine z_sld (pc := 1014) hX hbl hbA dL_law_1014 (by omega) hL ?_
    refine z_aload_n (pc := 1015) dL_law_1015 0 rfl ?_
    refine z_iload_n (pc := 1016) dL_law_1016 3 rfl ?_
    refine z_iconst (pc := 1017) dL_law_1017 ?_
    refine z_iadd (pc := 1018) dL_law_1018 ?_
    refine z_sld (pc := 1019) hX hbl hbA dL_law_1019 (by omega) hL ?_
    refine z_i2l (pc := 1020) dL_law_1020 ?_
    refine z_bipush (pc := 1021) dL_law_1021 (by decide) ?_
    refine z_lshl (pc := 1023) dL_law_1023 ?_
    refine z_aload_n (pc := 1024) dL_law_1024 0 rfl ?_
    refine z_iload_n (pc := 1025) dL_law_1025 3 rfl ?_
    refine z_iconst (pc := 1026) dL_law_1026 ?_
    refine z_iadd (pc := 1027) dL_law_1027 ?_
    refine z_sld (pc := 1028) hX hbl hbA dL_law_1028 (by omega) hL ?_
    refine z_i2l (pc := 1029) dL_law_1029 ?_
    refine z_ldc2 (pc := 1030) kL_L_121 dL_law_1030 ?_
    refine z_land (pc := 1033) dL_law_1033 ?_
    refine z_lor (pc := 1034) dL_law_1034 ?_
    refine z_swap ?_
    refine zm_write (pc := 1035) (st := [.long ((opWrite (bi (sI xs (i + 1))) (si (sI xs (i + 1))) (sv (sI xs (i + 1))) fd (sI xs (i + 2)) (((((iI (sI xs (i + 3)))).toInt64) <<< (((iI 32)).toInt64 &&& 63)) ||| ((((iI (sI xs (i + 4)))).toInt64) &&& 4294967295))).1)]) hs (hB _ hs).1 (hB _ hs).2 (sI_r _ _) ⟨hR0.1, hR0.2, Nat.le_of_ble_eq_true rfl⟩ kM_L_127 dL_law_1035 ?_
    refine z_swap ?_
    refine z_lcmp (pc := 1038) dL_law_1038 ?_
    refine z_ifr_eq (pc := 1039) (tgt := 1291) dL_law_1039 (by decide) (fun _ => ?_) (fun h9 => absurd (cmp_self _) h9)
    exact K g gv gk ik tc tn to ts te tu bi si (setS sv (sI xs (i + 1)) (opWrite (bi (sI xs (i + 1))) (si (sI xs (i + 1))) (sv (sI xs (i + 1))) fd (sI xs (i + 2)) (((((iI (sI xs (i + 3)))).toInt64) <<< (((iI 32)).toInt64 &&& 63)) ||| ((((iI (sI xs (i + 4)))).toInt64) &&& 4294967295))).2.1) ((opWrite (bi (sI xs (i + 1))) (si (sI xs (i + 1))) (sv (sI xs (i + 1))) fd (sI xs (i + 2)) (((((iI (sI xs (i + 3)))).toInt64) <<< (((iI 32)).toInt64 &&& 63)) ||| ((((iI (sI xs (i + 4)))).toInt64) &&& 4294967295))).2.2) mg mi ft fb ff fl so be tE va wd gd iv
  · skip
    refine z_aload_n (pc := 970) dL_law_970 1 rfl ?_
    refine z_aload_n (pc := 971) dL_law_971 0 rfl ?_
    refine z_iload_n (pc := 972) dL_law_972 3 rfl ?_
    refine z_iconst (pc := 973) dL_law_973 ?_
    refine z_iadd (pc := 974) dL_law_974 ?_
    refine z_sld (pc := 975) hX hbl hbA dL_law_975 (by omega) hL ?_
    refine z_aload_n (pc := 976) dL_law_976 0 rfl ?_
    refine z_iload_n (pc := 977) dL_law_977 3 rfl ?_
    refine z_iconst (pc := 978) dL_law_978 ?_
    refine z_iadd (pc := 979) dL_law_979 ?_
    refine z_sld (pc := 980) hX hbl hbA dL_law_980 (by omega) hL ?_
    refine z_aload_n (pc := 981) dL_law_981 0 rfl ?_
    refine z_iload_n (pc := 982) dL_law_982 3 rfl ?_
    refine z_iconst (pc := 983) dL_law_983 ?_
    refine z_iadd (pc := 984) dL_law_984 ?_
    refine z_sld (pc := 985) hX hbl hbA dL_law_985 (by omega) hL ?_
    refine z_i2l (pc := 986) dL_law_986 ?_
    refine z_bipush (pc := 987) dL_law_987 (by decide) ?_
    refine z_lshl (pc := 989) dL_law_989 ?_
    refine z_aload_n (pc := 990) dL_law_990 0 rfl ?_
    refine z_iload_n (pc := 991) dL_law_991 3 rfl ?_
    refine z_iconst (pc := 992) dL_law_992 ?_
    refine z_iadd (pc := 993) dL_law_993 ?_
    refine z_sld (pc := 994) hX hbl hbA dL_law_994 (by omega) hL ?_
    refine z_i2l (pc := 995) dL_law_995 ?_
    refine z_ldc2 (pc := 996) kL_L_121 dL_law_996 ?_
    refine z_land (pc := 999) dL_law_999 ?_
    refine z_lor (pc := 1000) dL_law_1000 ?_
    refine zx_write_o (pc := 1001) (st := []) hs (sI_r _ _) (sI_r _ _) ⟨hR0.1, hR0.2, Nat.le_of_ble_eq_true rfl⟩ kM_L_123 dL_law_1001 ?_
    refine z_aload_n (pc := 1004) dL_law_1004 2 rfl ?_
    refine z_aload_n (pc := 1005) dL_law_1005 0 rfl ?_
    refine z_iload_n (pc := 1006) dL_law_1006 3 rfl ?_
    refine z_iconst (pc := 1007) dL_law_1007 ?_
    refine z_iadd (pc := 1008) dL_law_1008 ?_
    refine z_sld (pc := 1009) hX hbl hbA dL_law_1009 (by omega) hL ?_
    refine z_aload_n (pc := 1010) dL_law_1010 0 rfl ?_
    refine z_iload_n (pc := 1011) dL_law_1011 3 rfl ?_
    refine z_iconst (pc := 1012) dL_law_1012 ?_
    refine z_iadd (pc := 1013) dL_law_1013 ?_
    refine z_sld (pc := 1014) hX hbl hbA dL_law_1014 (by omega) hL ?_
    refine z_aload_n (pc := 1015) dL_law_1015 0 rfl ?_
    refine z_iload_n (pc := 1016) dL_law_1016 3 rfl ?_
    refine z_iconst (pc := 1017) dL_law_1017 ?_
    refine z_iadd (pc := 1018) dL_law_1018 ?_
    refine z_sld (pc := 1019) hX hbl hbA dL_law_1019 (by omega) hL ?_
    refine z_i2l (pc := 1020) dL_law_1020 ?_
    refine z_bipush (pc := 1021) dL_law_1021 (by decide) ?_
    refine z_lshl (pc := 1023) dL_law_1023 ?_
    refine z_aload_n (pc := 1024) dL_law_1024 0 rfl ?_
    refine z_iload_n (pc := 1025) dL_law_1025 3 rfl ?_
    refine z_iconst (pc := 1026) dL_law_1026 ?_
    refine z_iadd (pc := 1027) dL_law_1027 ?_
    refine z_sld (pc := 1028) hX hbl hbA dL_law_1028 (by omega) hL ?_
    refine z_i2l (pc := 1029) dL_law_1029 ?_
    refine z_ldc2 (pc := 1030) kL_L_121 dL_law_1030 ?_
    refine z_land (pc := 1033) dL_law_1033 ?_
    refine z_lor (pc := 1034) dL_law_1034 ?_
    refine z_swap ?_
    refine zm_write_o (pc := 1035) (st := [.long ((fin 0).toInt64)]) hs (sI_r _ _) (sI_r _ _) ⟨hR0.1, hR0.2, Nat.le_of_ble_eq_true rfl⟩ kM_L_127 dL_law_1035 ?_
    refine z_swap ?_
    refine z_lcmp (pc := 1038) dL_law_1038 ?_
    refine z_ifr_eq (pc := 1039) (tgt := 1291) dL_law_1039 (by decide) (fun _ => ?_) (fun h9 => absurd (cmp_self _) h9)
    exact K g gv gk ik tc tn to ts te tu bi si sv (fnd fd 0) mg mi ft fb ff fl so be tE va wd gd iv
set_option maxHeartbeats 4000000 in
set_option maxRecDepth 100000 in
theorem lc_27 {g gv gk : Gd} {ik : Int} {tc : FF} {tn to ts te tu : Int} {bi si : FF} {sv : Int → LL} {fd : FF} {mg mi : Gd} {ft fb ff : Nat → Int32} {fl : Nat → Int64} {so be tE va : Int} {wd : Int64} {gd : Int32} (lf : LF R s A b L xs fs q) (hi : 0 ≤ i ∧ i + 6 ≤ (L : Int)) (iv : Inv g gv gk ik tc tn bi si mg mi) (K : ∀ (g gv gk : Gd) (ik : Int) (tc : FF) (tn to ts te tu : Int) (bi si : FF) (sv : Int → LL) (fd : FF) (mg mi : Gd) (ft fb ff : Nat → Int32) (fl : Nat → Int64) (so be tE va : Int) (wd : Int64) (gd : Int32), Inv g gv gk ik tc tn bi si mg mi → Z p l e R s m args below meth c cells slots Q cL_law RL 4 rt D cI cJ cB cS xa A (WX cI cJ cB cS q fs g gv gk ik tc tn to ts te tu bi si sv fd ++ WM cI cJ q mg mi fd ft fb ff fl tc tn so be tE va wd gd bi si sv ik) [(0, .ref b), (1, .ref (q 0)), (2, .ref (q 28)), (3, .int (iI i))] 1291 []) : Z p l e R s m args below meth c cells slots Q cL_law RL 4 rt D cI cJ cB cS xa A (WX cI cJ cB cS q fs g gv gk ik tc tn to ts te tu bi si sv fd ++ WM cI cJ q mg mi fd ft fb ff fl tc tn so be tE va wd gd bi si sv ik) [(0, .ref b), (1, .ref (q 0)), (2, .ref (q 28)), (3, .int (iI i))] 1044 [] := by
  obtain ⟨hX, hbl, hbA, hL, hR0, f0, f1, f2, f3⟩ := lf
  obtain ⟨o1, o2, o3, o4, o5, ag, hm, hmk, hik, hak, hT, hB⟩ := id iv
  have hmm : mg 4 0 ≤ 99999 := by rw [← ag.1 0]; exact hm
  by_cases hs9 : (0 ≤ sI xs (i + 1) ∧ sI xs (i + 1) ≤ 3) ∧ (0 ≤ sI xs (i + 3) ∧ sI xs (i + 3) ≤ 3)
  · obtain ⟨hs, hs3⟩ := hs9
    refine z_aload_n (pc := 1044) dL_law_1044 1 rfl ?_
    refine z_aload_n (pc := 1045) dL_law_1045 0 rfl ?_
    refine z_iload_n (pc := 1046) dL_law_1046 3 rfl ?_
    refine z_iconst (pc := 1047) dL_law_1047 ?_
    refine z_iadd (pc := 1048) dL_law_1048 ?_
    refine z_sld (pc := 1049) hX hbl hbA dL_law_1049 (by omega) hL ?_
    refine z_aload_n (pc := 1050) dL_law_1050 0 rfl ?_
    refine z_iload_n (pc := 1051) dL_law_1051 3 rfl ?_
    refine z_iconst (pc := 1052) dL_law_1052 ?_
    refine z_iadd (pc := 1053) dL_law_1053 ?_
    refine z_sld (pc := 1054) hX hbl hbA dL_law_1054 (by omega) hL ?_
    refine z_aload_n (pc := 1055) dL_law_1055 0 rfl ?_
    refine z_iload_n (pc := 1056) dL_law_1056 3 rfl ?_
    refine z_iconst (pc := 1057) dL_law_1057 ?_
    refine z_iadd (pc := 1058) dL_law_1058 ?_
    refine z_sld (pc := 1059) hX hbl hbA dL_law_1059 (by omega) hL ?_
    refine z_aload_n (pc := 1060) dL_law_1060 0 rfl ?_
    refine z_iload_n (pc := 1061) dL_law_1061 3 rfl ?_
    refine z_iconst (pc := 1062) dL_law_1062 ?_
    refine z_iadd (pc := 1063) dL_law_1063 ?_
    refine z_sld (pc := 1064) hX hbl hbA dL_law_1064 (by omega) hL ?_
    refine z_aload_n (pc := 1065) dL_law_1065 0 rfl ?_
    refine z_iload_n (pc := 1066) dL_law_1066 3 rfl ?_
    refine z_iconst (pc := 1067) dL_law_1067 ?_
    refine z_iadd (pc := 1068) dL_law_1068 ?_
    refine z_sld (pc := 1069) hX hbl hbA dL_law_1069 (by omega) hL ?_
    refine zx_copy (pc := 1070) (st := []) hs hs3 (hB _ hs).1 (hB _ hs).2 (hB _ hs3).1 (hB _ hs3).2 (sI_r _ _) (sI_r _ _) (sI_r _ _) f0 f1 f2 f3 ⟨hR0.1, hR0.2, Nat.le_of_ble_eq_true rfl⟩ kM_L_128 dL_law_1070 ?_
    refine z_aload_n (pc := 1073) dL_law_1073 2 rfl ?_
    refine z_aload_n (pc := 1074) dL_law_1074 0 rfl ?_
    refine z_iload_n (pc := 1075) dL_law_1075 3 rfl ?_
    refine z_iconst (pc := 1076) dL_law_1076 ?_
    refine z_iadd (pc := 1077) dL_law_1077 ?_
    refine z_sld (pc := 1078) hX hbl hbA dL_law_1078 (by omega) hL ?_
    refine z_aload_n (pc := 1079) dL_law_1079 0 rfl ?_
    refine z_iload_n (pc := 1080) dL_law_1080 3 rfl ?_
    refine z_iconst (pc := 1081) dL_law_1081 ?_
    refine z_iadd (pc := 1082) dL_law_1082 ?_
    refine z_sld (pc := 1083) hX hbl hbA dL_law_1083 (by omega) hL ?_
    refine z_aload_n (pc := 1084) dL_law_1084 0 rfl ?_
    refine z_iload_n (pc := 1085) dL_law_1085 3 rfl ?_
    refine z_iconst (pc := 1086) dL_law_1086 ?_
    refine z_iadd (pc := 1087) dL_law_1087 ?_
    refine z_sld (pc := 1088) hX hbl hbA dL_law_1088 (by omega) hL ?_
    refine z_aload_n (pc := 1089) dL_law_1089 0 rfl ?_
    refine z_iload_n (pc := 1090) dL_law_1090 3 rfl ?_
    refine z_iconst (pc := 1091) dL_law_1091 ?_
    refine z_iadd (pc := 1092) dL_law_1092 ?_
    refine z_sld (pc := 1093) hX hbl hbA dL_law_1093 (by omega) hL ?_
    refine z_aload_n (pc := 1094) dL_law_1094 0 rfl ?_
    refine z_iload_n (pc := 1095) dL_law_1095 3 rfl ?_
    refine z_iconst (pc := 1096) dL_law_1096 ?_
    refine z_iadd (pc := 1097) dL_law_1097 ?_
    refine z_sld (pc := 1098) hX hbl hbA dL_law_1098 (by omega) hL ?_
    refine z_swap ?_
    refine zm_copy (pc := 1099) (st := [.int ((opCopy (bi (sI xs (i + 1))) (si (sI xs (i + 1))) (sv (sI xs (i + 1))) (bi (sI xs (i + 3))) (si (sI xs (i + 3))) (sv (sI xs (i + 3))) fd (sI xs (i + 2)) (sI xs (i + 4)) (sI xs (i + 5))).1)]) hs hs3 (hB _ hs).1 (hB _ hs).2 (hB _ hs3).1 (hB _ hs3).2 (sI_r _ _) (sI_r _ _) (sI_r _ _) ⟨hR0.1, hR0.2, Nat.le_of_ble_eq_true rfl⟩ kM_L_132 dL_law_1099 (fun fl2m hv => ?_)
    refine z_swap ?_
    refine z_same (pc := 1102) (tgt := 1291) dL_law_1102 (by decide) ?_
    exact K g gv gk ik tc tn to ts te tu bi si (setS sv (sI xs (i + 3)) (opCopy (bi (sI xs (i + 1))) (si (sI xs (i + 1))) (sv (sI xs (i + 1))) (bi (sI xs (i + 3))) (si (sI xs (i + 3))) (sv (sI xs (i + 3))) fd (sI xs (i + 2)) (sI xs (i + 4)) (sI xs (i + 5))).2.1) ((opCopy (bi (sI xs (i + 1))) (si (sI xs (i + 1))) (sv (sI xs (i + 1))) (bi (sI xs (i + 3))) (si (sI xs (i + 3))) (sv (sI xs (i + 3))) fd (sI xs (i + 2)) (sI xs (i + 4)) (sI xs (i + 5))).2.2) mg mi ft fb ff fl2m so be tE va wd gd iv
  · have hs := hs9
    refine z_aload_n (pc := 1044) dL_law_1044 1 rfl ?_
    refine z_aload_n (pc := 1045) dL_law_1045 0 rfl ?_
    refine z_iload_n (pc := 1046) dL_law_1046 3 rfl ?_
    refine z_iconst (pc := 1047) dL_law_1047 ?_
    refine z_iadd (pc := 1048) dL_law_1048 ?_
    refine z_sld (pc := 1049) hX hbl hbA dL_law_1049 (by omega) hL ?_
    refine z_aload_n (pc := 1050) dL_law_1050 0 rfl ?_
    refine z_iload_n (pc := 1051) dL_law_1051 3 rfl ?_
    refine z_iconst (pc := 1052) dL_law_1052 ?_
    refine z_iadd (pc := 1053) dL_law_1053 ?_
    refine z_sld (pc := 1054) hX hbl hbA dL_law_1054 (by omega) hL ?_
    refine z_aload_n (pc := 1055) dL_law_1055 0 rfl ?_
    refine z_iload_n (pc := 1056) dL_law_1056 3 rfl ?_
    refine z_iconst (pc := 1057) dL_law_1057 ?_
    refine z_iadd (pc := 1058) dL_law_1058 ?_
    refine z_sld (pc := 1059) hX hbl hbA dL_law_1059 (by omega) hL ?_
    refine z_aload_n (pc := 1060) dL_law_1060 0 rfl ?_
    refine z_iload_n (pc := 1061) dL_law_1061 3 rfl ?_
    refine z_iconst (pc := 1062) dL_law_1062 ?_
    refine z_iadd (pc := 1063) dL_law_1063 ?_
    refine z_sld (pc := 1064) hX hbl hbA dL_law_1064 (by omega) hL ?_
    refine z_aload_n (pc := 1065) dL_law_1065 0 rfl ?_
    refine z_iload_n (pc := 1066) dL_law_1066 3 rfl ?_
    refine z_iconst (pc := 1067) dL_law_1067 ?_
    refine z_iadd (pc := 1068) dL_law_1068 ?_
    refine z_sld (pc := 1069) hX hbl hbA dL_law_1069 (by omega) hL ?_
    refine zx_copy_o (pc := 1070) (st := []) hs (sI_r _ _) (sI_r _ _) (sI_r _ _) (sI_r _ _) (sI_r _ _) ⟨hR0.1, hR0.2, Nat.le_of_ble_eq_true rfl⟩ kM_L_128 dL_law_1070 ?_
    refine z_aload_n (pc := 1073) dL_law_1073 2 rfl ?_
    refine z_aload_n (pc := 1074) dL_law_1074 0 rfl ?_
    refine z_iload_n (pc := 1075) dL_law_1075 3 rfl ?_
    refine z_iconst (pc := 1076) dL_law_1076 ?_
    refine z_iadd (pc := 1077) dL_law_1077 ?_
    refine z_sld (pc := 1078) hX hbl hbA dL_law_1078 (by omega) hL ?_
    refine z_aload_n (pc := 1079) dL_law_1079 0 rfl ?_
    refine z_iload_n (pc := 1080) dL_law_1080 3 rfl ?_
    refine z_iconst (pc := 1081) dL_law_1081 ?_
    refine z_iadd (pc := 1082) dL_law_1082 ?_
    refine z_sld (pc := 1083) hX hbl hbA dL_law_1083 (by omega) hL ?_
    refine z_aload_n (pc := 1084) dL_law_1084 0 rfl ?_
    refine z_iload_n (pc := 1085) dL_law_1085 3 rfl ?_
    refine z_iconst (pc := 1086) dL_law_1086 ?_
    refine z_iadd (pc := 1087) dL_law_1087 ?_
    refine z_sld (pc := 1088) hX hbl hbA dL_law_1088 (by omega) hL ?_
    refine z_aload_n (pc := 1089) dL_law_1089 0 rfl ?_
    refine z_iload_n (pc := 1090) dL_law_1090 3 rfl ?_
    refine z_iconst (pc := 1091) dL_law_1091 ?_
    refine z_iadd (pc := 1092) dL_law_1092 ?_
    refine z_sld (pc := 1093) hX hbl hbA dL_law_1093 (by omega) hL ?_
    refine z_aload_n (pc := 1094) dL_law_1094 0 rfl ?_
    refine z_iload_n (pc := 1095) dL_law_1095 3 rfl ?_
    refine z_iconst (pc := 1096) dL_law_1096 ?_
    refine z_iadd (pc := 1097) dL_law_1097 ?_
    refine z_sld (pc := 1098) hX hbl hbA dL_law_1098 (by omega) hL ?_
    refine z_swap ?_
    refine zm_copy_o (pc := 1099) (st := [.int (iI (-1000000001))]) hs (sI_r _ _) (sI_r _ _) (sI_r _ _) (sI_r _ _) (sI_r _ _) ⟨hR0.1, hR0.2, Nat.le_of_ble_eq_true rfl⟩ kM_L_132 dL_law_1099 ?_
    refine z_swap ?_
    refine z_same (pc := 1102) (tgt := 1291) dL_law_1102 (by decide) ?_
    exact K g gv gk ik tc tn to ts te tu bi si sv (fnd fd 0) mg mi ft fb ff fl so be tE va wd gd iv
set_option maxHeartbeats 4000000 in
set_option maxRecDepth 100000 in
theorem lc_28 {g gv gk : Gd} {ik : Int} {tc : FF} {tn to ts te tu : Int} {bi si : FF} {sv : Int → LL} {fd : FF} {mg mi : Gd} {ft fb ff : Nat → Int32} {fl : Nat → Int64} {so be tE va : Int} {wd : Int64} {gd : Int32} (lf : LF R s A b L xs fs q) (hi : 0 ≤ i ∧ i + 6 ≤ (L : Int)) (iv : Inv g gv gk ik tc tn bi si mg mi) (K : ∀ (g gv gk : Gd) (ik : Int) (tc : FF) (tn to ts te tu : Int) (bi si : FF) (sv : Int → LL) (fd : FF) (mg mi : Gd) (ft fb ff : Nat → Int32) (fl : Nat → Int64) (so be tE va : Int) (wd : Int64) (gd : Int32), Inv g gv gk ik tc tn bi si mg mi → Z p l e R s m args below meth c cells slots Q cL_law RL 4 rt D cI cJ cB cS xa A (WX cI cJ cB cS q fs g gv gk ik tc tn to ts te tu bi si sv fd ++ WM cI cJ q mg mi fd ft fb ff fl tc tn so be tE va wd gd bi si sv ik) [(0, .ref b), (1, .ref (q 0)), (2, .ref (q 28)), (3, .int (iI i))] 1291 []) : Z p l e R s m args below meth c cells slots Q cL_law RL 4 rt D cI cJ cB cS xa A (WX cI cJ cB cS q fs g gv gk ik tc tn to ts te tu bi si sv fd ++ WM cI cJ q mg mi fd ft fb ff fl tc tn so be tE va wd gd bi si sv ik) [(0, .ref b), (1, .ref (q 0)), (2, .ref (q 28)), (3, .int (iI i))] 1107 [] := by
  obtain ⟨hX, hbl, hbA, hL, hR0, f0, f1, f2, f3⟩ := lf
  obtain ⟨o1, o2, o3, o4, o5, ag, hm, hmk, hik, hak, hT, hB⟩ := id iv
  have hmm : mg 4 0 ≤ 99999 := by rw [← ag.1 0]; exact hm
  by_cases hs : 0 ≤ sI xs (i + 1) ∧ sI xs (i + 1) ≤ 3
  · by_cases h0 : bi (sI xs (i + 1)) = 0
    · skip
      refine z_aload_n (pc := 1107) dL_law_1107 1 rfl ?_
      refine z_aload_n (pc := 1108) dL_law_1108 0 rfl ?_
      refine z_iload_n (pc := 1109) dL_law_1109 3 rfl ?_
      refine z_iconst (pc := 1110) dL_law_1110 ?_
      refine z_iadd (pc := 1111) dL_law_1111 ?_
      refine z_sld (pc := 1112) hX hbl hbA dL_law_1112 (by omega) hL ?_
      refine zx_lays (pc := 1113) (st := []) o1 hs (hB _ hs).1 (hB _ hs).2 f0 f1 f2 f3 ⟨hR0.1, hR0.2, Nat.le_of_ble_eq_true rfl⟩ kM_L_133 dL_law_1113 ?_
      have e := s_lays ag o1 o4 hm (bi (sI xs (i + 1))) (si (sI xs (i + 1))) (sv (sI xs (i + 1))) fd
      have eL : opLays mg (bi (sI xs (i + 1))) (si (sI xs (i + 1))) (sv (sI xs (i + 1))) fd = (fin 5, mg, fnd fd 5) := by unfold opLays; rw [if_pos h0]
      have e1 : (opLays g (bi (sI xs (i + 1))) (si (sI xs (i + 1))) (sv (sI xs (i + 1))) fd).1 = iI (-1000000006) := e.1.trans (by rw [eL]; exact fin_5)
      have e2 : (opLays g (bi (sI xs (i + 1))) (si (sI xs (i + 1))) (sv (sI xs (i + 1))) fd).2.2 = fnd fd 5 := e.2.2.1.trans (by rw [eL])
      have e3 : agr (opLays g (bi (sI xs (i + 1))) (si (sI xs (i + 1))) (sv (sI xs (i + 1))) fd).2.1 mg := by have h9 := e.2.1; rw [eL] at h9; exact h9
      rw [e1, e2]
      refine z_aload_n (pc := 1116) dL_law_1116 2 rfl ?_
      refine z_aload_n (pc := 1117) dL_law_1117 0 rfl ?_
      refine z_iload_n (pc := 1118) dL_law_1118 3 rfl ?_
      refine z_iconst (pc := 1119) dL_law_1119 ?_
      refine z_iadd (pc := 1120) dL_law_1120 ?_
      refine z_sld (pc := 1121) hX hbl hbA dL_law_1121 (by omega) hL ?_
      refine z_swap ?_
      refine zm_lays_m (pc := 1122) (st := [.int (iI (-1000000006))]) hs h0 ⟨hR0.1, hR0.2, Nat.le_of_ble_eq_true rfl⟩ kM_L_136 dL_law_1122 ?_
      refine z_swap ?_
      refine z_same (pc := 1125) (tgt := 1291) dL_law_1125 (by decide) ?_
      exact K ((opLays g (bi (sI xs (i + 1))) (si (sI xs (i + 1))) (sv (sI xs (i + 1))) fd).2.1) gv gk ik tc tn to ts te tu bi si sv (fnd fd 5) mg mi ft fb ff fl so be tE va wd gd ⟨e.2.2.2.1, o2, o3, o4, o5, e3, e.2.2.2.2.2, hmk, hik, hak, hT, hB⟩
    · skip
      refine z_aload_n (pc := 1107) dL_law_1107 1 rfl ?_
      refine z_aload_n (pc := 1108) dL_law_1108 0 rfl ?_
      refine z_iload_n (pc := 1109) dL_law_1109 3 rfl ?_
      refine z_iconst (pc := 1110) dL_law_1110 ?_
      refine z_iadd (pc := 1111) dL_law_1111 ?_
      refine z_sld (pc := 1112) hX hbl hbA dL_law_1112 (by omega) hL ?_
      refine zx_lays (pc := 1113) (st := []) o1 hs (hB _ hs).1 (hB _ hs).2 f0 f1 f2 f3 ⟨hR0.1, hR0.2, Nat.le_of_ble_eq_true rfl⟩ kM_L_133 dL_law_1113 ?_
      have e := s_lays ag o1 o4 hm (bi (sI xs (i + 1))) (si (sI xs (i + 1))) (sv (sI xs (i + 1))) fd
      rw [e.1, e.2.2.1]
      refine z_aload_n (pc := 1116) dL_law_1116 2 rfl ?_
      refine z_aload_n (pc := 1117) dL_law_1117 0 rfl ?_
      refine z_iload_n (pc := 1118) dL_law_1118 3 rfl ?_
      refine z_iconst (pc := 1119) dL_law_1119 ?_
      refine z_iadd (pc := 1120) dL_law_1120 ?_
      refine z_sld (pc := 1121) hX hbl hbA dL_law_1121 (by omega) hL ?_
      refine z_swap ?_
      refine zm_lays_g (pc := 1122) (st := [.int ((opLays mg (bi (sI xs (i + 1))) (si (sI xs (i + 1))) (sv (sI xs (i + 1))) fd).1)]) o4 hs h0 (hB _ hs).1 (hB _ hs).2 ⟨hR0.1, hR0.2, Nat.le_of_ble_eq_true rfl⟩ kM_L_136 dL_law_1122 ?_
      refine z_swap ?_
      refine z_same (pc := 1125) (tgt := 1291) dL_law_1125 (by decide) ?_
      exact K ((opLays g (bi (sI xs (i + 1))) (si (sI xs (i + 1))) (sv (sI xs (i + 1))) fd).2.1) gv gk ik tc tn to ts te tu bi si sv ((opLays mg (bi (sI xs (i + 1))) (si (sI xs (i + 1))) (sv (sI xs (i + 1))) fd).2.2) ((opLays mg (bi (sI xs (i + 1))) (si (sI xs (i + 1))) (sv (sI xs (i + 1))) fd).2.1) mi ft fb ff fl so be tE va wd gd ⟨e.2.2.2.1, o2, o3, e.2.2.2.2.1, o5, e.2.1, e.2.2.2.2.2, hmk, hik, hak, hT, hB⟩
  · skip
    refine z_aload_n (pc := 1107) dL_law_1107 1 rfl ?_
    refine z_aload_n (pc := 1108) dL_law_1108 0 rfl ?_
    refine z_iload_n (pc := 1109) dL_law_1109 3 rfl ?_
    refine z_iconst (pc := 1110) dL_law_1110 ?_
    refine z_iadd (pc := 1111) dL_law_1111 ?_
    refine z_sld (pc := 1112) hX hbl hbA dL_law_1112 (by omega) hL ?_
    refine zx_lays_o (pc := 1113) (st := []) hs (sI_r _ _) ⟨hR0.1, hR0.2, Nat.le_of_ble_eq_true rfl⟩ kM_L_133 dL_law_1113 ?_
    refine z_aload_n (pc := 1116) dL_law_1116 2 rfl ?_
    refine z_aload_n (pc := 1117) dL_law_1117 0 rfl ?_
    refine z_iload_n (pc := 1118) dL_law_1118 3 rfl ?_
    refine z_iconst (pc := 1119) dL_law_1119 ?_
    refine z_iadd (pc := 1120) dL_law_1120 ?_
    refine z_sld (pc := 1121) hX hbl hbA dL_law_1121 (by omega) hL ?_
    refine z_swap ?_
    refine zm_lays_o (pc := 1122) (st := [.int (iI (-1000000001))]) hs (sI_r _ _) ⟨hR0.1, hR0.2, Nat.le_of_ble_eq_true rfl⟩ kM_L_136 dL_law_1122 ?_
    refine z_swap ?_
    refine z_same (pc := 1125) (tgt := 1291) dL_law_1125 (by decide) ?_
    exact K g gv gk ik tc tn to ts te tu bi si sv (fnd fd 0) mg mi ft fb ff fl so be tE va wd gd iv
set_option maxHeartbeats 4000000 in
set_option maxRecDepth 100000 in
theorem lc_29 {g gv gk : Gd} {ik : Int} {tc : FF} {tn to ts te tu : Int} {bi si : FF} {sv : Int → LL} {fd : FF} {mg mi : Gd} {ft fb ff : Nat → Int32} {fl : Nat → Int64} {so be tE va : Int} {wd : Int64} {gd : Int32} (lf : LF R s A b L xs fs q) (hi : 0 ≤ i ∧ i + 6 ≤ (L : Int)) (iv : Inv g gv gk ik tc tn bi si mg mi) (K : ∀ (g gv gk : Gd) (ik : Int) (tc : FF) (tn to ts te tu : Int) (bi si : FF) (sv : Int → LL) (fd : FF) (mg mi : Gd) (ft fb ff : Nat → Int32) (fl : Nat → Int64) (so be tE va : Int) (wd : Int64) (gd : Int32), Inv g gv gk ik tc tn bi si mg mi → Z p l e R s m args below meth c cells slots Q cL_law RL 4 rt D cI cJ cB cS xa A (WX cI cJ cB cS q fs g gv gk ik tc tn to ts te tu bi si sv fd ++ WM cI cJ q mg mi fd ft fb ff fl tc tn so be tE va wd gd bi si sv ik) [(0, .ref b), (1, .ref (q 0)), (2, .ref (q 28)), (3, .int (iI i))] 1291 []) : Z p l e R s m args below meth c cells slots Q cL_law RL 4 rt D cI cJ cB cS xa A (WX cI cJ cB cS q fs g gv gk ik tc tn to ts te tu bi si sv fd ++ WM cI cJ q mg mi fd ft fb ff fl tc tn so be tE va wd gd bi si sv ik) [(0, .ref b), (1, .ref (q 0)), (2, .ref (q 28)), (3, .int (iI i))] 1130 [] := by
  obtain ⟨hX, hbl, hbA, hL, hR0, f0, f1, f2, f3⟩ := lf
  obtain ⟨o1, o2, o3, o4, o5, ag, hm, hmk, hik, hak, hT, hB⟩ := id iv
  have hmm : mg 4 0 ≤ 99999 := by rw [← ag.1 0]; exact hm
  by_cases hs : 0 ≤ sI xs (i + 1) ∧ sI xs (i + 1) ≤ 3
  · by_cases h0 : bi (sI xs (i + 1)) = 0
    · skip
      refine z_aload_n (pc := 1130) dL_law_1130 1 rfl ?_
      refine z_aload_n (pc := 1131) dL_law_1131 0 rfl ?_
      refine z_iload_n (pc := 1132) dL_law_1132 3 rfl ?_
      refine z_iconst (pc := 1133) dL_law_1133 ?_
      refine z_iadd (pc := 1134) dL_law_1134 ?_
      refine z_sld (pc := 1135) hX hbl hbA dL_law_1135 (by omega) hL ?_
      refine z_aload_n (pc := 1136) dL_law_1136 0 rfl ?_
      refine z_iload_n (pc := 1137) dL_law_1137 3 rfl ?_
      refine z_iconst (pc := 1138) dL_law_1138 ?_
      refine z_iadd (pc := 1139) dL_law_1139 ?_
      refine z_sld (pc := 1140) hX hbl hbA dL_law_1140 (by omega) hL ?_
      refine zx_book (pc := 1141) (st := []) o1 o2 hs (hB _ hs).1 (hB _ hs).2 (sI_r _ _) hm f0 f1 f2 f3 ⟨hR0.1, hR0.2, Nat.le_of_ble_eq_true rfl⟩ kM_L_137 dL_law_1141 (fun gt2 hu => ?_)
      have e1 : opBook g (sI xs (i + 2)) (bi (sI xs (i + 1))) (si (sI xs (i + 1))) (sv (sI xs (i + 1))) fd = (iI (-1000000006), sv (sI xs (i + 1)), fnd fd 5) := by unfold opBook; rw [if_pos h0, fin_5]
      rw [e1]
      dsimp only
      rw [setS_self]
      refine z_aload_n (pc := 1144) dL_law_1144 2 rfl ?_
      refine z_aload_n (pc := 1145) dL_law_1145 0 rfl ?_
      refine z_iload_n (pc := 1146) dL_law_1146 3 rfl ?_
      refine z_iconst (pc := 1147) dL_law_1147 ?_
      refine z_iadd (pc := 1148) dL_law_1148 ?_
      refine z_sld (pc := 1149) hX hbl hbA dL_law_1149 (by omega) hL ?_
      refine z_aload_n (pc := 1150) dL_law_1150 0 rfl ?_
      refine z_iload_n (pc := 1151) dL_law_1151 3 rfl ?_
      refine z_iconst (pc := 1152) dL_law_1152 ?_
      refine z_iadd (pc := 1153) dL_law_1153 ?_
      refine z_sld (pc := 1154) hX hbl hbA dL_law_1154 (by omega) hL ?_
      refine z_swap ?_
      refine zm_book_m (pc := 1155) (st := [.int (iI (-1000000006))]) hs h0 (sI_r _ _) ⟨hR0.1, hR0.2, Nat.le_of_ble_eq_true rfl⟩ kM_L_140 dL_law_1155 ?_
      refine z_swap ?_
      refine z_same (pc := 1158) (tgt := 1291) dL_law_1158 (by decide) ?_
      exact K g gt2 gk ik tc tn to ts te tu bi si sv (fnd fd 5) mg mi ft fb ff fl so be tE va wd gd ⟨o1, hu, o3, o4, o5, ag, hm, hmk, hik, hak, hT, hB⟩
    · skip
      refine z_aload_n (pc := 1130) dL_law_1130 1 rfl ?_
      refine z_aload_n (pc := 1131) dL_law_1131 0 rfl ?_
      refine z_iload_n (pc := 1132) dL_law_1132 3 rfl ?_
      refine z_iconst (pc := 1133) dL_law_1133 ?_
      refine z_iadd (pc := 1134) dL_law_1134 ?_
      refine z_sld (pc := 1135) hX hbl hbA dL_law_1135 (by omega) hL ?_
      refine z_aload_n (pc := 1136) dL_law_1136 0 rfl ?_
      refine z_iload_n (pc := 1137) dL_law_1137 3 rfl ?_
      refine z_iconst (pc := 1138) dL_law_1138 ?_
      refine z_iadd (pc := 1139) dL_law_1139 ?_
      refine z_sld (pc := 1140) hX hbl hbA dL_law_1140 (by omega) hL ?_
      refine zx_book (pc := 1141) (st := []) o1 o2 hs (hB _ hs).1 (hB _ hs).2 (sI_r _ _) hm f0 f1 f2 f3 ⟨hR0.1, hR0.2, Nat.le_of_ble_eq_true rfl⟩ kM_L_137 dL_law_1141 (fun gt2 hu => ?_)
      have e := q_book ag o1 hm (sI xs (i + 2)) (bi (sI xs (i + 1))) (si (sI xs (i + 1))) (sv (sI xs (i + 1))) fd (hB _ hs).2.2
      rw [e]
      refine z_aload_n (pc := 1144) dL_law_1144 2 rfl ?_
      refine z_aload_n (pc := 1145) dL_law_1145 0 rfl ?_
      refine z_iload_n (pc := 1146) dL_law_1146 3 rfl ?_
      refine z_iconst (pc := 1147) dL_law_1147 ?_
      refine z_iadd (pc := 1148) dL_law_1148 ?_
      refine z_sld (pc := 1149) hX hbl hbA dL_law_1149 (by omega) hL ?_
      refine z_aload_n (pc := 1150) dL_law_1150 0 rfl ?_
      refine z_iload_n (pc := 1151) dL_law_1151 3 rfl ?_
      refine z_iconst (pc := 1152) dL_law_1152 ?_
      refine z_iadd (pc := 1153) dL_law_1153 ?_
      refine z_sld (pc := 1154) hX hbl hbA dL_law_1154 (by omega) hL ?_
      refine z_swap ?_
      refine zm_book_g (pc := 1155) (st := [.int ((opBook mg (sI xs (i + 2)) (bi (sI xs (i + 1))) (si (sI xs (i + 1))) (sv (sI xs (i + 1))) fd).1)]) o4 hs h0 (hB _ hs).1 (hB _ hs).2 (sI_r _ _) hmm ⟨hR0.1, hR0.2, Nat.le_of_ble_eq_true rfl⟩ kM_L_140 dL_law_1155 (fun ft2m hv => ?_)
      refine z_swap ?_
      refine z_same (pc := 1158) (tgt := 1291) dL_law_1158 (by decide) ?_
      exact K g gt2 gk ik tc tn to ts te tu bi si (setS sv (sI xs (i + 1)) (opBook mg (sI xs (i + 2)) (bi (sI xs (i + 1))) (si (sI xs (i + 1))) (sv (sI xs (i + 1))) fd).2.1) ((opBook mg (sI xs (i + 2)) (bi (sI xs (i + 1))) (si (sI xs (i + 1))) (sv (sI xs (i + 1))) fd).2.2) mg mi ft2m fb ff fl so be tE va wd gd ⟨o1, hu, o3, o4, o5, ag, hm, hmk, hik, hak, hT, hB⟩
  · skip
    refine z_aload_n (pc := 1130) dL_law_1130 1 rfl ?_
    refine z_aload_n (pc := 1131) dL_law_1131 0 rfl ?_
    refine z_iload_n (pc := 1132) dL_law_1132 3 rfl ?_
    refine z_iconst (pc := 1133) dL_law_1133 ?_
    refine z_iadd (pc := 1134) dL_law_1134 ?_
    refine z_sld (pc := 1135) hX hbl hbA dL_law_1135 (by omega) hL ?_
    refine z_aload_n (pc := 1136) dL_law_1136 0 rfl ?_
    refine z_iload_n (pc := 1137) dL_law_1137 3 rfl ?_
    refine z_iconst (pc := 1138) dL_law_1138 ?_
    refine z_iadd (pc := 1139) dL_law_1139 ?_
    refine z_sld (pc := 1140) hX hbl hbA dL_law_1140 (by omega) hL ?_
    refine zx_book_o (pc := 1141) (st := []) hs (sI_r _ _) (sI_r _ _) ⟨hR0.1, hR0.2, Nat.le_of_ble_eq_true rfl⟩ kM_L_137 dL_law_1141 ?_
    refine z_aload_n (pc := 1144) dL_law_1144 2 rfl ?_
    refine z_aload_n (pc := 1145) dL_law_1145 0 rfl ?_
    refine z_iload_n (pc := 1146) dL_law_1146 3 rfl ?_
    refine z_iconst (pc := 1147) dL_law_1147 ?_
    refine z_iadd (pc := 1148) dL_law_1148 ?_
    refine z_sld (pc := 1149) hX hbl hbA dL_law_1149 (by omega) hL ?_
    refine z_aload_n (pc := 1150) dL_law_1150 0 rfl ?_
    refine z_iload_n (pc := 1151) dL_law_1151 3 rfl ?_
    refine z_iconst (pc := 1152) dL_law_1152 ?_
    refine z_iadd (pc := 1153) dL_law_1153 ?_
    refine z_sld (pc := 1154) hX hbl hbA dL_law_1154 (by omega) hL ?_
    refine z_swap ?_
    refine zm_book_o (pc := 1155) (st := [.int (iI (-1000000001))]) hs (sI_r _ _) (sI_r _ _) ⟨hR0.1, hR0.2, Nat.le_of_ble_eq_true rfl⟩ kM_L_140 dL_law_1155 ?_
    refine z_swap ?_
    refine z_same (pc := 1158) (tgt := 1291) dL_law_1158 (by decide) ?_
    exact K g gv gk ik tc tn to ts te tu bi si sv (fnd fd 0) mg mi ft fb ff fl so be tE va wd gd iv
set_option maxHeartbeats 4000000 in
set_option maxRecDepth 100000 in
theorem lc_30 {g gv gk : Gd} {ik : Int} {tc : FF} {tn to ts te tu : Int} {bi si : FF} {sv : Int → LL} {fd : FF} {mg mi : Gd} {ft fb ff : Nat → Int32} {fl : Nat → Int64} {so be tE va : Int} {wd : Int64} {gd : Int32} (lf : LF R s A b L xs fs q) (hi : 0 ≤ i ∧ i + 6 ≤ (L : Int)) (iv : Inv g gv gk ik tc tn bi si mg mi) (K : ∀ (g gv gk : Gd) (ik : Int) (tc : FF) (tn to ts te tu : Int) (bi si : FF) (sv : Int → LL) (fd : FF) (mg mi : Gd) (ft fb ff : Nat → Int32) (fl : Nat → Int64) (so be tE va : Int) (wd : Int64) (gd : Int32), Inv g gv gk ik tc tn bi si mg mi → Z p l e R s m args below meth c cells slots Q cL_law RL 4 rt D cI cJ cB cS xa A (WX cI cJ cB cS q fs g gv gk ik tc tn to ts te tu bi si sv fd ++ WM cI cJ q mg mi fd ft fb ff fl tc tn so be tE va wd gd bi si sv ik) [(0, .ref b), (1, .ref (q 0)), (2, .ref (q 28)), (3, .int (iI i))] 1291 []) : Z p l e R s m args below meth c cells slots Q cL_law RL 4 rt D cI cJ cB cS xa A (WX cI cJ cB cS q fs g gv gk ik tc tn to ts te tu bi si sv fd ++ WM cI cJ q mg mi fd ft fb ff fl tc tn so be tE va wd gd bi si sv ik) [(0, .ref b), (1, .ref (q 0)), (2, .ref (q 28)), (3, .int (iI i))] 1163 [] := by
  obtain ⟨hX, hbl, hbA, hL, hR0, f0, f1, f2, f3⟩ := lf
  obtain ⟨o1, o2, o3, o4, o5, ag, hm, hmk, hik, hak, hT, hB⟩ := id iv
  have hmm : mg 4 0 ≤ 99999 := by rw [← ag.1 0]; exact hm
  by_cases hs : 0 ≤ sI xs (i + 1) ∧ sI xs (i + 1) ≤ 3
  · by_cases h0 : bi (sI xs (i + 1)) = 0
    · skip
      refine z_aload_n (pc := 1163) dL_law_1163 1 rfl ?_
      refine z_aload_n (pc := 1164) dL_law_1164 0 rfl ?_
      refine z_iload_n (pc := 1165) dL_law_1165 3 rfl ?_
      refine z_iconst (pc := 1166) dL_law_1166 ?_
      refine z_iadd (pc := 1167) dL_law_1167 ?_
      refine z_sld (pc := 1168) hX hbl hbA dL_law_1168 (by omega) hL ?_
      refine z_aload_n (pc := 1169) dL_law_1169 0 rfl ?_
      refine z_iload_n (pc := 1170) dL_law_1170 3 rfl ?_
      refine z_iconst (pc := 1171) dL_law_1171 ?_
      refine z_iadd (pc := 1172) dL_law_1172 ?_
      refine z_sld (pc := 1173) hX hbl hbA dL_law_1173 (by omega) hL ?_
      refine z_aload_n (pc := 1174) dL_law_1174 0 rfl ?_
      refine z_iload_n (pc := 1175) dL_law_1175 3 rfl ?_
      refine z_iconst (pc := 1176) dL_law_1176 ?_
      refine z_iadd (pc := 1177) dL_law_1177 ?_
      refine z_sld (pc := 1178) hX hbl hbA dL_law_1178 (by omega) hL ?_
      refine zx_read (pc := 1179) (st := []) o1 o2 hs (hB _ hs).1 (hB _ hs).2 (sI_r _ _) (sI_r _ _) hm f0 f1 f2 f3 ⟨hR0.1, hR0.2, Nat.le_of_ble_eq_true rfl⟩ kM_L_141 dL_law_1179 (fun gt2 hu => ?_)
      have e1 : opRead g (sI xs (i + 2)) (sI xs (i + 3)) (bi (sI xs (i + 1))) (si (sI xs (i + 1))) (sv (sI xs (i + 1))) fd = (iI (-1000000006), fnd fd 5) := by unfold opRead; rw [if_pos h0, fin_5]
      rw [e1]
      dsimp only
      refine z_aload_n (pc := 1182) dL_law_1182 2 rfl ?_
      refine z_aload_n (pc := 1183) dL_law_1183 0 rfl ?_
      refine z_iload_n (pc := 1184) dL_law_1184 3 rfl ?_
      refine z_iconst (pc := 1185) dL_law_1185 ?_
      refine z_iadd (pc := 1186) dL_law_1186 ?_
      refine z_sld (pc := 1187) hX hbl hbA dL_law_1187 (by omega) hL ?_
      refine z_aload_n (pc := 1188) dL_law_1188 0 rfl ?_
      refine z_iload_n (pc := 1189) dL_law_1189 3 rfl ?_
      refine z_iconst (pc := 1190) dL_law_1190 ?_
      refine z_iadd (pc := 1191) dL_law_1191 ?_
      refine z_sld (pc := 1192) hX hbl hbA dL_law_1192 (by omega) hL ?_
      refine z_aload_n (pc := 1193) dL_law_1193 0 rfl ?_
      refine z_iload_n (pc := 1194) dL_law_1194 3 rfl ?_
      refine z_iconst (pc := 1195) dL_law_1195 ?_
      refine z_iadd (pc := 1196) dL_law_1196 ?_
      refine z_sld (pc := 1197) hX hbl hbA dL_law_1197 (by omega) hL ?_
      refine z_swap ?_
      refine zm_read_m (pc := 1198) (st := [.int (iI (-1000000006))]) hs h0 (sI_r _ _) (sI_r _ _) ⟨hR0.1, hR0.2, Nat.le_of_ble_eq_true rfl⟩ kM_L_144 dL_law_1198 ?_
      refine z_swap ?_
      refine z_same (pc := 1201) (tgt := 1291) dL_law_1201 (by decide) ?_
      exact K g gt2 gk ik tc tn to ts te tu bi si sv (fnd fd 5) mg mi ft fb ff fl so be tE va wd gd ⟨o1, hu, o3, o4, o5, ag, hm, hmk, hik, hak, hT, hB⟩
    · skip
      refine z_aload_n (pc := 1163) dL_law_1163 1 rfl ?_
      refine z_aload_n (pc := 1164) dL_law_1164 0 rfl ?_
      refine z_iload_n (pc := 1165) dL_law_1165 3 rfl ?_
      refine z_iconst (pc := 1166) dL_law_1166 ?_
      refine z_iadd (pc := 1167) dL_law_1167 ?_
      refine z_sld (pc := 1168) hX hbl hbA dL_law_1168 (by omega) hL ?_
      refine z_aload_n (pc := 1169) dL_law_1169 0 rfl ?_
      refine z_iload_n (pc := 1170) dL_law_1170 3 rfl ?_
      refine z_iconst (pc := 1171) dL_law_1171 ?_
      refine z_iadd (pc := 1172) dL_law_1172 ?_
      refine z_sld (pc := 1173) hX hbl hbA dL_law_1173 (by omega) hL ?_
      refine z_aload_n (pc := 1174) dL_law_1174 0 rfl ?_
      refine z_iload_n (pc := 1175) dL_law_1175 3 rfl ?_
      refine z_iconst (pc := 1176) dL_law_1176 ?_
      refine z_iadd (pc := 1177) dL_law_1177 ?_
      refine z_sld (pc := 1178) hX hbl hbA dL_law_1178 (by omega) hL ?_
      refine zx_read (pc := 1179) (st := []) o1 o2 hs (hB _ hs).1 (hB _ hs).2 (sI_r _ _) (sI_r _ _) hm f0 f1 f2 f3 ⟨hR0.1, hR0.2, Nat.le_of_ble_eq_true rfl⟩ kM_L_141 dL_law_1179 (fun gt2 hu => ?_)
      have e := q_read ag o1 hm (sI xs (i + 2)) (sI xs (i + 3)) (bi (sI xs (i + 1))) (si (sI xs (i + 1))) (sv (sI xs (i + 1))) fd (hB _ hs).2
      rw [e]
      refine z_aload_n (pc := 1182) dL_law_1182 2 rfl ?_
      refine z_aload_n (pc := 1183) dL_law_1183 0 rfl ?_
      refine z_iload_n (pc := 1184) dL_law_1184 3 rfl ?_
      refine z_iconst (pc := 1185) dL_law_1185 ?_
      refine z_iadd (pc := 1186) dL_law_1186 ?_
      refine z_sld (pc := 1187) hX hbl hbA dL_law_1187 (by omega) hL ?_
      refine z_aload_n (pc := 1188) dL_law_1188 0 rfl ?_
      refine z_iload_n (pc := 1189) dL_law_1189 3 rfl ?_
      refine z_iconst (pc := 1190) dL_law_1190 ?_
      refine z_iadd (pc := 1191) dL_law_1191 ?_
      refine z_sld (pc := 1192) hX hbl hbA dL_law_1192 (by omega) hL ?_
      refine z_aload_n (pc := 1193) dL_law_1193 0 rfl ?_
      refine z_iload_n (pc := 1194) dL_law_1194 3 rfl ?_
      refine z_iconst (pc := 1195) dL_law_1195 ?_
      refine z_iadd (pc := 1196) dL_law_1196 ?_
      refine z_sld (pc := 1197) hX hbl hbA dL_law_1197 (by omega) hL ?_
      refine z_swap ?_
      refine zm_read_g (pc := 1198) (st := [.int ((opRead mg (sI xs (i + 2)) (sI xs (i + 3)) (bi (sI xs (i + 1))) (si (sI xs (i + 1))) (sv (sI xs (i + 1))) fd).1)]) o4 hs h0 (hB _ hs).1 (hB _ hs).2 (sI_r _ _) (sI_r _ _) hmm ⟨hR0.1, hR0.2, Nat.le_of_ble_eq_true rfl⟩ kM_L_144 dL_law_1198 (fun fb2m hv => ?_)
      refine z_swap ?_
      refine z_same (pc := 1201) (tgt := 1291) dL_law_1201 (by decide) ?_
      exact K g gt2 gk ik tc tn to ts te tu bi si sv ((opRead mg (sI xs (i + 2)) (sI xs (i + 3)) (bi (sI xs (i + 1))) (si (sI xs (i + 1))) (sv (sI xs (i + 1))) fd).2) mg mi ft fb2m ff fl so be tE va wd gd ⟨o1, hu, o3, o4, o5, ag, hm, hmk, hik, hak, hT, hB⟩
  · skip
    refine z_aload_n (pc := 1163) dL_law_1163 1 rfl ?_
    refine z_aload_n (pc := 1164) dL_law_1164 0 rfl ?_
    refine z_iload_n (pc := 1165) dL_law_1165 3 rfl ?_
    refine z_iconst (pc := 1166) dL_law_1166 ?_
    refine z_iadd (pc := 1167) dL_law_1167 ?_
    refine z_sld (pc := 1168) hX hbl hbA dL_law_1168 (by omega) hL ?_
    refine z_aload_n (pc := 1169) dL_law_1169 0 rfl ?_
    refine z_iload_n (pc := 1170) dL_law_1170 3 rfl ?_
    refine z_iconst (pc := 1171) dL_law_1171 ?_
    refine z_iadd (pc := 1172) dL_law_1172 ?_
    refine z_sld (pc := 1173) hX hbl hbA dL_law_1173 (by omega) hL ?_
    refine z_aload_n (pc := 1174) dL_law_1174 0 rfl ?_
    refine z_iload_n (pc := 1175) dL_law_1175 3 rfl ?_
    refine z_iconst (pc := 1176) dL_law_1176 ?_
    refine z_iadd (pc := 1177) dL_law_1177 ?_
    refine z_sld (pc := 1178) hX hbl hbA dL_law_1178 (by omega) hL ?_
    refine zx_read_o (pc := 1179) (st := []) hs (sI_r _ _) (sI_r _ _) (sI_r _ _) ⟨hR0.1, hR0.2, Nat.le_of_ble_eq_true rfl⟩ kM_L_141 dL_law_1179 ?_
    refine z_aload_n (pc := 1182) dL_law_1182 2 rfl ?_
    refine z_aload_n (pc := 1183) dL_law_1183 0 rfl ?_
    refine z_iload_n (pc := 1184) dL_law_1184 3 rfl ?_
    refine z_iconst (pc := 1185) dL_law_1185 ?_
    refine z_iadd (pc := 1186) dL_law_1186 ?_
    refine z_sld (pc := 1187) hX hbl hbA dL_law_1187 (by omega) hL ?_
    refine z_aload_n (pc := 1188) dL_law_1188 0 rfl ?_
    refine z_iload_n (pc := 1189) dL_law_1189 3 rfl ?_
    refine z_iconst (pc := 1190) dL_law_1190 ?_
    refine z_iadd (pc := 1191) dL_law_1191 ?_
    refine z_sld (pc := 1192) hX hbl hbA dL_law_1192 (by omega) hL ?_
    refine z_aload_n (pc := 1193) dL_law_1193 0 rfl ?_
    refine z_iload_n (pc := 1194) dL_law_1194 3 rfl ?_
    refine z_iconst (pc := 1195) dL_law_1195 ?_
    refine z_iadd (pc := 1196) dL_law_1196 ?_
    refine z_sld (pc := 1197) hX hbl hbA dL_law_1197 (by omega) hL ?_
    refine z_swap ?_
    refine zm_read_o (pc := 1198) (st := [.int (iI (-1000000001))]) hs (sI_r _ _) (sI_r _ _) (sI_r _ _) ⟨hR0.1, hR0.2, Nat.le_of_ble_eq_true rfl⟩ kM_L_144 dL_law_1198 ?_
    refine z_swap ?_
    refine z_same (pc := 1201) (tgt := 1291) dL_law_1201 (by decide) ?_
    exact K g gv gk ik tc tn to ts te tu bi si sv (fnd fd 0) mg mi ft fb ff fl so be tE va wd gd iv
set_option maxHeartbeats 4000000 in
set_option maxRecDepth 100000 in
theorem lc_31 {g gv gk : Gd} {ik : Int} {tc : FF} {tn to ts te tu : Int} {bi si : FF} {sv : Int → LL} {fd : FF} {mg mi : Gd} {ft fb ff : Nat → Int32} {fl : Nat → Int64} {so be tE va : Int} {wd : Int64} {gd : Int32} (lf : LF R s A b L xs fs q) (hi : 0 ≤ i ∧ i + 6 ≤ (L : Int)) (iv : Inv g gv gk ik tc tn bi si mg mi) (K : ∀ (g gv gk : Gd) (ik : Int) (tc : FF) (tn to ts te tu : Int) (bi si : FF) (sv : Int → LL) (fd : FF) (mg mi : Gd) (ft fb ff : Nat → Int32) (fl : Nat → Int64) (so be tE va : Int) (wd : Int64) (gd : Int32), Inv g gv gk ik tc tn bi si mg mi → Z p l e R s m args below meth c cells slots Q cL_law RL 4 rt D cI cJ cB cS xa A (WX cI cJ cB cS q fs g gv gk ik tc tn to ts te tu bi si sv fd ++ WM cI cJ q mg mi fd ft fb ff fl tc tn so be tE va wd gd bi si sv ik) [(0, .ref b), (1, .ref (q 0)), (2, .ref (q 28)), (3, .int (iI i))] 1291 []) : Z p l e R s m args below meth c cells slots Q cL_law RL 4 rt D cI cJ cB cS xa A (WX cI cJ cB cS q fs g gv gk ik tc tn to ts te tu bi si sv fd ++ WM cI cJ q mg mi fd ft fb ff fl tc tn so be tE va wd gd bi si sv ik) [(0, .ref b), (1, .ref (q 0)), (2, .ref (q 28)), (3, .int (iI i))] 1206 [] := by
  obtain ⟨hX, hbl, hbA, hL, hR0, f0, f1, f2, f3⟩ := lf
  obtain ⟨o1, o2, o3, o4, o5, ag, hm, hmk, hik, hak, hT, hB⟩ := id iv
  have hmm : mg 4 0 ≤ 99999 := by rw [← ag.1 0]; exact hm
  refine z_aload_n (pc := 1206) dL_law_1206 1 rfl ?_
  refine zx_image (pc := 1207) (st := []) o1 o3 ⟨hR0.1, hR0.2, Nat.le_of_ble_eq_true rfl⟩ kM_L_145 dL_law_1207 ?_
  refine z_aload_n (pc := 1210) dL_law_1210 2 rfl ?_
  refine z_swap ?_
  refine zm_image (pc := 1211) (st := [.int (iI 1)])  ⟨hR0.1, hR0.2, Nat.le_of_ble_eq_true rfl⟩ kM_L_148 dL_law_1211 ?_
  refine z_swap ?_
  refine z_same (pc := 1214) (tgt := 1291) dL_law_1214 (by decide) ?_
  exact K g gv (likeG gk g) 1 tc tn to ts te tu bi si sv fd mg mg ft fb ff fl so be tE va wd gd ⟨o1, o2, likeG_ok o3 o1, o4, o4, ag, hm, by rw [(agr_like gk g).1 0]; exact hm, Or.inr rfl, fun _ => (agr_like gk g).tr ag, hT, hB⟩
set_option maxHeartbeats 4000000 in
set_option maxRecDepth 100000 in
theorem lc_32 {g gv gk : Gd} {ik : Int} {tc : FF} {tn to ts te tu : Int} {bi si : FF} {sv : Int → LL} {fd : FF} {mg mi : Gd} {ft fb ff : Nat → Int32} {fl : Nat → Int64} {so be tE va : Int} {wd : Int64} {gd : Int32} (lf : LF R s A b L xs fs q) (hi : 0 ≤ i ∧ i + 6 ≤ (L : Int)) (iv : Inv g gv gk ik tc tn bi si mg mi) (K : ∀ (g gv gk : Gd) (ik : Int) (tc : FF) (tn to ts te tu : Int) (bi si : FF) (sv : Int → LL) (fd : FF) (mg mi : Gd) (ft fb ff : Nat → Int32) (fl : Nat → Int64) (so be tE va : Int) (wd : Int64) (gd : Int32), Inv g gv gk ik tc tn bi si mg mi → Z p l e R s m args below meth c cells slots Q cL_law RL 4 rt D cI cJ cB cS xa A (WX cI cJ cB cS q fs g gv gk ik tc tn to ts te tu bi si sv fd ++ WM cI cJ q mg mi fd ft fb ff fl tc tn so be tE va wd gd bi si sv ik) [(0, .ref b), (1, .ref (q 0)), (2, .ref (q 28)), (3, .int (iI i))] 1291 []) : Z p l e R s m args below meth c cells slots Q cL_law RL 4 rt D cI cJ cB cS xa A (WX cI cJ cB cS q fs g gv gk ik tc tn to ts te tu bi si sv fd ++ WM cI cJ q mg mi fd ft fb ff fl tc tn so be tE va wd gd bi si sv ik) [(0, .ref b), (1, .ref (q 0)), (2, .ref (q 28)), (3, .int (iI i))] 1219 [] := by
  obtain ⟨hX, hbl, hbA, hL, hR0, f0, f1, f2, f3⟩ := lf
  obtain ⟨o1, o2, o3, o4, o5, ag, hm, hmk, hik, hak, hT, hB⟩ := id iv
  have hmm : mg 4 0 ≤ 99999 := by rw [← ag.1 0]; exact hm
  refine z_aload_n (pc := 1219) dL_law_1219 1 rfl ?_
  refine zx_undo (pc := 1220) (st := []) o1 o3 hik ⟨hR0.1, hR0.2, Nat.le_of_ble_eq_true rfl⟩ kM_L_149 dL_law_1220 ?_
  have e := s_undo ag o1 o4 hm o3 o5 hmk hak fd
  rw [e.1, e.2.2.1]
  refine z_aload_n (pc := 1223) dL_law_1223 2 rfl ?_
  refine z_swap ?_
  refine zm_undo (pc := 1224) (st := [.int ((opUndo ik mg mi fd).1)]) hik ⟨hR0.1, hR0.2, Nat.le_of_ble_eq_true rfl⟩ kM_L_152 dL_law_1224 ?_
  refine z_swap ?_
  refine z_same (pc := 1227) (tgt := 1291) dL_law_1227 (by decide) ?_
  exact K ((opUndo ik g (likeG g gk) fd).2.1) gv gk ik tc tn to ts te tu bi si sv ((opUndo ik mg mi fd).2.2) ((opUndo ik mg mi fd).2.1) mi ft fb ff fl so be tE va wd gd ⟨e.2.2.2.1, o2, o3, e.2.2.2.2.1, o5, e.2.1, e.2.2.2.2.2, hmk, hik, hak, hT, hB⟩
set_option maxHeartbeats 4000000 in
set_option maxRecDepth 100000 in
theorem lc_33 {g gv gk : Gd} {ik : Int} {tc : FF} {tn to ts te tu : Int} {bi si : FF} {sv : Int → LL} {fd : FF} {mg mi : Gd} {ft fb ff : Nat → Int32} {fl : Nat → Int64} {so be tE va : Int} {wd : Int64} {gd : Int32} (lf : LF R s A b L xs fs q) (hi : 0 ≤ i ∧ i + 6 ≤ (L : Int)) (iv : Inv g gv gk ik tc tn bi si mg mi) (K : ∀ (g gv gk : Gd) (ik : Int) (tc : FF) (tn to ts te tu : Int) (bi si : FF) (sv : Int → LL) (fd : FF) (mg mi : Gd) (ft fb ff : Nat → Int32) (fl : Nat → Int64) (so be tE va : Int) (wd : Int64) (gd : Int32), Inv g gv gk ik tc tn bi si mg mi → Z p l e R s m args below meth c cells slots Q cL_law RL 4 rt D cI cJ cB cS xa A (WX cI cJ cB cS q fs g gv gk ik tc tn to ts te tu bi si sv fd ++ WM cI cJ q mg mi fd ft fb ff fl tc tn so be tE va wd gd bi si sv ik) [(0, .ref b), (1, .ref (q 0)), (2, .ref (q 28)), (3, .int (iI i))] 1291 []) : Z p l e R s m args below meth c cells slots Q cL_law RL 4 rt D cI cJ cB cS xa A (WX cI cJ cB cS q fs g gv gk ik tc tn to ts te tu bi si sv fd ++ WM cI cJ q mg mi fd ft fb ff fl tc tn so be tE va wd gd bi si sv ik) [(0, .ref b), (1, .ref (q 0)), (2, .ref (q 28)), (3, .int (iI i))] 1232 [] := by
  obtain ⟨hX, hbl, hbA, hL, hR0, f0, f1, f2, f3⟩ := lf
  obtain ⟨o1, o2, o3, o4, o5, ag, hm, hmk, hik, hak, hT, hB⟩ := id iv
  have hmm : mg 4 0 ≤ 99999 := by rw [← ag.1 0]; exact hm
  refine z_aload_n (pc := 1232) dL_law_1232 1 rfl ?_
  refine zx_tear (pc := 1233) (st := []) hik ⟨hR0.1, hR0.2, Nat.le_of_ble_eq_true rfl⟩ kM_L_153 dL_law_1233 ?_
  refine z_aload_n (pc := 1236) dL_law_1236 2 rfl ?_
  refine z_swap ?_
  refine zm_tear (pc := 1237) (st := [.int (iI ik)]) hik ⟨hR0.1, hR0.2, Nat.le_of_ble_eq_true rfl⟩ kM_L_156 dL_law_1237 ?_
  refine z_swap ?_
  refine z_same (pc := 1240) (tgt := 1291) dL_law_1240 (by decide) ?_
  exact K g gv gk 0 tc tn to ts te tu bi si sv fd mg mi ft fb ff fl so be tE va wd gd ⟨o1, o2, o3, o4, o5, ag, hm, hmk, Or.inl rfl, fun z => absurd z (by decide), hT, hB⟩
set_option maxHeartbeats 4000000 in
set_option maxRecDepth 100000 in
theorem lc_34 {g gv gk : Gd} {ik : Int} {tc : FF} {tn to ts te tu : Int} {bi si : FF} {sv : Int → LL} {fd : FF} {mg mi : Gd} {ft fb ff : Nat → Int32} {fl : Nat → Int64} {so be tE va : Int} {wd : Int64} {gd : Int32} (lf : LF R s A b L xs fs q) (hi : 0 ≤ i ∧ i + 6 ≤ (L : Int)) (iv : Inv g gv gk ik tc tn bi si mg mi) (K : ∀ (g gv gk : Gd) (ik : Int) (tc : FF) (tn to ts te tu : Int) (bi si : FF) (sv : Int → LL) (fd : FF) (mg mi : Gd) (ft fb ff : Nat → Int32) (fl : Nat → Int64) (so be tE va : Int) (wd : Int64) (gd : Int32), Inv g gv gk ik tc tn bi si mg mi → Z p l e R s m args below meth c cells slots Q cL_law RL 4 rt D cI cJ cB cS xa A (WX cI cJ cB cS q fs g gv gk ik tc tn to ts te tu bi si sv fd ++ WM cI cJ q mg mi fd ft fb ff fl tc tn so be tE va wd gd bi si sv ik) [(0, .ref b), (1, .ref (q 0)), (2, .ref (q 28)), (3, .int (iI i))] 1291 []) : Z p l e R s m args below meth c cells slots Q cL_law RL 4 rt D cI cJ cB cS xa A (WX cI cJ cB cS q fs g gv gk ik tc tn to ts te tu bi si sv fd ++ WM cI cJ q mg mi fd ft fb ff fl tc tn so be tE va wd gd bi si sv ik) [(0, .ref b), (1, .ref (q 0)), (2, .ref (q 28)), (3, .int (iI i))] 1245 [] := by
  obtain ⟨hX, hbl, hbA, hL, hR0, f0, f1, f2, f3⟩ := lf
  obtain ⟨o1, o2, o3, o4, o5, ag, hm, hmk, hik, hak, hT, hB⟩ := id iv
  have hmm : mg 4 0 ≤ 99999 := by rw [← ag.1 0]; exact hm
  refine z_aload_n (pc := 1245) dL_law_1245 1 rfl ?_
  refine z_aload_n (pc := 1246) dL_law_1246 0 rfl ?_
  refine z_iload_n (pc := 1247) dL_law_1247 3 rfl ?_
  refine z_iconst (pc := 1248) dL_law_1248 ?_
  refine z_iadd (pc := 1249) dL_law_1249 ?_
  refine z_sld (pc := 1250) hX hbl hbA dL_law_1250 (by omega) hL ?_
  refine zx_count (pc := 1251) (st := []) o1 (sI_r _ _) ⟨hR0.1, hR0.2, Nat.le_of_ble_eq_true rfl⟩ kM_L_157 dL_law_1251 ?_
  have e := q_count ag o1 tn fd (sI xs (i + 1))
  rw [e]
  refine z_aload_n (pc := 1254) dL_law_1254 2 rfl ?_
  refine z_aload_n (pc := 1255) dL_law_1255 0 rfl ?_
  refine z_iload_n (pc := 1256) dL_law_1256 3 rfl ?_
  refine z_iconst (pc := 1257) dL_law_1257 ?_
  refine z_iadd (pc := 1258) dL_law_1258 ?_
  refine z_sld (pc := 1259) hX hbl hbA dL_law_1259 (by omega) hL ?_
  refine z_swap ?_
  refine zm_count (pc := 1260) (st := [.int ((opCount mg tn fd (sI xs (i + 1))).1)]) o4 (sI_r _ _) ⟨hR0.1, hR0.2, Nat.le_of_ble_eq_true rfl⟩ kM_L_160 dL_law_1260 ?_
  refine z_swap ?_
  refine z_same (pc := 1263) (tgt := 1291) dL_law_1263 (by decide) ?_
  exact K g gv gk ik tc tn to ts te tu bi si sv ((opCount mg tn fd (sI xs (i + 1))).2) mg mi ft fb ff fl so be tE va wd gd iv
set_option maxHeartbeats 4000000 in
set_option maxRecDepth 100000 in
theorem lc_35 {g gv gk : Gd} {ik : Int} {tc : FF} {tn to ts te tu : Int} {bi si : FF} {sv : Int → LL} {fd : FF} {mg mi : Gd} {ft fb ff : Nat → Int32} {fl : Nat → Int64} {so be tE va : Int} {wd : Int64} {gd : Int32} (lf : LF R s A b L xs fs q) (hi : 0 ≤ i ∧ i + 6 ≤ (L : Int)) (iv : Inv g gv gk ik tc tn bi si mg mi) (K : ∀ (g gv gk : Gd) (ik : Int) (tc : FF) (tn to ts te tu : Int) (bi si : FF) (sv : Int → LL) (fd : FF) (mg mi : Gd) (ft fb ff : Nat → Int32) (fl : Nat → Int64) (so be tE va : Int) (wd : Int64) (gd : Int32), Inv g gv gk ik tc tn bi si mg mi → Z p l e R s m args below meth c cells slots Q cL_law RL 4 rt D cI cJ cB cS xa A (WX cI cJ cB cS q fs g gv gk ik tc tn to ts te tu bi si sv fd ++ WM cI cJ q mg mi fd ft fb ff fl tc tn so be tE va wd gd bi si sv ik) [(0, .ref b), (1, .ref (q 0)), (2, .ref (q 28)), (3, .int (iI i))] 1291 []) : Z p l e R s m args below meth c cells slots Q cL_law RL 4 rt D cI cJ cB cS xa A (WX cI cJ cB cS q fs g gv gk ik tc tn to ts te tu bi si sv fd ++ WM cI cJ q mg mi fd ft fb ff fl tc tn so be tE va wd gd bi si sv ik) [(0, .ref b), (1, .ref (q 0)), (2, .ref (q 28)), (3, .int (iI i))] 1268 [] := by
  obtain ⟨hX, hbl, hbA, hL, hR0, f0, f1, f2, f3⟩ := lf
  obtain ⟨o1, o2, o3, o4, o5, ag, hm, hmk, hik, hak, hT, hB⟩ := id iv
  have hmm : mg 4 0 ≤ 99999 := by rw [← ag.1 0]; exact hm
  refine z_aload_n (pc := 1268) dL_law_1268 1 rfl ?_
  refine z_aload_n (pc := 1269) dL_law_1269 0 rfl ?_
  refine z_iload_n (pc := 1270) dL_law_1270 3 rfl ?_
  refine z_iconst (pc := 1271) dL_law_1271 ?_
  refine z_iadd (pc := 1272) dL_law_1272 ?_
  refine z_sld (pc := 1273) hX hbl hbA dL_law_1273 (by omega) hL ?_
  refine zx_status (pc := 1274) (st := []) (sI_r _ _) ⟨hR0.1, hR0.2, Nat.le_of_ble_eq_true rfl⟩ kM_L_161 dL_law_1274 ?_
  refine z_aload_n (pc := 1277) dL_law_1277 2 rfl ?_
  refine z_aload_n (pc := 1278) dL_law_1278 0 rfl ?_
  refine z_iload_n (pc := 1279) dL_law_1279 3 rfl ?_
  refine z_iconst (pc := 1280) dL_law_1280 ?_
  refine z_iadd (pc := 1281) dL_law_1281 ?_
  refine z_sld (pc := 1282) hX hbl hbA dL_law_1282 (by omega) hL ?_
  refine z_swap ?_
  refine zm_status (pc := 1283) (st := [.int ((opStatus fd (sI xs (i + 1))).1)]) (sI_r _ _) ⟨hR0.1, hR0.2, Nat.le_of_ble_eq_true rfl⟩ kM_L_164 dL_law_1283 ?_
  refine z_swap ?_
  refine z_same (pc := 1286) (tgt := 1291) dL_law_1286 (by decide) ?_
  exact K g gv gk ik tc tn to ts te tu bi si sv ((opStatus fd (sI xs (i + 1))).2) mg mi ft fb ff fl so be tE va wd gd iv
end LC
