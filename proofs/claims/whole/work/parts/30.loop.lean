theorem and63 (x : Int32) : x &&& iI 63 = iI (x.toInt % 64) := by
  have e : iI 63 = 63 := by decide
  rw [e, pk_and x 6 (by decide), ← iI_nat]
  congr 1
  have h1 : x.toInt = x.toBitVec.toInt := rfl
  rw [h1, BitVec.toInt_eq_toNat_bmod]
  have h2 := x.toBitVec.isLt
  rw [Int.bmod_def]
  split <;> omega
section LL
variable {p : Program} {l : Launch} {e : Env} {R : Room} {s : State} {m : MethodId} {args : Array Value} {below : List Frame} {meth : Method} {c : Code} {cells slots : Nat} {Q : State → Prop} {rt : Option FieldType} {D : va_G} {cI cJ cB cS : ClassId} {xa : XA} {A : Nat → Prop} {b L : Nat} {xs : Nat → Int32} {fs : Nat → Option Nat} {q : Nat → Nat}
set_option maxHeartbeats 8000000 in
set_option maxRecDepth 100000 in
theorem law_loop (lf : LF R s A b L xs fs q) (END : ∀ (ws : va_W) (lv : List (Nat × Value)), Z p l e R s m args below meth c cells slots Q cL_law RL 4 rt D cI cJ cB cS xa A ws lv 1297 []) : ∀ (nn : Nat) (i : Int) (g gv gk : Gd) (ik : Int) (tc : FF) (tn to ts te tu : Int) (bi si : FF) (sv : Int → LL) (fd : FF) (mg mi : Gd) (ft fb ff : Nat → Int32) (fl : Nat → Int64) (so be tE va : Int) (wd : Int64) (gd : Int32), (0 ≤ i ∧ i ≤ (L : Int) + 6) → ((L : Int) + 6 - i).toNat < nn → Inv g gv gk ik tc tn bi si mg mi → Z p l e R s m args below meth c cells slots Q cL_law RL 4 rt D cI cJ cB cS xa A (WX cI cJ cB cS q fs g gv gk ik tc tn to ts te tu bi si sv fd ++ WM cI cJ q mg mi fd ft fb ff fl tc tn so be tE va wd gd bi si sv ik) [(0, .ref b), (1, .ref (q 0)), (2, .ref (q 28)), (3, .int (iI i))] 18 [] := by
  intro nn
  induction nn with
  | zero => intro i g gv gk ik tc tn to ts te tu bi si sv fd mg mi ft fb ff fl so be tE va wd gd h0 hn; exact absurd hn (Nat.not_lt_zero _)
  | succ nn ih =>
    intro i g gv gk ik tc tn to ts te tu bi si sv fd mg mi ft fb ff fl so be tE va wd gd h0 hn iv
    have lf2 := lf
    obtain ⟨hX, hbl, hbA, hL, hR0, f0, f1, f2, f3⟩ := lf2
    refine z_iload_n (pc := 18) dL_law_18 3 rfl ?_
    refine z_aload_n (pc := 19) dL_law_19 0 rfl ?_
    refine z_slenL (pc := 20) hX hbl hbA dL_law_20 ?_
    refine z_bipush (pc := 21) dL_law_21 (by decide) ?_
    refine z_isub (pc := 23) dL_law_23 ?_
    have hi9 : inr i := by omega
    by_cases hbig : (L : Int) - 6 < i
    · refine z_icmp_gt (pc := 24) (tgt := 1297) dL_law_24 (by decide) hi9 (by omega) (fun h24 => ?_) (fun h24 => absurd hbig h24)
      exact END _ _
    · refine z_icmp_gt (pc := 24) (tgt := 1297) dL_law_24 (by decide) hi9 (by omega) (fun h24 => absurd h24 hbig) (fun h24 => ?_)
      have hi : 0 ≤ i ∧ i + 6 ≤ (L : Int) := by omega
      have nx : ∀ (g gv gk : Gd) (ik : Int) (tc : FF) (tn to ts te tu : Int) (bi si : FF) (sv : Int → LL) (fd : FF) (mg mi : Gd) (ft fb ff : Nat → Int32) (fl : Nat → Int64) (so be tE va : Int) (wd : Int64) (gd : Int32), Inv g gv gk ik tc tn bi si mg mi → Z p l e R s m args below meth c cells slots Q cL_law RL 4 rt D cI cJ cB cS xa A (WX cI cJ cB cS q fs g gv gk ik tc tn to ts te tu bi si sv fd ++ WM cI cJ q mg mi fd ft fb ff fl tc tn so be tE va wd gd bi si sv ik) [(0, .ref b), (1, .ref (q 0)), (2, .ref (q 28)), (3, .int (iI i))] 1291 [] := by
        intro g gv gk ik tc tn to ts te tu bi si sv fd mg mi ft fb ff fl so be tE va wd gd iv
        refine z_iinc (pc := 1291) (lv2 := [(3, .int (iI (i + 6))), (0, .ref b), (1, .ref (q 0)), (2, .ref (q 28))]) dL_law_1291 3 rfl (by decide) rfl ?_
        refine z_goto (pc := 1294) (tgt := 18) dL_law_1294 (by decide) ?_
        refine z_lv (lv2 := [(0, .ref b), (1, .ref (q 0)), (2, .ref (q 28)), (3, .int (iI (i + 6)))]) [1, 2, 3, 0] rfl ?_
        exact ih (i + 6) g gv gk ik tc tn to ts te tu bi si sv fd mg mi ft fb ff fl so be tE va wd gd (by omega) (by omega) iv
      refine z_aload_n (pc := 27) dL_law_27 0 rfl ?_
      refine z_iload_n (pc := 28) dL_law_28 3 rfl ?_
      refine z_sld (pc := 29) hX hbl hbA dL_law_29 (by omega) hL ?_
      refine z_bipush (pc := 30) dL_law_30 (by decide) ?_
      refine z_iand (pc := 32) dL_law_32 ?_
      have hr9 := sI_r xs i
      refine z_st (st2 := [.int (iI (sI xs i % 64))]) (by rw [and63, iI_toInt hr9]) ?_
      by_cases h33 : 0 ≤ sI xs i % 64 ∧ sI xs i % 64 ≤ 35
      · have hv : sI xs i % 64 = 0 ∨ sI xs i % 64 = 1 ∨ sI xs i % 64 = 2 ∨ sI xs i % 64 = 3 ∨ sI xs i % 64 = 4 ∨ sI xs i % 64 = 5 ∨ sI xs i % 64 = 6 ∨ sI xs i % 64 = 7 ∨ sI xs i % 64 = 8 ∨ sI xs i % 64 = 9 ∨ sI xs i % 64 = 10 ∨ sI xs i % 64 = 11 ∨ sI xs i % 64 = 12 ∨ sI xs i % 64 = 13 ∨ sI xs i % 64 = 14 ∨ sI xs i % 64 = 15 ∨ sI xs i % 64 = 16 ∨ sI xs i % 64 = 17 ∨ sI xs i % 64 = 18 ∨ sI xs i % 64 = 19 ∨ sI xs i % 64 = 20 ∨ sI xs i % 64 = 21 ∨ sI xs i % 64 = 22 ∨ sI xs i % 64 = 23 ∨ sI xs i % 64 = 24 ∨ sI xs i % 64 = 25 ∨ sI xs i % 64 = 26 ∨ sI xs i % 64 = 27 ∨ sI xs i % 64 = 28 ∨ sI xs i % 64 = 29 ∨ sI xs i % 64 = 30 ∨ sI xs i % 64 = 31 ∨ sI xs i % 64 = 32 ∨ sI xs i % 64 = 33 ∨ sI xs i % 64 = 34 ∨ sI xs i % 64 = 35 := by omega
        rcases hv with hv | hv | hv | hv | hv | hv | hv | hv | hv | hv | hv | hv | hv | hv | hv | hv | hv | hv | hv | hv | hv | hv | hv | hv | hv | hv | hv | hv | hv | hv | hv | hv | hv | hv | hv | hv
        · exact z_tableIn (pc := 33) (tgt := 192) dL_law_33 (by omega) (by omega) (by omega) (by rw [hv]; rfl) (by decide) (lc_0 lf hi iv nx)
        · exact z_tableIn (pc := 33) (tgt := 215) dL_law_33 (by omega) (by omega) (by omega) (by rw [hv]; rfl) (by decide) (lc_1 lf hi iv nx)
        · exact z_tableIn (pc := 33) (tgt := 238) dL_law_33 (by omega) (by omega) (by omega) (by rw [hv]; rfl) (by decide) (lc_2 lf hi iv nx)
        · exact z_tableIn (pc := 33) (tgt := 261) dL_law_33 (by omega) (by omega) (by omega) (by rw [hv]; rfl) (by decide) (lc_3 lf hi iv nx)
        · exact z_tableIn (pc := 33) (tgt := 294) dL_law_33 (by omega) (by omega) (by omega) (by rw [hv]; rfl) (by decide) (lc_4 lf hi iv nx)
        · exact z_tableIn (pc := 33) (tgt := 337) dL_law_33 (by omega) (by omega) (by omega) (by rw [hv]; rfl) (by decide) (lc_5 lf hi iv nx)
        · exact z_tableIn (pc := 33) (tgt := 370) dL_law_33 (by omega) (by omega) (by omega) (by rw [hv]; rfl) (by decide) (lc_6 lf hi iv nx)
        · exact z_tableIn (pc := 33) (tgt := 403) dL_law_33 (by omega) (by omega) (by omega) (by rw [hv]; rfl) (by decide) (lc_7 lf hi iv nx)
        · exact z_tableIn (pc := 33) (tgt := 436) dL_law_33 (by omega) (by omega) (by omega) (by rw [hv]; rfl) (by decide) (lc_8 lf hi iv nx)
        · exact z_tableIn (pc := 33) (tgt := 469) dL_law_33 (by omega) (by omega) (by omega) (by rw [hv]; rfl) (by decide) (lc_9 lf hi iv nx)
        · exact z_tableIn (pc := 33) (tgt := 492) dL_law_33 (by omega) (by omega) (by omega) (by rw [hv]; rfl) (by decide) (lc_10 lf hi iv nx)
        · exact z_tableIn (pc := 33) (tgt := 535) dL_law_33 (by omega) (by omega) (by omega) (by rw [hv]; rfl) (by decide) (lc_11 lf hi iv nx)
        · exact z_tableIn (pc := 33) (tgt := 568) dL_law_33 (by omega) (by omega) (by omega) (by rw [hv]; rfl) (by decide) (lc_12 lf hi iv nx)
        · exact z_tableIn (pc := 33) (tgt := 581) dL_law_33 (by omega) (by omega) (by omega) (by rw [hv]; rfl) (by decide) (lc_13 lf hi iv nx)
        · exact z_tableIn (pc := 33) (tgt := 614) dL_law_33 (by omega) (by omega) (by omega) (by rw [hv]; rfl) (by decide) (lc_14 lf hi iv nx)
        · exact z_tableIn (pc := 33) (tgt := 637) dL_law_33 (by omega) (by omega) (by omega) (by rw [hv]; rfl) (by decide) (lc_15 lf hi iv nx)
        · exact z_tableIn (pc := 33) (tgt := 670) dL_law_33 (by omega) (by omega) (by omega) (by rw [hv]; rfl) (by decide) (lc_16 lf hi iv nx)
        · exact z_tableIn (pc := 33) (tgt := 703) dL_law_33 (by omega) (by omega) (by omega) (by rw [hv]; rfl) (by decide) (lc_17 lf hi iv nx)
        · exact z_tableIn (pc := 33) (tgt := 746) dL_law_33 (by omega) (by omega) (by omega) (by rw [hv]; rfl) (by decide) (lc_18 lf hi iv nx)
        · exact z_tableIn (pc := 33) (tgt := 769) dL_law_33 (by omega) (by omega) (by omega) (by rw [hv]; rfl) (by decide) (lc_19 lf hi iv nx)
        · exact z_tableIn (pc := 33) (tgt := 812) dL_law_33 (by omega) (by omega) (by omega) (by rw [hv]; rfl) (by decide) (lc_20 lf hi iv nx)
        · exact z_tableIn (pc := 33) (tgt := 845) dL_law_33 (by omega) (by omega) (by omega) (by rw [hv]; rfl) (by decide) (lc_21 lf hi iv nx)
        · exact z_tableIn (pc := 33) (tgt := 868) dL_law_33 (by omega) (by omega) (by omega) (by rw [hv]; rfl) (by decide) (lc_22 lf hi iv nx)
        · exact z_tableIn (pc := 33) (tgt := 901) dL_law_33 (by omega) (by omega) (by omega) (by rw [hv]; rfl) (by decide) (lc_23 lf hi iv nx)
        · exact z_tableIn (pc := 33) (tgt := 914) dL_law_33 (by omega) (by omega) (by omega) (by rw [hv]; rfl) (by decide) (lc_24 lf hi iv nx)
        · exact z_tableIn (pc := 33) (tgt := 927) dL_law_33 (by omega) (by omega) (by omega) (by rw [hv]; rfl) (by decide) (lc_25 lf hi iv nx)
        · exact z_tableIn (pc := 33) (tgt := 970) dL_law_33 (by omega) (by omega) (by omega) (by rw [hv]; rfl) (by decide) (lc_26 lf hi iv nx)
        · exact z_tableIn (pc := 33) (tgt := 1044) dL_law_33 (by omega) (by omega) (by omega) (by rw [hv]; rfl) (by decide) (lc_27 lf hi iv nx)
        · exact z_tableIn (pc := 33) (tgt := 1107) dL_law_33 (by omega) (by omega) (by omega) (by rw [hv]; rfl) (by decide) (lc_28 lf hi iv nx)
        · exact z_tableIn (pc := 33) (tgt := 1130) dL_law_33 (by omega) (by omega) (by omega) (by rw [hv]; rfl) (by decide) (lc_29 lf hi iv nx)
        · exact z_tableIn (pc := 33) (tgt := 1163) dL_law_33 (by omega) (by omega) (by omega) (by rw [hv]; rfl) (by decide) (lc_30 lf hi iv nx)
        · exact z_tableIn (pc := 33) (tgt := 1206) dL_law_33 (by omega) (by omega) (by omega) (by rw [hv]; rfl) (by decide) (lc_31 lf hi iv nx)
        · exact z_tableIn (pc := 33) (tgt := 1219) dL_law_33 (by omega) (by omega) (by omega) (by rw [hv]; rfl) (by decide) (lc_32 lf hi iv nx)
        · exact z_tableIn (pc := 33) (tgt := 1232) dL_law_33 (by omega) (by omega) (by omega) (by rw [hv]; rfl) (by decide) (lc_33 lf hi iv nx)
        · exact z_tableIn (pc := 33) (tgt := 1245) dL_law_33 (by omega) (by omega) (by omega) (by rw [hv]; rfl) (by decide) (lc_34 lf hi iv nx)
        · exact z_tableIn (pc := 33) (tgt := 1268) dL_law_33 (by omega) (by omega) (by omega) (by rw [hv]; rfl) (by decide) (lc_35 lf hi iv nx)
      · exact z_tableOut (pc := 33) (tgt := 1291) dL_law_33 (by omega) (by omega) (by decide) (nx g gv gk ik tc tn to ts te tu bi si sv fd mg mi ft fb ff fl so be tE va wd gd iv)
end LL
