theorem ch_ok : ∀ n : Nat, n < 128 → ((iI (n : Int) &&& iI 255).toUInt32 % 65536).toInt32 = iI (n : Int) ∧ narrow .char (.int (iI (n : Int))) = .int (iI (n : Int)) := by decide +kernel
theorem ch_and {y : Int} (h : isL y) : ((iI y &&& iI 255).toUInt32 % 65536).toInt32 = iI y := by
  obtain ⟨n, rfl⟩ := Int.eq_ofNat_of_zero_le (show 0 ≤ y by omega)
  exact (ch_ok n (by omega)).1
theorem ch_nar {y : Int} (h : isL y) : narrow .char (.int (iI y)) = .int (iI y) := by
  obtain ⟨n, rfl⟩ := Int.eq_ofNat_of_zero_le (show 0 ≤ y by omega)
  exact (ch_ok n (by omega)).2
theorem yW_isL {i : Nat} {z : Int} (hi : i < 10) (hz : 0 ≤ z ∧ z < lW i) : isL (yW i z) := by
  have h := ((xsI_ok i hi).2.2.2.2 z.toNat (by unfold lW at hz; omega)).1
  rwa [Int.toNat_of_nonneg hz.1] at h
theorem lW_rng {i : Nat} (hi : i < 10) : 1 ≤ lW i ∧ lW i ≤ 12 := by
  have h := xsI_ok i hi
  unfold lW
  omega
section ZS
variable {p : Program} {l : Launch} {e : Env} {R : Room} {s : State} {m : MethodId} {args : Array Value} {below : List Frame} {meth : Method} {c : Code} {cells slots : Nat} {Q : State → Prop} {cc : ByteArray} {own : String} {nL : Nat} {rt : Option FieldType} {D : va_G} {cI cJ cB cS : ClassId} {xa : XA} {A : Nat → Prop} {ws ws2 : va_W} {lv lv2 : List (Nat × Value)} {pc : Nat} {st : List Value}
theorem z_sval {index i : Nat} (hi : i < 10) (hlink : Cond.fieldLink own index "java/lang/String" "value" "[B" ∈ gt) (hdg : decode cc pc = .ok (.getfield index, 3)) (k : Z p l e R s m args below meth c cells slots Q cc own nL rt D cI cJ cB cS xa A ws (lv) (pc + 3) (.ref (xa.2.2 i) :: st)) : Z p l e R s m args below meth c cells slots Q cc own nL rt D cI cJ cB cS xa A ws (lv) (pc) (.ref (xa.2.1 i) :: st) := by
  intro F H locs ls hP hD hS hl
  obtain ⟨hx, hb, hml, hown, hts, hK, hlk, hrt, hXF, hce, hsl⟩ := id F
  exact vk_getf hx hb (hXF.2.2.1.1 i hi).2.2.1 hS hown (hts _ hlink) (fun _ h => h) hdg (k F H locs ls hP hD hS hl)
theorem z_scod {index i : Nat} (hi : i < 10) (hlink : Cond.fieldLink own index "java/lang/String" "coder" "B" ∈ gt) (hdg : decode cc pc = .ok (.getfield index, 3)) (k : Z p l e R s m args below meth c cells slots Q cc own nL rt D cI cJ cB cS xa A ws (lv) (pc + 3) (.int (iI 0) :: st)) : Z p l e R s m args below meth c cells slots Q cc own nL rt D cI cJ cB cS xa A ws (lv) (pc) (.ref (xa.2.1 i) :: st) := by
  intro F H locs ls hP hD hS hl
  obtain ⟨hx, hb, hml, hown, hts, hK, hlk, hrt, hXF, hce, hsl⟩ := id F
  exact vk_getf hx hb (v := .int (iI 0)) (by rw [iI_0]; exact (hXF.2.2.1.1 i hi).2.1) hS hown (hts _ hlink) (fun _ h => h) hdg (k F H locs ls hP hD hS hl)
theorem z_gCS {index : Nat} (hlink : Cond.fieldLink own index "java/lang/String" "COMPACT_STRINGS" "Z" ∈ gt) (hdg : decode cc pc = .ok (.getstatic index, 3)) (k : Z p l e R s m args below meth c cells slots Q cc own nL rt D cI cJ cB cS xa A ws (lv) (pc + 3) (.int (iI 1) :: st)) : Z p l e R s m args below meth c cells slots Q cc own nL rt D cI cJ cB cS xa A ws (lv) (pc) (st) := by
  intro F H locs ls hP hD hS hl
  obtain ⟨hx, hb, hml, hown, hts, hK, hlk, hrt, hXF, hce, hsl⟩ := id F
  exact va_gets hx hb (v := .int (iI 1)) (by rw [show iI 1 = 1 by decide]; exact hXF.2.2.2.2.1) hS hown (hts _ hlink) (fun _ h => h) hdg (k F H locs ls hP hD hS hl)
theorem z_gFM {index : Nat} (hlink : Cond.fieldLink own index "jdk/internal/util/Preconditions" "SIOOBE_FORMATTER" "Ljava/util/function/BiFunction;" ∈ gt) (hdg : decode cc pc = .ok (.getstatic index, 3)) (k : ∀ v : Value, v.category = 1 → Z p l e R s m args below meth c cells slots Q cc own nL rt D cI cJ cB cS xa A ws (lv) (pc + 3) (v :: st)) : Z p l e R s m args below meth c cells slots Q cc own nL rt D cI cJ cB cS xa A ws (lv) (pc) (st) := by
  intro F H locs ls hP hD hS hl
  obtain ⟨hx, hb, hml, hown, hts, hK, hlk, hrt, hXF, hce, hsl⟩ := id F
  rcases hXF.2.2.2.2.2 with h | ⟨t, h⟩
  · exact va_gets hx hb h hS hown (hts _ hlink) (fun _ h => h) hdg (k _ rfl F H locs ls hP hD hS hl)
  · exact va_gets hx hb h hS hown (hts _ hlink) (fun _ h => h) hdg (k _ rfl F H locs ls hP hD hS hl)
theorem z_slen {i : Nat} (hi : i < 10) (hdg : decode cc pc = .ok (.arraylength, 1)) (k : Z p l e R s m args below meth c cells slots Q cc own nL rt D cI cJ cB cS xa A ws (lv) (pc + 1) (.int (iI (lW i)) :: st)) : Z p l e R s m args below meth c cells slots Q cc own nL rt D cI cJ cB cS xa A ws (lv) (pc) (.ref (xa.2.2 i) :: st) := by
  intro F H locs ls hP hD hS hl
  obtain ⟨hx, hb, hml, hown, hts, hK, hlk, hrt, hXF, hce, hsl⟩ := id F
  obtain ⟨cell, h1, h2, h3, h4, h5, h6, h7⟩ := (hXF.2.2.1.1 i hi).2.2.2.kept hS.2.1
  exact W.alen (n := iI (lW i)) hx hb h1 h2 (by rw [h5]; unfold lW; rw [iI_nat]; rfl) rfl rfl hdg (k F H locs ls hP hD hS hl)
theorem z_sald {i : Nat} {z : Int} (hi : i < 10) (hdg : decode cc pc = .ok (.baload, 1)) (hz : 0 ≤ z ∧ z < lW i) (k : Z p l e R s m args below meth c cells slots Q cc own nL rt D cI cJ cB cS xa A ws (lv) (pc + 1) (.int (iI (yW i z)) :: st)) : Z p l e R s m args below meth c cells slots Q cc own nL rt D cI cJ cB cS xa A ws (lv) (pc) (.int (iI z) :: .ref (xa.2.2 i) :: st) := by
  intro F H locs ls hP hD hS hl
  obtain ⟨hx, hb, hml, hown, hts, hK, hlk, hrt, hXF, hce, hsl⟩ := id F
  obtain ⟨cell, h1, h2, h3, h4, -, h6, h7⟩ := (hXF.2.2.1.1 i hi).2.2.2.kept hS.2.1
  have hl12 := lW_rng hi
  have ec : (iI z).toNatClampNeg = z.toNat := iI_clamp hz.1 (by omega)
  have ex := ((xsI_ok i hi).2.2.2.2 z.toNat (by unfold lW at hz; omega)).2
  refine W.bald hx hb h1 h2 h3 (fun q => ?_) (v := .int (iI (yW i z))) ?_ rfl rfl hdg (k F H locs ls hP hD hS hl)
  · rcases q with q | q
    · rw [← iI_0, iI_lt ⟨by omega, by omega⟩ (by decide)] at q; omega
    · rw [ec] at q; unfold lW at hz; omega
  · rw [ec, h6 _ (by unfold lW at hz; omega)]
    show some (Value.int ((xsB.getD i []).getD z.toNat 0)) = _
    rw [ex, Int.toNat_of_nonneg hz.1]
theorem z_chr {y : Int} (h : isL y) (hdg : decode cc pc = .ok (.i2c, 1)) (k : Z p l e R s m args below meth c cells slots Q cc own nL rt D cI cJ cB cS xa A ws (lv) (pc + 1) (.int (iI y) :: st)) : Z p l e R s m args below meth c cells slots Q cc own nL rt D cI cJ cB cS xa A ws (lv) (pc) (.int (iI y &&& iI 255) :: st) := by
  intro F H locs ls hP hD hS hl
  obtain ⟨hx, hb, hml, hown, hts, hK, hlk, hrt, hXF, hce, hsl⟩ := id F
  exact lv_i2c hx hb hdg (ch_and h) (k F H locs ls hP hD hS hl)
theorem z_callVS {index maxL fr lo n i : Nat} {y : MethodName} {bytes : ByteArray} {ret : Option FieldType} {As : List Value} {O : Option Value} (hM : Ct l D cI cJ cB cS xa y bytes maxL ret fr lo (.ref (xa.2.1 i) :: As) [] O []) (ff : MV y bytes maxL ret n) (hlink : Cond.methodLink own index y ∈ gt) (hdg : decode cc pc = .ok (.invokevirtual index, 3)) (hi : i < 10) (hcls : y.cls = "java/lang/String") (hn : As.length = n) {st0 st2 : List Value} (hst : As.reverse ++ .ref (xa.2.1 i) :: st = st0) (hst2 : O.toList ++ st = st2) (hR : fr + 1 ≤ R.frames ∧ 8 + (maxL + 11) + lo ≤ R.locals ∧ (st.map fun v => v.category).sum ≤ 8) (k : Z p l e R s m args below meth c cells slots Q cc own nL rt D cI cJ cB cS xa A ws (lv) (pc + 3) (st2)) : Z p l e R s m args below meth c cells slots Q cc own nL rt D cI cJ cB cS xa A ws (lv) (pc) (st0) := by
  intro F H locs ls hP hD hS hl
  obtain ⟨hx, hb, hml, hown, hts, hK, hlk, hrt, hXF, hce, hsl⟩ := id F
  obtain ⟨f1, f2, f3, f4, f5⟩ := ff
  subst hst
  obtain ⟨hR1, hR2, hR3⟩ := hR
  have hC : ([] : List Nat).map (fun i => ws[i]?) = ([] : va_W).map some := rfl
  have hAc : ∀ q, va_A0 [] q → A q := va_A0.sub hD hC
  have hPc : va_P D vwCl [] H := hP.pick hC
  have hDc : va_D (fun _ => True) ([] : va_W) := (hD.sub [] rfl hC).weaken (fun _ _ _ _ => trivial)
  have hcb := callB_of (R := R) (s := s) (args := args) (own := own) (index := index) (y := y) (bytes := bytes) (maxL := maxL) (ret := ret) (ws := Cond.code y bytes maxL ret :: gt) (rm := { frames := fr, cells := 0, slots := 0, locals := lo }) (mc := 0) (ms := 0) n hts (gt_GoodIn f1) rfl rfl rfl (hts _ f4) (hts _ hlink) f5 ⟨hR1, hR2⟩
  have run := va_runV (g := F0 m pc ls (As.reverse ++ .ref (xa.2.1 i) :: st)) (p := p) (l := l) (e := e) (below := below) (meth := meth) (locs := locs) (cells := cells) (slots := slots) (H := H) (As := As) (rest := st) (b := xa.2.1 i) (C := y.cls) (Ts := gt) ⟨hx, hb, hml, hown, hts⟩ hM ⟨hcb, hts _ f2, hts _ f3⟩ ⟨Cp.blind, by rw [hcls]; exact vk_recv hXF.2.2.1 hi hS, fun U hU hW => ⟨rfl, by rw [hU]; exact hPc, va_K.moved hW.alike hK, hDc, by rw [hU]; exact hXF.go hS hW hAc⟩⟩ rfl hn hl.1 rfl (lv_room hR3) hdg ⟨hce, hsl⟩
  intro T hT X
  obtain ⟨v, st₀, t, T', L, h0, X', hL, e1, e2, ⟨u, hu, hv, hP1, hF⟩, stp⟩ := run T hT X
  cases hv
  obtain ⟨hz, hk⟩ := hF
  rw [h0] at hz hk
  obtain ⟨t2, a1, b1⟩ := k F T'.heap (locs ++ L) ls (by rw [e1]; exact rp_P hP hD hC rfl hk hP1) hD
    ⟨Nat.le_trans hS.1 (by rw [e1]; exact hz), fun q h1 h2 => by rw [e1, hk q (Nat.lt_of_lt_of_le h1 hS.1) (fun z => h2 (hAc q z))]; exact hS.2.1 q h1 h2, fun q hq => by
      rcases List.mem_append.mp hq with h | h
      · exact hS.2.2 q h
      · exact hAc _ (hL q h)⟩ hl T' rfl X'
  subst hst2
  exact ⟨t2, stp t2 a1, b1⟩
end ZS
def nmI (k : Int) : Nat := if k = 0 then 7 else (k + 1).toNat
theorem nmI_lt {k : Int} (h : 0 ≤ k ∧ k ≤ 5) : nmI k < 10 := by
  unfold nmI; split <;> omega
theorem sb_eq {v c : Int} (hv : 0 ≤ v ∧ v < 256) (hc : 0 ≤ c ∧ c < 128) : sb v = c ↔ v = c := by
  unfold sb; split <;> omega
theorem sb_rng {v : Int} (hv : 0 ≤ v ∧ v < 256) : -128 ≤ sb v ∧ sb v < 128 ∧ (v < 128 → sb v = v) ∧ (128 ≤ v → sb v < 0) := by
  unfold sb; split <;> omega
theorem tT_S (tc : FF) (tn p : Int) : (tT tc tn p = 0 ↔ tS tc tn p = 0) ∧ (tT tc tn p = 1 ↔ tS tc tn p = 1) ∧ (tT tc tn p = 2 ↔ tS tc tn p = 2) ∧ (tT tc tn p = 3 ↔ tS tc tn p = 3 ∧ tV tc tn p = 59) ∧ 0 ≤ tT tc tn p ∧ tT tc tn p ≤ 4 := by
  have r := tS_rng tc tn p
  unfold tT tV
  by_cases q : tS tc tn p = 3
  · rw [if_pos q, if_neg (show ¬ tS tc tn p = 2 by omega)]
    split <;> omega
  · rw [if_neg q]; omega
theorem tU_V {tc : FF} {tn p : Int} (h : OkT tc tn) (h0 : 0 ≤ p ∧ p ≤ tn) : 0 ≤ tU tc tn p ∧ tU tc tn p ≤ 1000 ∧ (tS tc tn p = 2 → tU tc tn p = min (tV tc tn p) 1000) := by
  have r := tV_rng h h0
  unfold tU
  split
  · have := r.2.2 (by assumption)
    exact ⟨by omega, by omega, fun _ => rfl⟩
  · exact ⟨by omega, by omega, fun z => absurd z (by assumption)⟩
theorem kdT_at {tc : FF} {tn p k : Int} (h : 0 ≤ k ∧ k ≤ 5) (hn : ∀ j : Int, 0 ≤ j → j < k → ¬ kw (nmI j) tc tn p) (hk : kw (nmI k) tc tn p) : kdT tc tn p = k := by
  unfold kdT
  have n0 : 0 < k → ¬ kw 7 tc tn p := fun z => hn 0 (by omega) z
  have n1 : 1 < k → ¬ kw 2 tc tn p := fun z => hn 1 (by omega) z
  have n2 : 2 < k → ¬ kw 3 tc tn p := fun z => hn 2 (by omega) z
  have n3 : 3 < k → ¬ kw 4 tc tn p := fun z => hn 3 (by omega) z
  have n4 : 4 < k → ¬ kw 5 tc tn p := fun z => hn 4 (by omega) z
  rcases (show k = 0 ∨ k = 1 ∨ k = 2 ∨ k = 3 ∨ k = 4 ∨ k = 5 by omega) with rfl | rfl | rfl | rfl | rfl | rfl
  · rw [if_pos (show kw 7 tc tn p from hk)]
  · rw [if_neg (n0 (by decide)), if_pos (show kw 2 tc tn p from hk)]
  · rw [if_neg (n0 (by decide)), if_neg (n1 (by decide)), if_pos (show kw 3 tc tn p from hk)]
  · rw [if_neg (n0 (by decide)), if_neg (n1 (by decide)), if_neg (n2 (by decide)), if_pos (show kw 4 tc tn p from hk)]
  · rw [if_neg (n0 (by decide)), if_neg (n1 (by decide)), if_neg (n2 (by decide)), if_neg (n3 (by decide)), if_pos (show kw 5 tc tn p from hk)]
  · rw [if_neg (n0 (by decide)), if_neg (n1 (by decide)), if_neg (n2 (by decide)), if_neg (n3 (by decide)), if_neg (n4 (by decide)), if_pos (show kw 6 tc tn p from hk)]
theorem kdT_no {tc : FF} {tn p : Int} (hn : ∀ j : Int, 0 ≤ j → j < 6 → ¬ kw (nmI j) tc tn p) : kdT tc tn p = -1 := by
  unfold kdT
  rw [if_neg (show ¬ kw 7 tc tn p from hn 0 (by omega) (by omega)), if_neg (show ¬ kw 2 tc tn p from hn 1 (by omega) (by omega)), if_neg (show ¬ kw 3 tc tn p from hn 2 (by omega) (by omega)), if_neg (show ¬ kw 4 tc tn p from hn 3 (by omega) (by omega)), if_neg (show ¬ kw 5 tc tn p from hn 4 (by omega) (by omega)), if_neg (show ¬ kw 6 tc tn p from hn 5 (by omega) (by omega))]
theorem kw_ne {tc : FF} {tn p : Int} {i j : Nat} (h : kw i tc tn p) (hne : xsH.getD i 0 ≠ xsH.getD j 0) : ¬ kw j tc tn p := fun z => hne (h.2.symm.trans z.2)
theorem kd_push {tc : FF} {tn p : Int} (h : kw 0 tc tn p) : ¬ 0 ≤ kdT tc tn p := by
  have e : kdT tc tn p = -1 := by
    unfold kdT
    rw [if_neg (kw_ne h (by decide)), if_neg (kw_ne h (by decide)), if_neg (kw_ne h (by decide)), if_neg (kw_ne h (by decide)), if_neg (kw_ne h (by decide)), if_neg (kw_ne h (by decide))]
  omega
theorem kd_dark {tc : FF} {tn p : Int} (h : kw 1 tc tn p) : ¬ 0 ≤ kdT tc tn p := by
  have e : kdT tc tn p = -1 := by
    unfold kdT
    rw [if_neg (kw_ne h (by decide)), if_neg (kw_ne h (by decide)), if_neg (kw_ne h (by decide)), if_neg (kw_ne h (by decide)), if_neg (kw_ne h (by decide)), if_neg (kw_ne h (by decide))]
  omega
def ptG (i : Nat) (tc : FF) (tn b d p : Int) (g : Gd) (w c : Int) : Gd := if (ptT i tc tn b d p).1 = 1 then up2 g w c (ptT i tc tn b d p).2.2 else g
theorem lW_shN : ∀ i : Nat, i < 10 → (iI (lW i) >>> (iI 0 &&& 31)) = iI (lW i) := by decide +kernel
theorem addG_1 (g : Gd) (k a b : Int) : addG g k a b 1 (g 4 2) = a := by
  unfold addG up2
  try dsimp only
  repeat' split
  all_goals first | rfl | omega | (exfalso; omega)
theorem addG_2 (g : Gd) (k a b : Int) : addG g k a b 2 (g 4 2) = b := by
  unfold addG up2
  try dsimp only
  repeat' split
  all_goals first | rfl | omega | (exfalso; omega)
theorem nm_u {tc : FF} {tn p a b : Int} (h : nm tc tn p a b) (hb : b ≤ 999) (hT : OkT tc tn) (h0 : 0 ≤ p ∧ p ≤ tn) : tU tc tn p = tV tc tn p := by
  have := (tU_V hT h0).2.2 h.1
  have := h.2.2
  omega
theorem tE_L {tc : FF} {tn p : Int} (h : tS tc tn p = 1) : tE tc tn p - tB tc tn p = lnL tc tn (tB tc tn p) := by
  unfold tE; rw [if_neg (by omega), if_pos h]; omega
