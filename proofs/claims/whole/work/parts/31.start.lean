/-! THE CLAIM OUT OF ONE WALK OF THE LAW'S BODY. Your part is whole_start (and what it stands on); all else here is the same for every law, but numbers. -/
def R_law : String := "OwingSwingsLaw"
def lw_P (b : Addr) (xs : List Int32) (args : Array Value) (s : State) : Prop := args = #[.ref b] ∧ s.IntsAt b xs ∧ xs.length ≤ 3072 ∧ (Jvm.Cond.and given_1 narrow_1).before args s = true
def lw_Q (_ : Array Value) (s : State) (o : Outcome) (t : State) : Prop := o = .returned (some (.int 1)) ∧ Framed s o t [] 600000 7302250
def lw_Z (below : List Frame) (a : Array Value) (s : State) : State → Prop := fun t => ∃ o, t.status = .running ∧ Ended t below o ∧ lw_Q a s o t
/-- the law's own end, with 1 on the stack, nothing written that was there before, its room as the claim has it -/
theorem lw_ret {p : Program} {l : Launch} {e : Env} {s : State} {m : MethodId} {below : List Frame} {meth : Method} {c : Code} {b : Nat} (hx : p.tables.exec = Jvm.exec) (hb : c.code = code) (hr : meth.sig.returnType = ret) (hlocks : meth.locks = false) {pc : Nat} {H : Heap} {ls : Array Slot} (hdg : decode code pc = .ok (.ireturn, 1)) : W p l e room_1 s m #[Value.ref b] below meth c H [] 600000 7302250 (lw_Z below #[Value.ref b] s) (F0 m pc ls [.int 1]) := by
  intro T hT X
  obtain ⟨fs, hret, hrun, hended, hW, hframe⟩ := X.leave (v := some (.int 1)) (hlocks := hlocks) (fun h => by rw [hr] at h; cases h)
  have hmeth' : T.vm.method? m = some meth := X.method'
  refine ⟨T.setFrames fs, ?_, .returned (some (.int 1)), hrun, hended, rfl, ⟨_, rfl⟩, hW, hframe⟩
  jvm_step X.here [X.here.top, hx, hb, hdg, hmeth', hr, ret, narrow_b1]
  (try refine ⟨rfl, ?_⟩); (try refine ⟨rfl, ?_⟩)
  first | (intro acts; rw [hret _ acts rfl rfl rfl]) | rw [hret _ _ rfl rfl rfl]
  exact Steps.refl _
/-- what holds at the law's entry: the machine, the code, the tables' words (any of lw_tbl by 'hts w (by decide +kernel)'), the script of L ints xs at the cell b, what the Statement gives of the start (any of its parts by flat_of_before) -/
def lw_At (p : Program) (s : State) (m : MethodId) (meth : Method) (c : Code) (b L : Nat) (xs : Nat → Int32) : Prop :=
  p.tables.exec = Jvm.exec ∧ c.code = code ∧ meth.sig.returnType = ret ∧ c.maxLocals = 4 ∧ s.vm.findClass R_law = some m.cls ∧ (∀ w ∈ lw_tbl, w.before #[Value.ref b] s = true) ∧ va_X b L xs s s.heap ∧ b < s.heap.size ∧ meth.locks = false ∧ (Jvm.Cond.and given_1 narrow_1).before #[Value.ref b] s = true
set_option maxHeartbeats 4000000 in
set_option maxRecDepth 100000 in
theorem law_end {p : Program} {e : Env} {s : State} {m : MethodId} {below : List Frame} {meth : Method} {c : Code} {l : Launch} {b cells slots : Nat} {D : va_G} {cI cJ cB cS : ClassId} {xa : XA} (ws : va_W) (lv : List (Nat × Value)) : Z p l e room_1 s m #[Value.ref b] below meth c cells slots (lw_Z below #[Value.ref b] s) cL_law RL 4 ret D cI cJ cB cS xa (fun q : Nat => s.heap.size ≤ q) ws lv 1297 [] := by
  refine z_iconst (pc := 1297) dL_law_1297 ?_
  intro F H locs ls hP hD hS hl
  obtain ⟨hx, hb, hml, hown, hts, hK, hlk, hrt, hXF, hce, hsl⟩ := id F
  refine va_forget hS.2.2 (W.widen hce hsl ?_)
  rw [show iI 1 = (1 : Int32) by decide]
  exact lw_ret hx hb hrt hlk dL_law_1298
set_option maxHeartbeats 8000000 in
set_option maxRecDepth 100000 in
theorem start_XF {s : State} {b : Nat} (hts : ∀ w ∈ lw_tbl, w.before #[Value.ref b] s = true) (hgv : (Jvm.Cond.and given_1 narrow_1).before #[Value.ref b] s = true) : ∃ xa : XA, XF xa (fun q : Nat => s.heap.size ≤ q) s s.heap := by
  have hn := flat_of_before _ hgv
  have hA0 : ∀ a : Nat, a < s.heap.size → ¬ (fun q : Nat => s.heap.size ≤ q) a := fun a h => Nat.not_le.mpr h
  obtain ⟨t0, e0, hT0⟩ := va_Tof (tm := .static "OwingSwings$Ground" "KIND_ABOVE" "[I") (ty := .int) (N := 6) (f := xKA) (A := fun q : Nat => s.heap.size ≤ q) (by decide) (hn _ (by decide +kernel)) (va_eqt (z := Int32.ofNat 6) (hn _ (by decide +kernel))) (fun j hj => va_eqt (z := (([-1, 0, 0, 0, 1, 2] : List Int32).getD j 0)) (hn _ ((show ∀ j : Nat, j < 6 → Cond.eq (.elem (.static "OwingSwings$Ground" "KIND_ABOVE" "[I") (.int (Int32.ofNat j))) (.int (([-1, 0, 0, 0, 1, 2] : List Int32).getD j 0)) ∈ flatC (Jvm.Cond.and given_1 narrow_1) by decide +kernel) j hj))) hA0
  obtain ⟨adK, adV, hS9, hE⟩ := vk_Sof (args := #[Value.ref b]) (s := s) (N := 10) (tm := fun i => .string "OwingSwings$Tape" (xsI.getD i 0)) (len := xsL) (byt := xsB) (A := fun q : Nat => s.heap.size ≤ q) (by decide)
    (fun i hi => hn _ ((show ∀ i : Nat, i < 10 → Cond.exactly (.string "OwingSwings$Tape" (xsI.getD i 0)) "java/lang/String" ∈ flatC (Jvm.Cond.and given_1 narrow_1) by decide +kernel) i hi))
    (fun i hi => hn _ ((show ∀ i : Nat, i < 10 → Cond.eq (.field (.string "OwingSwings$Tape" (xsI.getD i 0)) "java/lang/String" "coder" "B") (.int 0) ∈ flatC (Jvm.Cond.and given_1 narrow_1) by decide +kernel) i hi))
    (fun i hi => hn _ ((show ∀ i : Nat, i < 10 → Cond.arrayOf (.field (.string "OwingSwings$Tape" (xsI.getD i 0)) "java/lang/String" "value" "[B") .byte ∈ flatC (Jvm.Cond.and given_1 narrow_1) by decide +kernel) i hi))
    (fun i hi => hn _ ((show ∀ i : Nat, i < 10 → Cond.eq (.length (.field (.string "OwingSwings$Tape" (xsI.getD i 0)) "java/lang/String" "value" "[B")) (.int (Int32.ofNat (xsL.getD i 0))) ∈ flatC (Jvm.Cond.and given_1 narrow_1) by decide +kernel) i hi))
    (fun i hi j hj => hn _ ((show ∀ i : Nat, i < 10 → ∀ j : Nat, j < xsL.getD i 0 → Cond.eq (.elem (.field (.string "OwingSwings$Tape" (xsI.getD i 0)) "java/lang/String" "value" "[B") (.int (Int32.ofNat j))) (.int ((xsB.getD i []).getD j 0)) ∈ flatC (Jvm.Cond.and given_1 narrow_1) by decide +kernel) i hi j hj))
    (fun i j hi hj hne => by
      rcases (show ∀ i : Nat, i < 10 → ∀ j : Nat, j < 10 → i ≠ j → Cond.not (Cond.eq (.string "OwingSwings$Tape" (xsI.getD i 0)) (.string "OwingSwings$Tape" (xsI.getD j 0))) ∈ flatC (Jvm.Cond.and given_1 narrow_1) ∨ Cond.not (Cond.eq (.string "OwingSwings$Tape" (xsI.getD j 0)) (.string "OwingSwings$Tape" (xsI.getD i 0))) ∈ flatC (Jvm.Cond.and given_1 narrow_1) by decide +kernel) i hi j hj hne with h | h
      · exact Or.inl (hn _ h)
      · exact Or.inr (hn _ h)) hA0
  refine ⟨(t0, adK, adV), va_Zref (hts (.laysStatic "OwingSwings$Ground" "KIND_ABOVE" "[I") (List.mem_of_getElem? (i := 318) (by decide +kernel))) (hts (.initialized "OwingSwings$Ground") (List.mem_filter.mp kI_X0).1) e0 hA0, hT0, hS9, fun i hi => vk_R.of (A := #[Value.ref b]) (hts _ ((show ∀ i : Nat, i < 10 → Cond.stringRef "OwingSwings$Tape" (xsI.getD i 0) (xsT.getD i "") ∈ lw_tbl by decide +kernel) i hi)) (hE i hi), va_Zof (hts (.laysStatic "java/lang/String" "COMPACT_STRINGS" "Z") (List.mem_of_getElem? (i := 506) (by decide +kernel))) (hts (.initialized "java/lang/String") (by decide +kernel)) (va_eqt (z := 1) (hn _ (by decide +kernel))) hA0, va_Zqof (hts (.laysStatic "jdk/internal/util/Preconditions" "SIOOBE_FORMATTER" "Ljava/util/function/BiFunction;") (List.mem_of_getElem? (i := 522) (by decide +kernel))) (hts (.initialized "jdk/internal/util/Preconditions") (by decide +kernel)) (hn _ (by decide +kernel)) hA0⟩
set_option maxHeartbeats 4000000 in
theorem start_K {s : State} {b : Nat} (hts : ∀ w ∈ lw_tbl, w.before #[Value.ref b] s = true) : ∃ (D : va_G) (cI cJ cB cS : ClassId), va_K D vwCl (TY cI cJ cB cS) s ∧ va_AO "OwingSwings$Sheet" s := by
  have hg : ∀ w ∈ gt, w.before #[Value.ref b] s = true := fun w hw => hts w (List.mem_filter.mp hw).1
  obtain ⟨c0, i0, k0⟩ := u_known (C := RX0) (T := TX0) (N := 7) (n := 7) hg uX0 (hg _ kN_X0)
  obtain ⟨c1, i1, k1⟩ := u_known (C := RX1) (T := TX1) (N := 3) (n := 3) hg uX1 (hg _ kN_X1)
  obtain ⟨c2, i2, k2⟩ := u_known (C := RX2) (T := TX2) (N := 6) (n := 6) hg uX2 (hg _ kN_X2)
  obtain ⟨c3, i3, k3⟩ := u_known (C := RX3) (T := TX3) (N := 7) (n := 7) hg uX3 (hg _ kN_X3)
  obtain ⟨c4, i4, k4⟩ := u_known (C := RX4) (T := TX4) (N := 19) (n := 19) hg uX4 (hg _ kN_X4)
  have prim : ∀ ty : FieldType, Cond.arrayClass ty ∈ gt → ∃ (cA : ClassId) (kA : Class) (comp : ClassId), s.vm.findClass ("[" ++ ty.toString) = some cA ∧ s.vm.classes[cA]? = some kA ∧ kA.kind = .array comp ty := fun ty h => Cond.arrayClass_spec (hg _ h)
  obtain ⟨cI, kI, pI, a1, a2, a3⟩ := prim .int kA_int
  obtain ⟨cJ, kJ, pJ, b1, b2, b3⟩ := prim .long kA_long
  obtain ⟨cB, kB, pB, d1, d2, d3⟩ := prim .byte kA_byte
  have hAw : (Cond.arrayOver (.object "OwingSwings$Sheet")).before #[Value.ref b] s = true := (hts (.arrayOver (.object "OwingSwings$Sheet")) (List.mem_of_getElem? (i := 154) (by decide +kernel)))
  obtain ⟨comp, cS, kS, e1, e2, e3, e4, e5⟩ := Cond.arrayOver_spec hAw
  refine ⟨(fun k => if k = 0 then c0 else if k = 1 then c1 else if k = 2 then c2 else if k = 3 then c3 else c4, fun k => if k = 0 then i0 else if k = 1 then i1 else if k = 2 then i2 else if k = 3 then i3 else i4), cI, cJ, cB, cS, ⟨fun k q hq => ?_, fun k q hq => ?_⟩, va_AO.of (A := #[Value.ref b]) hAw⟩
  · match k, hq with
    | 0, hq => cases hq; exact k0
    | 1, hq => cases hq; exact k1
    | 2, hq => cases hq; exact k2
    | 3, hq => cases hq; exact k3
    | 4, hq => cases hq; exact k4
    | k + 5, hq => simp [vwCl] at hq
  · match k, hq with
    | 0, hq => cases hq; exact ⟨fun n z => ⟨fun k h => (by cases h), kI, a2, pI, a3⟩, a1⟩
    | 1, hq => cases hq; exact ⟨fun n z => ⟨fun k h => (by cases h), kJ, b2, pJ, b3⟩, b1⟩
    | 2, hq => cases hq; exact ⟨fun n z => ⟨fun k h => (by cases h), kB, d2, pB, d3⟩, d1⟩
    | 3, hq => cases hq; exact ⟨fun n z => ⟨fun k h => (by cases h), kS, e3, comp, e4⟩, ⟨kS, comp, e3, e4, e1, e5⟩⟩
    | k + 4, hq => simp at hq
theorem agr_N : agr gN gN := agr.rfl' gN
theorem ok_00 : Ok g00 := ⟨by decide, by decide, by decide, fun c => ⟨by show (0 : Int) ≤ 0 ∧ (0 : Int) ≤ 5; decide, by show (0 : Int) ≤ 0 ∧ (0 : Int) ≤ 200; decide, by show (0 : Int) ≤ 0 ∧ (0 : Int) ≤ 99; decide, by show (-9999 : Int) ≤ 0 ∧ (0 : Int) ≤ 9999; decide⟩⟩
theorem ok_N : Ok gN := ok_00.up1 (by decide)
theorem inv_N : Inv gN gN gN 0 f00 0 f00 f00 gN g00 := ⟨ok_N, ok_N, ok_N, ok_N, ok_00, agr_N, by rw [gN_0]; decide, by rw [gN_0]; decide, Or.inl rfl, fun z => absurd z (by decide), ⟨fun k => by show (0 : Int) ≤ 0 ∧ (0 : Int) < 256; decide, by decide, by decide⟩, fun s _ => by show ((0 : Int) ≤ 0 ∧ (0 : Int) ≤ 64) ∧ (0 : Int) ≤ 0 ∧ (0 : Int) ≤ 40; decide⟩
set_option maxHeartbeats 8000000 in
set_option maxRecDepth 100000 in
theorem law_start {p : Program} {e : Env} {s : State} {m : MethodId} {below : List Frame} {meth : Method} {c : Code} {l : Launch} {b L : Nat} {xs : Nat → Int32} {D : va_G} {cI cJ cB cS : ClassId} {xa : XA} (hL : L ≤ 3072) (hX : va_X b L xs s s.heap) (hbl : b < s.heap.size) (hAO : va_AO "OwingSwings$Sheet" s) : Z p l e room_1 s m #[Value.ref b] below meth c 0 0 (lw_Z below #[Value.ref b] s) cL_law RL 4 ret D cI cJ cB cS xa (fun q : Nat => s.heap.size ≤ q) [] [(0, .ref b)] 0 [] := by
  have hA : ∀ q : Nat, s.heap.size ≤ q → (fun q : Nat => s.heap.size ≤ q) q := fun _ h => h
  have hbA : ¬ (fun q : Nat => s.heap.size ≤ q) b := Nat.not_le.mpr hbl
  refine z_new (pc := 0) (c2 := 1) (s2 := 7) nW_L_7 hA dL_law_0 rfl rfl (Nat.le_of_ble_eq_true rfl) (Nat.le_of_ble_eq_true rfl) (fun ax => ?_)
  refine z_ws (ws2 := [] ++ [(ax, .inr (3, [.null, .null, .null, .int (iI 0), .null, .null, .null]))]) rfl ?_
  refine z_dup (pc := 3) dL_law_3 rfl ?_
  refine z_callI (pc := 4) (wr := []) (e0 := .inr (3, [.null, .null, .null, .int (iI 0), .null, .null, .null])) (st := [.ref ax]) (c2 := 28) (s2 := 433) (c_X3_init l D cI cJ cB cS xa ax) mI_X3 kM_L_9 hA hAO dL_law_4 ⟨(Nat.le_of_ble_eq_true rfl), (Nat.le_of_ble_eq_true rfl), (Nat.le_of_ble_eq_true rfl)⟩ rfl rfl (Nat.le_of_ble_eq_true rfl) (Nat.le_of_ble_eq_true rfl) (fun u => ?_)
  refine z_ws (ws2 := [(ax, .inr (3, [.ref (u 1), .ref (u 6), .ref (u 11), .int (iI 0), .ref (u 16), .ref (u 18), .ref (u 27)])), ((u 1), .inr (0, [.int (iI (gN 4 0)), .int (iI (gN 4 1)), .int (iI (gN 4 2)), .ref (u 2), .ref (u 3), .ref (u 4), .ref (u 5)])), ((u 2), .inl (cI, 8, .inl (aG gN 0))), ((u 3), .inl (cI, 8, .inl (aG gN 1))), ((u 4), .inl (cI, 8, .inl (aG gN 2))), ((u 5), .inl (cI, 8, .inl (aG gN 3))), ((u 6), .inr (0, [.int (iI (gN 4 0)), .int (iI (gN 4 1)), .int (iI (gN 4 2)), .ref (u 7), .ref (u 8), .ref (u 9), .ref (u 10)])), ((u 7), .inl (cI, 8, .inl (aG gN 0))), ((u 8), .inl (cI, 8, .inl (aG gN 1))), ((u 9), .inl (cI, 8, .inl (aG gN 2))), ((u 10), .inl (cI, 8, .inl (aG gN 3))), ((u 11), .inr (0, [.int (iI (gN 4 0)), .int (iI (gN 4 1)), .int (iI (gN 4 2)), .ref (u 12), .ref (u 13), .ref (u 14), .ref (u 15)])), ((u 12), .inl (cI, 8, .inl (aG gN 0))), ((u 13), .inl (cI, 8, .inl (aG gN 1))), ((u 14), .inl (cI, 8, .inl (aG gN 2))), ((u 15), .inl (cI, 8, .inl (aG gN 3))), ((u 16), .inr (2, [.ref (u 17), .int (iI 0), .int (iI 0), .int (iI 0), .int (iI 0), .int (iI 0)])), ((u 17), .inl (cB, 120, .inl (tbA f00))), ((u 18), .inl (cS, 4, .inr (.inr (.inr (.inr (fsN (u 19) (u 21) (u 23) (u 25))))))), ((u 19), .inr (1, [.ref (u 20), .int (iI 0), .int (iI 0)])), ((u 20), .inl (cJ, 40, .inr (.inl (shN (v00 0))))), ((u 21), .inr (1, [.ref (u 22), .int (iI 0), .int (iI 0)])), ((u 22), .inl (cJ, 40, .inr (.inl (shN (v00 0))))), ((u 23), .inr (1, [.ref (u 24), .int (iI 0), .int (iI 0)])), ((u 24), .inl (cJ, 40, .inr (.inl (shN (v00 0))))), ((u 25), .inr (1, [.ref (u 26), .int (iI 0), .int (iI 0)])), ((u 26), .inl (cJ, 40, .inr (.inl (shN (v00 0))))), ((u 27), .inl (cI, 7, .inl (ar f00)))]) rfl ?_
  refine z_astore_n (pc := 7) (lv2 := [(1, .ref ax), (0, .ref b)]) dL_law_7 rfl (by decide) rfl ?_
  refine z_new (pc := 8) (c2 := 29) (s2 := 452) nW_L_10 hA dL_law_8 rfl rfl (Nat.le_of_ble_eq_true rfl) (Nat.le_of_ble_eq_true rfl) (fun am => ?_)
  refine z_dup (pc := 11) dL_law_11 rfl ?_
  refine z_callI (pc := 12) (wr := [(ax, .inr (3, [.ref (u 1), .ref (u 6), .ref (u 11), .int (iI 0), .ref (u 16), .ref (u 18), .ref (u 27)])), ((u 1), .inr (0, [.int (iI (gN 4 0)), .int (iI (gN 4 1)), .int (iI (gN 4 2)), .ref (u 2), .ref (u 3), .ref (u 4), .ref (u 5)])), ((u 2), .inl (cI, 8, .inl (aG gN 0))), ((u 3), .inl (cI, 8, .inl (aG gN 1))), ((u 4), .inl (cI, 8, .inl (aG gN 2))), ((u 5), .inl (cI, 8, .inl (aG gN 3))), ((u 6), .inr (0, [.int (iI (gN 4 0)), .int (iI (gN 4 1)), .int (iI (gN 4 2)), .ref (u 7), .ref (u 8), .ref (u 9), .ref (u 10)])), ((u 7), .inl (cI, 8, .inl (aG gN 0))), ((u 8), .inl (cI, 8, .inl (aG gN 1))), ((u 9), .inl (cI, 8, .inl (aG gN 2))), ((u 10), .inl (cI, 8, .inl (aG gN 3))), ((u 11), .inr (0, [.int (iI (gN 4 0)), .int (iI (gN 4 1)), .int (iI (gN 4 2)), .ref (u 12), .ref (u 13), .ref (u 14), .ref (u 15)])), ((u 12), .inl (cI, 8, .inl (aG gN 0))), ((u 13), .inl (cI, 8, .inl (aG gN 1))), ((u 14), .inl (cI, 8, .inl (aG gN 2))), ((u 15), .inl (cI, 8, .inl (aG gN 3))), ((u 16), .inr (2, [.ref (u 17), .int (iI 0), .int (iI 0), .int (iI 0), .int (iI 0), .int (iI 0)])), ((u 17), .inl (cB, 120, .inl (tbA f00))), ((u 18), .inl (cS, 4, .inr (.inr (.inr (.inr (fsN (u 19) (u 21) (u 23) (u 25))))))), ((u 19), .inr (1, [.ref (u 20), .int (iI 0), .int (iI 0)])), ((u 20), .inl (cJ, 40, .inr (.inl (shN (v00 0))))), ((u 21), .inr (1, [.ref (u 22), .int (iI 0), .int (iI 0)])), ((u 22), .inl (cJ, 40, .inr (.inl (shN (v00 0))))), ((u 23), .inr (1, [.ref (u 24), .int (iI 0), .int (iI 0)])), ((u 24), .inl (cJ, 40, .inr (.inl (shN (v00 0))))), ((u 25), .inr (1, [.ref (u 26), .int (iI 0), .int (iI 0)])), ((u 26), .inl (cJ, 40, .inr (.inl (shN (v00 0))))), ((u 27), .inl (cI, 7, .inl (ar f00)))]) (e0 := .inr (4, [.null, .null, .null, .null, .null, .int (iI 0), .int (iI 0), .int (iI 0), .int (iI 0), .long 0, .int (iI 0), .int (iI 0), .null, .null, .null, .null, .null, .null, .int (iI 0)])) (st := [.ref am]) (c2 := 40) (s2 := 962) (c_X4_init l D cI cJ cB cS xa am) mI_X4 kM_L_12 hA hAO dL_law_12 ⟨(Nat.le_of_ble_eq_true rfl), (Nat.le_of_ble_eq_true rfl), (Nat.le_of_ble_eq_true rfl)⟩ rfl rfl (Nat.le_of_ble_eq_true rfl) (Nat.le_of_ble_eq_true rfl) (fun v => ?_)
  refine z_astore_n (pc := 15) (lv2 := [(2, .ref am), (1, .ref ax), (0, .ref b)]) dL_law_15 rfl (by decide) rfl ?_
  refine z_iconst (pc := 16) dL_law_16 ?_
  refine z_istore_n (pc := 17) (lv2 := [(3, .int (iI 0)), (2, .ref am), (1, .ref ax), (0, .ref b)]) dL_law_17 rfl (by decide) rfl ?_
  refine z_lv (lv2 := [(0, .ref b), (1, .ref ax), (2, .ref am), (3, .int (iI 0))]) [3, 2, 1, 0] rfl ?_
  have lf : LF room_1 s (fun q : Nat => s.heap.size ≤ q) b L xs (fsN (u 19) (u 21) (u 23) (u 25)) (fun j => ([ax, u 1, u 2, u 3, u 4, u 5, u 6, u 7, u 8, u 9, u 10, u 11, u 12, u 13, u 14, u 15, u 16, u 17, u 18, u 19, u 20, u 21, u 22, u 23, u 24, u 25, u 26, u 27, am, v 0, v 1, v 2, v 3, v 4, v 5, v 6, v 7, v 8, v 9, v 10] : List Nat).getD j 0) := ⟨hX, hbl, hbA, hL, ⟨(Nat.le_of_ble_eq_true rfl), (Nat.le_of_ble_eq_true rfl)⟩, rfl, rfl, rfl, rfl⟩
  exact law_loop lf (fun ws lv => law_end ws lv) _ 0 gN gN gN 0 f00 0 0 0 0 0 f00 f00 v00 f00 gN g00 (rowA g00) (rowA g00) (rowA g00) (shN (v00 0)) 0 0 0 0 0 (iI 0) ⟨Int.le_refl _, by omega⟩ (Nat.lt_succ_self _) inv_N
set_option maxHeartbeats 4000000 in
theorem whole_start {p : Program} {e : Env} {s : State} {m : MethodId} {below : List Frame} {meth : Method} {c : Code} (l : Launch) {b L : Nat} {xs : Nat → Int32} (hL : L ≤ 3072) (C0 : lw_At p s m meth c b L xs) : W p l e room_1 s m #[Value.ref b] below meth c s.heap [] 0 0 (lw_Z below #[Value.ref b] s) (entryFrame m ([Value.ref b] : List Value).toArray 4) := by
  obtain ⟨hx, hb, hr, hml, hown, hts, hX, hbl, hlocks, hgv⟩ := id C0
  have hg : ∀ w ∈ gt, w.before #[Value.ref b] s = true := fun w hw => hts w (List.mem_filter.mp hw).1
  obtain ⟨D, cI, cJ, cB, cS, hK, hAO⟩ := start_K hts
  obtain ⟨xa, hXF⟩ := start_XF hts hgv
  have hP : va_P D vwCl [] s.heap := fun k q h => by simp at h
  have hD : va_D (fun q : Nat => s.heap.size ≤ q) [] := ⟨fun i j p q h => by simp at h, fun k q h => by simp at h⟩
  have hl := lv_entry ([.ref b]) (n := 4) (Nat.le_of_ble_eq_true rfl)
  rw [lg_entry_eq]
  exact law_start (l := l) (e := e) (p := p) (m := m) (below := below) (meth := meth) (c := c) (D := D) (cI := cI) (cJ := cJ) (cB := cB) (cS := cS) (xa := xa) hL hX hbl hAO ⟨hx, hb, hml, hown, hg, hK, hlocks, hr, hXF, Nat.zero_le _, Nat.zero_le _⟩ s.heap [] _ hP hD va_S.rf hl
set_option maxHeartbeats 4000000 in
theorem lw_walk (l : Launch) (b : Addr) (xs : List Int32) : MetFree l x (headSpec (Jvm.Cond.code x code maxLocals ret :: tables_1) room_1) (lw_P b xs) (fun _ _ _ _ _ => True) lw_Q := by
  refine MetFree.of_bodyS (code := code) (maxLocals := maxLocals) (ret := ret) (by decide) ?_ ?_
  · intro args s m h hn
    obtain ⟨meth, c, h1, h2, h3, h4, h5, h6, -, -⟩ := Cond.code_spec hn (atoms_spec (ws := Jvm.Cond.code x code maxLocals ret :: tables_1) h _ List.mem_cons_self)
    exact ⟨meth, c, h1, h2, h3, h4, h5, h6⟩
  · intro p e s m args below meth c s₁ B hml0 hP _
    obtain ⟨rfl, hx, hbd, hgv⟩ := hP
    obtain ⟨scr, harrAt, hlist, hof, hsmall⟩ := hx
    obtain ⟨hcb, hkn, -, -⟩ := State.arrayAt?_spec harrAt
    have hown : s.vm.findClass R_law = some m.cls := findClass_of_methodNamed B.named
    have hts0 : ∀ c ∈ (Jvm.Cond.code x code maxLocals ret :: tables_1), c.before #[Value.ref b] s = true := atoms_spec (ws := Jvm.Cond.code x code maxLocals ret :: tables_1) B.pre
    have hts : ∀ w ∈ lw_tbl, w.before #[Value.ref b] s = true := k2_hts_sels lw_privs (fun w hw => hts0 w (List.mem_cons_of_mem _ hw)) lw_privs_ok
    have hml : c.maxLocals = 4 := B.maxLocals_eq (hts0 _ List.mem_cons_self)
    have X₀ : Stand p l e room_1 s m #[Value.ref b] below meth c s₁ [] 0 0 := Stand.of_body B
    have hh0 : s₁.heap = s.heap := by rw [B.state]; rfl
    have hsz : scr.slots.size = xs.length := by rw [← Array.length_toList, hlist, List.length_map]
    have hval : ∀ j : Nat, j < xs.length → scr.slots[j]? = some (.int (xs.getD j 0)) := fun j hj => by
      rw [← Array.getElem?_toList, hlist]
      simp [hj]
    have hbl : b < s.heap.size := (Array.getElem?_eq_some_iff.mp hcb).1
    have hX : va_X b xs.length (fun j => xs.getD j 0) s s.heap := ⟨scr, hcb, hof, hkn, hsz, hval⟩
    have K : W p l e room_1 s m #[Value.ref b] below meth c s₁.heap [] 0 0 (lw_Z below #[Value.ref b] s) (entryFrame m ([Value.ref b] : List Value).toArray 4) := by
      rw [hh0]
      exact whole_start l hbd ⟨B.exec, B.bytes, B.returns, hml, hown, hts, hX, hbl, B.notSynchronized, hgv⟩
    obtain ⟨t, a1, o, b1, b2, b3⟩ := K s₁ rfl X₀
    exact ⟨t, o, a1, b1, b2, b3⟩
theorem lw_pre_spec {args : Array Value} {s : State} (h : (Jvm.Cond.and given_1 narrow_1).before args s = true) (hr : rest_1_c.before args s = true) : ∃ (b : Addr) (xs : List Int32), lw_P b xs args s := by
  have hs := flat_of_before _ h
  have hq := flat_of_before _ hr
  have hc : (Cond.count 1).before args s = true := hs _ (by decide +kernel)
  have harr : (Cond.arrayOf (.arg 0) .int).before args s = true := hs _ (by decide +kernel)
  have hle : (Cond.le (.length (.arg 0)) (.int 3072)).before args s = true := hs _ (by decide +kernel)
  have hlen : (Cond.isInt (.length (.arg 0))).before args s = true := hq _ (by decide +kernel)
  have hall : (Cond.all (.arg 0) (.isInt (.elem (.arg 0) (.index 0)))).before args s = true := hq _ (by decide +kernel)
  obtain ⟨b, xs, hb, hx⟩ := State.ints_of_pre rfl harr hlen hall
  have hsm : xs.length < 2 ^ 31 := hx.choose_spec.2.2.2
  have hev : (Term.length (.arg 0)).eval args s none [] s = some (.int xs.length.toInt32) := hx.length_eval hb
  have hv := Cond.le_ints hev (show (Term.int 3072).eval args s none [] s = some (.int 3072) from rfl)
  have hd : xs.length.toInt32 ≤ 3072 := by
    simpa [Cond.before, Cond.holds, hv] using hle
  have hN : xs.length ≤ 3072 := (Int32.ofNat_le_ofNat hsm (by decide)).mp (show Int32.ofNat xs.length ≤ Int32.ofNat 3072 from hd)
  exact ⟨b, xs, Cond.one_arg hc (show args[0]? = some (.ref b) from hb), hx, hN, h⟩
theorem lw_comes (l : Launch) : Comes l x (Jvm.Cond.code x code maxLocals ret :: tables_1) room_1 (fun tb e args s => Calls_1 tb e args s ∧ rest_1 tb e args s ∧ Pre_1 tb e args s)
    (fun _ _ args s o t => lw_Q args s o t) := by
  intro p e ha hc hk s m args below hf hfit hheap happ hpre
  obtain ⟨b, xs, hP⟩ := lw_pre_spec hpre.2.2 hpre.2.1
  obtain ⟨k, o, h1, h2, h3, hQ⟩ := lw_walk l b xs p e ha hc hk s m args below hf ((Spec.applies_iff_loose hf).mp happ).1 hP trivial
  exact ⟨k, o, h1, h2, h3, hQ⟩
theorem lw_frame {s t : State} {o : Outcome} {args : Array Value} (h : Framed s o t [] 600000 7302250) :
    Framed s o t (fieldLocs frame_1_writes args s ++ arrayLocs frame_1_arrays args s ++ staticLocs frame_1_statics s) 600000 7302250 := h
theorem lw_limb (L : Cond) (hL : ∀ (args : Array Value) (s t : State), L.after args s (.returned (some (.int 1))) t = true) :
    ArmFor flags0 classFile x code maxLocals ret World_1 tables_1 room_1 Calls_1 rest_1 Pre_1
      (fun tb e a s o t => postC L tb e a s o t ∧ Framed s o t (fieldLocs frame_1_writes a s ++ arrayLocs frame_1_arrays a s ++ staticLocs frame_1_statics s) 600000 7302250) := by
  intro l _ _ _ p e ha hc hk s m args below hf hfit hheap happ hpre
  obtain ⟨k, o, h1, h2, h3, rfl, hF⟩ := lw_comes l p e ha hc hk s m args below hf hfit hheap happ hpre
  exact ⟨k, _, h1, h2, h3, hL args s _, lw_frame hF⟩
theorem i_vc : Claimed_1_1 ∧ Claimed_1_2 := ⟨lw_limb limb_1_1 (fun args s t => by simp [limb_1_1, Cond.after, Cond.holds, Cond.value]), lw_limb limb_1_2 (fun args s t => Cond.after_iff.mpr (by
  first | (rw [show limb_1_2 = Cond.eq .result (.int 1) from rfl, Cond.eq_ints (x := 1) (y := 1) rfl rfl]; simp; done) | (simp [limb_1_2, Cond.value, Term.eval]; done)))⟩

