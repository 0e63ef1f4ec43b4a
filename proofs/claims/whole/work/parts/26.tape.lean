set_option maxHeartbeats 8000000 in
set_option maxRecDepth 100000 in
theorem c_X2_isLetter (l : Launch) (D : va_G) (cI cJ cB cS : ClassId) (xa : XA) (tp tb : Nat) (tn : Int) (to ts te tu : Int) (tc : FF) (k : Int) (hT : OkT tc tn) (hk : 0 ≤ k ∧ k < tn) : Ct l D cI cJ cB cS xa yX2_isLetter cX2_isLetter 2 (some .boolean) 0 0 [.ref tp, .int (iI k)] [(tp, .inr (2, [.ref tb, .int (iI tn), .int (iI to), .int (iI ts), .int (iI te), .int (iI tu)])), (tb, .inl (cB, 120, .inl (tbA tc)))] (some (.int (bI (isL (bA tc tn k))))) [(tp, .inr (2, [.ref tb, .int (iI tn), .int (iI to), .int (iI ts), .int (iI te), .int (iI tu)])), (tb, .inl (cB, 120, .inl (tbA tc)))] := by
  have hT2 := hT.2
  have eb := (bA_rng hT k).2.2.2.2 hk.2
  have hc := hT.1 k
  have es := sb_rng hc
  refine CtE.of (own := RX2) (lv := [(0, .ref tp), (1, .int (iI k))]) (by decide) rfl rfl (Nat.le_of_ble_eq_true rfl) ?_
  intro xp xe xs xm xb xt xc
  refine z_aload_n (pc := 0) dX2_isLetter_0 0 rfl ?_
  refine z_get (pc := 1) (q0 := 0) (v := .ref tb) fL_X2_11 dX2_isLetter_1 rfl rfl ?_
  refine z_iload_n (pc := 4) dX2_isLetter_4 1 rfl ?_
  refine z_bald (pc := 5) (q0 := 1) (v := (iI (sb (tc k)))) dX2_isLetter_5 rfl (by omega) (by decide) (tbA_at (by omega)) ?_
  refine z_bipush (pc := 6) dX2_isLetter_6 (by decide) ?_
  refine z_icmp_lt (pc := 8) (tgt := 26) dX2_isLetter_8 (by decide) (by omega) (by omega) (fun h8 => ?_) (fun h8 => ?_)
  · skip
    refine z_iconst (pc := 26) dX2_isLetter_26 ?_
    exact z_zret (pc := 27) (by decide) dX2_isLetter_27 (congrArg (fun z => some (Value.int z)) (bI_f (by omega))) rfl
  · skip
    refine z_aload_n (pc := 11) dX2_isLetter_11 0 rfl ?_
    refine z_get (pc := 12) (q0 := 0) (v := .ref tb) fL_X2_11 dX2_isLetter_12 rfl rfl ?_
    refine z_iload_n (pc := 15) dX2_isLetter_15 1 rfl ?_
    refine z_bald (pc := 16) (q0 := 1) (v := (iI (sb (tc k)))) dX2_isLetter_16 rfl (by omega) (by decide) (tbA_at (by omega)) ?_
    refine z_bipush (pc := 17) dX2_isLetter_17 (by decide) ?_
    refine z_icmp_gt (pc := 19) (tgt := 26) dX2_isLetter_19 (by decide) (by omega) (by omega) (fun h19 => ?_) (fun h19 => ?_)
    · skip
      refine z_iconst (pc := 26) dX2_isLetter_26 ?_
      exact z_zret (pc := 27) (by decide) dX2_isLetter_27 (congrArg (fun z => some (Value.int z)) (bI_f (by omega))) rfl
    · skip
      refine z_iconst (pc := 22) dX2_isLetter_22 ?_
      refine z_goto (pc := 23) (tgt := 27) dX2_isLetter_23 (by decide) ?_
      exact z_zret (pc := 27) (by decide) dX2_isLetter_27 (congrArg (fun z => some (Value.int z)) (bI_t (by omega))) rfl
set_option maxHeartbeats 8000000 in
set_option maxRecDepth 100000 in
theorem c_X2_isDigit (l : Launch) (D : va_G) (cI cJ cB cS : ClassId) (xa : XA) (tp tb : Nat) (tn : Int) (to ts te tu : Int) (tc : FF) (k : Int) (hT : OkT tc tn) (hk : 0 ≤ k ∧ k < tn) : Ct l D cI cJ cB cS xa yX2_isDigit cX2_isDigit 2 (some .boolean) 0 0 [.ref tp, .int (iI k)] [(tp, .inr (2, [.ref tb, .int (iI tn), .int (iI to), .int (iI ts), .int (iI te), .int (iI tu)])), (tb, .inl (cB, 120, .inl (tbA tc)))] (some (.int (bI (isD (bA tc tn k))))) [(tp, .inr (2, [.ref tb, .int (iI tn), .int (iI to), .int (iI ts), .int (iI te), .int (iI tu)])), (tb, .inl (cB, 120, .inl (tbA tc)))] := by
  have hT2 := hT.2
  have eb := (bA_rng hT k).2.2.2.2 hk.2
  have hc := hT.1 k
  have es := sb_rng hc
  refine CtE.of (own := RX2) (lv := [(0, .ref tp), (1, .int (iI k))]) (by decide) rfl rfl (Nat.le_of_ble_eq_true rfl) ?_
  intro xp xe xs xm xb xt xc
  refine z_aload_n (pc := 0) dX2_isDigit_0 0 rfl ?_
  refine z_get (pc := 1) (q0 := 0) (v := .ref tb) fL_X2_11 dX2_isDigit_1 rfl rfl ?_
  refine z_iload_n (pc := 4) dX2_isDigit_4 1 rfl ?_
  refine z_bald (pc := 5) (q0 := 1) (v := (iI (sb (tc k)))) dX2_isDigit_5 rfl (by omega) (by decide) (tbA_at (by omega)) ?_
  refine z_bipush (pc := 6) dX2_isDigit_6 (by decide) ?_
  refine z_icmp_lt (pc := 8) (tgt := 26) dX2_isDigit_8 (by decide) (by omega) (by omega) (fun h8 => ?_) (fun h8 => ?_)
  · skip
    refine z_iconst (pc := 26) dX2_isDigit_26 ?_
    exact z_zret (pc := 27) (by decide) dX2_isDigit_27 (congrArg (fun z => some (Value.int z)) (bI_f (by omega))) rfl
  · skip
    refine z_aload_n (pc := 11) dX2_isDigit_11 0 rfl ?_
    refine z_get (pc := 12) (q0 := 0) (v := .ref tb) fL_X2_11 dX2_isDigit_12 rfl rfl ?_
    refine z_iload_n (pc := 15) dX2_isDigit_15 1 rfl ?_
    refine z_bald (pc := 16) (q0 := 1) (v := (iI (sb (tc k)))) dX2_isDigit_16 rfl (by omega) (by decide) (tbA_at (by omega)) ?_
    refine z_bipush (pc := 17) dX2_isDigit_17 (by decide) ?_
    refine z_icmp_gt (pc := 19) (tgt := 26) dX2_isDigit_19 (by decide) (by omega) (by omega) (fun h19 => ?_) (fun h19 => ?_)
    · skip
      refine z_iconst (pc := 26) dX2_isDigit_26 ?_
      exact z_zret (pc := 27) (by decide) dX2_isDigit_27 (congrArg (fun z => some (Value.int z)) (bI_f (by omega))) rfl
    · skip
      refine z_iconst (pc := 22) dX2_isDigit_22 ?_
      refine z_goto (pc := 23) (tgt := 27) dX2_isDigit_23 (by decide) ?_
      exact z_zret (pc := 27) (by decide) dX2_isDigit_27 (congrArg (fun z => some (Value.int z)) (bI_t (by omega))) rfl
set_option maxHeartbeats 8000000 in
set_option maxRecDepth 100000 in
theorem c_X2_advance (l : Launch) (D : va_G) (cI cJ cB cS : ClassId) (xa : XA) (tp tb : Nat) (tn : Int) (to ts p tu : Int) (tc : FF) (hT : OkT tc tn) (hp : 0 ≤ p ∧ p ≤ tn) : Ct l D cI cJ cB cS xa yX2_advance cX2_advance 1 none 1 21 [.ref tp] [(tp, .inr (2, [.ref tb, .int (iI tn), .int (iI to), .int (iI ts), .int (iI p), .int (iI tu)])), (tb, .inl (cB, 120, .inl (tbA tc)))] none [(tp, .inr (2, [.ref tb, .int (iI tn), .int (iI (tT tc tn p)), .int (iI (tB tc tn p)), .int (iI (tE tc tn p)), .int (iI (tU tc tn p))])), (tb, .inl (cB, 120, .inl (tbA tc)))] := by
  have hT2 := hT.2
  refine CtE.of (own := RX2) (lv := [(0, .ref tp)]) (by decide) rfl rfl (Nat.le_of_ble_eq_true rfl) ?_
  intro xp xe xs xm xb xt xc
  refine z_aload_n (pc := 0) dX2_advance_0 0 rfl ?_
  refine z_aload_n (pc := 1) dX2_advance_1 0 rfl ?_
  refine z_get (pc := 2) (q0 := 0) (v := .int (iI p)) fL_X2_25 dX2_advance_2 rfl rfl ?_
  refine z_put (pc := 5) (q0 := 0) (ws2 := [(tp, .inr (2, [.ref tb, .int (iI tn), .int (iI to), .int (iI p), .int (iI p), .int (iI tu)])), (tb, .inl (cB, 120, .inl (tbA tc)))]) fP_X2_22 dX2_advance_5 rfl rfl rfl (Nat.le_of_ble_eq_true rfl) rfl ?_
  have LP8 : ∀ (nn_ : Nat) (q : Int), (p ≤ q ∧ q ≤ tn) → (∀ j : Int, 0 ≤ j → j < q - p → ¬ ¬ bA tc tn (p + j) = 32) → (tn - q).toNat < nn_ → Z xp l xe { frames := 1, cells := 0, slots := 0, locals := 21 } xs xm ([.ref tp] : List Value).toArray xb xt xc 0 0 (MQ xb (Cq (S := Unit) D [(tp, .inr (2, [.ref tb, .int (iI tn), .int (iI to), .int (iI ts), .int (iI p), .int (iI tu)])), (tb, .inl (cB, 120, .inl (tbA tc)))] (fun _ => True) (fun _ => none) (fun _ => [(tp, .inr (2, [.ref tb, .int (iI tn), .int (iI (tT tc tn p)), .int (iI (tB tc tn p)), .int (iI (tE tc tn p)), .int (iI (tU tc tn p))])), (tb, .inl (cB, 120, .inl (tbA tc)))])) ([.ref tp] : List Value).toArray xs 0 0 (va_A0 [(tp, .inr (2, [.ref tb, .int (iI tn), .int (iI to), .int (iI ts), .int (iI p), .int (iI tu)])), (tb, .inl (cB, 120, .inl (tbA tc)))])) cX2_advance RX2 1 none D cI cJ cB cS xa (va_A0 [(tp, .inr (2, [.ref tb, .int (iI tn), .int (iI to), .int (iI ts), .int (iI p), .int (iI tu)])), (tb, .inl (cB, 120, .inl (tbA tc)))]) [(tp, .inr (2, [.ref tb, .int (iI tn), .int (iI to), .int (iI q), .int (iI p), .int (iI tu)])), (tb, .inl (cB, 120, .inl (tbA tc)))] [(0, .ref tp)] 8 [] := by
    intro nn_
    induction nn_ with
    | zero => intro q hq1 hq hms; exact absurd hms (Nat.not_lt_zero _)
    | succ nn_ ih =>
      intro q hq1 hq hms
      have eb := bA_rng hT q
      have hc := hT.1 q
      have es := sb_rng hc
      have ih8 := ih
      clear ih
      refine z_aload_n (pc := 8) dX2_advance_8 0 rfl ?_
      refine z_get (pc := 9) (q0 := 0) (v := .int (iI q)) fL_X2_22 dX2_advance_9 rfl rfl ?_
      refine z_aload_n (pc := 12) dX2_advance_12 0 rfl ?_
      refine z_get (pc := 13) (q0 := 0) (v := .int (iI tn)) fL_X2_15 dX2_advance_13 rfl rfl ?_
      refine z_icmp_ge (pc := 16) (tgt := 46) dX2_advance_16 (by decide) (by omega) (by omega) (fun h16 => ?_) (fun h16 => ?_)
      · skip
        have eB : tB tc tn p = q := tB_eq (by omega) (by omega) hq (by rw [eb.2.2.2.1 (by omega)]; decide)
        refine z_aload_n (pc := 46) dX2_advance_46 0 rfl ?_
        refine z_aload_n (pc := 47) dX2_advance_47 0 rfl ?_
        refine z_get (pc := 48) (q0 := 0) (v := .int (iI q)) fL_X2_22 dX2_advance_48 rfl rfl ?_
        refine z_put (pc := 51) (q0 := 0) (ws2 := [(tp, .inr (2, [.ref tb, .int (iI tn), .int (iI to), .int (iI q), .int (iI q), .int (iI tu)])), (tb, .inl (cB, 120, .inl (tbA tc)))]) fP_X2_25 dX2_advance_51 rfl rfl rfl (Nat.le_of_ble_eq_true rfl) rfl ?_
        refine z_aload_n (pc := 54) dX2_advance_54 0 rfl ?_
        refine z_iconst (pc := 55) dX2_advance_55 ?_
        refine z_put (pc := 56) (q0 := 0) (ws2 := [(tp, .inr (2, [.ref tb, .int (iI tn), .int (iI to), .int (iI q), .int (iI q), .int (iI 0)])), (tb, .inl (cB, 120, .inl (tbA tc)))]) fP_X2_28 dX2_advance_56 rfl rfl rfl (Nat.le_of_ble_eq_true rfl) rfl ?_
        refine z_aload_n (pc := 59) dX2_advance_59 0 rfl ?_
        refine z_get (pc := 60) (q0 := 0) (v := .int (iI q)) fL_X2_22 dX2_advance_60 rfl rfl ?_
        refine z_aload_n (pc := 63) dX2_advance_63 0 rfl ?_
        refine z_get (pc := 64) (q0 := 0) (v := .int (iI tn)) fL_X2_15 dX2_advance_64 rfl rfl ?_
        refine z_icmp_lt (pc := 67) (tgt := 78) dX2_advance_67 (by decide) (by omega) (by omega) (fun h67 => ?_) (fun h67 => ?_)
        · skip
          refine z_aload_n (pc := 78) dX2_advance_78 0 rfl ?_
          refine z_aload_n (pc := 79) dX2_advance_79 0 rfl ?_
          refine z_get (pc := 80) (q0 := 0) (v := .int (iI q)) fL_X2_22 dX2_advance_80 rfl rfl ?_
          refine z_callV (pc := 83) (st := []) (st2 := [.int (bI (isL (bA tc tn q)))]) (ws2 := [(tp, .inr (2, [.ref tb, .int (iI tn), .int (iI to), .int (iI q), .int (iI q), .int (iI 0)])), (tb, .inl (cB, 120, .inl (tbA tc)))]) (q0 := 0) (c_X2_isLetter l D cI cJ cB cS xa tp tb tn to q q 0 tc q (by assumption) (by omega)) mV_X2_isLetter kM_X2_123 dX2_advance_83 rfl rfl [0, 1] rfl rfl rfl rfl rfl rfl rfl rfl ⟨Nat.le_of_ble_eq_true rfl, Nat.le_of_ble_eq_true rfl, Nat.le_of_ble_eq_true rfl⟩ ?_
          refine z_ifb_eq (pc := 86) (tgt := 129) dX2_advance_86 (by decide) (fun h86 => ?_) (fun h86 => ?_)
          · skip
            refine z_aload_n (pc := 129) dX2_advance_129 0 rfl ?_
            refine z_aload_n (pc := 130) dX2_advance_130 0 rfl ?_
            refine z_get (pc := 131) (q0 := 0) (v := .int (iI q)) fL_X2_22 dX2_advance_131 rfl rfl ?_
            refine z_callV (pc := 134) (st := []) (st2 := [.int (bI (isD (bA tc tn q)))]) (ws2 := [(tp, .inr (2, [.ref tb, .int (iI tn), .int (iI to), .int (iI q), .int (iI q), .int (iI 0)])), (tb, .inl (cB, 120, .inl (tbA tc)))]) (q0 := 0) (c_X2_isDigit l D cI cJ cB cS xa tp tb tn to q q 0 tc q (by assumption) (by omega)) mV_X2_isDigit kM_X2_127 dX2_advance_134 rfl rfl [0, 1] rfl rfl rfl rfl rfl rfl rfl rfl ⟨Nat.le_of_ble_eq_true rfl, Nat.le_of_ble_eq_true rfl, Nat.le_of_ble_eq_true rfl⟩ ?_
            refine z_ifb_eq (pc := 137) (tgt := 210) dX2_advance_137 (by decide) (fun h137 => ?_) (fun h137 => ?_)
            · skip
              refine z_aload_n (pc := 210) dX2_advance_210 0 rfl ?_
              refine z_aload_n (pc := 211) dX2_advance_211 0 rfl ?_
              refine z_get (pc := 212) (q0 := 0) (v := .ref tb) fL_X2_11 dX2_advance_212 rfl rfl ?_
              refine z_aload_n (pc := 215) dX2_advance_215 0 rfl ?_
              refine z_get (pc := 216) (q0 := 0) (v := .int (iI q)) fL_X2_22 dX2_advance_216 rfl rfl ?_
              refine z_bald (pc := 219) (q0 := 1) (v := (iI (sb (tc q)))) dX2_advance_219 rfl (by omega) (by decide) (tbA_at (by omega)) ?_
              refine z_bipush (pc := 220) dX2_advance_220 (by decide) ?_
              refine z_icmp_ne (pc := 222) (tgt := 229) dX2_advance_222 (by decide) (by omega) (by omega) (fun h222 => ?_) (fun h222 => ?_)
              · skip
                refine z_iconst (pc := 229) dX2_advance_229 ?_
                refine z_put (pc := 230) (q0 := 0) (ws2 := [(tp, .inr (2, [.ref tb, .int (iI tn), .int (iI 4), .int (iI q), .int (iI q), .int (iI 0)])), (tb, .inl (cB, 120, .inl (tbA tc)))]) fP_X2_19 dX2_advance_230 rfl rfl rfl (Nat.le_of_ble_eq_true rfl) rfl ?_
                refine z_aload_n (pc := 233) dX2_advance_233 0 rfl ?_
                refine z_dup (pc := 234) dX2_advance_234 rfl ?_
                refine z_get (pc := 235) (q0 := 0) (v := .int (iI q)) fL_X2_25 dX2_advance_235 rfl rfl ?_
                refine z_iconst (pc := 238) dX2_advance_238 ?_
                refine z_iadd (pc := 239) dX2_advance_239 ?_
                refine z_put (pc := 240) (q0 := 0) (ws2 := [(tp, .inr (2, [.ref tb, .int (iI tn), .int (iI 4), .int (iI q), .int (iI (q + 1)), .int (iI 0)])), (tb, .inl (cB, 120, .inl (tbA tc)))]) fP_X2_25 dX2_advance_240 rfl rfl rfl (Nat.le_of_ble_eq_true rfl) rfl ?_
                have eS : tS tc tn p = 3 := by unfold tS; rw [eB, if_neg (by omega), if_neg h86, if_neg h137]
                have eE : tE tc tn p = q + 1 := by unfold tE; rw [if_neg (by omega), if_neg (by omega), if_neg (by omega), eB]
                have eU : tU tc tn p = 0 := by unfold tU; rw [if_neg (by omega)]
                have eT : tT tc tn p = 4 := by unfold tT; rw [if_pos eS, eB]; rw [if_neg (by omega)]
                exact z_vret (pc := 243) dX2_advance_243 rfl (by rw [eB, eT, eE, eU])
              · skip
                refine z_iconst (pc := 225) dX2_advance_225 ?_
                refine z_goto (pc := 226) (tgt := 230) dX2_advance_226 (by decide) ?_
                refine z_put (pc := 230) (q0 := 0) (ws2 := [(tp, .inr (2, [.ref tb, .int (iI tn), .int (iI 3), .int (iI q), .int (iI q), .int (iI 0)])), (tb, .inl (cB, 120, .inl (tbA tc)))]) fP_X2_19 dX2_advance_230 rfl rfl rfl (Nat.le_of_ble_eq_true rfl) rfl ?_
                refine z_aload_n (pc := 233) dX2_advance_233 0 rfl ?_
                refine z_dup (pc := 234) dX2_advance_234 rfl ?_
                refine z_get (pc := 235) (q0 := 0) (v := .int (iI q)) fL_X2_25 dX2_advance_235 rfl rfl ?_
                refine z_iconst (pc := 238) dX2_advance_238 ?_
                refine z_iadd (pc := 239) dX2_advance_239 ?_
                refine z_put (pc := 240) (q0 := 0) (ws2 := [(tp, .inr (2, [.ref tb, .int (iI tn), .int (iI 3), .int (iI q), .int (iI (q + 1)), .int (iI 0)])), (tb, .inl (cB, 120, .inl (tbA tc)))]) fP_X2_25 dX2_advance_240 rfl rfl rfl (Nat.le_of_ble_eq_true rfl) rfl ?_
                have eS : tS tc tn p = 3 := by unfold tS; rw [eB, if_neg (by omega), if_neg h86, if_neg h137]
                have eE : tE tc tn p = q + 1 := by unfold tE; rw [if_neg (by omega), if_neg (by omega), if_neg (by omega), eB]
                have eU : tU tc tn p = 0 := by unfold tU; rw [if_neg (by omega)]
                have eT : tT tc tn p = 3 := by unfold tT; rw [if_pos eS, eB]; rw [if_pos (by omega)]
                exact z_vret (pc := 243) dX2_advance_243 rfl (by rw [eB, eT, eE, eU])
            · skip
              refine z_aload_n (pc := 140) dX2_advance_140 0 rfl ?_
              refine z_iconst (pc := 141) dX2_advance_141 ?_
              refine z_put (pc := 142) (q0 := 0) (ws2 := [(tp, .inr (2, [.ref tb, .int (iI tn), .int (iI 2), .int (iI q), .int (iI q), .int (iI 0)])), (tb, .inl (cB, 120, .inl (tbA tc)))]) fP_X2_19 dX2_advance_142 rfl rfl rfl (Nat.le_of_ble_eq_true rfl) rfl ?_
              have LP145 : ∀ (nn_ : Nat) (r : Int) (u : Int), (q ≤ r ∧ r ≤ tn) → (∀ j : Int, 0 ≤ j → j < r - q → isD (bA tc tn (q + j))) → (u = min (nvN tc tn q (r - q).toNat) 1000) → (tn - r).toNat < nn_ → Z xp l xe { frames := 1, cells := 0, slots := 0, locals := 21 } xs xm ([.ref tp] : List Value).toArray xb xt xc 0 0 (MQ xb (Cq (S := Unit) D [(tp, .inr (2, [.ref tb, .int (iI tn), .int (iI to), .int (iI ts), .int (iI p), .int (iI tu)])), (tb, .inl (cB, 120, .inl (tbA tc)))] (fun _ => True) (fun _ => none) (fun _ => [(tp, .inr (2, [.ref tb, .int (iI tn), .int (iI (tT tc tn p)), .int (iI (tB tc tn p)), .int (iI (tE tc tn p)), .int (iI (tU tc tn p))])), (tb, .inl (cB, 120, .inl (tbA tc)))])) ([.ref tp] : List Value).toArray xs 0 0 (va_A0 [(tp, .inr (2, [.ref tb, .int (iI tn), .int (iI to), .int (iI ts), .int (iI p), .int (iI tu)])), (tb, .inl (cB, 120, .inl (tbA tc)))])) cX2_advance RX2 1 none D cI cJ cB cS xa (va_A0 [(tp, .inr (2, [.ref tb, .int (iI tn), .int (iI to), .int (iI ts), .int (iI p), .int (iI tu)])), (tb, .inl (cB, 120, .inl (tbA tc)))]) [(tp, .inr (2, [.ref tb, .int (iI tn), .int (iI 2), .int (iI q), .int (iI r), .int (iI u)])), (tb, .inl (cB, 120, .inl (tbA tc)))] [(0, .ref tp)] 145 [] := by
                intro nn_
                induction nn_ with
                | zero => intro r u hr hl hu hms; exact absurd hms (Nat.not_lt_zero _)
                | succ nn_ ih =>
                  intro r u hr hl hu hms
                  have nr := nvN_rng (tc := tc) (tn := tn) (b := q) (r - q).toNat (fun j a c => hl j a (by omega))
                  have eb2 := bA_rng hT r
                  have hc2 := hT.1 r
                  have es2 := sb_rng hc2
                  have ih145 := ih
                  clear ih
                  refine z_aload_n (pc := 145) dX2_advance_145 0 rfl ?_
                  refine z_get (pc := 146) (q0 := 0) (v := .int (iI r)) fL_X2_25 dX2_advance_146 rfl rfl ?_
                  refine z_aload_n (pc := 149) dX2_advance_149 0 rfl ?_
                  refine z_get (pc := 150) (q0 := 0) (v := .int (iI tn)) fL_X2_15 dX2_advance_150 rfl rfl ?_
                  refine z_icmp_ge (pc := 153) (tgt := 243) dX2_advance_153 (by decide) (by omega) (by omega) (fun h153 => ?_) (fun h153 => ?_)
                  · skip
                    have eS : tS tc tn p = 2 := by unfold tS; rw [eB, if_neg (by omega), if_neg h86, if_pos h137]
                    have eT : tT tc tn p = 2 := (tT_S tc tn p).2.2.1.mpr eS
                    have eL := lnD_eq (tc := tc) (tn := tn) (b := q) (r := r) (by omega) (by omega) hl (fun z => absurd z.1 (by rw [(bA_rng hT r).2.2.2.1 (by omega)]; decide))
                    have eE : tE tc tn p = r := by unfold tE; rw [if_neg (by omega), if_neg (by omega), if_pos eS, eB, eL]; omega
                    have eU : tU tc tn p = u := by unfold tU tV; rw [if_pos eS, if_pos eS, eB, eL, ← hu]
                    exact z_vret (pc := 243) dX2_advance_243 rfl (by rw [eB, eT, eE, eU])
                  · skip
                    refine z_aload_n (pc := 156) dX2_advance_156 0 rfl ?_
                    refine z_aload_n (pc := 157) dX2_advance_157 0 rfl ?_
                    refine z_get (pc := 158) (q0 := 0) (v := .int (iI r)) fL_X2_25 dX2_advance_158 rfl rfl ?_
                    refine z_callV (pc := 161) (st := []) (st2 := [.int (bI (isD (bA tc tn r)))]) (ws2 := [(tp, .inr (2, [.ref tb, .int (iI tn), .int (iI 2), .int (iI q), .int (iI r), .int (iI u)])), (tb, .inl (cB, 120, .inl (tbA tc)))]) (q0 := 0) (c_X2_isDigit l D cI cJ cB cS xa tp tb tn 2 q r u tc r (by assumption) (by omega)) mV_X2_isDigit kM_X2_127 dX2_advance_161 rfl rfl [0, 1] rfl rfl rfl rfl rfl rfl rfl rfl ⟨Nat.le_of_ble_eq_true rfl, Nat.le_of_ble_eq_true rfl, Nat.le_of_ble_eq_true rfl⟩ ?_
                    refine z_ifb_eq (pc := 164) (tgt := 243) dX2_advance_164 (by decide) (fun h164 => ?_) (fun h164 => ?_)
                    · skip
                      have eS : tS tc tn p = 2 := by unfold tS; rw [eB, if_neg (by omega), if_neg h86, if_pos h137]
                      have eT : tT tc tn p = 2 := (tT_S tc tn p).2.2.1.mpr eS
                      have eL := lnD_eq (tc := tc) (tn := tn) (b := q) (r := r) (by omega) (by omega) hl (h164)
                      have eE : tE tc tn p = r := by unfold tE; rw [if_neg (by omega), if_neg (by omega), if_pos eS, eB, eL]; omega
                      have eU : tU tc tn p = u := by unfold tU tV; rw [if_pos eS, if_pos eS, eB, eL, ← hu]
                      exact z_vret (pc := 243) dX2_advance_243 rfl (by rw [eB, eT, eE, eU])
                    · skip
                      refine z_aload_n (pc := 167) dX2_advance_167 0 rfl ?_
                      refine z_aload_n (pc := 168) dX2_advance_168 0 rfl ?_
                      refine z_get (pc := 169) (q0 := 0) (v := .int (iI u)) fL_X2_28 dX2_advance_169 rfl rfl ?_
                      refine z_bipush (pc := 172) dX2_advance_172 (by decide) ?_
                      refine z_imul (pc := 174) dX2_advance_174 ?_
                      refine z_aload_n (pc := 175) dX2_advance_175 0 rfl ?_
                      refine z_get (pc := 176) (q0 := 0) (v := .ref tb) fL_X2_11 dX2_advance_176 rfl rfl ?_
                      refine z_aload_n (pc := 179) dX2_advance_179 0 rfl ?_
                      refine z_get (pc := 180) (q0 := 0) (v := .int (iI r)) fL_X2_25 dX2_advance_180 rfl rfl ?_
                      refine z_bald (pc := 183) (q0 := 1) (v := (iI (sb (tc r)))) dX2_advance_183 rfl (by omega) (by decide) (tbA_at (by omega)) ?_
                      refine z_bipush (pc := 184) dX2_advance_184 (by decide) ?_
                      refine z_isub (pc := 186) dX2_advance_186 ?_
                      refine z_iadd (pc := 187) dX2_advance_187 ?_
                      refine z_sipush (pc := 188) dX2_advance_188 (by decide) ?_
                      refine z_min (pc := 191) mmin_X2_130 dX2_advance_191 (by omega) (by omega) ⟨Nat.le_of_ble_eq_true rfl, Nat.le_of_ble_eq_true rfl⟩ ?_
                      refine z_put (pc := 194) (q0 := 0) (ws2 := [(tp, .inr (2, [.ref tb, .int (iI tn), .int (iI 2), .int (iI q), .int (iI r), .int (iI (min ((u * 10) + ((sb (tc r)) - 48)) 1000))])), (tb, .inl (cB, 120, .inl (tbA tc)))]) fP_X2_28 dX2_advance_194 rfl rfl rfl (Nat.le_of_ble_eq_true rfl) rfl ?_
                      refine z_aload_n (pc := 197) dX2_advance_197 0 rfl ?_
                      refine z_dup (pc := 198) dX2_advance_198 rfl ?_
                      refine z_get (pc := 199) (q0 := 0) (v := .int (iI r)) fL_X2_25 dX2_advance_199 rfl rfl ?_
                      refine z_iconst (pc := 202) dX2_advance_202 ?_
                      refine z_iadd (pc := 203) dX2_advance_203 ?_
                      refine z_put (pc := 204) (q0 := 0) (ws2 := [(tp, .inr (2, [.ref tb, .int (iI tn), .int (iI 2), .int (iI q), .int (iI (r + 1)), .int (iI (min ((u * 10) + ((sb (tc r)) - 48)) 1000))])), (tb, .inl (cB, 120, .inl (tbA tc)))]) fP_X2_25 dX2_advance_204 rfl rfl rfl (Nat.le_of_ble_eq_true rfl) rfl ?_
                      refine z_goto (pc := 207) (tgt := 145) dX2_advance_207 (by decide) ?_
                      exact ih145 (r + 1) (min ((u * 10) + ((sb (tc r)) - 48)) 1000) (by omega) (sq_s (x := bA tc tn) (P := isD) hl h164) (by rw [show r + 1 - q = (r - q) + 1 by omega, nvN_s _ _ _ (by omega), show q + (r - q) = r by omega]; split <;> omega) (by omega)
              refine z_lv (lv2 := [(0, .ref tp)]) [0] rfl ?_
              exact LP145 _ q 0 (by omega) (fun j h0 h1 => absurd h1 (by omega)) (by rw [show q - q = 0 by omega]; rfl) (Nat.lt_succ_self _)
          · skip
            refine z_aload_n (pc := 89) dX2_advance_89 0 rfl ?_
            refine z_iconst (pc := 90) dX2_advance_90 ?_
            refine z_put (pc := 91) (q0 := 0) (ws2 := [(tp, .inr (2, [.ref tb, .int (iI tn), .int (iI 1), .int (iI q), .int (iI q), .int (iI 0)])), (tb, .inl (cB, 120, .inl (tbA tc)))]) fP_X2_19 dX2_advance_91 rfl rfl rfl (Nat.le_of_ble_eq_true rfl) rfl ?_
            have LP94 : ∀ (nn_ : Nat) (r : Int), (q ≤ r ∧ r ≤ tn) → (∀ j : Int, 0 ≤ j → j < r - q → isL (bA tc tn (q + j))) → (tn - r).toNat < nn_ → Z xp l xe { frames := 1, cells := 0, slots := 0, locals := 21 } xs xm ([.ref tp] : List Value).toArray xb xt xc 0 0 (MQ xb (Cq (S := Unit) D [(tp, .inr (2, [.ref tb, .int (iI tn), .int (iI to), .int (iI ts), .int (iI p), .int (iI tu)])), (tb, .inl (cB, 120, .inl (tbA tc)))] (fun _ => True) (fun _ => none) (fun _ => [(tp, .inr (2, [.ref tb, .int (iI tn), .int (iI (tT tc tn p)), .int (iI (tB tc tn p)), .int (iI (tE tc tn p)), .int (iI (tU tc tn p))])), (tb, .inl (cB, 120, .inl (tbA tc)))])) ([.ref tp] : List Value).toArray xs 0 0 (va_A0 [(tp, .inr (2, [.ref tb, .int (iI tn), .int (iI to), .int (iI ts), .int (iI p), .int (iI tu)])), (tb, .inl (cB, 120, .inl (tbA tc)))])) cX2_advance RX2 1 none D cI cJ cB cS xa (va_A0 [(tp, .inr (2, [.ref tb, .int (iI tn), .int (iI to), .int (iI ts), .int (iI p), .int (iI tu)])), (tb, .inl (cB, 120, .inl (tbA tc)))]) [(tp, .inr (2, [.ref tb, .int (iI tn), .int (iI 1), .int (iI q), .int (iI r), .int (iI 0)])), (tb, .inl (cB, 120, .inl (tbA tc)))] [(0, .ref tp)] 94 [] := by
              intro nn_
              induction nn_ with
              | zero => intro r hr hl hms; exact absurd hms (Nat.not_lt_zero _)
              | succ nn_ ih =>
                intro r hr hl hms
                have ih94 := ih
                clear ih
                refine z_aload_n (pc := 94) dX2_advance_94 0 rfl ?_
                refine z_get (pc := 95) (q0 := 0) (v := .int (iI r)) fL_X2_25 dX2_advance_95 rfl rfl ?_
                refine z_aload_n (pc := 98) dX2_advance_98 0 rfl ?_
                refine z_get (pc := 99) (q0 := 0) (v := .int (iI tn)) fL_X2_15 dX2_advance_99 rfl rfl ?_
                refine z_icmp_ge (pc := 102) (tgt := 243) dX2_advance_102 (by decide) (by omega) (by omega) (fun h102 => ?_) (fun h102 => ?_)
                · skip
                  have eS : tS tc tn p = 1 := by unfold tS; rw [eB, if_neg (by omega), if_pos h86]
                  have eT : tT tc tn p = 1 := (tT_S tc tn p).2.1.mpr eS
                  have eL := lnL_eq (tc := tc) (tn := tn) (b := q) (r := r) (by omega) (by omega) hl (fun z => absurd z.1 (by rw [(bA_rng hT r).2.2.2.1 (by omega)]; decide))
                  have eE : tE tc tn p = r := by unfold tE; rw [if_neg (by omega), if_pos eS, eB, eL]; omega
                  have eU : tU tc tn p = 0 := by unfold tU; rw [if_neg (by omega)]
                  exact z_vret (pc := 243) dX2_advance_243 rfl (by rw [eB, eT, eE, eU])
                · skip
                  refine z_aload_n (pc := 105) dX2_advance_105 0 rfl ?_
                  refine z_aload_n (pc := 106) dX2_advance_106 0 rfl ?_
                  refine z_get (pc := 107) (q0 := 0) (v := .int (iI r)) fL_X2_25 dX2_advance_107 rfl rfl ?_
                  refine z_callV (pc := 110) (st := []) (st2 := [.int (bI (isL (bA tc tn r)))]) (ws2 := [(tp, .inr (2, [.ref tb, .int (iI tn), .int (iI 1), .int (iI q), .int (iI r), .int (iI 0)])), (tb, .inl (cB, 120, .inl (tbA tc)))]) (q0 := 0) (c_X2_isLetter l D cI cJ cB cS xa tp tb tn 1 q r 0 tc r (by assumption) (by omega)) mV_X2_isLetter kM_X2_123 dX2_advance_110 rfl rfl [0, 1] rfl rfl rfl rfl rfl rfl rfl rfl ⟨Nat.le_of_ble_eq_true rfl, Nat.le_of_ble_eq_true rfl, Nat.le_of_ble_eq_true rfl⟩ ?_
                  refine z_ifb_eq (pc := 113) (tgt := 243) dX2_advance_113 (by decide) (fun h113 => ?_) (fun h113 => ?_)
                  · skip
                    have eS : tS tc tn p = 1 := by unfold tS; rw [eB, if_neg (by omega), if_pos h86]
                    have eT : tT tc tn p = 1 := (tT_S tc tn p).2.1.mpr eS
                    have eL := lnL_eq (tc := tc) (tn := tn) (b := q) (r := r) (by omega) (by omega) hl (h113)
                    have eE : tE tc tn p = r := by unfold tE; rw [if_neg (by omega), if_pos eS, eB, eL]; omega
                    have eU : tU tc tn p = 0 := by unfold tU; rw [if_neg (by omega)]
                    exact z_vret (pc := 243) dX2_advance_243 rfl (by rw [eB, eT, eE, eU])
                  · skip
                    refine z_aload_n (pc := 116) dX2_advance_116 0 rfl ?_
                    refine z_dup (pc := 117) dX2_advance_117 rfl ?_
                    refine z_get (pc := 118) (q0 := 0) (v := .int (iI r)) fL_X2_25 dX2_advance_118 rfl rfl ?_
                    refine z_iconst (pc := 121) dX2_advance_121 ?_
                    refine z_iadd (pc := 122) dX2_advance_122 ?_
                    refine z_put (pc := 123) (q0 := 0) (ws2 := [(tp, .inr (2, [.ref tb, .int (iI tn), .int (iI 1), .int (iI q), .int (iI (r + 1)), .int (iI 0)])), (tb, .inl (cB, 120, .inl (tbA tc)))]) fP_X2_25 dX2_advance_123 rfl rfl rfl (Nat.le_of_ble_eq_true rfl) rfl ?_
                    refine z_goto (pc := 126) (tgt := 94) dX2_advance_126 (by decide) ?_
                    exact ih94 (r + 1) (by omega) (sq_s (x := bA tc tn) (P := isL) hl h113) (by omega)
            refine z_lv (lv2 := [(0, .ref tp)]) [0] rfl ?_
            exact LP94 _ q (by omega) (fun j h0 h1 => absurd h1 (by omega)) (Nat.lt_succ_self _)
        · skip
          refine z_aload_n (pc := 70) dX2_advance_70 0 rfl ?_
          refine z_iconst (pc := 71) dX2_advance_71 ?_
          refine z_put (pc := 72) (q0 := 0) (ws2 := [(tp, .inr (2, [.ref tb, .int (iI tn), .int (iI 0), .int (iI q), .int (iI q), .int (iI 0)])), (tb, .inl (cB, 120, .inl (tbA tc)))]) fP_X2_19 dX2_advance_72 rfl rfl rfl (Nat.le_of_ble_eq_true rfl) rfl ?_
          refine z_goto (pc := 75) (tgt := 243) dX2_advance_75 (by decide) ?_
          have eS : tS tc tn p = 0 := by unfold tS; rw [eB, if_pos (by rw [(bA_rng hT q).2.2.2.1 (by omega)]; decide)]
          have eT : tT tc tn p = 0 := (tT_S tc tn p).1.mpr eS
          have eE : tE tc tn p = q := by unfold tE; rw [if_pos eS, eB]
          have eU : tU tc tn p = 0 := by unfold tU; rw [if_neg (by omega)]
          exact z_vret (pc := 243) dX2_advance_243 rfl (by rw [eB, eT, eE, eU])
      · skip
        refine z_aload_n (pc := 19) dX2_advance_19 0 rfl ?_
        refine z_get (pc := 20) (q0 := 0) (v := .ref tb) fL_X2_11 dX2_advance_20 rfl rfl ?_
        refine z_aload_n (pc := 23) dX2_advance_23 0 rfl ?_
        refine z_get (pc := 24) (q0 := 0) (v := .int (iI q)) fL_X2_22 dX2_advance_24 rfl rfl ?_
        refine z_bald (pc := 27) (q0 := 1) (v := (iI (sb (tc q)))) dX2_advance_27 rfl (by omega) (by decide) (tbA_at (by omega)) ?_
        refine z_bipush (pc := 28) dX2_advance_28 (by decide) ?_
        refine z_icmp_ne (pc := 30) (tgt := 46) dX2_advance_30 (by decide) (by omega) (by omega) (fun h30 => ?_) (fun h30 => ?_)
        · skip
          have eB : tB tc tn p = q := tB_eq (by omega) (by omega) hq (by omega)
          refine z_aload_n (pc := 46) dX2_advance_46 0 rfl ?_
          refine z_aload_n (pc := 47) dX2_advance_47 0 rfl ?_
          refine z_get (pc := 48) (q0 := 0) (v := .int (iI q)) fL_X2_22 dX2_advance_48 rfl rfl ?_
          refine z_put (pc := 51) (q0 := 0) (ws2 := [(tp, .inr (2, [.ref tb, .int (iI tn), .int (iI to), .int (iI q), .int (iI q), .int (iI tu)])), (tb, .inl (cB, 120, .inl (tbA tc)))]) fP_X2_25 dX2_advance_51 rfl rfl rfl (Nat.le_of_ble_eq_true rfl) rfl ?_
          refine z_aload_n (pc := 54) dX2_advance_54 0 rfl ?_
          refine z_iconst (pc := 55) dX2_advance_55 ?_
          refine z_put (pc := 56) (q0 := 0) (ws2 := [(tp, .inr (2, [.ref tb, .int (iI tn), .int (iI to), .int (iI q), .int (iI q), .int (iI 0)])), (tb, .inl (cB, 120, .inl (tbA tc)))]) fP_X2_28 dX2_advance_56 rfl rfl rfl (Nat.le_of_ble_eq_true rfl) rfl ?_
          refine z_aload_n (pc := 59) dX2_advance_59 0 rfl ?_
          refine z_get (pc := 60) (q0 := 0) (v := .int (iI q)) fL_X2_22 dX2_advance_60 rfl rfl ?_
          refine z_aload_n (pc := 63) dX2_advance_63 0 rfl ?_
          refine z_get (pc := 64) (q0 := 0) (v := .int (iI tn)) fL_X2_15 dX2_advance_64 rfl rfl ?_
          refine z_icmp_lt (pc := 67) (tgt := 78) dX2_advance_67 (by decide) (by omega) (by omega) (fun h67 => ?_) (fun h67 => ?_)
          · skip
            refine z_aload_n (pc := 78) dX2_advance_78 0 rfl ?_
            refine z_aload_n (pc := 79) dX2_advance_79 0 rfl ?_
            refine z_get (pc := 80) (q0 := 0) (v := .int (iI q)) fL_X2_22 dX2_advance_80 rfl rfl ?_
            refine z_callV (pc := 83) (st := []) (st2 := [.int (bI (isL (bA tc tn q)))]) (ws2 := [(tp, .inr (2, [.ref tb, .int (iI tn), .int (iI to), .int (iI q), .int (iI q), .int (iI 0)])), (tb, .inl (cB, 120, .inl (tbA tc)))]) (q0 := 0) (c_X2_isLetter l D cI cJ cB cS xa tp tb tn to q q 0 tc q (by assumption) (by omega)) mV_X2_isLetter kM_X2_123 dX2_advance_83 rfl rfl [0, 1] rfl rfl rfl rfl rfl rfl rfl rfl ⟨Nat.le_of_ble_eq_true rfl, Nat.le_of_ble_eq_true rfl, Nat.le_of_ble_eq_true rfl⟩ ?_
            refine z_ifb_eq (pc := 86) (tgt := 129) dX2_advance_86 (by decide) (fun h86 => ?_) (fun h86 => ?_)
            · skip
              refine z_aload_n (pc := 129) dX2_advance_129 0 rfl ?_
              refine z_aload_n (pc := 130) dX2_advance_130 0 rfl ?_
              refine z_get (pc := 131) (q0 := 0) (v := .int (iI q)) fL_X2_22 dX2_advance_131 rfl rfl ?_
              refine z_callV (pc := 134) (st := []) (st2 := [.int (bI (isD (bA tc tn q)))]) (ws2 := [(tp, .inr (2, [.ref tb, .int (iI tn), .int (iI to), .int (iI q), .int (iI q), .int (iI 0)])), (tb, .inl (cB, 120, .inl (tbA tc)))]) (q0 := 0) (c_X2_isDigit l D cI cJ cB cS xa tp tb tn to q q 0 tc q (by assumption) (by omega)) mV_X2_isDigit kM_X2_127 dX2_advance_134 rfl rfl [0, 1] rfl rfl rfl rfl rfl rfl rfl rfl ⟨Nat.le_of_ble_eq_true rfl, Nat.le_of_ble_eq_true rfl, Nat.le_of_ble_eq_true rfl⟩ ?_
              refine z_ifb_eq (pc := 137) (tgt := 210) dX2_advance_137 (by decide) (fun h137 => ?_) (fun h137 => ?_)
              · skip
                refine z_aload_n (pc := 210) dX2_advance_210 0 rfl ?_
                refine z_aload_n (pc := 211) dX2_advance_211 0 rfl ?_
                refine z_get (pc := 212) (q0 := 0) (v := .ref tb) fL_X2_11 dX2_advance_212 rfl rfl ?_
                refine z_aload_n (pc := 215) dX2_advance_215 0 rfl ?_
                refine z_get (pc := 216) (q0 := 0) (v := .int (iI q)) fL_X2_22 dX2_advance_216 rfl rfl ?_
                refine z_bald (pc := 219) (q0 := 1) (v := (iI (sb (tc q)))) dX2_advance_219 rfl (by omega) (by decide) (tbA_at (by omega)) ?_
                refine z_bipush (pc := 220) dX2_advance_220 (by decide) ?_
                refine z_icmp_ne (pc := 222) (tgt := 229) dX2_advance_222 (by decide) (by omega) (by omega) (fun h222 => ?_) (fun h222 => ?_)
                · skip
                  refine z_iconst (pc := 229) dX2_advance_229 ?_
                  refine z_put (pc := 230) (q0 := 0) (ws2 := [(tp, .inr (2, [.ref tb, .int (iI tn), .int (iI 4), .int (iI q), .int (iI q), .int (iI 0)])), (tb, .inl (cB, 120, .inl (tbA tc)))]) fP_X2_19 dX2_advance_230 rfl rfl rfl (Nat.le_of_ble_eq_true rfl) rfl ?_
                  refine z_aload_n (pc := 233) dX2_advance_233 0 rfl ?_
                  refine z_dup (pc := 234) dX2_advance_234 rfl ?_
                  refine z_get (pc := 235) (q0 := 0) (v := .int (iI q)) fL_X2_25 dX2_advance_235 rfl rfl ?_
                  refine z_iconst (pc := 238) dX2_advance_238 ?_
                  refine z_iadd (pc := 239) dX2_advance_239 ?_
                  refine z_put (pc := 240) (q0 := 0) (ws2 := [(tp, .inr (2, [.ref tb, .int (iI tn), .int (iI 4), .int (iI q), .int (iI (q + 1)), .int (iI 0)])), (tb, .inl (cB, 120, .inl (tbA tc)))]) fP_X2_25 dX2_advance_240 rfl rfl rfl (Nat.le_of_ble_eq_true rfl) rfl ?_
                  have eS : tS tc tn p = 3 := by unfold tS; rw [eB, if_neg (by omega), if_neg h86, if_neg h137]
                  have eE : tE tc tn p = q + 1 := by unfold tE; rw [if_neg (by omega), if_neg (by omega), if_neg (by omega), eB]
                  have eU : tU tc tn p = 0 := by unfold tU; rw [if_neg (by omega)]
                  have eT : tT tc tn p = 4 := by unfold tT; rw [if_pos eS, eB]; rw [if_neg (by omega)]
                  exact z_vret (pc := 243) dX2_advance_243 rfl (by rw [eB, eT, eE, eU])
                · skip
                  refine z_iconst (pc := 225) dX2_advance_225 ?_
                  refine z_goto (pc := 226) (tgt := 230) dX2_advance_226 (by decide) ?_
                  refine z_put (pc := 230) (q0 := 0) (ws2 := [(tp, .inr (2, [.ref tb, .int (iI tn), .int (iI 3), .int (iI q), .int (iI q), .int (iI 0)])), (tb, .inl (cB, 120, .inl (tbA tc)))]) fP_X2_19 dX2_advance_230 rfl rfl rfl (Nat.le_of_ble_eq_true rfl) rfl ?_
                  refine z_aload_n (pc := 233) dX2_advance_233 0 rfl ?_
                  refine z_dup (pc := 234) dX2_advance_234 rfl ?_
                  refine z_get (pc := 235) (q0 := 0) (v := .int (iI q)) fL_X2_25 dX2_advance_235 rfl rfl ?_
                  refine z_iconst (pc := 238) dX2_advance_238 ?_
                  refine z_iadd (pc := 239) dX2_advance_239 ?_
                  refine z_put (pc := 240) (q0 := 0) (ws2 := [(tp, .inr (2, [.ref tb, .int (iI tn), .int (iI 3), .int (iI q), .int (iI (q + 1)), .int (iI 0)])), (tb, .inl (cB, 120, .inl (tbA tc)))]) fP_X2_25 dX2_advance_240 rfl rfl rfl (Nat.le_of_ble_eq_true rfl) rfl ?_
                  have eS : tS tc tn p = 3 := by unfold tS; rw [eB, if_neg (by omega), if_neg h86, if_neg h137]
                  have eE : tE tc tn p = q + 1 := by unfold tE; rw [if_neg (by omega), if_neg (by omega), if_neg (by omega), eB]
                  have eU : tU tc tn p = 0 := by unfold tU; rw [if_neg (by omega)]
                  have eT : tT tc tn p = 3 := by unfold tT; rw [if_pos eS, eB]; rw [if_pos (by omega)]
                  exact z_vret (pc := 243) dX2_advance_243 rfl (by rw [eB, eT, eE, eU])
              · skip
                refine z_aload_n (pc := 140) dX2_advance_140 0 rfl ?_
                refine z_iconst (pc := 141) dX2_advance_141 ?_
                refine z_put (pc := 142) (q0 := 0) (ws2 := [(tp, .inr (2, [.ref tb, .int (iI tn), .int (iI 2), .int (iI q), .int (iI q), .int (iI 0)])), (tb, .inl (cB, 120, .inl (tbA tc)))]) fP_X2_19 dX2_advance_142 rfl rfl rfl (Nat.le_of_ble_eq_true rfl) rfl ?_
                have LP145 : ∀ (nn_ : Nat) (r : Int) (u : Int), (q ≤ r ∧ r ≤ tn) → (∀ j : Int, 0 ≤ j → j < r - q → isD (bA tc tn (q + j))) → (u = min (nvN tc tn q (r - q).toNat) 1000) → (tn - r).toNat < nn_ → Z xp l xe { frames := 1, cells := 0, slots := 0, locals := 21 } xs xm ([.ref tp] : List Value).toArray xb xt xc 0 0 (MQ xb (Cq (S := Unit) D [(tp, .inr (2, [.ref tb, .int (iI tn), .int (iI to), .int (iI ts), .int (iI p), .int (iI tu)])), (tb, .inl (cB, 120, .inl (tbA tc)))] (fun _ => True) (fun _ => none) (fun _ => [(tp, .inr (2, [.ref tb, .int (iI tn), .int (iI (tT tc tn p)), .int (iI (tB tc tn p)), .int (iI (tE tc tn p)), .int (iI (tU tc tn p))])), (tb, .inl (cB, 120, .inl (tbA tc)))])) ([.ref tp] : List Value).toArray xs 0 0 (va_A0 [(tp, .inr (2, [.ref tb, .int (iI tn), .int (iI to), .int (iI ts), .int (iI p), .int (iI tu)])), (tb, .inl (cB, 120, .inl (tbA tc)))])) cX2_advance RX2 1 none D cI cJ cB cS xa (va_A0 [(tp, .inr (2, [.ref tb, .int (iI tn), .int (iI to), .int (iI ts), .int (iI p), .int (iI tu)])), (tb, .inl (cB, 120, .inl (tbA tc)))]) [(tp, .inr (2, [.ref tb, .int (iI tn), .int (iI 2), .int (iI q), .int (iI r), .int (iI u)])), (tb, .inl (cB, 120, .inl (tbA tc)))] [(0, .ref tp)] 145 [] := by
                  intro nn_
                  induction nn_ with
                  | zero => intro r u hr hl hu hms; exact absurd hms (Nat.not_lt_zero _)
                  | succ nn_ ih =>
                    intro r u hr hl hu hms
                    have nr := nvN_rng (tc := tc) (tn := tn) (b := q) (r - q).toNat (fun j a c => hl j a (by omega))
                    have eb2 := bA_rng hT r
                    have hc2 := hT.1 r
                    have es2 := sb_rng hc2
                    have ih145 := ih
                    clear ih
                    refine z_aload_n (pc := 145) dX2_advance_145 0 rfl ?_
                    refine z_get (pc := 146) (q0 := 0) (v := .int (iI r)) fL_X2_25 dX2_advance_146 rfl rfl ?_
                    refine z_aload_n (pc := 149) dX2_advance_149 0 rfl ?_
                    refine z_get (pc := 150) (q0 := 0) (v := .int (iI tn)) fL_X2_15 dX2_advance_150 rfl rfl ?_
                    refine z_icmp_ge (pc := 153) (tgt := 243) dX2_advance_153 (by decide) (by omega) (by omega) (fun h153 => ?_) (fun h153 => ?_)
                    · skip
                      have eS : tS tc tn p = 2 := by unfold tS; rw [eB, if_neg (by omega), if_neg h86, if_pos h137]
                      have eT : tT tc tn p = 2 := (tT_S tc tn p).2.2.1.mpr eS
                      have eL := lnD_eq (tc := tc) (tn := tn) (b := q) (r := r) (by omega) (by omega) hl (fun z => absurd z.1 (by rw [(bA_rng hT r).2.2.2.1 (by omega)]; decide))
                      have eE : tE tc tn p = r := by unfold tE; rw [if_neg (by omega), if_neg (by omega), if_pos eS, eB, eL]; omega
                      have eU : tU tc tn p = u := by unfold tU tV; rw [if_pos eS, if_pos eS, eB, eL, ← hu]
                      exact z_vret (pc := 243) dX2_advance_243 rfl (by rw [eB, eT, eE, eU])
                    · skip
                      refine z_aload_n (pc := 156) dX2_advance_156 0 rfl ?_
                      refine z_aload_n (pc := 157) dX2_advance_157 0 rfl ?_
                      refine z_get (pc := 158) (q0 := 0) (v := .int (iI r)) fL_X2_25 dX2_advance_158 rfl rfl ?_
                      refine z_callV (pc := 161) (st := []) (st2 := [.int (bI (isD (bA tc tn r)))]) (ws2 := [(tp, .inr (2, [.ref tb, .int (iI tn), .int (iI 2), .int (iI q), .int (iI r), .int (iI u)])), (tb, .inl (cB, 120, .inl (tbA tc)))]) (q0 := 0) (c_X2_isDigit l D cI cJ cB cS xa tp tb tn 2 q r u tc r (by assumption) (by omega)) mV_X2_isDigit kM_X2_127 dX2_advance_161 rfl rfl [0, 1] rfl rfl rfl rfl rfl rfl rfl rfl ⟨Nat.le_of_ble_eq_true rfl, Nat.le_of_ble_eq_true rfl, Nat.le_of_ble_eq_true rfl⟩ ?_
                      refine z_ifb_eq (pc := 164) (tgt := 243) dX2_advance_164 (by decide) (fun h164 => ?_) (fun h164 => ?_)
                      · skip
                        have eS : tS tc tn p = 2 := by unfold tS; rw [eB, if_neg (by omega), if_neg h86, if_pos h137]
                        have eT : tT tc tn p = 2 := (tT_S tc tn p).2.2.1.mpr eS
                        have eL := lnD_eq (tc := tc) (tn := tn) (b := q) (r := r) (by omega) (by omega) hl (h164)
                        have eE : tE tc tn p = r := by unfold tE; rw [if_neg (by omega), if_neg (by omega), if_pos eS, eB, eL]; omega
                        have eU : tU tc tn p = u := by unfold tU tV; rw [if_pos eS, if_pos eS, eB, eL, ← hu]
                        exact z_vret (pc := 243) dX2_advance_243 rfl (by rw [eB, eT, eE, eU])
                      · skip
                        refine z_aload_n (pc := 167) dX2_advance_167 0 rfl ?_
                        refine z_aload_n (pc := 168) dX2_advance_168 0 rfl ?_
                        refine z_get (pc := 169) (q0 := 0) (v := .int (iI u)) fL_X2_28 dX2_advance_169 rfl rfl ?_
                        refine z_bipush (pc := 172) dX2_advance_172 (by decide) ?_
                        refine z_imul (pc := 174) dX2_advance_174 ?_
                        refine z_aload_n (pc := 175) dX2_advance_175 0 rfl ?_
                        refine z_get (pc := 176) (q0 := 0) (v := .ref tb) fL_X2_11 dX2_advance_176 rfl rfl ?_
                        refine z_aload_n (pc := 179) dX2_advance_179 0 rfl ?_
                        refine z_get (pc := 180) (q0 := 0) (v := .int (iI r)) fL_X2_25 dX2_advance_180 rfl rfl ?_
                        refine z_bald (pc := 183) (q0 := 1) (v := (iI (sb (tc r)))) dX2_advance_183 rfl (by omega) (by decide) (tbA_at (by omega)) ?_
                        refine z_bipush (pc := 184) dX2_advance_184 (by decide) ?_
                        refine z_isub (pc := 186) dX2_advance_186 ?_
                        refine z_iadd (pc := 187) dX2_advance_187 ?_
                        refine z_sipush (pc := 188) dX2_advance_188 (by decide) ?_
                        refine z_min (pc := 191) mmin_X2_130 dX2_advance_191 (by omega) (by omega) ⟨Nat.le_of_ble_eq_true rfl, Nat.le_of_ble_eq_true rfl⟩ ?_
                        refine z_put (pc := 194) (q0 := 0) (ws2 := [(tp, .inr (2, [.ref tb, .int (iI tn), .int (iI 2), .int (iI q), .int (iI r), .int (iI (min ((u * 10) + ((sb (tc r)) - 48)) 1000))])), (tb, .inl (cB, 120, .inl (tbA tc)))]) fP_X2_28 dX2_advance_194 rfl rfl rfl (Nat.le_of_ble_eq_true rfl) rfl ?_
                        refine z_aload_n (pc := 197) dX2_advance_197 0 rfl ?_
                        refine z_dup (pc := 198) dX2_advance_198 rfl ?_
                        refine z_get (pc := 199) (q0 := 0) (v := .int (iI r)) fL_X2_25 dX2_advance_199 rfl rfl ?_
                        refine z_iconst (pc := 202) dX2_advance_202 ?_
                        refine z_iadd (pc := 203) dX2_advance_203 ?_
                        refine z_put (pc := 204) (q0 := 0) (ws2 := [(tp, .inr (2, [.ref tb, .int (iI tn), .int (iI 2), .int (iI q), .int (iI (r + 1)), .int (iI (min ((u * 10) + ((sb (tc r)) - 48)) 1000))])), (tb, .inl (cB, 120, .inl (tbA tc)))]) fP_X2_25 dX2_advance_204 rfl rfl rfl (Nat.le_of_ble_eq_true rfl) rfl ?_
                        refine z_goto (pc := 207) (tgt := 145) dX2_advance_207 (by decide) ?_
                        exact ih145 (r + 1) (min ((u * 10) + ((sb (tc r)) - 48)) 1000) (by omega) (sq_s (x := bA tc tn) (P := isD) hl h164) (by rw [show r + 1 - q = (r - q) + 1 by omega, nvN_s _ _ _ (by omega), show q + (r - q) = r by omega]; split <;> omega) (by omega)
                refine z_lv (lv2 := [(0, .ref tp)]) [0] rfl ?_
                exact LP145 _ q 0 (by omega) (fun j h0 h1 => absurd h1 (by omega)) (by rw [show q - q = 0 by omega]; rfl) (Nat.lt_succ_self _)
            · skip
              refine z_aload_n (pc := 89) dX2_advance_89 0 rfl ?_
              refine z_iconst (pc := 90) dX2_advance_90 ?_
              refine z_put (pc := 91) (q0 := 0) (ws2 := [(tp, .inr (2, [.ref tb, .int (iI tn), .int (iI 1), .int (iI q), .int (iI q), .int (iI 0)])), (tb, .inl (cB, 120, .inl (tbA tc)))]) fP_X2_19 dX2_advance_91 rfl rfl rfl (Nat.le_of_ble_eq_true rfl) rfl ?_
              have LP94 : ∀ (nn_ : Nat) (r : Int), (q ≤ r ∧ r ≤ tn) → (∀ j : Int, 0 ≤ j → j < r - q → isL (bA tc tn (q + j))) → (tn - r).toNat < nn_ → Z xp l xe { frames := 1, cells := 0, slots := 0, locals := 21 } xs xm ([.ref tp] : List Value).toArray xb xt xc 0 0 (MQ xb (Cq (S := Unit) D [(tp, .inr (2, [.ref tb, .int (iI tn), .int (iI to), .int (iI ts), .int (iI p), .int (iI tu)])), (tb, .inl (cB, 120, .inl (tbA tc)))] (fun _ => True) (fun _ => none) (fun _ => [(tp, .inr (2, [.ref tb, .int (iI tn), .int (iI (tT tc tn p)), .int (iI (tB tc tn p)), .int (iI (tE tc tn p)), .int (iI (tU tc tn p))])), (tb, .inl (cB, 120, .inl (tbA tc)))])) ([.ref tp] : List Value).toArray xs 0 0 (va_A0 [(tp, .inr (2, [.ref tb, .int (iI tn), .int (iI to), .int (iI ts), .int (iI p), .int (iI tu)])), (tb, .inl (cB, 120, .inl (tbA tc)))])) cX2_advance RX2 1 none D cI cJ cB cS xa (va_A0 [(tp, .inr (2, [.ref tb, .int (iI tn), .int (iI to), .int (iI ts), .int (iI p), .int (iI tu)])), (tb, .inl (cB, 120, .inl (tbA tc)))]) [(tp, .inr (2, [.ref tb, .int (iI tn), .int (iI 1), .int (iI q), .int (iI r), .int (iI 0)])), (tb, .inl (cB, 120, .inl (tbA tc)))] [(0, .ref tp)] 94 [] := by
                intro nn_
                induction nn_ with
                | zero => intro r hr hl hms; exact absurd hms (Nat.not_lt_zero _)
                | succ nn_ ih =>
                  intro r hr hl hms
                  have ih94 := ih
                  clear ih
                  refine z_aload_n (pc := 94) dX2_advance_94 0 rfl ?_
                  refine z_get (pc := 95) (q0 := 0) (v := .int (iI r)) fL_X2_25 dX2_advance_95 rfl rfl ?_
                  refine z_aload_n (pc := 98) dX2_advance_98 0 rfl ?_
                  refine z_get (pc := 99) (q0 := 0) (v := .int (iI tn)) fL_X2_15 dX2_advance_99 rfl rfl ?_
                  refine z_icmp_ge (pc := 102) (tgt := 243) dX2_advance_102 (by decide) (by omega) (by omega) (fun h102 => ?_) (fun h102 => ?_)
                  · skip
                    have eS : tS tc tn p = 1 := by unfold tS; rw [eB, if_neg (by omega), if_pos h86]
                    have eT : tT tc tn p = 1 := (tT_S tc tn p).2.1.mpr eS
                    have eL := lnL_eq (tc := tc) (tn := tn) (b := q) (r := r) (by omega) (by omega) hl (fun z => absurd z.1 (by rw [(bA_rng hT r).2.2.2.1 (by omega)]; decide))
                    have eE : tE tc tn p = r := by unfold tE; rw [if_neg (by omega), if_pos eS, eB, eL]; omega
                    have eU : tU tc tn p = 0 := by unfold tU; rw [if_neg (by omega)]
                    exact z_vret (pc := 243) dX2_advance_243 rfl (by rw [eB, eT, eE, eU])
                  · skip
                    refine z_aload_n (pc := 105) dX2_advance_105 0 rfl ?_
                    refine z_aload_n (pc := 106) dX2_advance_106 0 rfl ?_
                    refine z_get (pc := 107) (q0 := 0) (v := .int (iI r)) fL_X2_25 dX2_advance_107 rfl rfl ?_
                    refine z_callV (pc := 110) (st := []) (st2 := [.int (bI (isL (bA tc tn r)))]) (ws2 := [(tp, .inr (2, [.ref tb, .int (iI tn), .int (iI 1), .int (iI q), .int (iI r), .int (iI 0)])), (tb, .inl (cB, 120, .inl (tbA tc)))]) (q0 := 0) (c_X2_isLetter l D cI cJ cB cS xa tp tb tn 1 q r 0 tc r (by assumption) (by omega)) mV_X2_isLetter kM_X2_123 dX2_advance_110 rfl rfl [0, 1] rfl rfl rfl rfl rfl rfl rfl rfl ⟨Nat.le_of_ble_eq_true rfl, Nat.le_of_ble_eq_true rfl, Nat.le_of_ble_eq_true rfl⟩ ?_
                    refine z_ifb_eq (pc := 113) (tgt := 243) dX2_advance_113 (by decide) (fun h113 => ?_) (fun h113 => ?_)
                    · skip
                      have eS : tS tc tn p = 1 := by unfold tS; rw [eB, if_neg (by omega), if_pos h86]
                      have eT : tT tc tn p = 1 := (tT_S tc tn p).2.1.mpr eS
                      have eL := lnL_eq (tc := tc) (tn := tn) (b := q) (r := r) (by omega) (by omega) hl (h113)
                      have eE : tE tc tn p = r := by unfold tE; rw [if_neg (by omega), if_pos eS, eB, eL]; omega
                      have eU : tU tc tn p = 0 := by unfold tU; rw [if_neg (by omega)]
                      exact z_vret (pc := 243) dX2_advance_243 rfl (by rw [eB, eT, eE, eU])
                    · skip
                      refine z_aload_n (pc := 116) dX2_advance_116 0 rfl ?_
                      refine z_dup (pc := 117) dX2_advance_117 rfl ?_
                      refine z_get (pc := 118) (q0 := 0) (v := .int (iI r)) fL_X2_25 dX2_advance_118 rfl rfl ?_
                      refine z_iconst (pc := 121) dX2_advance_121 ?_
                      refine z_iadd (pc := 122) dX2_advance_122 ?_
                      refine z_put (pc := 123) (q0 := 0) (ws2 := [(tp, .inr (2, [.ref tb, .int (iI tn), .int (iI 1), .int (iI q), .int (iI (r + 1)), .int (iI 0)])), (tb, .inl (cB, 120, .inl (tbA tc)))]) fP_X2_25 dX2_advance_123 rfl rfl rfl (Nat.le_of_ble_eq_true rfl) rfl ?_
                      refine z_goto (pc := 126) (tgt := 94) dX2_advance_126 (by decide) ?_
                      exact ih94 (r + 1) (by omega) (sq_s (x := bA tc tn) (P := isL) hl h113) (by omega)
              refine z_lv (lv2 := [(0, .ref tp)]) [0] rfl ?_
              exact LP94 _ q (by omega) (fun j h0 h1 => absurd h1 (by omega)) (Nat.lt_succ_self _)
          · skip
            refine z_aload_n (pc := 70) dX2_advance_70 0 rfl ?_
            refine z_iconst (pc := 71) dX2_advance_71 ?_
            refine z_put (pc := 72) (q0 := 0) (ws2 := [(tp, .inr (2, [.ref tb, .int (iI tn), .int (iI 0), .int (iI q), .int (iI q), .int (iI 0)])), (tb, .inl (cB, 120, .inl (tbA tc)))]) fP_X2_19 dX2_advance_72 rfl rfl rfl (Nat.le_of_ble_eq_true rfl) rfl ?_
            refine z_goto (pc := 75) (tgt := 243) dX2_advance_75 (by decide) ?_
            have eS : tS tc tn p = 0 := by unfold tS; rw [eB, if_pos (by rw [(bA_rng hT q).2.2.2.1 (by omega)]; decide)]
            have eT : tT tc tn p = 0 := (tT_S tc tn p).1.mpr eS
            have eE : tE tc tn p = q := by unfold tE; rw [if_pos eS, eB]
            have eU : tU tc tn p = 0 := by unfold tU; rw [if_neg (by omega)]
            exact z_vret (pc := 243) dX2_advance_243 rfl (by rw [eB, eT, eE, eU])
        · skip
          refine z_aload_n (pc := 33) dX2_advance_33 0 rfl ?_
          refine z_dup (pc := 34) dX2_advance_34 rfl ?_
          refine z_get (pc := 35) (q0 := 0) (v := .int (iI q)) fL_X2_22 dX2_advance_35 rfl rfl ?_
          refine z_iconst (pc := 38) dX2_advance_38 ?_
          refine z_iadd (pc := 39) dX2_advance_39 ?_
          refine z_put (pc := 40) (q0 := 0) (ws2 := [(tp, .inr (2, [.ref tb, .int (iI tn), .int (iI to), .int (iI (q + 1)), .int (iI p), .int (iI tu)])), (tb, .inl (cB, 120, .inl (tbA tc)))]) fP_X2_22 dX2_advance_40 rfl rfl rfl (Nat.le_of_ble_eq_true rfl) rfl ?_
          refine z_goto (pc := 43) (tgt := 8) dX2_advance_43 (by decide) ?_
          exact ih8 (q + 1) (by omega) (bl_s hq (by omega)) (by omega)
  refine z_lv (lv2 := [(0, .ref tp)]) [0] rfl ?_
  exact LP8 _ p (by omega) (fun j h0 h1 => absurd h1 (by omega)) (Nat.lt_succ_self _)
set_option maxHeartbeats 8000000 in
set_option maxRecDepth 100000 in
theorem c_X2_isWord (l : Launch) (D : va_G) (cI cJ cB cS : ClassId) (xa : XA) (tp tb : Nat) (tn : Int) (tc : FF) (p : Int) (i : Nat) (hT : OkT tc tn) (hp : 0 ≤ p ∧ p ≤ tn) (hi : i < 10) : Ct l D cI cJ cB cS xa yX2_isWord cX2_isWord 3 (some .boolean) 4 85 [.ref tp, .ref (xa.2.1 i)] [(tp, .inr (2, [.ref tb, .int (iI tn), .int (iI (tT tc tn p)), .int (iI (tB tc tn p)), .int (iI (tE tc tn p)), .int (iI (tU tc tn p))])), (tb, .inl (cB, 120, .inl (tbA tc)))] (some (.int (bI (kw i tc tn p)))) [(tp, .inr (2, [.ref tb, .int (iI tn), .int (iI (tT tc tn p)), .int (iI (tB tc tn p)), .int (iI (tE tc tn p)), .int (iI (tU tc tn p))])), (tb, .inl (cB, 120, .inl (tbA tc)))] := by
  have hT2 := hT.2
  have tb_ := tB_rng hT hp
  have te_ := tE_q hT hp
  have te2_ := tE_rng hT hp
  have ts_ := tS_rng tc tn p
  have tv_ := tV_rng hT hp
  have tt_ := tT_S tc tn p
  have tu_ := tU_V hT hp
  have hlw := lW_rng hi
  have ll := lnL_rng hT (b := tB tc tn p) (by omega)
  refine CtE.of (own := RX2) (lv := [(0, .ref tp), (1, .ref (xa.2.1 i))]) (by decide) rfl rfl (Nat.le_of_ble_eq_true rfl) ?_
  intro xp xe xs xm xb xt xc
  refine z_aload_n (pc := 0) dX2_isWord_0 0 rfl ?_
  refine z_get (pc := 1) (q0 := 0) (v := .int (iI (tT tc tn p))) fL_X2_19 dX2_isWord_1 rfl rfl ?_
  refine z_iconst (pc := 4) dX2_isWord_4 ?_
  refine z_icmp_ne (pc := 5) (tgt := 24) dX2_isWord_5 (by decide) (by omega) (by omega) (fun h5 => ?_) (fun h5 => ?_)
  · skip
    refine z_iconst (pc := 24) dX2_isWord_24 ?_
    exact z_zret (pc := 25) (by decide) dX2_isWord_25 (congrArg (fun z => some (Value.int z)) (bI_f (by exact fun z => h5 (tt_.2.1.mpr z.1)))) rfl
  · skip
    refine z_aload_n (pc := 8) dX2_isWord_8 0 rfl ?_
    refine z_get (pc := 9) (q0 := 0) (v := .int (iI (tE tc tn p))) fL_X2_25 dX2_isWord_9 rfl rfl ?_
    refine z_aload_n (pc := 12) dX2_isWord_12 0 rfl ?_
    refine z_get (pc := 13) (q0 := 0) (v := .int (iI (tB tc tn p))) fL_X2_22 dX2_isWord_13 rfl rfl ?_
    refine z_isub (pc := 16) dX2_isWord_16 ?_
    refine z_aload_n (pc := 17) dX2_isWord_17 1 rfl ?_
    refine z_callVS (pc := 18) (st := [.int (iI ((tE tc tn p) - (tB tc tn p)))]) (st2 := [.int (iI (lW i)), .int (iI ((tE tc tn p) - (tB tc tn p)))]) (c_J0_length_8abf5 l D cI cJ cB cS xa i (by first | assumption | decide)) mV_J0_length_8abf5 kM_X2_115 dX2_isWord_18 hi rfl rfl rfl rfl ⟨Nat.le_of_ble_eq_true rfl, Nat.le_of_ble_eq_true rfl, Nat.le_of_ble_eq_true rfl⟩ ?_
    have f18_1 := lW_rng (i := i) (by first | assumption | decide)
    refine z_icmp_eq (pc := 21) (tgt := 26) dX2_isWord_21 (by decide) (by omega) (by omega) (fun h21 => ?_) (fun h21 => ?_)
    · skip
      have hs1 : tS tc tn p = 1 := by omega
      have eL := tE_L hs1
      refine z_iconst (pc := 26) dX2_isWord_26 ?_
      refine z_istore_n (pc := 27) (lv2 := [(2, .int (iI 0)), (0, .ref tp), (1, .ref (xa.2.1 i))]) dX2_isWord_27 rfl (by decide) rfl ?_
      have LP28 : ∀ (nn_ : Nat) (j : Int), (0 ≤ j ∧ j ≤ lW i) → (∀ k : Int, 0 ≤ k → k < j → bA tc tn (tB tc tn p + k) = yW i k) → (lW i - j).toNat < nn_ → Z xp l xe { frames := 4, cells := 0, slots := 0, locals := 85 } xs xm ([.ref tp, .ref (xa.2.1 i)] : List Value).toArray xb xt xc 0 0 (MQ xb (Cq (S := Unit) D [(tp, .inr (2, [.ref tb, .int (iI tn), .int (iI (tT tc tn p)), .int (iI (tB tc tn p)), .int (iI (tE tc tn p)), .int (iI (tU tc tn p))])), (tb, .inl (cB, 120, .inl (tbA tc)))] (fun _ => True) (fun _ => (some (.int (bI (kw i tc tn p))))) (fun _ => [(tp, .inr (2, [.ref tb, .int (iI tn), .int (iI (tT tc tn p)), .int (iI (tB tc tn p)), .int (iI (tE tc tn p)), .int (iI (tU tc tn p))])), (tb, .inl (cB, 120, .inl (tbA tc)))])) ([.ref tp, .ref (xa.2.1 i)] : List Value).toArray xs 0 0 (va_A0 [(tp, .inr (2, [.ref tb, .int (iI tn), .int (iI (tT tc tn p)), .int (iI (tB tc tn p)), .int (iI (tE tc tn p)), .int (iI (tU tc tn p))])), (tb, .inl (cB, 120, .inl (tbA tc)))])) cX2_isWord RX2 3 (some .boolean) D cI cJ cB cS xa (va_A0 [(tp, .inr (2, [.ref tb, .int (iI tn), .int (iI (tT tc tn p)), .int (iI (tB tc tn p)), .int (iI (tE tc tn p)), .int (iI (tU tc tn p))])), (tb, .inl (cB, 120, .inl (tbA tc)))]) [(tp, .inr (2, [.ref tb, .int (iI tn), .int (iI (tT tc tn p)), .int (iI (tB tc tn p)), .int (iI (tE tc tn p)), .int (iI (tU tc tn p))])), (tb, .inl (cB, 120, .inl (tbA tc)))] [(0, .ref tp), (1, .ref (xa.2.1 i)), (2, .int (iI j))] 28 [] := by
        intro nn_
        induction nn_ with
        | zero => intro j hj hs hms; exact absurd hms (Nat.not_lt_zero _)
        | succ nn_ ih =>
          intro j hj hs hms
          have eb := bA_rng hT (tB tc tn p + j)
          have hc := hT.1 (tB tc tn p + j)
          have es := sb_rng hc
          have ih28 := ih
          clear ih
          refine z_iload_n (pc := 28) dX2_isWord_28 2 rfl ?_
          refine z_aload_n (pc := 29) dX2_isWord_29 1 rfl ?_
          refine z_callVS (pc := 30) (st := [.int (iI j)]) (st2 := [.int (iI (lW i)), .int (iI j)]) (c_J0_length_8abf5 l D cI cJ cB cS xa i (by first | assumption | decide)) mV_J0_length_8abf5 kM_X2_115 dX2_isWord_30 hi rfl rfl rfl rfl ⟨Nat.le_of_ble_eq_true rfl, Nat.le_of_ble_eq_true rfl, Nat.le_of_ble_eq_true rfl⟩ ?_
          have f30_2 := lW_rng (i := i) (by first | assumption | decide)
          refine z_icmp_ge (pc := 33) (tgt := 63) dX2_isWord_33 (by decide) (by omega) (by omega) (fun h33 => ?_) (fun h33 => ?_)
          · skip
            refine z_iconst (pc := 63) dX2_isWord_63 ?_
            exact z_zret (pc := 64) (by decide) dX2_isWord_64 (congrArg (fun z => some (Value.int z)) (bI_t (by exact ⟨hs1, (kw_iff hi hT hp hs1).mpr ⟨by omega, fun k a b => hs k a (by omega)⟩⟩))) rfl
          · skip
            refine z_aload_n (pc := 36) dX2_isWord_36 0 rfl ?_
            refine z_get (pc := 37) (q0 := 0) (v := .ref tb) fL_X2_11 dX2_isWord_37 rfl rfl ?_
            refine z_aload_n (pc := 40) dX2_isWord_40 0 rfl ?_
            refine z_get (pc := 41) (q0 := 0) (v := .int (iI (tB tc tn p))) fL_X2_22 dX2_isWord_41 rfl rfl ?_
            refine z_iload_n (pc := 44) dX2_isWord_44 2 rfl ?_
            refine z_iadd (pc := 45) dX2_isWord_45 ?_
            refine z_bald (pc := 46) (q0 := 1) (v := (iI (sb (tc ((tB tc tn p) + j))))) dX2_isWord_46 rfl (by omega) (by decide) (tbA_at (by omega)) ?_
            refine z_aload_n (pc := 47) dX2_isWord_47 1 rfl ?_
            refine z_iload_n (pc := 48) dX2_isWord_48 2 rfl ?_
            refine z_callVS (pc := 49) (st := [.int (iI (sb (tc ((tB tc tn p) + j))))]) (st2 := [.int (iI (yW i j)), .int (iI (sb (tc ((tB tc tn p) + j))))]) (c_J0_charAt_5068e l D cI cJ cB cS xa j i (by first | assumption | decide) (by omega)) mV_J0_charAt_5068e kM_X2_119 dX2_isWord_49 hi rfl rfl rfl rfl ⟨Nat.le_of_ble_eq_true rfl, Nat.le_of_ble_eq_true rfl, Nat.le_of_ble_eq_true rfl⟩ ?_
            have f49_3 := @yW_isL i j (by first | assumption | decide) (by omega)
            refine z_icmp_eq (pc := 52) (tgt := 57) dX2_isWord_52 (by decide) (by omega) (by omega) (fun h52 => ?_) (fun h52 => ?_)
            · skip
              refine z_iinc (pc := 57) (lv2 := [(2, .int (iI (j + 1))), (0, .ref tp), (1, .ref (xa.2.1 i))]) dX2_isWord_57 2 rfl (by decide) rfl ?_
              refine z_goto (pc := 60) (tgt := 28) dX2_isWord_60 (by decide) ?_
              refine z_lv (lv2 := [(0, .ref tp), (1, .ref (xa.2.1 i)), (2, .int (iI (j + 1)))]) [1, 2, 0] rfl ?_
              exact ih28 (j + 1) (by omega) (fun k a b => by
                by_cases z : k < j
                · exact hs k a z
                · obtain rfl : k = j := by omega
                  omega) (by omega)
            · skip
              refine z_iconst (pc := 55) dX2_isWord_55 ?_
              exact z_zret (pc := 56) (by decide) dX2_isWord_56 (congrArg (fun z => some (Value.int z)) (bI_f (by exact fun z => (by have := ((kw_iff hi hT hp hs1).mp z.2).2 j (by omega) (by omega); omega)))) rfl
      refine z_lv (lv2 := [(0, .ref tp), (1, .ref (xa.2.1 i)), (2, .int (iI 0))]) [1, 2, 0] rfl ?_
      exact LP28 _ 0 (by omega) (fun k a b => absurd b (by omega)) (Nat.lt_succ_self _)
    · skip
      refine z_iconst (pc := 24) dX2_isWord_24 ?_
      exact z_zret (pc := 25) (by decide) dX2_isWord_25 (congrArg (fun z => some (Value.int z)) (bI_f (by exact fun z => h21 (by rw [tE_L z.1]; exact ((kw_iff hi hT hp z.1).mp z.2).1)))) rfl
set_option maxHeartbeats 8000000 in
set_option maxRecDepth 100000 in
theorem c_X2_nameOf (l : Launch) (D : va_G) (cI cJ cB cS : ClassId) (xa : XA) (k : Int) (hk : 0 ≤ k ∧ k ≤ 5) : Ct l D cI cJ cB cS xa yX2_nameOf cX2_nameOf 1 (some (.object "java/lang/String")) 0 0 [.int (iI k)] [] (some (.ref (xa.2.1 (nmI k)))) [] := by
  refine CtE.of (own := RX2) (lv := [(0, .int (iI k))]) (by decide) rfl rfl (Nat.le_of_ble_eq_true rfl) ?_
  intro xp xe xs xm xb xt xc
  refine z_iload_n (pc := 0) dX2_nameOf_0 0 rfl ?_
  by_cases h1 : 1 ≤ k ∧ k ≤ 5
  · skip
    have h1v : k = 1 ∨ k = 2 ∨ k = 3 ∨ k = 4 ∨ k = 5 := by omega
    rcases h1v with h1v | h1v | h1v | h1v | h1v
    · skip
      refine z_tableIn (pc := 1) (tgt := 36) dX2_nameOf_1 (by omega) (by omega) (by omega) (by rw [h1v]; rfl) (by decide) ?_
      refine z_ldcS (pc := 36) 2 (by decide) (by decide) rfl dX2_nameOf_36 ?_
      exact z_aret (pc := 38) dX2_nameOf_38 (by rw [h1v]; rfl) rfl
    · skip
      refine z_tableIn (pc := 1) (tgt := 39) dX2_nameOf_1 (by omega) (by omega) (by omega) (by rw [h1v]; rfl) (by decide) ?_
      refine z_ldcS (pc := 39) 3 (by decide) (by decide) rfl dX2_nameOf_39 ?_
      exact z_aret (pc := 41) dX2_nameOf_41 (by rw [h1v]; rfl) rfl
    · skip
      refine z_tableIn (pc := 1) (tgt := 42) dX2_nameOf_1 (by omega) (by omega) (by omega) (by rw [h1v]; rfl) (by decide) ?_
      refine z_ldcS (pc := 42) 4 (by decide) (by decide) rfl dX2_nameOf_42 ?_
      exact z_aret (pc := 44) dX2_nameOf_44 (by rw [h1v]; rfl) rfl
    · skip
      refine z_tableIn (pc := 1) (tgt := 45) dX2_nameOf_1 (by omega) (by omega) (by omega) (by rw [h1v]; rfl) (by decide) ?_
      refine z_ldcS (pc := 45) 5 (by decide) (by decide) rfl dX2_nameOf_45 ?_
      exact z_aret (pc := 47) dX2_nameOf_47 (by rw [h1v]; rfl) rfl
    · skip
      refine z_tableIn (pc := 1) (tgt := 48) dX2_nameOf_1 (by omega) (by omega) (by omega) (by rw [h1v]; rfl) (by decide) ?_
      refine z_ldcS (pc := 48) 6 (by decide) (by decide) rfl dX2_nameOf_48 ?_
      exact z_aret (pc := 50) dX2_nameOf_50 (by rw [h1v]; rfl) rfl
  · skip
    refine z_tableOut (pc := 1) (tgt := 51) dX2_nameOf_1 (by omega) (by omega) (by decide) ?_
    refine z_ldcS (pc := 51) 7 (by decide) (by decide) rfl dX2_nameOf_51 ?_
    exact z_aret (pc := 53) dX2_nameOf_53 (by rw [show k = 0 by omega]; rfl) rfl
set_option maxHeartbeats 8000000 in
set_option maxRecDepth 100000 in
theorem c_X2_kindNamed (l : Launch) (D : va_G) (cI cJ cB cS : ClassId) (xa : XA) (tp tb : Nat) (tn : Int) (tc : FF) (p : Int) (hT : OkT tc tn) (hp : 0 ≤ p ∧ p ≤ tn) : Ct l D cI cJ cB cS xa yX2_kindNamed cX2_kindNamed 2 (some .int) 5 107 [.ref tp] [(tp, .inr (2, [.ref tb, .int (iI tn), .int (iI (tT tc tn p)), .int (iI (tB tc tn p)), .int (iI (tE tc tn p)), .int (iI (tU tc tn p))])), (tb, .inl (cB, 120, .inl (tbA tc)))] (some (.int (iI (kdT tc tn p)))) [(tp, .inr (2, [.ref tb, .int (iI tn), .int (iI (tT tc tn p)), .int (iI (tB tc tn p)), .int (iI (tE tc tn p)), .int (iI (tU tc tn p))])), (tb, .inl (cB, 120, .inl (tbA tc)))] := by
  have hT2 := hT.2
  refine CtE.of (own := RX2) (lv := [(0, .ref tp)]) (by decide) rfl rfl (Nat.le_of_ble_eq_true rfl) ?_
  intro xp xe xs xm xb xt xc
  refine z_iconst (pc := 0) dX2_kindNamed_0 ?_
  refine z_istore_n (pc := 1) (lv2 := [(1, .int (iI 0)), (0, .ref tp)]) dX2_kindNamed_1 rfl (by decide) rfl ?_
  have LP2 : ∀ (nn_ : Nat) (k : Int), (0 ≤ k ∧ k ≤ 6) → (∀ j : Int, 0 ≤ j → j < k → ¬ kw (nmI j) tc tn p) → (6 - k).toNat < nn_ → Z xp l xe { frames := 5, cells := 0, slots := 0, locals := 107 } xs xm ([.ref tp] : List Value).toArray xb xt xc 0 0 (MQ xb (Cq (S := Unit) D [(tp, .inr (2, [.ref tb, .int (iI tn), .int (iI (tT tc tn p)), .int (iI (tB tc tn p)), .int (iI (tE tc tn p)), .int (iI (tU tc tn p))])), (tb, .inl (cB, 120, .inl (tbA tc)))] (fun _ => True) (fun _ => (some (.int (iI (kdT tc tn p))))) (fun _ => [(tp, .inr (2, [.ref tb, .int (iI tn), .int (iI (tT tc tn p)), .int (iI (tB tc tn p)), .int (iI (tE tc tn p)), .int (iI (tU tc tn p))])), (tb, .inl (cB, 120, .inl (tbA tc)))])) ([.ref tp] : List Value).toArray xs 0 0 (va_A0 [(tp, .inr (2, [.ref tb, .int (iI tn), .int (iI (tT tc tn p)), .int (iI (tB tc tn p)), .int (iI (tE tc tn p)), .int (iI (tU tc tn p))])), (tb, .inl (cB, 120, .inl (tbA tc)))])) cX2_kindNamed RX2 2 (some .int) D cI cJ cB cS xa (va_A0 [(tp, .inr (2, [.ref tb, .int (iI tn), .int (iI (tT tc tn p)), .int (iI (tB tc tn p)), .int (iI (tE tc tn p)), .int (iI (tU tc tn p))])), (tb, .inl (cB, 120, .inl (tbA tc)))]) [(tp, .inr (2, [.ref tb, .int (iI tn), .int (iI (tT tc tn p)), .int (iI (tB tc tn p)), .int (iI (tE tc tn p)), .int (iI (tU tc tn p))])), (tb, .inl (cB, 120, .inl (tbA tc)))] [(0, .ref tp), (1, .int (iI k))] 2 [] := by
    intro nn_
    induction nn_ with
    | zero => intro k hk hn hms; exact absurd hms (Nat.not_lt_zero _)
    | succ nn_ ih =>
      intro k hk hn hms
      have ih2 := ih
      clear ih
      refine z_iload_n (pc := 2) dX2_kindNamed_2 1 rfl ?_
      refine z_bipush (pc := 3) dX2_kindNamed_3 (by decide) ?_
      refine z_icmp_ge (pc := 5) (tgt := 27) dX2_kindNamed_5 (by decide) (by omega) (by omega) (fun h5 => ?_) (fun h5 => ?_)
      · skip
        refine z_iconst (pc := 27) dX2_kindNamed_27 ?_
        exact z_iret (pc := 28) dX2_kindNamed_28 (congrArg (fun z => some (Value.int (iI z))) (show (kdT tc tn p) = -1 from by exact kdT_no (fun j a b => hn j a (by omega)))) rfl
      · skip
        refine z_aload_n (pc := 8) dX2_kindNamed_8 0 rfl ?_
        refine z_iload_n (pc := 9) dX2_kindNamed_9 1 rfl ?_
        refine z_callS (pc := 10) (st := [.ref tp]) (st2 := [.ref (xa.2.1 (nmI k)), .ref tp]) (ws2 := [(tp, .inr (2, [.ref tb, .int (iI tn), .int (iI (tT tc tn p)), .int (iI (tB tc tn p)), .int (iI (tE tc tn p)), .int (iI (tU tc tn p))])), (tb, .inl (cB, 120, .inl (tbA tc)))]) (c_X2_nameOf l D cI cJ cB cS xa k (by omega)) mS_X2_nameOf kM_X2_99 dX2_kindNamed_10 [] rfl rfl rfl rfl rfl rfl rfl rfl ⟨Nat.le_of_ble_eq_true rfl, Nat.le_of_ble_eq_true rfl, Nat.le_of_ble_eq_true rfl⟩ ?_
        refine z_callV (pc := 13) (st := []) (st2 := [.int (bI (kw (nmI k) tc tn p))]) (ws2 := [(tp, .inr (2, [.ref tb, .int (iI tn), .int (iI (tT tc tn p)), .int (iI (tB tc tn p)), .int (iI (tE tc tn p)), .int (iI (tU tc tn p))])), (tb, .inl (cB, 120, .inl (tbA tc)))]) (q0 := 0) (c_X2_isWord l D cI cJ cB cS xa tp tb tn tc p (nmI k) (by assumption) (by omega) (nmI_lt (by omega))) mV_X2_isWord kM_X2_40 dX2_kindNamed_13 rfl rfl [0, 1] rfl rfl rfl rfl rfl rfl rfl rfl ⟨Nat.le_of_ble_eq_true rfl, Nat.le_of_ble_eq_true rfl, Nat.le_of_ble_eq_true rfl⟩ ?_
        refine z_ifb_eq (pc := 16) (tgt := 21) dX2_kindNamed_16 (by decide) (fun h16 => ?_) (fun h16 => ?_)
        · skip
          refine z_iinc (pc := 21) (lv2 := [(1, .int (iI (k + 1))), (0, .ref tp)]) dX2_kindNamed_21 1 rfl (by decide) rfl ?_
          refine z_goto (pc := 24) (tgt := 2) dX2_kindNamed_24 (by decide) ?_
          refine z_lv (lv2 := [(0, .ref tp), (1, .int (iI (k + 1)))]) [1, 0] rfl ?_
          exact ih2 (k + 1) (by omega) (fun j a b => by
            by_cases z : j < k
            · exact hn j a z
            · obtain rfl : j = k := by omega
              exact h16) (by omega)
        · skip
          refine z_iload_n (pc := 19) dX2_kindNamed_19 1 rfl ?_
          exact z_iret (pc := 20) dX2_kindNamed_20 (congrArg (fun z => some (Value.int (iI z))) (show (kdT tc tn p) = k from by exact kdT_at (by omega) hn h16)) rfl
  refine z_lv (lv2 := [(0, .ref tp), (1, .int (iI 0))]) [1, 0] rfl ?_
  exact LP2 _ 0 (by omega) (fun j a b => absurd b (by omega)) (Nat.lt_succ_self _)
set_option maxHeartbeats 8000000 in
set_option maxRecDepth 100000 in
theorem c_X2_isNumberWithin (l : Launch) (D : va_G) (cI cJ cB cS : ClassId) (xa : XA) (tp tb : Nat) (tn : Int) (tc : FF) (p : Int) (a b : Int) (hT : OkT tc tn) (hp : 0 ≤ p ∧ p ≤ tn) (ha : 0 ≤ a ∧ a ≤ 1) (hb : -1 ≤ b ∧ b ≤ 999) : Ct l D cI cJ cB cS xa yX2_isNumberWithin cX2_isNumberWithin 3 (some .boolean) 0 0 [.ref tp, .int (iI a), .int (iI b)] [(tp, .inr (2, [.ref tb, .int (iI tn), .int (iI (tT tc tn p)), .int (iI (tB tc tn p)), .int (iI (tE tc tn p)), .int (iI (tU tc tn p))]))] (some (.int (bI (nm tc tn p a b)))) [(tp, .inr (2, [.ref tb, .int (iI tn), .int (iI (tT tc tn p)), .int (iI (tB tc tn p)), .int (iI (tE tc tn p)), .int (iI (tU tc tn p))]))] := by
  have hT2 := hT.2
  have tb_ := tB_rng hT hp
  have te_ := tE_q hT hp
  have te2_ := tE_rng hT hp
  have ts_ := tS_rng tc tn p
  have tv_ := tV_rng hT hp
  have tt_ := tT_S tc tn p
  have tu_ := tU_V hT hp
  refine CtE.of (own := RX2) (lv := [(0, .ref tp), (1, .int (iI a)), (2, .int (iI b))]) (by decide) rfl rfl (Nat.le_of_ble_eq_true rfl) ?_
  intro xp xe xs xm xb xt xc
  refine z_aload_n (pc := 0) dX2_isNumberWithin_0 0 rfl ?_
  refine z_get (pc := 1) (q0 := 0) (v := .int (iI (tT tc tn p))) fL_X2_19 dX2_isNumberWithin_1 rfl rfl ?_
  refine z_iconst (pc := 4) dX2_isNumberWithin_4 ?_
  refine z_icmp_ne (pc := 5) (tgt := 28) dX2_isNumberWithin_5 (by decide) (by omega) (by omega) (fun h5 => ?_) (fun h5 => ?_)
  · skip
    refine z_iconst (pc := 28) dX2_isNumberWithin_28 ?_
    exact z_zret (pc := 29) (by decide) dX2_isNumberWithin_29 (congrArg (fun z => some (Value.int z)) (bI_f (by exact fun z => h5 (tt_.2.2.1.mpr z.1)))) rfl
  · skip
    refine z_aload_n (pc := 8) dX2_isNumberWithin_8 0 rfl ?_
    refine z_get (pc := 9) (q0 := 0) (v := .int (iI (tU tc tn p))) fL_X2_28 dX2_isNumberWithin_9 rfl rfl ?_
    refine z_iload_n (pc := 12) dX2_isNumberWithin_12 1 rfl ?_
    refine z_icmp_lt (pc := 13) (tgt := 28) dX2_isNumberWithin_13 (by decide) (by omega) (by omega) (fun h13 => ?_) (fun h13 => ?_)
    · skip
      refine z_iconst (pc := 28) dX2_isNumberWithin_28 ?_
      exact z_zret (pc := 29) (by decide) dX2_isNumberWithin_29 (congrArg (fun z => some (Value.int z)) (bI_f (by exact fun z => (by have := tu_.2.2 z.1; omega)))) rfl
    · skip
      refine z_aload_n (pc := 16) dX2_isNumberWithin_16 0 rfl ?_
      refine z_get (pc := 17) (q0 := 0) (v := .int (iI (tU tc tn p))) fL_X2_28 dX2_isNumberWithin_17 rfl rfl ?_
      refine z_iload_n (pc := 20) dX2_isNumberWithin_20 2 rfl ?_
      refine z_icmp_gt (pc := 21) (tgt := 28) dX2_isNumberWithin_21 (by decide) (by omega) (by omega) (fun h21 => ?_) (fun h21 => ?_)
      · skip
        refine z_iconst (pc := 28) dX2_isNumberWithin_28 ?_
        exact z_zret (pc := 29) (by decide) dX2_isNumberWithin_29 (congrArg (fun z => some (Value.int z)) (bI_f (by exact fun z => (by have := tu_.2.2 z.1; omega)))) rfl
      · skip
        refine z_iconst (pc := 24) dX2_isNumberWithin_24 ?_
        refine z_goto (pc := 25) (tgt := 29) dX2_isNumberWithin_25 (by decide) ?_
        exact z_zret (pc := 29) (by decide) dX2_isNumberWithin_29 (congrArg (fun z => some (Value.int z)) (bI_t (by exact (by have z1 := tt_.2.2.1.mp (by omega); have z2 := tu_.2.2 z1; exact ⟨z1, by omega, by omega⟩)))) rfl
set_option maxHeartbeats 8000000 in
set_option maxRecDepth 100000 in
theorem c_X2_isPartTold (l : Launch) (D : va_G) (cI cJ cB cS : ClassId) (xa : XA) (tp tb : Nat) (tn : Int) (tc : FF) (p : Int) (i : Nat) (b c d w : Int) (ha : Nat) (g : Gd) (hT : OkT tc tn) (hp : 0 ≤ p ∧ p ≤ tn) (hi : i < 10) (hb : 0 ≤ b ∧ b ≤ 999) (hc : 0 ≤ c ∧ c < 8) (hd : g w c = d) : Ct l D cI cJ cB cS xa yX2_isPartTold cX2_isPartTold 5 (some .boolean) 5 107 [.ref tp, .ref (xa.2.1 i), .int (iI b), .ref ha, .int (iI c)] [(tp, .inr (2, [.ref tb, .int (iI tn), .int (iI (tT tc tn p)), .int (iI (tB tc tn p)), .int (iI (tE tc tn p)), .int (iI (tU tc tn p))])), (tb, .inl (cB, 120, .inl (tbA tc))), (ha, .inl (cI, 8, .inl (aG g w)))] (some (.int (bI ((ptT i tc tn b d p).1 = 1)))) [(tp, .inr (2, [.ref tb, .int (iI tn), .int (iI (tT tc tn ((ptT i tc tn b d p).2.1))), .int (iI (tB tc tn ((ptT i tc tn b d p).2.1))), .int (iI (tE tc tn ((ptT i tc tn b d p).2.1))), .int (iI (tU tc tn ((ptT i tc tn b d p).2.1)))])), (tb, .inl (cB, 120, .inl (tbA tc))), (ha, .inl (cI, 8, .inl (aG (ptG i tc tn b d p g w c) w)))] := by
  have hT2 := hT.2
  have tb_ := tB_rng hT hp
  have te_ := tE_q hT hp
  have te2_ := tE_rng hT hp
  have ts_ := tS_rng tc tn p
  have tv_ := tV_rng hT hp
  have tt_ := tT_S tc tn p
  have tu_ := tU_V hT hp
  refine CtE.of (own := RX2) (lv := [(0, .ref tp), (1, .ref (xa.2.1 i)), (2, .int (iI b)), (3, .ref ha), (4, .int (iI c))]) (by decide) rfl rfl (Nat.le_of_ble_eq_true rfl) ?_
  intro xp xe xs xm xb xt xc
  refine z_aload_n (pc := 0) dX2_isPartTold_0 0 rfl ?_
  refine z_aload_n (pc := 1) dX2_isPartTold_1 1 rfl ?_
  refine z_callV (pc := 2) (st := []) (st2 := [.int (bI (kw i tc tn p))]) (ws2 := [(tp, .inr (2, [.ref tb, .int (iI tn), .int (iI (tT tc tn p)), .int (iI (tB tc tn p)), .int (iI (tE tc tn p)), .int (iI (tU tc tn p))])), (tb, .inl (cB, 120, .inl (tbA tc))), (ha, .inl (cI, 8, .inl (aG g w)))]) (q0 := 0) (c_X2_isWord l D cI cJ cB cS xa tp tb tn tc p i (by assumption) (by omega) (by first | assumption | decide)) mV_X2_isWord kM_X2_40 dX2_isPartTold_2 rfl rfl [0, 1] rfl rfl rfl rfl rfl rfl rfl rfl ⟨Nat.le_of_ble_eq_true rfl, Nat.le_of_ble_eq_true rfl, Nat.le_of_ble_eq_true rfl⟩ ?_
  refine z_ifb_ne (pc := 5) (tgt := 10) dX2_isPartTold_5 (by decide) (fun h5 => ?_) (fun h5 => ?_)
  · skip
    refine z_aload_n (pc := 10) dX2_isPartTold_10 0 rfl ?_
    refine z_callV (pc := 11) (st := []) (st2 := []) (ws2 := [(tp, .inr (2, [.ref tb, .int (iI tn), .int (iI (tT tc tn (tE tc tn p))), .int (iI (tB tc tn (tE tc tn p))), .int (iI (tE tc tn (tE tc tn p))), .int (iI (tU tc tn (tE tc tn p)))])), (tb, .inl (cB, 120, .inl (tbA tc))), (ha, .inl (cI, 8, .inl (aG g w)))]) (q0 := 0) (c_X2_advance l D cI cJ cB cS xa tp tb tn (tT tc tn p) (tB tc tn p) (tE tc tn p) (tU tc tn p) tc (by assumption) (by omega)) mV_X2_advance kM_X2_31 dX2_isPartTold_11 rfl rfl [0, 1] rfl rfl rfl rfl rfl rfl rfl rfl ⟨Nat.le_of_ble_eq_true rfl, Nat.le_of_ble_eq_true rfl, Nat.le_of_ble_eq_true rfl⟩ ?_
    have f11_1 := tB_rng hT (show 0 ≤ (tE tc tn p) ∧ (tE tc tn p) ≤ tn by omega)
    have f11_2 := tE_q hT (show 0 ≤ (tE tc tn p) ∧ (tE tc tn p) ≤ tn by omega)
    have f11_3 := tS_rng tc tn (tE tc tn p)
    have f11_4 := tV_rng hT (show 0 ≤ (tE tc tn p) ∧ (tE tc tn p) ≤ tn by omega)
    have f11_5 := tT_S tc tn (tE tc tn p)
    have f11_6 := tU_V hT (show 0 ≤ (tE tc tn p) ∧ (tE tc tn p) ≤ tn by omega)
    refine z_aload_n (pc := 14) dX2_isPartTold_14 0 rfl ?_
    refine z_iconst (pc := 15) dX2_isPartTold_15 ?_
    refine z_iload_n (pc := 16) dX2_isPartTold_16 2 rfl ?_
    refine z_callV (pc := 17) (st := []) (st2 := [.int (bI (nm tc tn (tE tc tn p) 0 b))]) (ws2 := [(tp, .inr (2, [.ref tb, .int (iI tn), .int (iI (tT tc tn (tE tc tn p))), .int (iI (tB tc tn (tE tc tn p))), .int (iI (tE tc tn (tE tc tn p))), .int (iI (tU tc tn (tE tc tn p)))])), (tb, .inl (cB, 120, .inl (tbA tc))), (ha, .inl (cI, 8, .inl (aG g w)))]) (q0 := 0) (c_X2_isNumberWithin l D cI cJ cB cS xa tp tb tn tc (tE tc tn p) 0 b (by assumption) (by omega) (by omega) (by omega)) mV_X2_isNumberWithin kM_X2_69 dX2_isPartTold_17 rfl rfl [0] rfl rfl rfl rfl rfl rfl rfl rfl ⟨Nat.le_of_ble_eq_true rfl, Nat.le_of_ble_eq_true rfl, Nat.le_of_ble_eq_true rfl⟩ ?_
    refine z_ifb_ne (pc := 20) (tgt := 25) dX2_isPartTold_20 (by decide) (fun h20 => ?_) (fun h20 => ?_)
    · skip
      have vu := nm_u h20 hb.2 hT ⟨te_.2.1, te_.2.2.1⟩
      have t2_ := tE_q hT (q := tE tc tn p) ⟨te_.2.1, te_.2.2.1⟩
      have e1 : ptT i tc tn b d p = (1, tE tc tn (tE tc tn p), tV tc tn (tE tc tn p)) := by unfold ptT; rw [if_pos h5, if_pos h20]
      have eG : ptG i tc tn b d p g w c = up2 g w c (tV tc tn (tE tc tn p)) := by
        unfold ptG; rw [e1, if_pos (show ((1, tE tc tn (tE tc tn p), tV tc tn (tE tc tn p)) : Int × Int × Int).1 = 1 from rfl)]
      refine z_aload_n (pc := 25) dX2_isPartTold_25 3 rfl ?_
      refine z_iload (pc := 26) dX2_isPartTold_26 4 rfl ?_
      refine z_aload_n (pc := 28) dX2_isPartTold_28 0 rfl ?_
      refine z_get (pc := 29) (q0 := 0) (v := .int (iI (tU tc tn (tE tc tn p)))) fL_X2_28 dX2_isPartTold_29 rfl rfl ?_
      refine z_st (st2 := [.int (iI (tV tc tn (tE tc tn p))), .int (iI c), .ref ha]) (by rw [vu]) ?_
      refine z_iast (pc := 32) (q0 := 2) (ws2 := [(tp, .inr (2, [.ref tb, .int (iI tn), .int (iI (tT tc tn (tE tc tn p))), .int (iI (tB tc tn (tE tc tn p))), .int (iI (tE tc tn (tE tc tn p))), .int (iI (tU tc tn (tE tc tn p)))])), (tb, .inl (cB, 120, .inl (tbA tc))), (ha, .inl (cI, 8, .inl (aG (up2 g w c (tV tc tn (tE tc tn p))) w)))]) dX2_isPartTold_32 rfl (by omega) (by decide) (by rw [aG_up (by omega)]; rfl) ?_
      refine z_aload_n (pc := 33) dX2_isPartTold_33 0 rfl ?_
      refine z_callV (pc := 34) (st := []) (st2 := []) (ws2 := [(tp, .inr (2, [.ref tb, .int (iI tn), .int (iI (tT tc tn (tE tc tn (tE tc tn p)))), .int (iI (tB tc tn (tE tc tn (tE tc tn p)))), .int (iI (tE tc tn (tE tc tn (tE tc tn p)))), .int (iI (tU tc tn (tE tc tn (tE tc tn p))))])), (tb, .inl (cB, 120, .inl (tbA tc))), (ha, .inl (cI, 8, .inl (aG (up2 g w c (tV tc tn (tE tc tn p))) w)))]) (q0 := 0) (c_X2_advance l D cI cJ cB cS xa tp tb tn (tT tc tn (tE tc tn p)) (tB tc tn (tE tc tn p)) (tE tc tn (tE tc tn p)) (tU tc tn (tE tc tn p)) tc (by assumption) (by omega)) mV_X2_advance kM_X2_31 dX2_isPartTold_34 rfl rfl [0, 1] rfl rfl rfl rfl rfl rfl rfl rfl ⟨Nat.le_of_ble_eq_true rfl, Nat.le_of_ble_eq_true rfl, Nat.le_of_ble_eq_true rfl⟩ ?_
      have f34_7 := tB_rng hT (show 0 ≤ (tE tc tn (tE tc tn p)) ∧ (tE tc tn (tE tc tn p)) ≤ tn by omega)
      have f34_8 := tE_q hT (show 0 ≤ (tE tc tn (tE tc tn p)) ∧ (tE tc tn (tE tc tn p)) ≤ tn by omega)
      have f34_9 := tS_rng tc tn (tE tc tn (tE tc tn p))
      have f34_10 := tV_rng hT (show 0 ≤ (tE tc tn (tE tc tn p)) ∧ (tE tc tn (tE tc tn p)) ≤ tn by omega)
      have f34_11 := tT_S tc tn (tE tc tn (tE tc tn p))
      have f34_12 := tU_V hT (show 0 ≤ (tE tc tn (tE tc tn p)) ∧ (tE tc tn (tE tc tn p)) ≤ tn by omega)
      refine z_iconst (pc := 37) dX2_isPartTold_37 ?_
      exact z_zret (pc := 38) (by decide) dX2_isPartTold_38 (congrArg (fun z => some (Value.int z)) (bI_t (by rw [e1]))) (by rw [eG, e1])
    · skip
      have e1 : ptT i tc tn b d p = (0, tE tc tn p, 0) := by unfold ptT; rw [if_pos h5, if_neg h20]
      have eG : ptG i tc tn b d p g w c = g := by
        unfold ptG; rw [e1, if_neg (show ¬ ((0, tE tc tn p, 0) : Int × Int × Int).1 = 1 by show ¬ ((0 : Int) = 1); decide)]
      refine z_iconst (pc := 23) dX2_isPartTold_23 ?_
      exact z_zret (pc := 24) (by decide) dX2_isPartTold_24 (congrArg (fun z => some (Value.int z)) (bI_f (by rw [e1]; show ¬ ((0 : Int) = 1); decide))) (by rw [eG, e1])
  · skip
    have e1 : ptT i tc tn b d p = (1, p, d) := by unfold ptT; rw [if_neg h5]
    have eG : ptG i tc tn b d p g w c = g := by
      unfold ptG; rw [e1, if_pos (show ((1, p, d) : Int × Int × Int).1 = 1 from rfl), ← hd]; exact up2_self g w c
    refine z_iconst (pc := 8) dX2_isPartTold_8 ?_
    exact z_zret (pc := 9) (by decide) dX2_isPartTold_9 (congrArg (fun z => some (Value.int z)) (bI_t (by rw [e1]))) (by rw [eG, e1])
set_option maxHeartbeats 8000000 in
set_option maxRecDepth 100000 in
theorem c_X2_isPushTold (l : Launch) (D : va_G) (cI cJ cB cS : ClassId) (xa : XA) (tp tb : Nat) (tn : Int) (tc : FF) (p : Int) (h hK hH hM hO : Nat) (g : Gd) (hT : OkT tc tn) (hp : 0 ≤ p ∧ p ≤ tn) (ok : Ok g) : Ct l D cI cJ cB cS xa yX2_isPushTold cX2_isPushTold 3 (some .boolean) 2 43 [.ref tp, .ref h] [(tp, .inr (2, [.ref tb, .int (iI tn), .int (iI (tT tc tn p)), .int (iI (tB tc tn p)), .int (iI (tE tc tn p)), .int (iI (tU tc tn p))])), (tb, .inl (cB, 120, .inl (tbA tc))), (h, oG g hK hH hM hO), (hK, .inl (cI, 8, .inl (aG g 0))), (hH, .inl (cI, 8, .inl (aG g 1))), (hM, .inl (cI, 8, .inl (aG g 2))), (hO, .inl (cI, 8, .inl (aG g 3)))] (some (.int (bI ((itP tc tn p g).1 = 1)))) [(tp, .inr (2, [.ref tb, .int (iI tn), .int (iI (tT tc tn ((itP tc tn p g).2.1))), .int (iI (tB tc tn ((itP tc tn p g).2.1))), .int (iI (tE tc tn ((itP tc tn p g).2.1))), .int (iI (tU tc tn ((itP tc tn p g).2.1)))])), (tb, .inl (cB, 120, .inl (tbA tc))), (h, oG ((itP tc tn p g).2.2) hK hH hM hO), (hK, .inl (cI, 8, .inl (aG ((itP tc tn p g).2.2) 0))), (hH, .inl (cI, 8, .inl (aG ((itP tc tn p g).2.2) 1))), (hM, .inl (cI, 8, .inl (aG ((itP tc tn p g).2.2) 2))), (hO, .inl (cI, 8, .inl (aG ((itP tc tn p g).2.2) 3)))] := by
  have hT2 := hT.2
  have tb_ := tB_rng hT hp
  have te_ := tE_q hT hp
  have te2_ := tE_rng hT hp
  have ts_ := tS_rng tc tn p
  have tv_ := tV_rng hT hp
  have tt_ := tT_S tc tn p
  have tu_ := tU_V hT hp
  have o0 := ok0 ok
  have o1 := ok1 ok
  have o2 := ok2 ok
  refine CtE.of (own := RX2) (lv := [(0, .ref tp), (1, .ref h)]) (by decide) rfl rfl (Nat.le_of_ble_eq_true rfl) ?_
  intro xp xe xs xm xb xt xc
  refine z_aload_n (pc := 0) dX2_isPushTold_0 0 rfl ?_
  refine z_callV (pc := 1) (st := []) (st2 := []) (ws2 := [(tp, .inr (2, [.ref tb, .int (iI tn), .int (iI (tT tc tn (tE tc tn p))), .int (iI (tB tc tn (tE tc tn p))), .int (iI (tE tc tn (tE tc tn p))), .int (iI (tU tc tn (tE tc tn p)))])), (tb, .inl (cB, 120, .inl (tbA tc))), (h, oG g hK hH hM hO), (hK, .inl (cI, 8, .inl (aG g 0))), (hH, .inl (cI, 8, .inl (aG g 1))), (hM, .inl (cI, 8, .inl (aG g 2))), (hO, .inl (cI, 8, .inl (aG g 3)))]) (q0 := 0) (c_X2_advance l D cI cJ cB cS xa tp tb tn (tT tc tn p) (tB tc tn p) (tE tc tn p) (tU tc tn p) tc (by assumption) (by omega)) mV_X2_advance kM_X2_31 dX2_isPushTold_1 rfl rfl [0, 1] rfl rfl rfl rfl rfl rfl rfl rfl ⟨Nat.le_of_ble_eq_true rfl, Nat.le_of_ble_eq_true rfl, Nat.le_of_ble_eq_true rfl⟩ ?_
  have f1_1 := tB_rng hT (show 0 ≤ (tE tc tn p) ∧ (tE tc tn p) ≤ tn by omega)
  have f1_2 := tE_q hT (show 0 ≤ (tE tc tn p) ∧ (tE tc tn p) ≤ tn by omega)
  have f1_3 := tS_rng tc tn (tE tc tn p)
  have f1_4 := tV_rng hT (show 0 ≤ (tE tc tn p) ∧ (tE tc tn p) ≤ tn by omega)
  have f1_5 := tT_S tc tn (tE tc tn p)
  have f1_6 := tU_V hT (show 0 ≤ (tE tc tn p) ∧ (tE tc tn p) ≤ tn by omega)
  refine z_aload_n (pc := 4) dX2_isPushTold_4 0 rfl ?_
  refine z_iconst (pc := 5) dX2_isPushTold_5 ?_
  refine z_aload_n (pc := 6) dX2_isPushTold_6 1 rfl ?_
  refine z_get (pc := 7) (q0 := 2) (v := .int (iI (g 4 2))) fL_X2_66 dX2_isPushTold_7 rfl rfl ?_
  refine z_iconst (pc := 10) dX2_isPushTold_10 ?_
  refine z_isub (pc := 11) dX2_isPushTold_11 ?_
  refine z_callV (pc := 12) (st := []) (st2 := [.int (bI (nm tc tn (tE tc tn p) 0 ((g 4 2) - 1)))]) (ws2 := [(tp, .inr (2, [.ref tb, .int (iI tn), .int (iI (tT tc tn (tE tc tn p))), .int (iI (tB tc tn (tE tc tn p))), .int (iI (tE tc tn (tE tc tn p))), .int (iI (tU tc tn (tE tc tn p)))])), (tb, .inl (cB, 120, .inl (tbA tc))), (h, oG g hK hH hM hO), (hK, .inl (cI, 8, .inl (aG g 0))), (hH, .inl (cI, 8, .inl (aG g 1))), (hM, .inl (cI, 8, .inl (aG g 2))), (hO, .inl (cI, 8, .inl (aG g 3)))]) (q0 := 0) (c_X2_isNumberWithin l D cI cJ cB cS xa tp tb tn tc (tE tc tn p) 0 ((g 4 2) - 1) (by assumption) (by omega) (by omega) (by omega)) mV_X2_isNumberWithin kM_X2_69 dX2_isPushTold_12 rfl rfl [0] rfl rfl rfl rfl rfl rfl rfl rfl ⟨Nat.le_of_ble_eq_true rfl, Nat.le_of_ble_eq_true rfl, Nat.le_of_ble_eq_true rfl⟩ ?_
  refine z_ifb_ne (pc := 15) (tgt := 20) dX2_isPushTold_15 (by decide) (fun h15 => ?_) (fun h15 => ?_)
  · skip
    have t2_ := tE_q hT (q := tE tc tn p) ⟨te_.2.1, te_.2.2.1⟩
    have t3_ := tE_q hT (q := tE tc tn (tE tc tn p)) ⟨t2_.2.1, t2_.2.2.1⟩
    have v1 := nm_u h15 (by omega) hT ⟨te_.2.1, te_.2.2.1⟩
    have h15b := h15.2
    refine z_aload_n (pc := 20) dX2_isPushTold_20 0 rfl ?_
    refine z_get (pc := 21) (q0 := 0) (v := .int (iI (tU tc tn (tE tc tn p)))) fL_X2_28 dX2_isPushTold_21 rfl rfl ?_
    refine z_istore_n (pc := 24) (lv2 := [(2, .int (iI (tU tc tn (tE tc tn p)))), (0, .ref tp), (1, .ref h)]) dX2_isPushTold_24 rfl (by decide) rfl ?_
    refine z_aload_n (pc := 25) dX2_isPushTold_25 1 rfl ?_
    refine z_callV (pc := 26) (st := []) (st2 := []) (ws2 := [(tp, .inr (2, [.ref tb, .int (iI tn), .int (iI (tT tc tn (tE tc tn (tE tc tn p)))), .int (iI (tB tc tn (tE tc tn (tE tc tn p)))), .int (iI (tE tc tn (tE tc tn (tE tc tn p)))), .int (iI (tU tc tn (tE tc tn (tE tc tn p))))])), (tb, .inl (cB, 120, .inl (tbA tc))), (h, oG g hK hH hM hO), (hK, .inl (cI, 8, .inl (aG g 0))), (hH, .inl (cI, 8, .inl (aG g 1))), (hM, .inl (cI, 8, .inl (aG g 2))), (hO, .inl (cI, 8, .inl (aG g 3)))]) (q0 := 0) (c_X2_advance l D cI cJ cB cS xa tp tb tn (tT tc tn (tE tc tn p)) (tB tc tn (tE tc tn p)) (tE tc tn (tE tc tn p)) (tU tc tn (tE tc tn p)) tc (by assumption) (by omega)) mV_X2_advance kM_X2_31 dX2_isPushTold_26 rfl rfl [0, 1] rfl rfl rfl rfl rfl rfl rfl rfl ⟨Nat.le_of_ble_eq_true rfl, Nat.le_of_ble_eq_true rfl, Nat.le_of_ble_eq_true rfl⟩ ?_
    have f26_7 := tB_rng hT (show 0 ≤ (tE tc tn (tE tc tn p)) ∧ (tE tc tn (tE tc tn p)) ≤ tn by omega)
    have f26_8 := tE_q hT (show 0 ≤ (tE tc tn (tE tc tn p)) ∧ (tE tc tn (tE tc tn p)) ≤ tn by omega)
    have f26_9 := tS_rng tc tn (tE tc tn (tE tc tn p))
    have f26_10 := tV_rng hT (show 0 ≤ (tE tc tn (tE tc tn p)) ∧ (tE tc tn (tE tc tn p)) ≤ tn by omega)
    have f26_11 := tT_S tc tn (tE tc tn (tE tc tn p))
    have f26_12 := tU_V hT (show 0 ≤ (tE tc tn (tE tc tn p)) ∧ (tE tc tn (tE tc tn p)) ≤ tn by omega)
    refine z_aload_n (pc := 29) dX2_isPushTold_29 1 rfl ?_
    refine z_iconst (pc := 30) dX2_isPushTold_30 ?_
    refine z_bipush (pc := 31) dX2_isPushTold_31 (by decide) ?_
    refine z_callV (pc := 33) (st := []) (st2 := [.int (bI (nm tc tn (tE tc tn (tE tc tn p)) 1 99))]) (ws2 := [(tp, .inr (2, [.ref tb, .int (iI tn), .int (iI (tT tc tn (tE tc tn (tE tc tn p)))), .int (iI (tB tc tn (tE tc tn (tE tc tn p)))), .int (iI (tE tc tn (tE tc tn (tE tc tn p)))), .int (iI (tU tc tn (tE tc tn (tE tc tn p))))])), (tb, .inl (cB, 120, .inl (tbA tc))), (h, oG g hK hH hM hO), (hK, .inl (cI, 8, .inl (aG g 0))), (hH, .inl (cI, 8, .inl (aG g 1))), (hM, .inl (cI, 8, .inl (aG g 2))), (hO, .inl (cI, 8, .inl (aG g 3)))]) (q0 := 0) (c_X2_isNumberWithin l D cI cJ cB cS xa tp tb tn tc (tE tc tn (tE tc tn p)) 1 99 (by assumption) (by omega) (by omega) (by omega)) mV_X2_isNumberWithin kM_X2_69 dX2_isPushTold_33 rfl rfl [0] rfl rfl rfl rfl rfl rfl rfl rfl ⟨Nat.le_of_ble_eq_true rfl, Nat.le_of_ble_eq_true rfl, Nat.le_of_ble_eq_true rfl⟩ ?_
    refine z_ifb_ne (pc := 36) (tgt := 41) dX2_isPushTold_36 (by decide) (fun h36 => ?_) (fun h36 => ?_)
    · skip
      have v2 := nm_u h36 (by omega) hT ⟨t2_.2.1, t2_.2.2.1⟩
      have h36b := h36.2
      have eI : itP tc tn p g = (1, tE tc tn (tE tc tn (tE tc tn p)), pushG g (tV tc tn (tE tc tn p)) (tV tc tn (tE tc tn (tE tc tn p)))) := by unfold itP; rw [if_pos h15, if_pos h36]
      refine z_aload_n (pc := 41) dX2_isPushTold_41 2 rfl ?_
      refine z_iload_n (pc := 42) dX2_isPushTold_42 0 rfl ?_
      refine z_aload_n (pc := 43) dX2_isPushTold_43 1 rfl ?_
      refine z_get (pc := 44) (q0 := 0) (v := .int (iI (tU tc tn (tE tc tn (tE tc tn p))))) fL_X2_28 dX2_isPushTold_44 rfl rfl ?_
      refine z_st (st2 := [.int (iI (tV tc tn (tE tc tn (tE tc tn p)))), .int (iI (tV tc tn (tE tc tn p))), .ref h]) (by rw [v1, v2]) ?_
      refine z_callV (pc := 47) (st := []) (st2 := []) (ws2 := [(tp, .inr (2, [.ref tb, .int (iI tn), .int (iI (tT tc tn (tE tc tn (tE tc tn p)))), .int (iI (tB tc tn (tE tc tn (tE tc tn p)))), .int (iI (tE tc tn (tE tc tn (tE tc tn p)))), .int (iI (tU tc tn (tE tc tn (tE tc tn p))))])), (tb, .inl (cB, 120, .inl (tbA tc))), (h, oG (pushG g (tV tc tn (tE tc tn p)) (tV tc tn (tE tc tn (tE tc tn p)))) hK hH hM hO), (hK, .inl (cI, 8, .inl (aG (pushG g (tV tc tn (tE tc tn p)) (tV tc tn (tE tc tn (tE tc tn p)))) 0))), (hH, .inl (cI, 8, .inl (aG (pushG g (tV tc tn (tE tc tn p)) (tV tc tn (tE tc tn (tE tc tn p)))) 1))), (hM, .inl (cI, 8, .inl (aG (pushG g (tV tc tn (tE tc tn p)) (tV tc tn (tE tc tn (tE tc tn p)))) 2))), (hO, .inl (cI, 8, .inl (aG (pushG g (tV tc tn (tE tc tn p)) (tV tc tn (tE tc tn (tE tc tn p)))) 3)))]) (q0 := 2) (c_X0_shove l D cI cJ cB cS xa h hK hH hM hO g (tV tc tn (tE tc tn p)) (tV tc tn (tE tc tn (tE tc tn p))) ok (by omega) (by omega) (by omega)) mV_X0_shove kM_X2_73 dX2_isPushTold_47 rfl rfl [2, 3, 4, 5, 6] rfl rfl rfl rfl rfl rfl rfl rfl ⟨Nat.le_of_ble_eq_true rfl, Nat.le_of_ble_eq_true rfl, Nat.le_of_ble_eq_true rfl⟩ ?_
      have ok47_13 : Ok (pushG g (tV tc tn (tE tc tn p)) (tV tc tn (tE tc tn (tE tc tn p)))) := pushG_ok ok (tV tc tn (tE tc tn p)) (by omega)
      have f47_14 := (show pushG g (tV tc tn (tE tc tn p)) (tV tc tn (tE tc tn (tE tc tn p))) 4 0 = g 4 0 from rfl)
      have f47_15 := (show pushG g (tV tc tn (tE tc tn p)) (tV tc tn (tE tc tn (tE tc tn p))) 4 2 = g 4 2 from rfl)
      refine z_aload_n (pc := 50) dX2_isPushTold_50 1 rfl ?_
      refine z_callV (pc := 51) (st := []) (st2 := []) (ws2 := [(tp, .inr (2, [.ref tb, .int (iI tn), .int (iI (tT tc tn (tE tc tn (tE tc tn (tE tc tn p))))), .int (iI (tB tc tn (tE tc tn (tE tc tn (tE tc tn p))))), .int (iI (tE tc tn (tE tc tn (tE tc tn (tE tc tn p))))), .int (iI (tU tc tn (tE tc tn (tE tc tn (tE tc tn p)))))])), (tb, .inl (cB, 120, .inl (tbA tc))), (h, oG (pushG g (tV tc tn (tE tc tn p)) (tV tc tn (tE tc tn (tE tc tn p)))) hK hH hM hO), (hK, .inl (cI, 8, .inl (aG (pushG g (tV tc tn (tE tc tn p)) (tV tc tn (tE tc tn (tE tc tn p)))) 0))), (hH, .inl (cI, 8, .inl (aG (pushG g (tV tc tn (tE tc tn p)) (tV tc tn (tE tc tn (tE tc tn p)))) 1))), (hM, .inl (cI, 8, .inl (aG (pushG g (tV tc tn (tE tc tn p)) (tV tc tn (tE tc tn (tE tc tn p)))) 2))), (hO, .inl (cI, 8, .inl (aG (pushG g (tV tc tn (tE tc tn p)) (tV tc tn (tE tc tn (tE tc tn p)))) 3)))]) (q0 := 0) (c_X2_advance l D cI cJ cB cS xa tp tb tn (tT tc tn (tE tc tn (tE tc tn p))) (tB tc tn (tE tc tn (tE tc tn p))) (tE tc tn (tE tc tn (tE tc tn p))) (tU tc tn (tE tc tn (tE tc tn p))) tc (by assumption) (by omega)) mV_X2_advance kM_X2_31 dX2_isPushTold_51 rfl rfl [0, 1] rfl rfl rfl rfl rfl rfl rfl rfl ⟨Nat.le_of_ble_eq_true rfl, Nat.le_of_ble_eq_true rfl, Nat.le_of_ble_eq_true rfl⟩ ?_
      have f51_16 := tB_rng hT (show 0 ≤ (tE tc tn (tE tc tn (tE tc tn p))) ∧ (tE tc tn (tE tc tn (tE tc tn p))) ≤ tn by omega)
      have f51_17 := tE_q hT (show 0 ≤ (tE tc tn (tE tc tn (tE tc tn p))) ∧ (tE tc tn (tE tc tn (tE tc tn p))) ≤ tn by omega)
      have f51_18 := tS_rng tc tn (tE tc tn (tE tc tn (tE tc tn p)))
      have f51_19 := tV_rng hT (show 0 ≤ (tE tc tn (tE tc tn (tE tc tn p))) ∧ (tE tc tn (tE tc tn (tE tc tn p))) ≤ tn by omega)
      have f51_20 := tT_S tc tn (tE tc tn (tE tc tn (tE tc tn p)))
      have f51_21 := tU_V hT (show 0 ≤ (tE tc tn (tE tc tn (tE tc tn p))) ∧ (tE tc tn (tE tc tn (tE tc tn p))) ≤ tn by omega)
      refine z_iconst (pc := 54) dX2_isPushTold_54 ?_
      exact z_zret (pc := 55) (by decide) dX2_isPushTold_55 (congrArg (fun z => some (Value.int z)) (bI_t (by rw [eI]))) (by rw [eI])
    · skip
      have eI : itP tc tn p g = (0, tE tc tn (tE tc tn p), g) := by unfold itP; rw [if_pos h15, if_neg h36]
      refine z_iconst (pc := 39) dX2_isPushTold_39 ?_
      exact z_zret (pc := 40) (by decide) dX2_isPushTold_40 (congrArg (fun z => some (Value.int z)) (bI_f (by rw [eI]; show ¬ ((0 : Int) = 1); decide))) (by rw [eI])
  · skip
    have eI : itP tc tn p g = (0, tE tc tn p, g) := by unfold itP; rw [if_neg h15]
    refine z_iconst (pc := 18) dX2_isPushTold_18 ?_
    exact z_zret (pc := 19) (by decide) dX2_isPushTold_19 (congrArg (fun z => some (Value.int z)) (bI_f (by rw [eI]; show ¬ ((0 : Int) = 1); decide))) (by rw [eI])
set_option maxHeartbeats 8000000 in
set_option maxRecDepth 100000 in
theorem c_X2_isDarkTold (l : Launch) (D : va_G) (cI cJ cB cS : ClassId) (xa : XA) (tp tb : Nat) (tn : Int) (tc : FF) (p : Int) (h hK hH hM hO : Nat) (g : Gd) (hT : OkT tc tn) (hp : 0 ≤ p ∧ p ≤ tn) (ok : Ok g) : Ct l D cI cJ cB cS xa yX2_isDarkTold cX2_isDarkTold 2 (some .boolean) 2 41 [.ref tp, .ref h] [(tp, .inr (2, [.ref tb, .int (iI tn), .int (iI (tT tc tn p)), .int (iI (tB tc tn p)), .int (iI (tE tc tn p)), .int (iI (tU tc tn p))])), (tb, .inl (cB, 120, .inl (tbA tc))), (h, oG g hK hH hM hO), (hK, .inl (cI, 8, .inl (aG g 0))), (hH, .inl (cI, 8, .inl (aG g 1))), (hM, .inl (cI, 8, .inl (aG g 2))), (hO, .inl (cI, 8, .inl (aG g 3)))] (some (.int (bI ((itD tc tn p g).1 = 1)))) [(tp, .inr (2, [.ref tb, .int (iI tn), .int (iI (tT tc tn ((itD tc tn p g).2.1))), .int (iI (tB tc tn ((itD tc tn p g).2.1))), .int (iI (tE tc tn ((itD tc tn p g).2.1))), .int (iI (tU tc tn ((itD tc tn p g).2.1)))])), (tb, .inl (cB, 120, .inl (tbA tc))), (h, oG ((itD tc tn p g).2.2) hK hH hM hO), (hK, .inl (cI, 8, .inl (aG ((itD tc tn p g).2.2) 0))), (hH, .inl (cI, 8, .inl (aG ((itD tc tn p g).2.2) 1))), (hM, .inl (cI, 8, .inl (aG ((itD tc tn p g).2.2) 2))), (hO, .inl (cI, 8, .inl (aG ((itD tc tn p g).2.2) 3)))] := by
  have hT2 := hT.2
  have tb_ := tB_rng hT hp
  have te_ := tE_q hT hp
  have te2_ := tE_rng hT hp
  have ts_ := tS_rng tc tn p
  have tv_ := tV_rng hT hp
  have tt_ := tT_S tc tn p
  have tu_ := tU_V hT hp
  have o0 := ok0 ok
  have o1 := ok1 ok
  have o2 := ok2 ok
  refine CtE.of (own := RX2) (lv := [(0, .ref tp), (1, .ref h)]) (by decide) rfl rfl (Nat.le_of_ble_eq_true rfl) ?_
  intro xp xe xs xm xb xt xc
  refine z_aload_n (pc := 0) dX2_isDarkTold_0 0 rfl ?_
  refine z_callV (pc := 1) (st := []) (st2 := []) (ws2 := [(tp, .inr (2, [.ref tb, .int (iI tn), .int (iI (tT tc tn (tE tc tn p))), .int (iI (tB tc tn (tE tc tn p))), .int (iI (tE tc tn (tE tc tn p))), .int (iI (tU tc tn (tE tc tn p)))])), (tb, .inl (cB, 120, .inl (tbA tc))), (h, oG g hK hH hM hO), (hK, .inl (cI, 8, .inl (aG g 0))), (hH, .inl (cI, 8, .inl (aG g 1))), (hM, .inl (cI, 8, .inl (aG g 2))), (hO, .inl (cI, 8, .inl (aG g 3)))]) (q0 := 0) (c_X2_advance l D cI cJ cB cS xa tp tb tn (tT tc tn p) (tB tc tn p) (tE tc tn p) (tU tc tn p) tc (by assumption) (by omega)) mV_X2_advance kM_X2_31 dX2_isDarkTold_1 rfl rfl [0, 1] rfl rfl rfl rfl rfl rfl rfl rfl ⟨Nat.le_of_ble_eq_true rfl, Nat.le_of_ble_eq_true rfl, Nat.le_of_ble_eq_true rfl⟩ ?_
  have f1_1 := tB_rng hT (show 0 ≤ (tE tc tn p) ∧ (tE tc tn p) ≤ tn by omega)
  have f1_2 := tE_q hT (show 0 ≤ (tE tc tn p) ∧ (tE tc tn p) ≤ tn by omega)
  have f1_3 := tS_rng tc tn (tE tc tn p)
  have f1_4 := tV_rng hT (show 0 ≤ (tE tc tn p) ∧ (tE tc tn p) ≤ tn by omega)
  have f1_5 := tT_S tc tn (tE tc tn p)
  have f1_6 := tU_V hT (show 0 ≤ (tE tc tn p) ∧ (tE tc tn p) ≤ tn by omega)
  refine z_aload_n (pc := 4) dX2_isDarkTold_4 0 rfl ?_
  refine z_iconst (pc := 5) dX2_isDarkTold_5 ?_
  refine z_bipush (pc := 6) dX2_isDarkTold_6 (by decide) ?_
  refine z_callV (pc := 8) (st := []) (st2 := [.int (bI (nm tc tn (tE tc tn p) 0 59))]) (ws2 := [(tp, .inr (2, [.ref tb, .int (iI tn), .int (iI (tT tc tn (tE tc tn p))), .int (iI (tB tc tn (tE tc tn p))), .int (iI (tE tc tn (tE tc tn p))), .int (iI (tU tc tn (tE tc tn p)))])), (tb, .inl (cB, 120, .inl (tbA tc))), (h, oG g hK hH hM hO), (hK, .inl (cI, 8, .inl (aG g 0))), (hH, .inl (cI, 8, .inl (aG g 1))), (hM, .inl (cI, 8, .inl (aG g 2))), (hO, .inl (cI, 8, .inl (aG g 3)))]) (q0 := 0) (c_X2_isNumberWithin l D cI cJ cB cS xa tp tb tn tc (tE tc tn p) 0 59 (by assumption) (by omega) (by omega) (by omega)) mV_X2_isNumberWithin kM_X2_69 dX2_isDarkTold_8 rfl rfl [0] rfl rfl rfl rfl rfl rfl rfl rfl ⟨Nat.le_of_ble_eq_true rfl, Nat.le_of_ble_eq_true rfl, Nat.le_of_ble_eq_true rfl⟩ ?_
  refine z_ifb_ne (pc := 11) (tgt := 16) dX2_isDarkTold_11 (by decide) (fun h11 => ?_) (fun h11 => ?_)
  · skip
    have t2_ := tE_q hT (q := tE tc tn p) ⟨te_.2.1, te_.2.2.1⟩
    have v1 := nm_u h11 (by omega) hT ⟨te_.2.1, te_.2.2.1⟩
    have h11b := h11.2
    have eI : itD tc tn p g = (1, tE tc tn (tE tc tn p), up2 g 4 1 (tV tc tn (tE tc tn p))) := by unfold itD; rw [if_pos h11]
    refine z_aload_n (pc := 16) dX2_isDarkTold_16 1 rfl ?_
    refine z_aload_n (pc := 17) dX2_isDarkTold_17 0 rfl ?_
    refine z_get (pc := 18) (q0 := 0) (v := .int (iI (tU tc tn (tE tc tn p)))) fL_X2_28 dX2_isDarkTold_18 rfl rfl ?_
    refine z_st (st2 := [.int (iI (tV tc tn (tE tc tn p))), .ref h]) (by rw [v1]) ?_
    refine z_put (pc := 21) (q0 := 2) (ws2 := [(tp, .inr (2, [.ref tb, .int (iI tn), .int (iI (tT tc tn (tE tc tn p))), .int (iI (tB tc tn (tE tc tn p))), .int (iI (tE tc tn (tE tc tn p))), .int (iI (tU tc tn (tE tc tn p)))])), (tb, .inl (cB, 120, .inl (tbA tc))), (h, oG (up2 g 4 1 (tV tc tn (tE tc tn p))) hK hH hM hO), (hK, .inl (cI, 8, .inl (aG (up2 g 4 1 (tV tc tn (tE tc tn p))) 0))), (hH, .inl (cI, 8, .inl (aG (up2 g 4 1 (tV tc tn (tE tc tn p))) 1))), (hM, .inl (cI, 8, .inl (aG (up2 g 4 1 (tV tc tn (tE tc tn p))) 2))), (hO, .inl (cI, 8, .inl (aG (up2 g 4 1 (tV tc tn (tE tc tn p))) 3)))]) fP_X2_77 dX2_isDarkTold_21 rfl rfl rfl (Nat.le_of_ble_eq_true rfl) rfl ?_
    refine z_aload_n (pc := 24) dX2_isDarkTold_24 0 rfl ?_
    refine z_callV (pc := 25) (st := []) (st2 := []) (ws2 := [(tp, .inr (2, [.ref tb, .int (iI tn), .int (iI (tT tc tn (tE tc tn (tE tc tn p)))), .int (iI (tB tc tn (tE tc tn (tE tc tn p)))), .int (iI (tE tc tn (tE tc tn (tE tc tn p)))), .int (iI (tU tc tn (tE tc tn (tE tc tn p))))])), (tb, .inl (cB, 120, .inl (tbA tc))), (h, oG (up2 g 4 1 (tV tc tn (tE tc tn p))) hK hH hM hO), (hK, .inl (cI, 8, .inl (aG (up2 g 4 1 (tV tc tn (tE tc tn p))) 0))), (hH, .inl (cI, 8, .inl (aG (up2 g 4 1 (tV tc tn (tE tc tn p))) 1))), (hM, .inl (cI, 8, .inl (aG (up2 g 4 1 (tV tc tn (tE tc tn p))) 2))), (hO, .inl (cI, 8, .inl (aG (up2 g 4 1 (tV tc tn (tE tc tn p))) 3)))]) (q0 := 0) (c_X2_advance l D cI cJ cB cS xa tp tb tn (tT tc tn (tE tc tn p)) (tB tc tn (tE tc tn p)) (tE tc tn (tE tc tn p)) (tU tc tn (tE tc tn p)) tc (by assumption) (by omega)) mV_X2_advance kM_X2_31 dX2_isDarkTold_25 rfl rfl [0, 1] rfl rfl rfl rfl rfl rfl rfl rfl ⟨Nat.le_of_ble_eq_true rfl, Nat.le_of_ble_eq_true rfl, Nat.le_of_ble_eq_true rfl⟩ ?_
    have f25_7 := tB_rng hT (show 0 ≤ (tE tc tn (tE tc tn p)) ∧ (tE tc tn (tE tc tn p)) ≤ tn by omega)
    have f25_8 := tE_q hT (show 0 ≤ (tE tc tn (tE tc tn p)) ∧ (tE tc tn (tE tc tn p)) ≤ tn by omega)
    have f25_9 := tS_rng tc tn (tE tc tn (tE tc tn p))
    have f25_10 := tV_rng hT (show 0 ≤ (tE tc tn (tE tc tn p)) ∧ (tE tc tn (tE tc tn p)) ≤ tn by omega)
    have f25_11 := tT_S tc tn (tE tc tn (tE tc tn p))
    have f25_12 := tU_V hT (show 0 ≤ (tE tc tn (tE tc tn p)) ∧ (tE tc tn (tE tc tn p)) ≤ tn by omega)
    refine z_iconst (pc := 28) dX2_isDarkTold_28 ?_
    exact z_zret (pc := 29) (by decide) dX2_isDarkTold_29 (congrArg (fun z => some (Value.int z)) (bI_t (by rw [eI]))) (by rw [eI])
  · skip
    have eI : itD tc tn p g = (0, tE tc tn p, g) := by unfold itD; rw [if_neg h11]
    refine z_iconst (pc := 14) dX2_isDarkTold_14 ?_
    exact z_zret (pc := 15) (by decide) dX2_isDarkTold_15 (congrArg (fun z => some (Value.int z)) (bI_f (by rw [eI]; show ¬ ((0 : Int) = 1); decide))) (by rw [eI])
set_option maxHeartbeats 8000000 in
set_option maxRecDepth 100000 in
theorem c_X2_isChildTold (l : Launch) (D : va_G) (cI cJ cB cS : ClassId) (xa : XA) (tp tb : Nat) (tn : Int) (tc : FF) (p : Int) (h hK hH hM hO : Nat) (g : Gd) (k : Int) (hT : OkT tc tn) (hp : 0 ≤ p ∧ p ≤ tn) (ok : Ok g) (hk : k = kdT tc tn p) (hk0 : 0 ≤ k ∧ k ≤ 5) (hn : g 4 2 < 8) : CtE (S := Gd) l D cI cJ cB cS xa yX2_isChildTold cX2_isChildTold 4 (some .boolean) 6 131 [.ref tp, .ref h, .int (iI k)] [(tp, .inr (2, [.ref tb, .int (iI tn), .int (iI (tT tc tn p)), .int (iI (tB tc tn p)), .int (iI (tE tc tn p)), .int (iI (tU tc tn p))])), (tb, .inl (cB, 120, .inl (tbA tc))), (h, oG g hK hH hM hO), (hK, .inl (cI, 8, .inl (aG g 0))), (hH, .inl (cI, 8, .inl (aG g 1))), (hM, .inl (cI, 8, .inl (aG g 2))), (hO, .inl (cI, 8, .inl (aG g 3)))] (fun g2 : Gd => Ok g2 ∧ ((itC tc tn p g).1 = 1 → g2 = (itC tc tn p g).2.2)) (fun g2 : Gd => (some (.int (bI ((itC tc tn p g).1 = 1))))) (fun g2 : Gd => [(tp, .inr (2, [.ref tb, .int (iI tn), .int (iI (tT tc tn ((itC tc tn p g).2.1))), .int (iI (tB tc tn ((itC tc tn p g).2.1))), .int (iI (tE tc tn ((itC tc tn p g).2.1))), .int (iI (tU tc tn ((itC tc tn p g).2.1)))])), (tb, .inl (cB, 120, .inl (tbA tc))), (h, oG g2 hK hH hM hO), (hK, .inl (cI, 8, .inl (aG g2 0))), (hH, .inl (cI, 8, .inl (aG g2 1))), (hM, .inl (cI, 8, .inl (aG g2 2))), (hO, .inl (cI, 8, .inl (aG g2 3)))]) := by
  have hT2 := hT.2
  have tb_ := tB_rng hT hp
  have te_ := tE_q hT hp
  have te2_ := tE_rng hT hp
  have ts_ := tS_rng tc tn p
  have tv_ := tV_rng hT hp
  have tt_ := tT_S tc tn p
  have tu_ := tU_V hT hp
  have o0 := ok0 ok
  have o1 := ok1 ok
  have o2 := ok2 ok
  refine CtE.of (own := RX2) (lv := [(0, .ref tp), (1, .ref h), (2, .int (iI k))]) (by decide) rfl rfl (Nat.le_of_ble_eq_true rfl) ?_
  intro xp xe xs xm xb xt xc
  refine z_aload_n (pc := 0) dX2_isChildTold_0 1 rfl ?_
  refine z_iload_n (pc := 1) dX2_isChildTold_1 2 rfl ?_
  refine z_callV (pc := 2) (st := []) (st2 := [.int (iI (g 4 2))]) (ws2 := [(tp, .inr (2, [.ref tb, .int (iI tn), .int (iI (tT tc tn p)), .int (iI (tB tc tn p)), .int (iI (tE tc tn p)), .int (iI (tU tc tn p))])), (tb, .inl (cB, 120, .inl (tbA tc))), (h, oG (addG g k 50 5) hK hH hM hO), (hK, .inl (cI, 8, .inl (aG (addG g k 50 5) 0))), (hH, .inl (cI, 8, .inl (aG (addG g k 50 5) 1))), (hM, .inl (cI, 8, .inl (aG (addG g k 50 5) 2))), (hO, .inl (cI, 8, .inl (aG (addG g k 50 5) 3)))]) (q0 := 2) (c_X0_addOne l D cI cJ cB cS xa h hK hH hM hO g k ok (by omega) (by omega)) mV_X0_addOne kM_X2_80 dX2_isChildTold_2 rfl rfl [2, 3, 4, 5, 6] rfl rfl rfl rfl rfl rfl rfl rfl ⟨Nat.le_of_ble_eq_true rfl, Nat.le_of_ble_eq_true rfl, Nat.le_of_ble_eq_true rfl⟩ ?_
  have ok2_1 : Ok (addG g k 50 5) := addG_ok ok (by omega) (by omega) (by omega) (by omega)
  refine z_istore_n (pc := 5) (lv2 := [(3, .int (iI (g 4 2))), (0, .ref tp), (1, .ref h), (2, .int (iI k))]) dX2_isChildTold_5 rfl (by decide) rfl ?_
  refine z_aload_n (pc := 6) dX2_isChildTold_6 1 rfl ?_
  refine z_callV (pc := 7) (st := []) (st2 := []) (ws2 := [(tp, .inr (2, [.ref tb, .int (iI tn), .int (iI (tT tc tn (tE tc tn p))), .int (iI (tB tc tn (tE tc tn p))), .int (iI (tE tc tn (tE tc tn p))), .int (iI (tU tc tn (tE tc tn p)))])), (tb, .inl (cB, 120, .inl (tbA tc))), (h, oG (addG g k 50 5) hK hH hM hO), (hK, .inl (cI, 8, .inl (aG (addG g k 50 5) 0))), (hH, .inl (cI, 8, .inl (aG (addG g k 50 5) 1))), (hM, .inl (cI, 8, .inl (aG (addG g k 50 5) 2))), (hO, .inl (cI, 8, .inl (aG (addG g k 50 5) 3)))]) (q0 := 0) (c_X2_advance l D cI cJ cB cS xa tp tb tn (tT tc tn p) (tB tc tn p) (tE tc tn p) (tU tc tn p) tc (by assumption) (by omega)) mV_X2_advance kM_X2_31 dX2_isChildTold_7 rfl rfl [0, 1] rfl rfl rfl rfl rfl rfl rfl rfl ⟨Nat.le_of_ble_eq_true rfl, Nat.le_of_ble_eq_true rfl, Nat.le_of_ble_eq_true rfl⟩ ?_
  have f7_2 := tB_rng hT (show 0 ≤ (tE tc tn p) ∧ (tE tc tn p) ≤ tn by omega)
  have f7_3 := tE_q hT (show 0 ≤ (tE tc tn p) ∧ (tE tc tn p) ≤ tn by omega)
  have f7_4 := tS_rng tc tn (tE tc tn p)
  have f7_5 := tV_rng hT (show 0 ≤ (tE tc tn p) ∧ (tE tc tn p) ≤ tn by omega)
  have f7_6 := tT_S tc tn (tE tc tn p)
  have f7_7 := tU_V hT (show 0 ≤ (tE tc tn p) ∧ (tE tc tn p) ≤ tn by omega)
  refine z_aload_n (pc := 10) dX2_isChildTold_10 1 rfl ?_
  refine z_ldcS (pc := 11) 8 (by decide) (by decide) rfl dX2_isChildTold_11 ?_
  refine z_sipush (pc := 13) dX2_isChildTold_13 (by decide) ?_
  refine z_aload_n (pc := 16) dX2_isChildTold_16 2 rfl ?_
  refine z_get (pc := 17) (q0 := 2) (v := .ref hH) fL_X2_86 dX2_isChildTold_17 rfl rfl ?_
  refine z_iload_n (pc := 20) dX2_isChildTold_20 0 rfl ?_
  refine z_callV (pc := 21) (st := []) (st2 := [.int (bI ((ptT 8 tc tn 200 50 (tE tc tn p)).1 = 1))]) (ws2 := [(tp, .inr (2, [.ref tb, .int (iI tn), .int (iI (tT tc tn ((ptT 8 tc tn 200 50 (tE tc tn p)).2.1))), .int (iI (tB tc tn ((ptT 8 tc tn 200 50 (tE tc tn p)).2.1))), .int (iI (tE tc tn ((ptT 8 tc tn 200 50 (tE tc tn p)).2.1))), .int (iI (tU tc tn ((ptT 8 tc tn 200 50 (tE tc tn p)).2.1)))])), (tb, .inl (cB, 120, .inl (tbA tc))), (h, oG (addG g k 50 5) hK hH hM hO), (hK, .inl (cI, 8, .inl (aG (addG g k 50 5) 0))), (hH, .inl (cI, 8, .inl (aG (ptG 8 tc tn 200 50 (tE tc tn p) (addG g k 50 5) 1 (g 4 2)) 1))), (hM, .inl (cI, 8, .inl (aG (addG g k 50 5) 2))), (hO, .inl (cI, 8, .inl (aG (addG g k 50 5) 3)))]) (q0 := 0) (c_X2_isPartTold l D cI cJ cB cS xa tp tb tn tc (tE tc tn p) 8 200 (g 4 2) 50 1 hH (addG g k 50 5) (by assumption) (by omega) (by first | assumption | decide) (by omega) (by omega) (addG_1 g k 50 5)) mV_X2_isPartTold kM_X2_90 dX2_isChildTold_21 rfl rfl [0, 1, 4] rfl rfl rfl rfl rfl rfl rfl rfl ⟨Nat.le_of_ble_eq_true rfl, Nat.le_of_ble_eq_true rfl, Nat.le_of_ble_eq_true rfl⟩ ?_
  have rA := (ptT_rng (i := 8) (b := 200) (d := 50) hT (q := tE tc tn p) ⟨te_.2.1, te_.2.2.1⟩ (by decide))
  refine z_ifb_eq (pc := 24) (tgt := 47) dX2_isChildTold_24 (by decide) (fun h24 => ?_) (fun h24 => ?_)
  · skip
    have eP : ptG 8 tc tn 200 50 (tE tc tn p) (addG g k 50 5) 1 (g 4 2) = addG g k 50 5 := by unfold ptG; rw [if_neg h24]
    refine z_ws (ws2 := [(tp, .inr (2, [.ref tb, .int (iI tn), .int (iI (tT tc tn ((ptT 8 tc tn 200 50 (tE tc tn p)).2.1))), .int (iI (tB tc tn ((ptT 8 tc tn 200 50 (tE tc tn p)).2.1))), .int (iI (tE tc tn ((ptT 8 tc tn 200 50 (tE tc tn p)).2.1))), .int (iI (tU tc tn ((ptT 8 tc tn 200 50 (tE tc tn p)).2.1)))])), (tb, .inl (cB, 120, .inl (tbA tc))), (h, oG (addG g k 50 5) hK hH hM hO), (hK, .inl (cI, 8, .inl (aG (addG g k 50 5) 0))), (hH, .inl (cI, 8, .inl (aG (addG g k 50 5) 1))), (hM, .inl (cI, 8, .inl (aG (addG g k 50 5) 2))), (hO, .inl (cI, 8, .inl (aG (addG g k 50 5) 3)))]) (by rw [eP]; try rfl) ?_
    have okn : Ok (addG g k 50 5) := addG_ok ok hn hk0 (by decide) (by decide)
    have eI : itC tc tn p g = (0, (ptT 8 tc tn 200 50 (tE tc tn p)).2.1, g) := by unfold itC; rw [if_pos hn, if_neg h24]
    refine z_iconst (pc := 47) dX2_isChildTold_47 ?_
    exact z_zretE (pc := 48) (by decide) dX2_isChildTold_48 (addG g k 50 5) (⟨okn, fun z => absurd z (by rw [eI]; show ¬ ((0 : Int) = 1); decide)⟩) (congrArg (fun z => some (Value.int z)) (bI_f (by rw [eI]; show ¬ ((0 : Int) = 1); decide))) (by rw [eI])
  · skip
    have eP : ptG 8 tc tn 200 50 (tE tc tn p) (addG g k 50 5) 1 (g 4 2) = addG g k (ptT 8 tc tn 200 50 (tE tc tn p)).2.2 5 := by unfold ptG; rw [if_pos h24]; exact addG_hi g k 50 5 _
    refine z_ws (ws2 := [(tp, .inr (2, [.ref tb, .int (iI tn), .int (iI (tT tc tn ((ptT 8 tc tn 200 50 (tE tc tn p)).2.1))), .int (iI (tB tc tn ((ptT 8 tc tn 200 50 (tE tc tn p)).2.1))), .int (iI (tE tc tn ((ptT 8 tc tn 200 50 (tE tc tn p)).2.1))), .int (iI (tU tc tn ((ptT 8 tc tn 200 50 (tE tc tn p)).2.1)))])), (tb, .inl (cB, 120, .inl (tbA tc))), (h, oG (addG g k (ptT 8 tc tn 200 50 (tE tc tn p)).2.2 5) hK hH hM hO), (hK, .inl (cI, 8, .inl (aG (addG g k (ptT 8 tc tn 200 50 (tE tc tn p)).2.2 5) 0))), (hH, .inl (cI, 8, .inl (aG (addG g k (ptT 8 tc tn 200 50 (tE tc tn p)).2.2 5) 1))), (hM, .inl (cI, 8, .inl (aG (addG g k (ptT 8 tc tn 200 50 (tE tc tn p)).2.2 5) 2))), (hO, .inl (cI, 8, .inl (aG (addG g k (ptT 8 tc tn 200 50 (tE tc tn p)).2.2 5) 3)))]) (by rw [eP]; try rfl) ?_
    have vA := rA.2.2 h24
    have okn : Ok (addG g k (ptT 8 tc tn 200 50 (tE tc tn p)).2.2 5) := addG_ok ok hn hk0 vA (by decide)
    refine z_aload_n (pc := 27) dX2_isChildTold_27 1 rfl ?_
    refine z_ldcS (pc := 28) 9 (by decide) (by decide) rfl dX2_isChildTold_28 ?_
    refine z_bipush (pc := 30) dX2_isChildTold_30 (by decide) ?_
    refine z_aload_n (pc := 32) dX2_isChildTold_32 2 rfl ?_
    refine z_get (pc := 33) (q0 := 2) (v := .ref hM) fL_X2_96 dX2_isChildTold_33 rfl rfl ?_
    refine z_iload_n (pc := 36) dX2_isChildTold_36 0 rfl ?_
    refine z_callV (pc := 37) (st := []) (st2 := [.int (bI ((ptT 9 tc tn 99 5 ((ptT 8 tc tn 200 50 (tE tc tn p)).2.1)).1 = 1))]) (ws2 := [(tp, .inr (2, [.ref tb, .int (iI tn), .int (iI (tT tc tn ((ptT 9 tc tn 99 5 ((ptT 8 tc tn 200 50 (tE tc tn p)).2.1)).2.1))), .int (iI (tB tc tn ((ptT 9 tc tn 99 5 ((ptT 8 tc tn 200 50 (tE tc tn p)).2.1)).2.1))), .int (iI (tE tc tn ((ptT 9 tc tn 99 5 ((ptT 8 tc tn 200 50 (tE tc tn p)).2.1)).2.1))), .int (iI (tU tc tn ((ptT 9 tc tn 99 5 ((ptT 8 tc tn 200 50 (tE tc tn p)).2.1)).2.1)))])), (tb, .inl (cB, 120, .inl (tbA tc))), (h, oG (addG g k (ptT 8 tc tn 200 50 (tE tc tn p)).2.2 5) hK hH hM hO), (hK, .inl (cI, 8, .inl (aG (addG g k (ptT 8 tc tn 200 50 (tE tc tn p)).2.2 5) 0))), (hH, .inl (cI, 8, .inl (aG (addG g k (ptT 8 tc tn 200 50 (tE tc tn p)).2.2 5) 1))), (hM, .inl (cI, 8, .inl (aG (ptG 9 tc tn 99 5 ((ptT 8 tc tn 200 50 (tE tc tn p)).2.1) (addG g k (ptT 8 tc tn 200 50 (tE tc tn p)).2.2 5) 2 (g 4 2)) 2))), (hO, .inl (cI, 8, .inl (aG (addG g k (ptT 8 tc tn 200 50 (tE tc tn p)).2.2 5) 3)))]) (q0 := 0) (c_X2_isPartTold l D cI cJ cB cS xa tp tb tn tc ((ptT 8 tc tn 200 50 (tE tc tn p)).2.1) 9 99 (g 4 2) 5 2 hM (addG g k (ptT 8 tc tn 200 50 (tE tc tn p)).2.2 5) (by assumption) (by omega) (by first | assumption | decide) (by omega) (by omega) (addG_2 g k (ptT 8 tc tn 200 50 (tE tc tn p)).2.2 5)) mV_X2_isPartTold kM_X2_90 dX2_isChildTold_37 rfl rfl [0, 1, 5] rfl rfl rfl rfl rfl rfl rfl rfl ⟨Nat.le_of_ble_eq_true rfl, Nat.le_of_ble_eq_true rfl, Nat.le_of_ble_eq_true rfl⟩ ?_
    have rB := (ptT_rng (i := 9) (b := 99) (d := 5) hT (q := (ptT 8 tc tn 200 50 (tE tc tn p)).2.1) ⟨by omega, rA.2.1⟩ (by decide))
    refine z_ifb_eq (pc := 40) (tgt := 47) dX2_isChildTold_40 (by decide) (fun h40 => ?_) (fun h40 => ?_)
    · skip
      have eP : ptG 9 tc tn 99 5 ((ptT 8 tc tn 200 50 (tE tc tn p)).2.1) (addG g k (ptT 8 tc tn 200 50 (tE tc tn p)).2.2 5) 2 (g 4 2) = addG g k (ptT 8 tc tn 200 50 (tE tc tn p)).2.2 5 := by unfold ptG; rw [if_neg h40]
      refine z_ws (ws2 := [(tp, .inr (2, [.ref tb, .int (iI tn), .int (iI (tT tc tn ((ptT 9 tc tn 99 5 ((ptT 8 tc tn 200 50 (tE tc tn p)).2.1)).2.1))), .int (iI (tB tc tn ((ptT 9 tc tn 99 5 ((ptT 8 tc tn 200 50 (tE tc tn p)).2.1)).2.1))), .int (iI (tE tc tn ((ptT 9 tc tn 99 5 ((ptT 8 tc tn 200 50 (tE tc tn p)).2.1)).2.1))), .int (iI (tU tc tn ((ptT 9 tc tn 99 5 ((ptT 8 tc tn 200 50 (tE tc tn p)).2.1)).2.1)))])), (tb, .inl (cB, 120, .inl (tbA tc))), (h, oG (addG g k (ptT 8 tc tn 200 50 (tE tc tn p)).2.2 5) hK hH hM hO), (hK, .inl (cI, 8, .inl (aG (addG g k (ptT 8 tc tn 200 50 (tE tc tn p)).2.2 5) 0))), (hH, .inl (cI, 8, .inl (aG (addG g k (ptT 8 tc tn 200 50 (tE tc tn p)).2.2 5) 1))), (hM, .inl (cI, 8, .inl (aG (addG g k (ptT 8 tc tn 200 50 (tE tc tn p)).2.2 5) 2))), (hO, .inl (cI, 8, .inl (aG (addG g k (ptT 8 tc tn 200 50 (tE tc tn p)).2.2 5) 3)))]) (by rw [eP]; try rfl) ?_
      have eI : itC tc tn p g = (0, (ptT 9 tc tn 99 5 (ptT 8 tc tn 200 50 (tE tc tn p)).2.1).2.1, g) := by unfold itC; rw [if_pos hn, if_pos h24, if_neg h40]
      refine z_iconst (pc := 47) dX2_isChildTold_47 ?_
      exact z_zretE (pc := 48) (by decide) dX2_isChildTold_48 (addG g k (ptT 8 tc tn 200 50 (tE tc tn p)).2.2 5) (⟨okn, fun z => absurd z (by rw [eI]; show ¬ ((0 : Int) = 1); decide)⟩) (congrArg (fun z => some (Value.int z)) (bI_f (by rw [eI]; show ¬ ((0 : Int) = 1); decide))) (by rw [eI])
    · skip
      have eP : ptG 9 tc tn 99 5 ((ptT 8 tc tn 200 50 (tE tc tn p)).2.1) (addG g k (ptT 8 tc tn 200 50 (tE tc tn p)).2.2 5) 2 (g 4 2) = addG g k (ptT 8 tc tn 200 50 (tE tc tn p)).2.2 (ptT 9 tc tn 99 5 (ptT 8 tc tn 200 50 (tE tc tn p)).2.1).2.2 := by unfold ptG; rw [if_pos h40]; exact addG_ma g k _ 5 _
      refine z_ws (ws2 := [(tp, .inr (2, [.ref tb, .int (iI tn), .int (iI (tT tc tn ((ptT 9 tc tn 99 5 ((ptT 8 tc tn 200 50 (tE tc tn p)).2.1)).2.1))), .int (iI (tB tc tn ((ptT 9 tc tn 99 5 ((ptT 8 tc tn 200 50 (tE tc tn p)).2.1)).2.1))), .int (iI (tE tc tn ((ptT 9 tc tn 99 5 ((ptT 8 tc tn 200 50 (tE tc tn p)).2.1)).2.1))), .int (iI (tU tc tn ((ptT 9 tc tn 99 5 ((ptT 8 tc tn 200 50 (tE tc tn p)).2.1)).2.1)))])), (tb, .inl (cB, 120, .inl (tbA tc))), (h, oG (addG g k (ptT 8 tc tn 200 50 (tE tc tn p)).2.2 (ptT 9 tc tn 99 5 (ptT 8 tc tn 200 50 (tE tc tn p)).2.1).2.2) hK hH hM hO), (hK, .inl (cI, 8, .inl (aG (addG g k (ptT 8 tc tn 200 50 (tE tc tn p)).2.2 (ptT 9 tc tn 99 5 (ptT 8 tc tn 200 50 (tE tc tn p)).2.1).2.2) 0))), (hH, .inl (cI, 8, .inl (aG (addG g k (ptT 8 tc tn 200 50 (tE tc tn p)).2.2 (ptT 9 tc tn 99 5 (ptT 8 tc tn 200 50 (tE tc tn p)).2.1).2.2) 1))), (hM, .inl (cI, 8, .inl (aG (addG g k (ptT 8 tc tn 200 50 (tE tc tn p)).2.2 (ptT 9 tc tn 99 5 (ptT 8 tc tn 200 50 (tE tc tn p)).2.1).2.2) 2))), (hO, .inl (cI, 8, .inl (aG (addG g k (ptT 8 tc tn 200 50 (tE tc tn p)).2.2 (ptT 9 tc tn 99 5 (ptT 8 tc tn 200 50 (tE tc tn p)).2.1).2.2) 3)))]) (by rw [eP]; try rfl) ?_
      have vB := rB.2.2 h40
      have okn : Ok (addG g k (ptT 8 tc tn 200 50 (tE tc tn p)).2.2 (ptT 9 tc tn 99 5 (ptT 8 tc tn 200 50 (tE tc tn p)).2.1).2.2) := addG_ok ok hn hk0 vA vB
      have eI : itC tc tn p g = (1, (ptT 9 tc tn 99 5 (ptT 8 tc tn 200 50 (tE tc tn p)).2.1).2.1, addG g k (ptT 8 tc tn 200 50 (tE tc tn p)).2.2 (ptT 9 tc tn 99 5 (ptT 8 tc tn 200 50 (tE tc tn p)).2.1).2.2) := by unfold itC; rw [if_pos hn, if_pos h24, if_pos h40, ← hk]
      refine z_iconst (pc := 43) dX2_isChildTold_43 ?_
      refine z_goto (pc := 44) (tgt := 48) dX2_isChildTold_44 (by decide) ?_
      exact z_zretE (pc := 48) (by decide) dX2_isChildTold_48 (addG g k (ptT 8 tc tn 200 50 (tE tc tn p)).2.2 (ptT 9 tc tn 99 5 (ptT 8 tc tn 200 50 (tE tc tn p)).2.1).2.2) (⟨okn, fun _ => by rw [eI]⟩) (congrArg (fun z => some (Value.int z)) (bI_t (by rw [eI]))) (by rw [eI])
set_option maxHeartbeats 8000000 in
set_option maxRecDepth 100000 in
theorem c_X2_isItemTold (l : Launch) (D : va_G) (cI cJ cB cS : ClassId) (xa : XA) (tp tb : Nat) (tn : Int) (tc : FF) (p : Int) (h hK hH hM hO : Nat) (g : Gd) (hT : OkT tc tn) (hp : 0 ≤ p ∧ p ≤ tn) (ok : Ok g) : CtE (S := Gd) l D cI cJ cB cS xa yX2_isItemTold cX2_isItemTold 3 (some .boolean) 7 154 [.ref tp, .ref h] [(tp, .inr (2, [.ref tb, .int (iI tn), .int (iI (tT tc tn p)), .int (iI (tB tc tn p)), .int (iI (tE tc tn p)), .int (iI (tU tc tn p))])), (tb, .inl (cB, 120, .inl (tbA tc))), (h, oG g hK hH hM hO), (hK, .inl (cI, 8, .inl (aG g 0))), (hH, .inl (cI, 8, .inl (aG g 1))), (hM, .inl (cI, 8, .inl (aG g 2))), (hO, .inl (cI, 8, .inl (aG g 3)))] (fun g2 : Gd => Ok g2 ∧ ((itT tc tn p g).1 = 1 → g2 = (itT tc tn p g).2.2)) (fun g2 : Gd => (some (.int (bI ((itT tc tn p g).1 = 1))))) (fun g2 : Gd => [(tp, .inr (2, [.ref tb, .int (iI tn), .int (iI (tT tc tn ((itT tc tn p g).2.1))), .int (iI (tB tc tn ((itT tc tn p g).2.1))), .int (iI (tE tc tn ((itT tc tn p g).2.1))), .int (iI (tU tc tn ((itT tc tn p g).2.1)))])), (tb, .inl (cB, 120, .inl (tbA tc))), (h, oG g2 hK hH hM hO), (hK, .inl (cI, 8, .inl (aG g2 0))), (hH, .inl (cI, 8, .inl (aG g2 1))), (hM, .inl (cI, 8, .inl (aG g2 2))), (hO, .inl (cI, 8, .inl (aG g2 3)))]) := by
  have hT2 := hT.2
  have tb_ := tB_rng hT hp
  have te_ := tE_q hT hp
  have te2_ := tE_rng hT hp
  have ts_ := tS_rng tc tn p
  have tv_ := tV_rng hT hp
  have tt_ := tT_S tc tn p
  have tu_ := tU_V hT hp
  have o0 := ok0 ok
  have o1 := ok1 ok
  have o2 := ok2 ok
  have rI := itT_rng (g := g) hT hp ok
  refine CtE.of (own := RX2) (lv := [(0, .ref tp), (1, .ref h)]) (by decide) rfl rfl (Nat.le_of_ble_eq_true rfl) ?_
  intro xp xe xs xm xb xt xc
  refine z_aload_n (pc := 0) dX2_isItemTold_0 0 rfl ?_
  refine z_ldcS (pc := 1) 0 (by decide) (by decide) rfl dX2_isItemTold_1 ?_
  refine z_callV (pc := 3) (st := []) (st2 := [.int (bI (kw 0 tc tn p))]) (ws2 := [(tp, .inr (2, [.ref tb, .int (iI tn), .int (iI (tT tc tn p)), .int (iI (tB tc tn p)), .int (iI (tE tc tn p)), .int (iI (tU tc tn p))])), (tb, .inl (cB, 120, .inl (tbA tc))), (h, oG g hK hH hM hO), (hK, .inl (cI, 8, .inl (aG g 0))), (hH, .inl (cI, 8, .inl (aG g 1))), (hM, .inl (cI, 8, .inl (aG g 2))), (hO, .inl (cI, 8, .inl (aG g 3)))]) (q0 := 0) (c_X2_isWord l D cI cJ cB cS xa tp tb tn tc p 0 (by assumption) (by omega) (by first | assumption | decide)) mV_X2_isWord kM_X2_40 dX2_isItemTold_3 rfl rfl [0, 1] rfl rfl rfl rfl rfl rfl rfl rfl ⟨Nat.le_of_ble_eq_true rfl, Nat.le_of_ble_eq_true rfl, Nat.le_of_ble_eq_true rfl⟩ ?_
  refine z_ifb_eq (pc := 6) (tgt := 15) dX2_isItemTold_6 (by decide) (fun h6 => ?_) (fun h6 => ?_)
  · skip
    refine z_aload_n (pc := 15) dX2_isItemTold_15 0 rfl ?_
    refine z_ldcS (pc := 16) 1 (by decide) (by decide) rfl dX2_isItemTold_16 ?_
    refine z_callV (pc := 18) (st := []) (st2 := [.int (bI (kw 1 tc tn p))]) (ws2 := [(tp, .inr (2, [.ref tb, .int (iI tn), .int (iI (tT tc tn p)), .int (iI (tB tc tn p)), .int (iI (tE tc tn p)), .int (iI (tU tc tn p))])), (tb, .inl (cB, 120, .inl (tbA tc))), (h, oG g hK hH hM hO), (hK, .inl (cI, 8, .inl (aG g 0))), (hH, .inl (cI, 8, .inl (aG g 1))), (hM, .inl (cI, 8, .inl (aG g 2))), (hO, .inl (cI, 8, .inl (aG g 3)))]) (q0 := 0) (c_X2_isWord l D cI cJ cB cS xa tp tb tn tc p 1 (by assumption) (by omega) (by first | assumption | decide)) mV_X2_isWord kM_X2_40 dX2_isItemTold_18 rfl rfl [0, 1] rfl rfl rfl rfl rfl rfl rfl rfl ⟨Nat.le_of_ble_eq_true rfl, Nat.le_of_ble_eq_true rfl, Nat.le_of_ble_eq_true rfl⟩ ?_
    refine z_ifb_eq (pc := 21) (tgt := 30) dX2_isItemTold_21 (by decide) (fun h21 => ?_) (fun h21 => ?_)
    · skip
      refine z_aload_n (pc := 30) dX2_isItemTold_30 0 rfl ?_
      refine z_callV (pc := 31) (st := []) (st2 := [.int (iI (kdT tc tn p))]) (ws2 := [(tp, .inr (2, [.ref tb, .int (iI tn), .int (iI (tT tc tn p)), .int (iI (tB tc tn p)), .int (iI (tE tc tn p)), .int (iI (tU tc tn p))])), (tb, .inl (cB, 120, .inl (tbA tc))), (h, oG g hK hH hM hO), (hK, .inl (cI, 8, .inl (aG g 0))), (hH, .inl (cI, 8, .inl (aG g 1))), (hM, .inl (cI, 8, .inl (aG g 2))), (hO, .inl (cI, 8, .inl (aG g 3)))]) (q0 := 0) (c_X2_kindNamed l D cI cJ cB cS xa tp tb tn tc p (by assumption) (by omega)) mV_X2_kindNamed kM_X2_52 dX2_isItemTold_31 rfl rfl [0, 1] rfl rfl rfl rfl rfl rfl rfl rfl ⟨Nat.le_of_ble_eq_true rfl, Nat.le_of_ble_eq_true rfl, Nat.le_of_ble_eq_true rfl⟩ ?_
      have f31_1 := kdT_rng tc tn p
      refine z_istore_n (pc := 34) (lv2 := [(2, .int (iI (kdT tc tn p))), (0, .ref tp), (1, .ref h)]) dX2_isItemTold_34 rfl (by decide) rfl ?_
      refine z_iload_n (pc := 35) dX2_isItemTold_35 0 rfl ?_
      refine z_if_lt (pc := 36) (tgt := 59) dX2_isItemTold_36 (by decide) (by omega) (fun h36 => ?_) (fun h36 => ?_)
      · skip
        have eI : itT tc tn p g = (0, p, g) := by unfold itT; rw [if_neg (by omega), if_neg h6, if_neg h21]
        refine z_iconst (pc := 59) dX2_isItemTold_59 ?_
        exact z_zretE (pc := 60) (by decide) dX2_isItemTold_60 g (⟨ok, fun _ => by rw [eI]⟩) (congrArg (fun z => some (Value.int z)) (bI_f (by rw [eI]; show ¬ ((0 : Int) = 1); decide))) (by rw [eI])
      · skip
        have eI : itT tc tn p g = itC tc tn p g := by unfold itT; rw [if_pos (by omega)]
        refine z_aload_n (pc := 39) dX2_isItemTold_39 2 rfl ?_
        refine z_callV (pc := 40) (st := []) (st2 := [.int (bI (g 4 2 < 8))]) (ws2 := [(tp, .inr (2, [.ref tb, .int (iI tn), .int (iI (tT tc tn p)), .int (iI (tB tc tn p)), .int (iI (tE tc tn p)), .int (iI (tU tc tn p))])), (tb, .inl (cB, 120, .inl (tbA tc))), (h, oG g hK hH hM hO), (hK, .inl (cI, 8, .inl (aG g 0))), (hH, .inl (cI, 8, .inl (aG g 1))), (hM, .inl (cI, 8, .inl (aG g 2))), (hO, .inl (cI, 8, .inl (aG g 3)))]) (q0 := 2) (c_X0_hasRoom l D cI cJ cB cS xa h hK hH hM hO g ok) mV_X0_hasRoom kM_X2_56 dX2_isItemTold_40 rfl rfl [2] rfl rfl rfl rfl rfl rfl rfl rfl ⟨Nat.le_of_ble_eq_true rfl, Nat.le_of_ble_eq_true rfl, Nat.le_of_ble_eq_true rfl⟩ ?_
        refine z_ifb_eq (pc := 43) (tgt := 59) dX2_isItemTold_43 (by decide) (fun h43 => ?_) (fun h43 => ?_)
        · skip
          have eI2 : itC tc tn p g = (0, p, g) := by unfold itC; rw [if_neg h43]
          refine z_iconst (pc := 59) dX2_isItemTold_59 ?_
          exact z_zretE (pc := 60) (by decide) dX2_isItemTold_60 g (⟨ok, fun z => absurd z (by rw [eI, eI2]; show ¬ ((0 : Int) = 1); decide)⟩) (congrArg (fun z => some (Value.int z)) (bI_f (by rw [eI, eI2]; show ¬ ((0 : Int) = 1); decide))) (by rw [eI, eI2])
        · skip
          refine z_aload_n (pc := 46) dX2_isItemTold_46 1 rfl ?_
          refine z_aload_n (pc := 47) dX2_isItemTold_47 2 rfl ?_
          refine z_iload_n (pc := 48) dX2_isItemTold_48 0 rfl ?_
          refine z_callVE (pc := 49) (st := []) (q0 := 0) (c_X2_isChildTold l D cI cJ cB cS xa tp tb tn tc p h hK hH hM hO g (kdT tc tn p) (by assumption) (by omega) ok (by rfl) (by omega) (by omega)) mV_X2_isChildTold kM_X2_62 dX2_isItemTold_49 rfl rfl [0, 1, 2, 3, 4, 5, 6] rfl rfl (fun _ => rfl) (fun _ => rfl) rfl rfl ⟨Nat.le_of_ble_eq_true rfl, Nat.le_of_ble_eq_true rfl, Nat.le_of_ble_eq_true rfl⟩ (fun u49 hu49 => ?_)
          obtain ⟨g249, hz49⟩ : ∃ z, z = u49 := ⟨_, rfl⟩
          subst hz49
          refine z_ws (ws2 := [(tp, .inr (2, [.ref tb, .int (iI tn), .int (iI (tT tc tn ((itC tc tn p g).2.1))), .int (iI (tB tc tn ((itC tc tn p g).2.1))), .int (iI (tE tc tn ((itC tc tn p g).2.1))), .int (iI (tU tc tn ((itC tc tn p g).2.1)))])), (tb, .inl (cB, 120, .inl (tbA tc))), (h, oG g249 hK hH hM hO), (hK, .inl (cI, 8, .inl (aG g249 0))), (hH, .inl (cI, 8, .inl (aG g249 1))), (hM, .inl (cI, 8, .inl (aG g249 2))), (hO, .inl (cI, 8, .inl (aG g249 3)))]) rfl ?_
          refine z_st (st2 := [.int (bI ((itC tc tn p g).1 = 1))]) rfl ?_
          refine z_ifb_eq (pc := 52) (tgt := 59) dX2_isItemTold_52 (by decide) (fun h52 => ?_) (fun h52 => ?_)
          · skip
            refine z_iconst (pc := 59) dX2_isItemTold_59 ?_
            exact z_zretE (pc := 60) (by decide) dX2_isItemTold_60 g249 (⟨hu49.1, fun z => hu49.2 (by rw [← eI]; exact z) |>.trans (by rw [eI])⟩) (congrArg (fun z => some (Value.int z)) (bI_f (by rw [eI]; exact h52))) (by rw [eI])
          · skip
            refine z_iconst (pc := 55) dX2_isItemTold_55 ?_
            refine z_goto (pc := 56) (tgt := 60) dX2_isItemTold_56 (by decide) ?_
            exact z_zretE (pc := 60) (by decide) dX2_isItemTold_60 g249 (⟨hu49.1, fun z => hu49.2 (by rw [← eI]; exact z) |>.trans (by rw [eI])⟩) (congrArg (fun z => some (Value.int z)) (bI_t (by rw [eI]; exact h52))) (by rw [eI])
    · skip
      have eI : itT tc tn p g = itD tc tn p g := by unfold itT; rw [if_neg (kd_dark h21), if_neg h6, if_pos h21]
      refine z_aload_n (pc := 24) dX2_isItemTold_24 0 rfl ?_
      refine z_aload_n (pc := 25) dX2_isItemTold_25 1 rfl ?_
      refine z_callV (pc := 26) (st := []) (st2 := [.int (bI ((itD tc tn p g).1 = 1))]) (ws2 := [(tp, .inr (2, [.ref tb, .int (iI tn), .int (iI (tT tc tn ((itD tc tn p g).2.1))), .int (iI (tB tc tn ((itD tc tn p g).2.1))), .int (iI (tE tc tn ((itD tc tn p g).2.1))), .int (iI (tU tc tn ((itD tc tn p g).2.1)))])), (tb, .inl (cB, 120, .inl (tbA tc))), (h, oG ((itD tc tn p g).2.2) hK hH hM hO), (hK, .inl (cI, 8, .inl (aG ((itD tc tn p g).2.2) 0))), (hH, .inl (cI, 8, .inl (aG ((itD tc tn p g).2.2) 1))), (hM, .inl (cI, 8, .inl (aG ((itD tc tn p g).2.2) 2))), (hO, .inl (cI, 8, .inl (aG ((itD tc tn p g).2.2) 3)))]) (q0 := 0) (c_X2_isDarkTold l D cI cJ cB cS xa tp tb tn tc p h hK hH hM hO g (by assumption) (by omega) ok) mV_X2_isDarkTold kM_X2_49 dX2_isItemTold_26 rfl rfl [0, 1, 2, 3, 4, 5, 6] rfl rfl rfl rfl rfl rfl rfl rfl ⟨Nat.le_of_ble_eq_true rfl, Nat.le_of_ble_eq_true rfl, Nat.le_of_ble_eq_true rfl⟩ ?_
      exact z_zretE (pc := 29) (bI_nar _) dX2_isItemTold_29 ((itD tc tn p g).2.2) (⟨by rw [← eI]; exact rI.2.2.2.1, fun _ => by rw [eI]⟩) (congrArg (fun z => some (Value.int z)) (bI_c (by rw [eI]))) (by rw [eI])
  · skip
    have eI : itT tc tn p g = itP tc tn p g := by unfold itT; rw [if_neg (kd_push h6), if_pos h6]
    refine z_aload_n (pc := 9) dX2_isItemTold_9 0 rfl ?_
    refine z_aload_n (pc := 10) dX2_isItemTold_10 1 rfl ?_
    refine z_callV (pc := 11) (st := []) (st2 := [.int (bI ((itP tc tn p g).1 = 1))]) (ws2 := [(tp, .inr (2, [.ref tb, .int (iI tn), .int (iI (tT tc tn ((itP tc tn p g).2.1))), .int (iI (tB tc tn ((itP tc tn p g).2.1))), .int (iI (tE tc tn ((itP tc tn p g).2.1))), .int (iI (tU tc tn ((itP tc tn p g).2.1)))])), (tb, .inl (cB, 120, .inl (tbA tc))), (h, oG ((itP tc tn p g).2.2) hK hH hM hO), (hK, .inl (cI, 8, .inl (aG ((itP tc tn p g).2.2) 0))), (hH, .inl (cI, 8, .inl (aG ((itP tc tn p g).2.2) 1))), (hM, .inl (cI, 8, .inl (aG ((itP tc tn p g).2.2) 2))), (hO, .inl (cI, 8, .inl (aG ((itP tc tn p g).2.2) 3)))]) (q0 := 0) (c_X2_isPushTold l D cI cJ cB cS xa tp tb tn tc p h hK hH hM hO g (by assumption) (by omega) ok) mV_X2_isPushTold kM_X2_44 dX2_isItemTold_11 rfl rfl [0, 1, 2, 3, 4, 5, 6] rfl rfl rfl rfl rfl rfl rfl rfl ⟨Nat.le_of_ble_eq_true rfl, Nat.le_of_ble_eq_true rfl, Nat.le_of_ble_eq_true rfl⟩ ?_
    exact z_zretE (pc := 14) (bI_nar _) dX2_isItemTold_14 ((itP tc tn p g).2.2) (⟨by rw [← eI]; exact rI.2.2.2.1, fun _ => by rw [eI]⟩) (congrArg (fun z => some (Value.int z)) (bI_c (by rw [eI]))) (by rw [eI])
set_option maxHeartbeats 8000000 in
set_option maxRecDepth 100000 in
theorem c_X2_tellTo (l : Launch) (D : va_G) (cI cJ cB cS : ClassId) (xa : XA) (tp tb : Nat) (tn : Int) (to ts te tu : Int) (tc : FF) (h hK hH hM hO : Nat) (g : Gd) (hT : OkT tc tn) (ok : Ok g) : CtE (S := (Int × Int × Int × Int × Gd)) l D cI cJ cB cS xa yX2_tellTo cX2_tellTo 3 (some .int) 8 176 [.ref tp, .ref h] [(tp, .inr (2, [.ref tb, .int (iI tn), .int (iI to), .int (iI ts), .int (iI te), .int (iI tu)])), (tb, .inl (cB, 120, .inl (tbA tc))), (h, oG g hK hH hM hO), (hK, .inl (cI, 8, .inl (aG g 0))), (hH, .inl (cI, 8, .inl (aG g 1))), (hM, .inl (cI, 8, .inl (aG g 2))), (hO, .inl (cI, 8, .inl (aG g 3)))] (fun u : (Int × Int × Int × Int × Gd) => match u with | (to2, ts2, te2, tu2, g2) => Ok g2 ∧ (0 ≤ (psT tc tn 121 0 g 0).1 → g2 = (psT tc tn 121 0 g 0).2)) (fun u : (Int × Int × Int × Int × Gd) => match u with | (to2, ts2, te2, tu2, g2) => (some (.int (iI ((psT tc tn 121 0 g 0).1))))) (fun u : (Int × Int × Int × Int × Gd) => match u with | (to2, ts2, te2, tu2, g2) => [(tp, .inr (2, [.ref tb, .int (iI tn), .int (iI to2), .int (iI ts2), .int (iI te2), .int (iI tu2)])), (tb, .inl (cB, 120, .inl (tbA tc))), (h, oG g2 hK hH hM hO), (hK, .inl (cI, 8, .inl (aG g2 0))), (hH, .inl (cI, 8, .inl (aG g2 1))), (hM, .inl (cI, 8, .inl (aG g2 2))), (hO, .inl (cI, 8, .inl (aG g2 3)))]) := by
  have hT2 := hT.2
  have o0 := ok0 ok
  have o1 := ok1 ok
  have o2 := ok2 ok
  refine CtE.of (own := RX2) (lv := [(0, .ref tp), (1, .ref h)]) (by decide) rfl rfl (Nat.le_of_ble_eq_true rfl) ?_
  intro xp xe xs xm xb xt xc
  refine z_aload_n (pc := 0) dX2_tellTo_0 0 rfl ?_
  refine z_iconst (pc := 1) dX2_tellTo_1 ?_
  refine z_put (pc := 2) (q0 := 0) (ws2 := [(tp, .inr (2, [.ref tb, .int (iI tn), .int (iI to), .int (iI ts), .int (iI 0), .int (iI tu)])), (tb, .inl (cB, 120, .inl (tbA tc))), (h, oG g hK hH hM hO), (hK, .inl (cI, 8, .inl (aG g 0))), (hH, .inl (cI, 8, .inl (aG g 1))), (hM, .inl (cI, 8, .inl (aG g 2))), (hO, .inl (cI, 8, .inl (aG g 3)))]) fP_X2_25 dX2_tellTo_2 rfl rfl rfl (Nat.le_of_ble_eq_true rfl) rfl ?_
  refine z_aload_n (pc := 5) dX2_tellTo_5 0 rfl ?_
  refine z_callV (pc := 6) (st := []) (st2 := []) (ws2 := [(tp, .inr (2, [.ref tb, .int (iI tn), .int (iI (tT tc tn 0)), .int (iI (tB tc tn 0)), .int (iI (tE tc tn 0)), .int (iI (tU tc tn 0))])), (tb, .inl (cB, 120, .inl (tbA tc))), (h, oG g hK hH hM hO), (hK, .inl (cI, 8, .inl (aG g 0))), (hH, .inl (cI, 8, .inl (aG g 1))), (hM, .inl (cI, 8, .inl (aG g 2))), (hO, .inl (cI, 8, .inl (aG g 3)))]) (q0 := 0) (c_X2_advance l D cI cJ cB cS xa tp tb tn to ts 0 tu tc (by assumption) (by omega)) mV_X2_advance kM_X2_31 dX2_tellTo_6 rfl rfl [0, 1] rfl rfl rfl rfl rfl rfl rfl rfl ⟨Nat.le_of_ble_eq_true rfl, Nat.le_of_ble_eq_true rfl, Nat.le_of_ble_eq_true rfl⟩ ?_
  have f6_1 := tB_rng hT (show 0 ≤ 0 ∧ 0 ≤ tn by omega)
  have f6_2 := tE_q hT (show 0 ≤ 0 ∧ 0 ≤ tn by omega)
  have f6_3 := tS_rng tc tn 0
  have f6_4 := tV_rng hT (show 0 ≤ 0 ∧ 0 ≤ tn by omega)
  have f6_5 := tT_S tc tn 0
  have f6_6 := tU_V hT (show 0 ≤ 0 ∧ 0 ≤ tn by omega)
  refine z_iconst (pc := 9) dX2_tellTo_9 ?_
  refine z_istore_n (pc := 10) (lv2 := [(2, .int (iI 1)), (0, .ref tp), (1, .ref h)]) dX2_tellTo_10 rfl (by decide) rfl ?_
  have LP11 : ∀ (nn_ : Nat) (n : Int) (p : Int) (gg : Gd), (1 ≤ n ∧ 2 * (n - 1) ≤ p ∧ p ≤ tn) → (Ok gg) → (psT tc tn (121 - (n - 1)).toNat p gg (n - 1) = psT tc tn 121 0 g 0) → (200 - n).toNat < nn_ → Z xp l xe { frames := 8, cells := 0, slots := 0, locals := 176 } xs xm ([.ref tp, .ref h] : List Value).toArray xb xt xc 0 0 (MQ xb (Cq (S := (Int × Int × Int × Int × Gd)) D [(tp, .inr (2, [.ref tb, .int (iI tn), .int (iI to), .int (iI ts), .int (iI te), .int (iI tu)])), (tb, .inl (cB, 120, .inl (tbA tc))), (h, oG g hK hH hM hO), (hK, .inl (cI, 8, .inl (aG g 0))), (hH, .inl (cI, 8, .inl (aG g 1))), (hM, .inl (cI, 8, .inl (aG g 2))), (hO, .inl (cI, 8, .inl (aG g 3)))] (fun u : (Int × Int × Int × Int × Gd) => match u with | (to2, ts2, te2, tu2, g2) => Ok g2 ∧ (0 ≤ (psT tc tn 121 0 g 0).1 → g2 = (psT tc tn 121 0 g 0).2)) (fun u : (Int × Int × Int × Int × Gd) => match u with | (to2, ts2, te2, tu2, g2) => (some (.int (iI ((psT tc tn 121 0 g 0).1))))) (fun u : (Int × Int × Int × Int × Gd) => match u with | (to2, ts2, te2, tu2, g2) => [(tp, .inr (2, [.ref tb, .int (iI tn), .int (iI to2), .int (iI ts2), .int (iI te2), .int (iI tu2)])), (tb, .inl (cB, 120, .inl (tbA tc))), (h, oG g2 hK hH hM hO), (hK, .inl (cI, 8, .inl (aG g2 0))), (hH, .inl (cI, 8, .inl (aG g2 1))), (hM, .inl (cI, 8, .inl (aG g2 2))), (hO, .inl (cI, 8, .inl (aG g2 3)))])) ([.ref tp, .ref h] : List Value).toArray xs 0 0 (va_A0 [(tp, .inr (2, [.ref tb, .int (iI tn), .int (iI to), .int (iI ts), .int (iI te), .int (iI tu)])), (tb, .inl (cB, 120, .inl (tbA tc))), (h, oG g hK hH hM hO), (hK, .inl (cI, 8, .inl (aG g 0))), (hH, .inl (cI, 8, .inl (aG g 1))), (hM, .inl (cI, 8, .inl (aG g 2))), (hO, .inl (cI, 8, .inl (aG g 3)))])) cX2_tellTo RX2 3 (some .int) D cI cJ cB cS xa (va_A0 [(tp, .inr (2, [.ref tb, .int (iI tn), .int (iI to), .int (iI ts), .int (iI te), .int (iI tu)])), (tb, .inl (cB, 120, .inl (tbA tc))), (h, oG g hK hH hM hO), (hK, .inl (cI, 8, .inl (aG g 0))), (hH, .inl (cI, 8, .inl (aG g 1))), (hM, .inl (cI, 8, .inl (aG g 2))), (hO, .inl (cI, 8, .inl (aG g 3)))]) [(tp, .inr (2, [.ref tb, .int (iI tn), .int (iI (tT tc tn p)), .int (iI (tB tc tn p)), .int (iI (tE tc tn p)), .int (iI (tU tc tn p))])), (tb, .inl (cB, 120, .inl (tbA tc))), (h, oG gg hK hH hM hO), (hK, .inl (cI, 8, .inl (aG gg 0))), (hH, .inl (cI, 8, .inl (aG gg 1))), (hM, .inl (cI, 8, .inl (aG gg 2))), (hO, .inl (cI, 8, .inl (aG gg 3)))] [(0, .ref tp), (1, .ref h), (2, .int (iI n))] 11 [] := by
    intro nn_
    induction nn_ with
    | zero => intro n p gg hn okg hps hms; exact absurd hms (Nat.not_lt_zero _)
    | succ nn_ ih =>
      intro n p gg hn okg hps hms
      have rI := itT_rng (g := gg) hT (p := p) (by omega) okg
      have ih11 := ih
      clear ih
      refine z_iload_n (pc := 11) dX2_tellTo_11 2 rfl ?_
      refine z_bipush (pc := 12) dX2_tellTo_12 (by decide) ?_
      refine z_icmp_gt (pc := 14) (tgt := 66) dX2_tellTo_14 (by decide) (by omega) (by omega) (fun h14 => ?_) (fun h14 => ?_)
      · skip
        exfalso; omega
      · skip
        refine z_aload_n (pc := 17) dX2_tellTo_17 0 rfl ?_
        refine z_aload_n (pc := 18) dX2_tellTo_18 1 rfl ?_
        refine z_callVE (pc := 19) (st := []) (q0 := 0) (c_X2_isItemTold l D cI cJ cB cS xa tp tb tn tc p h hK hH hM hO gg (by assumption) (by omega) okg) mV_X2_isItemTold kM_X2_34 dX2_tellTo_19 rfl rfl [0, 1, 2, 3, 4, 5, 6] rfl rfl (fun _ => rfl) (fun _ => rfl) rfl rfl ⟨Nat.le_of_ble_eq_true rfl, Nat.le_of_ble_eq_true rfl, Nat.le_of_ble_eq_true rfl⟩ (fun u19 hu19 => ?_)
        obtain ⟨g219, hz19⟩ : ∃ z, z = u19 := ⟨_, rfl⟩
        subst hz19
        refine z_ws (ws2 := [(tp, .inr (2, [.ref tb, .int (iI tn), .int (iI (tT tc tn ((itT tc tn p gg).2.1))), .int (iI (tB tc tn ((itT tc tn p gg).2.1))), .int (iI (tE tc tn ((itT tc tn p gg).2.1))), .int (iI (tU tc tn ((itT tc tn p gg).2.1)))])), (tb, .inl (cB, 120, .inl (tbA tc))), (h, oG g219 hK hH hM hO), (hK, .inl (cI, 8, .inl (aG g219 0))), (hH, .inl (cI, 8, .inl (aG g219 1))), (hM, .inl (cI, 8, .inl (aG g219 2))), (hO, .inl (cI, 8, .inl (aG g219 3)))]) rfl ?_
        refine z_st (st2 := [.int (bI ((itT tc tn p gg).1 = 1))]) rfl ?_
        have rB := tB_rng hT (p := (itT tc tn p gg).2.1) ⟨by omega, by omega⟩
        have rE := tE_q hT (q := (itT tc tn p gg).2.1) ⟨by omega, by omega⟩
        have rT := tT_S tc tn ((itT tc tn p gg).2.1)
        have rS := tS_rng tc tn ((itT tc tn p gg).2.1)
        have rV := tV_rng hT (p := (itT tc tn p gg).2.1) ⟨by omega, by omega⟩
        refine z_ifb_ne (pc := 22) (tgt := 32) dX2_tellTo_22 (by decide) (fun h22 => ?_) (fun h22 => ?_)
        · skip
          rw [psT_s tc tn (i := n - 1) (by omega), if_pos h22] at hps
          refine z_aload_n (pc := 32) dX2_tellTo_32 0 rfl ?_
          refine z_get (pc := 33) (q0 := 0) (v := .int (iI (tT tc tn ((itT tc tn p gg).2.1)))) fL_X2_19 dX2_tellTo_33 rfl rfl ?_
          refine z_if_ne (pc := 36) (tgt := 41) dX2_tellTo_36 (by decide) (by omega) (fun h36 => ?_) (fun h36 => ?_)
          · skip
            rw [if_neg (fun z => h36 (rT.1.mpr z))] at hps
            refine z_aload_n (pc := 41) dX2_tellTo_41 0 rfl ?_
            refine z_get (pc := 42) (q0 := 0) (v := .int (iI (tT tc tn ((itT tc tn p gg).2.1)))) fL_X2_19 dX2_tellTo_42 rfl rfl ?_
            refine z_iconst (pc := 45) dX2_tellTo_45 ?_
            refine z_icmp_eq (pc := 46) (tgt := 56) dX2_tellTo_46 (by decide) (by omega) (by omega) (fun h46 => ?_) (fun h46 => ?_)
            · skip
              have z3 := rT.2.2.2.1.mp (by omega)
              rw [if_pos z3] at hps
              refine z_aload_n (pc := 56) dX2_tellTo_56 0 rfl ?_
              refine z_callV (pc := 57) (st := []) (st2 := []) (ws2 := [(tp, .inr (2, [.ref tb, .int (iI tn), .int (iI (tT tc tn (tE tc tn ((itT tc tn p gg).2.1)))), .int (iI (tB tc tn (tE tc tn ((itT tc tn p gg).2.1)))), .int (iI (tE tc tn (tE tc tn ((itT tc tn p gg).2.1)))), .int (iI (tU tc tn (tE tc tn ((itT tc tn p gg).2.1))))])), (tb, .inl (cB, 120, .inl (tbA tc))), (h, oG g219 hK hH hM hO), (hK, .inl (cI, 8, .inl (aG g219 0))), (hH, .inl (cI, 8, .inl (aG g219 1))), (hM, .inl (cI, 8, .inl (aG g219 2))), (hO, .inl (cI, 8, .inl (aG g219 3)))]) (q0 := 0) (c_X2_advance l D cI cJ cB cS xa tp tb tn (tT tc tn ((itT tc tn p gg).2.1)) (tB tc tn ((itT tc tn p gg).2.1)) (tE tc tn ((itT tc tn p gg).2.1)) (tU tc tn ((itT tc tn p gg).2.1)) tc (by assumption) (by omega)) mV_X2_advance kM_X2_31 dX2_tellTo_57 rfl rfl [0, 1] rfl rfl rfl rfl rfl rfl rfl rfl ⟨Nat.le_of_ble_eq_true rfl, Nat.le_of_ble_eq_true rfl, Nat.le_of_ble_eq_true rfl⟩ ?_
              have f57_7 := tB_rng hT (show 0 ≤ (tE tc tn ((itT tc tn p gg).2.1)) ∧ (tE tc tn ((itT tc tn p gg).2.1)) ≤ tn by omega)
              have f57_8 := tE_q hT (show 0 ≤ (tE tc tn ((itT tc tn p gg).2.1)) ∧ (tE tc tn ((itT tc tn p gg).2.1)) ≤ tn by omega)
              have f57_9 := tS_rng tc tn (tE tc tn ((itT tc tn p gg).2.1))
              have f57_10 := tV_rng hT (show 0 ≤ (tE tc tn ((itT tc tn p gg).2.1)) ∧ (tE tc tn ((itT tc tn p gg).2.1)) ≤ tn by omega)
              have f57_11 := tT_S tc tn (tE tc tn ((itT tc tn p gg).2.1))
              have f57_12 := tU_V hT (show 0 ≤ (tE tc tn ((itT tc tn p gg).2.1)) ∧ (tE tc tn ((itT tc tn p gg).2.1)) ≤ tn by omega)
              refine z_iinc (pc := 60) (lv2 := [(2, .int (iI (n + 1))), (0, .ref tp), (1, .ref h)]) dX2_tellTo_60 2 rfl (by decide) rfl ?_
              refine z_goto (pc := 63) (tgt := 11) dX2_tellTo_63 (by decide) ?_
              refine z_lv (lv2 := [(0, .ref tp), (1, .ref h), (2, .int (iI (n + 1)))]) [1, 2, 0] rfl ?_
              exact ih11 (n + 1) (tE tc tn ((itT tc tn p gg).2.1)) g219 (by omega) (hu19.1) (by rw [hu19.2 h22, show n + 1 - 1 = n - 1 + 1 by omega]; exact hps) (by omega)
            · skip
              rw [if_neg (fun z => h46 (rT.2.2.2.1.mpr z))] at hps
              refine z_iconst (pc := 49) dX2_tellTo_49 ?_
              refine z_aload_n (pc := 50) dX2_tellTo_50 0 rfl ?_
              refine z_get (pc := 51) (q0 := 0) (v := .int (iI (tB tc tn ((itT tc tn p gg).2.1)))) fL_X2_22 dX2_tellTo_51 rfl rfl ?_
              refine z_isub (pc := 54) dX2_tellTo_54 ?_
              exact z_iretE (pc := 55) dX2_tellTo_55 (tT tc tn ((itT tc tn p gg).2.1), tB tc tn ((itT tc tn p gg).2.1), tE tc tn ((itT tc tn p gg).2.1), tU tc tn ((itT tc tn p gg).2.1), g219) (⟨hu19.1, fun z => absurd z (by rw [← hps]; show ¬ (0 : Int) ≤ -1 - tB tc tn (itT tc tn p gg).2.1; omega)⟩) (congrArg (fun z => some (Value.int (iI z))) (by rw [← hps])) rfl
          · skip
            rw [if_pos (rT.1.mp (by omega))] at hps
            refine z_iload_n (pc := 39) dX2_tellTo_39 2 rfl ?_
            exact z_iretE (pc := 40) dX2_tellTo_40 (tT tc tn ((itT tc tn p gg).2.1), tB tc tn ((itT tc tn p gg).2.1), tE tc tn ((itT tc tn p gg).2.1), tU tc tn ((itT tc tn p gg).2.1), g219) (⟨hu19.1, fun _ => by rw [hu19.2 h22, ← hps]⟩) (congrArg (fun z => some (Value.int (iI z))) (by rw [← hps]; show n - 1 + 1 = n; omega)) rfl
        · skip
          rw [psT_s tc tn (i := n - 1) (by omega), if_neg h22] at hps
          refine z_iconst (pc := 25) dX2_tellTo_25 ?_
          refine z_aload_n (pc := 26) dX2_tellTo_26 0 rfl ?_
          refine z_get (pc := 27) (q0 := 0) (v := .int (iI (tB tc tn ((itT tc tn p gg).2.1)))) fL_X2_22 dX2_tellTo_27 rfl rfl ?_
          refine z_isub (pc := 30) dX2_tellTo_30 ?_
          exact z_iretE (pc := 31) dX2_tellTo_31 (tT tc tn ((itT tc tn p gg).2.1), tB tc tn ((itT tc tn p gg).2.1), tE tc tn ((itT tc tn p gg).2.1), tU tc tn ((itT tc tn p gg).2.1), g219) (⟨hu19.1, fun z => absurd z (by rw [← hps]; show ¬ (0 : Int) ≤ -1 - tB tc tn (itT tc tn p gg).2.1; omega)⟩) (congrArg (fun z => some (Value.int (iI z))) (by rw [← hps])) rfl
  refine z_lv (lv2 := [(0, .ref tp), (1, .ref h), (2, .int (iI 1))]) [1, 2, 0] rfl ?_
  exact LP11 _ 1 0 g (by omega) (ok) (rfl) (Nat.lt_succ_self _)
