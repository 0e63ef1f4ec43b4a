def va_A0 (W0 : va_W) : Nat → Prop := fun q => ∃ (k : Nat) (e : va_E), W0[k]? = some (q, e)
def rp : va_W → List Nat → va_W → va_W
  | ws, i :: is, w :: wc => rp (ws.set i w) is wc
  | ws, _, _ => ws
theorem rp_spec : ∀ (is : List Nat) (wc ws : va_W), is.length = wc.length → ∀ (k : Nat) (q : Nat × va_E), (rp ws is wc)[k]? = some q → (∃ j : Nat, is[j]? = some k ∧ wc[j]? = some q) ∨ (k ∉ is ∧ ws[k]? = some q)
  | [], [], ws, _, k, q, h => Or.inr ⟨List.not_mem_nil, h⟩
  | [], _ :: _, ws, hl, k, q, h => by cases hl
  | _ :: _, [], ws, hl, k, q, h => by cases hl
  | i :: is, w :: wc, ws, hl, k, q, h => by
    rcases rp_spec is wc (ws.set i w) (by simpa using hl) k q h with ⟨j, h1, h2⟩ | ⟨h1, h2⟩
    · exact Or.inl ⟨j + 1, h1, h2⟩
    · by_cases hk : k = i
      · subst hk
        have hlt : k < ws.length := by
          have := (List.getElem?_eq_some_iff.mp h2).1
          rwa [List.length_set] at this
        rw [List.getElem?_set_self hlt] at h2
        exact Or.inl ⟨0, rfl, h2⟩
      · rw [List.getElem?_set_ne (Ne.symm hk)] at h2
        exact Or.inr ⟨fun z => (List.mem_cons.mp z).elim hk h1, h2⟩
theorem map_at {is : List Nat} {ws w : va_W} (hs : is.map (fun i => ws[i]?) = w.map some) (k : Nat) (q : Nat × va_E) (hq : w[k]? = some q) : ∃ i, is[k]? = some i ∧ ws[i]? = some q := by
  have h1 : (is.map (fun i => ws[i]?))[k]? = some (some q) := by rw [hs, List.getElem?_map, hq]; rfl
  rw [List.getElem?_map] at h1
  cases hi : is[k]? with
  | none => rw [hi] at h1; cases h1
  | some i => rw [hi] at h1; exact ⟨i, rfl, Option.some.inj h1⟩
theorem va_P.pick {D : va_G} {cl : List vw_C} {ws wc : va_W} {H : Heap} {is : List Nat} (hP : va_P D cl ws H) (hC : is.map (fun i => ws[i]?) = wc.map some) : va_P D cl wc H := fun k q hq => by
  obtain ⟨i, -, h2⟩ := map_at hC k q hq
  exact hP i q h2
theorem va_A0.sub {A : Nat → Prop} {ws wc : va_W} {is : List Nat} (hD : va_D A ws) (hC : is.map (fun i => ws[i]?) = wc.map some) : ∀ q, va_A0 wc q → A q := fun q h => by
  obtain ⟨k, e, h⟩ := h
  obtain ⟨i, -, h2⟩ := map_at hC k (q, e) h
  exact hD.2 i (q, e) h2
theorem rp_P {D : va_G} {cl : List vw_C} {A : Nat → Prop} {ws wc wc1 : va_W} {H H1 : Heap} {is : List Nat} (hP : va_P D cl ws H) (hD : va_D A ws) (hC : is.map (fun i => ws[i]?) = wc.map some) (hn : is.length = wc1.length)
    (hk : ∀ q : Nat, q < H.size → ¬ va_A0 wc q → H1[q]? = H[q]?) (hP1 : va_P D cl wc1 H1) : va_P D cl (rp ws is wc1) H1 := by
  intro k q hq
  rcases rp_spec is wc1 ws hn k q hq with ⟨j, h1, h2⟩ | ⟨h1, h2⟩
  · exact hP1 j q h2
  · refine (hP k q h2).kept (hk q.1 (hP k q h2).lt (fun z => ?_))
    obtain ⟨j, e, hj⟩ := z
    obtain ⟨i, h3, h4⟩ := map_at hC j (q.1, e) hj
    have hij := hD.1 k i q (q.1, e) h2 h4 rfl
    subst hij
    exact h1 (List.mem_of_getElem? h3)
/-! fields -/
def FL (own : String) (index ci k : Nat) : Prop := ∃ (C : String) (T : u_T) (N : Nat), vwCl[ci]? = some (C, T, N) ∧ (∀ w ∈ u_ws C T N, w ∈ gt) ∧ k < N ∧ Cond.fieldLink own index (T k).1 (T k).2.1 (T k).2.2.1 ∈ gt
def FP (own : String) (index ci k : Nat) (ty : FieldType) : Prop := ∃ (C : String) (T : u_T) (N : Nat) (ty0 : Nat → FieldType), vwCl[ci]? = some (C, T, N) ∧ (∀ w ∈ u_ws C T N, w ∈ gt) ∧ k < N ∧ Cond.fieldLink own index (T k).1 (T k).2.1 (T k).2.2.1 ∈ gt ∧
  (∀ k, k < N → parseFieldDescriptor (T k).2.2.1 = some (ty0 k)) ∧ (∀ a, a < N → ∀ b, b < N → a ≠ b → (T a).2.1 ≠ (T b).2.1) ∧ (T k).2.2.2 = false ∧ parseFieldDescriptor (T k).2.2.1 = some ty
def MMin (own : String) (index : Nat) : Prop := Cond.methodLink own index Lib.Math.min.name ∈ gt ∧ Cond.static Lib.Math.min.name ∈ gt ∧ Cond.initialized "java/lang/Math" ∈ gt ∧ Cond.code Lib.Math.min.name Lib.Math.min.code 2 (some .int) ∈ gt
def MMax (own : String) (index : Nat) : Prop := Cond.methodLink own index Lib.Math.max.name ∈ gt ∧ Cond.static Lib.Math.max.name ∈ gt ∧ Cond.initialized "java/lang/Math" ∈ gt ∧ Cond.code Lib.Math.max.name Lib.Math.max.code 2 (some .int) ∈ gt
def MCpy (own : String) (index : Nat) : Prop := Cond.methodLink own index arraycopyName ∈ gt ∧ Cond.native arraycopyName ∈ gt ∧ Cond.static arraycopyName ∈ gt ∧ Cond.initialized "java/lang/System" ∈ gt
/-! contracts -/
def Cp (D : va_G) (cI cJ cB cS : ClassId) (xa : XA) (av : List Value) (W0 : va_W) : Array Value → State → Prop := fun v U => v = av.toArray ∧ va_P D vwCl W0 U.heap ∧ va_K D vwCl (TY cI cJ cB cS) U ∧ va_D (fun _ => True) W0 ∧ XF xa (va_A0 W0) U U.heap
def Cq {S : Type} (D : va_G) (W0 : va_W) (post : S → Prop) (O : S → Option Value) (W1 : S → va_W) : Array Value → State → Outcome → State → Prop := fun _ st oc t => ∃ u : S, post u ∧ oc = .returned (O u) ∧ va_P D vwCl (W1 u) t.heap ∧ va_F (va_A0 W0) st t
def CtE {S : Type} (l : Launch) (D : va_G) (cI cJ cB cS : ClassId) (xa : XA) (y : MethodName) (cc : ByteArray) (maxL : Nat) (ret : Option FieldType) (fr lo : Nat) (av : List Value) (W0 : va_W) (post : S → Prop) (O : S → Option Value) (W1 : S → va_W) : Prop :=
  Met l y (Cond.code y cc maxL ret :: gt) { frames := fr, cells := 0, slots := 0, locals := lo } (Cp D cI cJ cB cS xa av W0) (Cq D W0 post O W1) 0 0 (va_A0 W0)
abbrev Ct (l : Launch) (D : va_G) (cI cJ cB cS : ClassId) (xa : XA) (y : MethodName) (cc : ByteArray) (maxL : Nat) (ret : Option FieldType) (fr lo : Nat) (av : List Value) (W0 : va_W) (O : Option Value) (W1 : va_W) : Prop :=
  CtE (S := Unit) l D cI cJ cB cS xa y cc maxL ret fr lo av W0 (fun _ => True) (fun _ => O) (fun _ => W1)
theorem Cp.blind {D : va_G} {cI cJ cB cS : ClassId} {xa : XA} {av : List Value} {W0 : va_W} : FrameBlind (Cp D cI cJ cB cS xa av W0) := fun a U g mk h => by
  obtain ⟨h1, h2, h3, h4, h5⟩ := h
  exact ⟨h1, h2, va_K.moved (u := U) (U := U.calling g mk a) (Vm.Alike.refl U.vm) h3, h4, XF.eq (u := U) (U := U.calling g mk a) rfl h5⟩
theorem CtE.of {S : Type} {l : Launch} {D : va_G} {cI cJ cB cS : ClassId} {xa : XA} {y : MethodName} {cc : ByteArray} {maxL : Nat} {ret : Option FieldType} {fr lo : Nat} {av : List Value} {W0 : va_W} {post : S → Prop} {O : S → Option Value} {W1 : S → va_W} {own : String} {lv : List (Nat × Value)}
    (hy : plainName y.cls = true) (hown : y.cls = own) (hlv : lv_args 0 av = lv) (hlen : (lg_sl av).length ≤ maxL)
    (body : ∀ (p : Program) (e : Env) (s : State) (m : MethodId) (below : List Frame) (meth : Method) (c : Code), Z p l e { frames := fr, cells := 0, slots := 0, locals := lo } s m av.toArray below meth c 0 0 (MQ below (Cq D W0 post O W1) av.toArray s 0 0 (va_A0 W0)) cc own maxL ret D cI cJ cB cS xa (va_A0 W0) W0 lv 0 []) :
    CtE l D cI cJ cB cS xa y cc maxL ret fr lo av W0 post O W1 := by
  refine Met.ofW (cc := cc) (maxL := maxL) (ret := ret) hy rfl ?_
  intro p e s m args below meth c s₁ B hml hv
  obtain ⟨rfl, hP, hK, hD0, hXF⟩ := hv
  have hts := atoms_spec (ws := Cond.code y cc maxL ret :: gt) B.pre
  have ho : s.vm.findClass own = some m.cls := by rw [← hown]; exact findClass_of_methodNamed B.named
  have hl := lv_entry av (n := maxL) hlen
  rw [lg_entry_eq]
  rw [hlv] at hl
  exact body p e s m below meth c ⟨B.exec, B.bytes, hml, ho, fun w h => hts w (List.mem_cons_of_mem _ h), hK, B.notSynchronized, B.returns, hXF, Nat.zero_le _, Nat.zero_le _⟩ s.heap [] _ hP ⟨hD0.1, fun k q h => ⟨k, q.2, h⟩⟩ va_S.rf hl
def MV (y : MethodName) (cc : ByteArray) (maxL : Nat) (ret : Option FieldType) (n : Nat) : Prop := Cond.code y cc maxL ret ∈ gt ∧ Cond.instanceMethod y ∈ gt ∧ Cond.selects y.cls y y ∈ gt ∧ Cond.initialized y.cls ∈ gt ∧ (y.cls ≠ "java/lang/invoke/MethodHandle" ∧ y.cls ≠ "java/lang/invoke/VarHandle" ∧ (parseMethodDescriptor y.desc).map (fun d => d.parameters.length) = some n)
def MS (y : MethodName) (cc : ByteArray) (maxL : Nat) (ret : Option FieldType) (n : Nat) : Prop := Cond.code y cc maxL ret ∈ gt ∧ Cond.static y ∈ gt ∧ Cond.initialized y.cls ∈ gt ∧ (y.cls ≠ "java/lang/invoke/MethodHandle" ∧ y.cls ≠ "java/lang/invoke/VarHandle" ∧ (parseMethodDescriptor y.desc).map (fun d => d.parameters.length) = some n)
section ZC
variable {p : Program} {l : Launch} {e : Env} {R : Room} {s : State} {m : MethodId} {args : Array Value} {below : List Frame} {meth : Method} {c : Code} {cells slots : Nat} {Q : State → Prop} {cc : ByteArray} {own : String} {nL : Nat} {rt : Option FieldType} {D : va_G} {cI cJ cB cS : ClassId} {xa : XA} {A : Nat → Prop} {ws ws2 : va_W} {lv lv2 : List (Nat × Value)} {pc : Nat} {st : List Value}
theorem z_get {index ci q0 kf a : Nat} {fs : List Value} {v : Value} (f : FL own index ci kf) (hdg : decode cc pc = .ok (.getfield index, 3)) (he : ws[q0]? = some (a, .inr (ci, fs))) (hv : fs[kf]? = some v) (k : Z p l e R s m args below meth c cells slots Q cc own nL rt D cI cJ cB cS xa A ws (lv) (pc + 3) (v :: st)) : Z p l e R s m args below meth c cells slots Q cc own nL rt D cI cJ cB cS xa A ws (lv) (pc) (.ref a :: st) := by
  intro F H locs ls hP hD hS hl
  obtain ⟨hx, hb, hml, hown, hts, hK, hlk, hrt, hXF, hce, hsl⟩ := id F
  obtain ⟨C, T, N, hc, hin, hk, hlink⟩ := f
  exact va_get (C := C) (T := T) (N := N) hx hb hts hin hown hK hP q0 he hc kf hk (hts _ hlink) (fun _ h => h) hv hdg (k F H locs ls hP hD hS hl)
theorem z_put {index ci q0 kf a : Nat} {fs : List Value} {v : Value} {ty : FieldType} (f : FP own index ci kf ty) (hdg : decode cc pc = .ok (.putfield index, 3)) (he : ws[q0]? = some (a, .inr (ci, fs))) (hn : narrow ty v = v) (hfit : fits ty v = true) (hl0 : kf < fs.length) (hw : ws.set q0 (a, .inr (ci, fs.set kf v)) = ws2) (k : Z p l e R s m args below meth c cells slots Q cc own nL rt D cI cJ cB cS xa A ws2 (lv) (pc + 3) (st)) : Z p l e R s m args below meth c cells slots Q cc own nL rt D cI cJ cB cS xa A ws (lv) (pc) (v :: .ref a :: st) := by
  intro F H locs ls hP hD hS hl
  obtain ⟨hx, hb, hml, hown, hts, hK, hlk, hrt, hXF, hce, hsl⟩ := id F
  obtain ⟨C, T, N, ty0, hc, hin, hk, hlink, hty, hnm, hfin, hd⟩ := f
  subst hw
  exact va_put (C := C) (T := T) (N := N) hx hb hts hin ty0 hty hnm hown hK hP hD hS q0 he hc kf hk (hts _ hlink) (fun _ h => h) hfin hd hn hfit hl0 hdg (fun H locs hP hD hS => k F H locs ls hP hD hS hl)
theorem z_iald {q0 a n : Nat} {f : Nat → Int32} {z : Int} {v : Int32} (hdg : decode cc pc = .ok (.iaload, 1)) (he : ws[q0]? = some (a, .inl (cI, n, .inl f))) (hz : 0 ≤ z ∧ z < (n : Int)) (hn : n ≤ 2147483648) (hv : f z.toNat = v) (k : Z p l e R s m args below meth c cells slots Q cc own nL rt D cI cJ cB cS xa A ws (lv) (pc + 1) (.int v :: st)) : Z p l e R s m args below meth c cells slots Q cc own nL rt D cI cJ cB cS xa A ws (lv) (pc) (.int (iI z) :: .ref a :: st) := by
  intro F H locs ls hP hD hS hl
  obtain ⟨hx, hb, hml, hown, hts, hK, hlk, hrt, hXF, hce, hsl⟩ := id F
  subst hv
  refine va_iald hx hb hK hP q0 0 he rfl (iI_in hz.1 hz.2 hn) hdg ?_
  rw [iI_clamp hz.1 (by omega)]
  exact k F H locs ls hP hD hS hl
theorem z_bald {q0 a n : Nat} {f : Nat → Int32} {z : Int} {v : Int32} (hdg : decode cc pc = .ok (.baload, 1)) (he : ws[q0]? = some (a, .inl (cB, n, .inl f))) (hz : 0 ≤ z ∧ z < (n : Int)) (hn : n ≤ 2147483648) (hv : f z.toNat = v) (k : Z p l e R s m args below meth c cells slots Q cc own nL rt D cI cJ cB cS xa A ws (lv) (pc + 1) (.int v :: st)) : Z p l e R s m args below meth c cells slots Q cc own nL rt D cI cJ cB cS xa A ws (lv) (pc) (.int (iI z) :: .ref a :: st) := by
  intro F H locs ls hP hD hS hl
  obtain ⟨hx, hb, hml, hown, hts, hK, hlk, hrt, hXF, hce, hsl⟩ := id F
  subst hv
  refine va_bald hx hb hK hP q0 2 he rfl (iI_in hz.1 hz.2 hn) hdg ?_
  rw [iI_clamp hz.1 (by omega)]
  exact k F H locs ls hP hD hS hl
theorem z_lald {q0 a n : Nat} {f : Nat → Int64} {z : Int} {v : Int64} (hdg : decode cc pc = .ok (.laload, 1)) (he : ws[q0]? = some (a, .inl (cJ, n, .inr (.inl f)))) (hz : 0 ≤ z ∧ z < (n : Int)) (hn : n ≤ 2147483648) (hv : f z.toNat = v) (k : Z p l e R s m args below meth c cells slots Q cc own nL rt D cI cJ cB cS xa A ws (lv) (pc + 1) (.long v :: st)) : Z p l e R s m args below meth c cells slots Q cc own nL rt D cI cJ cB cS xa A ws (lv) (pc) (.int (iI z) :: .ref a :: st) := by
  intro F H locs ls hP hD hS hl
  obtain ⟨hx, hb, hml, hown, hts, hK, hlk, hrt, hXF, hce, hsl⟩ := id F
  subst hv
  refine va_lald hx hb hK hP q0 1 he rfl (iI_in hz.1 hz.2 hn) hdg ?_
  rw [iI_clamp hz.1 (by omega)]
  exact k F H locs ls hP hD hS hl
theorem z_iast {q0 a n : Nat} {f : Nat → Int32} {z : Int} {x : Int32} (hdg : decode cc pc = .ok (.iastore, 1)) (he : ws[q0]? = some (a, .inl (cI, n, .inl f))) (hz : 0 ≤ z ∧ z < (n : Int)) (hn : n ≤ 2147483648) (hw : ws.set q0 (a, .inl (cI, n, .inl (upd f z.toNat x))) = ws2) (k : Z p l e R s m args below meth c cells slots Q cc own nL rt D cI cJ cB cS xa A ws2 (lv) (pc + 1) (st)) : Z p l e R s m args below meth c cells slots Q cc own nL rt D cI cJ cB cS xa A ws (lv) (pc) (.int x :: .int (iI z) :: .ref a :: st) := by
  intro F H locs ls hP hD hS hl
  obtain ⟨hx, hb, hml, hown, hts, hK, hlk, hrt, hXF, hce, hsl⟩ := id F
  subst hw
  refine va_iast hx hb hK hP hD hS q0 0 he rfl (iI_in hz.1 hz.2 hn) hdg ?_
  rw [iI_clamp hz.1 (by omega)]
  exact fun H locs hP hD hS => k F H locs ls hP hD hS hl
theorem z_bast {q0 a n : Nat} {f : Nat → Int32} {z : Int} {x : Int32} (hdg : decode cc pc = .ok (.bastore, 1)) (he : ws[q0]? = some (a, .inl (cB, n, .inl f))) (hz : 0 ≤ z ∧ z < (n : Int)) (hn : n ≤ 2147483648) (hw : ws.set q0 (a, .inl (cB, n, .inl (upd f z.toNat (vp_nar .byte x)))) = ws2) (k : Z p l e R s m args below meth c cells slots Q cc own nL rt D cI cJ cB cS xa A ws2 (lv) (pc + 1) (st)) : Z p l e R s m args below meth c cells slots Q cc own nL rt D cI cJ cB cS xa A ws (lv) (pc) (.int x :: .int (iI z) :: .ref a :: st) := by
  intro F H locs ls hP hD hS hl
  obtain ⟨hx, hb, hml, hown, hts, hK, hlk, hrt, hXF, hce, hsl⟩ := id F
  subst hw
  refine va_bast hx hb hK hP hD hS q0 2 he rfl (iI_in hz.1 hz.2 hn) hdg ?_
  rw [iI_clamp hz.1 (by omega)]
  exact fun H locs hP hD hS => k F H locs ls hP hD hS hl
theorem z_last {q0 a n : Nat} {f : Nat → Int64} {z : Int} {x : Int64} (hdg : decode cc pc = .ok (.lastore, 1)) (he : ws[q0]? = some (a, .inl (cJ, n, .inr (.inl f)))) (hz : 0 ≤ z ∧ z < (n : Int)) (hn : n ≤ 2147483648) (hw : ws.set q0 (a, .inl (cJ, n, .inr (.inl (vp_updL f z.toNat x)))) = ws2) (k : Z p l e R s m args below meth c cells slots Q cc own nL rt D cI cJ cB cS xa A ws2 (lv) (pc + 1) (st)) : Z p l e R s m args below meth c cells slots Q cc own nL rt D cI cJ cB cS xa A ws (lv) (pc) (.long x :: .int (iI z) :: .ref a :: st) := by
  intro F H locs ls hP hD hS hl
  obtain ⟨hx, hb, hml, hown, hts, hK, hlk, hrt, hXF, hce, hsl⟩ := id F
  subst hw
  refine va_last hx hb hK hP hD hS q0 1 he rfl (iI_in hz.1 hz.2 hn) hdg ?_
  rw [iI_clamp hz.1 (by omega)]
  exact fun H locs hP hD hS => k F H locs ls hP hD hS hl
theorem z_aald {q0 a n b : Nat} {f : Nat → Option Nat} {z : Int} (hdg : decode cc pc = .ok (.aaload, 1)) (he : ws[q0]? = some (a, .inl (cS, n, .inr (.inr (.inr (.inr f)))))) (hz : 0 ≤ z ∧ z < (n : Int)) (hn : n ≤ 2147483648) (hv : f z.toNat = some b) (k : Z p l e R s m args below meth c cells slots Q cc own nL rt D cI cJ cB cS xa A ws (lv) (pc + 1) (.ref b :: st)) : Z p l e R s m args below meth c cells slots Q cc own nL rt D cI cJ cB cS xa A ws (lv) (pc) (.int (iI z) :: .ref a :: st) := by
  intro F H locs ls hP hD hS hl
  obtain ⟨hx, hb, hml, hown, hts, hK, hlk, hrt, hXF, hce, hsl⟩ := id F
  refine va_aldq (C := "OwingSwings$Sheet") hx hb hK hP q0 3 he rfl (iI_in hz.1 hz.2 hn) hdg ?_
  rw [iI_clamp hz.1 (by omega), hv]
  exact k F H locs ls hP hD hS hl
theorem z_alen_i {q0 a n : Nat} {f : Nat → Int32} (hdg : decode cc pc = .ok (.arraylength, 1)) (he : ws[q0]? = some (a, .inl (cI, n, .inl f))) (k : Z p l e R s m args below meth c cells slots Q cc own nL rt D cI cJ cB cS xa A ws (lv) (pc + 1) (.int (iI (n : Int)) :: st)) : Z p l e R s m args below meth c cells slots Q cc own nL rt D cI cJ cB cS xa A ws (lv) (pc) (.ref a :: st) := by
  intro F H locs ls hP hD hS hl
  obtain ⟨hx, hb, hml, hown, hts, hK, hlk, hrt, hXF, hce, hsl⟩ := id F
  refine va_alen hx hb hK hP q0 0 he rfl (v := iI (n : Int)) (by rw [iI_nat]; rfl) hdg (k F H locs ls hP hD hS hl)
theorem z_alen_l {q0 a n : Nat} {f : Nat → Int64} (hdg : decode cc pc = .ok (.arraylength, 1)) (he : ws[q0]? = some (a, .inl (cJ, n, .inr (.inl f)))) (k : Z p l e R s m args below meth c cells slots Q cc own nL rt D cI cJ cB cS xa A ws (lv) (pc + 1) (.int (iI (n : Int)) :: st)) : Z p l e R s m args below meth c cells slots Q cc own nL rt D cI cJ cB cS xa A ws (lv) (pc) (.ref a :: st) := by
  intro F H locs ls hP hD hS hl
  obtain ⟨hx, hb, hml, hown, hts, hK, hlk, hrt, hXF, hce, hsl⟩ := id F
  refine va_alen hx hb hK hP q0 1 he rfl (v := iI (n : Int)) (by rw [iI_nat]; rfl) hdg (k F H locs ls hP hD hS hl)
theorem z_min {index : Nat} {x y : Int} (f : MMin own index) (hdg : decode cc pc = .ok (.invokestatic index, 3)) (hr1 : inr x) (hr2 : inr y) (hR : 1 ≤ R.frames ∧ (st.map fun v => v.category).sum + 13 ≤ R.locals) (k : Z p l e R s m args below meth c cells slots Q cc own nL rt D cI cJ cB cS xa A ws (lv) (pc + 3) (.int (iI (min x y)) :: st)) : Z p l e R s m args below meth c cells slots Q cc own nL rt D cI cJ cB cS xa A ws (lv) (pc) (.int (iI y) :: .int (iI x) :: st) := by
  intro F H locs ls hP hD hS hl
  obtain ⟨hx, hb, hml, hown, hts, hK, hlk, hrt, hXF, hce, hsl⟩ := id F
  obtain ⟨f1, f2, f3, f4⟩ := f
  refine va_mmin hx hb (by rw [hml]; exact hl.1.symm) hown (hts _ f1) (hts _ f2) (hts _ f3) (hts _ f4) hR.1 hR.2 hce hsl hdg ?_
  have e1 : (if iI y < iI x then iI y else iI x) = iI (min x y) := by
    by_cases h : y < x
    · rw [if_pos ((iI_lt hr2 hr1).mpr h), Int.min_eq_right (Int.le_of_lt h)]
    · rw [if_neg (fun z => h ((iI_lt hr2 hr1).mp z)), Int.min_eq_left (by omega)]
  rw [e1]
  exact k F H locs ls hP hD hS hl
theorem z_max {index : Nat} {x y : Int} (f : MMax own index) (hdg : decode cc pc = .ok (.invokestatic index, 3)) (hr1 : inr x) (hr2 : inr y) (hR : 1 ≤ R.frames ∧ (st.map fun v => v.category).sum + 13 ≤ R.locals) (k : Z p l e R s m args below meth c cells slots Q cc own nL rt D cI cJ cB cS xa A ws (lv) (pc + 3) (.int (iI (max x y)) :: st)) : Z p l e R s m args below meth c cells slots Q cc own nL rt D cI cJ cB cS xa A ws (lv) (pc) (.int (iI y) :: .int (iI x) :: st) := by
  intro F H locs ls hP hD hS hl
  obtain ⟨hx, hb, hml, hown, hts, hK, hlk, hrt, hXF, hce, hsl⟩ := id F
  obtain ⟨f1, f2, f3, f4⟩ := f
  refine va_mmax hx hb (by rw [hml]; exact hl.1.symm) hown (hts _ f1) (hts _ f2) (hts _ f3) (hts _ f4) hR.1 hR.2 hce hsl hdg ?_
  have e1 : (if iI x < iI y then iI y else iI x) = iI (max x y) := by
    by_cases h : x < y
    · rw [if_pos ((iI_lt hr1 hr2).mpr h), Int.max_eq_right (Int.le_of_lt h)]
    · rw [if_neg (fun z => h ((iI_lt hr1 hr2).mp z)), Int.max_eq_left (by omega)]
  rw [e1]
  exact k F H locs ls hP hD hS hl
theorem z_copyi {index q0 q1 a0 a n0 n1 : Nat} {f g : Nat → Int32} {sp dp n : Int} (ff : MCpy own index) (hdg : decode cc pc = .ok (.invokestatic index, 3)) (he0 : ws[q0]? = some (a0, .inl (cI, n0, .inl f))) (he1 : ws[q1]? = some (a, .inl (cI, n1, .inl g))) (hr : 0 ≤ sp ∧ 0 ≤ dp ∧ 0 ≤ n ∧ sp + n ≤ (n0 : Int) ∧ dp + n ≤ (n1 : Int) ∧ (n0 : Int) < 2147483648 ∧ (n1 : Int) < 2147483648) (hR : 1 ≤ R.frames ∧ (st.map fun v => v.category).sum + 18 ≤ R.locals) (hw : ws.set q1 (a, .inl (cI, n1, .inl (va_cpy f g sp.toNat dp.toNat n.toNat))) = ws2) (k : Z p l e R s m args below meth c cells slots Q cc own nL rt D cI cJ cB cS xa A ws2 (lv) (pc + 3) (st)) : Z p l e R s m args below meth c cells slots Q cc own nL rt D cI cJ cB cS xa A ws (lv) (pc) (.int (iI n) :: .int (iI dp) :: .ref a :: .int (iI sp) :: .ref a0 :: st) := by
  intro F H locs ls hP hD hS hl
  obtain ⟨hx, hb, hml, hown, hts, hK, hlk, hrt, hXF, hce, hsl⟩ := id F
  obtain ⟨f1, f2, f3, f4⟩ := ff
  subst hw
  obtain ⟨r1, r2, r3, r4, r5, r6, r7⟩ := hr
  have c1 := iI_clamp r1 (by omega)
  have c2 := iI_clamp r2 (by omega)
  have c3 := iI_clamp r3 (by omega)
  have nn : ∀ z : Int, 0 ≤ z → z < 2147483648 → ¬ iI z < 0 := fun z h1 h2 q => by
    rw [← iI_0, iI_lt ⟨by omega, h2⟩ (by decide)] at q; omega
  have ncw : nativeFrameWords "java/lang/System" "arraycopy" 5 + 11 = 18 := by decide
  refine va_copyi hx hb (by rw [hml]; exact hl.1.symm) hown (hts _ f1) (hts _ f2) (hts _ f3) (hts _ f4) hK hP hD hS q0 q1 0 0 he0 he1 rfl rfl rfl (nn _ r1 (by omega)) (nn _ r2 (by omega)) (nn _ r3 (by omega)) (by rw [c1, c3]; omega) (by rw [c2, c3]; omega) (fun _ _ => rfl) hR.1 (by rw [ncw]; exact hR.2) hdg ?_
  rw [c1, c2, c3]
  exact fun H locs hP hD hS => k F H locs ls hP hD hS hl
theorem z_copyl {index q0 q1 a0 a n0 n1 : Nat} {f g : Nat → Int64} {sp dp n : Int} (ff : MCpy own index) (hdg : decode cc pc = .ok (.invokestatic index, 3)) (he0 : ws[q0]? = some (a0, .inl (cJ, n0, .inr (.inl f)))) (he1 : ws[q1]? = some (a, .inl (cJ, n1, .inr (.inl g)))) (hr : 0 ≤ sp ∧ 0 ≤ dp ∧ 0 ≤ n ∧ sp + n ≤ (n0 : Int) ∧ dp + n ≤ (n1 : Int) ∧ (n0 : Int) < 2147483648 ∧ (n1 : Int) < 2147483648) (hR : 1 ≤ R.frames ∧ (st.map fun v => v.category).sum + 18 ≤ R.locals) (hw : ws.set q1 (a, .inl (cJ, n1, .inr (.inl (va_cpy f g sp.toNat dp.toNat n.toNat)))) = ws2) (k : Z p l e R s m args below meth c cells slots Q cc own nL rt D cI cJ cB cS xa A ws2 (lv) (pc + 3) (st)) : Z p l e R s m args below meth c cells slots Q cc own nL rt D cI cJ cB cS xa A ws (lv) (pc) (.int (iI n) :: .int (iI dp) :: .ref a :: .int (iI sp) :: .ref a0 :: st) := by
  intro F H locs ls hP hD hS hl
  obtain ⟨hx, hb, hml, hown, hts, hK, hlk, hrt, hXF, hce, hsl⟩ := id F
  obtain ⟨f1, f2, f3, f4⟩ := ff
  subst hw
  obtain ⟨r1, r2, r3, r4, r5, r6, r7⟩ := hr
  have c1 := iI_clamp r1 (by omega)
  have c2 := iI_clamp r2 (by omega)
  have c3 := iI_clamp r3 (by omega)
  have nn : ∀ z : Int, 0 ≤ z → z < 2147483648 → ¬ iI z < 0 := fun z h1 h2 q => by
    rw [← iI_0, iI_lt ⟨by omega, h2⟩ (by decide)] at q; omega
  have ncw : nativeFrameWords "java/lang/System" "arraycopy" 5 + 11 = 18 := by decide
  refine va_copyl hx hb (by rw [hml]; exact hl.1.symm) hown (hts _ f1) (hts _ f2) (hts _ f3) (hts _ f4) hK hP hD hS q0 q1 1 1 he0 he1 rfl rfl rfl (nn _ r1 (by omega)) (nn _ r2 (by omega)) (nn _ r3 (by omega)) (by rw [c1, c3]; omega) (by rw [c2, c3]; omega) (fun _ _ => rfl) hR.1 (by rw [ncw]; exact hR.2) hdg ?_
  rw [c1, c2, c3]
  exact fun H locs hP hD hS => k F H locs ls hP hD hS hl
theorem z_callVE {S : Type} {index maxL fr lo n : Nat} {y : MethodName} {bytes : ByteArray} {ret : Option FieldType} {As : List Value} {Wc : va_W} {post : S → Prop} {O : S → Option Value} {Wc1 : S → va_W} {b q0 ci : Nat} {fs : List Value} {CT : u_T} {CN : Nat} (hM : CtE l D cI cJ cB cS xa y bytes maxL ret fr lo (.ref b :: As) Wc post O Wc1) (ff : MV y bytes maxL ret n) (hlink : Cond.methodLink own index y ∈ gt) (hdg : decode cc pc = .ok (.invokevirtual index, 3)) (he : ws[q0]? = some (b, .inr (ci, fs))) (hci : vwCl[ci]? = some (y.cls, CT, CN)) (is : List Nat) (hnd : va_nd is = true) (hC : is.map (fun i => ws[i]?) = Wc.map some) (hlen : ∀ u, is.length = (Wc1 u).length) (hadr : ∀ u, (rp ws is (Wc1 u)).map Prod.fst = ws.map Prod.fst) (hn : As.length = n) {st0 : List Value} (hst : As.reverse ++ .ref b :: st = st0) (hR : fr + 1 ≤ R.frames ∧ 8 + (maxL + 11) + lo ≤ R.locals ∧ (st.map fun v => v.category).sum ≤ 8) (k : ∀ u : S, post u → Z p l e R s m args below meth c cells slots Q cc own nL rt D cI cJ cB cS xa A (rp ws is (Wc1 u)) (lv) (pc + 3) ((O u).toList ++ st)) : Z p l e R s m args below meth c cells slots Q cc own nL rt D cI cJ cB cS xa A ws (lv) (pc) (st0) := by
  intro F H locs ls hP hD hS hl
  obtain ⟨hx, hb, hml, hown, hts, hK, hlk, hrt, hXF, hce, hsl⟩ := id F
  obtain ⟨f1, f2, f3, f4, f5⟩ := ff
  subst hst
  obtain ⟨hR1, hR2, hR3⟩ := hR
  have hAc : ∀ q, va_A0 Wc q → A q := va_A0.sub hD hC
  have hPc : va_P D vwCl Wc H := hP.pick hC
  have hDc : va_D (fun _ => True) Wc := (hD.sub is hnd hC).weaken (fun _ _ _ _ => trivial)
  have hcb := callB_of (R := R) (s := s) (args := args) (own := own) (index := index) (y := y) (bytes := bytes) (maxL := maxL) (ret := ret) (ws := Cond.code y bytes maxL ret :: gt) (rm := { frames := fr, cells := 0, slots := 0, locals := lo }) (mc := 0) (ms := 0) n hts (gt_GoodIn f1) rfl rfl rfl (hts _ f4) (hts _ hlink) f5 ⟨hR1, hR2⟩
  have run := va_runV (g := F0 m pc ls (As.reverse ++ .ref b :: st)) (p := p) (l := l) (e := e) (below := below) (meth := meth) (locs := locs) (cells := cells) (slots := slots) (H := H) (As := As) (rest := st) (b := b) (C := y.cls) (Ts := gt) ⟨hx, hb, hml, hown, hts⟩ hM ⟨hcb, hts _ f2, hts _ f3⟩ ⟨Cp.blind, va_recv hK hP hci he, fun U hU hW => ⟨rfl, by rw [hU]; exact hPc, va_K.moved hW.alike hK, hDc, by rw [hU]; exact hXF.go hS hW hAc⟩⟩ rfl hn hl.1 rfl (lv_room hR3) hdg ⟨hce, hsl⟩
  intro T hT X
  obtain ⟨v, st₀, t, T', L, h0, X', hL, e1, e2, ⟨u, hu, hv, hP1, hF⟩, stp⟩ := run T hT X
  cases hv
  obtain ⟨hz, hk⟩ := hF
  rw [h0] at hz hk
  obtain ⟨t2, a1, b1⟩ := k u hu F T'.heap (locs ++ L) ls (by rw [e1]; exact rp_P hP hD hC (hlen u) hk hP1) (va_D.sameA (hadr u) hD)
    ⟨Nat.le_trans hS.1 (by rw [e1]; exact hz), fun q h1 h2 => by rw [e1, hk q (Nat.lt_of_lt_of_le h1 hS.1) (fun z => h2 (hAc q z))]; exact hS.2.1 q h1 h2, fun q hq => by
      rcases List.mem_append.mp hq with h | h
      · exact hS.2.2 q h
      · exact hAc _ (hL q h)⟩ hl T' rfl X'
  exact ⟨t2, stp t2 a1, b1⟩
theorem z_callSE {S : Type} {index maxL fr lo n : Nat} {y : MethodName} {bytes : ByteArray} {ret : Option FieldType} {As : List Value} {Wc : va_W} {post : S → Prop} {O : S → Option Value} {Wc1 : S → va_W} (hM : CtE l D cI cJ cB cS xa y bytes maxL ret fr lo (As) Wc post O Wc1) (ff : MS y bytes maxL ret n) (hlink : Cond.methodLink own index y ∈ gt) (hdg : decode cc pc = .ok (.invokestatic index, 3)) (is : List Nat) (hnd : va_nd is = true) (hC : is.map (fun i => ws[i]?) = Wc.map some) (hlen : ∀ u, is.length = (Wc1 u).length) (hadr : ∀ u, (rp ws is (Wc1 u)).map Prod.fst = ws.map Prod.fst) (hn : As.length = n) {st0 : List Value} (hst : As.reverse ++ st = st0) (hR : fr + 1 ≤ R.frames ∧ 8 + (maxL + 11) + lo ≤ R.locals ∧ (st.map fun v => v.category).sum ≤ 8) (k : ∀ u : S, post u → Z p l e R s m args below meth c cells slots Q cc own nL rt D cI cJ cB cS xa A (rp ws is (Wc1 u)) (lv) (pc + 3) ((O u).toList ++ st)) : Z p l e R s m args below meth c cells slots Q cc own nL rt D cI cJ cB cS xa A ws (lv) (pc) (st0) := by
  intro F H locs ls hP hD hS hl
  obtain ⟨hx, hb, hml, hown, hts, hK, hlk, hrt, hXF, hce, hsl⟩ := id F
  obtain ⟨f1, f2, f3, f4⟩ := ff
  subst hst
  obtain ⟨hR1, hR2, hR3⟩ := hR
  have hAc : ∀ q, va_A0 Wc q → A q := va_A0.sub hD hC
  have hPc : va_P D vwCl Wc H := hP.pick hC
  have hDc : va_D (fun _ => True) Wc := (hD.sub is hnd hC).weaken (fun _ _ _ _ => trivial)
  have hcb := callB_of (R := R) (s := s) (args := args) (own := own) (index := index) (y := y) (bytes := bytes) (maxL := maxL) (ret := ret) (ws := Cond.code y bytes maxL ret :: gt) (rm := { frames := fr, cells := 0, slots := 0, locals := lo }) (mc := 0) (ms := 0) n hts (gt_GoodIn f1) rfl rfl rfl (hts _ f3) (hts _ hlink) f4 ⟨hR1, hR2⟩
  have run := va_runS (g := F0 m pc ls (As.reverse ++ st)) (p := p) (l := l) (e := e) (below := below) (meth := meth) (locs := locs) (cells := cells) (slots := slots) (H := H) (As := As) (rest := st) (Ts := gt) ⟨hx, hb, hml, hown, hts⟩ hM ⟨hcb, hts _ f2⟩ ⟨Cp.blind, fun U hU hW => ⟨rfl, by rw [hU]; exact hPc, va_K.moved hW.alike hK, hDc, by rw [hU]; exact hXF.go hS hW hAc⟩⟩ rfl hn hl.1 rfl (lv_room hR3) hdg ⟨hce, hsl⟩
  intro T hT X
  obtain ⟨v, st₀, t, T', L, h0, X', hL, e1, e2, ⟨u, hu, hv, hP1, hF⟩, stp⟩ := run T hT X
  cases hv
  obtain ⟨hz, hk⟩ := hF
  rw [h0] at hz hk
  obtain ⟨t2, a1, b1⟩ := k u hu F T'.heap (locs ++ L) ls (by rw [e1]; exact rp_P hP hD hC (hlen u) hk hP1) (va_D.sameA (hadr u) hD)
    ⟨Nat.le_trans hS.1 (by rw [e1]; exact hz), fun q h1 h2 => by rw [e1, hk q (Nat.lt_of_lt_of_le h1 hS.1) (fun z => h2 (hAc q z))]; exact hS.2.1 q h1 h2, fun q hq => by
      rcases List.mem_append.mp hq with h | h
      · exact hS.2.2 q h
      · exact hAc _ (hL q h)⟩ hl T' rfl X'
  exact ⟨t2, stp t2 a1, b1⟩
theorem z_callV {index maxL fr lo n : Nat} {y : MethodName} {bytes : ByteArray} {ret : Option FieldType} {As : List Value} {Wc Wc1 : va_W} {O : Option Value} {b q0 ci : Nat} {fs : List Value} {CT : u_T} {CN : Nat} (hM : Ct l D cI cJ cB cS xa y bytes maxL ret fr lo (.ref b :: As) Wc O Wc1) (ff : MV y bytes maxL ret n) (hlink : Cond.methodLink own index y ∈ gt) (hdg : decode cc pc = .ok (.invokevirtual index, 3)) (he : ws[q0]? = some (b, .inr (ci, fs))) (hci : vwCl[ci]? = some (y.cls, CT, CN)) (is : List Nat) (hnd : va_nd is = true) (hC : is.map (fun i => ws[i]?) = Wc.map some) (hlen : is.length = Wc1.length) (hadr : (rp ws is Wc1).map Prod.fst = ws.map Prod.fst) (hw : rp ws is Wc1 = ws2) (hn : As.length = n) {st0 st2 : List Value} (hst : As.reverse ++ .ref b :: st = st0) (hst2 : O.toList ++ st = st2) (hR : fr + 1 ≤ R.frames ∧ 8 + (maxL + 11) + lo ≤ R.locals ∧ (st.map fun v => v.category).sum ≤ 8) (k : Z p l e R s m args below meth c cells slots Q cc own nL rt D cI cJ cB cS xa A ws2 (lv) (pc + 3) (st2)) : Z p l e R s m args below meth c cells slots Q cc own nL rt D cI cJ cB cS xa A ws (lv) (pc) (st0) :=
  z_callVE hM ff hlink hdg he hci is hnd hC (fun _ => hlen) (fun _ => hadr) hn hst hR (fun _ _ => by rw [hw, hst2]; exact k)
theorem z_callS {index maxL fr lo n : Nat} {y : MethodName} {bytes : ByteArray} {ret : Option FieldType} {As : List Value} {Wc Wc1 : va_W} {O : Option Value} (hM : Ct l D cI cJ cB cS xa y bytes maxL ret fr lo (As) Wc O Wc1) (ff : MS y bytes maxL ret n) (hlink : Cond.methodLink own index y ∈ gt) (hdg : decode cc pc = .ok (.invokestatic index, 3)) (is : List Nat) (hnd : va_nd is = true) (hC : is.map (fun i => ws[i]?) = Wc.map some) (hlen : is.length = Wc1.length) (hadr : (rp ws is Wc1).map Prod.fst = ws.map Prod.fst) (hw : rp ws is Wc1 = ws2) (hn : As.length = n) {st0 st2 : List Value} (hst : As.reverse ++ st = st0) (hst2 : O.toList ++ st = st2) (hR : fr + 1 ≤ R.frames ∧ 8 + (maxL + 11) + lo ≤ R.locals ∧ (st.map fun v => v.category).sum ≤ 8) (k : Z p l e R s m args below meth c cells slots Q cc own nL rt D cI cJ cB cS xa A ws2 (lv) (pc + 3) (st2)) : Z p l e R s m args below meth c cells slots Q cc own nL rt D cI cJ cB cS xa A ws (lv) (pc) (st0) :=
  z_callSE hM ff hlink hdg is hnd hC (fun _ => hlen) (fun _ => hadr) hn hst hR (fun _ _ => by rw [hw, hst2]; exact k)
theorem z_iretE {S : Type} {W0 : va_W} {post : S → Prop} {O : S → Option Value} {W1 : S → va_W} {v : Int32} (hdg : decode cc pc = .ok (.ireturn, 1)) (u : S) (hu : post u) (hO : O u = some (.int v)) (hW : W1 u = ws) : Z p l e R s m args below meth c 0 0 (MQ below (Cq D W0 post O W1) args s 0 0 (va_A0 W0)) cc own nL (some .int) D cI cJ cB cS xa (va_A0 W0) ws lv pc [.int v] := by
  intro F H locs ls hP hD hS hl
  obtain ⟨hx, hb, hml, hown, hts, hK, hlk, hrt, hXF, hce, hsl⟩ := id F
  subst hW
  exact W.iret hx hb hrt (fun t ht hW => ⟨u, hu, by rw [hO], by rw [ht]; exact hP, hS.F ht⟩) hS.2.2 hdg hlk
theorem z_zretE {S : Type} {W0 : va_W} {post : S → Prop} {O : S → Option Value} {W1 : S → va_W} {v : Int32} {ty : FieldType} (hnar : narrow ty (.int v) = .int v) (hdg : decode cc pc = .ok (.ireturn, 1)) (u : S) (hu : post u) (hO : O u = some (.int v)) (hW : W1 u = ws) : Z p l e R s m args below meth c 0 0 (MQ below (Cq D W0 post O W1) args s 0 0 (va_A0 W0)) cc own nL (some ty) D cI cJ cB cS xa (va_A0 W0) ws lv pc [.int v] := by
  intro F H locs ls hP hD hS hl
  obtain ⟨hx, hb, hml, hown, hts, hK, hlk, hrt, hXF, hce, hsl⟩ := id F
  subst hW
  exact W.zret hx hb hrt hnar (fun t ht hW => ⟨u, hu, by rw [hO], by rw [ht]; exact hP, hS.F ht⟩) hS.2.2 hdg hlk
theorem z_lretE {S : Type} {W0 : va_W} {post : S → Prop} {O : S → Option Value} {W1 : S → va_W} {v : Int64} (hdg : decode cc pc = .ok (.lreturn, 1)) (u : S) (hu : post u) (hO : O u = some (.long v)) (hW : W1 u = ws) : Z p l e R s m args below meth c 0 0 (MQ below (Cq D W0 post O W1) args s 0 0 (va_A0 W0)) cc own nL (some .long) D cI cJ cB cS xa (va_A0 W0) ws lv pc [.long v] := by
  intro F H locs ls hP hD hS hl
  obtain ⟨hx, hb, hml, hown, hts, hK, hlk, hrt, hXF, hce, hsl⟩ := id F
  subst hW
  exact W.lret hx hb hrt (fun t ht hW => ⟨u, hu, by rw [hO], by rw [ht]; exact hP, hS.F ht⟩) hS.2.2 hdg hlk
theorem z_vretE {S : Type} {W0 : va_W} {post : S → Prop} {O : S → Option Value} {W1 : S → va_W} (hdg : decode cc pc = .ok (.return_, 1)) (u : S) (hu : post u) (hO : O u = none) (hW : W1 u = ws) : Z p l e R s m args below meth c 0 0 (MQ below (Cq D W0 post O W1) args s 0 0 (va_A0 W0)) cc own nL none D cI cJ cB cS xa (va_A0 W0) ws lv pc [] := by
  intro F H locs ls hP hD hS hl
  obtain ⟨hx, hb, hml, hown, hts, hK, hlk, hrt, hXF, hce, hsl⟩ := id F
  subst hW
  exact W.vret hx hb hrt (fun t ht hW => ⟨u, hu, by rw [hO], by rw [ht]; exact hP, hS.F ht⟩) hS.2.2 hdg hlk
theorem z_aretE {S : Type} {W0 : va_W} {post : S → Prop} {O : S → Option Value} {W1 : S → va_W} {v : Nat} {cn : String} (hdg : decode cc pc = .ok (.areturn, 1)) (u : S) (hu : post u) (hO : O u = some (.ref v)) (hW : W1 u = ws) : Z p l e R s m args below meth c 0 0 (MQ below (Cq D W0 post O W1) args s 0 0 (va_A0 W0)) cc own nL (some (.object cn)) D cI cJ cB cS xa (va_A0 W0) ws lv pc [.ref v] := by
  intro F H locs ls hP hD hS hl
  obtain ⟨hx, hb, hml, hown, hts, hK, hlk, hrt, hXF, hce, hsl⟩ := id F
  subst hW
  exact W.aret hx hb hrt (Or.inl ⟨_, rfl⟩) (Or.inr ⟨_, rfl⟩) (fun t ht hW => ⟨u, hu, by rw [hO], by rw [ht]; exact hP, hS.F ht⟩) hS.2.2 hdg hlk
theorem z_iret {W0 W1 : va_W} {O : Option Value} {v : Int32} (hdg : decode cc pc = .ok (.ireturn, 1)) (hO : O = some (.int v)) (hW : W1 = ws) : Z p l e R s m args below meth c 0 0 (MQ below (Cq (S := Unit) D W0 (fun _ => True) (fun _ => O) (fun _ => W1)) args s 0 0 (va_A0 W0)) cc own nL (some .int) D cI cJ cB cS xa (va_A0 W0) ws lv pc [.int v] := z_iretE hdg () trivial hO hW
theorem z_zret {W0 W1 : va_W} {O : Option Value} {v : Int32} {ty : FieldType} (hnar : narrow ty (.int v) = .int v) (hdg : decode cc pc = .ok (.ireturn, 1)) (hO : O = some (.int v)) (hW : W1 = ws) : Z p l e R s m args below meth c 0 0 (MQ below (Cq (S := Unit) D W0 (fun _ => True) (fun _ => O) (fun _ => W1)) args s 0 0 (va_A0 W0)) cc own nL (some ty) D cI cJ cB cS xa (va_A0 W0) ws lv pc [.int v] := z_zretE hnar hdg () trivial hO hW
theorem z_lret {W0 W1 : va_W} {O : Option Value} {v : Int64} (hdg : decode cc pc = .ok (.lreturn, 1)) (hO : O = some (.long v)) (hW : W1 = ws) : Z p l e R s m args below meth c 0 0 (MQ below (Cq (S := Unit) D W0 (fun _ => True) (fun _ => O) (fun _ => W1)) args s 0 0 (va_A0 W0)) cc own nL (some .long) D cI cJ cB cS xa (va_A0 W0) ws lv pc [.long v] := z_lretE hdg () trivial hO hW
theorem z_vret {W0 W1 : va_W} {O : Option Value} (hdg : decode cc pc = .ok (.return_, 1)) (hO : O = none) (hW : W1 = ws) : Z p l e R s m args below meth c 0 0 (MQ below (Cq (S := Unit) D W0 (fun _ => True) (fun _ => O) (fun _ => W1)) args s 0 0 (va_A0 W0)) cc own nL none D cI cJ cB cS xa (va_A0 W0) ws lv pc [] := z_vretE hdg () trivial hO hW
theorem z_aret {W0 W1 : va_W} {O : Option Value} {v : Nat} {cn : String} (hdg : decode cc pc = .ok (.areturn, 1)) (hO : O = some (.ref v)) (hW : W1 = ws) : Z p l e R s m args below meth c 0 0 (MQ below (Cq (S := Unit) D W0 (fun _ => True) (fun _ => O) (fun _ => W1)) args s 0 0 (va_A0 W0)) cc own nL (some (.object cn)) D cI cJ cB cS xa (va_A0 W0) ws lv pc [.ref v] := z_aretE hdg () trivial hO hW
end ZC
