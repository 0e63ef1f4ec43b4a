theorem getL {w1 w2 : va_W} {k : Nat} {q : Nat × va_E} (h : w1[k]? = some q) : (w1 ++ w2)[k]? = some q := by
  rw [List.getElem?_append_left (List.getElem?_eq_some_iff.mp h).1]; exact h
theorem getR {w1 w2 : va_W} {k : Nat} {q : Nat × va_E} (h : w2[k]? = some q) : (w1 ++ w2)[w1.length + k]? = some q := by
  rw [List.getElem?_append_right (Nat.le_add_right _ _), Nat.add_sub_cancel_left]; exact h
theorem va_P.l {D : va_G} {cl : List vw_C} {w1 w2 : va_W} {H : Heap} (h : va_P D cl (w1 ++ w2) H) : va_P D cl w1 H := fun k q hk => h k q (getL hk)
theorem va_P.r {D : va_G} {cl : List vw_C} {w1 w2 : va_W} {H : Heap} (h : va_P D cl (w1 ++ w2) H) : va_P D cl w2 H := fun k q hk => h _ q (getR hk)
theorem va_D.l {A : Nat → Prop} {w1 w2 : va_W} (h : va_D A (w1 ++ w2)) : va_D A w1 := ⟨fun i j p q hi hj e => h.1 i j p q (getL hi) (getL hj) e, fun k q hk => h.2 k q (getL hk)⟩
theorem va_D.r {A : Nat → Prop} {w1 w2 : va_W} (h : va_D A (w1 ++ w2)) : va_D A w2 := ⟨fun i j p q hi hj e => by have := h.1 _ _ p q (getR hi) (getR hj) e; omega, fun k q hk => h.2 _ q (getR hk)⟩
theorem va_D.x {A : Nat → Prop} {w1 w2 : va_W} (h : va_D A (w1 ++ w2)) : ∀ (i j : Nat) (p q : Nat × va_E), w1[i]? = some p → w2[j]? = some q → p.1 ≠ q.1 := fun i j p q hi hj e => by
  have h1 := h.1 _ _ p q (getL hi) (getR hj) e
  have h2 := (List.getElem?_eq_some_iff.mp hi).1
  omega
theorem va_D.swp {A : Nat → Prop} {w1 w2 : va_W} (h : va_D A (w1 ++ w2)) : va_D A (w2 ++ w1) := va_D.app h.r h.l (fun i j p q hi hj e => h.x j i q p hj hi e.symm)
theorem va_P.swp {D : va_G} {cl : List vw_C} {w1 w2 : va_W} {H : Heap} (h : va_P D cl (w1 ++ w2) H) : va_P D cl (w2 ++ w1) H := va_P.app h.r h.l
/-- behind a call that makes cells: the caller's others, and the callee's world -/
theorem joinN {A : Nat → Prop} {D : va_G} {cl : List vw_C} {wr wc w1 : va_W} {H H1 : Heap} (hP : va_P D cl (wr ++ wc) H) (hD : va_D A (wr ++ wc)) (hk : ∀ q : Nat, q < H.size → ¬ va_A wc H.size q → H1[q]? = H[q]?) (hF : ∀ q, va_A wc H.size q → A q) (hP1 : va_P D cl w1 H1) (hD1 : va_D (va_A wc H.size) w1) : va_P D cl (wr ++ w1) H1 ∧ va_D A (wr ++ w1) := by
  have apart : ∀ (k : Nat) (q : Nat × va_E), wr[k]? = some q → q.1 < H.size ∧ ¬ va_A wc H.size q.1 := by
    intro k q hq
    have hl := (hP.l k q hq).lt
    refine ⟨hl, fun h => ?_⟩
    rcases h with ⟨k2, e, h⟩ | h
    · exact hD.x k k2 q (q.1, e) hq h rfl
    · omega
  refine ⟨va_P.app (fun k q hq => ?_) hP1, va_D.app hD.l (hD1.weaken (fun k q _ h => hF q.1 h)) (fun i j x y hx hy hxy => ?_)⟩
  · obtain ⟨g1, g2⟩ := apart k q hq
    exact (hP.l k q hq).kept (hk q.1 g1 g2)
  · exact (apart i x hx).2 (by rw [hxy]; exact hD1.2 j y hy)
def CpN (D : va_G) (cI cJ cB cS : ClassId) (xa : XA) (av : List Value) (W0 : va_W) (sz : Nat) : Array Value → State → Prop := fun v U => v = av.toArray ∧ U.heap.size = sz ∧ va_P D vwCl W0 U.heap ∧ va_K D vwCl (TY cI cJ cB cS) U ∧ va_D (fun _ => True) W0 ∧ XF xa (va_A W0 sz) U U.heap ∧ va_AO "OwingSwings$Sheet" U
def CqN {S : Type} (D : va_G) (W0 : va_W) (sz : Nat) (W1 : S → va_W) : Array Value → State → Outcome → State → Prop := fun _ st oc t => ∃ u : S, oc = .returned none ∧ va_P D vwCl (W1 u) t.heap ∧ va_D (va_A W0 sz) (W1 u) ∧ va_F (va_A W0 sz) st t
def CtN {S : Type} (l : Launch) (D : va_G) (cI cJ cB cS : ClassId) (xa : XA) (y : MethodName) (cc : ByteArray) (maxL fr lo mc ms : Nat) (av : List Value) (W0 : va_W) (sz : Nat) (W1 : S → va_W) : Prop :=
  Met l y (Cond.code y cc maxL none :: gt) { frames := fr, cells := mc, slots := ms, locals := lo } (CpN D cI cJ cB cS xa av W0 sz) (CqN D W0 sz W1) mc ms (va_A W0 sz)
theorem CpN.blind {D : va_G} {cI cJ cB cS : ClassId} {xa : XA} {av : List Value} {W0 : va_W} {sz : Nat} : FrameBlind (CpN D cI cJ cB cS xa av W0 sz) := fun a U g mk h => by
  obtain ⟨h1, h0, h2, h3, h4, h5, h6⟩ := h
  exact ⟨h1, h0, h2, va_K.moved (u := U) (U := U.calling g mk a) (Vm.Alike.refl U.vm) h3, h4, XF.eq (u := U) (U := U.calling g mk a) rfl h5, va_AO.moved (u := U) (U := U.calling g mk a) (Vm.Alike.refl U.vm) h6⟩
theorem CtN.of {S : Type} {l : Launch} {D : va_G} {cI cJ cB cS : ClassId} {xa : XA} {y : MethodName} {cc : ByteArray} {maxL fr lo mc ms : Nat} {av : List Value} {W0 : va_W} {sz : Nat} {W1 : S → va_W} {own : String} {lv : List (Nat × Value)}
    (hy : plainName y.cls = true) (hown : y.cls = own) (hnm : y.name = "<init>") (hlv : lv_args 0 av = lv) (hlen : (lg_sl av).length ≤ maxL)
    (body : ∀ (p : Program) (e : Env) (s : State) (m : MethodId) (below : List Frame) (meth : Method) (c : Code), (∀ q, s.heap.size ≤ q → va_A W0 sz q) → meth.name = "<init>" → va_AO "OwingSwings$Sheet" s → Z p l e { frames := fr, cells := mc, slots := ms, locals := lo } s m av.toArray below meth c 0 0 (MQ below (CqN D W0 sz W1) av.toArray s mc ms (va_A W0 sz)) cc own maxL none D cI cJ cB cS xa (va_A W0 sz) W0 lv 0 []) :
    CtN l D cI cJ cB cS xa y cc maxL fr lo mc ms av W0 sz W1 := by
  refine Met.ofW (cc := cc) (maxL := maxL) (ret := none) hy rfl ?_
  intro p e s m args below meth c s₁ B hml hv
  obtain ⟨rfl, hsz, hP, hK, hD0, hXF, hAO⟩ := hv
  have hts := atoms_spec (ws := Cond.code y cc maxL none :: gt) B.pre
  have ho : s.vm.findClass own = some m.cls := by rw [← hown]; exact findClass_of_methodNamed B.named
  have hin : meth.name = "<init>" := (name_of_methodNamed B.named B.method).1.trans hnm
  have hl := lv_entry av (n := maxL) hlen
  rw [lg_entry_eq]
  rw [hlv] at hl
  exact body p e s m below meth c (fun q h => Or.inr (by rw [← hsz]; exact h)) hin hAO ⟨B.exec, B.bytes, hml, ho, fun w h => hts w (List.mem_cons_of_mem _ h), hK, B.notSynchronized, B.returns, hXF, Nat.zero_le _, Nat.zero_le _⟩ s.heap [] _ hP hD0.self va_S.rf hl
def FPF (own : String) (index ci k : Nat) (ty : FieldType) : Prop := ∃ (C : String) (T : u_T) (N : Nat) (ty0 : Nat → FieldType), vwCl[ci]? = some (C, T, N) ∧ (∀ w ∈ u_ws C T N, w ∈ gt) ∧ k < N ∧ Cond.fieldLink own index (T k).1 (T k).2.1 (T k).2.2.1 ∈ gt ∧
  (∀ k, k < N → parseFieldDescriptor (T k).2.2.1 = some (ty0 k)) ∧ (∀ a, a < N → ∀ b, b < N → a ≠ b → (T a).2.1 ≠ (T b).2.1) ∧ (T k).2.2.2 = true ∧ parseFieldDescriptor (T k).2.2.1 = some ty ∧ (T k).1 = own
def NW (own : String) (index ci N : Nat) (fs : List Value) : Prop := ∃ (C : String) (T : u_T) (ty : Nat → FieldType), vwCl[ci]? = some (C, T, N) ∧ (∀ w ∈ u_ws C T N, w ∈ gt) ∧ (∀ k, k < N → parseFieldDescriptor (T k).2.2.1 = some (ty k)) ∧ Cond.classLink own index C ∈ gt ∧ Cond.instantiable C N ∈ gt ∧ Cond.initialized C ∈ gt ∧ ∀ j, j < N → defaultValue (ty j) = vp_V fs j
def MI (y : MethodName) (cc : ByteArray) (maxL : Nat) : Prop := Cond.code y cc maxL none ∈ gt ∧ Cond.instanceMethod y ∈ gt ∧ Cond.initialized y.cls ∈ gt ∧ y.name = "<init>" ∧ (y.cls ≠ "java/lang/invoke/MethodHandle" ∧ y.cls ≠ "java/lang/invoke/VarHandle" ∧ (parseMethodDescriptor y.desc).map (fun d => d.parameters.length) = some 0)
def sI (xs : Nat → Int32) (z : Int) : Int := (xs z.toNat).toInt
theorem sI_r (xs : Nat → Int32) (z : Int) : inr (sI xs z) := inr_of _
section ZN
variable {p : Program} {l : Launch} {e : Env} {R : Room} {s : State} {m : MethodId} {args : Array Value} {below : List Frame} {meth : Method} {c : Code} {cells slots : Nat} {Q : State → Prop} {cc : ByteArray} {own : String} {nL : Nat} {rt : Option FieldType} {D : va_G} {cI cJ cB cS : ClassId} {xa : XA} {A : Nat → Prop} {ws ws2 : va_W} {lv lv2 : List (Nat × Value)} {pc : Nat} {st : List Value} {c2 s2 : Nat}
theorem z_swap {w1 w2 : va_W} (k : Z p l e R s m args below meth c cells slots Q cc own nL rt D cI cJ cB cS xa A (w2 ++ w1) (lv) (pc) (st)) : Z p l e R s m args below meth c cells slots Q cc own nL rt D cI cJ cB cS xa A (w1 ++ w2) (lv) (pc) (st) := fun F H locs ls hP hD hS hl => k F H locs ls hP.swp hD.swp hS hl
theorem z_num (h1 : cells ≤ c2) (h2 : slots ≤ s2) (h3 : c2 ≤ R.cells) (h4 : s2 ≤ R.slots) (k : Z p l e R s m args below meth c c2 s2 Q cc own nL rt D cI cJ cB cS xa A (ws) (lv) (pc) (st)) : Z p l e R s m args below meth c cells slots Q cc own nL rt D cI cJ cB cS xa A (ws) (lv) (pc) (st) := by
  intro F H locs ls hP hD hS hl
  obtain ⟨hx, hb, hml, hown, hts, hK, hlk, hrt, hXF, hce, hsl⟩ := id F
  exact W.widen h1 h2 (k ⟨hx, hb, hml, hown, hts, hK, hlk, hrt, hXF, h3, h4⟩ H locs ls hP hD hS hl)
theorem z_objInit {idx a : Nat} (hlink : Cond.methodLink own idx objectInit ∈ gt) (hi : Cond.instanceMethod objectInit ∈ gt) (hc : Cond.code objectInit ⟨#[0xb1]⟩ 1 none ∈ gt) (hdg : decode cc pc = .ok (.invokespecial idx, 3)) (hR : 1 ≤ R.frames ∧ (st.map fun v => v.category).sum + 20 ≤ R.locals) (k : Z p l e R s m args below meth c cells slots Q cc own nL rt D cI cJ cB cS xa A (ws) (lv) (pc + 3) (st)) : Z p l e R s m args below meth c cells slots Q cc own nL rt D cI cJ cB cS xa A (ws) (lv) (pc) (.ref a :: st) := by
  intro F H locs ls hP hD hS hl
  obtain ⟨hx, hb, hml, hown, hts, hK, hlk, hrt, hXF, hce, hsl⟩ := id F
  exact W.objInit hx hb hown (hts _ hlink) (hts _ hi) (hts _ hc) rfl (by rw [hml]; exact hl.1) rfl hdg hR.1 (by have h9 : 2 * (F0 m pc ls (.ref a :: st)).monitorRoom = 0 := rfl; rw [h9]; omega) (k F H locs ls hP hD hS hl)
theorem z_new {ci index N : Nat} {fs : List Value} (f : NW own index ci N fs) (hA : ∀ q, s.heap.size ≤ q → A q) (hdg : decode cc pc = .ok (.new index, 3)) (e1 : cells + 1 = c2) (e2 : slots + N = s2) (hc : c2 ≤ R.cells) (hs : s2 ≤ R.slots) (k : ∀ a : Nat, Z p l e R s m args below meth c c2 s2 Q cc own nL rt D cI cJ cB cS xa A (ws ++ [(a, .inr (ci, fs))]) (lv) (pc + 3) (.ref a :: st)) : Z p l e R s m args below meth c cells slots Q cc own nL rt D cI cJ cB cS xa A (ws) (lv) (pc) (st) := by
  intro F H locs ls hP hD hS hl
  obtain ⟨hx, hb, hml, hown, hts, hK, hlk, hrt, hXF, hce, hsl⟩ := id F
  obtain ⟨C, T, ty, f1, f2, f3, f4, f5, f6, f7⟩ := f
  subst e1
  subst e2
  exact va_new (C := C) (T := T) (N := N) hx hb hts f2 ty f3 hown (hts _ f4) (hts _ f5) (hts _ f6) hK hP hD hS hA f1 f7 hc hs hdg (fun q H1 hP hD hS => k q ⟨hx, hb, hml, hown, hts, hK, hlk, hrt, hXF, hc, hs⟩ H1 locs ls hP hD hS hl)
theorem z_putF {index ci q0 kf a : Nat} {fs : List Value} {v : Value} {ty : FieldType} (f : FPF own index ci kf ty) (hin : meth.name = "<init>") (hdg : decode cc pc = .ok (.putfield index, 3)) (he : ws[q0]? = some (a, .inr (ci, fs))) (hn : narrow ty v = v) (hfit : fits ty v = true) (hl0 : kf < fs.length) (hw : ws.set q0 (a, .inr (ci, fs.set kf v)) = ws2) (k : Z p l e R s m args below meth c cells slots Q cc own nL rt D cI cJ cB cS xa A (ws2) (lv) (pc + 3) (st)) : Z p l e R s m args below meth c cells slots Q cc own nL rt D cI cJ cB cS xa A (ws) (lv) (pc) (v :: .ref a :: st) := by
  intro F H locs ls hP hD hS hl
  obtain ⟨hx, hb, hml, hown, hts, hK, hlk, hrt, hXF, hce, hsl⟩ := id F
  obtain ⟨C, T, N, ty0, hc, hin2, hk, hlink, hty, hnm, hfin, hd, hdecl⟩ := f
  subst hw
  exact va_putF (C := C) (T := T) (N := N) hx hb hts hin2 ty0 hty hnm hown hK hP hD hS q0 he hc kf hk (hts _ hlink) (fun _ h => h) hfin hin hdecl hd hn hfit hl0 hdg (fun H locs hP hD hS => k F H locs ls hP hD hS hl)
theorem z_newaI {n : Nat} {z : Int} {f : Nat → Int32} (ha : Cond.arrayClass .int ∈ gt) (hA : ∀ q, s.heap.size ≤ q → A q) (hdg : decode cc pc = .ok (.newarray .int, 2)) (hz : z = (n : Int)) (hn : n ≤ 1000) (hf : ∀ j, j < n → f j = 0) (e1 : cells + 1 = c2) (e2 : slots + n = s2) (hc : c2 ≤ R.cells) (hs : s2 ≤ R.slots) (k : ∀ a : Nat, Z p l e R s m args below meth c c2 s2 Q cc own nL rt D cI cJ cB cS xa A (ws ++ [(a, .inl (cI, n, .inl f))]) (lv) (pc + 2) (.ref a :: st)) : Z p l e R s m args below meth c cells slots Q cc own nL rt D cI cJ cB cS xa A (ws) (lv) (pc) (.int (iI z) :: st) := by
  intro F H locs ls hP hD hS hl
  obtain ⟨hx, hb, hml, hown, hts, hK, hlk, hrt, hXF, hce, hsl⟩ := id F
  subst e1
  subst e2
  subst hz
  refine va_newa (ty := .int) (a0 := (n, .inl f)) (N' := n) hx hb (atype := .int) (hts _ ha) rfl hK hP hD hS hA (fun cA => (vp_cell_I (f := f) (f2 := fun _ => 0) hf).trans rfl) (fun q => ?_) (iI_clamp (Int.natCast_nonneg n) (by omega)) (Nat.le_trans (Nat.mul_le_mul hn (show componentBytes .int ≤ 8 by decide)) (by decide)) hc hs hdg (fun q cA H1 hK1 hP hD hS => ?_)
  · rw [← iI_0, iI_lt ⟨by omega, by omega⟩ (by decide)] at q; omega
  · have e9 : cA = cI := by
      have h1 : s.vm.findClass ("[" ++ (FieldType.toString .int)) = some cA := (hK1.2 4 (cA, .int) rfl).2
      have h2 : s.vm.findClass ("[" ++ (FieldType.toString .int)) = some cI := (hK.2 0 (cI, .int) rfl).2
      exact Option.some.inj (h1.symm.trans h2)
    subst e9
    exact k q ⟨hx, hb, hml, hown, hts, hK, hlk, hrt, hXF, hc, hs⟩ H1 locs ls hP hD hS hl
theorem z_newaB {n : Nat} {z : Int} {f : Nat → Int32} (ha : Cond.arrayClass .byte ∈ gt) (hA : ∀ q, s.heap.size ≤ q → A q) (hdg : decode cc pc = .ok (.newarray .byte, 2)) (hz : z = (n : Int)) (hn : n ≤ 1000) (hf : ∀ j, j < n → f j = 0) (e1 : cells + 1 = c2) (e2 : slots + n = s2) (hc : c2 ≤ R.cells) (hs : s2 ≤ R.slots) (k : ∀ a : Nat, Z p l e R s m args below meth c c2 s2 Q cc own nL rt D cI cJ cB cS xa A (ws ++ [(a, .inl (cB, n, .inl f))]) (lv) (pc + 2) (.ref a :: st)) : Z p l e R s m args below meth c cells slots Q cc own nL rt D cI cJ cB cS xa A (ws) (lv) (pc) (.int (iI z) :: st) := by
  intro F H locs ls hP hD hS hl
  obtain ⟨hx, hb, hml, hown, hts, hK, hlk, hrt, hXF, hce, hsl⟩ := id F
  subst e1
  subst e2
  subst hz
  refine va_newa (ty := .byte) (a0 := (n, .inl f)) (N' := n) hx hb (atype := .byte) (hts _ ha) rfl hK hP hD hS hA (fun cA => (vp_cell_I (f := f) (f2 := fun _ => 0) hf).trans rfl) (fun q => ?_) (iI_clamp (Int.natCast_nonneg n) (by omega)) (Nat.le_trans (Nat.mul_le_mul hn (show componentBytes .byte ≤ 8 by decide)) (by decide)) hc hs hdg (fun q cA H1 hK1 hP hD hS => ?_)
  · rw [← iI_0, iI_lt ⟨by omega, by omega⟩ (by decide)] at q; omega
  · have e9 : cA = cB := by
      have h1 : s.vm.findClass ("[" ++ (FieldType.toString .byte)) = some cA := (hK1.2 4 (cA, .byte) rfl).2
      have h2 : s.vm.findClass ("[" ++ (FieldType.toString .byte)) = some cB := (hK.2 2 (cB, .byte) rfl).2
      exact Option.some.inj (h1.symm.trans h2)
    subst e9
    exact k q ⟨hx, hb, hml, hown, hts, hK, hlk, hrt, hXF, hc, hs⟩ H1 locs ls hP hD hS hl
theorem z_newaJ {n : Nat} {z : Int} {f : Nat → Int64} (ha : Cond.arrayClass .long ∈ gt) (hA : ∀ q, s.heap.size ≤ q → A q) (hdg : decode cc pc = .ok (.newarray .long, 2)) (hz : z = (n : Int)) (hn : n ≤ 1000) (hf : ∀ j, j < n → f j = 0) (e1 : cells + 1 = c2) (e2 : slots + n = s2) (hc : c2 ≤ R.cells) (hs : s2 ≤ R.slots) (k : ∀ a : Nat, Z p l e R s m args below meth c c2 s2 Q cc own nL rt D cI cJ cB cS xa A (ws ++ [(a, .inl (cJ, n, .inr (.inl f)))]) (lv) (pc + 2) (.ref a :: st)) : Z p l e R s m args below meth c cells slots Q cc own nL rt D cI cJ cB cS xa A (ws) (lv) (pc) (.int (iI z) :: st) := by
  intro F H locs ls hP hD hS hl
  obtain ⟨hx, hb, hml, hown, hts, hK, hlk, hrt, hXF, hce, hsl⟩ := id F
  subst e1
  subst e2
  subst hz
  refine va_newa (ty := .long) (a0 := (n, .inr (.inl f))) (N' := n) hx hb (atype := .long) (hts _ ha) rfl hK hP hD hS hA (fun cA => (vp_cell_L (f := f) (f2 := fun _ => 0) hf).trans rfl) (fun q => ?_) (iI_clamp (Int.natCast_nonneg n) (by omega)) (Nat.le_trans (Nat.mul_le_mul hn (show componentBytes .long ≤ 8 by decide)) (by decide)) hc hs hdg (fun q cA H1 hK1 hP hD hS => ?_)
  · rw [← iI_0, iI_lt ⟨by omega, by omega⟩ (by decide)] at q; omega
  · have e9 : cA = cJ := by
      have h1 : s.vm.findClass ("[" ++ (FieldType.toString .long)) = some cA := (hK1.2 4 (cA, .long) rfl).2
      have h2 : s.vm.findClass ("[" ++ (FieldType.toString .long)) = some cJ := (hK.2 1 (cJ, .long) rfl).2
      exact Option.some.inj (h1.symm.trans h2)
    subst e9
    exact k q ⟨hx, hb, hml, hown, hts, hK, hlk, hrt, hXF, hc, hs⟩ H1 locs ls hP hD hS hl
theorem z_anewS {n index : Nat} {z : Int} (hlink : Cond.classLink own index "OwingSwings$Sheet" ∈ gt) (hAO : va_AO "OwingSwings$Sheet" s) (hA : ∀ q, s.heap.size ≤ q → A q) (hdg : decode cc pc = .ok (.anewarray index, 3)) (hz : z = (n : Int)) (hn : n ≤ 1000) (e1 : cells + 1 = c2) (e2 : slots + n = s2) (hc : c2 ≤ R.cells) (hs : s2 ≤ R.slots) (k : ∀ a : Nat, Z p l e R s m args below meth c c2 s2 Q cc own nL rt D cI cJ cB cS xa A (ws ++ [(a, .inl (cS, n, .inr (.inr (.inr (.inr (fun _ => none))))))]) (lv) (pc + 3) (.ref a :: st)) : Z p l e R s m args below meth c cells slots Q cc own nL rt D cI cJ cB cS xa A (ws) (lv) (pc) (.int (iI z) :: st) := by
  intro F H locs ls hP hD hS hl
  obtain ⟨hx, hb, hml, hown, hts, hK, hlk, hrt, hXF, hce, hsl⟩ := id F
  subst e1
  subst e2
  subst hz
  refine va_newq (N' := n) hx hb hown (hts _ hlink) hAO hK hP hD hS hA (fun q => ?_) (iI_clamp (Int.natCast_nonneg n) (by omega)) (by omega) hc hs hdg (fun q cA H1 hK1 hP hD hS => ?_)
  · rw [← iI_0, iI_lt ⟨by omega, by omega⟩ (by decide)] at q; omega
  · have e9 : cA = cS := by
      obtain ⟨_, _, _, _, _, h1⟩ := (hK1.2 4 (cA, .object "OwingSwings$Sheet") rfl).2
      obtain ⟨_, _, _, _, _, h2⟩ := (hK.2 3 (cS, .object "OwingSwings$Sheet") rfl).2
      exact Option.some.inj (h1.symm.trans h2)
    subst e9
    exact k q ⟨hx, hb, hml, hown, hts, hK, hlk, hrt, hXF, hc, hs⟩ H1 locs ls hP hD hS hl
theorem z_aastS {q0 qk a n v : Nat} {vs : List Value} {f : Nat → Option Nat} {z : Int} (hdg : decode cc pc = .ok (.aastore, 1)) (he : ws[q0]? = some (a, .inl (cS, n, .inr (.inr (.inr (.inr f)))))) (hv : ws[qk]? = some (v, .inr (1, vs))) (hz : 0 ≤ z ∧ z < (n : Int)) (hn : n ≤ 2147483648) (hw : ws.set q0 (a, .inl (cS, n, .inr (.inr (.inr (.inr (va_up f z.toNat (some v))))))) = ws2) (k : Z p l e R s m args below meth c cells slots Q cc own nL rt D cI cJ cB cS xa A (ws2) (lv) (pc + 1) (st)) : Z p l e R s m args below meth c cells slots Q cc own nL rt D cI cJ cB cS xa A (ws) (lv) (pc) (.ref v :: .int (iI z) :: .ref a :: st) := by
  intro F H locs ls hP hD hS hl
  obtain ⟨hx, hb, hml, hown, hts, hK, hlk, hrt, hXF, hce, hsl⟩ := id F
  subst hw
  refine va_astq (r := (RX1, TX1, 3)) hx hb hK hP hD hS q0 3 qk 1 he rfl hv rfl (iI_in hz.1 hz.2 hn) hdg ?_
  rw [iI_clamp hz.1 (by omega)]
  exact fun H locs hP hD hS => k F H locs ls hP hD hS hl
theorem z_callI {S : Type} {index maxL fr lo mc ms b : Nat} {y : MethodName} {bytes : ByteArray} {e0 : va_E} {wr : va_W} {W1 : S → va_W} (hM : ∀ sz : Nat, CtN l D cI cJ cB cS xa y bytes maxL fr lo mc ms [.ref b] [(b, e0)] sz W1) (ff : MI y bytes maxL) (hlink : Cond.methodLink own index y ∈ gt) (hA : ∀ q, s.heap.size ≤ q → A q) (hAO : va_AO "OwingSwings$Sheet" s) (hdg : decode cc pc = .ok (.invokespecial index, 3)) (hR : fr + 1 ≤ R.frames ∧ 8 + (maxL + 11) + lo ≤ R.locals ∧ (st.map fun v => v.category).sum ≤ 8) (e1 : cells + mc = c2) (e2 : slots + ms = s2) (hc : c2 ≤ R.cells) (hs : s2 ≤ R.slots) (k : ∀ u : S, Z p l e R s m args below meth c c2 s2 Q cc own nL rt D cI cJ cB cS xa A (wr ++ W1 u) (lv) (pc + 3) (st)) : Z p l e R s m args below meth c cells slots Q cc own nL rt D cI cJ cB cS xa A (wr ++ [(b, e0)]) (lv) (pc) (.ref b :: st) := by
  intro F H locs ls hP hD hS hl
  obtain ⟨hx, hb, hml, hown, hts, hK, hlk, hrt, hXF, hce, hsl⟩ := id F
  obtain ⟨f1, f2, f3, f4, f5⟩ := ff
  subst e1
  subst e2
  obtain ⟨hR1, hR2, hR3⟩ := hR
  have hFc : ∀ q, va_A [(b, e0)] H.size q → A q := fun q h => by
    rcases h with ⟨k2, e9, h⟩ | h
    · exact hD.r.2 k2 (q, e9) h
    · exact hA q (Nat.le_trans hS.1 h)
  have hcb := callB_of (R := R) (s := s) (args := args) (own := own) (index := index) (y := y) (bytes := bytes) (maxL := maxL) (ret := none) (ws := Cond.code y bytes maxL none :: gt) (rm := { frames := fr, cells := mc, slots := ms, locals := lo }) (mc := mc) (ms := ms) 0 hts (gt_GoodIn f1) rfl rfl rfl (hts _ f3) (hts _ hlink) f5 ⟨hR1, hR2⟩
  have run := va_runI (g := F0 m pc ls (.ref b :: st)) (p := p) (l := l) (e := e) (below := below) (meth := meth) (locs := locs) (cells := cells) (slots := slots) (H := H) (As := []) (rest := st) (b := b) (Ts := gt) ⟨hx, hb, hml, hown, hts⟩ (hM H.size) ⟨hcb, f4, hts _ f2⟩ ⟨CpN.blind, fun U hU hW => ⟨rfl, by rw [hU], by rw [hU]; exact hP.r, va_K.moved hW.alike hK, hD.r.weaken (fun _ _ _ _ => trivial), by rw [hU]; exact hXF.go hS hW hFc, va_AO.moved hW.alike hAO⟩⟩ rfl rfl hl.1 rfl (lv_room hR3) hdg ⟨hc, hs⟩
  intro T hT X
  obtain ⟨v, st₀, t, T', L, h0, X', hL, e1, e2, ⟨u, hv, hP1, hD1, hF⟩, stp⟩ := run T hT X
  cases hv
  obtain ⟨hz, hk⟩ := hF
  rw [h0] at hz hk
  rw [← e1] at hP1 hz hk
  obtain ⟨hP2, hD2⟩ := joinN hP hD hk hFc hP1 hD1
  obtain ⟨t2, a1, b1⟩ := k u ⟨hx, hb, hml, hown, hts, hK, hlk, hrt, hXF, hc, hs⟩ T'.heap (locs ++ L) ls hP2 hD2
    ⟨Nat.le_trans hS.1 hz, fun q h1 h2 => by rw [hk q (Nat.lt_of_lt_of_le h1 hS.1) (fun z => h2 (hFc q z))]; exact hS.2.1 q h1 h2, fun q hq => by
      rcases List.mem_append.mp hq with h | h
      · exact hS.2.2 q h
      · exact hFc _ (hL q h)⟩ hl T' rfl X'
  exact ⟨t2, stp t2 a1, b1⟩
theorem z_vretN {S : Type} {W0 : va_W} {sz : Nat} {W1 : S → va_W} (hdg : decode cc pc = .ok (.return_, 1)) (u : S) (hW : W1 u = ws) : Z p l e R s m args below meth c cells slots (MQ below (CqN D W0 sz W1) args s cells slots (va_A W0 sz)) cc own nL none D cI cJ cB cS xa (va_A W0 sz) ws lv pc [] := by
  intro F H locs ls hP hD hS hl
  obtain ⟨hx, hb, hml, hown, hts, hK, hlk, hrt, hXF, hce, hsl⟩ := id F
  subst hW
  exact W.vret hx hb hrt (fun t ht hW => ⟨u, rfl, by rw [ht]; exact hP, hD, hS.F ht⟩) hS.2.2 hdg hlk
theorem z_sld {b L : Nat} {xs : Nat → Int32} {z : Int} (hX : va_X b L xs s s.heap) (hbl : b < s.heap.size) (hbA : ¬ A b) (hdg : decode cc pc = .ok (.iaload, 1)) (hz : 0 ≤ z ∧ z < (L : Int)) (hL : L ≤ 3072) (k : Z p l e R s m args below meth c cells slots Q cc own nL rt D cI cJ cB cS xa A (ws) (lv) (pc + 1) (.int (iI (sI xs z)) :: st)) : Z p l e R s m args below meth c cells slots Q cc own nL rt D cI cJ cB cS xa A (ws) (lv) (pc) (.int (iI z) :: .ref b :: st) := by
  intro F H locs ls hP hD hS hl
  obtain ⟨hx, hb, hml, hown, hts, hK, hlk, hrt, hXF, hce, hsl⟩ := id F
  refine va_sld hx hb hX hbl hbA hS (iI_in hz.1 hz.2 (by omega)) hdg ?_
  rw [iI_clamp hz.1 (by omega), ← iI_of (xs z.toNat)]
  exact k F H locs ls hP hD hS hl
theorem z_slenL {b L : Nat} {xs : Nat → Int32} (hX : va_X b L xs s s.heap) (hbl : b < s.heap.size) (hbA : ¬ A b) (hdg : decode cc pc = .ok (.arraylength, 1)) (k : Z p l e R s m args below meth c cells slots Q cc own nL rt D cI cJ cB cS xa A (ws) (lv) (pc + 1) (.int (iI (L : Int)) :: st)) : Z p l e R s m args below meth c cells slots Q cc own nL rt D cI cJ cB cS xa A (ws) (lv) (pc) (.ref b :: st) := by
  intro F H locs ls hP hD hS hl
  obtain ⟨hx, hb, hml, hown, hts, hK, hlk, hrt, hXF, hce, hsl⟩ := id F
  refine va_slen hx hb hX hbl hbA hS hdg ?_
  rw [show Int32.ofNat L = iI (L : Int) from (iI_nat L).symm]
  exact k F H locs ls hP hD hS hl
theorem z_same {x : Int32} {off : Int} {tgt : Nat} (hdg : decode cc pc = .ok (.if_icmp .eq off, 3)) (ht : (pc : Int) + off = (tgt : Int)) (k : Z p l e R s m args below meth c cells slots Q cc own nL rt D cI cJ cB cS xa A (ws) (lv) (tgt) (st)) : Z p l e R s m args below meth c cells slots Q cc own nL rt D cI cJ cB cS xa A (ws) (lv) (pc) (.int x :: .int x :: st) := by
  intro F H locs ls hP hD hS hl
  obtain ⟨hx, hb, hml, hown, hts, hK, hlk, hrt, hXF, hce, hsl⟩ := id F
  exact lv_icmp_eq hx hb hdg ht (fun _ => k F H locs ls hP hD hS hl) (fun q => absurd rfl q)
end ZN
