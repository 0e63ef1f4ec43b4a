theorem va_D.sameA {A : Nat → Prop} {ws ws2 : va_W} (h : ws2.map Prod.fst = ws.map Prod.fst) (hD : va_D A ws) : va_D A ws2 := by
  have key : ∀ (k : Nat) (q : Nat × va_E), ws2[k]? = some q → ∃ q0, ws[k]? = some q0 ∧ q0.1 = q.1 := by
    intro k q hk
    have h1 : (ws2.map Prod.fst)[k]? = some q.1 := by rw [List.getElem?_map, hk]; rfl
    rw [h, List.getElem?_map] at h1
    cases h2 : ws[k]? with
    | none => rw [h2] at h1; cases h1
    | some q0 => rw [h2] at h1; exact ⟨q0, rfl, Option.some.inj h1⟩
  refine ⟨fun i j x y hi hj hxy => ?_, fun k q hk => ?_⟩
  · obtain ⟨x0, h1, h2⟩ := key i x hi
    obtain ⟨y0, h3, h4⟩ := key j y hj
    exact hD.1 i j x0 y0 h1 h3 (h2.trans (hxy.trans h4.symm))
  · obtain ⟨q0, h1, h2⟩ := key k q hk
    rw [← h2]
    exact hD.2 k q0 h1
/-! numbers: an int by its Int -/
def iI (z : Int) : Int32 := Int32.ofInt z
abbrev inr (z : Int) : Prop := -2147483648 ≤ z ∧ z < 2147483648
def bI (P : Prop) [Decidable P] : Int32 := if P then iI 1 else iI 0
theorem iI_toInt {z : Int} (h : inr z) : (iI z).toInt = z := by
  unfold iI
  rw [Int32.toInt_ofInt]
  have hsz : (Int32.size : Int) = 4294967296 := rfl
  exact Int.bmod_eq_of_le (by omega) (by omega)
theorem iI_of (x : Int32) : iI x.toInt = x := by
  unfold iI
  exact Int32.ofInt_toInt x
theorem inr_of (x : Int32) : inr x.toInt := ⟨by have := Int32.le_toInt x; omega, by have := Int32.toInt_lt x; omega⟩
theorem iI_add (a b : Int) : iI a + iI b = iI (a + b) := by unfold iI; exact (Int32.ofInt_add a b).symm
theorem iI_sub (a b : Int) : iI a - iI b = iI (a - b) := by unfold iI; exact (Int32.ofInt_sub a b).symm
theorem iI_mul (a b : Int) : iI a * iI b = iI (a * b) := by unfold iI; exact (Int32.ofInt_mul a b).symm
theorem iI_neg (a : Int) : - iI a = iI (-a) := by unfold iI; exact (Int32.ofInt_neg a).symm
theorem iI_lt {a b : Int} (ha : inr a) (hb : inr b) : iI a < iI b ↔ a < b := by rw [Int32.lt_iff_toInt_lt, iI_toInt ha, iI_toInt hb]
theorem iI_le {a b : Int} (ha : inr a) (hb : inr b) : iI a ≤ iI b ↔ a ≤ b := by rw [Int32.le_iff_toInt_le, iI_toInt ha, iI_toInt hb]
theorem iI_eq {a b : Int} (ha : inr a) (hb : inr b) : iI a = iI b ↔ a = b := ⟨fun h => by rw [← iI_toInt ha, h, iI_toInt hb], fun h => by rw [h]⟩
theorem iI_0 : iI 0 = 0 := by decide
theorem iI_nat (n : Nat) : iI (n : Int) = nI n := by first | rfl | (apply Int32.toInt_inj.mp; unfold iI nI; rw [Int32.toInt_ofInt, Int32.toInt_ofNat])
theorem iI_clamp {z : Int} (h : 0 ≤ z) (h2 : z < 2147483648) : (iI z).toNatClampNeg = z.toNat := by
  show (iI z).toInt.toNat = z.toNat
  rw [iI_toInt ⟨by omega, h2⟩]
theorem iI_in {z : Int} {n : Nat} (h : 0 ≤ z) (h2 : z < n) (hn : n ≤ 2147483648) : vp_in (iI z) n := by
  rw [vp_in_iff, iI_toInt ⟨by omega, by omega⟩]; exact ⟨h, h2⟩
theorem iI_div {a b : Int} (ha : 0 ≤ a) (ha2 : a < 2147483648) (hb : 0 < b) (hb2 : b < 2147483648) : iI a / iI b = iI (a / b) := by
  obtain ⟨x, rfl⟩ := Int.eq_ofNat_of_zero_le ha
  obtain ⟨y, rfl⟩ := Int.eq_ofNat_of_zero_le (Int.le_of_lt hb)
  rw [iI_nat, iI_nat, pk_div (by omega) (by omega) (by omega), ← iI_nat]; rfl
theorem iI_rem {a b : Int} (ha : 0 ≤ a) (ha2 : a < 2147483648) (hb : 0 < b) (hb2 : b < 2147483648) : iI a - iI a / iI b * iI b = iI (a % b) := by
  obtain ⟨x, rfl⟩ := Int.eq_ofNat_of_zero_le ha
  obtain ⟨y, rfl⟩ := Int.eq_ofNat_of_zero_le (Int.le_of_lt hb)
  rw [iI_nat, iI_nat, pk_rem (by omega) (by omega) (by omega), ← iI_nat]; rfl
theorem bI_t {P : Prop} [Decidable P] (h : P) : bI P = iI 1 := by unfold bI; rw [if_pos h]
theorem bI_f {P : Prop} [Decidable P] (h : ¬ P) : bI P = iI 0 := by unfold bI; rw [if_neg h]
theorem bI_t' {P : Prop} [Decidable P] (h : P) : iI 1 = bI P := (bI_t h).symm
theorem bI_f' {P : Prop} [Decidable P] (h : ¬ P) : iI 0 = bI P := (bI_f h).symm
theorem bI_c {P P2 : Prop} [Decidable P] [Decidable P2] (h : P ↔ P2) : bI P = bI P2 := by
  by_cases q : P
  · rw [bI_t q, bI_t (h.mp q)]
  · rw [bI_f q, bI_f (fun z => q (h.mpr z))]
theorem bI_n0 {P : Prop} [Decidable P] : bI P = 0 ↔ ¬ P := by
  by_cases q : P
  · rw [bI_t q]; exact ⟨fun h => absurd h (by decide), fun h => absurd q h⟩
  · rw [bI_f q]; exact ⟨fun _ => q, fun _ => iI_0⟩
theorem bI_nar (P : Prop) [Decidable P] : narrow .boolean (.int (bI P)) = .int (bI P) := by
  by_cases q : P
  · rw [bI_t q]; decide
  · rw [bI_f q]; decide
theorem bI_fit (P : Prop) [Decidable P] : fits .boolean (.int (bI P)) = true := by
  by_cases q : P
  · rw [bI_t q]; decide
  · rw [bI_f q]; decide
/-! the words that stay -/
def gt : List Cond := lw_tbl.filter goodWord
theorem gt_in {w : Cond} (h : w ∈ lw_tbl) (g : goodWord w = true) : w ∈ gt := List.mem_filter.mpr ⟨h, g⟩
theorem gt_at (i : Nat) {w : Cond} (h : lw_tbl[i]? = some w) (g : goodWord w = true) : w ∈ gt := gt_in (List.mem_of_getElem? h) g
theorem gt_good {w : Cond} (h : w ∈ gt) : (w.onTables && w.keeps) = true ∨ ∃ ty, w = .arrayClass ty := good_of_word (List.mem_filter.mp h).2
theorem gt_GoodIn {w : Cond} (h : w ∈ gt) : GoodIn gt (w :: gt) := fun x hx => by
  rcases List.mem_cons.mp hx with rfl | hx
  · exact ⟨h, gt_good h⟩
  · exact ⟨hx, gt_good hx⟩
/-! what lies outside: statics and texts -/
def xsI : List Nat := [38, 47, 103, 105, 107, 109, 111, 113, 84, 94]
def xsT : List String := ["push", "dark", "big", "small", "kind", "queen", "baby", "child", "high", "marbles"]
def xsL : List Nat := [4, 4, 3, 5, 4, 5, 4, 5, 4, 7]
def xsB : List (List Int32) := [[112, 117, 115, 104], [100, 97, 114, 107], [98, 105, 103], [115, 109, 97, 108, 108], [107, 105, 110, 100], [113, 117, 101, 101, 110], [98, 97, 98, 121], [99, 104, 105, 108, 100], [104, 105, 103, 104], [109, 97, 114, 98, 108, 101, 115]]
abbrev XA : Type := Nat × (Nat → Nat) × (Nat → Nat)
def xKA : Nat → Value := fun j => .int (([-1, 0, 0, 0, 1, 2] : List Int32).getD j 0)
def XF (xa : XA) (A : Nat → Prop) (U : State) (H : Heap) : Prop :=
  va_Z "OwingSwings$Ground" "KIND_ABOVE" "[I" (.ref xa.1) A U H ∧ va_T .int xa.1 6 xKA A U H ∧ vk_S 10 xsL xsB xa.2.1 xa.2.2 A U H ∧ (∀ i : Nat, i < 10 → vk_R "OwingSwings$Tape" (xsI.getD i 0) (xsT.getD i "") (xa.2.1 i) U) ∧ va_Z "java/lang/String" "COMPACT_STRINGS" "Z" (.int 1) A U H ∧ va_Zq "jdk/internal/util/Preconditions" "SIOOBE_FORMATTER" "Ljava/util/function/BiFunction;" A U H
theorem XF.go {xa : XA} {A B : Nat → Prop} {s U : State} {H : Heap} {locs : List Loc} (h : XF xa A s s.heap) (hS : va_S A s.heap H locs) (hW : s.WarmedH U.vm) (hAB : ∀ q, B q → A q) : XF xa B U H :=
  ⟨((h.1.moved hW.alike).kept hS.2.1).narrow hAB, ((h.2.1.moved hW.alike).kept hS.2.1).narrow hAB, ((h.2.2.1.moved hW.alike).kept hS.2.1).narrow hAB, fun i hi => (h.2.2.2.1 i hi).warm hW, ((h.2.2.2.2.1.moved hW.alike).kept hS.2.1).narrow hAB, ((h.2.2.2.2.2.moved hW.alike).kept hS.2.1).narrow hAB⟩
theorem XF.eq {xa : XA} {A : Nat → Prop} {u U : State} {H : Heap} (hv : U.vm = u.vm) (h : XF xa A u H) : XF xa A U H := by
  have al : u.vm.Alike U.vm := by rw [hv]; exact Vm.Alike.refl u.vm
  exact ⟨h.1.moved al, h.2.1.moved al, h.2.2.1.moved al, fun i hi => vk_R.same hv (h.2.2.2.1 i hi), h.2.2.2.2.1.moved al, h.2.2.2.2.2.moved al⟩
abbrev TY (cI cJ cB cS : ClassId) : List (ClassId × FieldType) := [(cI, .int), (cJ, .long), (cB, .byte), (cS, .object "OwingSwings$Sheet")]
/-! the calculus -/
def Fx (p : Program) (R : Room) (s : State) (m : MethodId) (args : Array Value) (meth : Method) (c : Code) (cells slots : Nat) (cc : ByteArray) (own : String) (nL : Nat) (rt : Option FieldType) (D : va_G) (cI cJ cB cS : ClassId) (xa : XA) (A : Nat → Prop) : Prop :=
  p.tables.exec = Jvm.exec ∧ c.code = cc ∧ c.maxLocals = nL ∧ s.vm.findClass own = some m.cls ∧ (∀ w ∈ gt, w.before args s = true) ∧ va_K D vwCl (TY cI cJ cB cS) s ∧ meth.locks = false ∧ meth.sig.returnType = rt ∧ XF xa A s s.heap ∧ cells ≤ R.cells ∧ slots ≤ R.slots
def Z (p : Program) (l : Launch) (e : Env) (R : Room) (s : State) (m : MethodId) (args : Array Value) (below : List Frame) (meth : Method) (c : Code) (cells slots : Nat) (Q : State → Prop) (cc : ByteArray) (own : String) (nL : Nat) (rt : Option FieldType) (D : va_G) (cI cJ cB cS : ClassId) (xa : XA) (A : Nat → Prop) (ws : va_W) (lv : List (Nat × Value)) (pc : Nat) (st : List Value) : Prop :=
  Fx p R s m args meth c cells slots cc own nL rt D cI cJ cB cS xa A → ∀ (H : Heap) (locs : List Loc) (ls : Array Slot), va_P D vwCl ws H → va_D A ws → va_S A s.heap H locs → lv_has ls nL lv → W p l e R s m args below meth c H locs cells slots Q (F0 m pc ls st)
section ZK
variable {p : Program} {l : Launch} {e : Env} {R : Room} {s : State} {m : MethodId} {args : Array Value} {below : List Frame} {meth : Method} {c : Code} {cells slots : Nat} {Q : State → Prop} {cc : ByteArray} {own : String} {nL : Nat} {rt : Option FieldType} {D : va_G} {cI cJ cB cS : ClassId} {xa : XA} {A : Nat → Prop} {ws ws2 : va_W} {lv lv2 : List (Nat × Value)} {pc : Nat} {st : List Value}
theorem z_iconst {n : Int} (hdg : decode cc pc = .ok (.iconst n, 1)) (k : Z p l e R s m args below meth c cells slots Q cc own nL rt D cI cJ cB cS xa A ws (lv) (pc + 1) (.int (iI n) :: st)) : Z p l e R s m args below meth c cells slots Q cc own nL rt D cI cJ cB cS xa A ws (lv) (pc) (st) := by
  intro F H locs ls hP hD hS hl
  obtain ⟨hx, hb, hml, hown, hts, hK, hlk, hrt, hXF, hce, hsl⟩ := id F
  exact lv_iconst hx hb hdg rfl (k F H locs ls hP hD hS hl)
theorem z_bipush {n : Int} (hdg : decode cc pc = .ok (.bipush n, 2)) (hv : (Int8.ofInt n).toInt32 = iI n) (k : Z p l e R s m args below meth c cells slots Q cc own nL rt D cI cJ cB cS xa A ws (lv) (pc + 2) (.int (iI n) :: st)) : Z p l e R s m args below meth c cells slots Q cc own nL rt D cI cJ cB cS xa A ws (lv) (pc) (st) := by
  intro F H locs ls hP hD hS hl
  obtain ⟨hx, hb, hml, hown, hts, hK, hlk, hrt, hXF, hce, hsl⟩ := id F
  exact lv_bipush hx hb hdg hv (k F H locs ls hP hD hS hl)
theorem z_sipush {n : Int} (hdg : decode cc pc = .ok (.sipush n, 3)) (hv : (Int16.ofInt n).toInt32 = iI n) (k : Z p l e R s m args below meth c cells slots Q cc own nL rt D cI cJ cB cS xa A ws (lv) (pc + 3) (.int (iI n) :: st)) : Z p l e R s m args below meth c cells slots Q cc own nL rt D cI cJ cB cS xa A ws (lv) (pc) (st) := by
  intro F H locs ls hP hD hS hl
  obtain ⟨hx, hb, hml, hown, hts, hK, hlk, hrt, hXF, hce, hsl⟩ := id F
  exact lv_sipush hx hb hdg hv (k F H locs ls hP hD hS hl)
theorem z_ldc {index : Nat} {v : Int32} {n : Int} (hc : Cond.constant own index v ∈ gt) (hdg : decode cc pc = .ok (.ldc index, 2)) (hv : v = iI n) (k : Z p l e R s m args below meth c cells slots Q cc own nL rt D cI cJ cB cS xa A ws (lv) (pc + 2) (.int (iI n) :: st)) : Z p l e R s m args below meth c cells slots Q cc own nL rt D cI cJ cB cS xa A ws (lv) (pc) (st) := by
  intro F H locs ls hP hD hS hl
  obtain ⟨hx, hb, hml, hown, hts, hK, hlk, hrt, hXF, hce, hsl⟩ := id F
  subst hv
  exact lv_ldc hx hb hown (hts _ hc) hdg (k F H locs ls hP hD hS hl)
theorem z_ldc2 {index : Nat} {v : Int64} (hc : Cond.constantLong own index v ∈ gt) (hdg : decode cc pc = .ok (.ldc2_w index, 3)) (k : Z p l e R s m args below meth c cells slots Q cc own nL rt D cI cJ cB cS xa A ws (lv) (pc + 3) (.long v :: st)) : Z p l e R s m args below meth c cells slots Q cc own nL rt D cI cJ cB cS xa A ws (lv) (pc) (st) := by
  intro F H locs ls hP hD hS hl
  obtain ⟨hx, hb, hml, hown, hts, hK, hlk, hrt, hXF, hce, hsl⟩ := id F
  exact lv_ldc2 hx hb hown (hts _ hc) hdg (k F H locs ls hP hD hS hl)
theorem z_lconst {n : Fin 2} {v : Int64} (hdg : decode cc pc = .ok (.lconst n, 1)) (hv : Int64.ofNat (n : Nat) = v) (k : Z p l e R s m args below meth c cells slots Q cc own nL rt D cI cJ cB cS xa A ws (lv) (pc + 1) (.long v :: st)) : Z p l e R s m args below meth c cells slots Q cc own nL rt D cI cJ cB cS xa A ws (lv) (pc) (st) := by
  intro F H locs ls hP hD hS hl
  obtain ⟨hx, hb, hml, hown, hts, hK, hlk, hrt, hXF, hce, hsl⟩ := id F
  exact lv_lconst hx hb hdg hv (k F H locs ls hP hD hS hl)
theorem z_iload_n {kk : Fin 4} {x : Int32} (hdg : decode cc pc = .ok (.iload_n kk, 1)) (j : Nat) (hj : lv[j]? = some ((kk : Nat), .int x)) (k : Z p l e R s m args below meth c cells slots Q cc own nL rt D cI cJ cB cS xa A ws (lv) (pc + 1) (.int x :: st)) : Z p l e R s m args below meth c cells slots Q cc own nL rt D cI cJ cB cS xa A ws (lv) (pc) (st) := by
  intro F H locs ls hP hD hS hl
  obtain ⟨hx, hb, hml, hown, hts, hK, hlk, hrt, hXF, hce, hsl⟩ := id F
  exact lv_iload_n hx hb hdg rfl (lv_at hl j hj) (k F H locs ls hP hD hS hl)
theorem z_iload {i : Nat} {x : Int32} (hdg : decode cc pc = .ok (.iload i, 2)) (j : Nat) (hj : lv[j]? = some (i, .int x)) (k : Z p l e R s m args below meth c cells slots Q cc own nL rt D cI cJ cB cS xa A ws (lv) (pc + 2) (.int x :: st)) : Z p l e R s m args below meth c cells slots Q cc own nL rt D cI cJ cB cS xa A ws (lv) (pc) (st) := by
  intro F H locs ls hP hD hS hl
  obtain ⟨hx, hb, hml, hown, hts, hK, hlk, hrt, hXF, hce, hsl⟩ := id F
  exact lv_iload hx hb hdg (lv_at hl j hj) (k F H locs ls hP hD hS hl)
theorem z_istore_n {kk : Fin 4} {i : Nat} {x : Int32} (hdg : decode cc pc = .ok (.istore_n kk, 1)) (hi : (kk : Nat) = i) (hn : i < nL) (hl2 : (i, Value.int x) :: lv.filter (fun q => !(q.1 == i) && !(q.1 + 1 == i && q.2.category == 2)) = lv2) (k : Z p l e R s m args below meth c cells slots Q cc own nL rt D cI cJ cB cS xa A ws (lv2) (pc + 1) (st)) : Z p l e R s m args below meth c cells slots Q cc own nL rt D cI cJ cB cS xa A ws (lv) (pc) (.int x :: st) := by
  intro F H locs ls hP hD hS hl
  obtain ⟨hx, hb, hml, hown, hts, hK, hlk, hrt, hXF, hce, hsl⟩ := id F
  exact lv_istore_n hx hb hdg hi hl hn hl2 (fun ls hl => k F H locs ls hP hD hS hl)
theorem z_istore {i : Nat} {x : Int32} (hdg : decode cc pc = .ok (.istore i, 2)) (hn : i < nL) (hl2 : (i, Value.int x) :: lv.filter (fun q => !(q.1 == i) && !(q.1 + 1 == i && q.2.category == 2)) = lv2) (k : Z p l e R s m args below meth c cells slots Q cc own nL rt D cI cJ cB cS xa A ws (lv2) (pc + 2) (st)) : Z p l e R s m args below meth c cells slots Q cc own nL rt D cI cJ cB cS xa A ws (lv) (pc) (.int x :: st) := by
  intro F H locs ls hP hD hS hl
  obtain ⟨hx, hb, hml, hown, hts, hK, hlk, hrt, hXF, hce, hsl⟩ := id F
  exact lv_istore hx hb hdg hl hn hl2 (fun ls hl => k F H locs ls hP hD hS hl)
theorem z_aload_n {kk : Fin 4} {x : Nat} (hdg : decode cc pc = .ok (.aload_n kk, 1)) (j : Nat) (hj : lv[j]? = some ((kk : Nat), .ref x)) (k : Z p l e R s m args below meth c cells slots Q cc own nL rt D cI cJ cB cS xa A ws (lv) (pc + 1) (.ref x :: st)) : Z p l e R s m args below meth c cells slots Q cc own nL rt D cI cJ cB cS xa A ws (lv) (pc) (st) := by
  intro F H locs ls hP hD hS hl
  obtain ⟨hx, hb, hml, hown, hts, hK, hlk, hrt, hXF, hce, hsl⟩ := id F
  exact lv_aload_n hx hb hdg rfl (lv_at hl j hj) (k F H locs ls hP hD hS hl)
theorem z_aload {i : Nat} {x : Nat} (hdg : decode cc pc = .ok (.aload i, 2)) (j : Nat) (hj : lv[j]? = some (i, .ref x)) (k : Z p l e R s m args below meth c cells slots Q cc own nL rt D cI cJ cB cS xa A ws (lv) (pc + 2) (.ref x :: st)) : Z p l e R s m args below meth c cells slots Q cc own nL rt D cI cJ cB cS xa A ws (lv) (pc) (st) := by
  intro F H locs ls hP hD hS hl
  obtain ⟨hx, hb, hml, hown, hts, hK, hlk, hrt, hXF, hce, hsl⟩ := id F
  exact lv_aload hx hb hdg (lv_at hl j hj) (k F H locs ls hP hD hS hl)
theorem z_astore_n {kk : Fin 4} {i : Nat} {x : Nat} (hdg : decode cc pc = .ok (.astore_n kk, 1)) (hi : (kk : Nat) = i) (hn : i < nL) (hl2 : (i, Value.ref x) :: lv.filter (fun q => !(q.1 == i) && !(q.1 + 1 == i && q.2.category == 2)) = lv2) (k : Z p l e R s m args below meth c cells slots Q cc own nL rt D cI cJ cB cS xa A ws (lv2) (pc + 1) (st)) : Z p l e R s m args below meth c cells slots Q cc own nL rt D cI cJ cB cS xa A ws (lv) (pc) (.ref x :: st) := by
  intro F H locs ls hP hD hS hl
  obtain ⟨hx, hb, hml, hown, hts, hK, hlk, hrt, hXF, hce, hsl⟩ := id F
  exact lv_astore_n hx hb hdg hi hl hn hl2 (fun ls hl => k F H locs ls hP hD hS hl)
theorem z_astore {i : Nat} {x : Nat} (hdg : decode cc pc = .ok (.astore i, 2)) (hn : i < nL) (hl2 : (i, Value.ref x) :: lv.filter (fun q => !(q.1 == i) && !(q.1 + 1 == i && q.2.category == 2)) = lv2) (k : Z p l e R s m args below meth c cells slots Q cc own nL rt D cI cJ cB cS xa A ws (lv2) (pc + 2) (st)) : Z p l e R s m args below meth c cells slots Q cc own nL rt D cI cJ cB cS xa A ws (lv) (pc) (.ref x :: st) := by
  intro F H locs ls hP hD hS hl
  obtain ⟨hx, hb, hml, hown, hts, hK, hlk, hrt, hXF, hce, hsl⟩ := id F
  exact lv_astore hx hb hdg hl hn hl2 (fun ls hl => k F H locs ls hP hD hS hl)
theorem z_lload_n {kk : Fin 4} {x : Int64} (hdg : decode cc pc = .ok (.lload_n kk, 1)) (j : Nat) (hj : lv[j]? = some ((kk : Nat), .long x)) (k : Z p l e R s m args below meth c cells slots Q cc own nL rt D cI cJ cB cS xa A ws (lv) (pc + 1) (.long x :: st)) : Z p l e R s m args below meth c cells slots Q cc own nL rt D cI cJ cB cS xa A ws (lv) (pc) (st) := by
  intro F H locs ls hP hD hS hl
  obtain ⟨hx, hb, hml, hown, hts, hK, hlk, hrt, hXF, hce, hsl⟩ := id F
  exact lv_lload_n hx hb hdg rfl (lv_at hl j hj) (k F H locs ls hP hD hS hl)
theorem z_lload {i : Nat} {x : Int64} (hdg : decode cc pc = .ok (.lload i, 2)) (j : Nat) (hj : lv[j]? = some (i, .long x)) (k : Z p l e R s m args below meth c cells slots Q cc own nL rt D cI cJ cB cS xa A ws (lv) (pc + 2) (.long x :: st)) : Z p l e R s m args below meth c cells slots Q cc own nL rt D cI cJ cB cS xa A ws (lv) (pc) (st) := by
  intro F H locs ls hP hD hS hl
  obtain ⟨hx, hb, hml, hown, hts, hK, hlk, hrt, hXF, hce, hsl⟩ := id F
  exact lv_lload hx hb hdg (lv_at hl j hj) (k F H locs ls hP hD hS hl)
theorem z_lstore_n {kk : Fin 4} {i : Nat} {x : Int64} (hdg : decode cc pc = .ok (.lstore_n kk, 1)) (hi : (kk : Nat) = i) (hn : i + 1 < nL) (hl2 : (i, Value.long x) :: lv.filter (fun q => !(q.1 == i) && (!(q.1 == i + 1) && !(q.1 + 1 == i && q.2.category == 2))) = lv2) (k : Z p l e R s m args below meth c cells slots Q cc own nL rt D cI cJ cB cS xa A ws (lv2) (pc + 1) (st)) : Z p l e R s m args below meth c cells slots Q cc own nL rt D cI cJ cB cS xa A ws (lv) (pc) (.long x :: st) := by
  intro F H locs ls hP hD hS hl
  obtain ⟨hx, hb, hml, hown, hts, hK, hlk, hrt, hXF, hce, hsl⟩ := id F
  exact lv_lstore_n hx hb hdg hi hl hn hl2 (fun ls hl => k F H locs ls hP hD hS hl)
theorem z_lstore {i : Nat} {x : Int64} (hdg : decode cc pc = .ok (.lstore i, 2)) (hn : i + 1 < nL) (hl2 : (i, Value.long x) :: lv.filter (fun q => !(q.1 == i) && (!(q.1 == i + 1) && !(q.1 + 1 == i && q.2.category == 2))) = lv2) (k : Z p l e R s m args below meth c cells slots Q cc own nL rt D cI cJ cB cS xa A ws (lv2) (pc + 2) (st)) : Z p l e R s m args below meth c cells slots Q cc own nL rt D cI cJ cB cS xa A ws (lv) (pc) (.long x :: st) := by
  intro F H locs ls hP hD hS hl
  obtain ⟨hx, hb, hml, hown, hts, hK, hlk, hrt, hXF, hce, hsl⟩ := id F
  exact lv_lstore hx hb hdg hl hn hl2 (fun ls hl => k F H locs ls hP hD hS hl)
theorem z_iinc {i : Nat} {n x : Int} (hdg : decode cc pc = .ok (.iinc i n, 3)) (j : Nat) (hj : lv[j]? = some (i, .int (iI x))) (hn : i < nL) (hl2 : (i, Value.int (iI (x + n))) :: lv.filter (fun q => !(q.1 == i) && !(q.1 + 1 == i && q.2.category == 2)) = lv2) (k : Z p l e R s m args below meth c cells slots Q cc own nL rt D cI cJ cB cS xa A ws (lv2) (pc + 3) (st)) : Z p l e R s m args below meth c cells slots Q cc own nL rt D cI cJ cB cS xa A ws (lv) (pc) (st) := by
  intro F H locs ls hP hD hS hl
  obtain ⟨hx, hb, hml, hown, hts, hK, hlk, hrt, hXF, hce, hsl⟩ := id F
  exact lv_iinc hx hb hdg hl hj (iI_add x n) hn hl2 (fun ls hl => k F H locs ls hP hD hS hl)
theorem z_lv (ks : List Nat) (h : lv_pick lv ks = lv2) (k : Z p l e R s m args below meth c cells slots Q cc own nL rt D cI cJ cB cS xa A ws (lv2) (pc) (st)) : Z p l e R s m args below meth c cells slots Q cc own nL rt D cI cJ cB cS xa A ws (lv) (pc) (st) := fun F H locs ls hP hD hS hl => k F H locs ls hP hD hS (lv_sub hl ks h)
theorem z_st {st2 : List Value} (h : st2 = st) (k : Z p l e R s m args below meth c cells slots Q cc own nL rt D cI cJ cB cS xa A ws (lv) (pc) (st2)) : Z p l e R s m args below meth c cells slots Q cc own nL rt D cI cJ cB cS xa A ws (lv) (pc) (st) := h ▸ k
theorem z_ws (h : ws2 = ws) (k : Z p l e R s m args below meth c cells slots Q cc own nL rt D cI cJ cB cS xa A ws2 (lv) (pc) (st)) : Z p l e R s m args below meth c cells slots Q cc own nL rt D cI cJ cB cS xa A ws (lv) (pc) (st) := h ▸ k
theorem z_wsP (h : ∀ H, va_P D vwCl ws H → va_P D vwCl ws2 H) (h2 : ws2.map Prod.fst = ws.map Prod.fst) (k : Z p l e R s m args below meth c cells slots Q cc own nL rt D cI cJ cB cS xa A ws2 (lv) (pc) (st)) : Z p l e R s m args below meth c cells slots Q cc own nL rt D cI cJ cB cS xa A ws (lv) (pc) (st) := fun F H locs ls hP hD hS hl => k F H locs ls (h H hP) (va_D.sameA h2 hD) hS hl
theorem z_iadd {x y : Int} (hdg : decode cc pc = .ok (.iadd, 1)) (k : Z p l e R s m args below meth c cells slots Q cc own nL rt D cI cJ cB cS xa A ws (lv) (pc + 1) (.int (iI (x + y)) :: st)) : Z p l e R s m args below meth c cells slots Q cc own nL rt D cI cJ cB cS xa A ws (lv) (pc) (.int (iI y) :: .int (iI x) :: st) := by
  intro F H locs ls hP hD hS hl
  obtain ⟨hx, hb, hml, hown, hts, hK, hlk, hrt, hXF, hce, hsl⟩ := id F
  refine lv_iadd hx hb hdg ?_
  rw [iI_add]
  exact k F H locs ls hP hD hS hl
theorem z_isub {x y : Int} (hdg : decode cc pc = .ok (.isub, 1)) (k : Z p l e R s m args below meth c cells slots Q cc own nL rt D cI cJ cB cS xa A ws (lv) (pc + 1) (.int (iI (x - y)) :: st)) : Z p l e R s m args below meth c cells slots Q cc own nL rt D cI cJ cB cS xa A ws (lv) (pc) (.int (iI y) :: .int (iI x) :: st) := by
  intro F H locs ls hP hD hS hl
  obtain ⟨hx, hb, hml, hown, hts, hK, hlk, hrt, hXF, hce, hsl⟩ := id F
  refine lv_isub hx hb hdg ?_
  rw [iI_sub]
  exact k F H locs ls hP hD hS hl
theorem z_imul {x y : Int} (hdg : decode cc pc = .ok (.imul, 1)) (k : Z p l e R s m args below meth c cells slots Q cc own nL rt D cI cJ cB cS xa A ws (lv) (pc + 1) (.int (iI (x * y)) :: st)) : Z p l e R s m args below meth c cells slots Q cc own nL rt D cI cJ cB cS xa A ws (lv) (pc) (.int (iI y) :: .int (iI x) :: st) := by
  intro F H locs ls hP hD hS hl
  obtain ⟨hx, hb, hml, hown, hts, hK, hlk, hrt, hXF, hce, hsl⟩ := id F
  refine lv_imul hx hb hdg ?_
  rw [iI_mul]
  exact k F H locs ls hP hD hS hl
theorem z_idiv {x y : Int} (hdg : decode cc pc = .ok (.idiv, 1)) (h : 0 ≤ x ∧ x < 2147483648 ∧ 0 < y ∧ y < 2147483648) (k : Z p l e R s m args below meth c cells slots Q cc own nL rt D cI cJ cB cS xa A ws (lv) (pc + 1) (.int (iI (x / y)) :: st)) : Z p l e R s m args below meth c cells slots Q cc own nL rt D cI cJ cB cS xa A ws (lv) (pc) (.int (iI y) :: .int (iI x) :: st) := by
  intro F H locs ls hP hD hS hl
  obtain ⟨hx, hb, hml, hown, hts, hK, hlk, hrt, hXF, hce, hsl⟩ := id F
  refine lv_idiv hx hb hdg (fun q => ?_) ?_
  · rw [← iI_0, iI_eq (by omega) (by omega)] at q; omega
  · rw [iI_div h.1 h.2.1 h.2.2.1 h.2.2.2]; exact k F H locs ls hP hD hS hl
theorem z_irem {x y : Int} (hdg : decode cc pc = .ok (.irem, 1)) (h : 0 ≤ x ∧ x < 2147483648 ∧ 0 < y ∧ y < 2147483648) (k : Z p l e R s m args below meth c cells slots Q cc own nL rt D cI cJ cB cS xa A ws (lv) (pc + 1) (.int (iI (x % y)) :: st)) : Z p l e R s m args below meth c cells slots Q cc own nL rt D cI cJ cB cS xa A ws (lv) (pc) (.int (iI y) :: .int (iI x) :: st) := by
  intro F H locs ls hP hD hS hl
  obtain ⟨hx, hb, hml, hown, hts, hK, hlk, hrt, hXF, hce, hsl⟩ := id F
  refine lv_irem hx hb hdg (fun q => ?_) ?_
  · rw [← iI_0, iI_eq (by omega) (by omega)] at q; omega
  · rw [iI_rem h.1 h.2.1 h.2.2.1 h.2.2.2]; exact k F H locs ls hP hD hS hl
theorem z_ineg {x : Int} (hdg : decode cc pc = .ok (.ineg, 1)) (k : Z p l e R s m args below meth c cells slots Q cc own nL rt D cI cJ cB cS xa A ws (lv) (pc + 1) (.int (iI (-x)) :: st)) : Z p l e R s m args below meth c cells slots Q cc own nL rt D cI cJ cB cS xa A ws (lv) (pc) (.int (iI x) :: st) := by
  intro F H locs ls hP hD hS hl
  obtain ⟨hx, hb, hml, hown, hts, hK, hlk, hrt, hXF, hce, hsl⟩ := id F
  refine lv_ineg hx hb hdg ?_
  rw [iI_neg]
  exact k F H locs ls hP hD hS hl
theorem z_ior {x y : Int32} (hdg : decode cc pc = .ok (.ior, 1)) (k : Z p l e R s m args below meth c cells slots Q cc own nL rt D cI cJ cB cS xa A ws (lv) (pc + 1) (.int (x ||| y) :: st)) : Z p l e R s m args below meth c cells slots Q cc own nL rt D cI cJ cB cS xa A ws (lv) (pc) (.int y :: .int x :: st) := by
  intro F H locs ls hP hD hS hl
  obtain ⟨hx, hb, hml, hown, hts, hK, hlk, hrt, hXF, hce, hsl⟩ := id F
  exact lv_ior hx hb hdg (k F H locs ls hP hD hS hl)
theorem z_iand {x y : Int32} (hdg : decode cc pc = .ok (.iand, 1)) (k : Z p l e R s m args below meth c cells slots Q cc own nL rt D cI cJ cB cS xa A ws (lv) (pc + 1) (.int (x &&& y) :: st)) : Z p l e R s m args below meth c cells slots Q cc own nL rt D cI cJ cB cS xa A ws (lv) (pc) (.int y :: .int x :: st) := by
  intro F H locs ls hP hD hS hl
  obtain ⟨hx, hb, hml, hown, hts, hK, hlk, hrt, hXF, hce, hsl⟩ := id F
  exact lv_iand hx hb hdg (k F H locs ls hP hD hS hl)
theorem z_ishl {x y : Int32} (hdg : decode cc pc = .ok (.ishl, 1)) (k : Z p l e R s m args below meth c cells slots Q cc own nL rt D cI cJ cB cS xa A ws (lv) (pc + 1) (.int (x <<< (y &&& 31)) :: st)) : Z p l e R s m args below meth c cells slots Q cc own nL rt D cI cJ cB cS xa A ws (lv) (pc) (.int y :: .int x :: st) := by
  intro F H locs ls hP hD hS hl
  obtain ⟨hx, hb, hml, hown, hts, hK, hlk, hrt, hXF, hce, hsl⟩ := id F
  exact lv_ishl hx hb hdg (k F H locs ls hP hD hS hl)
theorem z_ishr {x y : Int32} (hdg : decode cc pc = .ok (.ishr, 1)) (k : Z p l e R s m args below meth c cells slots Q cc own nL rt D cI cJ cB cS xa A ws (lv) (pc + 1) (.int (x >>> (y &&& 31)) :: st)) : Z p l e R s m args below meth c cells slots Q cc own nL rt D cI cJ cB cS xa A ws (lv) (pc) (.int y :: .int x :: st) := by
  intro F H locs ls hP hD hS hl
  obtain ⟨hx, hb, hml, hown, hts, hK, hlk, hrt, hXF, hce, hsl⟩ := id F
  exact lv_ishr hx hb hdg (k F H locs ls hP hD hS hl)
theorem z_ladd {x y : Int64} (hdg : decode cc pc = .ok (.ladd, 1)) (k : Z p l e R s m args below meth c cells slots Q cc own nL rt D cI cJ cB cS xa A ws (lv) (pc + 1) (.long (x + y) :: st)) : Z p l e R s m args below meth c cells slots Q cc own nL rt D cI cJ cB cS xa A ws (lv) (pc) (.long y :: .long x :: st) := by
  intro F H locs ls hP hD hS hl
  obtain ⟨hx, hb, hml, hown, hts, hK, hlk, hrt, hXF, hce, hsl⟩ := id F
  exact lv_ladd hx hb hdg (k F H locs ls hP hD hS hl)
theorem z_lsub {x y : Int64} (hdg : decode cc pc = .ok (.lsub, 1)) (k : Z p l e R s m args below meth c cells slots Q cc own nL rt D cI cJ cB cS xa A ws (lv) (pc + 1) (.long (x - y) :: st)) : Z p l e R s m args below meth c cells slots Q cc own nL rt D cI cJ cB cS xa A ws (lv) (pc) (.long y :: .long x :: st) := by
  intro F H locs ls hP hD hS hl
  obtain ⟨hx, hb, hml, hown, hts, hK, hlk, hrt, hXF, hce, hsl⟩ := id F
  exact lv_lsub hx hb hdg (k F H locs ls hP hD hS hl)
theorem z_lmul {x y : Int64} (hdg : decode cc pc = .ok (.lmul, 1)) (k : Z p l e R s m args below meth c cells slots Q cc own nL rt D cI cJ cB cS xa A ws (lv) (pc + 1) (.long (x * y) :: st)) : Z p l e R s m args below meth c cells slots Q cc own nL rt D cI cJ cB cS xa A ws (lv) (pc) (.long y :: .long x :: st) := by
  intro F H locs ls hP hD hS hl
  obtain ⟨hx, hb, hml, hown, hts, hK, hlk, hrt, hXF, hce, hsl⟩ := id F
  exact lv_lmul hx hb hdg (k F H locs ls hP hD hS hl)
theorem z_land {x y : Int64} (hdg : decode cc pc = .ok (.land, 1)) (k : Z p l e R s m args below meth c cells slots Q cc own nL rt D cI cJ cB cS xa A ws (lv) (pc + 1) (.long (x &&& y) :: st)) : Z p l e R s m args below meth c cells slots Q cc own nL rt D cI cJ cB cS xa A ws (lv) (pc) (.long y :: .long x :: st) := by
  intro F H locs ls hP hD hS hl
  obtain ⟨hx, hb, hml, hown, hts, hK, hlk, hrt, hXF, hce, hsl⟩ := id F
  exact lv_land hx hb hdg (k F H locs ls hP hD hS hl)
theorem z_lor {x y : Int64} (hdg : decode cc pc = .ok (.lor, 1)) (k : Z p l e R s m args below meth c cells slots Q cc own nL rt D cI cJ cB cS xa A ws (lv) (pc + 1) (.long (x ||| y) :: st)) : Z p l e R s m args below meth c cells slots Q cc own nL rt D cI cJ cB cS xa A ws (lv) (pc) (.long y :: .long x :: st) := by
  intro F H locs ls hP hD hS hl
  obtain ⟨hx, hb, hml, hown, hts, hK, hlk, hrt, hXF, hce, hsl⟩ := id F
  exact lv_lor hx hb hdg (k F H locs ls hP hD hS hl)
theorem z_lshl {x : Int64} {y : Int32} (hdg : decode cc pc = .ok (.lshl, 1)) (k : Z p l e R s m args below meth c cells slots Q cc own nL rt D cI cJ cB cS xa A ws (lv) (pc + 1) (.long (x <<< (y.toInt64 &&& 63)) :: st)) : Z p l e R s m args below meth c cells slots Q cc own nL rt D cI cJ cB cS xa A ws (lv) (pc) (.int y :: .long x :: st) := by
  intro F H locs ls hP hD hS hl
  obtain ⟨hx, hb, hml, hown, hts, hK, hlk, hrt, hXF, hce, hsl⟩ := id F
  exact lv_lshl hx hb hdg rfl (k F H locs ls hP hD hS hl)
theorem z_lshr {x : Int64} {y : Int32} (hdg : decode cc pc = .ok (.lshr, 1)) (k : Z p l e R s m args below meth c cells slots Q cc own nL rt D cI cJ cB cS xa A ws (lv) (pc + 1) (.long (x >>> (y.toInt64 &&& 63)) :: st)) : Z p l e R s m args below meth c cells slots Q cc own nL rt D cI cJ cB cS xa A ws (lv) (pc) (.int y :: .long x :: st) := by
  intro F H locs ls hP hD hS hl
  obtain ⟨hx, hb, hml, hown, hts, hK, hlk, hrt, hXF, hce, hsl⟩ := id F
  exact lv_lshr hx hb hdg rfl (k F H locs ls hP hD hS hl)
theorem z_lcmp {x y : Int64} (hdg : decode cc pc = .ok (.lcmp, 1)) (k : Z p l e R s m args below meth c cells slots Q cc own nL rt D cI cJ cB cS xa A ws (lv) (pc + 1) (.int (lg_cmp x y) :: st)) : Z p l e R s m args below meth c cells slots Q cc own nL rt D cI cJ cB cS xa A ws (lv) (pc) (.long y :: .long x :: st) := by
  intro F H locs ls hP hD hS hl
  obtain ⟨hx, hb, hml, hown, hts, hK, hlk, hrt, hXF, hce, hsl⟩ := id F
  exact W.lcmp hx hb hdg (k F H locs ls hP hD hS hl)
theorem z_i2l {x : Int32} (hdg : decode cc pc = .ok (.i2l, 1)) (k : Z p l e R s m args below meth c cells slots Q cc own nL rt D cI cJ cB cS xa A ws (lv) (pc + 1) (.long x.toInt64 :: st)) : Z p l e R s m args below meth c cells slots Q cc own nL rt D cI cJ cB cS xa A ws (lv) (pc) (.int x :: st) := by
  intro F H locs ls hP hD hS hl
  obtain ⟨hx, hb, hml, hown, hts, hK, hlk, hrt, hXF, hce, hsl⟩ := id F
  exact lv_i2l hx hb hdg rfl (k F H locs ls hP hD hS hl)
theorem z_l2i {x : Int64} (hdg : decode cc pc = .ok (.l2i, 1)) (k : Z p l e R s m args below meth c cells slots Q cc own nL rt D cI cJ cB cS xa A ws (lv) (pc + 1) (.int x.toInt32 :: st)) : Z p l e R s m args below meth c cells slots Q cc own nL rt D cI cJ cB cS xa A ws (lv) (pc) (.long x :: st) := by
  intro F H locs ls hP hD hS hl
  obtain ⟨hx, hb, hml, hown, hts, hK, hlk, hrt, hXF, hce, hsl⟩ := id F
  exact lv_l2i hx hb hdg rfl (k F H locs ls hP hD hS hl)
theorem z_i2b {x : Int32} (hdg : decode cc pc = .ok (.i2b, 1)) (k : Z p l e R s m args below meth c cells slots Q cc own nL rt D cI cJ cB cS xa A ws (lv) (pc + 1) (.int x.toInt8.toInt32 :: st)) : Z p l e R s m args below meth c cells slots Q cc own nL rt D cI cJ cB cS xa A ws (lv) (pc) (.int x :: st) := by
  intro F H locs ls hP hD hS hl
  obtain ⟨hx, hb, hml, hown, hts, hK, hlk, hrt, hXF, hce, hsl⟩ := id F
  exact lv_i2b hx hb hdg rfl (k F H locs ls hP hD hS hl)
theorem z_i2s {x : Int32} (hdg : decode cc pc = .ok (.i2s, 1)) (k : Z p l e R s m args below meth c cells slots Q cc own nL rt D cI cJ cB cS xa A ws (lv) (pc + 1) (.int x.toInt16.toInt32 :: st)) : Z p l e R s m args below meth c cells slots Q cc own nL rt D cI cJ cB cS xa A ws (lv) (pc) (.int x :: st) := by
  intro F H locs ls hP hD hS hl
  obtain ⟨hx, hb, hml, hown, hts, hK, hlk, hrt, hXF, hce, hsl⟩ := id F
  exact lv_i2s hx hb hdg rfl (k F H locs ls hP hD hS hl)
theorem z_dup {v : Value} (hdg : decode cc pc = .ok (.dup, 1)) (hv : v.category = 1) (k : Z p l e R s m args below meth c cells slots Q cc own nL rt D cI cJ cB cS xa A ws (lv) (pc + 1) (v :: v :: st)) : Z p l e R s m args below meth c cells slots Q cc own nL rt D cI cJ cB cS xa A ws (lv) (pc) (v :: st) := by
  intro F H locs ls hP hD hS hl
  obtain ⟨hx, hb, hml, hown, hts, hK, hlk, hrt, hXF, hce, hsl⟩ := id F
  exact lv_dup hx hb hdg hv (k F H locs ls hP hD hS hl)
theorem z_dup2 {v w : Value} (hdg : decode cc pc = .ok (.dup2, 1)) (hv : v.category = 1) (hw : w.category = 1) (k : Z p l e R s m args below meth c cells slots Q cc own nL rt D cI cJ cB cS xa A ws (lv) (pc + 1) (v :: w :: v :: w :: st)) : Z p l e R s m args below meth c cells slots Q cc own nL rt D cI cJ cB cS xa A ws (lv) (pc) (v :: w :: st) := by
  intro F H locs ls hP hD hS hl
  obtain ⟨hx, hb, hml, hown, hts, hK, hlk, hrt, hXF, hce, hsl⟩ := id F
  exact lv_dup2_11 hx hb hdg hv hw (k F H locs ls hP hD hS hl)
theorem z_pop {v : Value} (hdg : decode cc pc = .ok (.pop, 1)) (hv : v.category = 1) (k : Z p l e R s m args below meth c cells slots Q cc own nL rt D cI cJ cB cS xa A ws (lv) (pc + 1) (st)) : Z p l e R s m args below meth c cells slots Q cc own nL rt D cI cJ cB cS xa A ws (lv) (pc) (v :: st) := by
  intro F H locs ls hP hD hS hl
  obtain ⟨hx, hb, hml, hown, hts, hK, hlk, hrt, hXF, hce, hsl⟩ := id F
  exact lv_pop hx hb hdg hv (k F H locs ls hP hD hS hl)
theorem z_goto {off : Int} {tgt : Nat} (hdg : decode cc pc = .ok (.goto off, 3)) (ht : (pc : Int) + off = (tgt : Int)) (k : Z p l e R s m args below meth c cells slots Q cc own nL rt D cI cJ cB cS xa A ws (lv) (tgt) (st)) : Z p l e R s m args below meth c cells slots Q cc own nL rt D cI cJ cB cS xa A ws (lv) (pc) (st) := by
  intro F H locs ls hP hD hS hl
  obtain ⟨hx, hb, hml, hown, hts, hK, hlk, hrt, hXF, hce, hsl⟩ := id F
  exact lv_goto hx hb hdg ht (k F H locs ls hP hD hS hl)
theorem z_icmp_eq {x y : Int} {off : Int} {tgt : Nat} (hdg : decode cc pc = .ok (.if_icmp .eq off, 3)) (ht : (pc : Int) + off = (tgt : Int)) (hr1 : inr x) (hr2 : inr y) (kt : x = y → Z p l e R s m args below meth c cells slots Q cc own nL rt D cI cJ cB cS xa A ws (lv) (tgt) (st)) (kf : ¬ (x = y) → Z p l e R s m args below meth c cells slots Q cc own nL rt D cI cJ cB cS xa A ws (lv) (pc + 3) (st)) : Z p l e R s m args below meth c cells slots Q cc own nL rt D cI cJ cB cS xa A ws (lv) (pc) (.int (iI y) :: .int (iI x) :: st) := by
  intro F H locs ls hP hD hS hl
  obtain ⟨hx, hb, hml, hown, hts, hK, hlk, hrt, hXF, hce, hsl⟩ := id F
  exact lv_icmp_eq hx hb hdg ht (fun q => kt ((iI_eq hr1 hr2).mp q) F H locs ls hP hD hS hl) (fun q => kf (fun z => q ((iI_eq hr1 hr2).mpr z)) F H locs ls hP hD hS hl)
theorem z_icmp_ne {x y : Int} {off : Int} {tgt : Nat} (hdg : decode cc pc = .ok (.if_icmp .ne off, 3)) (ht : (pc : Int) + off = (tgt : Int)) (hr1 : inr x) (hr2 : inr y) (kt : ¬ x = y → Z p l e R s m args below meth c cells slots Q cc own nL rt D cI cJ cB cS xa A ws (lv) (tgt) (st)) (kf : x = y → Z p l e R s m args below meth c cells slots Q cc own nL rt D cI cJ cB cS xa A ws (lv) (pc + 3) (st)) : Z p l e R s m args below meth c cells slots Q cc own nL rt D cI cJ cB cS xa A ws (lv) (pc) (.int (iI y) :: .int (iI x) :: st) := by
  intro F H locs ls hP hD hS hl
  obtain ⟨hx, hb, hml, hown, hts, hK, hlk, hrt, hXF, hce, hsl⟩ := id F
  exact lv_icmp_ne hx hb hdg ht (fun q => kt (fun z => q (by rw [z])) F H locs ls hP hD hS hl) (fun q => kf ((iI_eq hr1 hr2).mp (by first | exact q | exact Classical.not_not.mp q)) F H locs ls hP hD hS hl)
theorem z_icmp_lt {x y : Int} {off : Int} {tgt : Nat} (hdg : decode cc pc = .ok (.if_icmp .lt off, 3)) (ht : (pc : Int) + off = (tgt : Int)) (hr1 : inr x) (hr2 : inr y) (kt : x < y → Z p l e R s m args below meth c cells slots Q cc own nL rt D cI cJ cB cS xa A ws (lv) (tgt) (st)) (kf : ¬ (x < y) → Z p l e R s m args below meth c cells slots Q cc own nL rt D cI cJ cB cS xa A ws (lv) (pc + 3) (st)) : Z p l e R s m args below meth c cells slots Q cc own nL rt D cI cJ cB cS xa A ws (lv) (pc) (.int (iI y) :: .int (iI x) :: st) := by
  intro F H locs ls hP hD hS hl
  obtain ⟨hx, hb, hml, hown, hts, hK, hlk, hrt, hXF, hce, hsl⟩ := id F
  exact lv_icmp_lt hx hb hdg ht (fun q => kt ((iI_lt hr1 hr2).mp q) F H locs ls hP hD hS hl) (fun q => kf (fun z => q ((iI_lt hr1 hr2).mpr z)) F H locs ls hP hD hS hl)
theorem z_icmp_ge {x y : Int} {off : Int} {tgt : Nat} (hdg : decode cc pc = .ok (.if_icmp .ge off, 3)) (ht : (pc : Int) + off = (tgt : Int)) (hr1 : inr x) (hr2 : inr y) (kt : y ≤ x → Z p l e R s m args below meth c cells slots Q cc own nL rt D cI cJ cB cS xa A ws (lv) (tgt) (st)) (kf : ¬ (y ≤ x) → Z p l e R s m args below meth c cells slots Q cc own nL rt D cI cJ cB cS xa A ws (lv) (pc + 3) (st)) : Z p l e R s m args below meth c cells slots Q cc own nL rt D cI cJ cB cS xa A ws (lv) (pc) (.int (iI y) :: .int (iI x) :: st) := by
  intro F H locs ls hP hD hS hl
  obtain ⟨hx, hb, hml, hown, hts, hK, hlk, hrt, hXF, hce, hsl⟩ := id F
  exact lv_icmp_ge hx hb hdg ht (fun q => kt ((iI_le hr2 hr1).mp q) F H locs ls hP hD hS hl) (fun q => kf (fun z => q ((iI_le hr2 hr1).mpr z)) F H locs ls hP hD hS hl)
theorem z_icmp_gt {x y : Int} {off : Int} {tgt : Nat} (hdg : decode cc pc = .ok (.if_icmp .gt off, 3)) (ht : (pc : Int) + off = (tgt : Int)) (hr1 : inr x) (hr2 : inr y) (kt : y < x → Z p l e R s m args below meth c cells slots Q cc own nL rt D cI cJ cB cS xa A ws (lv) (tgt) (st)) (kf : ¬ (y < x) → Z p l e R s m args below meth c cells slots Q cc own nL rt D cI cJ cB cS xa A ws (lv) (pc + 3) (st)) : Z p l e R s m args below meth c cells slots Q cc own nL rt D cI cJ cB cS xa A ws (lv) (pc) (.int (iI y) :: .int (iI x) :: st) := by
  intro F H locs ls hP hD hS hl
  obtain ⟨hx, hb, hml, hown, hts, hK, hlk, hrt, hXF, hce, hsl⟩ := id F
  exact lv_icmp_gt hx hb hdg ht (fun q => kt ((iI_lt hr2 hr1).mp q) F H locs ls hP hD hS hl) (fun q => kf (fun z => q ((iI_lt hr2 hr1).mpr z)) F H locs ls hP hD hS hl)
theorem z_icmp_le {x y : Int} {off : Int} {tgt : Nat} (hdg : decode cc pc = .ok (.if_icmp .le off, 3)) (ht : (pc : Int) + off = (tgt : Int)) (hr1 : inr x) (hr2 : inr y) (kt : x ≤ y → Z p l e R s m args below meth c cells slots Q cc own nL rt D cI cJ cB cS xa A ws (lv) (tgt) (st)) (kf : ¬ (x ≤ y) → Z p l e R s m args below meth c cells slots Q cc own nL rt D cI cJ cB cS xa A ws (lv) (pc + 3) (st)) : Z p l e R s m args below meth c cells slots Q cc own nL rt D cI cJ cB cS xa A ws (lv) (pc) (.int (iI y) :: .int (iI x) :: st) := by
  intro F H locs ls hP hD hS hl
  obtain ⟨hx, hb, hml, hown, hts, hK, hlk, hrt, hXF, hce, hsl⟩ := id F
  exact lv_icmp_le hx hb hdg ht (fun q => kt ((iI_le hr1 hr2).mp q) F H locs ls hP hD hS hl) (fun q => kf (fun z => q ((iI_le hr1 hr2).mpr z)) F H locs ls hP hD hS hl)
theorem z_if_eq {x : Int} {off : Int} {tgt : Nat} (hdg : decode cc pc = .ok (.ifCond .eq off, 3)) (ht : (pc : Int) + off = (tgt : Int)) (hr1 : inr x) (kt : x = 0 → Z p l e R s m args below meth c cells slots Q cc own nL rt D cI cJ cB cS xa A ws (lv) (tgt) (st)) (kf : ¬ (x = 0) → Z p l e R s m args below meth c cells slots Q cc own nL rt D cI cJ cB cS xa A ws (lv) (pc + 3) (st)) : Z p l e R s m args below meth c cells slots Q cc own nL rt D cI cJ cB cS xa A ws (lv) (pc) (.int (iI x) :: st) := by
  intro F H locs ls hP hD hS hl
  obtain ⟨hx, hb, hml, hown, hts, hK, hlk, hrt, hXF, hce, hsl⟩ := id F
  have e0 : (0 : Int32) = iI 0 := iI_0.symm
  exact lv_if_eq hx hb hdg ht (fun q => kt ((iI_eq hr1 (by decide)).mp (by rw [← e0]; exact q)) F H locs ls hP hD hS hl) (fun q => kf (fun z => q (by rw [e0]; exact (iI_eq hr1 (by decide)).mpr z)) F H locs ls hP hD hS hl)
theorem z_if_ne {x : Int} {off : Int} {tgt : Nat} (hdg : decode cc pc = .ok (.ifCond .ne off, 3)) (ht : (pc : Int) + off = (tgt : Int)) (hr1 : inr x) (kt : ¬ x = 0 → Z p l e R s m args below meth c cells slots Q cc own nL rt D cI cJ cB cS xa A ws (lv) (tgt) (st)) (kf : x = 0 → Z p l e R s m args below meth c cells slots Q cc own nL rt D cI cJ cB cS xa A ws (lv) (pc + 3) (st)) : Z p l e R s m args below meth c cells slots Q cc own nL rt D cI cJ cB cS xa A ws (lv) (pc) (.int (iI x) :: st) := by
  intro F H locs ls hP hD hS hl
  obtain ⟨hx, hb, hml, hown, hts, hK, hlk, hrt, hXF, hce, hsl⟩ := id F
  have e0 : (0 : Int32) = iI 0 := iI_0.symm
  refine lv_if_ne hx hb hdg ht (fun q => kt (fun z => q (by rw [z]; exact iI_0)) F H locs ls hP hD hS hl) (fun q => kf ((iI_eq hr1 (by decide)).mp ?_) F H locs ls hP hD hS hl)
  rw [← e0]
  first | exact q | exact Classical.not_not.mp q
theorem z_if_lt {x : Int} {off : Int} {tgt : Nat} (hdg : decode cc pc = .ok (.ifCond .lt off, 3)) (ht : (pc : Int) + off = (tgt : Int)) (hr1 : inr x) (kt : x < 0 → Z p l e R s m args below meth c cells slots Q cc own nL rt D cI cJ cB cS xa A ws (lv) (tgt) (st)) (kf : ¬ (x < 0) → Z p l e R s m args below meth c cells slots Q cc own nL rt D cI cJ cB cS xa A ws (lv) (pc + 3) (st)) : Z p l e R s m args below meth c cells slots Q cc own nL rt D cI cJ cB cS xa A ws (lv) (pc) (.int (iI x) :: st) := by
  intro F H locs ls hP hD hS hl
  obtain ⟨hx, hb, hml, hown, hts, hK, hlk, hrt, hXF, hce, hsl⟩ := id F
  have e0 : (0 : Int32) = iI 0 := iI_0.symm
  exact lv_if_lt hx hb hdg ht (fun q => kt ((iI_lt hr1 (by decide)).mp (by rw [← e0]; exact q)) F H locs ls hP hD hS hl) (fun q => kf (fun z => q (by rw [e0]; exact (iI_lt hr1 (by decide)).mpr z)) F H locs ls hP hD hS hl)
theorem z_if_ge {x : Int} {off : Int} {tgt : Nat} (hdg : decode cc pc = .ok (.ifCond .ge off, 3)) (ht : (pc : Int) + off = (tgt : Int)) (hr1 : inr x) (kt : 0 ≤ x → Z p l e R s m args below meth c cells slots Q cc own nL rt D cI cJ cB cS xa A ws (lv) (tgt) (st)) (kf : ¬ (0 ≤ x) → Z p l e R s m args below meth c cells slots Q cc own nL rt D cI cJ cB cS xa A ws (lv) (pc + 3) (st)) : Z p l e R s m args below meth c cells slots Q cc own nL rt D cI cJ cB cS xa A ws (lv) (pc) (.int (iI x) :: st) := by
  intro F H locs ls hP hD hS hl
  obtain ⟨hx, hb, hml, hown, hts, hK, hlk, hrt, hXF, hce, hsl⟩ := id F
  have e0 : (0 : Int32) = iI 0 := iI_0.symm
  exact lv_if_ge hx hb hdg ht (fun q => kt ((iI_le (by decide) hr1).mp (by rw [← e0]; exact q)) F H locs ls hP hD hS hl) (fun q => kf (fun z => q (by rw [e0]; exact (iI_le (by decide) hr1).mpr z)) F H locs ls hP hD hS hl)
theorem z_if_gt {x : Int} {off : Int} {tgt : Nat} (hdg : decode cc pc = .ok (.ifCond .gt off, 3)) (ht : (pc : Int) + off = (tgt : Int)) (hr1 : inr x) (kt : 0 < x → Z p l e R s m args below meth c cells slots Q cc own nL rt D cI cJ cB cS xa A ws (lv) (tgt) (st)) (kf : ¬ (0 < x) → Z p l e R s m args below meth c cells slots Q cc own nL rt D cI cJ cB cS xa A ws (lv) (pc + 3) (st)) : Z p l e R s m args below meth c cells slots Q cc own nL rt D cI cJ cB cS xa A ws (lv) (pc) (.int (iI x) :: st) := by
  intro F H locs ls hP hD hS hl
  obtain ⟨hx, hb, hml, hown, hts, hK, hlk, hrt, hXF, hce, hsl⟩ := id F
  have e0 : (0 : Int32) = iI 0 := iI_0.symm
  exact lv_if_gt hx hb hdg ht (fun q => kt ((iI_lt (by decide) hr1).mp (by rw [← e0]; exact q)) F H locs ls hP hD hS hl) (fun q => kf (fun z => q (by rw [e0]; exact (iI_lt (by decide) hr1).mpr z)) F H locs ls hP hD hS hl)
theorem z_if_le {x : Int} {off : Int} {tgt : Nat} (hdg : decode cc pc = .ok (.ifCond .le off, 3)) (ht : (pc : Int) + off = (tgt : Int)) (hr1 : inr x) (kt : x ≤ 0 → Z p l e R s m args below meth c cells slots Q cc own nL rt D cI cJ cB cS xa A ws (lv) (tgt) (st)) (kf : ¬ (x ≤ 0) → Z p l e R s m args below meth c cells slots Q cc own nL rt D cI cJ cB cS xa A ws (lv) (pc + 3) (st)) : Z p l e R s m args below meth c cells slots Q cc own nL rt D cI cJ cB cS xa A ws (lv) (pc) (.int (iI x) :: st) := by
  intro F H locs ls hP hD hS hl
  obtain ⟨hx, hb, hml, hown, hts, hK, hlk, hrt, hXF, hce, hsl⟩ := id F
  have e0 : (0 : Int32) = iI 0 := iI_0.symm
  exact lv_if_le hx hb hdg ht (fun q => kt ((iI_le hr1 (by decide)).mp (by rw [← e0]; exact q)) F H locs ls hP hD hS hl) (fun q => kf (fun z => q (by rw [e0]; exact (iI_le hr1 (by decide)).mpr z)) F H locs ls hP hD hS hl)
theorem z_ifb_eq {P : Prop} [Decidable P] {off : Int} {tgt : Nat} (hdg : decode cc pc = .ok (.ifCond .eq off, 3)) (ht : (pc : Int) + off = (tgt : Int)) (kt : ¬ P → Z p l e R s m args below meth c cells slots Q cc own nL rt D cI cJ cB cS xa A ws (lv) (tgt) (st)) (kf : P → Z p l e R s m args below meth c cells slots Q cc own nL rt D cI cJ cB cS xa A ws (lv) (pc + 3) (st)) : Z p l e R s m args below meth c cells slots Q cc own nL rt D cI cJ cB cS xa A ws (lv) (pc) (.int (bI P) :: st) := by
  intro F H locs ls hP hD hS hl
  obtain ⟨hx, hb, hml, hown, hts, hK, hlk, hrt, hXF, hce, hsl⟩ := id F
  exact lv_if_eq hx hb hdg ht (fun q => kt (bI_n0.mp q) F H locs ls hP hD hS hl) (fun q => kf (Classical.not_not.mp (fun z => q (bI_n0.mpr z))) F H locs ls hP hD hS hl)
theorem z_ifb_ne {P : Prop} [Decidable P] {off : Int} {tgt : Nat} (hdg : decode cc pc = .ok (.ifCond .ne off, 3)) (ht : (pc : Int) + off = (tgt : Int)) (kt : P → Z p l e R s m args below meth c cells slots Q cc own nL rt D cI cJ cB cS xa A ws (lv) (tgt) (st)) (kf : ¬ P → Z p l e R s m args below meth c cells slots Q cc own nL rt D cI cJ cB cS xa A ws (lv) (pc + 3) (st)) : Z p l e R s m args below meth c cells slots Q cc own nL rt D cI cJ cB cS xa A ws (lv) (pc) (.int (bI P) :: st) := by
  intro F H locs ls hP hD hS hl
  obtain ⟨hx, hb, hml, hown, hts, hK, hlk, hrt, hXF, hce, hsl⟩ := id F
  exact lv_if_ne hx hb hdg ht (fun q => kt (Classical.not_not.mp (fun z => q (bI_n0.mpr z))) F H locs ls hP hD hS hl) (fun q => kf (bI_n0.mp (by first | exact q | exact Classical.not_not.mp q)) F H locs ls hP hD hS hl)
theorem z_ifr_eq {x : Int32} {off : Int} {tgt : Nat} (hdg : decode cc pc = .ok (.ifCond .eq off, 3)) (ht : (pc : Int) + off = (tgt : Int)) (kt : x = 0 → Z p l e R s m args below meth c cells slots Q cc own nL rt D cI cJ cB cS xa A ws (lv) (tgt) (st)) (kf : ¬ (x = 0) → Z p l e R s m args below meth c cells slots Q cc own nL rt D cI cJ cB cS xa A ws (lv) (pc + 3) (st)) : Z p l e R s m args below meth c cells slots Q cc own nL rt D cI cJ cB cS xa A ws (lv) (pc) (.int x :: st) := by
  intro F H locs ls hP hD hS hl
  obtain ⟨hx, hb, hml, hown, hts, hK, hlk, hrt, hXF, hce, hsl⟩ := id F
  exact lv_if_eq hx hb hdg ht (fun q => kt q F H locs ls hP hD hS hl) (fun q => kf q F H locs ls hP hD hS hl)
theorem z_ifr_ne {x : Int32} {off : Int} {tgt : Nat} (hdg : decode cc pc = .ok (.ifCond .ne off, 3)) (ht : (pc : Int) + off = (tgt : Int)) (kt : ¬ x = 0 → Z p l e R s m args below meth c cells slots Q cc own nL rt D cI cJ cB cS xa A ws (lv) (tgt) (st)) (kf : x = 0 → Z p l e R s m args below meth c cells slots Q cc own nL rt D cI cJ cB cS xa A ws (lv) (pc + 3) (st)) : Z p l e R s m args below meth c cells slots Q cc own nL rt D cI cJ cB cS xa A ws (lv) (pc) (.int x :: st) := by
  intro F H locs ls hP hD hS hl
  obtain ⟨hx, hb, hml, hown, hts, hK, hlk, hrt, hXF, hce, hsl⟩ := id F
  exact lv_if_ne hx hb hdg ht (fun q => kt q F H locs ls hP hD hS hl) (fun q => kf (by first | exact q | exact Classical.not_not.mp q) F H locs ls hP hD hS hl)
theorem z_ifr_lt {x : Int32} {off : Int} {tgt : Nat} (hdg : decode cc pc = .ok (.ifCond .lt off, 3)) (ht : (pc : Int) + off = (tgt : Int)) (kt : x < 0 → Z p l e R s m args below meth c cells slots Q cc own nL rt D cI cJ cB cS xa A ws (lv) (tgt) (st)) (kf : ¬ (x < 0) → Z p l e R s m args below meth c cells slots Q cc own nL rt D cI cJ cB cS xa A ws (lv) (pc + 3) (st)) : Z p l e R s m args below meth c cells slots Q cc own nL rt D cI cJ cB cS xa A ws (lv) (pc) (.int x :: st) := by
  intro F H locs ls hP hD hS hl
  obtain ⟨hx, hb, hml, hown, hts, hK, hlk, hrt, hXF, hce, hsl⟩ := id F
  exact lv_if_lt hx hb hdg ht (fun q => kt q F H locs ls hP hD hS hl) (fun q => kf q F H locs ls hP hD hS hl)
theorem z_ifr_ge {x : Int32} {off : Int} {tgt : Nat} (hdg : decode cc pc = .ok (.ifCond .ge off, 3)) (ht : (pc : Int) + off = (tgt : Int)) (kt : 0 ≤ x → Z p l e R s m args below meth c cells slots Q cc own nL rt D cI cJ cB cS xa A ws (lv) (tgt) (st)) (kf : ¬ (0 ≤ x) → Z p l e R s m args below meth c cells slots Q cc own nL rt D cI cJ cB cS xa A ws (lv) (pc + 3) (st)) : Z p l e R s m args below meth c cells slots Q cc own nL rt D cI cJ cB cS xa A ws (lv) (pc) (.int x :: st) := by
  intro F H locs ls hP hD hS hl
  obtain ⟨hx, hb, hml, hown, hts, hK, hlk, hrt, hXF, hce, hsl⟩ := id F
  exact lv_if_ge hx hb hdg ht (fun q => kt q F H locs ls hP hD hS hl) (fun q => kf q F H locs ls hP hD hS hl)
theorem z_ifr_gt {x : Int32} {off : Int} {tgt : Nat} (hdg : decode cc pc = .ok (.ifCond .gt off, 3)) (ht : (pc : Int) + off = (tgt : Int)) (kt : 0 < x → Z p l e R s m args below meth c cells slots Q cc own nL rt D cI cJ cB cS xa A ws (lv) (tgt) (st)) (kf : ¬ (0 < x) → Z p l e R s m args below meth c cells slots Q cc own nL rt D cI cJ cB cS xa A ws (lv) (pc + 3) (st)) : Z p l e R s m args below meth c cells slots Q cc own nL rt D cI cJ cB cS xa A ws (lv) (pc) (.int x :: st) := by
  intro F H locs ls hP hD hS hl
  obtain ⟨hx, hb, hml, hown, hts, hK, hlk, hrt, hXF, hce, hsl⟩ := id F
  exact lv_if_gt hx hb hdg ht (fun q => kt q F H locs ls hP hD hS hl) (fun q => kf q F H locs ls hP hD hS hl)
theorem z_ifr_le {x : Int32} {off : Int} {tgt : Nat} (hdg : decode cc pc = .ok (.ifCond .le off, 3)) (ht : (pc : Int) + off = (tgt : Int)) (kt : x ≤ 0 → Z p l e R s m args below meth c cells slots Q cc own nL rt D cI cJ cB cS xa A ws (lv) (tgt) (st)) (kf : ¬ (x ≤ 0) → Z p l e R s m args below meth c cells slots Q cc own nL rt D cI cJ cB cS xa A ws (lv) (pc + 3) (st)) : Z p l e R s m args below meth c cells slots Q cc own nL rt D cI cJ cB cS xa A ws (lv) (pc) (.int x :: st) := by
  intro F H locs ls hP hD hS hl
  obtain ⟨hx, hb, hml, hown, hts, hK, hlk, hrt, hXF, hce, hsl⟩ := id F
  exact lv_if_le hx hb hdg ht (fun q => kt q F H locs ls hP hD hS hl) (fun q => kf q F H locs ls hP hD hS hl)
theorem z_tableIn {dflt lo hi : Int} {offs : Array Int} {len : Nat} {x : Int} {off : Int} {tgt : Nat} (hdg : decode cc pc = .ok (.tableswitch dflt lo hi offs, len)) (hr : inr x) (h1 : lo ≤ x) (h2 : x ≤ hi) (ho : offs[(x - lo).toNat]? = some off) (ht : (pc : Int) + off = (tgt : Int)) (k : Z p l e R s m args below meth c cells slots Q cc own nL rt D cI cJ cB cS xa A ws (lv) (tgt) (st)) : Z p l e R s m args below meth c cells slots Q cc own nL rt D cI cJ cB cS xa A ws (lv) (pc) (.int (iI x) :: st) := by
  intro F H locs ls hP hD hS hl
  obtain ⟨hx, hb, hml, hown, hts, hK, hlk, hrt, hXF, hce, hsl⟩ := id F
  exact lv_tableIn hx hb hdg (by rw [iI_toInt hr]; omega) (by rw [iI_toInt hr]; omega) (by rw [iI_toInt hr]; exact ho) ht (k F H locs ls hP hD hS hl)
theorem z_tableOut {dflt lo hi : Int} {offs : Array Int} {len : Nat} {x : Int} {tgt : Nat} (hdg : decode cc pc = .ok (.tableswitch dflt lo hi offs, len)) (hr : inr x) (h : x < lo ∨ hi < x) (ht : (pc : Int) + dflt = (tgt : Int)) (k : Z p l e R s m args below meth c cells slots Q cc own nL rt D cI cJ cB cS xa A ws (lv) (tgt) (st)) : Z p l e R s m args below meth c cells slots Q cc own nL rt D cI cJ cB cS xa A ws (lv) (pc) (.int (iI x) :: st) := by
  intro F H locs ls hP hD hS hl
  obtain ⟨hx, hb, hml, hown, hts, hK, hlk, hrt, hXF, hce, hsl⟩ := id F
  exact lv_tableOut hx hb hdg (by rw [iI_toInt hr]; exact h) ht (k F H locs ls hP hD hS hl)
theorem z_lookup {dflt : Int} {ps : Array (Int × Int)} {len : Nat} {x : Int} {off : Int} {tgt : Nat} (hdg : decode cc pc = .ok (.lookupswitch dflt ps, len)) (hp : (ps.toList.zip (ps.toList.drop 1)).all (fun (a, next) => a.1 < next.1) = true) (hr : inr x) (ho : Op.lookupswitch.offset ps.toList dflt x = off) (ht : (pc : Int) + off = (tgt : Int)) (k : Z p l e R s m args below meth c cells slots Q cc own nL rt D cI cJ cB cS xa A ws (lv) (tgt) (st)) : Z p l e R s m args below meth c cells slots Q cc own nL rt D cI cJ cB cS xa A ws (lv) (pc) (.int (iI x) :: st) := by
  intro F H locs ls hP hD hS hl
  obtain ⟨hx, hb, hml, hown, hts, hK, hlk, hrt, hXF, hce, hsl⟩ := id F
  exact lv_lookup hx hb hdg hp (by rw [iI_toInt hr]; exact ho) ht (k F H locs ls hP hD hS hl)
end ZK
