theorem arrV_ext {cA : ClassId} {n : Nat} {f f2 : Nat → Value} (h : ∀ j, j < n → f j = f2 j) : arrV cA n f = arrV cA n f2 := by
  unfold arrV
  congr 1
  congr 1
  funext j
  exact h j.val j.isLt
theorem vp_cell_I {cA : ClassId} {n : Nat} {f f2 : Nat → Int32} (h : ∀ j, j < n → f j = f2 j) : vp_cell cA (n, .inl f) = vp_cell cA (n, .inl f2) :=
  arrV_ext (f := fun j => .int (f j)) (f2 := fun j => .int (f2 j)) (fun j hj => by rw [h j hj])
theorem vp_cell_L {cA : ClassId} {n : Nat} {f f2 : Nat → Int64} (h : ∀ j, j < n → f j = f2 j) : vp_cell cA (n, .inr (.inl f)) = vp_cell cA (n, .inr (.inl f2)) :=
  arrV_ext (f := fun j => .long (f j)) (f2 := fun j => .long (f2 j)) (fun j hj => by rw [h j hj])
theorem va_P.cell {D : va_G} {cl : List vw_C} {ws : va_W} {H : Heap} {q0 a : Nat} {cA : ClassId} {x y : vp_A} (hP : va_P D cl ws H) (he : ws[q0]? = some (a, .inl (cA, x))) (hc : vp_cell cA x = vp_cell cA y) : va_P D cl (ws.set q0 (a, .inl (cA, y))) H := by
  have hl := (List.getElem?_eq_some_iff.mp he).1
  intro k q hk
  by_cases hkp : k = q0
  · subst hkp
    rw [List.getElem?_set_self hl] at hk
    cases hk
    have h1 := hP k _ he
    show H[a]? = some (vp_cell cA y)
    rw [← hc]
    exact h1
  · rw [List.getElem?_set_ne (Ne.symm hkp)] at hk
    exact hP k q hk
def kaF (z : Int) : Int := if z = 0 then -1 else if z = 4 then 1 else if z = 5 then 2 else 0
theorem xKA_at {z : Int} (h : 0 ≤ z ∧ z < 6) : xKA z.toNat = .int (iI (kaF z)) := by
  obtain ⟨h1, h2⟩ := h
  rcases (show z = 0 ∨ z = 1 ∨ z = 2 ∨ z = 3 ∨ z = 4 ∨ z = 5 by omega) with rfl | rfl | rfl | rfl | rfl | rfl <;> rfl
section ZX
variable {p : Program} {l : Launch} {e : Env} {R : Room} {s : State} {m : MethodId} {args : Array Value} {below : List Frame} {meth : Method} {c : Code} {cells slots : Nat} {Q : State → Prop} {cc : ByteArray} {own : String} {nL : Nat} {rt : Option FieldType} {D : va_G} {cI cJ cB cS : ClassId} {xa : XA} {A : Nat → Prop} {ws ws2 : va_W} {lv lv2 : List (Nat × Value)} {pc : Nat} {st : List Value}
theorem z_extI {q0 a n : Nat} {cA : ClassId} {f f2 : Nat → Int32} (he : ws[q0]? = some (a, .inl (cA, n, .inl f))) (hf : ∀ j, j < n → f j = f2 j) (hw : ws.set q0 (a, .inl (cA, n, .inl f2)) = ws2) (k : Z p l e R s m args below meth c cells slots Q cc own nL rt D cI cJ cB cS xa A ws2 (lv) (pc) (st)) : Z p l e R s m args below meth c cells slots Q cc own nL rt D cI cJ cB cS xa A ws (lv) (pc) (st) := by
  intro F H locs ls hP hD hS hl
  obtain ⟨hx, hb, hml, hown, hts, hK, hlk, hrt, hXF, hce, hsl⟩ := id F
  subst hw
  exact k F H locs ls (hP.cell he (vp_cell_I hf)) (hD.set he) hS hl
theorem z_extL {q0 a n : Nat} {cA : ClassId} {f f2 : Nat → Int64} (he : ws[q0]? = some (a, .inl (cA, n, .inr (.inl f)))) (hf : ∀ j, j < n → f j = f2 j) (hw : ws.set q0 (a, .inl (cA, n, .inr (.inl f2))) = ws2) (k : Z p l e R s m args below meth c cells slots Q cc own nL rt D cI cJ cB cS xa A ws2 (lv) (pc) (st)) : Z p l e R s m args below meth c cells slots Q cc own nL rt D cI cJ cB cS xa A ws (lv) (pc) (st) := by
  intro F H locs ls hP hD hS hl
  obtain ⟨hx, hb, hml, hown, hts, hK, hlk, hrt, hXF, hce, hsl⟩ := id F
  subst hw
  exact k F H locs ls (hP.cell he (vp_cell_L hf)) (hD.set he) hS hl
theorem z_getKA {index : Nat} (hlink : Cond.fieldLink own index "OwingSwings$Ground" "KIND_ABOVE" "[I" ∈ gt) (hdg : decode cc pc = .ok (.getstatic index, 3)) (k : Z p l e R s m args below meth c cells slots Q cc own nL rt D cI cJ cB cS xa A ws (lv) (pc + 3) (.ref xa.1 :: st)) : Z p l e R s m args below meth c cells slots Q cc own nL rt D cI cJ cB cS xa A ws (lv) (pc) (st) := by
  intro F H locs ls hP hD hS hl
  obtain ⟨hx, hb, hml, hown, hts, hK, hlk, hrt, hXF, hce, hsl⟩ := id F
  exact va_gets hx hb hXF.1 hS hown (hts _ hlink) (fun _ h => h) hdg (k F H locs ls hP hD hS hl)
theorem z_aldKA {z : Int} (hdg : decode cc pc = .ok (.iaload, 1)) (hz : 0 ≤ z ∧ z < 6) (k : Z p l e R s m args below meth c cells slots Q cc own nL rt D cI cJ cB cS xa A ws (lv) (pc + 1) (.int (iI (kaF z)) :: st)) : Z p l e R s m args below meth c cells slots Q cc own nL rt D cI cJ cB cS xa A ws (lv) (pc) (.int (iI z) :: .ref xa.1 :: st) := by
  intro F H locs ls hP hD hS hl
  obtain ⟨hx, hb, hml, hown, hts, hK, hlk, hrt, hXF, hce, hsl⟩ := id F
  obtain ⟨cell, h1, h2, h3, h4, -, h6, h7⟩ := hXF.2.1.kept hS.2.1
  have ec : (iI z).toNatClampNeg = z.toNat := iI_clamp hz.1 (by omega)
  refine W.iald hx hb h1 h2 h3 (fun q => ?_) (v := .int (iI (kaF z))) ?_ rfl rfl hdg (k F H locs ls hP hD hS hl)
  · rcases q with q | q
    · rw [← iI_0, iI_lt ⟨by omega, by omega⟩ (by decide)] at q; omega
    · rw [ec] at q; omega
  · rw [ec, h6 _ (by omega), xKA_at hz]
theorem z_ldcS {index : Nat} (i : Nat) (hi : i < 10) (hx9 : xsI.getD i 0 = index) (ho9 : own = "OwingSwings$Tape") (hdg : decode cc pc = .ok (.ldc index, 2)) (k : Z p l e R s m args below meth c cells slots Q cc own nL rt D cI cJ cB cS xa A ws (lv) (pc + 2) (.ref (xa.2.1 i) :: st)) : Z p l e R s m args below meth c cells slots Q cc own nL rt D cI cJ cB cS xa A ws (lv) (pc) (st) := by
  intro F H locs ls hP hD hS hl
  obtain ⟨hx, hb, hml, hown, hts, hK, hlk, hrt, hXF, hce, hsl⟩ := id F
  subst hx9
  subst ho9
  exact va_ldcS hx hb hown (hXF.2.2.2.1 i hi) hdg (k F H locs ls hP hD hS hl)
end ZX
