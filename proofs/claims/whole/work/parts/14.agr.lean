/-- two grounds agree on all that can be seen -/
def agr (g h : Gd) : Prop := (∀ c, g 4 c = h 4 c) ∧ ∀ w c : Int, 0 ≤ w → w < 4 → 0 ≤ c → c < g 4 2 → g w c = h w c
theorem agr.rfl' (g : Gd) : agr g g := ⟨fun _ => rfl, fun _ _ _ _ _ _ => rfl⟩
theorem agr.sy {g h : Gd} (a : agr g h) : agr h g := ⟨fun c => (a.1 c).symm, fun w c h0 h1 h2 h3 => (a.2 w c h0 h1 h2 (by rw [a.1 2]; exact h3)).symm⟩
theorem agr.tr {g h k : Gd} (a : agr g h) (b : agr h k) : agr g k := ⟨fun c => (a.1 c).trans (b.1 c), fun w c h0 h1 h2 h3 => (a.2 w c h0 h1 h2 h3).trans (b.2 w c h0 h1 h2 (by rw [← a.1 2]; exact h3))⟩
theorem agr.r {g h : Gd} (a : agr g h) (w : Int) {c : Int} (h0 : 0 ≤ w ∧ w < 4) (h1 : 0 ≤ c) (h2 : c < g 4 2) : g w c = h w c := a.2 w c h0.1 h0.2 h1 h2
theorem agr_like (t g : Gd) : agr (likeG t g) g := by
  refine ⟨fun c => ?_, fun w c h0 h1 h2 h3 => ?_⟩
  · unfold likeG; rw [if_pos rfl]
  · have e : likeG t g 4 2 = g 4 2 := by unfold likeG; rw [if_pos rfl]
    rw [e] at h3
    unfold likeG
    rw [if_neg (by omega), if_pos h3]
theorem agr_many {g h : Gd} (a : agr g h) : many g = many h := by unfold many; rw [a.1 2]
theorem agr_up {g h : Gd} (a : agr g h) (w c : Int) {v v2 : Int} (hw : 0 ≤ w ∧ w < 4) (hv : v = v2) : agr (up2 g w c v) (up2 h w c v2) := by
  subst hv
  refine ⟨fun d => ?_, fun w2 d h0 h1 h2 h3 => ?_⟩
  · unfold up2; rw [if_neg (by omega), if_neg (by omega)]; exact a.1 d
  · have e : up2 g w c v 4 2 = g 4 2 := by unfold up2; rw [if_neg (by omega)]
    rw [e] at h3
    have q := a.2 w2 d h0 h1 h2 h3
    unfold up2
    split
    · split
      · rfl
      · exact q
    · exact q
theorem agr_up4 {g h : Gd} (a : agr g h) {k v v2 : Int} (hk : k ≠ 2) (hv : v = v2) : agr (up2 g 4 k v) (up2 h 4 k v2) := by
  subst hv
  refine ⟨fun d => ?_, fun w2 d h0 h1 h2 h3 => ?_⟩
  · unfold up2; rw [if_pos rfl, if_pos rfl]; split
    · rfl
    · exact a.1 d
  · have e : up2 g 4 k v 4 2 = g 4 2 := by unfold up2; rw [if_pos rfl, if_neg (Ne.symm hk)]
    rw [e] at h3
    unfold up2
    rw [if_neg (by omega), if_neg (by omega)]
    exact a.2 w2 d h0 h1 h2 h3
theorem agr_next {g h : Gd} (a : agr g h) (c : Int) : nextG g c = nextG h c := by unfold nextG; rw [a.1 2]
theorem agr_sat {g h : Gd} (a : agr g h) : satur g ↔ satur h := by unfold satur; rw [a.1 0]
theorem agr_dusk {g h : Gd} (a : agr g h) : dusk g ↔ dusk h := by unfold dusk; rw [a.1 0, a.1 1]
theorem agr_wants {g h : Gd} (a : agr g h) (o : Ok g) {c : Int} (h0 : 0 ≤ c) (h1 : c < g 4 2) : wantsG g c = wantsG h c := by
  have n := nextG_rng o h0 h1
  unfold wantsG
  rw [← agr_next a c, ← a.1 2, ← a.r 0 (by decide) h0 h1, ← a.r 1 (by decide) h0 h1, ← a.r 1 (by decide) n.1 n.2]
  simp only [agr_sat a]
theorem agr_pays {g h : Gd} (a : agr g h) {c : Int} (h0 : 0 ≤ c) (h1 : c < g 4 2) : paysG g c = paysG h c := by
  unfold paysG; rw [← a.r 0 (by decide) h0 h1]
theorem agr_yields {g h : Gd} (a : agr g h) {c : Int} (h0 : 0 ≤ c) (h1 : c < g 4 2) : yieldsG g c = yieldsG h c := by
  unfold yieldsG
  rw [← a.r 0 (by decide) h0 h1, ← a.r 1 (by decide) h0 h1]
  simp only [agr_sat a]
theorem agr_may {g h : Gd} (a : agr g h) {f t n : Int} (hf : 0 ≤ f ∧ f < g 4 2) (ht : 0 ≤ t ∧ t < g 4 2) : mayG g f t n = mayG h f t n := by
  unfold mayG; rw [a.r 1 (by decide) hf.1 hf.2, a.r 1 (by decide) ht.1 ht.2]
theorem agr_goes {g h : Gd} (a : agr g h) {f t n : Int} (hf : 0 ≤ f ∧ f < g 4 2) (ht : 0 ≤ t ∧ t < g 4 2) : agr (goesG g f t n) (goesG h f t n) := by
  have a1 := agr_up a 1 f (v := g 1 f - n) (v2 := h 1 f - n) (by decide) (by rw [a.r 1 (by decide) hf.1 hf.2])
  have a2 := agr_up a1 1 t (v := up2 g 1 f (g 1 f - n) 1 t + n) (v2 := up2 h 1 f (h 1 f - n) 1 t + n) (by decide) (by rw [a1.r 1 (by decide) ht.1 ht.2])
  have a3 := agr_up a2 3 f (v := max (g 3 f - n) (-9999)) (v2 := max (h 3 f - n) (-9999)) (by decide) (by rw [a.r 3 (by decide) hf.1 hf.2])
  have e3 := a3.r 3 (by decide) ht.1 ht.2
  exact agr_up a3 3 t (by decide) (congrArg (fun z => min (z + n) 9999) e3)
theorem agr_pay {g h : Gd} (a : agr g h) {c o : Int} (hc : 0 ≤ c ∧ c < g 4 2) (ho : 0 ≤ o ∧ o < g 4 2) : agr (payG g c o) (payG h c o) := by
  have p := agr_pays a hc.1 hc.2
  have a1 := agr_up a 2 c (v := g 2 c - paysG g c) (v2 := h 2 c - paysG h c) (by decide) (by rw [a.r 2 (by decide) hc.1 hc.2, p])
  exact agr_up a1 2 o (by decide) (by rw [a1.r 2 (by decide) ho.1 ho.2, p])
theorem agr_push {g h : Gd} (a : agr g h) {c v : Int} (hc : 0 ≤ c ∧ c < g 4 2) : agr (pushG g c v) (pushG h c v) := agr_up a 1 c (by decide) (by rw [a.r 1 (by decide) hc.1 hc.2])
theorem agr_swap {g h : Gd} (a : agr g h) {x y : Int} (hx : 0 ≤ x ∧ x < g 4 2) (hy : 0 ≤ y ∧ y < g 4 2) : agr (swapG g x y) (swapG h x y) := by
  refine ⟨fun d => ?_, fun w d h0 h1 h2 h3 => ?_⟩
  · show (if (4 : Int) = 4 then g 4 d else _) = (if (4 : Int) = 4 then h 4 d else _); rw [if_pos rfl, if_pos rfl]; exact a.1 d
  · have e : swapG g x y 4 2 = g 4 2 := by unfold swapG; rw [if_pos rfl]
    rw [e] at h3
    unfold swapG
    simp only [if_neg (show ¬ (w = 4) by omega)]
    split
    · exact a.2 w x h0 h1 hx.1 hx.2
    · split
      · exact a.2 w y h0 h1 hy.1 hy.2
      · exact a.2 w d h0 h1 h2 h3
theorem agr_have {g h : Gd} (a : agr g h) (o : Ok g) {c : Int} (hc : 0 ≤ c ∧ c < g 4 2) : agr (haveG g c) (haveG h c) := by
  have n := nextG_rng o hc.1 hc.2
  unfold haveG
  dsimp only
  rw [← agr_next a c, ← agr_wants a o hc.1 hc.2, ← agr_yields a n.1 n.2, ← agr_may a n hc]
  have a1 := agr_goes (n := mayG g (nextG g c) c (min (wantsG g c) (yieldsG g (nextG g c)))) a n hc
  split
  · exact agr_pay a1 hc n
  · exact a1
theorem agr_deal {g h : Gd} (a : agr g h) (o : Ok g) {c : Int} (hc : 0 ≤ c ∧ c < g 4 2) : agr (dealG g c) (dealG h c) := by
  have n := nextG_rng o hc.1 hc.2
  unfold dealG
  rw [← agr_wants a o hc.1 hc.2, ← agr_pays a hc.1 hc.2, ← a.r 2 (by decide) hc.1 hc.2, ← agr_next a c, ← agr_may a hc n]
  split
  · exact agr_have a o hc
  · split
    · exact agr_goes a hc n
    · exact a
theorem agr_deals {g h : Gd} (a : agr g h) (o : Ok g) : ∀ n : Nat, (n : Int) ≤ g 4 2 → agr (dealsG g n) (dealsG h n)
  | 0, _ => a
  | n + 1, hn => agr_deal (agr_deals a o n (by omega)) (dealsG_ok o n) ⟨by omega, by rw [dealsG_4]; omega⟩
theorem agr_most {g h : Gd} (a : agr g h) {w : Int} (hw : 0 ≤ w ∧ w < 4) : ∀ n : Nat, (n : Int) ≤ g 4 2 → mostN (g w) n = mostN (h w) n
  | 0, _ => rfl
  | n + 1, hn => by
    have ih := agr_most a hw n (by omega)
    have r := mostN_rng (g w) n
    have e1 := a.r w hw (c := (n : Int)) (by omega) (by omega)
    unfold mostN
    rw [← ih, e1]
    by_cases q : mostN (g w) n < 0
    · rw [if_pos (Or.inl q), if_pos (Or.inl q)]
    · rw [a.r w hw (c := mostN (g w) n) (by omega) (by omega)]
theorem agr_low {g h : Gd} (a : agr g h) {w : Int} (hw : 0 ≤ w ∧ w < 4) : ∀ n : Nat, (n : Int) ≤ g 4 2 → lowN (g w) n = lowN (h w) n
  | 0, _ => rfl
  | n + 1, hn => by
    have ih := agr_low a hw n (by omega)
    have r := lowN_rng (g w) n
    have e1 := a.r w hw (c := (n : Int)) (by omega) (by omega)
    unfold lowN
    rw [← ih, e1]
    by_cases q : lowN (g w) n < 0
    · rw [if_pos (Or.inl q), if_pos (Or.inl q)]
    · rw [a.r w hw (c := lowN (g w) n) (by omega) (by omega)]
theorem agr_sum {g h : Gd} (a : agr g h) {w : Int} (hw : 0 ≤ w ∧ w < 4) : ∀ n : Nat, (n : Int) ≤ g 4 2 → sumN (g w) n = sumN (h w) n
  | 0, _ => rfl
  | n + 1, hn => by
    unfold sumN
    rw [agr_sum a hw n (by omega), a.r w hw (c := (n : Int)) (by omega) (by omega)]
theorem agr_dust {g h : Gd} (a : agr g h) {w : Int} (hw : 0 ≤ w ∧ w < 4) : ∀ n : Nat, (n : Int) ≤ g 4 2 → dustN (g w) n = dustN (h w) n
  | 0, _ => rfl
  | n + 1, hn => by
    unfold dustN
    rw [agr_dust a hw n (by omega), a.r w hw (c := (n : Int)) (by omega) (by omega)]
theorem many_le {g : Gd} (o : Ok g) : ((many g : Nat) : Int) ≤ g 4 2 := by have := ok2 o; unfold many; omega
theorem agr_high {g h : Gd} (a : agr g h) (o : Ok g) : highG g = highG h := by
  unfold highG; rw [← agr_many a]; exact agr_most a (by decide) _ (many_le o)
theorem agr_lowG {g h : Gd} (a : agr g h) (o : Ok g) : lowG g = lowG h := by
  unfold lowG; rw [← agr_many a]; exact agr_low a (by decide) _ (many_le o)
theorem agr_diff {g h : Gd} (a : agr g h) (o : Ok g) : diffG g = diffG h := by
  have r1 := highG_rng o
  have r2 := lowG_rng o
  have r3 := ok2 o
  unfold diffG
  rw [← agr_high a o, ← agr_lowG a o, ← a.1 2]
  split
  · rfl
  · rw [a.r 1 (by decide) (r1.2.2 (by omega)) r1.2.1, a.r 1 (by decide) (r2.2.2 (by omega)) r2.2.1]
theorem agr_lev {g h : Gd} (a : agr g h) (o : Ok g) : agr (levG g) (levG h) := by
  have r1 := highG_rng o
  have r2 := lowG_rng o
  have r3 := ok2 o
  unfold levG
  rw [← agr_high a o, ← agr_lowG a o, ← agr_diff a o]
  split
  · rename_i q
    have z : 0 < g 4 2 := by
      unfold diffG at q
      split at q <;> omega
    exact agr_goes a ⟨r1.2.2 z, r1.2.1⟩ ⟨r2.2.2 z, r2.2.1⟩
  · exact a
theorem agr_min {g h : Gd} (a : agr g h) (o : Ok g) : agr (minG g) (minG h) := by
  have k : agr (if dusk g then levG g else dealsG g (many g)) (if dusk h then levG h else dealsG h (many h)) := by
    by_cases q : dusk g
    · rw [if_pos q, if_pos ((agr_dusk a).mp q)]; exact agr_lev a o
    · rw [if_neg q, if_neg (fun z => q ((agr_dusk a).mpr z)), ← agr_many a]; exact agr_deals a o _ (many_le o)
  exact agr_up4 k (by decide) (by rw [k.1 0])
theorem agr_mins {g h : Gd} (a : agr g h) (o : Ok g) : ∀ n : Nat, g 4 0 + n ≤ 1000000 → agr (minsG g n) (minsG h n)
  | 0, _ => a
  | n + 1, hn => agr_min (agr_mins a o n (by omega)) (minsG_ok o n (by omega))
theorem later {g h : Gd} (a : agr g h) (o : Ok g) {n : Int} (hn : 0 ≤ n) (hm : g 4 0 + n ≤ 1000000) {w c : Int} (hw : 0 ≤ w ∧ w < 4) (hc : 0 ≤ c ∧ c < g 4 2) : minsG g (Int.toNat n) w c = minsG h (Int.toNat n) w c :=
  (agr_mins a o (Int.toNat n) (by omega)).r w hw hc.1 (by rw [minsG_42]; exact hc.2)
theorem laterD {g h : Gd} (a : agr g h) (o : Ok g) {n : Int} (hn : 0 ≤ n) (hm : g 4 0 + n ≤ 1000000) : diffG (minsG g (Int.toNat n)) = diffG (minsG h (Int.toNat n)) :=
  agr_diff (agr_mins a o (Int.toNat n) (by omega)) (minsG_ok o _ (by omega))
theorem agr_add {g h : Gd} (a : agr g h) (o : Ok g) (k x y : Int) : agr (addG g k x y) (addG h k x y) := by
  have o2 := ok2 o
  have e2 := a.1 2
  refine ⟨fun d => ?_, fun w d h0 h1 h2 h3 => ?_⟩
  · show up2 _ 4 2 (g 4 2 + 1) 4 d = up2 _ 4 2 (h 4 2 + 1) 4 d
    rw [up2_if, up2_if, e2]
    split
    · rfl
    · exact a.1 d
  · have e : addG g k x y 4 2 = g 4 2 + 1 := up2_same _ _ _ _
    rw [e] at h3
    have q : d < g 4 2 → g w d = h w d := fun z => a.2 w d h0 h1 h2 z
    rcases (show w = 0 ∨ w = 1 ∨ w = 2 ∨ w = 3 by omega) with rfl | rfl | rfl | rfl
    · show up2 g 0 (g 4 2) k 0 d = up2 h 0 (h 4 2) k 0 d
      rw [up2_if, up2_if, ← e2]; split
      · rfl
      · exact q (by omega)
    · show up2 g 1 (g 4 2) x 1 d = up2 h 1 (h 4 2) x 1 d
      rw [up2_if, up2_if, ← e2]; split
      · rfl
      · exact q (by omega)
    · show up2 g 2 (g 4 2) y 2 d = up2 h 2 (h 4 2) y 2 d
      rw [up2_if, up2_if, ← e2]; split
      · rfl
      · exact q (by omega)
    · show up2 g 3 (g 4 2) 0 3 d = up2 h 3 (h 4 2) 0 3 d
      rw [up2_if, up2_if, ← e2]; split
      · rfl
      · exact q (by omega)
