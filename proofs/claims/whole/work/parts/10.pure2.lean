abbrev isK (k w : Int) : Prop := w = 0 ∨ w = k ∨ (w = 1 ∧ k = 4) ∨ (w = 2 ∧ k = 5)
theorem kaF_c {a : Int} (h : 0 ≤ a ∧ a ≤ 5) : (a = 0 ∧ kaF a = -1) ∨ (a = 4 ∧ kaF a = 1) ∨ (a = 5 ∧ kaF a = 2) ∨ (1 ≤ a ∧ a ≤ 3 ∧ kaF a = 0) := by
  unfold kaF
  repeat' split
  all_goals omega
def fnd (fd : Int → Int) (k : Int) : Int → Int := up1 fd k (fd k + 1)
def heldI (v a b : Int) : Int := if v < a then a else if b < v then b else v
theorem next_mod {g : Gd} (h : Ok g) {c : Int} (h0 : 0 ≤ c) (h1 : c < g 4 2) : nextG g c = (c + 1) % g 4 2 := by
  unfold nextG
  split
  · rw [Int.emod_eq_of_lt (by omega) (by omega)]
  · rw [show c + 1 = g 4 2 by omega, Int.emod_self]
theorem nextG_ne {g : Gd} {c : Int} (h0 : 0 ≤ c) (h1 : c < g 4 2) (h2 : 2 ≤ g 4 2) : nextG g c ≠ c := by
  unfold nextG; split <;> omega
theorem up2_comm (g : Gd) (w : Int) {a b : Int} (x y : Int) (h : a ≠ b) : up2 (up2 g w a x) w b y = up2 (up2 g w b y) w a x := by
  funext w2 c2
  unfold up2
  by_cases q : w2 = w
  · simp only [if_pos q]
    by_cases q1 : c2 = b
    · rw [if_pos q1, if_neg (by omega), if_pos q1]
    · rw [if_neg q1]
      by_cases q2 : c2 = a
      · rw [if_pos q2, if_pos q2]
      · rw [if_neg q2, if_neg q2, if_neg q1]
  · simp only [if_neg q]
theorem payG_swap (g : Gd) {c o : Int} (h : c ≠ o) : payG g c o = up2 (up2 g 2 o (min (g 2 o + paysG g c) 99)) 2 c (g 2 c - paysG g c) := by
  unfold payG
  rw [up2_comm _ _ _ _ h]
  have e1 : up2 g 2 c (g 2 c - paysG g c) 2 o = g 2 o := up2_c _ _ _ (Ne.symm h)
  rw [e1]
theorem levG_small {g : Gd} (h : Ok g) (h1 : g 4 2 ≤ 1) : levG g = g := by
  unfold levG
  rw [if_neg]
  unfold diffG
  have h2 := ok2 h
  split
  · omega
  · have a := highG_rng h
    have b := lowG_rng h
    have e : highG g = lowG g := by omega
    rw [e]; omega
theorem dealG_small {g : Gd} (c : Int) (h1 : g 4 2 ≤ 1) : dealG g c = g := by
  have e : wantsG g c = 0 := by unfold wantsG; rw [if_pos (by omega)]
  unfold dealG
  rw [e, if_neg (by omega), if_neg (by omega)]
theorem dealsG_small {g : Gd} (h1 : g 4 2 ≤ 1) : ∀ n : Nat, dealsG g n = g
  | 0 => rfl
  | n + 1 => by
    show dealG (dealsG g n) (n : Int) = g
    rw [dealsG_small h1 n, dealG_small _ h1]
theorem minG_small {g : Gd} (h : Ok g) (h1 : g 4 2 ≤ 1) : minG g = up2 g 4 0 (g 4 0 + 1) := by
  unfold minG
  rw [levG_small h h1, dealsG_small h1, ite_self]
/-- swapG, by the rows done so far -/
def swpK (g : Gd) (a b k : Int) : Gd := fun w c => if 0 ≤ w ∧ w < k then (if c = b then g w a else if c = a then g w b else g w c) else g w c
theorem swpK_s {g : Gd} {a b k : Int} (h0 : 0 ≤ k) : up2 (up2 (swpK g a b k) k a (swpK g a b k k b)) k b (swpK g a b k k a) = swpK g a b (k + 1) := by
  have e : ∀ c, swpK g a b k k c = g k c := fun c => by unfold swpK; rw [if_neg (by omega)]
  rw [e, e]
  funext w c
  unfold up2
  by_cases q : w = k
  · simp only [if_pos q]
    subst q
    unfold swpK
    rw [if_pos (show 0 ≤ w ∧ w < w + 1 by omega)]
    by_cases q1 : c = b
    · rw [if_pos q1, if_pos q1]
    · rw [if_neg q1, if_neg q1]
      by_cases q2 : c = a
      · rw [if_pos q2, if_pos q2]
      · rw [if_neg q2, if_neg q2, if_neg (by omega)]
  · simp only [if_neg q]
    unfold swpK
    by_cases q3 : 0 ≤ w ∧ w < k
    · rw [if_pos q3, if_pos (show 0 ≤ w ∧ w < k + 1 by omega)]
    · rw [if_neg q3, if_neg (show ¬ (0 ≤ w ∧ w < k + 1) by omega)]
theorem swpK_0 (g : Gd) (a b : Int) : swpK g a b 0 = g := by
  funext w c
  unfold swpK
  rw [if_neg (by omega)]
theorem rowA_ext {g h : Gd} (h4 : ∀ c, g 4 c = h 4 c) (hw : ∀ w c, 0 ≤ w → w < 4 → g w c = h w c) : rowA g = rowA h := by
  funext j
  unfold rowA
  split
  · rw [h4]
  · rw [hw _ _ (by omega) (by omega)]
theorem swpK_4 (g : Gd) (a b : Int) : rowA (swpK g a b 4) = rowA (swapG g a b) := by
  refine rowA_ext (fun c => ?_) (fun w c h0 h1 => ?_)
  · unfold swpK swapG; rw [if_neg (by omega), if_pos rfl]
  · unfold swpK swapG; rw [if_pos (show 0 ≤ w ∧ w < 4 from ⟨h0, h1⟩), if_neg (show ¬ (w = 4) by omega)]
theorem gw_rng {g : Gd} (h : Ok g) {w : Int} (hw : 0 ≤ w ∧ w < 4) (c : Int) : -10000 ≤ g w c ∧ g w c ≤ 10000 := by
  rcases (show w = 0 ∨ w = 1 ∨ w = 2 ∨ w = 3 by omega) with rfl | rfl | rfl | rfl
  · have := okK h c; omega
  · have := okH h c; omega
  · have := okM h c; omega
  · have := okO h c; omega
theorem or_iI0 (b : Int32) : b ||| iI 0 = b := by
  rw [iI_0]; exact Int32.or_zero
theorem mv_s {ff f : Nat → Int32} {i : Int} (h0 : 0 ≤ i) (hf : ∀ j : Nat, (j : Int) < i → ff j = f j) : ∀ j : Nat, (j : Int) < i + 1 → upd ff (Int.toNat i) (f (Int.toNat i)) j = f j := by
  intro j hj
  unfold upd
  split
  · rename_i q; rw [q]
  · exact hf j (by omega)
