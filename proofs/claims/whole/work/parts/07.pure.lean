theorem mayG_rng {g : Gd} (h : Ok g) (f t : Int) {n : Int} (hn : 0 ≤ n) : 0 ≤ mayG g f t n ∧ mayG g f t n ≤ n ∧ mayG g f t n ≤ g 1 f ∧ mayG g f t n ≤ 200 - g 1 t := by
  have h1 := okH h f
  have h2 := okH h t
  unfold mayG
  omega
theorem goesG_ok {g : Gd} (h : Ok g) (f t : Int) {n : Int} (hn : 0 ≤ n) (h1 : n ≤ g 1 f) (h2 : n ≤ 200 - g 1 t) : Ok (goesG g f t n) := by
  have a1 := okH h f
  have a2 := okH h t
  have k1 : Ok (up2 g 1 f (g 1 f - n)) := h.upH f (by omega)
  have k2 : Ok (up2 (up2 g 1 f (g 1 f - n)) 1 t (up2 g 1 f (g 1 f - n) 1 t + n)) := by
    refine k1.upH t ?_
    rw [up2_if]
    split
    · omega
    · omega
  have k3 : ∀ {x : Gd}, Ok x → Ok (up2 x 3 f (max (x 3 f - n) (-9999))) := fun {x} hx => hx.upO f (by have := okO hx f; omega)
  have k4 : ∀ {x : Gd}, Ok x → Ok (up2 x 3 t (min (x 3 t + n) 9999)) := fun {x} hx => hx.upO t (by have := okO hx t; omega)
  exact k4 (k3 k2)
theorem goesG_4 (g : Gd) (f t n c : Int) : goesG g f t n 4 c = g 4 c := rfl
theorem goesG_0 (g : Gd) (f t n c : Int) : goesG g f t n 0 c = g 0 c := rfl
theorem goesG_2 (g : Gd) (f t n c : Int) : goesG g f t n 2 c = g 2 c := rfl
theorem pushG_ok {g : Gd} (h : Ok g) (c : Int) {v : Int} (hv : 0 ≤ v) : Ok (pushG g c v) := h.upH c (by have := okH h c; omega)
theorem addG_ok {g : Gd} (h : Ok g) {k a m : Int} (h0 : g 4 2 < 8) (hk : 0 ≤ k ∧ k ≤ 5) (ha : 0 ≤ a ∧ a ≤ 200) (hm : 0 ≤ m ∧ m ≤ 99) : Ok (addG g k a m) := by
  have := ok2 h
  exact Ok.up2 ((((h.upK _ hk).upH _ ha).upM _ hm).upO _ (by omega)) (by omega)
theorem swapG_ok {g : Gd} (h : Ok g) (a b : Int) : Ok (swapG g a b) := by
  refine ⟨h.1, h.2.1, h.2.2.1, fun c => ?_⟩
  show ((0 : Int) ≤ (if c = b then g 0 a else if c = a then g 0 b else g 0 c) ∧ (if c = b then g 0 a else if c = a then g 0 b else g 0 c) ≤ 5) ∧ ((0 : Int) ≤ (if c = b then g 1 a else if c = a then g 1 b else g 1 c) ∧ (if c = b then g 1 a else if c = a then g 1 b else g 1 c) ≤ 200) ∧ ((0 : Int) ≤ (if c = b then g 2 a else if c = a then g 2 b else g 2 c) ∧ (if c = b then g 2 a else if c = a then g 2 b else g 2 c) ≤ 99) ∧ ((-9999 : Int) ≤ (if c = b then g 3 a else if c = a then g 3 b else g 3 c) ∧ (if c = b then g 3 a else if c = a then g 3 b else g 3 c) ≤ 9999)
  by_cases q : c = b
  · simp only [if_pos q]; exact h.2.2.2 a
  · simp only [if_neg q]
    by_cases q2 : c = a
    · simp only [if_pos q2]; exact h.2.2.2 b
    · simp only [if_neg q2]; exact h.2.2.2 c
theorem likeG_ok {g t : Gd} (h : Ok g) (ht : Ok t) : Ok (likeG g t) := by
  refine ⟨ht.1, ht.2.1, ht.2.2.1, fun c => ?_⟩
  show ((0 : Int) ≤ (if c < t 4 2 then t 0 c else g 0 c) ∧ (if c < t 4 2 then t 0 c else g 0 c) ≤ 5) ∧ ((0 : Int) ≤ (if c < t 4 2 then t 1 c else g 1 c) ∧ (if c < t 4 2 then t 1 c else g 1 c) ≤ 200) ∧ ((0 : Int) ≤ (if c < t 4 2 then t 2 c else g 2 c) ∧ (if c < t 4 2 then t 2 c else g 2 c) ≤ 99) ∧ ((-9999 : Int) ≤ (if c < t 4 2 then t 3 c else g 3 c) ∧ (if c < t 4 2 then t 3 c else g 3 c) ≤ 9999)
  by_cases q : c < t 4 2
  · simp only [if_pos q]; exact ht.2.2.2 c
  · simp only [if_neg q]; exact h.2.2.2 c
theorem payG_ok {g : Gd} (h : Ok g) (c o : Int) (hp : paysG g c ≤ g 2 c) : Ok (payG g c o) := by
  have h1 := paysG_rng g c
  have h2 := okM h c
  have k1 : Ok (up2 g 2 c (g 2 c - paysG g c)) := h.upM c (by omega)
  have h3 := okM k1 o
  exact k1.upM o (by omega)
theorem payG_4 (g : Gd) (c o d : Int) : payG g c o 4 d = g 4 d := rfl
theorem haveG_ok {g : Gd} (h : Ok g) (c : Int) (hw : 0 < wantsG g c) (hp : paysG g c ≤ g 2 c) : Ok (haveG g c) := by
  have h1 := yieldsG_rng h (nextG g c)
  have h2 := mayG_rng h (nextG g c) c (n := min (wantsG g c) (yieldsG g (nextG g c))) (by omega)
  have k1 : Ok (goesG g (nextG g c) c (mayG g (nextG g c) c (min (wantsG g c) (yieldsG g (nextG g c))))) := goesG_ok h _ _ h2.1 h2.2.2.1 h2.2.2.2
  unfold haveG
  try dsimp only
  split
  · exact payG_ok k1 _ _ hp
  · exact k1
theorem haveG_4 (g : Gd) (c d : Int) : haveG g c 4 d = g 4 d := by
  unfold haveG
  try dsimp only
  split <;> rfl
theorem dealG_4 (g : Gd) (c d : Int) : dealG g c 4 d = g 4 d := by
  unfold dealG
  split
  · exact haveG_4 g c d
  · split <;> rfl
theorem dealG_ok {g : Gd} (h : Ok g) (c : Int) : Ok (dealG g c) := by
  unfold dealG
  split
  · rename_i q; exact haveG_ok h c q.1 q.2
  · split
    · have h2 := mayG_rng h c (nextG g c) (n := -(wantsG g c)) (by omega)
      exact goesG_ok h _ _ h2.1 h2.2.2.1 h2.2.2.2
    · exact h
theorem dealsG_4 (g : Gd) (d : Int) : ∀ n : Nat, dealsG g n 4 d = g 4 d
  | 0 => rfl
  | n + 1 => by
    show dealG (dealsG g n) (n : Int) 4 d = g 4 d
    rw [dealG_4, dealsG_4 g d n]
theorem dealsG_ok {g : Gd} (h : Ok g) : ∀ n : Nat, Ok (dealsG g n)
  | 0 => h
  | n + 1 => dealG_ok (dealsG_ok h n) _
theorem levG_4 (g : Gd) (d : Int) : levG g 4 d = g 4 d := by unfold levG; split <;> rfl
theorem mostN_max (f : Int → Int) : ∀ (n : Nat) (c : Int), 0 ≤ c → c < n → f c ≤ f (mostN f n)
  | 0, c, h0, h1 => by omega
  | n + 1, c, h0, h1 => by
    have r := mostN_rng f n
    unfold mostN
    by_cases q : c < n
    · have ih := mostN_max f n c h0 q
      split
      · rename_i z
        rcases z with z | z
        · have := r.2.2 (by omega); omega
        · omega
      · exact ih
    · have e : c = (n : Int) := by omega
      subst e
      split
      · exact Int.le_refl _
      · omega
theorem lowN_min (f : Int → Int) : ∀ (n : Nat) (c : Int), 0 ≤ c → c < n → f (lowN f n) ≤ f c
  | 0, c, h0, h1 => by omega
  | n + 1, c, h0, h1 => by
    have r := lowN_rng f n
    unfold lowN
    by_cases q : c < n
    · have ih := lowN_min f n c h0 q
      split
      · rename_i z
        rcases z with z | z
        · have := r.2.2 (by omega); omega
        · omega
      · exact ih
    · have e : c = (n : Int) := by omega
      subst e
      split
      · exact Int.le_refl _
      · omega
theorem diffG_rng {g : Gd} (h : Ok g) : 0 ≤ diffG g ∧ diffG g ≤ 200 := by
  have h1 := okH h (highG g)
  have h2 := okH h (lowG g)
  have h3 := highG_rng h
  have h5 := ok2 h
  unfold diffG
  split
  · omega
  · have := lowN_min (g 1) (many g) (highG g) (h3.2.2 (by omega)) (by have := h3.2.1; unfold many; omega)
    unfold lowG at *
    omega
theorem levG_ok {g : Gd} (h : Ok g) : Ok (levG g) := by
  unfold levG
  split
  · rename_i q
    have h1 := okH h (highG g)
    have h2 := okH h (lowG g)
    unfold diffG at q
    by_cases z : g 4 2 = 0
    · rw [if_pos z] at q; omega
    · rw [if_neg z] at q
      exact goesG_ok h _ _ (by omega) (by omega) (by omega)
  · exact h
theorem minG_42 (g : Gd) : minG g 4 2 = g 4 2 := by
  unfold minG
  try dsimp only
  show (if dusk g then levG g else dealsG g (many g)) 4 2 = g 4 2
  split
  · exact levG_4 g 2
  · exact dealsG_4 g 2 _
theorem minG_41 (g : Gd) : minG g 4 1 = g 4 1 := by
  unfold minG
  try dsimp only
  show (if dusk g then levG g else dealsG g (many g)) 4 1 = g 4 1
  split
  · exact levG_4 g 1
  · exact dealsG_4 g 1 _
theorem minG_40 (g : Gd) : minG g 4 0 = g 4 0 + 1 := by
  unfold minG
  try dsimp only
  rw [up2_same]
  congr 1
  split
  · exact levG_4 g 0
  · exact dealsG_4 g 0 _
theorem minG_ok {g : Gd} (h : Ok g) (hm : g 4 0 < 1000000) : Ok (minG g) := by
  have k : Ok (if dusk g then levG g else dealsG g (many g)) := by
    split
    · exact levG_ok h
    · exact dealsG_ok h _
  have e : (if dusk g then levG g else dealsG g (many g)) 4 0 = g 4 0 := by
    split
    · exact levG_4 g 0
    · exact dealsG_4 g 0 _
  have := ok0 h
  exact k.up0 (by omega)
theorem minsG_42 (g : Gd) : ∀ n : Nat, minsG g n 4 2 = g 4 2
  | 0 => rfl
  | n + 1 => by
    show minG (minsG g n) 4 2 = g 4 2
    rw [minG_42, minsG_42 g n]
theorem minsG_41 (g : Gd) : ∀ n : Nat, minsG g n 4 1 = g 4 1
  | 0 => rfl
  | n + 1 => by
    show minG (minsG g n) 4 1 = g 4 1
    rw [minG_41, minsG_41 g n]
theorem minsG_40 (g : Gd) : ∀ n : Nat, minsG g n 4 0 = g 4 0 + n
  | 0 => by show g 4 0 = g 4 0 + ((0 : Nat) : Int); omega
  | n + 1 => by
    show minG (minsG g n) 4 0 = g 4 0 + ((n + 1 : Nat) : Int)
    rw [minG_40, minsG_40 g n]
    omega
theorem minsG_ok {g : Gd} (h : Ok g) : ∀ n : Nat, g 4 0 + n ≤ 1000000 → Ok (minsG g n)
  | 0, _ => h
  | n + 1, hm => minG_ok (minsG_ok h n (by omega)) (by rw [minsG_40]; omega)
theorem tn_s {i : Int} (h : 0 ≤ i) : (i + 1).toNat = i.toNat + 1 := by omega
theorem mostN_s (f : Int → Int) {i : Int} (h : 0 ≤ i) : mostN f (i + 1).toNat = if mostN f i.toNat < 0 ∨ f (mostN f i.toNat) < f i then i else mostN f i.toNat := by
  rw [tn_s h]
  show (if mostN f i.toNat < 0 ∨ f (mostN f i.toNat) < f ((i.toNat : Nat) : Int) then ((i.toNat : Nat) : Int) else mostN f i.toNat) = _
  rw [Int.toNat_of_nonneg h]
theorem lowN_s (f : Int → Int) {i : Int} (h : 0 ≤ i) : lowN f (i + 1).toNat = if lowN f i.toNat < 0 ∨ f i < f (lowN f i.toNat) then i else lowN f i.toNat := by
  rw [tn_s h]
  show (if lowN f i.toNat < 0 ∨ f ((i.toNat : Nat) : Int) < f (lowN f i.toNat) then ((i.toNat : Nat) : Int) else lowN f i.toNat) = _
  rw [Int.toNat_of_nonneg h]
theorem sumN_s (f : Int → Int) {i : Int} (h : 0 ≤ i) : sumN f (i + 1).toNat = sumN f i.toNat + f i := by
  rw [tn_s h]
  show sumN f i.toNat + f ((i.toNat : Nat) : Int) = _
  rw [Int.toNat_of_nonneg h]
theorem dustN_s (f : Int → Int) {i : Int} (h : 0 ≤ i) : dustN f (i + 1).toNat = if f i = 0 then dustN f i.toNat ||| (iI 1 <<< (iI i &&& 31)) else dustN f i.toNat := by
  rw [tn_s h]
  show (if f ((i.toNat : Nat) : Int) = 0 then dustN f i.toNat ||| (iI 1 <<< (iI ((i.toNat : Nat) : Int) &&& 31)) else dustN f i.toNat) = _
  rw [Int.toNat_of_nonneg h]
theorem dealsG_s (g : Gd) {i : Int} (h : 0 ≤ i) : dealsG g (i + 1).toNat = dealG (dealsG g i.toNat) i := by
  rw [tn_s h]
  show dealG (dealsG g i.toNat) ((i.toNat : Nat) : Int) = _
  rw [Int.toNat_of_nonneg h]
theorem minsG_s (g : Gd) {i : Int} (h : 0 ≤ i) : minsG g (i + 1).toNat = minG (minsG g i.toNat) := by
  rw [tn_s h]; rfl
theorem like_cpy {g t : Gd} (ht : Ok t) {w : Int} (hw : w ≠ 4) : va_cpy (aG t w) (aG g w) (Int.toNat 0) (Int.toNat 0) (Int.toNat (t 4 2)) = aG (likeG g t) w := by
  have := ok2 ht
  funext i
  unfold va_cpy aG likeG
  rw [if_neg hw]
  by_cases q : (i : Int) < t 4 2
  · rw [if_pos q, if_pos ⟨Nat.zero_le _, by omega⟩]
    congr 2
    omega
  · rw [if_neg q, if_neg (fun z => q (by omega))]
theorem swap_cpy {g : Gd} {a b w : Int} (ha : 0 ≤ a) (hb : 0 ≤ b) (hw : w ≠ 4) : upd (upd (aG g w) (Int.toNat a) (aG g w (Int.toNat b))) (Int.toNat b) (aG g w (Int.toNat a)) = aG (swapG g a b) w := by
  rw [aG_at ha, aG_at hb]
  funext i
  unfold upd aG swapG
  rw [if_neg hw]
  by_cases q : i = Int.toNat b
  · rw [if_pos q, if_pos (by omega)]
  · rw [if_neg q, if_neg (show ¬ ((i : Int) = b) by omega)]
    by_cases q2 : i = Int.toNat a
    · rw [if_pos q2, if_pos (show (i : Int) = a by omega)]
    · rw [if_neg q2, if_neg (show ¬ ((i : Int) = a) by omega)]
theorem mostG_rng {g : Gd} (h : Ok g) (w : Int) : -1 ≤ mostN (g w) (many g) ∧ mostN (g w) (many g) < g 4 2 ∧ (0 < g 4 2 → 0 ≤ mostN (g w) (many g)) := by
  have h1 := mostN_rng (g w) (many g)
  have h2 := ok2 h
  unfold many at h1
  refine ⟨h1.1, ?_, fun q => h1.2.2 (by omega)⟩
  have := h1.2.1
  unfold many
  omega
