/-! the ground as a table: g 0 KIND, g 1 HEIGHT, g 2 MARBLES, g 3 OWES of one; g 4: 0 MINUTE, 1 DARK, 2 how many -/
abbrev Gd : Type := Int → Int → Int
def up1 (F : Int → Int) (c v : Int) : Int → Int := fun j => if j = c then v else F j
def up2 (g : Gd) (w c v : Int) : Gd := fun w2 c2 => if w2 = w then (if c2 = c then v else g w2 c2) else g w2 c2
def ar (F : Int → Int) : Nat → Int32 := fun i => iI (F (i : Int))
def aG (g : Gd) (w : Int) : Nat → Int32 := fun i => iI (g w (i : Int))
def rowA (g : Gd) : Nat → Int32 := fun j => if j < 3 then iI (g 4 (j : Int)) else iI (g (((j - 3) % 4 : Nat) : Int) (((j - 3) / 4 : Nat) : Int))
abbrev oG (g : Gd) (k h m o : Nat) : va_E := .inr (0, [.int (iI (g 4 0)), .int (iI (g 4 1)), .int (iI (g 4 2)), .ref k, .ref h, .ref m, .ref o])
theorem ar_at {F : Int → Int} {z : Int} (h : 0 ≤ z) : ar F z.toNat = iI (F z) := by unfold ar; rw [Int.toNat_of_nonneg h]
theorem aG_at {g : Gd} {w z : Int} (h : 0 ≤ z) : aG g w z.toNat = iI (g w z) := by unfold aG; rw [Int.toNat_of_nonneg h]
theorem ar_up {F : Int → Int} {z v : Int} (h : 0 ≤ z) : upd (ar F) z.toNat (iI v) = ar (up1 F z v) := by
  funext i
  unfold upd ar up1
  by_cases q : i = z.toNat
  · rw [if_pos q, if_pos (by omega)]
  · rw [if_neg q, if_neg (by omega)]
theorem aG_up {g : Gd} {w z v : Int} (h : 0 ≤ z) : upd (aG g w) z.toNat (iI v) = aG (up2 g w z v) w := by
  funext i
  unfold upd aG up2
  rw [if_pos rfl]
  by_cases q : i = z.toNat
  · rw [if_pos q, if_pos (by omega)]
  · rw [if_neg q, if_neg (by omega)]
theorem rowA_4 {g : Gd} {z : Int} (h : 0 ≤ z) (h2 : z < 3) : rowA g z.toNat = iI (g 4 z) := by
  unfold rowA
  rw [if_pos (by omega), Int.toNat_of_nonneg h]
theorem rowA_at {g : Gd} {w c z : Int} (h : 0 ≤ c) (h1 : 0 ≤ w) (h2 : w < 4) (hz : z = 3 + 4 * c + w) : rowA g z.toNat = iI (g w c) := by
  unfold rowA
  rw [if_neg (by omega)]
  have e1 : (((z.toNat - 3) % 4 : Nat) : Int) = w := by omega
  have e2 : (((z.toNat - 3) / 4 : Nat) : Int) = c := by omega
  rw [e1, e2]
theorem rowA_up4 {g : Gd} {z v : Int} (h : 0 ≤ z) (h2 : z < 3) : upd (rowA g) z.toNat (iI v) = rowA (up2 g 4 z v) := by
  funext j
  unfold upd
  by_cases q : j = z.toNat
  · rw [if_pos q]; subst q; rw [rowA_4 h h2]; unfold up2; rw [if_pos rfl, if_pos rfl]
  · rw [if_neg q]
    unfold rowA up2
    by_cases q3 : j < 3
    · rw [if_pos q3, if_pos q3, if_pos rfl, if_neg (by omega)]
    · rw [if_neg q3, if_neg q3, if_neg (by omega)]
theorem rowA_up {g : Gd} {w c z v : Int} (h : 0 ≤ c) (h1 : 0 ≤ w) (h2 : w < 4) (hz : z = 3 + 4 * c + w) : upd (rowA g) z.toNat (iI v) = rowA (up2 g w c v) := by
  funext j
  unfold upd
  by_cases q : j = z.toNat
  · rw [if_pos q]; subst q; rw [rowA_at h h1 h2 hz]; unfold up2; rw [if_pos rfl, if_pos rfl]
  · rw [if_neg q]
    unfold rowA up2
    by_cases q3 : j < 3
    · rw [if_pos q3, if_pos q3, if_neg (by omega)]
    · rw [if_neg q3, if_neg q3]
      by_cases q4 : (((j - 3) % 4 : Nat) : Int) = w
      · rw [if_pos q4, if_neg (by omega)]
      · rw [if_neg q4]
theorem up2_same (g : Gd) (w c v : Int) : up2 g w c v w c = v := by unfold up2; rw [if_pos rfl, if_pos rfl]
theorem up2_c (g : Gd) (w : Int) {c d : Int} (v : Int) (h : d ≠ c) : up2 g w c v w d = g w d := by unfold up2; rw [if_pos rfl, if_neg h]
theorem up2_w (g : Gd) {w w2 : Int} (c d v : Int) (h : w2 ≠ w) : up2 g w c v w2 d = g w2 d := by unfold up2; rw [if_neg h]
theorem up2_if (g : Gd) (w c v d : Int) : up2 g w c v w d = if d = c then v else g w d := by unfold up2; rw [if_pos rfl]
def Ok (g : Gd) : Prop := (0 ≤ g 4 0 ∧ g 4 0 ≤ 1000000) ∧ (0 ≤ g 4 1 ∧ g 4 1 ≤ 59) ∧ (0 ≤ g 4 2 ∧ g 4 2 ≤ 8) ∧ ∀ c : Int, (0 ≤ g 0 c ∧ g 0 c ≤ 5) ∧ (0 ≤ g 1 c ∧ g 1 c ≤ 200) ∧ (0 ≤ g 2 c ∧ g 2 c ≤ 99) ∧ (-9999 ≤ g 3 c ∧ g 3 c ≤ 9999)
theorem ok0 {g : Gd} (h : Ok g) : 0 ≤ g 4 0 ∧ g 4 0 ≤ 1000000 := h.1
theorem ok1 {g : Gd} (h : Ok g) : 0 ≤ g 4 1 ∧ g 4 1 ≤ 59 := h.2.1
theorem ok2 {g : Gd} (h : Ok g) : 0 ≤ g 4 2 ∧ g 4 2 ≤ 8 := h.2.2.1
theorem okK {g : Gd} (h : Ok g) (c : Int) : 0 ≤ g 0 c ∧ g 0 c ≤ 5 := (h.2.2.2 c).1
theorem okH {g : Gd} (h : Ok g) (c : Int) : 0 ≤ g 1 c ∧ g 1 c ≤ 200 := (h.2.2.2 c).2.1
theorem okM {g : Gd} (h : Ok g) (c : Int) : 0 ≤ g 2 c ∧ g 2 c ≤ 99 := (h.2.2.2 c).2.2.1
theorem okO {g : Gd} (h : Ok g) (c : Int) : -9999 ≤ g 3 c ∧ g 3 c ≤ 9999 := (h.2.2.2 c).2.2.2
theorem Ok.upK {g : Gd} (h : Ok g) (c : Int) {v : Int} (h1 : 0 ≤ v ∧ v ≤ 5) : Ok (up2 g 0 c v) := by
  refine ⟨h.1, h.2.1, h.2.2.1, fun d => ⟨?_, (h.2.2.2 d).2⟩⟩
  rw [up2_if]; split
  · exact h1
  · exact (h.2.2.2 d).1
theorem Ok.upH {g : Gd} (h : Ok g) (c : Int) {v : Int} (h1 : 0 ≤ v ∧ v ≤ 200) : Ok (up2 g 1 c v) := by
  refine ⟨h.1, h.2.1, h.2.2.1, fun d => ⟨(h.2.2.2 d).1, ?_, (h.2.2.2 d).2.2⟩⟩
  rw [up2_if]; split
  · exact h1
  · exact (h.2.2.2 d).2.1
theorem Ok.upM {g : Gd} (h : Ok g) (c : Int) {v : Int} (h1 : 0 ≤ v ∧ v ≤ 99) : Ok (up2 g 2 c v) := by
  refine ⟨h.1, h.2.1, h.2.2.1, fun d => ⟨(h.2.2.2 d).1, (h.2.2.2 d).2.1, ?_, (h.2.2.2 d).2.2.2⟩⟩
  rw [up2_if]; split
  · exact h1
  · exact (h.2.2.2 d).2.2.1
theorem Ok.upO {g : Gd} (h : Ok g) (c : Int) {v : Int} (h1 : -9999 ≤ v ∧ v ≤ 9999) : Ok (up2 g 3 c v) := by
  refine ⟨h.1, h.2.1, h.2.2.1, fun d => ⟨(h.2.2.2 d).1, (h.2.2.2 d).2.1, (h.2.2.2 d).2.2.1, ?_⟩⟩
  rw [up2_if]; split
  · exact h1
  · exact (h.2.2.2 d).2.2.2
theorem Ok.up0 {g : Gd} (h : Ok g) {v : Int} (h1 : 0 ≤ v ∧ v ≤ 1000000) : Ok (up2 g 4 0 v) := ⟨h1, h.2.1, h.2.2.1, h.2.2.2⟩
theorem Ok.up1 {g : Gd} (h : Ok g) {v : Int} (h1 : 0 ≤ v ∧ v ≤ 59) : Ok (up2 g 4 1 v) := ⟨h.1, h1, h.2.2.1, h.2.2.2⟩
theorem Ok.up2 {g : Gd} (h : Ok g) {v : Int} (h1 : 0 ≤ v ∧ v ≤ 8) : Ok (up2 g 4 2 v) := ⟨h.1, h.2.1, h1, h.2.2.2⟩
/-! what the ground says -/
abbrev dusk (g : Gd) : Prop := g 4 1 ≤ g 4 0 % 60
abbrev satur (g : Gd) : Prop := g 4 0 / 60 % 7 = 5
def mostN (f : Int → Int) : Nat → Int
  | 0 => -1
  | n + 1 => if mostN f n < 0 ∨ f (mostN f n) < f (n : Int) then (n : Int) else mostN f n
def lowN (f : Int → Int) : Nat → Int
  | 0 => -1
  | n + 1 => if lowN f n < 0 ∨ f (n : Int) < f (lowN f n) then (n : Int) else lowN f n
def sumN (f : Int → Int) : Nat → Int
  | 0 => 0
  | n + 1 => sumN f n + f (n : Int)
def dustN (f : Int → Int) : Nat → Int32
  | 0 => iI 0
  | n + 1 => if f (n : Int) = 0 then dustN f n ||| (iI 1 <<< (iI (n : Int) &&& 31)) else dustN f n
theorem mostN_rng (f : Int → Int) : ∀ n : Nat, -1 ≤ mostN f n ∧ mostN f n < n ∧ (0 < n → 0 ≤ mostN f n)
  | 0 => ⟨Int.le_refl _, by show (-1 : Int) < ((0 : Nat) : Int); decide, fun h => absurd h (Nat.lt_irrefl 0)⟩
  | n + 1 => by
    have ih := mostN_rng f n
    unfold mostN
    split
    · omega
    · omega
theorem lowN_rng (f : Int → Int) : ∀ n : Nat, -1 ≤ lowN f n ∧ lowN f n < n ∧ (0 < n → 0 ≤ lowN f n)
  | 0 => ⟨Int.le_refl _, by show (-1 : Int) < ((0 : Nat) : Int); decide, fun h => absurd h (Nat.lt_irrefl 0)⟩
  | n + 1 => by
    have ih := lowN_rng f n
    unfold lowN
    split
    · omega
    · omega
abbrev many (g : Gd) : Nat := (g 4 2).toNat
abbrev highG (g : Gd) : Int := mostN (g 1) (many g)
abbrev lowG (g : Gd) : Int := lowN (g 1) (many g)
def diffG (g : Gd) : Int := if g 4 2 = 0 then 0 else g 1 (highG g) - g 1 (lowG g)
theorem highG_rng {g : Gd} (h : Ok g) : -1 ≤ highG g ∧ highG g < g 4 2 ∧ (0 < g 4 2 → 0 ≤ highG g) := by
  have h1 := mostN_rng (g 1) (many g)
  have h2 := ok2 h
  unfold many at h1
  refine ⟨h1.1, ?_, fun q => h1.2.2 (by omega)⟩
  have := h1.2.1
  unfold highG many
  omega
theorem lowG_rng {g : Gd} (h : Ok g) : -1 ≤ lowG g ∧ lowG g < g 4 2 ∧ (0 < g 4 2 → 0 ≤ lowG g) := by
  have h1 := lowN_rng (g 1) (many g)
  have h2 := ok2 h
  unfold many at h1
  refine ⟨h1.1, ?_, fun q => h1.2.2 (by omega)⟩
  have := h1.2.1
  unfold lowG many
  omega
def nextG (g : Gd) (c : Int) : Int := if c + 1 < g 4 2 then c + 1 else 0
def wantsG (g : Gd) (c : Int) : Int :=
  if g 4 2 < 2 then 0
  else if g 0 c = 1 then 5
  else if g 0 c = 2 then 1
  else if g 0 c = 3 then (if g 1 (nextG g c) < g 1 c then -3 else 0)
  else if g 0 c = 4 then (if satur g then 10 else 5)
  else if g 0 c = 5 then (if 60 < g 1 c then 0 else 1)
  else 2
def paysG (g : Gd) (c : Int) : Int := if g 0 c = 2 then 1 else 0
def yieldsG (g : Gd) (c : Int) : Int :=
  if g 0 c = 1 then 2
  else if g 0 c = 2 then 8
  else if g 0 c = 3 then g 1 c
  else if g 0 c = 4 then (if satur g then 0 else 2)
  else if g 0 c = 5 then 8
  else 4
theorem wantsG_rng (g : Gd) (c : Int) : -3 ≤ wantsG g c ∧ wantsG g c ≤ 10 := by
  unfold wantsG; repeat' split
  all_goals omega
theorem paysG_rng (g : Gd) (c : Int) : 0 ≤ paysG g c ∧ paysG g c ≤ 1 := by
  unfold paysG; split <;> omega
theorem yieldsG_rng {g : Gd} (h : Ok g) (c : Int) : 0 ≤ yieldsG g c ∧ yieldsG g c ≤ 200 := by
  have := okH h c
  unfold yieldsG; repeat' split
  all_goals omega
theorem nextG_rng {g : Gd} (h : Ok g) {c : Int} (h0 : 0 ≤ c) (h1 : c < g 4 2) : 0 ≤ nextG g c ∧ nextG g c < g 4 2 := by
  unfold nextG; split <;> omega
/-! what moves -/
def mayG (g : Gd) (f t n : Int) : Int := min n (min (g 1 f) (200 - g 1 t))
def goesG (g : Gd) (f t n : Int) : Gd :=
  let g1 := up2 g 1 f (g 1 f - n)
  let g2 := up2 g1 1 t (g1 1 t + n)
  let g3 := up2 g2 3 f (max (g2 3 f - n) (-9999))
  up2 g3 3 t (min (g3 3 t + n) 9999)
def addG (g : Gd) (k h m : Int) : Gd :=
  let n := g 4 2
  up2 (up2 (up2 (up2 (up2 g 0 n k) 1 n h) 2 n m) 3 n 0) 4 2 (n + 1)
def pushG (g : Gd) (c v : Int) : Gd := up2 g 1 c (min (g 1 c + v) 200)
def swapG (g : Gd) (a b : Int) : Gd := fun w c => if w = 4 then g w c else if c = b then g w a else if c = a then g w b else g w c
def likeG (g t : Gd) : Gd := fun w c => if w = 4 then t w c else if c < t 4 2 then t w c else g w c
def payG (g : Gd) (c o : Int) : Gd :=
  let g1 := up2 g 2 c (g 2 c - paysG g c)
  up2 g1 2 o (min (g1 2 o + paysG g c) 99)
def haveG (g : Gd) (c : Int) : Gd :=
  let o := nextG g c
  let n := mayG g o c (min (wantsG g c) (yieldsG g o))
  if 0 < n then payG (goesG g o c n) c o else goesG g o c n
def dealG (g : Gd) (c : Int) : Gd :=
  if 0 < wantsG g c ∧ paysG g c ≤ g 2 c then haveG g c
  else if wantsG g c < 0 then goesG g c (nextG g c) (mayG g c (nextG g c) (-(wantsG g c)))
  else g
def dealsG (g : Gd) : Nat → Gd
  | 0 => g
  | n + 1 => dealG (dealsG g n) (n : Int)
def levG (g : Gd) : Gd := if 2 ≤ diffG g then goesG g (highG g) (lowG g) 1 else g
def minG (g : Gd) : Gd :=
  let g1 := if dusk g then levG g else dealsG g (many g)
  up2 g1 4 0 (g1 4 0 + 1)
def minsG (g : Gd) : Nat → Gd
  | 0 => g
  | n + 1 => minG (minsG g n)
