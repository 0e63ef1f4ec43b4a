def fin (k : Int) : Int32 := iI (-1000000001 - k)
def fstI (P : Int → Prop) [DecidablePred P] : Nat → Int
  | 0 => 0
  | n + 1 => if fstI P n < (n : Int) then fstI P n else if P (n : Int) then (n : Int) else (n : Int) + 1
theorem fstI_rng (P : Int → Prop) [DecidablePred P] : ∀ n : Nat, 0 ≤ fstI P n ∧ fstI P n ≤ n
  | 0 => ⟨Int.le_refl _, Int.le_refl _⟩
  | n + 1 => by
    have ih := fstI_rng P n
    unfold fstI
    repeat' split
    all_goals omega
theorem fst_none (P : Int → Prop) [DecidablePred P] : ∀ n : Nat, (∀ j : Int, 0 ≤ j → j < n → ¬ P j) → fstI P n = n
  | 0, _ => rfl
  | n + 1, h => by
    have ih := fst_none P n (fun j h0 h1 => h j h0 (by omega))
    unfold fstI
    rw [ih, if_neg (by omega), if_neg (h n (by omega) (by omega))]
    omega
theorem fst_hit (P : Int → Prop) [DecidablePred P] : ∀ (n : Nat) (k : Int), 0 ≤ k → k < n → P k → (∀ j : Int, 0 ≤ j → j < k → ¬ P j) → fstI P n = k
  | 0, k, h0, h1, _, _ => by omega
  | n + 1, k, h0, h1, hp, hq => by
    unfold fstI
    by_cases q : k < n
    · rw [fst_hit P n k h0 q hp hq, if_pos q]
    · have e : k = (n : Int) := by omega
      rw [fst_none P n (fun j a b => hq j a (by omega)), if_neg (by omega), ← e, if_pos hp]
def amx (V : Int → Int) (sk : Int → Bool) (b0 m0 : Int) : Nat → Int × Int
  | 0 => (b0, m0)
  | n + 1 => if sk (n : Int) = false ∧ (amx V sk b0 m0 n).2 < V (n : Int) then ((n : Int), V (n : Int)) else amx V sk b0 m0 n
theorem amx_s (V : Int → Int) (sk : Int → Bool) (b0 m0 : Int) {i : Int} (h : 0 ≤ i) : amx V sk b0 m0 (i + 1).toNat = if sk i = false ∧ (amx V sk b0 m0 i.toNat).2 < V i then (i, V i) else amx V sk b0 m0 i.toNat := by
  rw [tn_s h]
  show (if sk ((i.toNat : Nat) : Int) = false ∧ (amx V sk b0 m0 i.toNat).2 < V ((i.toNat : Nat) : Int) then (((i.toNat : Nat) : Int), V ((i.toNat : Nat) : Int)) else amx V sk b0 m0 i.toNat) = _
  rw [Int.toNat_of_nonneg h]
theorem amx_t {V : Int → Int} {sk : Int → Bool} {b0 m0 i b mx : Int} (h : 0 ≤ i) (hb : (b, mx) = amx V sk b0 m0 i.toNat) (h1 : sk i = false) (h2 : mx < V i) : (i, V i) = amx V sk b0 m0 (i + 1).toNat := by
  rw [amx_s _ _ _ _ h, ← hb, if_pos ⟨h1, h2⟩]
theorem amx_f {V : Int → Int} {sk : Int → Bool} {b0 m0 i b mx : Int} (h : 0 ≤ i) (hb : (b, mx) = amx V sk b0 m0 i.toNat) (h1 : ¬ (sk i = false ∧ mx < V i)) : (b, mx) = amx V sk b0 m0 (i + 1).toNat := by
  rw [amx_s _ _ _ _ h, ← hb, if_neg h1]
def amn (V : Int → Int) (b0 m0 : Int) : Nat → Int × Int
  | 0 => (b0, m0)
  | n + 1 => if V (n : Int) < (amn V b0 m0 n).2 then ((n : Int), V (n : Int)) else amn V b0 m0 n
theorem amn_s (V : Int → Int) (b0 m0 : Int) {i : Int} (h : 0 ≤ i) : amn V b0 m0 (i + 1).toNat = if V i < (amn V b0 m0 i.toNat).2 then (i, V i) else amn V b0 m0 i.toNat := by
  rw [tn_s h]
  show (if V ((i.toNat : Nat) : Int) < (amn V b0 m0 i.toNat).2 then (((i.toNat : Nat) : Int), V ((i.toNat : Nat) : Int)) else amn V b0 m0 i.toNat) = _
  rw [Int.toNat_of_nonneg h]
theorem amn_t {V : Int → Int} {b0 m0 i b mx : Int} (h : 0 ≤ i) (hb : (b, mx) = amn V b0 m0 i.toNat) (h2 : V i < mx) : (i, V i) = amn V b0 m0 (i + 1).toNat := by
  rw [amn_s _ _ _ h, ← hb, if_pos h2]
theorem amn_f {V : Int → Int} {b0 m0 i b mx : Int} (h : 0 ≤ i) (hb : (b, mx) = amn V b0 m0 i.toNat) (h2 : ¬ V i < mx) : (b, mx) = amn V b0 m0 (i + 1).toNat := by
  rw [amn_s _ _ _ h, ← hb, if_neg h2]
abbrev FF : Type := Int → Int
abbrev inC (g : Gd) (c : Int) : Prop := 0 ≤ c ∧ c < g 4 2
def opDark (g : Gd) (fd : FF) (v : Int) : Int32 × Gd × FF := if 0 ≤ v ∧ v ≤ 59 then (iI (g 4 1), up2 g 4 1 v, fd) else (fin 0, g, fnd fd 0)
def opNow (g : Gd) (fd : FF) (w : Int) : Int32 × FF :=
  if w = 0 then (iI (g 4 0), fd)
  else if w = 1 then (iI (g 4 0 % 60), fd)
  else if w = 2 then (bI (dusk g), fd)
  else if w = 3 then (bI (satur g), fd)
  else if w = 4 then (iI (sumN (g 1) (many g)), fd)
  else if w = 5 then (bI (diffG g < 2), fd)
  else if w = 6 then (dustN (g 1) (many g), fd)
  else if w = 7 then (iI (highG g), fd)
  else (fin 0, fnd fd 0)
def opChild (g : Gd) (fd : FF) (k : Int) : Int32 × Gd × FF :=
  if 0 ≤ k ∧ k ≤ 5 then (if g 4 2 < 8 then (iI (g 4 2), addG g k 50 5, fd) else (fin 1, g, fnd fd 1)) else (fin 0, g, fnd fd 0)
def opOf (g : Gd) (fd : FF) (c w : Int) : Int32 × FF :=
  if inC g c then
    (if w = 0 then (iI (g 0 c), fd)
    else if w = 1 then (iI (g 1 c), fd)
    else if w = 2 then (iI (g 2 c), fd)
    else if w = 3 then (iI (100000 + g 3 c), fd)
    else if w = 4 then (iI (100 + wantsG g c), fd)
    else if w = 5 then (iI (paysG g c), fd)
    else if w = 6 then (iI (yieldsG g c), fd)
    else (fin 0, fnd fd 0))
  else (fin 0, fnd fd 0)
def opSet (g : Gd) (fd : FF) (c w v : Int) : Int32 × Gd × FF :=
  if inC g c ∧ ((w = 1 ∧ 0 ≤ v ∧ v ≤ 200) ∨ (w = 2 ∧ 0 ≤ v ∧ v ≤ 99) ∨ (w = 3 ∧ -9999 ≤ v ∧ v ≤ 9999)) then (iI (g w c), up2 g w c v, fd) else (fin 0, g, fnd fd 0)
def opTurn (g : Gd) (fd : FF) (c k : Int) : Int32 × Gd × FF := if inC g c ∧ 0 ≤ k ∧ k ≤ 5 then (iI (g 0 c), up2 g 0 c k, fd) else (fin 0, g, fnd fd 0)
def opAs (g : Gd) (fd : FF) (c k : Int) : Int32 × FF := if inC g c ∧ 0 ≤ k ∧ k ≤ 5 then (if isK (g 0 c) k then (iI (g 1 c), fd) else (fin 2, fnd fd 2)) else (fin 0, fnd fd 0)
def opPush (g : Gd) (fd : FF) (c v : Int) : Int32 × Gd × FF := if inC g c ∧ 1 ≤ v ∧ v ≤ 99 then (iI (pushG g c v 1 c), pushG g c v, fd) else (fin 0, g, fnd fd 0)
def opSwap (g : Gd) (fd : FF) (a b : Int) : Int32 × Gd × FF := if inC g a ∧ inC g b ∧ a ≠ b then (iI 1, swapG g a b, fd) else (fin 0, g, fnd fd 0)
def opMinutes (g : Gd) (fd : FF) (n : Int) : Int32 × Gd × FF :=
  if 1 ≤ n ∧ n ≤ 200 then (if g 4 0 + n ≤ 99999 then (iI (highG (minsG g (Int.toNat n))), minsG g (Int.toNat n), fd) else (fin 4, g, fnd fd 4)) else (fin 0, g, fnd fd 0)
def opOn (g : Gd) (fd : FF) (c n w : Int) : Int32 × FF := if inC g c ∧ (0 ≤ n ∧ n ≤ 400) ∧ 0 ≤ w ∧ w ≤ 1 then (iI (minsG g (Int.toNat n) (1 + w) c), fd) else (fin 0, fnd fd 0)
def opOwes (g : Gd) (fd : FF) (c n : Int) : Int32 × FF := if inC g c ∧ 0 ≤ n ∧ n ≤ 400 then (iI (minsG g (Int.toNat n) 3 c), fd) else (fin 0, fnd fd 0)
def foundI (fd : FF) (N n : Int) : Int32 × FF := if n < N then (iI n, fd) else (fin 3, fnd fd 3)
def opLevel (g : Gd) (fd : FF) : Int32 × FF := foundI fd 401 (fstI (fun i => diffG (minsG g (Int.toNat i)) < 2) 401)
def opComes (g : Gd) (fd : FF) (c v : Int) : Int32 × FF := if inC g c ∧ 0 ≤ v ∧ v ≤ 200 then foundI fd 401 (fstI (fun i => v ≤ minsG g (Int.toNat i) 1 c) 401) else (fin 0, fnd fd 0)
def opDust (g : Gd) (fd : FF) (c : Int) : Int32 × FF := if inC g c then foundI fd 401 (fstI (fun i => minsG g (Int.toNat i) 1 c ≤ 0) 401) else (fin 0, fnd fd 0)
def noneI (fd : FF) (b : Int) : Int32 × FF := if b < 0 then (fin 3, fnd fd 3) else (iI b, fd)
abbrev plV (g : Gd) (c n : Int) : Int → Int := fun k => minsG (swapG g c k) (Int.toNat n) 1 k
abbrev plS (c : Int) : Int → Bool := fun k => decide (k = c)
def opPlace (g : Gd) (fd : FF) (c n : Int) : Int32 × FF := if inC g c ∧ 1 ≤ n ∧ n ≤ 100 then noneI fd (amx (plV g c n) (plS c) (-1) (minsG g (Int.toNat n) 1 c) (many g)).1 else (fin 0, fnd fd 0)
abbrev knV (g : Gd) (c n : Int) : Int → Int := fun k => minsG (up2 g 0 c k) (Int.toNat n) 1 c
def opKind (g : Gd) (fd : FF) (c n : Int) : Int32 × FF := if inC g c ∧ 1 ≤ n ∧ n ≤ 100 then (iI (amx (knV g c n) (fun _ => false) 0 (-1) 6).1, fd) else (fin 0, fnd fd 0)
def opMarbles (g : Gd) (fd : FF) (c n v : Int) : Int32 × FF := if inC g c ∧ (1 ≤ n ∧ n ≤ 100) ∧ 0 ≤ v ∧ v ≤ 200 then foundI fd 100 (fstI (fun k => v ≤ minsG (up2 g 2 c k) (Int.toNat n) 1 c) 100) else (fin 0, fnd fd 0)
abbrev niV (g : Gd) (n : Int) : Int → Int := fun k => diffG (minsG (up2 g 4 1 k) (Int.toNat n))
def opNight (g : Gd) (fd : FF) (n : Int) : Int32 × FF := if 1 ≤ n ∧ n ≤ 120 then (iI (amn (niV g n) 0 201 60).1, fd) else (fin 0, fnd fd 0)
def opEnough (g : Gd) (fd : FF) (c n v : Int) : Int32 × FF := if inC g c ∧ (0 ≤ n ∧ n ≤ 100) ∧ 0 ≤ v ∧ v ≤ 200 then foundI fd 100 (fstI (fun k => v ≤ minsG (pushG g c k) (Int.toNat n) 1 c) 100) else (fin 0, fnd fd 0)
abbrev whV (g : Gd) (v n : Int) : Int → Int := fun k => minsG (pushG g k v) (Int.toNat n) 1 k
def opWhom (g : Gd) (fd : FF) (v n : Int) : Int32 × FF := if (1 ≤ v ∧ v ≤ 99) ∧ 0 ≤ n ∧ n ≤ 100 then noneI fd (amx (whV g v n) (fun _ => false) (-1) (-1) (many g)).1 else (fin 0, fnd fd 0)
def opDebtor (g : Gd) (fd : FF) (n : Int) : Int32 × FF := if 0 ≤ n ∧ n ≤ 400 then noneI fd (mostN (minsG g (Int.toNat n) 3) (many (minsG g (Int.toNat n)))) else (fin 0, fnd fd 0)
theorem lt_si {i : Int} {P : Int → Prop} (h : ∀ j, 0 ≤ j → j < i → ¬ P j) (hi : ¬ P i) : ∀ j, 0 ≤ j → j < i + 1 → ¬ P j := fun j h0 h1 => by
  by_cases q : j < i
  · exact h j h0 q
  · obtain rfl : j = i := by omega
    exact hi
theorem lt_sk {k f : Int} {P : Int → Prop} (h : ∀ j, 0 ≤ j → j < k → ¬ P j) (h0 : f = 0 → 0 ≤ k → ¬ P k) (hf : f = 0) : ∀ j, 0 ≤ j → j < k + 1 → ¬ P j := fun j a b => by
  by_cases q : j < k
  · exact h j a q
  · obtain rfl : j = k := by omega
    exact h0 hf a
