abbrev LL : Type := Int → Int64
def upL (F : LL) (i : Int) (v : Int64) : LL := fun j => if j = i then v else F j
def upS (sv : Int → LL) (s i : Int) (v : Int64) : Int → LL := fun s2 i2 => if s2 = s then (if i2 = i then v else sv s2 i2) else sv s2 i2
def setS (sv : Int → LL) (s : Int) (F : LL) : Int → LL := fun s2 i2 => if s2 = s then F i2 else sv s2 i2
def shN (F : LL) : Nat → Int64 := fun j => F (j : Int)
def shA (sv : Int → LL) : Nat → Int64 := fun j => sv ((j / 40 : Nat) : Int) ((j % 40 : Nat) : Int)
theorem shN_at {F : LL} {z : Int} (h : 0 ≤ z) : shN F z.toNat = F z := by unfold shN; rw [Int.toNat_of_nonneg h]
theorem shN_up {F : LL} {z : Int} {v : Int64} (h : 0 ≤ z) : vp_updL (shN F) z.toNat v = shN (upL F z v) := by
  funext i
  unfold vp_updL shN upL
  by_cases q : i = z.toNat
  · rw [if_pos q, if_pos (by omega)]
  · rw [if_neg q, if_neg (by omega)]
theorem shA_at {sv : Int → LL} {s i z : Int} (h : 0 ≤ s) (h1 : 0 ≤ i) (h2 : i < 40) (hz : z = 40 * s + i) : shA sv z.toNat = sv s i := by
  unfold shA
  have e1 : ((z.toNat / 40 : Nat) : Int) = s := by omega
  have e2 : ((z.toNat % 40 : Nat) : Int) = i := by omega
  rw [e1, e2]
theorem shA_up {sv : Int → LL} {s i z : Int} {v : Int64} (h : 0 ≤ s) (h1 : 0 ≤ i) (h2 : i < 40) (hz : z = 40 * s + i) : vp_updL (shA sv) z.toNat v = shA (upS sv s i v) := by
  funext j
  unfold vp_updL
  by_cases q : j = z.toNat
  · rw [if_pos q]; subst q; rw [shA_at h h1 h2 hz]; unfold upS; rw [if_pos rfl, if_pos rfl]
  · rw [if_neg q]
    unfold shA upS
    by_cases q1 : ((j / 40 : Nat) : Int) = s
    · rw [if_pos q1, if_neg (by omega)]
    · rw [if_neg q1]
theorem setS_up (sv : Int → LL) (s i : Int) (v : Int64) : setS sv s (upL (sv s) i v) = upS sv s i v := by
  funext s2 i2
  unfold setS upL upS
  by_cases q : s2 = s
  · subst q; simp only [if_true]
  · rw [if_neg q, if_neg q]
theorem setS_self (sv : Int → LL) (s : Int) : setS sv s (sv s) = sv := by
  funext s2 i2
  unfold setS
  by_cases q : s2 = s
  · subst q; rw [if_pos rfl]
  · rw [if_neg q]
theorem up1_self (F : FF) (c : Int) : up1 F c (F c) = F := by
  funext j
  unfold up1
  split
  · rename_i q; rw [q]
  · rfl
theorem shA_ext {sv sw : Int → LL} (h : ∀ s i : Int, 0 ≤ i → i < 40 → sv s i = sw s i) : shA sv = shA sw := by
  funext j
  unfold shA
  exact h _ _ (by omega) (by omega)
/-- the sheet s with its first k numbers 0 -/
def zerS (sv : Int → LL) (s k : Int) : Int → LL := fun s2 i2 => if s2 = s ∧ i2 < k then 0 else sv s2 i2
theorem zerS_0 (sv : Int → LL) (s : Int) : shA (zerS sv s 0) = shA sv := shA_ext (fun s2 i h0 _ => by unfold zerS; rw [if_neg (by omega)])
theorem zerS_s (sv : Int → LL) (s k : Int) (hk : 0 ≤ k) : shA (upS (zerS sv s k) s k 0) = shA (zerS sv s (k + 1)) := shA_ext (fun s2 i h0 _ => by
  unfold upS zerS
  by_cases q : s2 = s
  · rw [if_pos q]
    by_cases q1 : i = k
    · rw [if_pos q1, if_pos (by omega)]
    · rw [if_neg q1]
      by_cases q2 : i < k
      · rw [if_pos ⟨q, q2⟩, if_pos (by omega)]
      · rw [if_neg (by omega), if_neg (by omega)]
  · rw [if_neg q, if_neg (by omega), if_neg (by omega)])
theorem zerS_40 (sv : Int → LL) (s : Int) : shA (zerS sv s 40) = shA (setS sv s (fun _ => 0)) := shA_ext (fun s2 i _ h1 => by
  unfold zerS setS
  by_cases q : s2 = s
  · rw [if_pos ⟨q, h1⟩, if_pos q]
  · rw [if_neg (by omega), if_neg q])
def nrw (b : Int) (v : Int64) : Int64 := if b = 8 then v.toInt32.toInt8.toInt32.toInt64 else if b = 16 then v.toInt32.toInt16.toInt32.toInt64 else v
theorem nrwS (v : Int64) (d : Nat) (hd : d = 48 ∨ d = 56) : ((v.toBitVec <<< d).sshiftRight d).toInt = v.toInt.bmod (2 ^ (64 - d)) := by
  have hv : v.toInt = (v.toBitVec.toNat : Int).bmod (2 ^ 64) := BitVec.toInt_eq_toNat_bmod _
  rw [BitVec.toInt_sshiftRight, BitVec.toInt_shiftLeft, hv]
  generalize v.toBitVec.toNat = n
  rcases hd with rfl | rfl
  · rw [Nat.shiftLeft_eq, Int.shiftRight_eq_div_pow, Int.bmod_def, Int.bmod_def, Int.bmod_def]
    simp only [Int.natCast_mul, Int.natCast_pow]
    omega
  · rw [Nat.shiftLeft_eq, Int.shiftRight_eq_div_pow, Int.bmod_def, Int.bmod_def, Int.bmod_def]
    simp only [Int.natCast_mul, Int.natCast_pow]
    omega
theorem nrw8 (v : Int64) : (v <<< ((iI 56).toInt64 &&& 63)) >>> ((iI 56).toInt64 &&& 63) = v.toInt32.toInt8.toInt32.toInt64 := by
  have e : (iI 56).toInt64 &&& 63 = 56 := by decide
  rw [e]
  apply Int64.toInt_inj.mp
  rw [Int32.toInt_toInt64, Int8.toInt_toInt32, Int32.toInt_toInt8, Int64.toInt_toInt32]
  have e1 : (v <<< (56 : Int64) >>> (56 : Int64)).toInt = ((v.toBitVec <<< 56).sshiftRight 56).toInt := by
    show ((v <<< (56 : Int64) >>> (56 : Int64)).toBitVec).toInt = _
    rw [Int64.toBitVec_shiftRight, Int64.toBitVec_shiftLeft]
    rfl
  rw [e1, nrwS v 56 (Or.inr rfl)]
  generalize v.toInt = y
  rw [Int.bmod_def, Int.bmod_def, Int.bmod_def]
  omega
theorem nrw16 (v : Int64) : (v <<< ((iI 48).toInt64 &&& 63)) >>> ((iI 48).toInt64 &&& 63) = v.toInt32.toInt16.toInt32.toInt64 := by
  have e : (iI 48).toInt64 &&& 63 = 48 := by decide
  rw [e]
  apply Int64.toInt_inj.mp
  rw [Int32.toInt_toInt64, Int16.toInt_toInt32, Int32.toInt_toInt16, Int64.toInt_toInt32]
  have e1 : (v <<< (48 : Int64) >>> (48 : Int64)).toInt = ((v.toBitVec <<< 48).sshiftRight 48).toInt := by
    show ((v <<< (48 : Int64) >>> (48 : Int64)).toBitVec).toInt = _
    rw [Int64.toBitVec_shiftRight, Int64.toBitVec_shiftLeft]
    rfl
  rw [e1, nrwS v 48 (Or.inl rfl)]
  generalize v.toInt = y
  rw [Int.bmod_def, Int.bmod_def, Int.bmod_def]
  omega
theorem l2i_I {x : Int64} : x.toInt32 = iI x.toInt := by
  apply Int32.toInt_inj.mp
  rw [Int64.toInt_toInt32]
  unfold iI
  rw [Int32.toInt_ofInt]
theorem cmp_lt (x y : Int64) : lg_cmp x y < 0 ↔ x.toInt < y.toInt := by rw [lg_cmp_lt, Int64.lt_iff_toInt_lt]
theorem cmp_gt (x y : Int64) : 0 < lg_cmp x y ↔ y.toInt < x.toInt := by rw [lg_cmp_gt, Int64.lt_iff_toInt_lt]
def opWrite (bt sz : Int) (F : LL) (fd : FF) (i : Int) (v : Int64) : Int64 × LL × FF :=
  if bt = 0 then ((fin 5).toInt64, F, fnd fd 5) else if 0 ≤ i ∧ i < sz then (F i, upL F i (nrw bt v), fd) else ((fin 0).toInt64, F, fnd fd 0)
def cpL (F1 F2 : LL) (f t n : Int) : LL := fun j => if t ≤ j ∧ j < t + n then F1 (f + (j - t)) else F2 j
def opCopy (b1 s1 : Int) (F1 : LL) (b2 s2 : Int) (F2 : LL) (fd : FF) (f t n : Int) : Int32 × LL × FF :=
  if b1 = 0 ∨ b2 = 0 then (fin 5, F2, fnd fd 5)
  else if b1 = b2 then (if (0 ≤ f ∧ 0 ≤ n ∧ f ≤ s1 - n) ∧ (0 ≤ t ∧ 0 ≤ n ∧ t ≤ s2 - n) then (iI n, cpL F1 F2 f t n, fd) else (fin 0, F2, fnd fd 0))
  else (fin 2, F2, fnd fd 2)
def layN (g : Gd) (F : LL) : Nat → Gd × Int
  | 0 => (g, 0)
  | n + 1 => if 0 ≤ (F (n : Int)).toInt ∧ (F (n : Int)).toInt ≤ 200 then (up2 (layN g F n).1 1 (n : Int) (F (n : Int)).toInt, (layN g F n).2 + 1) else layN g F n
theorem layN_s (g : Gd) (F : LL) {i : Int} (h : 0 ≤ i) : layN g F (i + 1).toNat = if 0 ≤ (F i).toInt ∧ (F i).toInt ≤ 200 then (up2 (layN g F i.toNat).1 1 i (F i).toInt, (layN g F i.toNat).2 + 1) else layN g F i.toNat := by
  rw [tn_s h]
  show (if 0 ≤ (F ((i.toNat : Nat) : Int)).toInt ∧ (F ((i.toNat : Nat) : Int)).toInt ≤ 200 then (up2 (layN g F i.toNat).1 1 ((i.toNat : Nat) : Int) (F ((i.toNat : Nat) : Int)).toInt, (layN g F i.toNat).2 + 1) else layN g F i.toNat) = _
  rw [Int.toNat_of_nonneg h]
theorem layN_4 (g : Gd) (F : LL) (d : Int) : ∀ n : Nat, (layN g F n).1 4 d = g 4 d
  | 0 => rfl
  | n + 1 => by
    unfold layN
    split
    · show (layN g F n).1 4 d = g 4 d
      exact layN_4 g F d n
    · exact layN_4 g F d n
theorem layN_ok {g : Gd} (h : Ok g) (F : LL) : ∀ n : Nat, Ok (layN g F n).1
  | 0 => h
  | n + 1 => by
    unfold layN
    split
    · rename_i q; exact (layN_ok h F n).upH _ q
    · exact layN_ok h F n
theorem layN_agr {g h : Gd} (a : agr g h) (F : LL) : ∀ n : Nat, agr (layN g F n).1 (layN h F n).1 ∧ (layN g F n).2 = (layN h F n).2
  | 0 => ⟨a, rfl⟩
  | n + 1 => by
    have ih := layN_agr a F n
    unfold layN
    split
    · exact ⟨agr_up ih.1 1 _ (by decide) rfl, by rw [ih.2]⟩
    · exact ih
def opLays (g : Gd) (bt sz : Int) (F : LL) (fd : FF) : Int32 × Gd × FF :=
  if bt = 0 then (fin 5, g, fnd fd 5) else (iI (layN g F (Int.toNat (min sz (g 4 2)))).2, (layN g F (Int.toNat (min sz (g 4 2)))).1, fd)
def bkL (g : Gd) (c bt : Int) (F : LL) (k : Int) : LL := fun j => if 0 ≤ j ∧ j < k then nrw bt (iI (minsG g (Int.toNat j) 1 c)).toInt64 else F j
theorem bkL_0 (g : Gd) (c bt : Int) (F : LL) : bkL g c bt F 0 = F := by funext j; unfold bkL; rw [if_neg (by omega)]
theorem bkL_s (g : Gd) (c bt : Int) (F : LL) {k : Int} (h : 0 ≤ k) : upL (bkL g c bt F k) k (nrw bt (iI (minsG g (Int.toNat k) 1 c)).toInt64) = bkL g c bt F (k + 1) := by
  funext j
  unfold upL
  by_cases q : j = k
  · rw [if_pos q]; subst q; unfold bkL; rw [if_pos (by omega)]
  · rw [if_neg q]
    unfold bkL
    by_cases q2 : 0 ≤ j ∧ j < k
    · rw [if_pos q2, if_pos (by omega)]
    · rw [if_neg q2, if_neg (by omega)]
def opBook (g : Gd) (c bt sz : Int) (F : LL) (fd : FF) : Int32 × LL × FF :=
  if bt = 0 then (fin 5, F, fnd fd 5) else if inC g c then (iI sz, bkL g c bt F sz, fd) else (fin 0, F, fnd fd 0)
def soN (g : Gd) (c : Int) (F : LL) : Nat → Bool
  | 0 => true
  | n + 1 => soN g c F n && decide (F (n : Int) = (iI (minsG g n 1 c)).toInt64)
theorem soN_iff (g : Gd) (c : Int) (F : LL) : ∀ n : Nat, soN g c F n = true ↔ ∀ j : Int, 0 ≤ j → j < n → F j = (iI (minsG g (Int.toNat j) 1 c)).toInt64
  | 0 => ⟨fun _ j h0 h1 => by omega, fun _ => rfl⟩
  | n + 1 => by
    unfold soN
    rw [Bool.and_eq_true, soN_iff g c F n, decide_eq_true_eq]
    constructor
    · intro ⟨h1, h2⟩ j a b
      by_cases q : j < n
      · exact h1 j a q
      · obtain rfl : j = (n : Int) := by omega
        exact h2
    · intro h
      exact ⟨fun j a b => h j a (by omega), h n (by omega) (by omega)⟩
def rdG (g : Gd) (c o k : Int) : Gd := up2 (up2 g 0 c (k / 6)) 0 o (k % 6)
def rdN (g : Gd) (c o : Int) (F : LL) (sz : Nat) : Nat → Int
  | 0 => 0
  | k + 1 => rdN g c o F sz k + (if soN (rdG g c o (k : Int)) c F sz = true then 1 else 0)
theorem rdN_s (g : Gd) (c o : Int) (F : LL) (sz : Nat) {k : Int} (h : 0 ≤ k) : rdN g c o F sz (k + 1).toNat = rdN g c o F sz k.toNat + (if soN (rdG g c o k) c F sz = true then 1 else 0) := by
  rw [tn_s h]
  show rdN g c o F sz k.toNat + (if soN (rdG g c o ((k.toNat : Nat) : Int)) c F sz = true then 1 else 0) = _
  rw [Int.toNat_of_nonneg h]
def opRead (g : Gd) (c o bt sz : Int) (F : LL) (fd : FF) : Int32 × FF :=
  if bt = 0 then (fin 5, fnd fd 5) else if inC g c ∧ inC g o ∧ c ≠ o then (iI (rdN g c o F (Int.toNat sz) 36), fd) else (fin 0, fnd fd 0)
def opSheet (bt sz : Int) (F : LL) (fd : FF) (b n : Int) : Int32 × Int × Int × LL × FF :=
  if b = 0 ∨ b = 8 ∨ b = 16 ∨ b = 64 then (if n < 0 then (fin 6, bt, sz, F, fnd fd 6) else if 40 < n then (fin 0, bt, sz, F, fnd fd 0) else (iI (if b = 0 then 0 else n), b, (if b = 0 then 0 else n), fun _ => 0, fd)) else (fin 0, bt, sz, F, fnd fd 0)
theorem up1_same (F : FF) (c v : Int) : up1 F c v c = v := by unfold up1; rw [if_pos rfl]
theorem setS_cp (sv : Int → LL) (F : LL) (t f o k : Int) (hk : 0 ≤ k) : upS (setS sv t (cpL F (sv t) f o k)) t (o + k) (F (f + k)) = setS sv t (cpL F (sv t) f o (k + 1)) := by
  funext s2 i2
  unfold upS setS
  by_cases q : s2 = t
  · simp only [if_pos q]
    unfold cpL
    by_cases q1 : i2 = o + k
    · rw [if_pos q1, if_pos (by omega)]
      congr 1; omega
    · rw [if_neg q1]
      by_cases q2 : o ≤ i2 ∧ i2 < o + k
      · rw [if_pos q2, if_pos (by omega)]
      · rw [if_neg q2, if_neg (by omega)]
  · simp only [if_neg q]
theorem cpL_0 (F G : LL) (f o : Int) : cpL F G f o 0 = G := by funext j; unfold cpL; rw [if_neg (by omega)]
theorem lent_s {ff : Nat → Int64} {F : LL} {f k : Int} (h0 : 0 ≤ k) (hf : ∀ j : Nat, (j : Int) < k → ff j = F (f + j)) : ∀ j : Nat, (j : Int) < k + 1 → vp_updL ff (Int.toNat k) (F (f + k)) j = F (f + j) := by
  intro j hj
  unfold vp_updL
  split
  · rename_i q; congr 1; omega
  · exact hf j (by omega)
theorem cpL_cpy (F G : LL) {f o n : Int} (hf : 0 ≤ f) (ho : 0 ≤ o) (hn : 0 ≤ n) : va_cpy (shN F) (shN G) (Int.toNat f) (Int.toNat o) (Int.toNat n) = shN (cpL F G f o n) := by
  funext j
  unfold va_cpy shN cpL
  by_cases q : o ≤ (j : Int) ∧ (j : Int) < o + n
  · rw [if_pos q, if_pos (by omega)]
    congr 1; omega
  · rw [if_neg q, if_neg (by omega)]
theorem fill_s {F : LL} {v : Int64} {i : Int} (hf : ∀ j : Int, 0 ≤ j → j < i → F j = v) : ∀ j : Int, 0 ≤ j → j < i + 1 → upL F i v j = v := by
  intro j h0 h1
  unfold upL
  split
  · rfl
  · exact hf j h0 (by omega)
theorem so_hit {g : Gd} {c : Int} {F : LL} {i sz : Int} (hi : 0 ≤ i) (h1 : i < sz) (h : ¬ F i = (iI (minsG g (Int.toNat i) 1 c)).toInt64) : ¬ soN g c F (Int.toNat sz) = true := fun q => h ((soN_iff g c F (Int.toNat sz)).mp q i hi (by omega))
theorem so_all {g : Gd} {c : Int} {F : LL} {sz : Int} (h0 : 0 ≤ sz) (h : ∀ j : Int, 0 ≤ j → j < sz → F j = (iI (minsG g (Int.toNat j) 1 c)).toInt64) : soN g c F (Int.toNat sz) = true := (soN_iff g c F (Int.toNat sz)).mpr (fun j a b => h j a (by omega))
theorem so_agr {g h : Gd} (a : agr g h) (o : Ok g) (hm : g 4 0 ≤ 999900) {c : Int} (hc : 0 ≤ c ∧ c < g 4 2) (F : LL) {sz : Int} (hs : 0 ≤ sz ∧ sz ≤ 40) : soN g c F (Int.toNat sz) = true ↔ soN h c F (Int.toNat sz) = true := by
  rw [soN_iff, soN_iff]
  have e : ∀ j : Int, 0 ≤ j → j < (Int.toNat sz : Nat) → minsG g (Int.toNat j) 1 c = minsG h (Int.toNat j) 1 c := fun j h0 h1 => later a o h0 (by omega) (by decide) hc
  constructor
  · intro q j h0 h1; rw [← e j h0 h1]; exact q j h0 h1
  · intro q j h0 h1; rw [e j h0 h1]; exact q j h0 h1
theorem so_si {g : Gd} {c i : Int} {F : LL} (h : ∀ j : Int, 0 ≤ j → j < i → F j = (iI (minsG g (Int.toNat j) 1 c)).toInt64) (hi : F i = (iI (minsG g (Int.toNat i) 1 c)).toInt64) : ∀ j : Int, 0 ≤ j → j < i + 1 → F j = (iI (minsG g (Int.toNat j) 1 c)).toInt64 := fun j a b => by
  by_cases q : j < i
  · exact h j a q
  · obtain rfl : j = i := by omega
    exact hi
theorem layp_t {g gg : Gd} {F : LL} {i n : Int} (h : 0 ≤ i) (hb : (gg, n) = layN g F i.toNat) (q : 0 ≤ (F i).toInt ∧ (F i).toInt ≤ 200) : (up2 gg 1 i (F i).toInt, n + 1) = layN g F (i + 1).toNat := by
  rw [layN_s _ _ h, ← hb, if_pos q]
theorem layp_f {g gg : Gd} {F : LL} {i n : Int} (h : 0 ≤ i) (hb : (gg, n) = layN g F i.toNat) (q : ¬ (0 ≤ (F i).toInt ∧ (F i).toInt ≤ 200)) : (gg, n) = layN g F (i + 1).toNat := by
  rw [layN_s _ _ h, ← hb, if_neg q]
theorem bkS_s (g : Gd) (c bt : Int) (sv : Int → LL) (s : Int) {k : Int} (h : 0 ≤ k) : upS (setS sv s (bkL g c bt (sv s) k)) s k (nrw bt (iI (minsG g (Int.toNat k) 1 c)).toInt64) = setS sv s (bkL g c bt (sv s) (k + 1)) := by
  rw [← bkL_s _ _ _ _ h]
  funext s2 i2
  unfold upS setS upL
  by_cases q : s2 = s
  · simp only [if_pos q]
  · simp only [if_neg q]
