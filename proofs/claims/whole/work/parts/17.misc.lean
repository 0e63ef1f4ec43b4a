def sb (v : Int) : Int := if v < 128 then v else v - 256
def tbA (tc : FF) : Nat → Int32 := fun j => iI (sb (tc (j : Int)))
theorem tbA_at {tc : FF} {z : Int} (h : 0 ≤ z) : tbA tc z.toNat = iI (sb (tc z)) := by unfold tbA; rw [Int.toNat_of_nonneg h]
theorem nar_byte {v : Int} (h : -128 ≤ v ∧ v < 128) : vp_nar .byte (iI v) = iI v := by
  rw [vp_nar_byte]
  apply Int32.toInt_inj.mp
  rw [Int8.toInt_toInt32, Int32.toInt_toInt8, iI_toInt ⟨by omega, by omega⟩]
  exact Int.bmod_eq_of_le (by omega) (by omega)
theorem tbA_up {tc : FF} {z v : Int} (h : 0 ≤ z) (hv : 0 ≤ v ∧ v < 256) : upd (tbA tc) z.toNat (vp_nar .byte (iI (sb v))) = tbA (up1 tc z v) := by
  rw [nar_byte (by unfold sb; split <;> omega)]
  funext i
  unfold upd tbA up1
  by_cases q : i = z.toNat
  · rw [if_pos q, if_pos (by omega)]
  · rw [if_neg q, if_neg (by omega)]
def byt (b k : Int) : Int := b / 2 ^ (8 * k).toNat % 256
theorem byt_rng (b k : Int) : 0 ≤ byt b k ∧ byt b k < 256 := ⟨Int.emod_nonneg _ (by decide), Int.emod_lt_of_pos _ (by decide)⟩
theorem shr_I {b k : Int} (hb : inr b) (hk : 0 ≤ k ∧ k ≤ 3) : (iI b >>> (iI (8 * k) &&& 31)).toInt = b / 2 ^ (8 * k).toNat := by
  rcases (show k = 0 ∨ k = 1 ∨ k = 2 ∨ k = 3 by omega) with rfl | rfl | rfl | rfl
  · rw [pk_shr _ _ 0 (by decide), iI_toInt hb]; simp
  · rw [pk_shr _ _ 8 (by decide), iI_toInt hb, Int.shiftRight_eq_div_pow]; rfl
  · rw [pk_shr _ _ 16 (by decide), iI_toInt hb, Int.shiftRight_eq_div_pow]; rfl
  · rw [pk_shr _ _ 24 (by decide), iI_toInt hb, Int.shiftRight_eq_div_pow]; rfl
theorem and255 (x : Int32) : x &&& iI 255 = iI (x.toInt % 256) := by
  have e : iI 255 = 255 := by decide
  rw [e, pk_and x 8 (by decide), ← iI_nat]
  congr 1
  have h1 : x.toInt = x.toBitVec.toInt := rfl
  rw [h1, BitVec.toInt_eq_toNat_bmod]
  have h2 := x.toBitVec.isLt
  rw [Int.bmod_def]
  split <;> omega
theorem byt_and {b k : Int} (hb : inr b) (hk : 0 ≤ k ∧ k ≤ 3) : (iI b >>> (iI (8 * k) &&& 31)) &&& iI 255 = iI (byt b k) := by
  rw [and255, shr_I hb hk]; rfl
theorem byt_i2b {b k : Int} (hb : inr b) (hk : 0 ≤ k ∧ k ≤ 3) : (iI b >>> (iI (8 * k) &&& 31)).toInt8.toInt32 = iI (sb (byt b k)) := by
  have r := byt_rng b k
  apply Int32.toInt_inj.mp
  rw [Int8.toInt_toInt32, Int32.toInt_toInt8, shr_I hb hk, iI_toInt ⟨by unfold sb; split <;> omega, by unfold sb; split <;> omega⟩]
  unfold sb byt
  generalize b / 2 ^ (8 * k).toNat = y
  rw [Int.bmod_def]
  omega
def feedT (tc : FF) (tn b : Int) : Nat → FF
  | 0 => tc
  | k + 1 => feedT (up1 tc tn (byt b (k : Int))) (tn + 1) b k
theorem feedT_s (tc : FF) (tn b : Int) {k : Int} (h : 0 ≤ k) : feedT tc tn b (k + 1).toNat = feedT (up1 tc tn (byt b k)) (tn + 1) b k.toNat := by
  rw [tn_s h]
  show feedT (up1 tc tn (byt b ((k.toNat : Nat) : Int))) (tn + 1) b k.toNat = _
  rw [Int.toNat_of_nonneg h]
def opFeed (tc : FF) (tn : Int) (fd : FF) (b n : Int) : Int32 × FF × Int × FF := if 1 ≤ n ∧ n ≤ 4 then (if tn + n ≤ 120 then (iI (tn + n), feedT tc tn b (Int.toNat n), tn + n, fd) else (fin 1, tc, tn, fnd fd 1)) else (fin 0, tc, tn, fnd fd 0)
def opCount (g : Gd) (tn : Int) (fd : FF) (w : Int) : Int32 × FF :=
  if w = 0 then (iI (g 4 2), fd)
  else if w = 1 then (iI tn, fd)
  else if w = 2 then (iI (sumN (g 2) (many g)), fd)
  else if w = 3 then (iI (100000 + sumN (g 3) (many g)), fd)
  else (fin 0, fnd fd 0)
def opStatus (fd : FF) (w : Int) : Int32 × FF := if -1 ≤ w ∧ w ≤ 6 then (if w < 0 then (iI (sumN fd 7), fd) else (iI (fd w), fd)) else (fin 0, fnd fd 0)
def opUndo (ib : Int) (g gi : Gd) (fd : FF) : Int32 × Gd × FF := if ib = 1 then (iI (gi 4 2), gi, fd) else (fin 3, g, fnd fd 3)
