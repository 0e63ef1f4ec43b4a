/-! the text: its tokens, each told by the place p from which it is looked for -/
def bA (tc : FF) (tn k : Int) : Int := if k < tn then tc k else -1
def OkT (tc : FF) (tn : Int) : Prop := (∀ k, 0 ≤ tc k ∧ tc k < 256) ∧ 0 ≤ tn ∧ tn ≤ 120
theorem bA_rng {tc : FF} {tn : Int} (h : OkT tc tn) (k : Int) : -1 ≤ bA tc tn k ∧ bA tc tn k < 256 ∧ (k < tn → 0 ≤ bA tc tn k) ∧ (tn ≤ k → bA tc tn k = -1) ∧ (k < tn → bA tc tn k = tc k) := by
  have := h.1 k
  unfold bA
  split <;> omega
abbrev isL (b : Int) : Prop := 97 ≤ b ∧ b ≤ 122
abbrev isD (b : Int) : Prop := 48 ≤ b ∧ b ≤ 57
def tB (tc : FF) (tn p : Int) : Int := p + fstI (fun k => ¬ bA tc tn (p + k) = 32) 121
def lnL (tc : FF) (tn b : Int) : Int := fstI (fun k => ¬ isL (bA tc tn (b + k))) 121
def lnD (tc : FF) (tn b : Int) : Int := fstI (fun k => ¬ isD (bA tc tn (b + k))) 121
def tS (tc : FF) (tn p : Int) : Int := if bA tc tn (tB tc tn p) < 0 then 0 else if isL (bA tc tn (tB tc tn p)) then 1 else if isD (bA tc tn (tB tc tn p)) then 2 else 3
def tE (tc : FF) (tn p : Int) : Int := if tS tc tn p = 0 then tB tc tn p else if tS tc tn p = 1 then tB tc tn p + lnL tc tn (tB tc tn p) else if tS tc tn p = 2 then tB tc tn p + lnD tc tn (tB tc tn p) else tB tc tn p + 1
def whN (tc : FF) (tn b : Int) : Nat → Int
  | 0 => 0
  | n + 1 => if n < 12 then 27 * whN tc tn b n + bA tc tn (b + n) - 96 else -1
def nvN (tc : FF) (tn b : Int) : Nat → Int
  | 0 => 0
  | n + 1 => if 999 < nvN tc tn b n then 10000 else 10 * nvN tc tn b n + bA tc tn (b + n) - 48
def tW (tc : FF) (tn p : Int) : Int := if tS tc tn p = 1 then whN tc tn (tB tc tn p) (lnL tc tn (tB tc tn p)).toNat else 0
def tV (tc : FF) (tn p : Int) : Int := if tS tc tn p = 2 then nvN tc tn (tB tc tn p) (lnD tc tn (tB tc tn p)).toNat else bA tc tn (tB tc tn p)
def tT (tc : FF) (tn p : Int) : Int := if tS tc tn p = 3 then (if bA tc tn (tB tc tn p) = 59 then 3 else 4) else tS tc tn p
def tU (tc : FF) (tn p : Int) : Int := if tS tc tn p = 2 then min (tV tc tn p) 1000 else 0
def jI (z : Int) : Int64 := Int64.ofInt z
theorem fstI_le {P : Int → Prop} [DecidablePred P] {n : Nat} {k : Int} (h0 : 0 ≤ k) (h1 : k < n) (h : P k) : fstI P n ≤ k := by
  induction n with
  | zero => omega
  | succ n ih =>
    have r := fstI_rng P n
    unfold fstI
    by_cases q : k < n
    · have := ih q
      rw [if_pos (by omega)]; exact this
    · obtain rfl : k = (n : Int) := by omega
      split
      · omega
      · first | exact Int.le_refl _ | (rw [if_pos h]; exact Int.le_refl _)
theorem fstI_at {P : Int → Prop} [DecidablePred P] : ∀ n : Nat, fstI P n < n → P (fstI P n) ∧ ∀ j : Int, 0 ≤ j → j < fstI P n → ¬ P j
  | 0, h => by have := (fstI_rng P 0).1; omega
  | n + 1, h => by
    have r := fstI_rng P n
    unfold fstI at h ⊢
    by_cases q : fstI P n < n
    · rw [if_pos q] at h ⊢; exact fstI_at n q
    · rw [if_neg q] at h ⊢
      have e : fstI P n = n := by omega
      by_cases q2 : P (n : Int)
      · rw [if_pos q2] at h ⊢
        refine ⟨q2, fun j a b z => ?_⟩
        have := fstI_le a b z
        omega
      · rw [if_neg q2] at h; omega
theorem tB_rng {tc : FF} {tn p : Int} (h : OkT tc tn) (h0 : 0 ≤ p ∧ p ≤ tn) : p ≤ tB tc tn p ∧ tB tc tn p ≤ tn := by
  have r := fstI_rng (fun k => ¬ bA tc tn (p + k) = 32) 121
  have q := fstI_le (P := fun k => ¬ bA tc tn (p + k) = 32) (n := 121) (k := tn - p) (by omega) (by have := h.2; omega) (by show ¬ bA tc tn (p + (tn - p)) = 32; rw [(bA_rng h (p + (tn - p))).2.2.2.1 (by omega)]; decide)
  unfold tB
  omega
theorem lnL_rng {tc : FF} {tn b : Int} (h : OkT tc tn) (h0 : 0 ≤ b ∧ b ≤ tn) : 0 ≤ lnL tc tn b ∧ b + lnL tc tn b ≤ tn ∧ (isL (bA tc tn b) → 1 ≤ lnL tc tn b) ∧ ∀ j : Int, 0 ≤ j → j < lnL tc tn b → isL (bA tc tn (b + j)) := by
  have r := fstI_rng (fun k => ¬ isL (bA tc tn (b + k))) 121
  have q := fstI_le (P := fun k => ¬ isL (bA tc tn (b + k))) (n := 121) (k := tn - b) (by omega) (by have := h.2; omega) (by show ¬ isL (bA tc tn (b + (tn - b))); rw [(bA_rng h (b + (tn - b))).2.2.2.1 (by omega)]; decide)
  have t := fstI_at (P := fun k => ¬ isL (bA tc tn (b + k))) 121 (by have := h.2; omega)
  unfold lnL
  refine ⟨r.1, by omega, fun z => ?_, fun j a b2 => Classical.not_not.mp (t.2 j a b2)⟩
  by_cases q0 : fstI (fun k => ¬ isL (bA tc tn (b + k))) 121 = 0
  · have t1 := t.1
    rw [q0, Int.add_zero] at t1
    exact absurd z t1
  · omega
theorem lnD_rng {tc : FF} {tn b : Int} (h : OkT tc tn) (h0 : 0 ≤ b ∧ b ≤ tn) : 0 ≤ lnD tc tn b ∧ b + lnD tc tn b ≤ tn ∧ (isD (bA tc tn b) → 1 ≤ lnD tc tn b) ∧ ∀ j : Int, 0 ≤ j → j < lnD tc tn b → isD (bA tc tn (b + j)) := by
  have r := fstI_rng (fun k => ¬ isD (bA tc tn (b + k))) 121
  have q := fstI_le (P := fun k => ¬ isD (bA tc tn (b + k))) (n := 121) (k := tn - b) (by omega) (by have := h.2; omega) (by show ¬ isD (bA tc tn (b + (tn - b))); rw [(bA_rng h (b + (tn - b))).2.2.2.1 (by omega)]; decide)
  have t := fstI_at (P := fun k => ¬ isD (bA tc tn (b + k))) 121 (by have := h.2; omega)
  unfold lnD
  refine ⟨r.1, by omega, fun z => ?_, fun j a b2 => Classical.not_not.mp (t.2 j a b2)⟩
  by_cases q0 : fstI (fun k => ¬ isD (bA tc tn (b + k))) 121 = 0
  · have t1 := t.1
    rw [q0, Int.add_zero] at t1
    exact absurd z t1
  · omega
theorem tS_rng (tc : FF) (tn p : Int) : 0 ≤ tS tc tn p ∧ tS tc tn p ≤ 3 := by
  unfold tS; repeat' split
  all_goals omega
theorem tE_rng {tc : FF} {tn p : Int} (h : OkT tc tn) (h0 : 0 ≤ p ∧ p ≤ tn) : tB tc tn p ≤ tE tc tn p ∧ tE tc tn p ≤ tn ∧ (tS tc tn p ≠ 0 → tB tc tn p + 1 ≤ tE tc tn p) := by
  have b := tB_rng h h0
  have l := lnL_rng h (b := tB tc tn p) (by omega)
  have d := lnD_rng h (b := tB tc tn p) (by omega)
  have r := bA_rng h (tB tc tn p)
  have s := tS_rng tc tn p
  unfold tE
  by_cases q0 : tS tc tn p = 0
  · rw [if_pos q0]; omega
  · rw [if_neg q0]
    have nb : ¬ bA tc tn (tB tc tn p) < 0 := fun z => q0 (by unfold tS; rw [if_pos z])
    by_cases q1 : tS tc tn p = 1
    · rw [if_pos q1]
      have il : isL (bA tc tn (tB tc tn p)) := by
        unfold tS at q1; rw [if_neg nb] at q1
        by_cases z : isL (bA tc tn (tB tc tn p))
        · exact z
        · rw [if_neg z] at q1; split at q1 <;> omega
      have := l.2.2.1 il
      omega
    · rw [if_neg q1]
      by_cases q2 : tS tc tn p = 2
      · rw [if_pos q2]
        have il : isD (bA tc tn (tB tc tn p)) := by
          unfold tS at q2; rw [if_neg nb] at q2
          by_cases z : isL (bA tc tn (tB tc tn p))
          · rw [if_pos z] at q2; omega
          · rw [if_neg z] at q2
            by_cases z2 : isD (bA tc tn (tB tc tn p))
            · exact z2
            · rw [if_neg z2] at q2; omega
        have := d.2.2.1 il
        omega
      · rw [if_neg q2]
        omega
theorem whN_s (tc : FF) (tn b : Int) {k : Int} (h : 0 ≤ k) : whN tc tn b (k + 1).toNat = if k < 12 then 27 * whN tc tn b k.toNat + bA tc tn (b + k) - 96 else -1 := by
  rw [tn_s h]
  show (if k.toNat < 12 then 27 * whN tc tn b k.toNat + bA tc tn (b + ((k.toNat : Nat) : Int)) - 96 else -1) = _
  rw [Int.toNat_of_nonneg h]
  by_cases q : k < 12
  · rw [if_pos q, if_pos (by omega)]
  · rw [if_neg q, if_neg (by omega)]
theorem nvN_s (tc : FF) (tn b : Int) {k : Int} (h : 0 ≤ k) : nvN tc tn b (k + 1).toNat = if 999 < nvN tc tn b k.toNat then 10000 else 10 * nvN tc tn b k.toNat + bA tc tn (b + k) - 48 := by
  rw [tn_s h]
  show (if 999 < nvN tc tn b k.toNat then 10000 else 10 * nvN tc tn b k.toNat + bA tc tn (b + ((k.toNat : Nat) : Int)) - 48) = _
  rw [Int.toNat_of_nonneg h]
theorem nvN_rng {tc : FF} {tn b : Int} : ∀ n : Nat, (∀ j : Int, 0 ≤ j → j < n → isD (bA tc tn (b + j))) → 0 ≤ nvN tc tn b n ∧ nvN tc tn b n ≤ 10000
  | 0, _ => ⟨Int.le_refl _, by show (0 : Int) ≤ 10000; decide⟩
  | n + 1, h => by
    have ih := nvN_rng n (fun j a c => h j a (by omega))
    have d := h n (by omega) (by omega)
    unfold nvN
    split <;> omega
theorem tV_rng {tc : FF} {tn p : Int} (h : OkT tc tn) (h0 : 0 ≤ p ∧ p ≤ tn) : -1 ≤ tV tc tn p ∧ tV tc tn p ≤ 10000 ∧ (tS tc tn p = 2 → 0 ≤ tV tc tn p) := by
  have b := tB_rng h h0
  have r := bA_rng h (tB tc tn p)
  have d := lnD_rng h (b := tB tc tn p) (by omega)
  unfold tV
  split
  · have := nvN_rng (tc := tc) (tn := tn) (b := tB tc tn p) (lnD tc tn (tB tc tn p)).toNat (fun j a c => d.2.2.2 j a (by omega))
    omega
  · omega
theorem jI_27 {w b : Int} (hb : inr b) : (27 : Int64) * jI w + (iI b).toInt64 - 96 = jI (27 * w + b - 96) := by
  have e1 : (27 : Int64) = jI 27 := by decide
  have e2 : (96 : Int64) = jI 96 := by decide
  have e3 : (iI b).toInt64 = jI b := by
    apply Int64.toInt_inj.mp
    rw [Int32.toInt_toInt64, iI_toInt hb]
    unfold jI
    rw [Int64.toInt_ofInt]
    exact (Int.bmod_eq_of_le (by have : (Int64.size : Int) = 18446744073709551616 := rfl
                                 omega) (by have : (Int64.size : Int) = 18446744073709551616 := rfl
                                            omega)).symm
  rw [e1, e2, e3]
  unfold jI
  rw [← Int64.ofInt_mul, ← Int64.ofInt_add, ← Int64.ofInt_sub]
def xsH : List Int := [330758, 79958, 1708, 10354323, 223456, 9451634, 40174, 1758676, 164222, 5060429470]
def xsW : List (List Int) := [[112, 117, 115, 104], [100, 97, 114, 107], [98, 105, 103], [115, 109, 97, 108, 108], [107, 105, 110, 100], [113, 117, 101, 101, 110], [98, 97, 98, 121], [99, 104, 105, 108, 100], [104, 105, 103, 104], [109, 97, 114, 98, 108, 101, 115]]
def yW (i : Nat) (j : Int) : Int := (xsW.getD i []).getD j.toNat 0
def lW (i : Nat) : Int := ((xsL.getD i 0 : Nat) : Int)
def whF (x : Int → Int) : Nat → Int
  | 0 => 0
  | n + 1 => 27 * whF x n + x (n : Int) - 96
theorem whF_rng (x : Int → Int) : ∀ n : Nat, (∀ j : Int, 0 ≤ j → j < n → isL (x j)) → 0 ≤ whF x n ∧ whF x n + 1 ≤ 27 ^ n ∧ (1 ≤ n → 1 ≤ whF x n)
  | 0, _ => ⟨Int.le_refl _, by show (0 : Int) + 1 ≤ 27 ^ 0; decide, fun h => absurd h (by decide)⟩
  | n + 1, h => by
    have ih := whF_rng x n (fun j a b => h j a (by omega))
    have d := h n (by omega) (by omega)
    have e : (27 : Int) ^ (n + 1) = 27 ^ n * 27 := Int.pow_succ 27 n
    unfold whF
    omega
theorem whF_inj (x y : Int → Int) : ∀ n m : Nat, (∀ j : Int, 0 ≤ j → j < n → isL (x j)) → (∀ j : Int, 0 ≤ j → j < m → isL (y j)) → whF x n = whF y m → n = m ∧ ∀ j : Int, 0 ≤ j → j < n → x j = y j
  | 0, 0, _, _, _ => ⟨rfl, fun j a b => absurd b (by omega)⟩
  | 0, m + 1, _, hy, h => by
    have := (whF_rng y (m + 1) hy).2.2 (by omega)
    have e : whF x 0 = 0 := rfl
    omega
  | n + 1, 0, hx, _, h => by
    have := (whF_rng x (n + 1) hx).2.2 (by omega)
    have e : whF y 0 = 0 := rfl
    omega
  | n + 1, m + 1, hx, hy, h => by
    have dx := hx n (by omega) (by omega)
    have dy := hy m (by omega) (by omega)
    have e1 : whF x (n + 1) = 27 * whF x n + x (n : Int) - 96 := rfl
    have e2 : whF y (m + 1) = 27 * whF y m + y (m : Int) - 96 := rfl
    have ih := whF_inj x y n m (fun j a b => hx j a (by omega)) (fun j a b => hy j a (by omega)) (by omega)
    obtain ⟨rfl, ih2⟩ := ih
    refine ⟨rfl, fun j a b => ?_⟩
    by_cases q : j < n
    · exact ih2 j a q
    · obtain rfl : j = (n : Int) := by omega
      omega
theorem whF_congr {x y : Int → Int} : ∀ n : Nat, (∀ j : Int, 0 ≤ j → j < n → x j = y j) → whF x n = whF y n
  | 0, _ => rfl
  | n + 1, h => by
    unfold whF
    rw [whF_congr n (fun j a b => h j a (by omega)), h n (by omega) (by omega)]
theorem whN_F (tc : FF) (tn b : Int) : ∀ n : Nat, n ≤ 12 → whN tc tn b n = whF (fun j => bA tc tn (b + j)) n
  | 0, _ => rfl
  | n + 1, h => by
    unfold whN whF
    rw [if_pos (by omega), whN_F tc tn b n (by omega)]
theorem whN_big (tc : FF) (tn b : Int) {n : Nat} (h : 13 ≤ n) : whN tc tn b n = -1 := by
  obtain ⟨m, rfl⟩ : ∃ m, n = m + 1 := ⟨n - 1, by omega⟩
  unfold whN
  rw [if_neg (by omega)]
theorem whN_rng {tc : FF} {tn b : Int} {n : Nat} (h : ∀ j : Int, 0 ≤ j → j < n → isL (bA tc tn (b + j))) : -1 ≤ whN tc tn b n ∧ whN tc tn b n < 1000000000000000000 := by
  by_cases q : n ≤ 12
  · rw [whN_F tc tn b n q]
    have r := whF_rng (fun j => bA tc tn (b + j)) n h
    have e : (27 : Int) ^ n ≤ 27 ^ 12 := by
      have : (27 : Nat) ^ n ≤ 27 ^ 12 := Nat.pow_le_pow_right (by decide) q
      exact_mod_cast this
    have e2 : (27 : Int) ^ 12 < 1000000000000000000 := by decide
    omega
  · rw [whN_big tc tn b (by omega)]; omega
theorem xsI_ok : ∀ i : Nat, i < 10 → (0 ≤ xsH.getD i 0 ∧ xsH.getD i 0 < 10000000000) ∧ xsL.getD i 0 ≤ 12 ∧ 1 ≤ xsL.getD i 0 ∧ whF (yW i) (xsL.getD i 0) = xsH.getD i 0 ∧ ∀ j : Nat, j < xsL.getD i 0 → isL (yW i j) ∧ (xsB.getD i []).getD j 0 = iI (yW i j) := by decide
abbrev kw (i : Nat) (tc : FF) (tn p : Int) : Prop := tS tc tn p = 1 ∧ tW tc tn p = xsH.getD i 0
theorem kw_iff {tc : FF} {tn p : Int} {i : Nat} (hi : i < 10) (h : OkT tc tn) (h0 : 0 ≤ p ∧ p ≤ tn) (hs : tS tc tn p = 1) : tW tc tn p = xsH.getD i 0 ↔ lnL tc tn (tB tc tn p) = lW i ∧ ∀ j : Int, 0 ≤ j → j < lW i → bA tc tn (tB tc tn p + j) = yW i j := by
  obtain ⟨k1, k2, k3, k4, k5⟩ := xsI_ok i hi
  have b := tB_rng h h0
  have l := lnL_rng h (b := tB tc tn p) (by omega)
  have ly : ∀ j : Int, 0 ≤ j → j < (xsL.getD i 0 : Nat) → isL (yW i j) := fun j a c => by
    have := (k5 j.toNat (by omega)).1
    rwa [Int.toNat_of_nonneg a] at this
  have lx : ∀ j : Int, 0 ≤ j → j < ((lnL tc tn (tB tc tn p)).toNat : Nat) → isL ((fun j => bA tc tn (tB tc tn p + j)) j) := fun j a c => l.2.2.2 j a (by omega)
  unfold tW lW
  rw [if_pos hs]
  constructor
  · intro q
    by_cases z : (lnL tc tn (tB tc tn p)).toNat ≤ 12
    · rw [whN_F _ _ _ _ z, ← k4] at q
      obtain ⟨e1, e2⟩ := whF_inj _ _ _ _ lx ly q
      exact ⟨by omega, fun j a c => e2 j a (by omega)⟩
    · rw [whN_big _ _ _ (by omega)] at q; omega
  · intro ⟨q1, q2⟩
    have e : (lnL tc tn (tB tc tn p)).toNat = xsL.getD i 0 := by omega
    rw [e, whN_F _ _ _ _ k2, ← k4]
    exact whF_congr _ (fun j a c => q2 j a c)
theorem tW_rng {tc : FF} {tn p : Int} (h : OkT tc tn) (h0 : 0 ≤ p ∧ p ≤ tn) : -1 ≤ tW tc tn p ∧ tW tc tn p < 1000000000000000000 := by
  have b := tB_rng h h0
  have l := lnL_rng h (b := tB tc tn p) (by omega)
  unfold tW
  split
  · exact whN_rng (fun j a c => l.2.2.2 j a (by omega))
  · omega
theorem jI_eq {a b : Int} (ha : -1 ≤ a ∧ a < 1000000000000000000) (hb : -1 ≤ b ∧ b < 1000000000000000000) : jI a = jI b ↔ a = b := by
  have t : ∀ z : Int, -1 ≤ z ∧ z < 1000000000000000000 → (jI z).toInt = z := fun z hz => by
    unfold jI
    rw [Int64.toInt_ofInt]
    have e : (Int64.size : Int) = 18446744073709551616 := rfl
    exact Int.bmod_eq_of_le (by omega) (by omega)
  exact ⟨fun q => by rw [← t a ha, q, t b hb], fun q => by rw [q]⟩
abbrev nm (tc : FF) (tn p a b : Int) : Prop := tS tc tn p = 2 ∧ a ≤ tV tc tn p ∧ tV tc tn p ≤ b
def kdT (tc : FF) (tn p : Int) : Int := if kw 7 tc tn p then 0 else if kw 2 tc tn p then 1 else if kw 3 tc tn p then 2 else if kw 4 tc tn p then 3 else if kw 5 tc tn p then 4 else if kw 6 tc tn p then 5 else -1
def ptT (i : Nat) (tc : FF) (tn b d q : Int) : Int × Int × Int := if kw i tc tn q then (if nm tc tn (tE tc tn q) 0 b then (1, tE tc tn (tE tc tn q), tV tc tn (tE tc tn q)) else (0, tE tc tn q, 0)) else (1, q, d)
def itC (tc : FF) (tn p : Int) (g : Gd) : Int × Int × Gd :=
  if g 4 2 < 8 then
    (if (ptT 8 tc tn 200 50 (tE tc tn p)).1 = 1 then
      (if (ptT 9 tc tn 99 5 (ptT 8 tc tn 200 50 (tE tc tn p)).2.1).1 = 1 then (1, (ptT 9 tc tn 99 5 (ptT 8 tc tn 200 50 (tE tc tn p)).2.1).2.1, addG g (kdT tc tn p) (ptT 8 tc tn 200 50 (tE tc tn p)).2.2 (ptT 9 tc tn 99 5 (ptT 8 tc tn 200 50 (tE tc tn p)).2.1).2.2)
      else (0, (ptT 9 tc tn 99 5 (ptT 8 tc tn 200 50 (tE tc tn p)).2.1).2.1, g))
    else (0, (ptT 8 tc tn 200 50 (tE tc tn p)).2.1, g))
  else (0, p, g)
def itP (tc : FF) (tn p : Int) (g : Gd) : Int × Int × Gd :=
  if nm tc tn (tE tc tn p) 0 (g 4 2 - 1) then
    (if nm tc tn (tE tc tn (tE tc tn p)) 1 99 then (1, tE tc tn (tE tc tn (tE tc tn p)), pushG g (tV tc tn (tE tc tn p)) (tV tc tn (tE tc tn (tE tc tn p))))
    else (0, tE tc tn (tE tc tn p), g))
  else (0, tE tc tn p, g)
def itD (tc : FF) (tn p : Int) (g : Gd) : Int × Int × Gd :=
  if nm tc tn (tE tc tn p) 0 59 then (1, tE tc tn (tE tc tn p), up2 g 4 1 (tV tc tn (tE tc tn p))) else (0, tE tc tn p, g)
def itT (tc : FF) (tn p : Int) (g : Gd) : Int × Int × Gd :=
  if 0 ≤ kdT tc tn p then itC tc tn p g else if kw 0 tc tn p then itP tc tn p g else if kw 1 tc tn p then itD tc tn p g else (0, p, g)
def psT (tc : FF) (tn : Int) : Nat → Int → Gd → Int → Int × Gd
  | 0, p, g, _ => (-1 - tB tc tn p, g)
  | f + 1, p, g, i =>
    if (itT tc tn p g).1 = 1 then
      (if tS tc tn (itT tc tn p g).2.1 = 0 then (i + 1, (itT tc tn p g).2.2)
      else if tS tc tn (itT tc tn p g).2.1 = 3 ∧ tV tc tn (itT tc tn p g).2.1 = 59 then psT tc tn f (tE tc tn (itT tc tn p g).2.1) (itT tc tn p g).2.2 (i + 1)
      else (-1 - tB tc tn (itT tc tn p g).2.1, g))
    else (-1 - tB tc tn (itT tc tn p g).2.1, g)
def opGround (tc : FF) (tn : Int) (g : Gd) : Int32 × Gd := if 0 ≤ (psT tc tn 121 0 g 0).1 then (iI (psT tc tn 121 0 g 0).1, (psT tc tn 121 0 g 0).2) else (iI (psT tc tn 121 0 g 0).1, g)
theorem tE_q {tc : FF} {tn q : Int} (h : OkT tc tn) (h0 : 0 ≤ q ∧ q ≤ tn) : q ≤ tE tc tn q ∧ 0 ≤ tE tc tn q ∧ tE tc tn q ≤ tn ∧ (tS tc tn q ≠ 0 → q + 1 ≤ tE tc tn q) := by
  have b := tB_rng h h0
  have e := tE_rng h h0
  refine ⟨by omega, by omega, e.2.1, fun z => ?_⟩
  have := e.2.2 z
  omega
theorem ptT_rng {tc : FF} {tn q b d : Int} {i : Nat} (h : OkT tc tn) (h0 : 0 ≤ q ∧ q ≤ tn) (hd : 0 ≤ d ∧ d ≤ b) : q ≤ (ptT i tc tn b d q).2.1 ∧ (ptT i tc tn b d q).2.1 ≤ tn ∧ ((ptT i tc tn b d q).1 = 1 → 0 ≤ (ptT i tc tn b d q).2.2 ∧ (ptT i tc tn b d q).2.2 ≤ b) := by
  have e1 := tE_q h h0
  have e2 := tE_q h (q := tE tc tn q) ⟨e1.2.1, e1.2.2.1⟩
  unfold ptT
  split
  · split
    · rename_i z; exact ⟨by show q ≤ tE tc tn (tE tc tn q); omega, e2.2.2.1, fun _ => z.2⟩
    · exact ⟨e1.1, e1.2.2.1, fun z => absurd z (by show ¬ ((0 : Int) = 1); decide)⟩
  · exact ⟨Int.le_refl _, h0.2, fun _ => hd⟩
theorem kdT_rng (tc : FF) (tn p : Int) : -1 ≤ kdT tc tn p ∧ kdT tc tn p ≤ 5 ∧ (0 ≤ kdT tc tn p → tS tc tn p = 1) := by
  unfold kdT
  by_cases h1 : kw 7 tc tn p
  · rw [if_pos h1]; exact ⟨by omega, by omega, fun _ => h1.1⟩
  rw [if_neg h1]
  by_cases h2 : kw 2 tc tn p
  · rw [if_pos h2]; exact ⟨by omega, by omega, fun _ => h2.1⟩
  rw [if_neg h2]
  by_cases h3 : kw 3 tc tn p
  · rw [if_pos h3]; exact ⟨by omega, by omega, fun _ => h3.1⟩
  rw [if_neg h3]
  by_cases h4 : kw 4 tc tn p
  · rw [if_pos h4]; exact ⟨by omega, by omega, fun _ => h4.1⟩
  rw [if_neg h4]
  by_cases h5 : kw 5 tc tn p
  · rw [if_pos h5]; exact ⟨by omega, by omega, fun _ => h5.1⟩
  rw [if_neg h5]
  by_cases h6 : kw 6 tc tn p
  · rw [if_pos h6]; exact ⟨by omega, by omega, fun _ => h6.1⟩
  rw [if_neg h6]
  exact ⟨by omega, by omega, fun z => absurd z (by omega)⟩
theorem itT_rng {tc : FF} {tn p : Int} {g : Gd} (h : OkT tc tn) (h0 : 0 ≤ p ∧ p ≤ tn) (o : Ok g) : p ≤ (itT tc tn p g).2.1 ∧ (itT tc tn p g).2.1 ≤ tn ∧ ((itT tc tn p g).1 = 1 → p + 1 ≤ (itT tc tn p g).2.1) ∧ Ok (itT tc tn p g).2.2 ∧ (itT tc tn p g).2.2 4 0 = g 4 0 := by
  have e1 := tE_q h h0
  have e2 := tE_q h (q := tE tc tn p) ⟨e1.2.1, e1.2.2.1⟩
  have e3 := tE_q h (q := tE tc tn (tE tc tn p)) ⟨e2.2.1, e2.2.2.1⟩
  have k := kdT_rng tc tn p
  unfold itT
  by_cases q1 : 0 ≤ kdT tc tn p
  · rw [if_pos q1]
    have s1 := k.2.2 q1
    have r1 := ptT_rng (i := 8) (b := 200) (d := 50) h (q := tE tc tn p) ⟨e1.2.1, e1.2.2.1⟩ (by decide)
    have r2 := ptT_rng (i := 9) (b := 99) (d := 5) h (q := (ptT 8 tc tn 200 50 (tE tc tn p)).2.1) ⟨by omega, r1.2.1⟩ (by decide)
    have g1 := e1.2.2.2 (by omega)
    unfold itC
    split
    · rename_i z0
      split
      · rename_i z1
        split
        · rename_i z2
          exact ⟨by show p ≤ (ptT 9 tc tn 99 5 (ptT 8 tc tn 200 50 (tE tc tn p)).2.1).2.1; omega, r2.2.1, fun _ => by show p + 1 ≤ (ptT 9 tc tn 99 5 (ptT 8 tc tn 200 50 (tE tc tn p)).2.1).2.1; omega, addG_ok o z0 ⟨q1, k.2.1⟩ (r1.2.2 z1) (r2.2.2 z2), rfl⟩
        · exact ⟨by show p ≤ (ptT 9 tc tn 99 5 (ptT 8 tc tn 200 50 (tE tc tn p)).2.1).2.1; omega, r2.2.1, fun z => absurd z (by show ¬ ((0 : Int) = 1); decide), o, rfl⟩
      · exact ⟨by show p ≤ (ptT 8 tc tn 200 50 (tE tc tn p)).2.1; omega, r1.2.1, fun z => absurd z (by show ¬ ((0 : Int) = 1); decide), o, rfl⟩
    · exact ⟨Int.le_refl _, h0.2, fun z => absurd z (by show ¬ ((0 : Int) = 1); decide), o, rfl⟩
  · rw [if_neg q1]
    by_cases q2 : kw 0 tc tn p
    · rw [if_pos q2]
      have g1 := e1.2.2.2 (by have := q2.1; omega)
      unfold itP
      split
      · rename_i z1
        split
        · rename_i z2
          exact ⟨by show p ≤ tE tc tn (tE tc tn (tE tc tn p)); omega, e3.2.2.1, fun _ => by show p + 1 ≤ tE tc tn (tE tc tn (tE tc tn p)); omega, pushG_ok o _ (by omega), rfl⟩
        · exact ⟨by show p ≤ tE tc tn (tE tc tn p); omega, e2.2.2.1, fun z => absurd z (by show ¬ ((0 : Int) = 1); decide), o, rfl⟩
      · exact ⟨e1.1, e1.2.2.1, fun z => absurd z (by show ¬ ((0 : Int) = 1); decide), o, rfl⟩
    · rw [if_neg q2]
      by_cases q3 : kw 1 tc tn p
      · rw [if_pos q3]
        have g1 := e1.2.2.2 (by have := q3.1; omega)
        unfold itD
        split
        · rename_i z1
          exact ⟨by show p ≤ tE tc tn (tE tc tn p); omega, e2.2.2.1, fun _ => by show p + 1 ≤ tE tc tn (tE tc tn p); omega, o.up1 z1.2, rfl⟩
        · exact ⟨e1.1, e1.2.2.1, fun z => absurd z (by show ¬ ((0 : Int) = 1); decide), o, rfl⟩
      · rw [if_neg q3]
        exact ⟨Int.le_refl _, h0.2, fun z => absurd z (by show ¬ ((0 : Int) = 1); decide), o, rfl⟩
theorem itT_agr {tc : FF} {tn p : Int} {g h : Gd} (a : agr g h) (o : Ok g) : (itT tc tn p g).1 = (itT tc tn p h).1 ∧ (itT tc tn p g).2.1 = (itT tc tn p h).2.1 ∧ agr (itT tc tn p g).2.2 (itT tc tn p h).2.2 := by
  have e2 := a.1 2
  unfold itT
  by_cases q1 : 0 ≤ kdT tc tn p
  · rw [if_pos q1, if_pos q1]
    unfold itC
    rw [← e2]
    repeat' split
    all_goals first | exact ⟨rfl, rfl, agr_add a o _ _ _⟩ | exact ⟨rfl, rfl, a⟩
  · rw [if_neg q1, if_neg q1]
    by_cases q2 : kw 0 tc tn p
    · rw [if_pos q2, if_pos q2]
      unfold itP
      rw [← e2]
      split
      · rename_i z1
        split
        · exact ⟨rfl, rfl, agr_push a ⟨z1.2.1, by omega⟩⟩
        · exact ⟨rfl, rfl, a⟩
      · exact ⟨rfl, rfl, a⟩
    · rw [if_neg q2, if_neg q2]
      by_cases q3 : kw 1 tc tn p
      · rw [if_pos q3, if_pos q3]
        unfold itD
        split
        · exact ⟨rfl, rfl, agr_up4 a (by decide) rfl⟩
        · exact ⟨rfl, rfl, a⟩
      · rw [if_neg q3, if_neg q3]
        exact ⟨rfl, rfl, a⟩
theorem psT_agr {tc : FF} {tn : Int} (ht : OkT tc tn) : ∀ (f : Nat) (p : Int) (g h : Gd) (i : Int), 0 ≤ p → p ≤ tn → agr g h → Ok g → (psT tc tn f p g i).1 = (psT tc tn f p h i).1 ∧ agr (psT tc tn f p g i).2 (psT tc tn f p h i).2
  | 0, p, g, h, i, _, _, a, _ => ⟨rfl, a⟩
  | f + 1, p, g, h, i, h0, h1, a, o => by
    have r := itT_rng (g := g) ht ⟨h0, h1⟩ o
    obtain ⟨e1, e2, e3⟩ := itT_agr (tc := tc) (tn := tn) (p := p) a o
    have t := tE_q ht (q := (itT tc tn p g).2.1) ⟨by omega, r.2.1⟩
    unfold psT
    rw [← e1, ← e2]
    split
    · split
      · exact ⟨rfl, e3⟩
      · split
        · exact psT_agr ht f _ _ _ _ t.2.1 t.2.2.1 e3 r.2.2.2.1
        · exact ⟨rfl, a⟩
    · exact ⟨rfl, a⟩
theorem up2_self (g : Gd) (w c : Int) : up2 g w c (g w c) = g := by
  funext w2 c2
  unfold up2
  by_cases q : w2 = w
  · subst q
    rw [if_pos rfl]
    split
    · rename_i z; rw [z]
    · rfl
  · rw [if_neg q]
theorem addG_hi (g : Gd) (k a b h : Int) : up2 (addG g k a b) 1 (g 4 2) h = addG g k h b := by
  funext w c
  unfold addG up2
  dsimp only
  repeat' split
  all_goals first | rfl | omega | (exfalso; omega)
theorem addG_ma (g : Gd) (k a b m : Int) : up2 (addG g k a b) 2 (g 4 2) m = addG g k a m := by
  funext w c
  unfold addG up2
  dsimp only
  repeat' split
  all_goals first | rfl | omega | (exfalso; omega)
theorem tB_eq {tc : FF} {tn p q : Int} (h1 : p ≤ q) (h2 : q - p < 121) (hq : ∀ j : Int, 0 ≤ j → j < q - p → ¬ ¬ bA tc tn (p + j) = 32) (hn : ¬ bA tc tn q = 32) : tB tc tn p = q := by
  have e := fst_hit (fun k => ¬ bA tc tn (p + k) = 32) 121 (q - p) (by omega) (by omega) (by show ¬ bA tc tn (p + (q - p)) = 32; rw [show p + (q - p) = q by omega]; exact hn) hq
  unfold tB
  rw [e]; omega
theorem bl_s {tc : FF} {tn p q : Int} (h : ∀ j : Int, 0 ≤ j → j < q - p → ¬ ¬ bA tc tn (p + j) = 32) (hq : bA tc tn q = 32) : ∀ j : Int, 0 ≤ j → j < q + 1 - p → ¬ ¬ bA tc tn (p + j) = 32 := fun j a b => by
  by_cases z : j < q - p
  · exact h j a z
  · rw [show p + j = q by omega]; exact fun y => y hq
theorem lnL_eq {tc : FF} {tn b r : Int} (h1 : b ≤ r) (h2 : r - b < 121) (hl : ∀ j : Int, 0 ≤ j → j < r - b → isL (bA tc tn (b + j))) (hn : ¬ isL (bA tc tn r)) : lnL tc tn b = r - b :=
  fst_hit (fun k => ¬ isL (bA tc tn (b + k))) 121 (r - b) (by omega) (by omega) (by show ¬ isL (bA tc tn (b + (r - b))); rw [show b + (r - b) = r by omega]; exact hn) (fun j a c z => z (hl j a c))
theorem lnD_eq {tc : FF} {tn b r : Int} (h1 : b ≤ r) (h2 : r - b < 121) (hl : ∀ j : Int, 0 ≤ j → j < r - b → isD (bA tc tn (b + j))) (hn : ¬ isD (bA tc tn r)) : lnD tc tn b = r - b :=
  fst_hit (fun k => ¬ isD (bA tc tn (b + k))) 121 (r - b) (by omega) (by omega) (by show ¬ isD (bA tc tn (b + (r - b))); rw [show b + (r - b) = r by omega]; exact hn) (fun j a c z => z (hl j a c))
theorem sq_s {x : Int → Int} {P : Int → Prop} {b r : Int} (h : ∀ j : Int, 0 ≤ j → j < r - b → P (x (b + j))) (hr : P (x r)) : ∀ j : Int, 0 ≤ j → j < r + 1 - b → P (x (b + j)) := fun j a c => by
  by_cases z : j < r - b
  · exact h j a z
  · rw [show b + j = r by omega]; exact hr
abbrev nxN (tc : FF) (tn p a b : Int) : Int := if nm tc tn p a b then tE tc tn p else p
theorem kw_t {tc : FF} {tn p : Int} {i : Nat} (hi : i < 10) (h : OkT tc tn) (h0 : 0 ≤ p ∧ p ≤ tn) : jI (tW tc tn p) = jI (xsH.getD i 0) ↔ tW tc tn p = xsH.getD i 0 := jI_eq (tW_rng h h0) (by have := (xsI_ok i hi).1; omega)
theorem psT_s (tc : FF) (tn : Int) {i : Int} (hi : i ≤ 120) (p : Int) (g : Gd) : psT tc tn (121 - i).toNat p g i =
    if (itT tc tn p g).1 = 1 then
      (if tS tc tn (itT tc tn p g).2.1 = 0 then (i + 1, (itT tc tn p g).2.2)
      else if tS tc tn (itT tc tn p g).2.1 = 3 ∧ tV tc tn (itT tc tn p g).2.1 = 59 then psT tc tn (121 - (i + 1)).toNat (tE tc tn (itT tc tn p g).2.1) (itT tc tn p g).2.2 (i + 1)
      else (-1 - tB tc tn (itT tc tn p g).2.1, g))
    else (-1 - tB tc tn (itT tc tn p g).2.1, g) := by
  rw [show (121 - i).toNat = (121 - (i + 1)).toNat + 1 by omega]
  rfl
theorem pt_v {i : Nat} {tc : FF} {tn b d q : Int} (h : (ptT i tc tn b d q).1 = 1) : (ptT i tc tn b d q).2.2 = if kw i tc tn q then tV tc tn (tE tc tn q) else d := by
  unfold ptT at h ⊢
  by_cases z : kw i tc tn q
  · rw [if_pos z] at h ⊢
    rw [if_pos z]
    by_cases y : nm tc tn (tE tc tn q) 0 b
    · rw [if_pos y]
    · rw [if_neg y] at h; exact absurd h (by show ¬ ((0 : Int) = 1); decide)
  · rw [if_neg z, if_neg z]
