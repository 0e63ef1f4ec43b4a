def opPut (g : Gd) (fd : FF) (w c v a b : Int) : Int32 × Gd × FF := if a ≤ v ∧ v ≤ b then (iI (g w c), up2 g w c v, fd) else (fin 0, g, fnd fd 0)
theorem bI_01 (P : Prop) [Decidable P] : bI P = iI 0 ∨ bI P = iI 1 := by
  by_cases q : P
  · exact Or.inr (bI_t q)
  · exact Or.inl (bI_f q)
def opFirst (g : Gd) (fd : FF) (c a b : Int) : Int32 × FF := foundI fd 401 (fstI (fun i => a ≤ minsG g (Int.toNat i) 1 c ∧ minsG g (Int.toNat i) 1 c ≤ b) 401)
theorem fstI_congr (P Q : Int → Prop) [DecidablePred P] [DecidablePred Q] : ∀ n : Nat, (∀ j : Int, 0 ≤ j → j < n → (P j ↔ Q j)) → fstI P n = fstI Q n
  | 0, _ => rfl
  | n + 1, h => by
    have ih := fstI_congr P Q n (fun j h0 h1 => h j h0 (by omega))
    have e := h (n : Int) (by omega) (by omega)
    unfold fstI
    rw [ih]
    simp only [e]
theorem opFirst_eq {g : Gd} {fd : FF} {c a b : Int} {P : Int → Prop} [DecidablePred P] (h : ∀ j : Int, 0 ≤ j → j < 401 → ((a ≤ minsG g (Int.toNat j) 1 c ∧ minsG g (Int.toNat j) 1 c ≤ b) ↔ P j)) : opFirst g fd c a b = foundI fd 401 (fstI P 401) := by
  unfold opFirst
  rw [fstI_congr _ P 401 h]
