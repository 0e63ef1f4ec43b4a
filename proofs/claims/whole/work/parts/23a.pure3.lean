/-! both sides answer alike: every op of two grounds that agree -/
theorem ite_i {α : Type} {P Q : Prop} [Decidable P] [Decidable Q] {a b c d : α} (e : P ↔ Q) (h1 : P → a = c) (h2 : ¬ P → b = d) : (if P then a else b) = (if Q then c else d) := by
  by_cases q : P
  · rw [if_pos q, if_pos (e.mp q)]; exact h1 q
  · rw [if_neg q, if_neg (fun z => q (e.mpr z))]; exact h2 q
/-- answer, ground, findings: alike -/
def R3 (u v : Int32 × Gd × FF) : Prop := u.1 = v.1 ∧ agr u.2.1 v.2.1 ∧ u.2.2 = v.2.2 ∧ Ok u.2.1 ∧ Ok v.2.1 ∧ u.2.1 4 0 ≤ 99999
theorem r3_ite {P Q : Prop} [Decidable P] [Decidable Q] {a b c d : Int32 × Gd × FF} (e : P ↔ Q) (h1 : P → R3 a c) (h2 : ¬ P → R3 b d) : R3 (if P then a else b) (if Q then c else d) := by
  by_cases q : P
  · rw [if_pos q, if_pos (e.mp q)]; exact h1 q
  · rw [if_neg q, if_neg (fun z => q (e.mpr z))]; exact h2 q
theorem agr_in {g h : Gd} (a : agr g h) (c : Int) : inC g c ↔ inC h c := by unfold inC; rw [a.1 2]
theorem fst_c {x y : Int} {fd : FF} (e : x = y) : ((iI x, fd) : Int32 × FF) = (iI y, fd) := by rw [e]
theorem q_now {g h : Gd} (a : agr g h) (o : Ok g) (fd : FF) (w : Int) : opNow g fd w = opNow h fd w := by
  have e2 : bI (dusk g) = bI (dusk h) := bI_c (agr_dusk a)
  have e3 : bI (satur g) = bI (satur h) := bI_c (agr_sat a)
  have e4 : sumN (g 1) (many g) = sumN (h 1) (many h) := by rw [← agr_many a]; exact agr_sum a (by decide) _ (many_le o)
  have e5 : bI (diffG g < 2) = bI (diffG h < 2) := bI_c (by rw [agr_diff a o])
  have e6 : dustN (g 1) (many g) = dustN (h 1) (many h) := by rw [← agr_many a]; exact agr_dust a (by decide) _ (many_le o)
  unfold opNow
  exact ite_i Iff.rfl (fun _ => fst_c (a.1 0)) (fun _ => ite_i Iff.rfl (fun _ => fst_c (by rw [a.1 0])) (fun _ => ite_i Iff.rfl (fun _ => Prod.ext e2 rfl) (fun _ => ite_i Iff.rfl (fun _ => Prod.ext e3 rfl) (fun _ => ite_i Iff.rfl (fun _ => fst_c e4) (fun _ => ite_i Iff.rfl (fun _ => Prod.ext e5 rfl) (fun _ => ite_i Iff.rfl (fun _ => Prod.ext e6 rfl) (fun _ => ite_i Iff.rfl (fun _ => fst_c (agr_high a o)) (fun _ => rfl))))))))
theorem q_of {g h : Gd} (a : agr g h) (o : Ok g) (fd : FF) (c w : Int) : opOf g fd c w = opOf h fd c w := by
  unfold opOf
  exact ite_i (agr_in a c) (fun q => ite_i Iff.rfl (fun _ => fst_c (a.r 0 (by decide) q.1 q.2)) (fun _ => ite_i Iff.rfl (fun _ => fst_c (a.r 1 (by decide) q.1 q.2)) (fun _ => ite_i Iff.rfl (fun _ => fst_c (a.r 2 (by decide) q.1 q.2)) (fun _ => ite_i Iff.rfl (fun _ => fst_c (by rw [a.r 3 (by decide) q.1 q.2])) (fun _ => ite_i Iff.rfl (fun _ => fst_c (by rw [agr_wants a o q.1 q.2])) (fun _ => ite_i Iff.rfl (fun _ => fst_c (agr_pays a q.1 q.2)) (fun _ => ite_i Iff.rfl (fun _ => fst_c (agr_yields a q.1 q.2)) (fun _ => rfl)))))))) (fun _ => rfl)
theorem q_as {g h : Gd} (a : agr g h) (fd : FF) (c k : Int) : opAs g fd c k = opAs h fd c k := by
  unfold opAs
  exact ite_i (and_congr (agr_in a c) Iff.rfl) (fun q => ite_i (by rw [a.r 0 (by decide) q.1.1 q.1.2]) (fun _ => fst_c (a.r 1 (by decide) q.1.1 q.1.2)) (fun _ => rfl)) (fun _ => rfl)
theorem q_on {g h : Gd} (a : agr g h) (o : Ok g) (hm : g 4 0 ≤ 99999) (fd : FF) (c n w : Int) : opOn g fd c n w = opOn h fd c n w := by
  unfold opOn
  exact ite_i (and_congr (agr_in a c) Iff.rfl) (fun q => fst_c (later a o q.2.1.1 (by omega) (by omega) q.1)) (fun _ => rfl)
theorem q_owes {g h : Gd} (a : agr g h) (o : Ok g) (hm : g 4 0 ≤ 99999) (fd : FF) (c n : Int) : opOwes g fd c n = opOwes h fd c n := by
  unfold opOwes
  exact ite_i (and_congr (agr_in a c) Iff.rfl) (fun q => fst_c (later a o q.2.1 (by omega) (by decide) q.1)) (fun _ => rfl)
theorem q_level {g h : Gd} (a : agr g h) (o : Ok g) (hm : g 4 0 ≤ 99999) (fd : FF) : opLevel g fd = opLevel h fd := by
  unfold opLevel
  exact congrArg (foundI fd 401) (fstI_congr _ _ 401 (fun j h0 h1 => by rw [laterD a o h0 (by omega)]))
theorem q_comes {g h : Gd} (a : agr g h) (o : Ok g) (hm : g 4 0 ≤ 99999) (fd : FF) (c v : Int) : opComes g fd c v = opComes h fd c v := by
  unfold opComes
  exact ite_i (and_congr (agr_in a c) Iff.rfl) (fun q => congrArg (foundI fd 401) (fstI_congr _ _ 401 (fun j h0 h1 => by rw [later a o h0 (by omega) (by decide) q.1]))) (fun _ => rfl)
theorem q_dust {g h : Gd} (a : agr g h) (o : Ok g) (hm : g 4 0 ≤ 99999) (fd : FF) (c : Int) : opDust g fd c = opDust h fd c := by
  unfold opDust
  exact ite_i (agr_in a c) (fun q => congrArg (foundI fd 401) (fstI_congr _ _ 401 (fun j h0 h1 => by rw [later a o h0 (by omega) (by decide) q]))) (fun _ => rfl)
theorem amx_congr {V V2 : Int → Int} {sk : Int → Bool} {b0 m0 : Int} : ∀ n : Nat, (∀ j : Int, 0 ≤ j → j < n → sk j = false → V j = V2 j) → amx V sk b0 m0 n = amx V2 sk b0 m0 n
  | 0, _ => rfl
  | n + 1, h => by
    have ih := amx_congr (V := V) (V2 := V2) (sk := sk) (b0 := b0) (m0 := m0) n (fun j h0 h1 => h j h0 (by omega))
    unfold amx
    rw [ih]
    cases q : sk (n : Int) with
    | true => rw [if_neg (fun z => by cases z.1), if_neg (fun z => by cases z.1)]
    | false => rw [h (n : Int) (by omega) (by omega) q]
theorem amn_congr {V V2 : Int → Int} {b0 m0 : Int} : ∀ n : Nat, (∀ j : Int, 0 ≤ j → j < n → V j = V2 j) → amn V b0 m0 n = amn V2 b0 m0 n
  | 0, _ => rfl
  | n + 1, h => by
    have ih := amn_congr (V := V) (V2 := V2) (b0 := b0) (m0 := m0) n (fun j h0 h1 => h j h0 (by omega))
    unfold amn
    rw [ih, h (n : Int) (by omega) (by omega)]
theorem up2_42 (g : Gd) {w : Int} (c v d : Int) (h : w ≠ 4) : up2 g w c v 4 d = g 4 d := up2_w g c d v (Ne.symm h)
theorem swapG_4 (g : Gd) (a b d : Int) : swapG g a b 4 d = g 4 d := by unfold swapG; rw [if_pos rfl]
theorem pushG_4 (g : Gd) (c v d : Int) : pushG g c v 4 d = g 4 d := up2_42 g c _ d (by decide)
theorem q_place {g h : Gd} (a : agr g h) (o : Ok g) (hm : g 4 0 ≤ 99999) (fd : FF) (c n : Int) : opPlace g fd c n = opPlace h fd c n := by
  unfold opPlace
  refine ite_i (and_congr (agr_in a c) Iff.rfl) (fun q => ?_) (fun _ => rfl)
  have e1 : amx (plV g c n) (plS c) (-1) (minsG g (Int.toNat n) 1 c) (many g) = amx (plV h c n) (plS c) (-1) (minsG h (Int.toNat n) 1 c) (many h) := by
    rw [← agr_many a, ← later a o (n := n) (w := 1) (c := c) (by omega) (by omega) (by decide) q.1]
    exact amx_congr _ (fun j h0 h1 _ => by
      have hj : 0 ≤ j ∧ j < g 4 2 := ⟨h0, Int.lt_of_lt_of_le h1 (many_le o)⟩
      exact later (agr_swap a q.1 hj) (swapG_ok o c j) (n := n) (w := 1) (c := j) (by omega) (by rw [swapG_4]; omega) (by decide) (by rw [swapG_4]; exact hj))
  rw [e1]
theorem q_kind {g h : Gd} (a : agr g h) (o : Ok g) (hm : g 4 0 ≤ 99999) (fd : FF) (c n : Int) : opKind g fd c n = opKind h fd c n := by
  unfold opKind
  refine ite_i (and_congr (agr_in a c) Iff.rfl) (fun q => ?_) (fun _ => rfl)
  have e1 : amx (knV g c n) (fun _ => false) 0 (-1) 6 = amx (knV h c n) (fun _ => false) 0 (-1) 6 := amx_congr _ (fun j h0 h1 _ => later (agr_up a 0 c (by decide) rfl) (o.upK c (v := j) ⟨h0, by omega⟩) (n := n) (w := 1) (c := c) (by omega) (by rw [up2_42 _ _ _ _ (by decide)]; omega) (by decide) (by rw [up2_42 _ _ _ _ (by decide)]; exact q.1))
  rw [e1]
theorem q_marbles {g h : Gd} (a : agr g h) (o : Ok g) (hm : g 4 0 ≤ 99999) (fd : FF) (c n v : Int) : opMarbles g fd c n v = opMarbles h fd c n v := by
  unfold opMarbles
  refine ite_i (and_congr (agr_in a c) Iff.rfl) (fun q => congrArg (foundI fd 100) (fstI_congr _ _ 100 (fun j h0 h1 => ?_))) (fun _ => rfl)
  have e1 := later (agr_up a 2 c (v := j) (by decide) rfl) (o.upM c (v := j) ⟨h0, by omega⟩) (n := n) (w := 1) (c := c) (by omega) (by rw [up2_42 _ _ _ _ (by decide)]; omega) (by decide) (by rw [up2_42 _ _ _ _ (by decide)]; exact q.1)
  rw [e1]
theorem q_night {g h : Gd} (a : agr g h) (o : Ok g) (hm : g 4 0 ≤ 99999) (fd : FF) (n : Int) : opNight g fd n = opNight h fd n := by
  unfold opNight
  refine ite_i Iff.rfl (fun q => ?_) (fun _ => rfl)
  have e1 : amn (niV g n) 0 201 60 = amn (niV h n) 0 201 60 := amn_congr _ (fun j h0 h1 => laterD (agr_up4 a (by decide) rfl) (o.up1 (v := j) ⟨h0, by omega⟩) (n := n) (by omega) (by rw [up2_c g 4 j (show (0 : Int) ≠ 1 by decide)]; omega))
  rw [e1]
theorem q_enough {g h : Gd} (a : agr g h) (o : Ok g) (hm : g 4 0 ≤ 99999) (fd : FF) (c n v : Int) : opEnough g fd c n v = opEnough h fd c n v := by
  unfold opEnough
  refine ite_i (and_congr (agr_in a c) Iff.rfl) (fun q => congrArg (foundI fd 100) (fstI_congr _ _ 100 (fun j h0 h1 => ?_))) (fun _ => rfl)
  have e1 := later (agr_push (v := j) a q.1) (pushG_ok o c h0) (n := n) (w := 1) (c := c) (by omega) (by rw [pushG_4]; omega) (by decide) (by rw [pushG_4]; exact q.1)
  rw [e1]
theorem q_whom {g h : Gd} (a : agr g h) (o : Ok g) (hm : g 4 0 ≤ 99999) (fd : FF) (v n : Int) : opWhom g fd v n = opWhom h fd v n := by
  unfold opWhom
  refine ite_i Iff.rfl (fun q => ?_) (fun _ => rfl)
  have e1 : amx (whV g v n) (fun _ => false) (-1) (-1) (many g) = amx (whV h v n) (fun _ => false) (-1) (-1) (many h) := by
    rw [← agr_many a]
    exact amx_congr _ (fun j h0 h1 _ => by
      have hj : 0 ≤ j ∧ j < g 4 2 := ⟨h0, Int.lt_of_lt_of_le h1 (many_le o)⟩
      exact later (agr_push (v := v) a hj) (pushG_ok o j (by omega)) (n := n) (w := 1) (c := j) (by omega) (by rw [pushG_4]; omega) (by decide) (by rw [pushG_4]; exact hj))
  rw [e1]
theorem q_debtor {g h : Gd} (a : agr g h) (o : Ok g) (hm : g 4 0 ≤ 99999) (fd : FF) (n : Int) : opDebtor g fd n = opDebtor h fd n := by
  unfold opDebtor
  refine ite_i Iff.rfl (fun q => ?_) (fun _ => rfl)
  have a2 := agr_mins a o (Int.toNat n) (by omega)
  have o2 := minsG_ok o (Int.toNat n) (by omega)
  have e1 : mostN (minsG g (Int.toNat n) 3) (many (minsG g (Int.toNat n))) = mostN (minsG h (Int.toNat n) 3) (many (minsG h (Int.toNat n))) := by
    rw [← agr_many a2]; exact agr_most a2 (by decide) _ (many_le o2)
  rw [e1]
theorem q_count {g h : Gd} (a : agr g h) (o : Ok g) (tn : Int) (fd : FF) (w : Int) : opCount g tn fd w = opCount h tn fd w := by
  have e4 : sumN (g 2) (many g) = sumN (h 2) (many h) := by rw [← agr_many a]; exact agr_sum a (by decide) _ (many_le o)
  have e5 : sumN (g 3) (many g) = sumN (h 3) (many h) := by rw [← agr_many a]; exact agr_sum a (by decide) _ (many_le o)
  unfold opCount
  exact ite_i Iff.rfl (fun _ => fst_c (a.1 2)) (fun _ => ite_i Iff.rfl (fun _ => rfl) (fun _ => ite_i Iff.rfl (fun _ => fst_c e4) (fun _ => ite_i Iff.rfl (fun _ => fst_c (by rw [e5])) (fun _ => rfl))))
theorem q_book {g h : Gd} (a : agr g h) (o : Ok g) (hm : g 4 0 ≤ 99999) (c bt sz : Int) (F : LL) (fd : FF) (hs : sz ≤ 40) : opBook g c bt sz F fd = opBook h c bt sz F fd := by
  unfold opBook
  refine ite_i Iff.rfl (fun _ => rfl) (fun _ => ite_i (agr_in a c) (fun q => ?_) (fun _ => rfl))
  have e1 : bkL g c bt F sz = bkL h c bt F sz := by
    funext j
    unfold bkL
    exact ite_i Iff.rfl (fun z => by rw [later a o z.1 (by omega) (by decide) q]) (fun _ => rfl)
  rw [e1]
theorem rd_congr {g h : Gd} {c o : Int} {F : LL} {sz : Nat} : ∀ n : Nat, (∀ k : Int, 0 ≤ k → k < n → (soN (rdG g c o k) c F sz = true ↔ soN (rdG h c o k) c F sz = true)) → rdN g c o F sz n = rdN h c o F sz n
  | 0, _ => rfl
  | n + 1, h1 => by
    have ih := rd_congr (g := g) (h := h) (c := c) (o := o) (F := F) (sz := sz) n (fun j a b => h1 j a (by omega))
    unfold rdN
    rw [ih]
    exact congrArg (fun z => rdN h c o F sz n + z) (ite_i (h1 (n : Int) (by omega) (by omega)) (fun _ => rfl) (fun _ => rfl))
theorem q_read {g h : Gd} (a : agr g h) (ok : Ok g) (hm : g 4 0 ≤ 99999) (c o bt sz : Int) (F : LL) (fd : FF) (hs : 0 ≤ sz ∧ sz ≤ 40) : opRead g c o bt sz F fd = opRead h c o bt sz F fd := by
  unfold opRead
  refine ite_i Iff.rfl (fun _ => rfl) (fun _ => ite_i (and_congr (agr_in a c) (and_congr (agr_in a o) Iff.rfl)) (fun q => fst_c (rd_congr 36 (fun k h0 h1 => ?_))) (fun _ => rfl))
  have a2 : agr (rdG g c o k) (rdG h c o k) := agr_up (agr_up a 0 c (by decide) rfl) 0 o (by decide) rfl
  have o2 : Ok (rdG g c o k) := (ok.upK c (by omega)).upK o (by omega)
  have e4 : ∀ d, rdG g c o k 4 d = g 4 d := fun d => by unfold rdG; rw [up2_42 _ _ _ _ (by decide), up2_42 _ _ _ _ (by decide)]
  exact so_agr a2 o2 (by rw [e4]; omega) (by rw [e4]; exact q.1) F hs
/-! what changes the ground -/
theorem r3_f {g h : Gd} (a : agr g h) (o : Ok g) (p : Ok h) (hm : g 4 0 ≤ 99999) (x : Int32) (f : FF) : R3 (x, g, f) (x, h, f) := ⟨rfl, a, rfl, o, p, hm⟩
theorem s_dark {g h : Gd} (a : agr g h) (o : Ok g) (p : Ok h) (hm : g 4 0 ≤ 99999) (fd : FF) (v : Int) : R3 (opDark g fd v) (opDark h fd v) := by
  unfold opDark
  exact r3_ite Iff.rfl (fun q => ⟨by show iI (g 4 1) = iI (h 4 1); rw [a.1 1], agr_up4 a (by decide) rfl, rfl, o.up1 q, p.up1 q, by show up2 g 4 1 v 4 0 ≤ 99999; rw [up2_c g 4 v (show (0 : Int) ≠ 1 by decide)]; exact hm⟩) (fun _ => r3_f a o p hm _ _)
theorem addG_40 (g : Gd) (k x y : Int) : addG g k x y 4 0 = g 4 0 := by
  unfold addG
  try dsimp only
  rw [up2_c _ 4 _ (show (0 : Int) ≠ 2 by decide), up2_42 _ _ _ _ (by decide), up2_42 _ _ _ _ (by decide), up2_42 _ _ _ _ (by decide), up2_42 _ _ _ _ (by decide)]
theorem s_child {g h : Gd} (a : agr g h) (o : Ok g) (p : Ok h) (hm : g 4 0 ≤ 99999) (fd : FF) (k : Int) : R3 (opChild g fd k) (opChild h fd k) := by
  unfold opChild
  exact r3_ite Iff.rfl (fun q => r3_ite (by rw [a.1 2]) (fun q2 => ⟨by show iI (g 4 2) = iI (h 4 2); rw [a.1 2], agr_add a o k 50 5, rfl, addG_ok o q2 q (by decide) (by decide), addG_ok p (by rw [← a.1 2]; exact q2) q (by decide) (by decide), by show addG g k 50 5 4 0 ≤ 99999; rw [addG_40]; exact hm⟩) (fun _ => r3_f a o p hm _ _)) (fun _ => r3_f a o p hm _ _)
theorem s_set {g h : Gd} (a : agr g h) (o : Ok g) (p : Ok h) (hm : g 4 0 ≤ 99999) (fd : FF) (c w v : Int) : R3 (opSet g fd c w v) (opSet h fd c w v) := by
  unfold opSet
  refine r3_ite (and_congr (agr_in a c) Iff.rfl) (fun q => ?_) (fun _ => r3_f a o p hm _ _)
  have hw : 0 ≤ w ∧ w < 4 := by omega
  refine ⟨by show iI (g w c) = iI (h w c); rw [a.r w hw q.1.1 q.1.2], agr_up a w c hw rfl, rfl, ?_, ?_, by show up2 g w c v 4 0 ≤ 99999; rw [up2_42 _ _ _ _ (by omega)]; exact hm⟩
  · show Ok (up2 g w c v)
    rcases q.2 with ⟨rfl, h1⟩ | ⟨rfl, h1⟩ | ⟨rfl, h1⟩
    · exact o.upH c h1
    · exact o.upM c h1
    · exact o.upO c h1
  · show Ok (up2 h w c v)
    rcases q.2 with ⟨rfl, h1⟩ | ⟨rfl, h1⟩ | ⟨rfl, h1⟩
    · exact p.upH c h1
    · exact p.upM c h1
    · exact p.upO c h1
theorem s_turn {g h : Gd} (a : agr g h) (o : Ok g) (p : Ok h) (hm : g 4 0 ≤ 99999) (fd : FF) (c k : Int) : R3 (opTurn g fd c k) (opTurn h fd c k) := by
  unfold opTurn
  exact r3_ite (and_congr (agr_in a c) Iff.rfl) (fun q => ⟨by show iI (g 0 c) = iI (h 0 c); rw [a.r 0 (by decide) q.1.1 q.1.2], agr_up a 0 c (by decide) rfl, rfl, o.upK c q.2, p.upK c q.2, by show up2 g 0 c k 4 0 ≤ 99999; rw [up2_42 _ _ _ _ (by decide)]; exact hm⟩) (fun _ => r3_f a o p hm _ _)
theorem s_push {g h : Gd} (a : agr g h) (o : Ok g) (p : Ok h) (hm : g 4 0 ≤ 99999) (fd : FF) (c v : Int) : R3 (opPush g fd c v) (opPush h fd c v) := by
  unfold opPush
  exact r3_ite (and_congr (agr_in a c) Iff.rfl) (fun q => ⟨by show iI (pushG g c v 1 c) = iI (pushG h c v 1 c); rw [(agr_push a q.1).r 1 (by decide) q.1.1 (by rw [pushG_4]; exact q.1.2)], agr_push a q.1, rfl, pushG_ok o c (by omega), pushG_ok p c (by omega), by show pushG g c v 4 0 ≤ 99999; rw [pushG_4]; exact hm⟩) (fun _ => r3_f a o p hm _ _)
theorem s_swap {g h : Gd} (a : agr g h) (o : Ok g) (p : Ok h) (hm : g 4 0 ≤ 99999) (fd : FF) (c d : Int) : R3 (opSwap g fd c d) (opSwap h fd c d) := by
  unfold opSwap
  exact r3_ite (and_congr (agr_in a c) (and_congr (agr_in a d) Iff.rfl)) (fun q => ⟨rfl, agr_swap a q.1 q.2.1, rfl, swapG_ok o c d, swapG_ok p c d, by show swapG g c d 4 0 ≤ 99999; rw [swapG_4]; exact hm⟩) (fun _ => r3_f a o p hm _ _)
theorem s_minutes {g h : Gd} (a : agr g h) (o : Ok g) (p : Ok h) (hm : g 4 0 ≤ 99999) (fd : FF) (n : Int) : R3 (opMinutes g fd n) (opMinutes h fd n) := by
  unfold opMinutes
  refine r3_ite Iff.rfl (fun q => r3_ite (by rw [a.1 0]) (fun q2 => ?_) (fun _ => r3_f a o p hm _ _)) (fun _ => r3_f a o p hm _ _)
  have a2 := agr_mins a o (Int.toNat n) (by omega)
  have o2 := minsG_ok o (Int.toNat n) (by omega)
  have e0 := a.1 0
  have p2 := minsG_ok p (Int.toNat n) (by omega)
  exact ⟨by show iI (highG (minsG g (Int.toNat n))) = iI (highG (minsG h (Int.toNat n))); rw [agr_high a2 o2], a2, rfl, o2, p2, by show minsG g (Int.toNat n) 4 0 ≤ 99999; rw [minsG_40]; omega⟩
theorem s_lays {g h : Gd} (a : agr g h) (o : Ok g) (p : Ok h) (hm : g 4 0 ≤ 99999) (bt sz : Int) (F : LL) (fd : FF) : R3 (opLays g bt sz F fd) (opLays h bt sz F fd) := by
  unfold opLays
  refine r3_ite Iff.rfl (fun _ => r3_f a o p hm _ _) (fun _ => ?_)
  rw [← a.1 2]
  have e := layN_agr a F (Int.toNat (min sz (g 4 2)))
  exact ⟨congrArg iI e.2, e.1, rfl, layN_ok o F _, layN_ok p F _, by show (layN g F _).1 4 0 ≤ 99999; rw [layN_4]; exact hm⟩
theorem s_undo {g h gk hk : Gd} {ib : Int} (a : agr g h) (o : Ok g) (p : Ok h) (hm : g 4 0 ≤ 99999) (ok : Ok gk) (pk : Ok hk) (hmk : gk 4 0 ≤ 99999) (ak : ib = 1 → agr gk hk) (fd : FF) : R3 (opUndo ib g (likeG g gk) fd) (opUndo ib h hk fd) := by
  unfold opUndo
  exact r3_ite Iff.rfl (fun q => ⟨by show iI (likeG g gk 4 2) = iI (hk 4 2); rw [(agr_like g gk).1 2, (ak q).1 2], (agr_like g gk).tr (ak q), rfl, likeG_ok o ok, pk, by show likeG g gk 4 0 ≤ 99999; rw [(agr_like g gk).1 0]; exact hmk⟩) (fun _ => r3_f a o p hm _ _)
theorem psT_ok {tc : FF} {tn : Int} (ht : OkT tc tn) : ∀ (f : Nat) (p : Int) (g : Gd) (i : Int), 0 ≤ p → p ≤ tn → Ok g → 0 ≤ i → Ok (psT tc tn f p g i).2 ∧ (psT tc tn f p g i).2 4 0 = g 4 0 ∧ -121 ≤ (psT tc tn f p g i).1 ∧ (psT tc tn f p g i).1 ≤ i + f
  | 0, p, g, i, h0, h1, o, hi => by
    have b := tB_rng ht ⟨h0, h1⟩
    have c := ht.2.2
    exact ⟨o, rfl, by show (-121 : Int) ≤ -1 - tB tc tn p; omega, by show -1 - tB tc tn p ≤ i + ((0 : Nat) : Int); omega⟩
  | f + 1, p, g, i, h0, h1, o, hi => by
    have r := itT_rng (g := g) ht ⟨h0, h1⟩ o
    have t := tE_q ht (q := (itT tc tn p g).2.1) ⟨by omega, r.2.1⟩
    have b := tB_rng ht (p := (itT tc tn p g).2.1) ⟨by omega, r.2.1⟩
    have c := ht.2.2
    unfold psT
    split
    · split
      · exact ⟨r.2.2.2.1, r.2.2.2.2, by show (-121 : Int) ≤ i + 1; omega, by show i + 1 ≤ i + ((f + 1 : Nat) : Int); omega⟩
      · split
        · have ih := psT_ok ht f _ (itT tc tn p g).2.2 (i + 1) t.2.1 t.2.2.1 r.2.2.2.1 (by omega)
          exact ⟨ih.1, ih.2.1.trans r.2.2.2.2, ih.2.2.1, by omega⟩
        · exact ⟨o, rfl, by show (-121 : Int) ≤ -1 - tB tc tn (itT tc tn p g).2.1; omega, by show -1 - tB tc tn (itT tc tn p g).2.1 ≤ i + ((f + 1 : Nat) : Int); omega⟩
    · exact ⟨o, rfl, by show (-121 : Int) ≤ -1 - tB tc tn (itT tc tn p g).2.1; omega, by show -1 - tB tc tn (itT tc tn p g).2.1 ≤ i + ((f + 1 : Nat) : Int); omega⟩
theorem s_ground {tc : FF} {tn : Int} (ht : OkT tc tn) {g h : Gd} (a : agr g h) (o : Ok g) (p : Ok h) (hm : g 4 0 ≤ 99999) : (opGround tc tn g).1 = (opGround tc tn h).1 ∧ agr (opGround tc tn g).2 (opGround tc tn h).2 ∧ Ok (opGround tc tn h).2 ∧ (opGround tc tn g).2 4 0 ≤ 99999 := by
  have e := psT_agr ht 121 0 g h 0 (by omega) ht.2.1 a o
  have k1 := psT_ok ht 121 0 g 0 (by omega) ht.2.1 o (by omega)
  have k2 := psT_ok ht 121 0 h 0 (by omega) ht.2.1 p (by omega)
  unfold opGround
  rw [← e.1]
  split
  · exact ⟨rfl, e.2, k2.1, by show (psT tc tn 121 0 g 0).2 4 0 ≤ 99999; rw [k1.2.1]; exact hm⟩
  · exact ⟨rfl, a, p, hm⟩
theorem up1_rng {F : FF} {k v : Int} (h : ∀ j, 0 ≤ F j ∧ F j < 256) (hv : 0 ≤ v ∧ v < 256) : ∀ j, 0 ≤ up1 F k v j ∧ up1 F k v j < 256 := fun j => by
  unfold up1; split
  · exact hv
  · exact h j
theorem feedT_rng {b : Int} : ∀ (n : Nat) {tc : FF} {tn : Int}, (∀ j, 0 ≤ tc j ∧ tc j < 256) → ∀ j, 0 ≤ feedT tc tn b n j ∧ feedT tc tn b n j < 256
  | 0, _, _, h => h
  | n + 1, tc, tn, h => by
    unfold feedT
    exact feedT_rng n (up1_rng h (byt_rng b n))
theorem s_feed {tc : FF} {tn : Int} (ht : OkT tc tn) (fd : FF) (b n : Int) : OkT (opFeed tc tn fd b n).2.1 (opFeed tc tn fd b n).2.2.1 := by
  unfold opFeed
  split
  · split
    · exact ⟨feedT_rng _ ht.1, by show 0 ≤ tn + n; have := ht.2.1; omega, by show tn + n ≤ 120; assumption⟩
    · exact ht
  · exact ht
theorem s_wipe {tc : FF} {tn : Int} (ht : OkT tc tn) : OkT tc 0 := ⟨ht.1, Int.le_refl _, by decide⟩
theorem s_sheet {bt sz : Int} {F : LL} {fd : FF} {b n : Int} (h1 : 0 ≤ bt ∧ bt ≤ 64) (h2 : 0 ≤ sz ∧ sz ≤ 40) : (0 ≤ (opSheet bt sz F fd b n).2.1 ∧ (opSheet bt sz F fd b n).2.1 ≤ 64) ∧ 0 ≤ (opSheet bt sz F fd b n).2.2.1 ∧ (opSheet bt sz F fd b n).2.2.1 ≤ 40 := by
  unfold opSheet
  split
  · split
    · exact ⟨h1, h2⟩
    · split
      · exact ⟨h1, h2⟩
      · refine ⟨?_, ?_⟩
        · show 0 ≤ b ∧ b ≤ 64; omega
        · show 0 ≤ (if b = 0 then 0 else n) ∧ (if b = 0 then 0 else n) ≤ 40; split <;> omega
  · exact ⟨h1, h2⟩
