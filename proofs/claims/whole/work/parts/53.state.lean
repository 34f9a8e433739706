/-! What holds while places are being typed. -/
def TyV (M : Mm) : Prop := (∀ t : Nat, t < 10 → M 4 t = if t < 2 then 0 else ((2 ^ (t - 2) : Nat) : Int)) ∧ ∀ t : Nat, 10 ≤ t → (t : Int) < M 1 3 → M 4 t = bOr (M 4 (M 2 t).toNat) (if M 3 t = -1 then 0 else M 4 (M 3 t).toNat)
def ClT (Mc Mr : Mm) : Prop := (0 ≤ Mc 5 6 ∧ Mc 5 6 ≤ 6) ∧ ∀ c : Nat, (c : Int) < Mc 5 6 → (0 ≤ Mc 7 c ∧ Mc 7 c ≤ 3) ∧ ∀ m : Nat, (m : Int) < Mc 7 c → Mr 59 (3 * c + m) = Mc 8 (3 * c + m) ∧ (0 ≤ Mc 8 (3 * c + m) ∧ Mc 8 (3 * c + m) < Mc 1 3) ∧ Mc 4 (Mc 8 (3 * c + m)).toNat = 1
def DfT (Mc Mr : Mm) : Prop := (0 ≤ Mc 17 4 ∧ Mc 17 4 ≤ 20) ∧ ∀ g : Nat, (g : Int) < Mc 17 4 → Mr 68 g = Mc 19 g ∧ (0 ≤ Mc 19 g ∧ Mc 19 g < Mc 1 3) ∧ (Mr 70 g = Mc 20 g ∧ 0 ≤ Mc 20 g ∧ Mc 20 g ≤ 8) ∧ ∃ m : Nat, m ≤ 8 ∧ Mr 69 g = (m : Int) ∧ Mc 4 (Mc 19 g).toNat = ((2 ^ m - 1 : Nat) : Int) ∧ ∀ i : Nat, (i : Int) < Mc 20 g → Mr 71 (8 * g + i) = Mc 21 (8 * g + i) ∧ ∃ c v : Nat, Mc 21 (8 * g + i) = ((8 * c + v : Nat) : Int) ∧ v < m ∧ (c : Int) < Mc 5 6
def Stat (Mc Mr : Mm) : Prop := TyC Mc ∧ TyR Mc Mr ∧ TyV Mc ∧ ExC Mc ∧ ExR Mc Mr ∧ ClT Mc Mr ∧ DfT Mc Mr
theorem Stat_fr {Mc Mr Nc Nr : Mm} (h1 : ∀ a, a < 24 → Nc a = Mc a) (h2 : ∀ a, 54 ≤ a → a ≤ 75 → Nr a = Mr a) (h3 : ∀ k, k < 28 → Nr 53 k = Mr 53 k) (h : Stat Mc Mr) : Stat Nc Nr := by
  unfold Stat TyC TyR TyV ExC ExR ClT DfT
  rw [h1 1 (by omega), h1 2 (by omega), h1 3 (by omega), h1 4 (by omega), h1 5 (by omega), h1 7 (by omega), h1 8 (by omega), h1 12 (by omega), h1 13 (by omega), h1 14 (by omega), h1 15 (by omega), h1 16 (by omega), h1 17 (by omega), h1 19 (by omega), h1 20 (by omega), h1 21 (by omega)]
  rw [h2 54 (by omega) (by omega), h2 55 (by omega) (by omega), h2 56 (by omega) (by omega), h2 59 (by omega) (by omega), h2 63 (by omega) (by omega), h2 64 (by omega) (by omega), h2 65 (by omega) (by omega), h2 66 (by omega) (by omega), h2 68 (by omega) (by omega), h2 69 (by omega) (by omega), h2 70 (by omega) (by omega), h2 71 (by omega) (by omega), h3 1 (by omega), h3 12 (by omega)]
  exact h
def LayP (Mc Mr : Mm) (np : Nat) : Prop := (1 ≤ np ∧ np ≤ 60) ∧ Mc 24 13 = (np : Int) ∧ Mr 53 46 = (np : Int) ∧ (∀ q, q < np → LayQ Mc np q) ∧ ∀ q, q < np → Mr 84 q = Mc 34 q ∧ Mr 86 q = Mc 35 q
theorem LayP_fr {Mc Mr Nc Nr : Mm} {np : Nat} (h1 : ∀ a, a < 24 → Nc a = Mc a) (h24 : Nc 24 = Mc 24 ∧ Nc 34 = Mc 34 ∧ Nc 35 = Mc 35) (h2 : Nr 84 = Mr 84 ∧ Nr 86 = Mr 86 ∧ Nr 53 46 = Mr 53 46) (h : LayP Mc Mr np) : LayP Nc Nr np := by
  unfold LayP LayQ
  rw [h24.1, h24.2.1, h24.2.2, h2.1, h2.2.1, h2.2.2, h1 12 (by omega), h1 13 (by omega), h1 14 (by omega), h1 15 (by omega), h1 16 (by omega)]
  exact h
/-- the expression at a place -/
def eAt (M : Mm) (q : Nat) : Nat := (M 34 q).toNat
theorem LayP_e {Mc Mr : Mm} {np q : Nat} (h : LayP Mc Mr np) (hq : q < np) : Mc 34 q = (eAt Mc q : Int) ∧ (eAt Mc q : Int) < Mc 12 4 := by
  obtain ⟨e, h1, h2, -⟩ := h.2.2.2.1 q hq
  unfold eAt
  rw [h1, Int.toNat_natCast]
  exact ⟨rfl, h2⟩
/-- nodes of places and of arguments -/
def NdP (Mc Mr : Mm) (S : Nat → Nat → Prop) (n' p np : Nat) (ow : Nat → Nat) : Prop := ∀ q, q < np → (Mc 36 q = ((2 + q : Nat) : Int) ∧ ∃ u : Nat, Mr 85 q = (u : Int) ∧ S (2 + q) u) ∧ (Mc 13 (eAt Mc q) = 3 → ∃ u : Nat, u < n' ∧ Mr 87 q = (u : Int) ∧ Mr 76 u = 2 ∧ ow u = 2 * q + 1 ∧ (q < p → ∃ c : Nat, Mc 37 q = (c : Int) ∧ S c u) ∧ (p ≤ q → ∀ d, ¬ S d u))
/-- as many variables are filled as the type has -/
def fq (M : Mm) (q k : Nat) : Prop := (M 13 (eAt M q) = 5 → M 4 (M 8 (3 * (M 14 (eAt M q)).toNat + (M 15 (eAt M q)).toNat)).toNat = ((2 ^ k - 1 : Nat) : Int)) ∧ (M 13 (eAt M q) = 6 → M 4 (M 19 (M 14 (eAt M q)).toNat).toNat = ((2 ^ k - 1 : Nat) : Int))
theorem fq_fr {M N : Mm} {q k : Nat} (h0 : ∀ a, a < 24 → N a = M a) (h34 : N 34 = M 34) (h : fq M q k) : fq N q k := by
  unfold fq eAt
  rw [h34, h0 13 (by omega), h0 14 (by omega), h0 15 (by omega), h0 4 (by omega), h0 8 (by omega), h0 19 (by omega)]
  exact h
def FlP (Mc Mr : Mm) (S : Nat → Nat → Prop) (p np : Nat) : Prop := ∀ q, q < np → (q < p → ∃ k : Nat, k ≤ 8 ∧ Mc 39 q = (k : Int) ∧ Mr 89 q = (k : Int) ∧ fq Mc q k ∧ ∀ v, v < k → ∃ c u : Nat, Mc 38 (8 * q + v) = (c : Int) ∧ Mr 88 (8 * q + v) = (u : Int) ∧ S c u) ∧ (p ≤ q → Mc 39 q = 0 ∧ Mr 89 q = 0)
/-- how many conditions a place has, and those before it -/
def cnQ (M : Mm) (q : Nat) : Nat := if M 13 (eAt M q) = 5 then 1 else if M 13 (eAt M q) = 6 then (M 20 (M 14 (eAt M q)).toNat).toNat else 0
def wsQ (M : Mm) : Nat → Nat
  | 0 => 0
  | q + 1 => wsQ M q + cnQ M q
def WtP (Mc Mr : Mm) (p : Nat) : Prop := Mr 53 43 = (wsQ Mc p : Int) ∧ ∀ q, q < p → (Mc 13 (eAt Mc q) = 5 → Mr 90 (wsQ Mc q) = Mc 14 (eAt Mc q) ∧ Mr 91 (wsQ Mc q) = Mr 88 (8 * q)) ∧ (Mc 13 (eAt Mc q) = 6 → ∀ i c v : Nat, (i : Int) < Mc 20 (Mc 14 (eAt Mc q)).toNat → v < 8 → Mc 21 (8 * (Mc 14 (eAt Mc q)).toNat + i) = ((8 * c + v : Nat) : Int) → Mr 90 (wsQ Mc q + i) = (c : Int) ∧ Mr 91 (wsQ Mc q + i) = Mr 88 (8 * q + v))
/-- the lambda that a local speaks of -/
def arn (M : Mm) : Nat → Int → Int
  | 0, a => a
  | k + 1, a => if a = -1 then -1 else arn M k (M 35 a.toNat)
/-- what is known of the type at a place -/
def PlQ (M : Mm) (cs : List (Nat × Nat)) (q : Nat) : Prop :=
  (M 13 (eAt M q) = 0 → (2 + q, 0) ∈ cs) ∧
  (M 13 (eAt M q) = 1 → ∃ y, (2 + q, y) ∈ cs ∧ PN M (M 14 (eAt M q)).toNat y) ∧
  (M 13 (eAt M q) = 2 → ∃ l c : Nat, arn M (M 14 (eAt M q)).toNat (M 35 q) = (l : Int) ∧ M 37 l = (c : Int) ∧ (2 + q, c) ∈ cs) ∧
  (M 13 (eAt M q) = 3 → ∃ y c : Nat, M 37 q = (c : Int) ∧ (2 + q, y) ∈ cs ∧ isF M y c (2 + (q + 1))) ∧
  (M 13 (eAt M q) = 4 → ∃ y : Nat, (2 + (q + 1), y) ∈ cs ∧ isF M y (2 + (q + 1 + (M 16 (M 14 (eAt M q)).toNat).toNat)) (2 + q)) ∧
  (M 13 (eAt M q) = 5 → ∃ (y : Nat) (ν : Nat → Nat), (2 + q, y) ∈ cs ∧ TNs M (M 2) (M 3) (fun v => (M 38 (8 * q + v)).toNat) ν (M 8 (3 * (M 14 (eAt M q)).toNat + (M 15 (eAt M q)).toNat)).toNat ((M 8 (3 * (M 14 (eAt M q)).toNat + (M 15 (eAt M q)).toNat)).toNat + 1) ∧ ν (M 8 (3 * (M 14 (eAt M q)).toNat + (M 15 (eAt M q)).toNat)).toNat = y) ∧
  (M 13 (eAt M q) = 6 → ∃ (y : Nat) (ν : Nat → Nat), (2 + q, y) ∈ cs ∧ TNs M (M 2) (M 3) (fun v => (M 38 (8 * q + v)).toNat) ν (M 19 (M 14 (eAt M q)).toNat).toNat ((M 19 (M 14 (eAt M q)).toNat).toNat + 1) ∧ ν (M 19 (M 14 (eAt M q)).toNat).toNat = y)
/-- the whole -/
def PS (Mc Mr : Mm) (S : Nat → Nat → Prop) (n n' : Nat) (cs : List (Nat × Nat)) (p np : Nat) (ow : Nat → Nat) : Prop := Tw Mc Mr S n n' cs ∧ Stat Mc Mr ∧ LayP Mc Mr np ∧ NdP Mc Mr S n' p np ow ∧ FlP Mc Mr S p np ∧ WtP Mc Mr p ∧ (∀ q, q < p → PlQ Mc cs q) ∧ n ≤ 62 + 39 * p ∧ n' ≤ 120 + 40 * p ∧ ∀ x, x < n → Mc 26 x ≠ 5
theorem GW_F {M : Mm} {n y a b : Nat} (g : GW M n) (hy : y < n) (h : isF M y a b) : a < n ∧ b < n := by
  obtain ⟨q1, q2, q3, q4, q5, q6⟩ := g.2.2.2 y hy
  obtain ⟨h1, h2, h3⟩ := h
  have := q2 (by omega)
  have := q4 h1
  omega
theorem GW_L {M : Mm} {n y a : Nat} (g : GW M n) (hy : y < n) (h : isL M y a) : a < n := by
  obtain ⟨q1, q2, q3, q4, q5, q6⟩ := g.2.2.2 y hy
  obtain ⟨h1, h2⟩ := h
  have := q2 (by omega)
  omega
theorem PN_g {M M' : Mm} {n k y : Nat} (g : GW M n) (hy : y < n) (hC : ∀ x, x < n → M' 26 x = M 26 x ∧ M' 27 x = M 27 x ∧ M' 28 x = M 28 x) (h : PN M k y) : PN M' k y := by
  have F : ∀ {y a b : Nat}, y < n → isF M y a b → isF M' y a b := fun hy q => by
    obtain ⟨a1, a2, a3⟩ := hC _ hy
    unfold isF
    rw [a1, a2, a3]
    exact q
  have L : ∀ {y a : Nat}, y < n → isL M y a → isL M' y a := fun hy q => by
    obtain ⟨a1, a2, a3⟩ := hC _ hy
    unfold isL
    rw [a1, a2]
    exact q
  rcases h with h | ⟨rfl, y1, h1, h2⟩ | ⟨rfl, y1, h1, h2⟩ | ⟨rfl, a, y1, y2, h1, h2, h3⟩ | ⟨rfl, a, h1⟩ | ⟨rfl, a, l, y1, h0, h1, h2⟩ | ⟨rfl, a, l, b, y1, y2, y3, y4, h0, h1, h2, h3, h4, h5⟩
  · exact Or.inl h
  · exact Or.inr (Or.inl ⟨rfl, y1, F hy h1, F (GW_F g hy h1).2 h2⟩)
  · exact Or.inr (Or.inr (Or.inl ⟨rfl, y1, F hy h1, F (GW_F g hy h1).2 h2⟩))
  · have n1 := (GW_F g hy h1).2
    exact Or.inr (Or.inr (Or.inr (Or.inl ⟨rfl, a, y1, y2, F hy h1, F n1 h2, F (GW_F g n1 h2).2 h3⟩)))
  · exact Or.inr (Or.inr (Or.inr (Or.inr (Or.inl ⟨rfl, a, L hy h1⟩))))
  · have n1 := (GW_F g hy h1).2
    exact Or.inr (Or.inr (Or.inr (Or.inr (Or.inr (Or.inl ⟨rfl, a, l, y1, L (GW_F g n1 h2).1 h0, F hy h1, F n1 h2⟩)))))
  · have n2 := (GW_F g hy h5).1
    have n4 := (GW_F g hy h5).2
    have n1 := (GW_F g n2 h2).2
    have n3 := (GW_F g n4 h4).2
    exact Or.inr (Or.inr (Or.inr (Or.inr (Or.inr (Or.inr ⟨rfl, a, l, b, y1, y2, y3, y4, L (GW_F g n3 h3).1 h0, F n1 h1, F n2 h2, F n3 h3, F n4 h4, F hy h5⟩)))))
theorem TNs_g {M M' : Mm} {n t : Nat} {lf rt : Nat → Int} {fill fill' ν : Nat → Nat} (g : GW M n) (hy : ν t < n) (ht : ∀ j : Nat, 10 ≤ j → j ≤ t → (0 ≤ lf j ∧ lf j < (j : Int)) ∧ (rt j = -1 ∨ (0 ≤ rt j ∧ rt j < (j : Int)))) (hC : ∀ x, x < n → M' 26 x = M 26 x ∧ M' 27 x = M 27 x ∧ M' 28 x = M 28 x) (hf : ∀ i, 2 ≤ i → i < 10 → Oc lf rt t i → fill' (i - 2) = fill (i - 2)) (h : TNs M lf rt fill ν t (t + 1)) : TNs M' lf rt fill' ν t (t + 1) := by
  have F : ∀ {y a b : Nat}, y < n → isF M y a b → isF M' y a b := fun hy q => by
    obtain ⟨a1, a2, a3⟩ := hC _ hy
    unfold isF
    rw [a1, a2, a3]
    exact q
  have L : ∀ {y a : Nat}, y < n → isL M y a → isL M' y a := fun hy q => by
    obtain ⟨a1, a2, a3⟩ := hC _ hy
    unfold isL
    rw [a1, a2]
    exact q
  have nl : ∀ i, Oc lf rt t i → (i ≤ t ∧ Oc lf rt t i ∧ ν i < n) := by
    intro i hi
    refine hi (fun i => i ≤ t ∧ Oc lf rt t i ∧ ν i < n) ⟨Nat.le_refl _, Oc_t _ _ _, hy⟩ (fun j hj h10 => ?_)
    obtain ⟨b1, b2⟩ := ht j h10 hj.1
    obtain ⟨-, -, c3, c4⟩ := h j (by omega) hj.2.1
    refine ⟨⟨by omega, Oc_l hj.2.1 h10, ?_⟩, fun hr => ⟨by omega, Oc_r hj.2.1 h10 hr, (GW_F g hj.2.2 (c4 h10 hr)).2⟩⟩
    by_cases hr : rt j = -1
    · exact GW_L g hj.2.2 (c3 h10 hr)
    · exact (GW_F g hj.2.2 (c4 h10 hr)).1
  intro i hi o
  obtain ⟨a1, a2, a3, a4⟩ := h i hi o
  have := (nl i o).2.2
  exact ⟨a1, fun q1 q2 => by rw [a2 q1 q2, hf i q1 q2 o], fun q1 q2 => L this (a3 q1 q2), fun q1 q2 => F this (a4 q1 q2)⟩
theorem arn_fr {M N : Mm} (h : N 35 = M 35) : ∀ (k : Nat) (a : Int), arn N k a = arn M k a
  | 0, _ => rfl
  | k + 1, a => by
    unfold arn
    rw [h, arn_fr h k]
