/-! From place to place. -/
theorem arn_le {M : Mm} {np : Nat} (h : ∀ q, q < np → -1 ≤ M 35 q ∧ M 35 q < (q : Int)) : ∀ (k : Nat) (a : Int) (l : Nat), -1 ≤ a → a < (np : Int) → arn M k a = (l : Int) → (l : Int) ≤ a
  | 0, a, l, _, _, e => by
    have e : a = (l : Int) := e
    omega
  | k + 1, a, l, h0, ha, e => by
    unfold arn at e
    split at e
    · omega
    · rename_i hne
      obtain ⟨q, hq⟩ : ∃ q : Nat, a = (q : Int) := ⟨a.toNat, by omega⟩
      subst hq
      rw [Int.toNat_natCast] at e
      obtain ⟨b1, b2⟩ := h q (by omega)
      have := arn_le h k _ l b1 (by omega) e
      omega
theorem PlQ_g {M N : Mm} {n p np q : Nat} {cs cs1 : List (Nat × Nat)} (g : GW M n) (hcs : ∀ z ∈ cs, z.1 < n ∧ z.2 < n) (hT : TyC M) (hCl : ∀ c m : Nat, M 13 (eAt M q) = 5 → M 8 (3 * (M 14 (eAt M q)).toNat + (M 15 (eAt M q)).toNat) < M 1 3) (hDf : M 13 (eAt M q) = 6 → M 19 (M 14 (eAt M q)).toNat < M 1 3) (h35 : ∀ q, q < np → -1 ≤ M 35 q ∧ M 35 q < (q : Int)) (hq : q < p) (hqn : q < np) (h0 : ∀ a, a < 24 → N a = M a) (h34 : N 34 = M 34 ∧ N 35 = M 35) (h37 : ∀ x, x < p → N 37 x = M 37 x) (h38 : ∀ v, v < 8 → N 38 (8 * q + v) = M 38 (8 * q + v)) (hC : ∀ x, x < n → N 26 x = M 26 x ∧ N 27 x = M 27 x ∧ N 28 x = M 28 x) (hs : ∀ z ∈ cs, z ∈ cs1) (h : PlQ M cs q) : PlQ N cs1 q := by
  have ee : eAt N q = eAt M q := by unfold eAt; rw [h34.1]
  have ht : ∀ t : Nat, (t : Int) < M 1 3 → ∀ j : Nat, 10 ≤ j → j ≤ t → (0 ≤ M 2 j ∧ M 2 j < (j : Int)) ∧ (M 3 j = -1 ∨ (0 ≤ M 3 j ∧ M 3 j < (j : Int))) := fun t h1 j h2 h3 => hT.2 j h2 (by omega)
  have F : ∀ {y a b : Nat}, y < n → isF M y a b → isF N y a b := fun hy q => by
    obtain ⟨a1, a2, a3⟩ := hC _ hy
    unfold isF
    rw [a1, a2, a3]
    exact q
  obtain ⟨a0, a1, a2, a3, a4, a5, a6⟩ := h
  unfold PlQ
  rw [ee, h0 13 (by omega), h0 14 (by omega), h0 15 (by omega), h0 16 (by omega), h0 8 (by omega), h0 19 (by omega), h0 2 (by omega), h0 3 (by omega), h34.2]
  refine ⟨fun k => hs _ (a0 k), fun k => ?_, fun k => ?_, fun k => ?_, fun k => ?_, fun k => ?_, fun k => ?_⟩
  · obtain ⟨y, b1, b2⟩ := a1 k
    exact ⟨y, hs _ b1, PN_g g (hcs _ b1).2 hC b2⟩
  · obtain ⟨l, c, b1, b2, b3⟩ := a2 k
    refine ⟨l, c, by rw [arn_fr h34.2]; exact b1, ?_, hs _ b3⟩
    have := arn_le h35 _ _ _ (h35 q hqn).1 (by have := h35 q hqn; omega) b1
    rw [h37 l (by have := h35 q hqn; omega)]
    exact b2
  · obtain ⟨y, c, b1, b2, b3⟩ := a3 k
    exact ⟨y, c, by rw [h37 q hq]; exact b1, hs _ b2, F (hcs _ b2).2 b3⟩
  · obtain ⟨y, b2, b3⟩ := a4 k
    exact ⟨y, hs _ b2, F (hcs _ b2).2 b3⟩
  · obtain ⟨y, ν, b1, b2, b3⟩ := a5 k
    refine ⟨y, ν, hs _ b1, TNs_g g (by rw [b3]; exact (hcs _ b1).2) (fun j h1 h2 => ?_) hC (fun i i1 i2 _ => ?_) b2, b3⟩
    · have := hCl 0 0 k
      exact hT.2 j h1 (by omega)
    · rw [h38 _ (by omega)]
  · obtain ⟨y, ν, b1, b2, b3⟩ := a6 k
    refine ⟨y, ν, hs _ b1, TNs_g g (by rw [b3]; exact (hcs _ b1).2) (fun j h1 h2 => ?_) hC (fun i i1 i2 _ => ?_) b2, b3⟩
    · have := hDf k
      exact hT.2 j h1 (by omega)
    · rw [h38 _ (by omega)]
theorem Tw_G {Mc Mr : Mm} {S : Nat → Nat → Prop} {cs : List (Nat × Nat)} {n n' : Nat} (h : Tw Mc Mr S n n' cs) : GW Mc n ∧ ∀ z ∈ cs, z.1 < n ∧ z.2 < n := by
  obtain ⟨h01, J, ρ, J', ρ', cs', g, g', s, sc⟩ := h
  exact ⟨g.1, g.2.2.2.2.2.2.2.2.1⟩
theorem Lay35 {Mc Mr : Mm} {np : Nat} (h : LayP Mc Mr np) : ∀ q, q < np → -1 ≤ Mc 35 q ∧ Mc 35 q < (q : Int) := fun q hq => by
  obtain ⟨e, -, -, ⟨h1, h2, -⟩, -⟩ := h.2.2.2.1 q hq
  exact ⟨h1, h2⟩
theorem wsQ_fr {M N : Mm} (h0 : ∀ a, a < 24 → N a = M a) (h34 : N 34 = M 34) : ∀ q, wsQ N q = wsQ M q
  | 0 => rfl
  | q + 1 => by
    show wsQ N q + cnQ N q = wsQ M q + cnQ M q
    rw [wsQ_fr h0 h34 q]
    unfold cnQ eAt
    rw [h34, h0 13 (by omega), h0 14 (by omega), h0 20 (by omega)]
theorem wsQ_mono (M : Mm) {q r : Nat} (h : q ≤ r) : wsQ M q ≤ wsQ M r := by
  induction r with
  | zero => cases Nat.le_zero.mp h; exact Nat.le_refl _
  | succ r ih =>
    by_cases e : q = r + 1
    · subst e; exact Nat.le_refl _
    · exact Nat.le_trans (ih (by omega)) (Nat.le_add_right _ _)
theorem PS_next {Mc Mr Nc Nr : Mm} {S S1 : Nat → Nat → Prop} {n n' m m' p np : Nat} {cs cs1 : List (Nat × Nat)} {ow : Nat → Nat} (h : PS Mc Mr S n n' cs p np ow) (hp : p < np) (hT : Tw Nc Nr S1 m m' cs1) (hs : ∀ z ∈ cs, z ∈ cs1)
    (hC : ∀ x, x < n → Nc 26 x = Mc 26 x ∧ Nc 27 x = Mc 27 x ∧ Nc 28 x = Mc 28 x) (hK : ∀ u, u < n' → Nr 76 u = Mr 76 u) (c0 : ∀ a, a < 25 → Nc a = Mc a) (c34 : Nc 34 = Mc 34 ∧ Nc 35 = Mc 35 ∧ Nc 36 = Mc 36) (r54 : ∀ a, 54 ≤ a → a ≤ 75 → Nr a = Mr a) (r84 : Nr 84 = Mr 84 ∧ Nr 85 = Mr 85 ∧ Nr 86 = Mr 86 ∧ Nr 87 = Mr 87) (r53 : ∀ k, k ≠ 28 → k ≠ 43 → Nr 53 k = Mr 53 k)
    (c37 : ∀ q, q < p → Nc 37 q = Mc 37 q) (a37 : Mc 13 (eAt Mc p) = 3 → ∃ c u : Nat, Nc 37 p = (c : Int) ∧ Mr 87 p = (u : Int) ∧ S1 c u) (sl : ∀ c u, S c u → S1 c u) (sf : ∀ d u, S1 d u → u < n' → S d u ∨ (Mc 13 (eAt Mc p) = 3 ∧ Mr 87 p = (u : Int)))
    (f39 : ∀ q, q ≠ p → Nc 39 q = Mc 39 q ∧ Nr 89 q = Mr 89 q) (f38 : ∀ q v, q < p → v < 8 → Nc 38 (8 * q + v) = Mc 38 (8 * q + v) ∧ Nr 88 (8 * q + v) = Mr 88 (8 * q + v)) (fp : ∃ k : Nat, k ≤ 8 ∧ Nc 39 p = (k : Int) ∧ Nr 89 p = (k : Int) ∧ fq Mc p k ∧ ∀ v, v < k → ∃ c u : Nat, Nc 38 (8 * p + v) = (c : Int) ∧ Nr 88 (8 * p + v) = (u : Int) ∧ S1 c u)
    (w43 : Nr 53 43 = (wsQ Mc (p + 1) : Int)) (w90 : ∀ i, i < wsQ Mc p → Nr 90 i = Mr 90 i ∧ Nr 91 i = Mr 91 i) (wp5 : Mc 13 (eAt Mc p) = 5 → Nr 90 (wsQ Mc p) = Mc 14 (eAt Mc p) ∧ Nr 91 (wsQ Mc p) = Nr 88 (8 * p)) (wp6 : Mc 13 (eAt Mc p) = 6 → ∀ i c v : Nat, (i : Int) < Mc 20 (Mc 14 (eAt Mc p)).toNat → v < 8 → Mc 21 (8 * (Mc 14 (eAt Mc p)).toNat + i) = ((8 * c + v : Nat) : Int) → Nr 90 (wsQ Mc p + i) = (c : Int) ∧ Nr 91 (wsQ Mc p + i) = Nr 88 (8 * p + v))
    (pl : PlQ Nc cs1 p) (bm : m ≤ n + 39 ∧ m' ≤ n' + 40 ∧ n' ≤ m') (k5n : ∀ x, n ≤ x → x < m → Nc 26 x ≠ 5) : PS Nc Nr S1 m m' cs1 (p + 1) np ow := by
  obtain ⟨t, st, ly, nd, fl, wt, plq, b1, b2, k5z⟩ := h
  have ee : ∀ q, eAt Nc q = eAt Mc q := fun q => by unfold eAt; rw [c34.1]
  have c13 := c0 13 (by omega)
  obtain ⟨gw, hcs⟩ := Tw_G t
  refine ⟨hT, Stat_fr (fun a ha => c0 a (by omega)) r54 (fun k hk => r53 k (by omega) (by omega)) st, LayP_fr (fun a ha => c0 a (by omega)) ⟨c0 24 (by omega), c34.1, c34.2.1⟩ ⟨r84.1, r84.2.2.1, r53 46 (by decide) (by decide)⟩ ly, fun q hq => ?_, fun q hq => ?_, ⟨?_, fun q hq => ?_⟩, fun q hq => ?_, by omega, by omega, fun x hx => ?_⟩
  · obtain ⟨⟨d1, u, d2, d3⟩, d4⟩ := nd q hq
    rw [c34.2.2, r84.2.1, ee, c13]
    refine ⟨⟨d1, u, d2, sl _ _ d3⟩, fun k => ?_⟩
    obtain ⟨u, e1, e2, e3, e4, e5, e6⟩ := d4 k
    rw [r84.2.2.2]
    refine ⟨u, by omega, e2, by rw [hK u e1]; exact e3, e4, fun hqp => ?_, fun hqp d sd => ?_⟩
    · by_cases hqp' : q < p
      · obtain ⟨c, x1, x2⟩ := e5 hqp'
        exact ⟨c, by rw [c37 q hqp']; exact x1, sl _ _ x2⟩
      · obtain rfl : q = p := by omega
        obtain ⟨c, u2, x1, x2, x3⟩ := a37 k
        have : u2 = u := by omega
        subst this
        exact ⟨c, x1, x3⟩
    · rcases sf d u sd e1 with x | ⟨x, y⟩
      · exact e6 (by omega) d x
      · obtain ⟨-, d4'⟩ := nd p hp
        obtain ⟨u', f1, f2, f3, f4, -⟩ := d4' x
        have : u' = u := by omega
        subst this
        omega
  · obtain ⟨d1, d2⟩ := fl q hq
    refine ⟨fun hqp => ?_, fun hqp => ?_⟩
    · by_cases hqp' : q < p
      · obtain ⟨k, x1, x2, x3, x0, x4⟩ := d1 hqp'
        obtain ⟨y1, y2⟩ := f39 q (by omega)
        refine ⟨k, x1, by rw [y1]; exact x2, by rw [y2]; exact x3, fq_fr (fun a ha => c0 a (by omega)) c34.1 x0, fun v hv => ?_⟩
        obtain ⟨c, u, z1, z2, z3⟩ := x4 v hv
        obtain ⟨y3, y4⟩ := f38 q v hqp' (by omega)
        exact ⟨c, u, by rw [y3]; exact z1, by rw [y4]; exact z2, sl _ _ z3⟩
      · obtain rfl : q = p := by omega
        obtain ⟨k, x1, x2, x3, x0, x4⟩ := fp
        exact ⟨k, x1, x2, x3, fq_fr (fun a ha => c0 a (by omega)) c34.1 x0, x4⟩
    · obtain ⟨y1, y2⟩ := f39 q (by omega)
      rw [y1, y2]
      exact d2 (by omega)
  · rw [wsQ_fr (fun a ha => c0 a (by omega)) c34.1]
    exact w43
  · rw [ee, c13, c0 14 (by omega), c0 20 (by omega), c0 21 (by omega), wsQ_fr (fun a ha => c0 a (by omega)) c34.1]
    by_cases hqp' : q < p
    · obtain ⟨x1, x2⟩ := wt.2 q hqp'
      have mono := wsQ_mono Mc (show q + 1 ≤ p from hqp')
      have e1 : wsQ Mc (q + 1) = wsQ Mc q + cnQ Mc q := rfl
      refine ⟨fun k => ?_, fun k i c v h1 h2 h3 => ?_⟩
      · have e2 : cnQ Mc q = 1 := if_pos k
        obtain ⟨y1, y2⟩ := w90 (wsQ Mc q) (by omega)
        rw [y1, y2, show 8 * q = 8 * q + 0 from rfl, (f38 q 0 hqp' (by omega)).2]
        exact x1 k
      · have e2 : cnQ Mc q = (Mc 20 (Mc 14 (eAt Mc q)).toNat).toNat := by unfold cnQ; rw [if_neg (by omega), if_pos k]
        obtain ⟨y1, y2⟩ := w90 (wsQ Mc q + i) (by omega)
        rw [y1, y2, (f38 q v hqp' h2).2]
        exact x2 k i c v h1 h2 h3
    · obtain rfl : q = p := by omega
      exact ⟨wp5, wp6⟩
  · by_cases hqp' : q < p
    · have hq5 : ∀ c m : Nat, Mc 13 (eAt Mc q) = 5 → Mc 8 (3 * (Mc 14 (eAt Mc q)).toNat + (Mc 15 (eAt Mc q)).toNat) < Mc 1 3 := fun _ _ k => by
        have he := (LayP_e ly (show q < np by omega)).2
        obtain ⟨-, -, -, -, -, -, x5, -, -⟩ := st.2.2.2.1.2 (eAt Mc q) he
        obtain ⟨y1, y2, y3, y4⟩ := x5 k
        exact ((st.2.2.2.2.2.1.2 (Mc 14 (eAt Mc q)).toNat (by omega)).2 (Mc 15 (eAt Mc q)).toNat (by omega)).2.1.2
      have hq6 : Mc 13 (eAt Mc q) = 6 → Mc 19 (Mc 14 (eAt Mc q)).toNat < Mc 1 3 := fun k => by
        have he := (LayP_e ly (show q < np by omega)).2
        obtain ⟨-, -, -, -, -, -, -, x6, -⟩ := st.2.2.2.1.2 (eAt Mc q) he
        obtain ⟨y1, y2⟩ := x6 k
        exact (st.2.2.2.2.2.2.2 (Mc 14 (eAt Mc q)).toNat (by omega)).2.1.2
      exact PlQ_g gw hcs st.1 hq5 hq6 (Lay35 ly) hqp' (by omega) (fun a ha => c0 a (by omega)) ⟨c34.1, c34.2.1⟩ c37 (fun v hv => (f38 q v hqp' hv).1) hC hs (plq q hqp')
    · obtain rfl : q = p := by omega
      exact pl
  · by_cases e : x < n
    · rw [(hC x e).1]; exact k5z x e
    · exact k5n x (by omega) hx
