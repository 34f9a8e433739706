/-! Instances: the pieces. -/
theorem Stat_ins {Mc Mr Nc Nr : Mm} (st : Stat Mc Mr) (h1 : ∀ a, a < 24 → a ≠ 6 → a ≠ 9 → a ≠ 10 → a ≠ 11 → a ≠ 18 → a ≠ 22 → a ≠ 23 → Nc a = Mc a) (h2 : ∀ a, 54 ≤ a → a ≤ 71 → a ≠ 57 → a ≠ 58 → a ≠ 60 → a ≠ 61 → a ≠ 62 → a ≠ 67 → Nr a = Mr a) (h3 : Nr 53 1 = Mr 53 1 ∧ Nr 53 12 = Mr 53 12) : Stat Nc Nr := by
  obtain ⟨a1, a2, a3, a4, a5, a6, a7⟩ := st
  have k : ∀ a, (1 ≤ a ∧ a ≤ 5) ∨ a = 7 ∨ a = 8 ∨ (12 ≤ a ∧ a ≤ 17) ∨ (19 ≤ a ∧ a ≤ 21) → Nc a = Mc a := fun a ha => h1 a (by omega) (by omega) (by omega) (by omega) (by omega) (by omega) (by omega) (by omega)
  have r : ∀ a, (54 ≤ a ∧ a ≤ 56) ∨ a = 59 ∨ (63 ≤ a ∧ a ≤ 66) ∨ (68 ≤ a ∧ a ≤ 71) → Nr a = Mr a := fun a ha => h2 a (by omega) (by omega) (by omega) (by omega) (by omega) (by omega) (by omega) (by omega)
  refine ⟨?_, ?_, ?_, ?_, ?_, ?_, ?_⟩
  · unfold TyC; rw [k 1 (by omega), k 2 (by omega), k 3 (by omega)]; exact a1
  · unfold TyR; rw [k 1 (by omega), k 2 (by omega), k 3 (by omega), r 54 (by omega), r 55 (by omega), r 56 (by omega), h3.1]; exact a2
  · unfold TyV; rw [k 1 (by omega), k 2 (by omega), k 3 (by omega), k 4 (by omega)]; exact a3
  · unfold ExC; rw [k 5 (by omega), k 7 (by omega), k 12 (by omega), k 13 (by omega), k 14 (by omega), k 15 (by omega), k 16 (by omega), k 17 (by omega)]; exact a4
  · unfold ExR; rw [k 12 (by omega), k 13 (by omega), k 14 (by omega), k 15 (by omega), k 16 (by omega), h3.2, r 63 (by omega), r 64 (by omega), r 65 (by omega), r 66 (by omega)]; exact a5
  · unfold ClT; rw [k 1 (by omega), k 4 (by omega), k 5 (by omega), k 7 (by omega), k 8 (by omega), r 59 (by omega)]; exact a6
  · unfold DfT; rw [k 1 (by omega), k 4 (by omega), k 5 (by omega), k 17 (by omega), k 19 (by omega), k 20 (by omega), k 21 (by omega), r 68 (by omega), r 69 (by omega), r 70 (by omega), r 71 (by omega)]; exact a7
theorem above_ok {Mc Mr : Mm} {N c s : Nat} {ctx : Int} (ct : CT Mc Mr N) (hc : c < N) (hs : s < 3) (hx : -1 ≤ ctx ∧ ctx < (N : Int)) (hx2 : s ≠ 2 → ctx = -1) :
    ∃ v : Int, f59 Mc (c : Int) (s : Int) ctx = some v ∧ f238 Mr (c : Int) (s : Int) ctx = some v ∧ (v = 0 ∨ (v = 1 ∧ ∀ u : Nat, Mc 6 c = (u : Int) → Mc 9 (3 * u + s) = 1 ∧ (Mc 10 (3 * u + s) = -1 ∨ ∃ x y : Nat, ctx = (x : Int) ∧ Mc 10 (3 * u + s) = (y : Int) ∧ Rc Mc (x : Int) (y : Int)))) := by
  have n6 := ct.1.2.2
  obtain ⟨a1, a2, a3⟩ := ct.2.1 c hc
  unfold f59 f238
  have cc : 0 ≤ (c : Int) ∧ (c : Int) < 6 := by omega
  rw [if_pos cc, if_pos cc, Int.toNat_natCast, a1]
  by_cases e : Mc 6 c = -1
  · have ne : ¬ ¬ Mc 6 c = -1 := fun z => z e
    rw [if_neg ne, if_neg ne]
    exact ⟨1, rfl, rfl, Or.inr ⟨rfl, fun u hu => by omega⟩⟩
  · obtain ⟨u, hu⟩ : ∃ u : Nat, Mc 6 c = (u : Int) := ⟨(Mc 6 c).toNat, by omega⟩
    rw [if_pos e, if_pos e, hu]
    obtain ⟨b1, b2⟩ := f34_ok ct (d := u) (s := s) (by omega) hs
    obtain ⟨c1, c2⟩ := ct.2.2 (3 * u + s) (by omega)
    rw [b1, bs_, show ((3 : Int) * (u : Int)) + (s : Int) = ((3 * u + s : Nat) : Int) by omega, if_pos (show 0 ≤ ((3 * u + s : Nat) : Int) ∧ ((3 * u + s : Nat) : Int) < 18 by omega), Int.toNat_natCast, c1]
    by_cases p : Mc 9 (3 * u + s) = 0
    · have np : ¬ ¬ Mc 9 (3 * u + s) = 0 := fun z => z p
      rw [if_neg np, if_neg np]
      exact ⟨0, rfl, rfl, Or.inl rfl⟩
    · rw [if_pos p, if_pos p, show ((u : Int) * 3) + (s : Int) = ((3 * u + s : Nat) : Int) by omega, if_pos (show 0 ≤ ((3 * u + s : Nat) : Int) ∧ ((3 * u + s : Nat) : Int) < 18 by omega), Int.toNat_natCast]
      rcases c2 with z | ⟨z1, z2, z3, z4⟩
      · omega
      · by_cases es : s = 2
        · subst es
          have z3' : Mr 61 (3 * u + 2) = Mc 10 (3 * u + 2) := z3
          rw [if_neg (show ¬ ¬ ((2 : Nat) : Int) = 2 from fun z => z rfl), show ((3 : Int) * (u : Int)) + 2 = ((3 * u + 2 : Nat) : Int) by omega, if_pos (show 0 ≤ ((3 * u + 2 : Nat) : Int) ∧ ((3 * u + 2 : Nat) : Int) < 18 by omega), Int.toNat_natCast, z3']
          by_cases q : Mc 10 (3 * u + 2) = -1
          · rw [if_pos q, if_pos q]
            refine ⟨1, rfl, rfl, Or.inr ⟨rfl, fun u' hu' => ?_⟩⟩
            obtain rfl : u' = u := by omega
            exact ⟨z1, Or.inl q⟩
          · rw [if_neg q, if_neg q]
            obtain ⟨y, hy⟩ : ∃ y : Nat, Mc 10 (3 * u + 2) = (y : Int) := ⟨(Mc 10 (3 * u + 2)).toNat, by omega⟩
            rw [hy]
            obtain ⟨v, v1, v2, v3⟩ := f60_ok (d := y) ct hx.1 hx.2
            rw [v1, bs_]
            by_cases ec : ctx = -1
            · have v0 : v = 0 := by rcases v3 with z | z <;> omega
              rw [if_pos ec, v0, if_pos rfl]
              exact ⟨0, rfl, rfl, Or.inl rfl⟩
            · rw [if_neg ec, v2, bs_]
              rcases v3 with z | ⟨w1, w2, w3⟩
              · rw [if_pos z]; exact ⟨0, rfl, rfl, Or.inl rfl⟩
              · rw [if_neg (by omega)]
                obtain ⟨x, hx'⟩ : ∃ x : Nat, ctx = (x : Int) := ⟨ctx.toNat, by omega⟩
                refine ⟨1, rfl, rfl, Or.inr ⟨rfl, fun u' hu' => ?_⟩⟩
                obtain rfl : u' = u := by omega
                rw [hx'] at w2
                exact ⟨z1, Or.inr ⟨x, y, hx', hy, w2⟩⟩
        · have q : Mc 10 (3 * u + s) = -1 := by rcases z4 with z | z <;> omega
          rw [if_pos (show ¬ (s : Int) = 2 by omega), if_pos q]
          refine ⟨1, rfl, rfl, Or.inr ⟨rfl, fun u' hu' => ?_⟩⟩
          obtain rfl : u' = u := by omega
          exact ⟨z1, Or.inl q⟩
/-- while methods are looked at -/
def IS (C0 R0 : Mm) (N c s : Nat) (M R : Mm) (m NT0 NT : Nat) : Prop := (Stat M R ∧ CT M R N) ∧ (R 53 24 = (NT : Int) ∧ WTm R NT ∧ NT ≤ NT0 + 2560 * m) ∧ (∀ a, (a < 24 ∧ a ≠ 23) ∨ 47 ≤ a → M a = C0 a) ∧ (∀ i, i < 480 * (20 + (9 * c + 3 * s)) ∨ 480 * (20 + (9 * c + 3 * s)) + 1440 ≤ i → M 23 i = C0 23 i ∧ R 72 i = R0 72 i) ∧ (∀ a, a < 53 ∨ (54 ≤ a ∧ a ≤ 71 ∧ a ≠ 62) ∨ 94 ≤ a → R a = R0 a) ∧ (∀ i, i < 9 * c + 3 * s ∨ 9 * c + 3 * s + 3 ≤ i → R 62 i = R0 62 i) ∧ (∀ j, (j < 28 ∧ j ≠ 24) ∨ 53 ≤ j → R 53 j = R0 53 j) ∧ Gt R0 R ∧ ∀ m', m' < m → UMt M R c s m'
set_option maxRecDepth 4000 in
theorem IS_step {C0 R0 M R : Mm} {N c s m NT0 NT e : Nat} (h : IS C0 R0 N c s M R m NT0 NT) (hl : NT0 + 2560 * 3 ≤ 200000) (hc : c < N) (hs : s < 3) (hp : C0 9 (3 * c + s) = 1) (hm : (m : Int) < C0 7 c) (he : (e : Int) < C0 12 4) (hb : C0 11 (9 * c + 3 * s + m) = (e : Int)) (hctx : R0 53 53 = C0 10 (3 * c + s)) :
    ∃ (w : Int) (M' R' : Mm), f63 M (c : Int) (s : Int) (m : Int) = some (w, M') ∧ f239 (up R 62 (9 * c + 3 * s + m) (e : Int)) (c : Int) (s : Int) (m : Int) (e : Int) = some (w, R') ∧ ((w = 0 ∧ ∃ NT', IS C0 R0 N c s M' R' (m + 1) NT0 NT') ∨ (w ≠ 0 ∧ (∀ a, (a < 24 ∧ a ≠ 23) ∨ 47 ≤ a → M' a = C0 a) ∧ (∀ i, i < 480 * (20 + (9 * c + 3 * s)) ∨ 480 * (20 + (9 * c + 3 * s)) + 1440 ≤ i → M' 23 i = C0 23 i ∧ R' 72 i = R0 72 i) ∧ (∀ a, a < 53 ∨ (54 ≤ a ∧ a ≤ 71 ∧ a ≠ 62) ∨ 94 ≤ a → R' a = R0 a) ∧ (∀ i, i < 9 * c + 3 * s ∨ 9 * c + 3 * s + 3 ≤ i → R' 62 i = R0 62 i) ∧ (∀ j, (j < 28 ∧ j ≠ 24) ∨ 53 ≤ j → R' 53 j = R0 53 j) ∧ Gt R0 R')) := by
  obtain ⟨⟨st, ct⟩, ⟨t1, t2, t3⟩, h1, h2, h3, h4, h5, h6, h7⟩ := h
  have n6 := ct.1.2.2
  have h56 := ct.1.1
  let R1 := up R 62 (9 * c + 3 * s + m) (e : Int)
  have r1 : ∀ a, a ≠ 62 → R1 a = R a := fun a ha => up_cell ha
  have r162 : ∀ i, i ≠ 9 * c + 3 * s + m → R1 62 i = R 62 i := fun i hi => up_at hi
  have st1 : Stat M R1 := Stat_ins st (fun a _ _ _ _ _ _ _ _ => rfl) (fun a _ _ _ _ _ _ b _ => r1 a b) ⟨by rw [r1 53 (by decide)], by rw [r1 53 (by decide)]⟩
  have ct1 : CT M R1 N := by
    unfold CT
    rw [r1 53 (by decide), r1 57 (by decide), r1 58 (by decide), r1 60 (by decide), r1 61 (by decide)]
    exact ct
  have t1' : R1 53 24 = (NT : Int) := by rw [r1 53 (by decide)]; exact t1
  have t2' : WTm R1 NT := by unfold WTm; rw [r1 73 (by decide), r1 74 (by decide), r1 75 (by decide)]; exact t2
  have m3 : m < 3 := by
    have := (st.2.2.2.2.2.1.2 c (by omega)).1
    rw [h1 7 (by omega)] at this
    omega
  obtain ⟨w, M', R', g1, g2, g3, g4, g5⟩ := meth_ok st1 ct1 t1' t2' (by omega) hc hs (by rw [h1 7 (by omega)]; exact hm) (by rw [h1 12 (by omega)]; exact he) (by rw [h1 11 (by omega)]; exact hb) (by rw [r1 53 (by decide), h5 53 (by omega), h1 10 (by omega)]; exact hctx)
  have k1 : ∀ a, (a < 24 ∧ a ≠ 23) ∨ 47 ≤ a → M' a = C0 a := fun a ha => by rw [g3.1 a ha, h1 a ha]
  have k2 : ∀ i, i < 480 * (20 + (9 * c + 3 * s)) ∨ 480 * (20 + (9 * c + 3 * s)) + 1440 ≤ i → M' 23 i = C0 23 i ∧ R' 72 i = R0 72 i := fun i hi => by
    rw [g3.2 i (by omega), g4.2.2.1 i (by omega), r1 72 (by decide)]
    exact h2 i hi
  have k3 : ∀ a, a < 53 ∨ (54 ≤ a ∧ a ≤ 71 ∧ a ≠ 62) ∨ 94 ≤ a → R' a = R0 a := fun a ha => by rw [g4.1 a (by omega), r1 a (by omega), h3 a ha]
  have k4 : ∀ i, i < 9 * c + 3 * s ∨ 9 * c + 3 * s + 3 ≤ i → R' 62 i = R0 62 i := fun i hi => by rw [g4.1 62 (by omega), r162 i (by omega), h4 i hi]
  have k5 : ∀ j, (j < 28 ∧ j ≠ 24) ∨ 53 ≤ j → R' 53 j = R0 53 j := fun j hj => by rw [g4.2.1 j hj, r1 53 (by decide), h5 j hj]
  have gt1 : Gt R R1 := Gt_fr (by rw [r1 53 (by decide)]) ⟨r1 73 (by decide), r1 74 (by decide), r1 75 (by decide)⟩
  have k6 : Gt R0 R' := Gt_trans h6 (Gt_trans gt1 g4.2.2.2)
  refine ⟨w, M', R', g1, g2, ?_⟩
  rcases g5 with ⟨z1, _⟩ | ⟨z1, NT', z2, z3, z4, z5⟩
  · exact Or.inr ⟨z1, k1, k2, k3, k4, k5, k6⟩
  · have q1 : R' 53 1 = R1 53 1 := g4.2.1 1 (Or.inl ⟨by decide, by decide⟩)
    have q2 : R' 53 12 = R1 53 12 := g4.2.1 12 (Or.inl ⟨by decide, by decide⟩)
    have q3 : ∀ a, a < 24 → a ≠ 23 → M' a = M a := fun a b1 b2 => g3.1 a (Or.inl ⟨b1, b2⟩)
    have q4 : ∀ a, 54 ≤ a → a ≤ 71 → R' a = R1 a := fun a b1 b2 => g4.1 a (Or.inr (Or.inl ⟨b1, b2⟩))
    have st' : Stat M' R' := Stat_ins st1 (fun a b1 _ _ _ _ _ _ b2 => q3 a b1 b2) (fun a b1 b2 _ _ _ _ _ _ => q4 a b1 b2) ⟨q1, q2⟩
    have nt : NT' ≤ NT0 + 2560 * (m + 1) := Nat.le_trans z4 (by rw [Nat.mul_succ, ← Nat.add_assoc]; exact Nat.add_le_add_right t3 2560)
    refine Or.inl ⟨z1, NT', ⟨st', ?_⟩, ⟨z2, z3, nt⟩, k1, k2, k3, k4, k5, k6, fun m' hm' => ?_⟩
    · unfold CT
      rw [g3.1 5 (by omega), g3.1 6 (by omega), g3.1 7 (by omega), g3.1 9 (by omega), g3.1 10 (by omega), g4.2.1 5 (by omega), g4.1 57 (by omega), g4.1 58 (by omega), g4.1 60 (by omega), g4.1 61 (by omega)]
      exact ct1
    · by_cases e' : m' = m
      · subst e'
        refine ⟨?_, e, by rw [k1 11 (by omega)]; exact hb, ?_⟩
        · rw [g4.1 62 (by omega), k1 11 (by omega), hb]
          exact up_same _ _ _ _
        · have u := z5
          have d8 : dt M' (M' 8 (3 * c + m')).toNat = dt M (M 8 (3 * c + m')).toNat := by unfold dt tabC; rw [g3.1 1 (by omega), g3.1 2 (by omega), g3.1 3 (by omega), g3.1 8 (by omega)]
          rw [d8, g3.1 10 (by omega)]
          exact u
      · have gw : Gw M M' := Gw_fr (fun a ha => g3.1 a (by omega))
        have gt : Gt R R' := Gt_trans gt1 g4.2.2.2
        refine UMt_next st ct t1 t2 gw gt (fun i b1 b2 => ?_) (fun g _ => by rw [g4.1 69 (by omega), r1 69 (by decide)]) ⟨by rw [g4.1 62 (by omega), r162 _ (by omega)], by rw [g3.1 11 (by omega)]⟩ hc hs (by rw [h1 9 (by omega)]; exact hp) (by rw [h1 7 (by omega)]; omega) (h7 m' (by omega))
        rw [g3.2 i (by omega), g4.2.2.1 i (by omega), r1 72 (by decide)]
        exact ⟨rfl, rfl⟩
