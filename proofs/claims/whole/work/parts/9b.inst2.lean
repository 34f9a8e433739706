/-! Instances: checks and the loop over methods. -/
def b01 (E x : Int) : Int := if x < 0 then 0 else if E ≤ x then 0 else 1
theorem f48_b (M : Mm) (x : Int) : f48 M x = some (b01 (M 12 4) x) := by
  unfold f48 b01
  by_cases h1 : x < 0
  · rw [if_pos h1, if_pos h1]
  · rw [if_neg h1, if_neg h1]
    by_cases h2 : M 12 4 ≤ x
    · rw [if_pos h2, if_pos h2]
    · rw [if_neg h2, if_neg h2]
theorem f206_b (M : Mm) (x : Int) : f206 M x = some (b01 (M 53 12) x) := by
  unfold f206 b01
  by_cases h1 : x < 0
  · rw [if_pos h1, if_pos h1]
  · rw [if_neg h1, if_neg h1]
    by_cases h2 : M 53 12 ≤ x
    · rw [if_pos h2, if_pos h2]
    · rw [if_neg h2, if_neg h2]
theorem b01_01 (E x : Int) : b01 E x = 0 ∨ (b01 E x = 1 ∧ 0 ≤ x ∧ x < E) := by
  unfold b01
  by_cases h1 : x < 0
  · rw [if_pos h1]; exact Or.inl rfl
  · rw [if_neg h1]
    by_cases h2 : E ≤ x
    · rw [if_pos h2]; exact Or.inl rfl
    · rw [if_neg h2]; exact Or.inr ⟨rfl, by omega, by omega⟩
/-- are the expressions of all methods there -/
def gd (E m0 m1 m2 : Int) (mm : Nat) : Prop := (mm < 1 ∨ b01 E m0 = 1) ∧ (mm < 2 ∨ b01 E m1 = 1) ∧ (mm < 3 ∨ b01 E m2 = 1)
theorem c_good {M : Mm} {c mm : Nat} {s ctx m0 m1 m2 : Int} {f : Nat} (hc : c < 6) (h7 : M 7 c = (mm : Int)) (h3 : mm ≤ 3) : (gd (M 12 4) m0 m1 m2 mm ∧ l58 (f + 7) 57 M (c : Int) s ctx m0 m1 m2 0 0 0 = l58 (f + 1) 145 M (c : Int) s ctx m0 m1 m2 (mm : Int) 0 0) ∨ (¬ gd (M 12 4) m0 m1 m2 mm ∧ l58 (f + 7) 57 M (c : Int) s ctx m0 m1 m2 0 0 0 = some (1, 0, M)) := by
  have e32 : f32 M (c : Int) = some (mm : Int) := by unfold f32; rw [if_pos (by omega), Int.toNat_natCast, h7]
  have s1 : ∀ f, l58 (f + 3) 57 M (c : Int) s ctx m0 m1 m2 0 0 0 = if mm < 1 ∨ b01 (M 12 4) m0 = 1 then l58 (f + 1) 93 M (c : Int) s ctx m0 m1 m2 (mm : Int) 0 0 else some (1, 0, M) := fun f => by
    rw [l58, e32, bs_]
    by_cases h : mm < 1
    · rw [if_pos (by omega), if_pos (Or.inl h), l58]
    · rw [if_neg (by omega), f48_b, bs_]
      rcases b01_01 (M 12 4) m0 with z | ⟨z, _⟩
      · rw [if_pos z, if_neg (by omega)]
      · rw [if_neg (by omega), if_pos (Or.inr z), l58]
  have s2 : ∀ f, l58 (f + 3) 93 M (c : Int) s ctx m0 m1 m2 (mm : Int) 0 0 = if mm < 2 ∨ b01 (M 12 4) m1 = 1 then l58 (f + 1) 119 M (c : Int) s ctx m0 m1 m2 (mm : Int) 0 0 else some (1, 0, M) := fun f => by
    rw [l58]
    by_cases h : mm < 2
    · rw [if_pos (by omega), if_pos (Or.inl h), l58]
    · rw [if_neg (by omega), f48_b, bs_]
      rcases b01_01 (M 12 4) m1 with z | ⟨z, _⟩
      · rw [if_pos z, if_neg (by omega)]
      · rw [if_neg (by omega), if_pos (Or.inr z), l58]
  have s3 : ∀ f, l58 (f + 3) 119 M (c : Int) s ctx m0 m1 m2 (mm : Int) 0 0 = if mm < 3 ∨ b01 (M 12 4) m2 = 1 then l58 (f + 1) 145 M (c : Int) s ctx m0 m1 m2 (mm : Int) 0 0 else some (1, 0, M) := fun f => by
    rw [l58]
    by_cases h : mm < 3
    · rw [if_pos (by omega), if_pos (Or.inl h), l58]
    · rw [if_neg (by omega), f48_b, bs_]
      rcases b01_01 (M 12 4) m2 with z | ⟨z, _⟩
      · rw [if_pos z, if_neg (by omega)]
      · rw [if_neg (by omega), if_pos (Or.inr z), l58]
  have e1 := s1 (f + 4)
  have e2 := s2 (f + 2)
  have e3 := s3 f
  by_cases g0 : mm < 1 ∨ b01 (M 12 4) m0 = 1
  · rw [if_pos g0] at e1
    by_cases g1 : mm < 2 ∨ b01 (M 12 4) m1 = 1
    · rw [if_pos g1] at e2
      by_cases g2 : mm < 3 ∨ b01 (M 12 4) m2 = 1
      · rw [if_pos g2] at e3
        exact Or.inl ⟨⟨g0, g1, g2⟩, e1.trans (e2.trans e3)⟩
      · rw [if_neg g2] at e3
        exact Or.inr ⟨fun z => g2 z.2.2, e1.trans (e2.trans e3)⟩
    · rw [if_neg g1] at e2
      exact Or.inr ⟨fun z => g1 z.2.1, e1.trans e2⟩
  · rw [if_neg g0] at e1
    exact Or.inr ⟨fun z => g0 z.1, e1⟩
theorem r_one {M : Mm} {c mm i : Nat} {s ctx m0 m1 m2 : Int} {f : Nat} (hc : c < 6) (h58 : M 58 c = (mm : Int)) (hi : i < mm) (h3 : mm ≤ 3) : l237 (f + 2) 45 M (c : Int) s ctx m0 m1 m2 1 (i : Int) 0 0 0 0 = l237 f 45 M (c : Int) s ctx m0 m1 m2 (b01 (M 53 12) (if i = 0 then m0 else if i = 1 then m1 else m2)) ((i + 1 : Nat) : Int) 0 0 0 0 := by
  rw [l237, if_neg (by decide), if_pos (by omega), Int.toNat_natCast, h58, if_neg (by omega)]
  by_cases e0 : i = 0
  · rw [if_neg (fun z => z (by omega)), f206_b, bs_, if_pos e0, l237, if_pos (by omega), show (i : Int) + 1 = ((i + 1 : Nat) : Int) by omega]
  · rw [if_pos (by omega), if_neg e0]
    by_cases e1 : i = 1
    · rw [if_neg (fun z => z (by omega)), f206_b, bs_, if_pos e1, l237, if_pos (by omega), show (i : Int) + 1 = ((i + 1 : Nat) : Int) by omega]
    · rw [if_pos (by omega), f206_b, bs_, if_neg e1, l237, if_pos (by omega), show (i : Int) + 1 = ((i + 1 : Nat) : Int) by omega]
theorem r_end {M : Mm} {c mm i : Nat} {s ctx m0 m1 m2 g : Int} {f : Nat} (hc : c < 6) (h58 : M 58 c = (mm : Int)) (h : g = 0 ∨ (g = 1 ∧ i = mm)) : l237 (f + 1) 45 M (c : Int) s ctx m0 m1 m2 g (i : Int) 0 0 0 0 = l237 f 96 M (c : Int) s ctx m0 m1 m2 g (i : Int) 0 0 0 0 := by
  rw [l237]
  rcases h with h | ⟨h, h2⟩
  · rw [if_pos h]
  · rw [if_neg (by omega), if_pos (by omega), Int.toNat_natCast, h58, if_pos (by omega)]
theorem r_good {M : Mm} {c mm : Nat} {s ctx m0 m1 m2 : Int} {f : Nat} (hc : c < 6) (h58 : M 58 c = (mm : Int)) (h3 : mm ≤ 3) : ∃ (f' i : Nat) (g : Int), f ≤ f' ∧ l237 (f + 8) 45 M (c : Int) s ctx m0 m1 m2 1 0 0 0 0 0 = l237 f' 96 M (c : Int) s ctx m0 m1 m2 g (i : Int) 0 0 0 0 ∧ ((gd (M 53 12) m0 m1 m2 mm ∧ g = 1) ∨ (¬ gd (M 53 12) m0 m1 m2 mm ∧ g = 0)) := by
  by_cases k0 : mm = 0
  · have g : gd (M 53 12) m0 m1 m2 mm := ⟨Or.inl (by omega), Or.inl (by omega), Or.inl (by omega)⟩
    exact ⟨f + 7, 0, 1, by omega, r_end (i := 0) hc h58 (Or.inr ⟨rfl, by omega⟩), Or.inl ⟨g, rfl⟩⟩
  · have s1 := r_one (i := 0) (s := s) (ctx := ctx) (m0 := m0) (m1 := m1) (m2 := m2) (f := f + 6) hc h58 (by omega) h3
    have s1 : l237 (f + 8) 45 M (c : Int) s ctx m0 m1 m2 1 0 0 0 0 0 = l237 (f + 6) 45 M (c : Int) s ctx m0 m1 m2 (b01 (M 53 12) m0) ((0 + 1 : Nat) : Int) 0 0 0 0 := s1
    rcases b01_01 (M 53 12) m0 with z | ⟨z0, _⟩
    · exact ⟨f + 5, 1, 0, by omega, by rw [s1, r_end hc h58 (Or.inl z), z], Or.inr ⟨fun g => by rcases g.1 with y | y <;> omega, rfl⟩⟩
    · rw [z0] at s1
      by_cases k1 : mm = 1
      · exact ⟨f + 5, 1, 1, by omega, by rw [s1, r_end hc h58 (Or.inr ⟨rfl, by omega⟩)], Or.inl ⟨⟨Or.inr z0, Or.inl (by omega), Or.inl (by omega)⟩, rfl⟩⟩
      · have s2 := r_one (i := 1) (s := s) (ctx := ctx) (m0 := m0) (m1 := m1) (m2 := m2) (f := f + 4) hc h58 (by omega) h3
        have s2 : l237 (f + 6) 45 M (c : Int) s ctx m0 m1 m2 1 ((0 + 1 : Nat) : Int) 0 0 0 0 = l237 (f + 4) 45 M (c : Int) s ctx m0 m1 m2 (b01 (M 53 12) m1) ((1 + 1 : Nat) : Int) 0 0 0 0 := s2
        rcases b01_01 (M 53 12) m1 with z | ⟨z1, _⟩
        · exact ⟨f + 3, 2, 0, by omega, by rw [s1, s2, r_end hc h58 (Or.inl z), z], Or.inr ⟨fun g => by rcases g.2.1 with y | y <;> omega, rfl⟩⟩
        · rw [z1] at s2
          by_cases k2 : mm = 2
          · exact ⟨f + 3, 2, 1, by omega, by rw [s1, s2, r_end hc h58 (Or.inr ⟨rfl, by omega⟩)], Or.inl ⟨⟨Or.inr z0, Or.inr z1, Or.inl (by omega)⟩, rfl⟩⟩
          · have s3 := r_one (i := 2) (s := s) (ctx := ctx) (m0 := m0) (m1 := m1) (m2 := m2) (f := f + 2) hc h58 (by omega) h3
            have s3 : l237 (f + 4) 45 M (c : Int) s ctx m0 m1 m2 1 ((1 + 1 : Nat) : Int) 0 0 0 0 = l237 (f + 2) 45 M (c : Int) s ctx m0 m1 m2 (b01 (M 53 12) m2) ((2 + 1 : Nat) : Int) 0 0 0 0 := s3
            rcases b01_01 (M 53 12) m2 with z | ⟨z2, _⟩
            · exact ⟨f + 1, 3, 0, by omega, by rw [s1, s2, s3, r_end hc h58 (Or.inl z), z], Or.inr ⟨fun g => by rcases g.2.2 with y | y <;> omega, rfl⟩⟩
            · rw [z2] at s3
              exact ⟨f + 1, 3, 1, by omega, by rw [s1, s2, s3, r_end hc h58 (Or.inr ⟨rfl, by omega⟩)], Or.inl ⟨⟨Or.inr z0, Or.inr z1, Or.inr z2⟩, rfl⟩⟩
/-- the loop over methods -/
def Bad (C0 R0 : Mm) (c s : Nat) (M' R' : Mm) : Prop := (∀ a, (a < 24 ∧ a ≠ 23) ∨ 47 ≤ a → M' a = C0 a) ∧ (∀ i, i < 480 * (20 + (9 * c + 3 * s)) ∨ 480 * (20 + (9 * c + 3 * s)) + 1440 ≤ i → M' 23 i = C0 23 i ∧ R' 72 i = R0 72 i) ∧ (∀ a, a < 53 ∨ (54 ≤ a ∧ a ≤ 71 ∧ a ≠ 62) ∨ 94 ≤ a → R' a = R0 a) ∧ (∀ i, i < 9 * c + 3 * s ∨ 9 * c + 3 * s + 3 ≤ i → R' 62 i = R0 62 i) ∧ (∀ j, (j < 28 ∧ j ≠ 24) ∨ 53 ≤ j → R' 53 j = R0 53 j) ∧ Gt R0 R'
theorem inst_loop {C0 R0 : Mm} {N c s NT0 mm : Nat} {ctx m0 m1 m2 x7 bef : Int} (hl : NT0 + 2560 * 3 ≤ 200000) (hc : c < N) (hN : N ≤ 6) (hs : s < 3) (hp : C0 9 (3 * c + s) = 1) (h7 : C0 7 c = (mm : Int)) (h3 : mm ≤ 3) (he : ∀ m, m < mm → ∃ e : Nat, (if m = 0 then m0 else if m = 1 then m1 else m2) = (e : Int) ∧ (e : Int) < C0 12 4 ∧ C0 11 (9 * c + 3 * s + m) = (e : Int)) (hctx : R0 53 53 = C0 10 (3 * c + s)) (h58 : R0 58 c = (mm : Int)) (d : Nat) :
    ∀ (m f g NT : Nat) (M R : Mm), m + d = mm → d < f → 3 * d < g → IS C0 R0 N c s M R m NT0 NT →
    ∃ (w : Int) (M' R' : Mm) (f' g' i : Nat), l58 (f + 5) 212 M (c : Int) (s : Int) ctx m0 m1 m2 (mm : Int) 0 (m : Int) = l58 (f' + 3) 243 M' (c : Int) (s : Int) ctx m0 m1 m2 (mm : Int) w (i : Int) ∧ l237 (g + 5) 189 R (c : Int) (s : Int) ctx m0 m1 m2 x7 ((3 * c + s : Nat) : Int) bef 0 (m : Int) 0 = l237 (g' + 3) 262 R' (c : Int) (s : Int) ctx m0 m1 m2 x7 ((3 * c + s : Nat) : Int) bef w (i : Int) 0 ∧ ((w = 0 ∧ ∃ NT', IS C0 R0 N c s M' R' mm NT0 NT') ∨ (w ≠ 0 ∧ Bad C0 R0 c s M' R')) := by
  induction d with
  | zero =>
    intro m f g NT M R hm hf hg h
    have r58 : R 58 c = (mm : Int) := by rw [h.2.2.2.2.1 58 (by omega)]; exact h58
    obtain rfl : m = mm := by omega
    refine ⟨0, M, R, f + 1, g + 1, m, ?_, ?_, Or.inl ⟨rfl, NT, h⟩⟩
    · rw [l58, if_pos (Int.le_refl _)]
    · rw [l237, if_pos (by omega), Int.toNat_natCast, r58, if_pos (Int.le_refl _)]
  | succ d ih =>
    intro m f g NT M R hm hf hg h
    have r58 : R 58 c = (mm : Int) := by rw [h.2.2.2.2.1 58 (by omega)]; exact h58
    obtain ⟨e, e1, e2, e3⟩ := he m (by omega)
    obtain ⟨w, M1, R1, g1, g2, g3⟩ := IS_step h hl hc hs hp (by omega) e2 e3 hctx
    have lc : l58 (f + 5) 212 M (c : Int) (s : Int) ctx m0 m1 m2 (mm : Int) 0 (m : Int) = l58 (f + 4) 212 M1 (c : Int) (s : Int) ctx m0 m1 m2 (mm : Int) w ((m + 1 : Nat) : Int) := by
      rw [l58, if_neg (by omega), if_neg (fun z => z rfl), g1, bs_]
      dsimp only
      rw [if_pos (by omega), show (m : Int) + 1 = ((m + 1 : Nat) : Int) by omega]
    have lr : l237 (g + 5) 189 R (c : Int) (s : Int) ctx m0 m1 m2 x7 ((3 * c + s : Nat) : Int) bef 0 (m : Int) 0 = l237 (g + 3) 189 R1 (c : Int) (s : Int) ctx m0 m1 m2 x7 ((3 * c + s : Nat) : Int) bef w ((m + 1 : Nat) : Int) 0 := by
      have l230 : ∀ X, l237 (g + 3) 189 R1 (c : Int) (s : Int) ctx m0 m1 m2 x7 ((3 * c + s : Nat) : Int) bef w ((m + 1 : Nat) : Int) 0 = X → l237 (g + 4) 230 R (c : Int) (s : Int) ctx m0 m1 m2 x7 ((3 * c + s : Nat) : Int) bef 0 (m : Int) (e : Int) = X := fun X hX => by
        rw [l237, if_pos (by omega), show ((3 : Int) * ((3 * c + s : Nat) : Int)) + (m : Int) = ((9 * c + 3 * s + m : Nat) : Int) by omega, Int.toNat_natCast, g2, bs_]
        dsimp only
        rw [if_pos (by omega), show (m : Int) + 1 = ((m + 1 : Nat) : Int) by omega]
        exact hX
      have l230 := l230 _ rfl
      generalize l237 (g + 3) 189 R1 (c : Int) (s : Int) ctx m0 m1 m2 x7 ((3 * c + s : Nat) : Int) bef w ((m + 1 : Nat) : Int) 0 = X at l230 ⊢
      rw [l237, if_pos (by omega), Int.toNat_natCast, r58, if_neg (by omega), if_neg (fun z => z rfl)]
      by_cases k0 : m = 0
      · rw [if_pos k0] at e1
        rw [← e1] at l230
        rw [if_neg (fun z => z (by omega))]
        exact l230
      · rw [if_neg k0] at e1
        rw [if_pos (by omega)]
        by_cases k1 : m = 1
        · rw [if_pos k1] at e1
          rw [← e1] at l230
          rw [if_neg (fun z => z (by omega))]
          exact l230
        · rw [if_neg k1] at e1
          rw [← e1] at l230
          rw [if_pos (by omega)]
          exact l230
    rw [lc, lr]
    rcases g3 with ⟨z, NT', is⟩ | ⟨z, bad⟩
    · subst z
      obtain ⟨f0, rfl⟩ : ∃ f0, f = f0 + 1 := ⟨f - 1, by omega⟩
      obtain ⟨g0, rfl⟩ : ∃ g0, g = g0 + 2 := ⟨g - 2, by omega⟩
      exact ih (m + 1) f0 g0 NT' M1 R1 (by omega) (by omega) (by omega) is
    · have r58' : R1 58 c = (mm : Int) := by rw [bad.2.2.1 58 (by omega)]; exact h58
      refine ⟨w, M1, R1, f, g - 1, m + 1, ?_, ?_, Or.inr ⟨z, bad⟩⟩
      · rw [l58]
        by_cases k : (mm : Int) ≤ ((m + 1 : Nat) : Int)
        · rw [if_pos k]
        · rw [if_neg k, if_pos z]
      · rw [show g - 1 + 3 = g + 2 by omega, l237, if_pos (by omega), Int.toNat_natCast, r58']
        by_cases k : (mm : Int) ≤ ((m + 1 : Nat) : Int)
        · rw [if_pos k]
        · rw [if_neg k, if_pos z]
