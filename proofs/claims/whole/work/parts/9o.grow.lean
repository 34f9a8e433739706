/-! Run: what is known of cells and rows stays, as more come. -/
section GROW
variable {M0 : Mm} {N : Nat} {G : Nat → UGt} {Mc Mr Mc' Mr' : Mm} {φ φ' : Nat → Nat} {τ τ' : Nat → Ty} {κ κ' : Nat → Nat × Nat × Nat} {Es Es' : Nat → Int → Ty} {n m nf ne n' m' nf' ne' : Nat}
def Grw (Mc Mr : Mm) (φ : Nat → Nat) (τ : Nat → Ty) (κ : Nat → Nat × Nat × Nat) (Es : Nat → Int → Ty) (n m nf ne : Nat) (Mc' Mr' : Mm) (φ' : Nat → Nat) (τ' : Nat → Ty) (κ' : Nat → Nat × Nat × Nat) (Es' : Nat → Int → Ty) (n' m' nf' ne' : Nat) : Prop :=
  (n ≤ n' ∧ m ≤ m' ∧ nf ≤ nf' ∧ ne ≤ ne') ∧ (∀ j, j < 5 * n → Mc' 49 j = Mc 49 j) ∧ (∀ j, j < 8 * nf → Mc' 50 j = Mc 50 j) ∧ (∀ a y, 95 ≤ a → a ≤ 100 → y < m → Mr' a y = Mr a y) ∧ (∀ i, i < n → φ' i = φ i ∧ τ' i = τ i ∧ κ' i = κ i) ∧ ∀ η, η < ne → Es' η = Es η
theorem Grw_refl : Grw Mc Mr φ τ κ Es n m nf ne Mc Mr φ τ κ Es n m nf ne := ⟨⟨Nat.le_refl _, Nat.le_refl _, Nat.le_refl _, Nat.le_refl _⟩, fun _ _ => rfl, fun _ _ => rfl, fun _ _ _ _ _ => rfl, fun _ _ => ⟨rfl, rfl, rfl⟩, fun _ _ => rfl⟩
theorem EnK_grow {k k' u η : Nat} {q ν : Int} (g : Grw Mc Mr φ τ κ Es n m nf ne Mc' Mr' φ' τ' κ' Es' n' m' nf' ne') (hk : k ≤ n) (hk' : k ≤ k') (h : EnK Mc κ k u q ν η) : EnK Mc' κ' k' u q ν η := by
  obtain ⟨g1, g2, g3, g4, g5, g6⟩ := g
  rcases h with h | ⟨l, i, h1, h2, h3, h4, h5⟩
  · exact Or.inl h
  · exact Or.inr ⟨l, i, h1, h2, by omega, by rw [g2 _ (by omega)]; exact h4, by rw [(g5 i (by omega)).2.2]; exact h5⟩
theorem pe_grow {k u η : Nat} {q ν : Int} (g : Grw Mc Mr φ τ κ Es n m nf ne Mc' Mr' φ' τ' κ' Es' n' m' nf' ne') (hk : k ≤ n) (h : EnK Mc κ k u q ν η) : pe φ' ν = pe φ ν := by
  rcases h with ⟨_, h⟩ | ⟨l, i, h1, h2, h3, h4, h5⟩
  · rw [h]; rfl
  · subst h2
    unfold pe
    rw [if_neg (by omega), if_neg (by omega), Int.toNat_natCast, (g.2.2.2.2.1 i (by omega)).1]
theorem PL_grow {k k' u p f η : Nat} {ν : Int} (g : Grw Mc Mr φ τ κ Es n m nf ne Mc' Mr' φ' τ' κ' Es' n' m' nf' ne') (hk : k ≤ n) (hk' : k ≤ k') (h : PL M0 N G Mc κ Es k nf ne u p f η ν) : PL M0 N G Mc' κ' Es' k' nf' ne' u p f η ν := by
  obtain ⟨h1, h2, h3, h4, h5, h6⟩ := h
  have g0 := g
  obtain ⟨g1, g2, g3, g4, g5, g6⟩ := g
  refine ⟨h1, h2, by omega, by omega, fun c v q => ?_, EnK_grow g0 hk hk' h6⟩
  obtain ⟨a1, w, a2, a3, a4⟩ := h5 c v q
  exact ⟨a1, w, a2, a3, by rw [g6 η h4, g3 _ (by omega)]; exact a4⟩
theorem lenC_grow {i : Nat} (g : Grw Mc Mr φ τ κ Es n m nf ne Mc' Mr' φ' τ' κ' Es' n' m' nf' ne') (hi : i < n) : lenC Mc' i = lenC Mc i := by
  unfold lenC
  rw [g.2.1 _ (by omega), g.2.1 _ (by omega)]
theorem COK_grow {i : Nat} (g : Grw Mc Mr φ τ κ Es n m nf ne Mc' Mr' φ' τ' κ' Es' n' m' nf' ne') (hi : i < n) (h : COK M0 N G Mc Mr φ τ κ Es m nf ne i) : COK M0 N G Mc' Mr' φ' τ' κ' Es' m' nf' ne' i := by
  have g0 := g
  obtain ⟨g1, g2, g3, g4, g5, g6⟩ := g
  obtain ⟨hm, h⟩ := h
  have e0 := g2 (5 * i) (by omega)
  have e1 := g2 (5 * i + 1) (by omega)
  have e2 := g2 (5 * i + 2) (by omega)
  have e3 := g2 (5 * i + 3) (by omega)
  have e4 := g2 (5 * i + 4) (by omega)
  have ep := (g5 i hi).1
  have et := (g5 i hi).2.1
  have r : ∀ a, 95 ≤ a → a ≤ 100 → Mr' a (φ' i) = Mr a (φ i) := fun a b1 b2 => by rw [ep]; exact g4 a _ b1 b2 hm
  refine ⟨by rw [ep]; omega, ?_⟩
  rcases h with h | h | h | h | h | h
  · refine Or.inl ?_
    unfold C0
    rw [e0, e1, et, r 95 (by omega) (by omega), r 96 (by omega) (by omega)]
    exact h
  · refine Or.inr (Or.inl ?_)
    unfold C1
    rw [e0, et, r 95 (by omega) (by omega)]
    exact h
  · refine Or.inr (Or.inr (Or.inl ?_))
    obtain ⟨a, b, x, t, c1, c2, c3, c4, c5, c6, c7, c8, c9⟩ := h
    refine ⟨by rw [e0]; exact a, by rw [r 95 (by omega) (by omega)]; exact b, x, t, c1, c2, by rw [e1]; exact c3, by rw [e2]; exact c4, by rw [r 96 (by omega) (by omega), (g5 x (by omega)).1]; exact c5, by rw [r 97 (by omega) (by omega), (g5 t (by omega)).1]; exact c6, by rw [et, (g5 x (by omega)).2.1]; exact c7, by rw [et, (g5 t (by omega)).2.1]; exact c8, by rw [e3, lenC_grow g0 (by omega)]; exact c9⟩
  · refine Or.inr (Or.inr (Or.inr (Or.inl ?_)))
    obtain ⟨a, b, u, p, f, η, ν, c1, c2, c3, c4, c5, c6, c7, c8, c9, d1, d2, d3⟩ := h
    refine ⟨by rw [e0]; exact a, by rw [r 95 (by omega) (by omega)]; exact b, u, p, f, η, ν, PL_grow g0 (by omega) (Nat.le_refl _) c1, c2, by rw [e1]; exact c3, by rw [e2]; exact c4, by rw [e3]; exact c5, by rw [e4]; exact c6, by rw [r 96 (by omega) (by omega)]; exact c7, by rw [r 97 (by omega) (by omega)]; exact c8, by rw [r 98 (by omega) (by omega)]; exact c9, by rw [r 99 (by omega) (by omega), pe_grow g0 (k := i) (by omega) c1.2.2.2.2.2]; exact d1, by rw [r 100 (by omega) (by omega)]; exact d2, by rw [et, g6 η c1.2.2.2.1]; exact d3⟩
  · refine Or.inr (Or.inr (Or.inr (Or.inr (Or.inl ?_))))
    obtain ⟨a, b, k, c1, c2, c3, c4⟩ := h
    refine ⟨by rw [e0]; exact a, by rw [r 95 (by omega) (by omega)]; exact b, k, c1, by rw [e1]; exact c2, by rw [r 96 (by omega) (by omega)]; exact c3, ?_⟩
    rw [e2, e3, e4, et, r 97 (by omega) (by omega), r 98 (by omega) (by omega), r 99 (by omega) (by omega)]
    rcases c4 with c4 | ⟨x, d1, d2, d3, d4, d5, d6⟩ | ⟨x, y, d1, d2, d3, d4, d5, d6, d7, d8, d9, d10⟩
    · exact Or.inl c4
    · refine Or.inr (Or.inl ⟨x, d1, d2, d3, d4, by rw [(g5 x (by omega)).1]; exact d5, by rw [(g5 x (by omega)).2.1]; exact d6⟩)
    · refine Or.inr (Or.inr ⟨x, y, d1, d2, d3, d4, d5, d6, by rw [(g5 x (by omega)).1]; exact d7, d8, by rw [(g5 y (by omega)).1]; exact d9, by rw [(g5 x (by omega)).2.1, (g5 y (by omega)).2.1]; exact d10⟩)
  · refine Or.inr (Or.inr (Or.inr (Or.inr (Or.inr ?_))))
    obtain ⟨a, b, u, l, η, j, c1, c2, c3, c4, c5, c6, c7, c8⟩ := h
    refine ⟨by rw [e0]; exact a, by rw [et]; exact b, u, l, η, j, by rw [(g5 i hi).2.2]; exact c1, by omega, c3, by rw [e1]; exact c4, by rw [r 96 (by omega) (by omega), (g5 j (by omega)).1]; exact c5, by rw [(g5 j (by omega)).2.1, g6 η c2]; exact c6, ?_, ?_⟩
    · rw [r 97 (by omega) (by omega), e2, pe_grow g0 (k := i) (by omega) c8]; exact c7
    · rw [e2]; exact EnK_grow g0 (by omega) (Nat.le_refl _) c8
theorem COK_2 {i : Nat} (h : COK M0 N G Mc Mr φ τ κ Es m nf ne i) (k : Mc 49 (5 * i) = 2) : C2 Mc Mr φ τ i := by
  rcases h.2 with h | h | h | h | h | h
  · have := h.1; omega
  · have := h.1; omega
  · exact h
  · have := h.1; omega
  · have := h.1; omega
  · have := h.1; omega
/-- going along a list -/
theorem tl_ok (hC : ∀ i, i < n → COK M0 N G Mc Mr φ τ κ Es m nf ne i) : ∀ (k l : Nat), l < n → (k : Int) < lenC Mc l → tlC Mc k l ≤ l ∧ Mc 49 (5 * tlC Mc k l) = 2 ∧ lenC Mc (tlC Mc k l) = lenC Mc l - (k : Int) ∧ τ (tlC Mc k l) = τ l := by
  intro k
  induction k with
  | zero =>
    intro l hl hk
    refine ⟨Nat.le_refl _, ?_, by show lenC Mc l = _; omega, rfl⟩
    show Mc 49 (5 * l) = 2
    by_cases z : Mc 49 (5 * l) = 2
    · exact z
    · unfold lenC at hk
      rw [if_neg z] at hk
      omega
  | succ k ih =>
    intro l hl hk
    have z : Mc 49 (5 * l) = 2 := by
      by_cases z : Mc 49 (5 * l) = 2
      · exact z
      · unfold lenC at hk
        rw [if_neg z] at hk
        omega
    obtain ⟨a, b, x, t, c1, c2, c3, c4, c5, c6, c7, c8, c9⟩ := COK_2 (hC l hl) z
    have e : lenC Mc l = lenC Mc t + 1 := by
      rw [← c9]
      unfold lenC
      rw [if_pos z]
    have et : tlC Mc (k + 1) l = tlC Mc k t := by
      show tlC Mc k (Mc 49 (5 * l + 2)).toNat = _
      rw [c4, Int.toNat_natCast]
    obtain ⟨i1, i2, i3, i4⟩ := ih t (by omega) (by omega)
    rw [et]
    exact ⟨by omega, i2, by omega, i4.trans c8⟩
theorem tlC_grow (hC : ∀ i, i < n → COK M0 N G Mc Mr φ τ κ Es m nf ne i) (g : Grw Mc Mr φ τ κ Es n m nf ne Mc' Mr' φ' τ' κ' Es' n' m' nf' ne') : ∀ (k l : Nat), l < n → (k : Int) < lenC Mc l → tlC Mc' k l = tlC Mc k l := by
  intro k
  induction k with
  | zero => intro l _ _; rfl
  | succ k ih =>
    intro l hl hk
    have z := (tl_ok hC 0 l hl (by omega)).2.1
    have z : Mc 49 (5 * l) = 2 := z
    obtain ⟨a, b, x, t, c1, c2, c3, c4, c5, c6, c7, c8, c9⟩ := COK_2 (hC l hl) z
    have e : lenC Mc l = lenC Mc t + 1 := by
      rw [← c9]
      unfold lenC
      rw [if_pos z]
    show tlC Mc' k (Mc' 49 (5 * l + 2)).toNat = tlC Mc k (Mc 49 (5 * l + 2)).toNat
    rw [g.2.1 _ (by omega), c4, Int.toNat_natCast]
    exact ih t (by omega) (by omega)
/-- an element of a list -/
theorem el_ok {k l : Nat} (hC : ∀ i, i < n → COK M0 N G Mc Mr φ τ κ Es m nf ne i) (hl : l < n) (hk : (k : Int) < lenC Mc l) : elC Mc l k < l ∧ Mc 49 (5 * tlC Mc k l + 1) = (elC Mc l k : Int) ∧ τ l = tL (τ (elC Mc l k)) := by
  obtain ⟨a1, a2, a3, a4⟩ := tl_ok hC k l hl hk
  obtain ⟨a, b, x, t, c1, c2, c3, c4, c5, c6, c7, c8, c9⟩ := COK_2 (hC (tlC Mc k l) (by omega)) a2
  have e : elC Mc l k = x := by
    unfold elC
    rw [c3, Int.toNat_natCast]
  rw [e]
  exact ⟨by omega, c3, by rw [← a4]; exact c7⟩
theorem elC_grow {k l : Nat} (hC : ∀ i, i < n → COK M0 N G Mc Mr φ τ κ Es m nf ne i) (g : Grw Mc Mr φ τ κ Es n m nf ne Mc' Mr' φ' τ' κ' Es' n' m' nf' ne') (hl : l < n) (hk : (k : Int) < lenC Mc l) : elC Mc' l k = elC Mc l k := by
  have := (tl_ok hC k l hl hk).1
  unfold elC
  rw [tlC_grow hC g k l hl hk, g.2.1 _ (by omega)]
theorem Chn_grow {l : Nat} (hC : ∀ i, i < n → COK M0 N G Mc Mr φ τ κ Es m nf ne i) (g : Grw Mc Mr φ τ κ Es n m nf ne Mc' Mr' φ' τ' κ' Es' n' m' nf' ne') (hl : l < n) : ∀ (r : Nat) (y : Int), (r : Int) ≤ lenC Mc l → Chn Mc Mr φ m l r y → Chn Mc' Mr' φ' m' l r y := by
  intro r
  induction r with
  | zero => intro y _ h; exact h
  | succ r ih =>
    intro y hr h
    obtain ⟨z, h1, h2, h3, h4⟩ := h
    have e := el_ok hC hl (k := r) (by omega)
    have gg := g.1
    refine ⟨z, h1, by omega, ?_, ?_⟩
    · rw [g.2.2.2.1 96 z (by omega) (by omega) h2, elC_grow hC g hl (by omega), (g.2.2.2.2.1 (elC Mc l r) (by omega)).1]
      exact h3
    · rw [g.2.2.2.1 97 z (by omega) (by omega) h2]
      exact ih _ (by omega) h4
theorem WOK_grow {k : Nat} {ω ω' : Nat → Ty} (hC : ∀ i, i < n → COK M0 N G Mc Mr φ τ κ Es m nf ne i) (g : Grw Mc Mr φ τ κ Es n m nf ne Mc' Mr' φ' τ' κ' Es' n' m' nf' ne') (h51 : ∀ j, 5 * k ≤ j → j < 5 * k + 5 → Mc' 51 j = Mc 51 j) (h103 : ∀ a, 103 ≤ a → a ≤ 108 → Mr' a k = Mr a k) (hω : ω' k = ω k ∧ ω' (k + 1) = ω (k + 1)) (h : WOK M0 N G Mc Mr φ τ κ Es n m nf ne ω k) : WOK M0 N G Mc' Mr' φ' τ' κ' Es' n' m' nf' ne' ω' k := by
  have g0 := g
  obtain ⟨g1, g2, g3, g4, g5, g6⟩ := g
  unfold WOK
  rw [h51 _ (by omega) (by omega), h51 _ (by omega) (by omega), h51 _ (by omega) (by omega), h51 _ (by omega) (by omega), h51 (5 * k + 4) (by omega) (by omega), h103 103 (by omega) (by omega), h103 104 (by omega) (by omega), h103 105 (by omega) (by omega), h103 106 (by omega) (by omega), h103 107 (by omega) (by omega), h103 108 (by omega) (by omega), hω.1, hω.2]
  rcases h with ⟨a, b, u, p, f, η, ν, c1, c2, c3, c4, c5, c6, c7, c8, c9, d1, d2⟩ | ⟨a, b, i, c1, c2, c3, c4⟩ | ⟨a, b, i, c1, c2, c3, c4⟩ | ⟨a, b, i, l, r, c1, c2, c3, c4, c5, c6, c7, ⟨x, c8, c9⟩, d1, d2⟩
  · exact Or.inl ⟨a, b, u, p, f, η, ν, PL_grow g0 (Nat.le_refl _) (by omega) c1, c2, c3, c4, c5, c6, c7, c8, by rw [pe_grow g0 (k := n) (Nat.le_refl _) c1.2.2.2.2.2]; exact c9, d1, by rw [g6 η c1.2.2.2.1]; exact d2⟩
  · exact Or.inr (Or.inl ⟨a, b, i, by omega, c2, by rw [(g5 i c1).1]; exact c3, by rw [(g5 i c1).2.1]; exact c4⟩)
  · exact Or.inr (Or.inr (Or.inl ⟨a, b, i, by omega, c2, by rw [(g5 i c1).1]; exact c3, by rw [(g5 i c1).2.1]; exact c4⟩))
  · exact Or.inr (Or.inr (Or.inr ⟨a, b, i, l, r, by omega, by omega, c3, c4, c5, by rw [(g5 i c1).1]; exact c6, Chn_grow hC g0 c2 r _ d2 c7, ⟨x, by rw [(g5 i c1).2.1]; exact c8, by rw [(g5 l c2).2.1]; exact c9⟩, d1, by rw [lenC_grow g0 c2]; exact d2⟩))
end GROW
