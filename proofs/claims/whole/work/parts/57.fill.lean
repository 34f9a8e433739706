/-! What is put for variables: bits, and new nodes for them. -/
theorem vars_rg {M : Mm} (hC : TyC M) (hV : TyV M) : ∀ (k t : Nat), t < k → (t : Int) < M 1 3 → 0 ≤ M 4 t ∧ M 4 t < 256
  | 0, t, h, _ => absurd h (Nat.not_lt_zero _)
  | k + 1, t, hk, ht => by
    by_cases h10 : t < 10
    · rw [hV.1 t h10]
      split
      · omega
      · have : 2 ^ (t - 2) < 2 ^ 8 := Nat.pow_lt_pow_right (by decide) (by omega)
        generalize 2 ^ (t - 2) = x at this
        omega
    · obtain ⟨c1, c2⟩ := hC.2 t (by omega) ht
      rw [hV.2 t (by omega) ht]
      obtain ⟨a1, a2⟩ := vars_rg hC hV k (M 2 t).toNat (by omega) (by omega)
      obtain ⟨x, hx⟩ : ∃ x : Nat, M 4 (M 2 t).toNat = (x : Int) := ⟨(M 4 (M 2 t).toNat).toNat, by omega⟩
      have hb : ∃ y : Nat, y < 256 ∧ (if M 3 t = -1 then 0 else M 4 (M 3 t).toNat) = (y : Int) := by
        split
        · exact ⟨0, by omega, rfl⟩
        · obtain ⟨b1, b2⟩ := vars_rg hC hV k (M 3 t).toNat (by omega) (by omega)
          exact ⟨(M 4 (M 3 t).toNat).toNat, by omega, by omega⟩
      obtain ⟨y, hy, e⟩ := hb
      rw [hx, e, bOr_n (by omega) (by omega)]
      have := lor_lt (k := 8) (a := x) (b := y) (by omega) (by omega)
      omega
theorem vars_or {M : Mm} (hC : TyC M) (hV : TyV M) {t : Nat} (h10 : 10 ≤ t) (ht : (t : Int) < M 1 3) (b : Nat) : (M 4 t).toNat.testBit b = ((M 4 (M 2 t).toNat).toNat.testBit b || (if M 3 t = -1 then false else (M 4 (M 3 t).toNat).toNat.testBit b)) := by
  obtain ⟨c1, c2⟩ := hC.2 t h10 ht
  obtain ⟨a1, a2⟩ := vars_rg hC hV _ (M 2 t).toNat (Nat.lt_succ_self _) (by omega)
  obtain ⟨x, hx⟩ : ∃ x : Nat, M 4 (M 2 t).toNat = (x : Int) := ⟨(M 4 (M 2 t).toNat).toNat, by omega⟩
  rw [hV.2 t h10 ht, hx]
  by_cases hr : M 3 t = -1
  · rw [if_pos hr, if_pos hr, show (0 : Int) = ((0 : Nat) : Int) from rfl, bOr_n (by omega) (by omega), Int.toNat_natCast, Int.toNat_natCast, Nat.testBit_or]
    simp
  · rw [if_neg hr, if_neg hr]
    obtain ⟨b1, b2⟩ := vars_rg hC hV _ (M 3 t).toNat (Nat.lt_succ_self _) (by omega)
    obtain ⟨y, hy⟩ : ∃ y : Nat, M 4 (M 3 t).toNat = (y : Int) := ⟨(M 4 (M 3 t).toNat).toNat, by omega⟩
    rw [hy, bOr_n (by omega) (by omega), Int.toNat_natCast, Int.toNat_natCast, Int.toNat_natCast, Nat.testBit_or]
/-- what stands in a type shows in its bits -/
theorem Oc_bits {M : Mm} (hC : TyC M) (hV : TyV M) {t i : Nat} (ht : (t : Int) < M 1 3) (o : Oc (M 2) (M 3) t i) : (i : Int) < M 1 3 ∧ ∀ b, (M 4 i).toNat.testBit b = true → (M 4 t).toNat.testBit b = true := by
  refine o (fun i => (i : Int) < M 1 3 ∧ ∀ b, (M 4 i).toNat.testBit b = true → (M 4 t).toNat.testBit b = true) ⟨ht, fun _ h => h⟩ (fun j hj h10 => ?_)
  obtain ⟨c1, c2⟩ := hC.2 j h10 hj.1
  refine ⟨⟨by omega, fun b hb => hj.2 b ?_⟩, fun hr => ⟨by omega, fun b hb => hj.2 b ?_⟩⟩
  · rw [vars_or hC hV h10 hj.1, hb]
    rfl
  · rw [vars_or hC hV h10 hj.1, if_neg hr, hb, Bool.or_true]
theorem Oc_var {M : Mm} (hC : TyC M) (hV : TyV M) {t i m : Nat} (ht : (t : Int) < M 1 3) (hm : M 4 t = ((2 ^ m - 1 : Nat) : Int)) (o : Oc (M 2) (M 3) t i) (h2 : 2 ≤ i) (h10 : i < 10) : i - 2 < m := by
  have h := (Oc_bits hC hV ht o).2 (i - 2) (by
    rw [hV.1 i h10, if_neg (by omega), Int.toNat_natCast, Nat.testBit_two_pow_self])
  rw [hm, Int.toNat_natCast, Nat.testBit_two_pow_sub_one] at h
  simpa using h
theorem pcn_pow : ∀ m : Fin 9, pcn (2 ^ m.val - 1) = m.val := by decide +kernel
theorem f87_eq {M : Mm} {t m : Nat} (ht : t < 40) (hm : m ≤ 8) (h : M 4 t = ((2 ^ m - 1 : Nat) : Int)) : f87 M (t : Int) = some (m : Int) := by
  have : 2 ^ m ≤ 2 ^ 8 := Nat.pow_le_pow_right (by decide) hm
  unfold f87
  rw [if_pos (by omega), Int.toNat_natCast, h, f88_ok (by omega), bs_, pcn_pow ⟨m, by omega⟩]
/-- frames while variables are filled -/
def Cf (M M' : Mm) (n p : Nat) : Prop := (∀ a, a < 25 ∨ (29 < a ∧ a ≠ 33 ∧ a ≠ 38 ∧ ¬ (40 ≤ a ∧ a ≤ 41)) → M' a = M a) ∧ (∀ k, k ≠ 8 → M' 25 k = M 25 k) ∧ (∀ x, x < n → M' 26 x = M 26 x ∧ M' 27 x = M 27 x ∧ M' 28 x = M 28 x) ∧ ∀ x, x < 8 * p ∨ 8 * p + 8 ≤ x → M' 38 x = M 38 x
def Rf (M M' : Mm) (n p : Nat) : Prop := (∀ a, a ≠ 53 → ¬ (76 ≤ a ∧ a ≤ 80) → ¬ (82 ≤ a ∧ a ≤ 83) → a ≠ 88 → M' a = M a) ∧ (∀ k, k ≠ 28 → M' 53 k = M 53 k) ∧ (∀ x, x < n → M' 76 x = M 76 x) ∧ ∀ x, x < 8 * p ∨ 8 * p + 8 ≤ x → M' 88 x = M 88 x
theorem Cf_trans {M M1 M2 : Mm} {n n1 p : Nat} (a : Cf M M1 n p) (b : Cf M1 M2 n1 p) (h : n ≤ n1) : Cf M M2 n p :=
  ⟨fun c hc => (b.1 c hc).trans (a.1 c hc), fun k hk => (b.2.1 k hk).trans (a.2.1 k hk), fun x hx => ⟨(b.2.2.1 x (by omega)).1.trans (a.2.2.1 x hx).1, (b.2.2.1 x (by omega)).2.1.trans (a.2.2.1 x hx).2.1, (b.2.2.1 x (by omega)).2.2.trans (a.2.2.1 x hx).2.2⟩, fun x hx => (b.2.2.2 x hx).trans (a.2.2.2 x hx)⟩
theorem Rf_trans {M M1 M2 : Mm} {n n1 p : Nat} (a : Rf M M1 n p) (b : Rf M1 M2 n1 p) (h : n ≤ n1) : Rf M M2 n p :=
  ⟨fun c h1 h2 h3 h4 => (b.1 c h1 h2 h3 h4).trans (a.1 c h1 h2 h3 h4), fun k hk => (b.2.1 k hk).trans (a.2.1 k hk), fun x hx => (b.2.2.1 x (by omega)).trans (a.2.2.1 x hx), fun x hx => (b.2.2.2 x hx).trans (a.2.2.2 x hx)⟩
theorem Cf_g {M M' : Mm} {n p : Nat} (h : Cg M M' n) : Cf M M' n p := ⟨fun a ha => h.1 a (by omega), h.2.1, h.2.2, fun x _ => by rw [h.1 38 (by omega)]⟩
theorem Rf_g {M M' : Mm} {n p : Nat} (h : Rg M M' n) : Rf M M' n p := ⟨fun a h1 h2 h3 h4 => h.1 a h1 h2 h3, h.2.1, fun x hx => (h.2.2 x hx).1, fun x _ => by rw [h.1 88 (by omega) (by omega) (by omega)]⟩
/-- new nodes for so many variables of a given place, here and there -/
theorem giv_loop {p m t gg : Nat} (hp : p < 60) (hm : m ≤ 8) (d : Nat) : ∀ (v f g : Nat) (C R : Mm) (S : Nat → Nat → Prop) (n n' : Nat) (cs : List (Nat × Nat)), v + d = m → d < f → d < g → n + d < 2504 → n' + d < 4000 → Tw C R S n n' cs → C 39 p = (m : Int) → (∀ j, j < v → ∃ c u : Nat, C 38 (8 * p + j) = (c : Int) ∧ R 88 (8 * p + j) = (u : Int) ∧ R 83 (2 + j) = (u : Int) ∧ S c u) →
    ∃ (C' R' : Mm) (S' : Nat → Nat → Prop), l86 f 16 C (p : Int) (t : Int) (v : Int) = l86 (f - d) 16 C' (p : Int) (t : Int) (m : Int) ∧ l224 g 2 R (p : Int) (gg : Int) (v : Int) = l224 (g - d) 2 R' (p : Int) (gg : Int) (m : Int) ∧ Tw C' R' S' (n + d) (n' + d) cs ∧ Cf C C' n p ∧ Rf R R' n' p ∧ (∀ x y, S x y → S' x y) ∧ (∀ x y, S' x y → y < n' → S x y) ∧ (∀ x, n ≤ x → x < n + d → C' 26 x ≠ 5) ∧ ∀ j, j < m → ∃ c u : Nat, C' 38 (8 * p + j) = (c : Int) ∧ R' 88 (8 * p + j) = (u : Int) ∧ R' 83 (2 + j) = (u : Int) ∧ S' c u := by
  induction d with
  | zero =>
    intro v f g C R S n n' cs hv hf hg hn hn' tw h39 hj
    obtain rfl : v = m := by omega
    exact ⟨C, R, S, rfl, rfl, tw, ⟨fun _ _ => rfl, fun _ _ => rfl, fun _ _ => ⟨rfl, rfl, rfl⟩, fun _ _ => rfl⟩, ⟨fun _ _ _ _ _ => rfl, fun _ _ => rfl, fun _ _ => rfl, fun _ _ => rfl⟩, fun _ _ q => q, fun _ _ q _ => q, fun x h1 h2 => by omega, hj⟩
  | succ d ih =>
    intro v f g C R S n n' cs hv hf hg hn hn' tw h39 hj
    obtain ⟨f, rfl⟩ : ∃ f', f = f' + 1 := ⟨f - 1, by omega⟩
    obtain ⟨g, rfl⟩ : ∃ g', g = g' + 1 := ⟨g - 1, by omega⟩
    obtain ⟨C1, R1, c1, r1, hI, cg1, kv, -⟩ := Inc_var (Inc_refl tw) (by omega) (by omega)
    obtain ⟨tw1, -, rg1, -, -, sf1, -⟩ := hI
    have cv : (v : Int) + 1 = ((v + 1 : Nat) : Int) := by omega
    have i1 : ((p : Int) * 8 + (v : Int)).toNat = 8 * p + v := by omega
    have i2 : ((2 : Int) + (v : Int)).toNat = 2 + v := by omega
    have i3 : ((8 : Int) * (p : Int) + (v : Int)).toNat = 8 * p + v := by omega
    have x38 : ∀ j, (up C1 38 (8 * p + v) (n : Int)) 38 j = if j = 8 * p + v then (n : Int) else C 38 j := fun j => by simp [up, cg1.1 38 (by omega)]
    have x88 : ∀ j, (up (up R1 83 (2 + v) (n' : Int)) 88 (8 * p + v) (n' : Int)) 88 j = if j = 8 * p + v then (n' : Int) else R 88 j := fun j => by simp [up, rg1.1 88 (by omega) (by omega) (by omega)]
    have r83 : R1 83 = R 83 := (f214_fr r1).2
    have x83 : ∀ j, (up (up R1 83 (2 + v) (n' : Int)) 88 (8 * p + v) (n' : Int)) 83 j = if j = 2 + v then (n' : Int) else R 83 j := fun j => by simp [up, r83]
    obtain ⟨C', R', S', z1, z2, z3, z4, z5, z6, z7, z9, z8⟩ := ih (v + 1) f g (up C1 38 (8 * p + v) (n : Int)) (up (up R1 83 (2 + v) (n' : Int)) 88 (8 * p + v) (n' : Int)) (adS S n n') (n + 1) (n' + 1) cs (by omega) (by omega) (by omega) (by omega) (by omega) (Tw_same (fun a h1 h2 => up_cell (by omega)) (fun a h1 h2 => by rw [up_cell (by omega), up_cell (by omega)]) (by rw [up_cell (by decide), up_cell (by decide)]) tw1) (by rw [up_cell (by decide), cg1.1 39 (by omega)]; exact h39) (fun j hj' => by
      rw [x38, x88, x83]
      by_cases e : j = v
      · subst e
        rw [if_pos rfl, if_pos rfl, if_pos rfl]
        exact ⟨n, n', rfl, rfl, rfl, adS_r⟩
      · obtain ⟨c, u, y1, y2, y3, y4⟩ := hj j (by omega)
        rw [if_neg (by omega), if_neg (by omega), if_neg (by omega)]
        exact ⟨c, u, y1, y2, y3, adS_l y4⟩)
    refine ⟨C', R', S', ?_, ?_, by rw [show n + (d + 1) = n + 1 + d by omega, show n' + (d + 1) = n' + 1 + d by omega]; exact z3, ?_, ?_, fun x y q => z6 x y (adS_l q), fun x y q hy => ?_, fun x h1 h2 => ?_, z8⟩
    · rw [show f + 1 - (d + 1) = f - d by omega, ← z1, l86]
      simp only [if_pos (show 0 ≤ (p : Int) ∧ (p : Int) < 60 by omega), Int.toNat_natCast, h39, if_neg (show ¬ (m : Int) ≤ (v : Int) by omega), c1, bs_, if_pos (show 0 ≤ (p : Int) * 8 + (v : Int) ∧ (p : Int) * 8 + (v : Int) < 488 by omega), if_pos (show rg ((v : Int) + 1) by omega), i1, cv]
      exact if_pos (by omega)
    · rw [show g + 1 - (d + 1) = g - d by omega, ← z2, l224]
      simp only [if_neg (show ¬ (8 : Int) ≤ (v : Int) by omega), f213_eq, r1, bs_, if_pos (show 0 ≤ (2 : Int) + (v : Int) ∧ (2 : Int) + (v : Int) < 40 by omega), if_pos (show 0 ≤ (8 : Int) * (p : Int) + (v : Int) ∧ (8 : Int) * (p : Int) + (v : Int) < 480 by omega), i2, i3, up_same, cv]
      exact if_pos (by omega)
    · refine Cf_trans (Cf_g cg1) (n1 := n) ?_ (Nat.le_refl _)
      refine ⟨fun a ha => ?_, fun k hk => ?_, fun x hx => ?_, fun x hx => ?_⟩
      · rw [z4.1 a ha, up_cell (by omega)]
      · rw [z4.2.1 k hk, up_cell (by decide)]
      · obtain ⟨y1, y2, y3⟩ := z4.2.2.1 x (by omega)
        rw [y1, y2, y3, up_cell (by decide), up_cell (by decide), up_cell (by decide)]
        exact ⟨rfl, rfl, rfl⟩
      · rw [z4.2.2.2 x hx, up_at (by omega)]
    · refine Rf_trans (Rf_g rg1) (n1 := n') ?_ (Nat.le_refl _)
      refine ⟨fun a h1 h2 h3 h4 => ?_, fun k hk => ?_, fun x hx => ?_, fun x hx => ?_⟩
      · rw [z5.1 a h1 h2 h3 h4, up_cell h4, up_cell (by omega)]
      · rw [z5.2.1 k hk, up_cell (by decide), up_cell (by decide)]
      · rw [z5.2.2.1 x (by omega), up_cell (by decide), up_cell (by decide)]
      · rw [z5.2.2.2 x hx, up_at (by omega), up_cell (by decide)]
    · rcases z7 x y q (by omega) with q | ⟨-, q⟩
      · exact q
      · omega
    · by_cases e : x = n
      · rw [(z4.2.2.1 x (by omega)).1, up_cell (by decide), e, kv]; decide
      · exact z9 x (by omega) (by omega)
/-- the reference's others -/
theorem giv_rest {p gg m : Nat} (hp : p < 60) (d : Nat) : ∀ (v g : Nat) (C R : Mm) (S : Nat → Nat → Prop) (n n' : Nat) (cs : List (Nat × Nat)), v + d = 8 → m ≤ v → d < g → n' + d < 4000 → Tw C R S n n' cs →
    ∃ R' : Mm, l224 g 2 R (p : Int) (gg : Int) (v : Int) = l224 (g - d) 2 R' (p : Int) (gg : Int) 8 ∧ Tw C R' S n (n' + d) cs ∧ Rf R R' n' p ∧ ∀ j, j < m → R' 88 (8 * p + j) = R 88 (8 * p + j) ∧ R' 83 (2 + j) = R 83 (2 + j) := by
  induction d with
  | zero =>
    intro v g C R S n n' cs hv hm hg hn' tw
    obtain rfl : v = 8 := by omega
    exact ⟨R, rfl, tw, ⟨fun _ _ _ _ _ => rfl, fun _ _ => rfl, fun _ _ => rfl, fun _ _ => rfl⟩, fun _ _ => ⟨rfl, rfl⟩⟩
  | succ d ih =>
    intro v g C R S n n' cs hv hm hg hn' tw
    obtain ⟨g, rfl⟩ : ∃ g', g = g' + 1 := ⟨g - 1, by omega⟩
    obtain ⟨R1, r1, hI, -⟩ := Inc_jv (Inc_refl tw) (by omega)
    obtain ⟨tw1, -, rg1, -, -, -, -⟩ := hI
    have cv : (v : Int) + 1 = ((v + 1 : Nat) : Int) := by omega
    have i2 : ((2 : Int) + (v : Int)).toNat = 2 + v := by omega
    have i3 : ((8 : Int) * (p : Int) + (v : Int)).toNat = 8 * p + v := by omega
    have r83 : R1 83 = R 83 := (f214_fr r1).2
    obtain ⟨R', z2, z3, z5, z8⟩ := ih (v + 1) g C (up (up R1 83 (2 + v) (n' : Int)) 88 (8 * p + v) (n' : Int)) S n (n' + 1) cs (by omega) (by omega) (by omega) (by omega) (Tw_same (fun _ _ _ => rfl) (fun a h1 h2 => by rw [up_cell (by omega), up_cell (by omega)]) (by rw [up_cell (by decide), up_cell (by decide)]) tw1)
    refine ⟨R', ?_, by rw [show n' + (d + 1) = n' + 1 + d by omega]; exact z3, ?_, fun j hj => ?_⟩
    · rw [show g + 1 - (d + 1) = g - d by omega, ← z2, l224]
      simp only [if_neg (show ¬ (8 : Int) ≤ (v : Int) by omega), f213_eq, r1, bs_, if_pos (show 0 ≤ (2 : Int) + (v : Int) ∧ (2 : Int) + (v : Int) < 40 by omega), if_pos (show 0 ≤ (8 : Int) * (p : Int) + (v : Int) ∧ (8 : Int) * (p : Int) + (v : Int) < 480 by omega), i2, i3, up_same, cv]
      exact if_pos (by omega)
    · refine Rf_trans (Rf_g rg1) (n1 := n') ?_ (Nat.le_refl _)
      refine ⟨fun a h1 h2 h3 h4 => ?_, fun k hk => ?_, fun x hx => ?_, fun x hx => ?_⟩
      · rw [z5.1 a h1 h2 h3 h4, up_cell h4, up_cell (by omega)]
      · rw [z5.2.1 k hk, up_cell (by decide), up_cell (by decide)]
      · rw [z5.2.2.1 x (by omega), up_cell (by decide), up_cell (by decide)]
      · rw [z5.2.2.2 x hx, up_at (by omega), up_cell (by decide)]
    · obtain ⟨y1, y2⟩ := z8 j hj
      rw [y1, y2, up_at (by omega), up_cell (by decide), up_cell (show 83 ≠ 88 by decide), up_at (by omega), rg1.1 88 (by omega) (by omega) (by omega), r83]
      exact ⟨rfl, rfl⟩
