/-! Define: a new definition is written down. -/
theorem add_ok {M : Mm} {D many : Nat} {e t : Int} (hD : M 17 4 = (D : Int)) (h20 : D < 20) (h8 : many ≤ 8) : ∃ M', f141_43 M e t (many : Int) = some ((D : Int), M') ∧ (∀ a, a ≠ 17 → a ≠ 18 → a ≠ 19 → a ≠ 20 → a ≠ 21 → M' a = M a) ∧ (∀ j, j ≠ 4 → M' 17 j = M 17 j) ∧ M' 17 4 = ((D + 1 : Nat) : Int) ∧ (∀ i, M' 18 i = if i = D then e else M 18 i) ∧ (∀ i, M' 19 i = if i = D then t else M 19 i) ∧ (∀ i, M' 20 i = if i = D then (many : Int) else M 20 i) ∧ (∀ i, i < many → M' 21 (8 * D + i) = M 43 i) ∧ ∀ i, i < 8 * D ∨ 8 * D + many ≤ i → M' 21 i = M 21 i := by
  let M1 := up (up (up M 18 D e) 19 D t) 20 D (many : Int)
  let M2 := cpM M1 43 21 0 ((D : Int) * 8) (many : Int)
  have n1 : ((0 : Int)).toNat = 0 := rfl
  have n2 : ((D : Int) * 8).toNat = 8 * D := by omega
  have n3 : ((many : Int)).toNat = many := Int.toNat_natCast _
  have m2 : ∀ a k, M2 a k = if a = 21 ∧ 8 * D ≤ k ∧ k < 8 * D + many then M1 43 (k - 8 * D) else M1 a k := fun a k => by
    show (if a = 21 ∧ ((D : Int) * 8).toNat ≤ k ∧ k < ((D : Int) * 8).toNat + ((many : Int)).toNat then M1 43 (((0 : Int)).toNat + (k - ((D : Int) * 8).toNat)) else M1 a k) = _
    rw [n1, n2, n3, Nat.zero_add]
  have m2a : ∀ a, a ≠ 21 → M2 a = M1 a := fun a ha => funext (fun k => by rw [m2, if_neg (fun z => ha z.1)])
  have m1a : ∀ a, a ≠ 18 → a ≠ 19 → a ≠ 20 → M1 a = M a := fun a h1 h2 h3 => by
    show (up (up (up M 18 D e) 19 D t) 20 D (many : Int)) a = _
    rw [up_cell h3, up_cell h2, up_cell h1]
  have e17 : M2 17 4 = (D : Int) := by rw [m2a 17 (by decide), m1a 17 (by decide) (by decide) (by decide)]; exact hD
  refine ⟨up M2 17 4 ((D : Int) + 1), ?_, fun a h1 h2 h3 h4 h5 => by rw [up_cell h1, m2a a h5, m1a a h2 h3 h4], fun j hj => by rw [up_at hj, m2a 17 (by decide), m1a 17 (by decide) (by decide) (by decide)], by rw [up_same]; omega, fun i => ?_, fun i => ?_, fun i => ?_, fun i hi => ?_, fun i hi => ?_⟩
  · unfold f141_43
    rw [hD, if_pos (by omega), if_pos (by omega), if_pos (by omega), if_pos (by omega), if_pos (by omega), Int.toNat_natCast]
    show (if rg (M2 17 4 + 1) then some (M2 17 4, up M2 17 4 (M2 17 4 + 1)) else none) = _
    rw [e17, if_pos (by omega)]
  · rw [up_cell (by decide), m2a 18 (by decide)]
    show (up (up (up M 18 D e) 19 D t) 20 D (many : Int)) 18 i = _
    rw [up_cell (by decide), up_cell (by decide)]; simp [up]
  · rw [up_cell (by decide), m2a 19 (by decide)]
    show (up (up (up M 18 D e) 19 D t) 20 D (many : Int)) 19 i = _
    rw [up_cell (by decide)]; simp [up]
  · rw [up_cell (by decide), m2a 20 (by decide)]
    show (up (up (up M 18 D e) 19 D t) 20 D (many : Int)) 20 i = _
    simp [up]
  · rw [up_cell (by decide), m2, if_pos (by omega), m1a 43 (by decide) (by decide) (by decide), Nat.add_sub_cancel_left]
  · rw [up_cell (by decide), m2, if_neg (by omega), m1a 21 (by decide) (by decide) (by decide)]
theorem TyR_of {M : Mm} {R : Mm} (rt : RT R (tabC M)) (h10 : ∀ t : Nat, t < 10 → R 54 t = if t < 2 then (t : Int) else 2) (tC : TyC M) : TyR M R := by
  have := tC.1
  have c0 : (tabC M).1 = (M 1 3).toNat := rfl
  refine ⟨by rw [rt.1, c0]; omega, h10, fun t h1 h2 => ?_⟩
  exact rt.2 t h1 (by rw [c0]; omega)
theorem TyC_same {M M' : Mm} (h13 : M' 1 3 = M 1 3) (h : ∀ t : Nat, (t : Int) < M 1 3 → M' 2 t = M 2 t ∧ M' 3 t = M 3 t) (tC : TyC M) : TyC M' := by
  unfold TyC
  rw [h13]
  refine ⟨tC.1, fun t h1 h2 => ?_⟩
  rw [(h t h2).1, (h t h2).2]
  exact tC.2 t h1 h2
theorem TyV_same {M M' : Mm} (h13 : M' 1 3 = M 1 3) (h : ∀ t : Nat, (t : Int) < M 1 3 → M' 4 t = M 4 t ∧ M' 2 t = M 2 t ∧ M' 3 t = M 3 t) (tC : TyC M) (tV : TyV M) : TyV M' := by
  unfold TyV
  rw [h13]
  have := tC.1
  refine ⟨fun t ht => ?_, fun t h1 h2 => ?_⟩
  · rw [(h t (by omega)).1]; exact tV.1 t ht
  · have w := tC.2 t h1 h2
    rw [(h t h2).1, (h t h2).2.1, (h t h2).2.2, (h _ (by omega)).1, tV.2 t h1 h2]
    by_cases e : M 3 t = -1
    · rw [if_pos e, if_pos e]
    · rw [if_neg e, if_neg e, (h _ (by omega)).1]
/-- the tables with one definition more -/
theorem DfT_add {Mc Mr Nc Nr : Mm} {D m : Nat} (d : DfT Mc Mr) (hD : Mc 17 4 = (D : Int)) (h20 : D < 20) (c17 : Nc 17 4 = ((D + 1 : Nat) : Int)) (c5 : Nc 5 6 = Mc 5 6) (c13 : Mc 1 3 ≤ Nc 1 3)
    (old : ∀ g : Nat, g < D → Nr 68 g = Mr 68 g ∧ Nc 19 g = Mc 19 g ∧ Nr 70 g = Mr 70 g ∧ Nc 20 g = Mc 20 g ∧ Nr 69 g = Mr 69 g ∧ ∀ i, i < 8 → Nr 71 (8 * g + i) = Mr 71 (8 * g + i) ∧ Nc 21 (8 * g + i) = Mc 21 (8 * g + i)) (o4 : ∀ t : Nat, (t : Int) < Mc 1 3 → Nc 4 t = Mc 4 t)
    (n1 : Nr 68 D = Nc 19 D ∧ (0 ≤ Nc 19 D ∧ Nc 19 D < Nc 1 3)) (n2 : Nr 70 D = Nc 20 D ∧ 0 ≤ Nc 20 D ∧ Nc 20 D ≤ 8) (n3 : m ≤ 8 ∧ Nr 69 D = (m : Int) ∧ Nc 4 (Nc 19 D).toNat = ((2 ^ m - 1 : Nat) : Int)) (n4 : ∀ i : Nat, (i : Int) < Nc 20 D → Nr 71 (8 * D + i) = Nc 21 (8 * D + i) ∧ ∃ c v : Nat, Nc 21 (8 * D + i) = ((8 * c + v : Nat) : Int) ∧ v < m ∧ (c : Int) < Nc 5 6) : DfT Nc Nr := by
  refine ⟨by rw [c17]; omega, fun g hg => ?_⟩
  by_cases e : g = D
  · subst e
    exact ⟨n1.1, n1.2, n2, m, n3.1, n3.2.1, n3.2.2, n4⟩
  · have hg' : g < D := by omega
    obtain ⟨a1, a2, a3, a4, a5, a6⟩ := old g hg'
    obtain ⟨b1, b2, b3, m', b4, b5, b6, b7⟩ := d.2 g (by omega)
    rw [a1, a2, a3, a4, a5]
    refine ⟨b1, by omega, b3, m', b4, b5, by rw [o4 _ (by omega)]; exact b6, fun i hi => ?_⟩
    rw [(a6 i (by omega)).1, (a6 i (by omega)).2, c5]
    exact b7 i hi
theorem occ_top {Mc Mr : Mm} {S : Nat → Nat → Prop} {n n' k : Nat} {cs : List (Nat × Nat)} {ρ ρ' : Nat → Nat} {T : Nat → Ty} (h : Fin2 Mc Mr S n n' cs ρ ρ') (nm : Nm Mc Mr S n n' ρ ρ' k) (tg : TyG Mc n ρ T) (h2 : 2 < n) (h9 : ∀ P : Nat → Prop, P (ρ 2) → (∀ x m, P x → m ∈ psc Mc ρ x → P m) → ∀ y, y < n → Mc 31 y ≠ -2 → P y) : ∀ v : Nat, v < k → occ (v : Int) (T 2) := by
  intro v hv
  obtain ⟨c, w, c1, c2, c3, c4, c5, c6, c7⟩ := nm.2.2.1 v hv
  have hc := (T_lt c5).1
  have key := h9 (fun y => y < n ∧ ρ y = y ∧ ∀ i : Int, occ i (T y) → occ i (T 2)) ⟨(h.1.2.2 2 h2).1, (h.1.2.2 2 h2).2, fun i hi => by rw [tg.1 2 (ρ 2) (h.1.2.2 2 h2).2.symm]; exact hi⟩ (fun x m hx hm => by
    obtain ⟨x1, x2, x3⟩ := hx
    obtain ⟨g0, g1, g2, g3, g4, g5⟩ := tg.2 x x1
    rw [x2] at g3 g4
    have w := h.1.1.2.2.2 x x1
    unfold psc at hm
    by_cases k3 : Mc 26 x = 3
    · rw [if_pos k3] at hm
      have hm : m = ρ (Mc 27 x).toNat := by simpa using hm
      have w1 := w.2.1 (by omega)
      have r := h.1.2.2 (Mc 27 x).toNat (by omega)
      subst hm
      refine ⟨r.1, r.2, fun i hi => x3 i ?_⟩
      rw [g3 k3]
      rw [tg.1 _ _ r.2] at hi
      exact hi
    · rw [if_neg k3] at hm
      by_cases k4 : Mc 26 x = 4
      · rw [if_pos k4] at hm
        have hm : m = ρ (Mc 27 x).toNat ∨ m = ρ (Mc 28 x).toNat := by simpa using hm
        have w1 := w.2.1 (by omega)
        have w2 := w.2.2.2.1 k4
        rcases hm with hm | hm
        · have r := h.1.2.2 (Mc 27 x).toNat (by omega)
          subst hm
          refine ⟨r.1, r.2, fun i hi => x3 i ?_⟩
          rw [g4 k4]
          rw [tg.1 _ _ r.2] at hi
          exact Or.inl hi
        · have r := h.1.2.2 (Mc 28 x).toNat (by omega)
          subst hm
          refine ⟨r.1, r.2, fun i hi => x3 i ?_⟩
          rw [g4 k4]
          rw [tg.1 _ _ r.2] at hi
          exact Or.inr hi
      · rw [if_neg k4] at hm; simp at hm) c hc (by omega)
  refine key.2.2 (v : Int) ?_
  have g2 := (tg.2 c hc).2.2.1
  rw [c3] at g2
  rw [g2 c7]
  show lb Mc c = (v : Int)
  unfold lb
  rw [c6, if_neg (by omega)]
theorem occ_vlt {m v : Int} : ∀ (T : Ty), vOK T → vlt m T → occ v T → v < m
  | .nest w _, _, h, o => by have o : w = v := o; subst o; exact h.2
  | .group a _, k, h, o => occ_vlt a k.2 h o
  | .append a b, k, h, o => o.elim (occ_vlt a k.1 h.1) (occ_vlt b k.2 h.2)
  | .nil, _, _, o => o.elim
  | .line, _, _, o => o.elim
  | .align _, _, _, o => o.elim
  | .text _, _, _, o => o.elim
  | .tag _ _, _, _, o => o.elim
