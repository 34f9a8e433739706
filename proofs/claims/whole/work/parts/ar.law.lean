/-! The law's loop: every call agrees. -/
theorem Rel_one {M M1 M2 N1 : Mm} (h : Rel M1 M2) (hf : FrR N1 M2) (hn : ∀ a, a < 53 → N1 a = M1 a) : Rel M2 M2 := by
  obtain ⟨N, NT, st, ct, sp, t, df, mt, vr⟩ := id h
  have e : ∀ a, a < 53 → M2 a = M1 a := fun a ha => by rw [hf a (Or.inl ha), hn a ha]
  exact Rel_fr (fun a ha => e a (by omega)) (fun _ _ _ => rfl) (fun _ _ _ => rfl) (ValR_fr ⟨by rw [e 47 (by omega)], e 52 (by omega)⟩ ⟨rfl, rfl, rfl, rfl⟩ vr) h
theorem Rel_two {M N1 : Mm} (h : Rel M M) (hn : ∀ a, 53 ≤ a → a ≤ 108 → N1 a = M a) : Rel M N1 := by
  obtain ⟨N, NT, st, ct, sp, t, df, mt, vr⟩ := id h
  exact Rel_fr (fun _ _ => rfl) (fun a h1 h2 => hn a (by omega) (by omega)) (fun k _ _ => by rw [hn 53 (by omega) (by omega)]) (ValR_fr ⟨rfl, rfl⟩ ⟨by rw [hn 53 (by omega) (by omega)], by rw [hn 53 (by omega) (by omega)], by rw [hn 53 (by omega) (by omega)], hn 94 (by omega) (by omega)⟩ vr) h
theorem ad_le (k : Int) : ad k ≤ 1 := by
  unfold ad
  split <;> omega
section LAW
variable {M : Mm} {fC : Mm → Option (Int × Int × Mm)} {fR : Mm → Option (Int × Mm)} {K : Int → Mm → Int → Option (Int × Nat × Mm)} {q : Nat}
/-- both calls, one after the other, on the same cells -/
theorem law_all (rel : Rel M M) (hA : ∀ Mc Mr, Rel Mc Mr → Ans Mc Mr (fC Mc) (fR Mr)) : ∃ (k v : Int) (M1 : Mm), fC M = some (k, v, M1) ∧ (k = 0 ∨ k = 1 ∨ k = 2) ∧ ∀ N1 : Mm, (∀ a, a ≠ 109 → N1 a = M1 a) → ∃ (b : Int) (M2 : Mm), fR N1 = some (b, M2) ∧ M2 53 0 = k ∧ (k = 0 → b = v) ∧ Rel M2 M2 ∧ M2 109 = N1 109 := by
  obtain ⟨k, v, b0, M1, Mr0, h1, _, _, h2, _, _, fc, _⟩ := hA M M rel
  refine ⟨k, v, M1, h1, h2, fun N1 hN => ?_⟩
  have r2 : Rel M N1 := Rel_two rel (fun a a1 a2 => by rw [hN a (by omega), fc a a1])
  obtain ⟨k', v', b, M1', M2, g1, g2, g3, _, g4, g5, _, g6⟩ := hA M N1 r2
  rw [h1] at g1
  cases g1
  exact ⟨b, M2, g2, g3, g4, Rel_one (M := M) g5 g6 (fun a ha => hN a (by omega)), g6 109 (Or.inr (by omega))⟩
theorem law_one (rel : Rel M M) (hA : ∀ Mc Mr, Rel Mc Mr → Ans Mc Mr (fC Mc) (fR Mr)) (hK : ∀ M2 k b, Rel M2 M2 → ∃ n M', K k M2 b = some (1, n, M') ∧ n ≤ q) : ∃ n M', ((fC M).bind (fun zq2 => if zq2.1 = 0 then (some ((0 : Int), (up zq2.2.2 109 (Int.toNat 0) zq2.2.1))) else if zq2.1 = 1 then (some (1, zq2.2.2)) else (some (2, zq2.2.2)))).bind (fun z => adc z.1 ((fR z.2).bind (fun y => (f188 y.2).bind (fun u => if u = z.1 then (if ¬ z.1 = 0 then (K z.1 y.2 y.1) else (if (y.2 109 (Int.toNat 0)) = y.1 then (K z.1 y.2 y.1) else none)) else none)))) = some (1, n, M') ∧ n ≤ q + 1 := by
  obtain ⟨k, v, M1, h1, h2, h3⟩ := law_all rel hA
  have fin : ∀ N1 : Mm, (∀ a, a ≠ 109 → N1 a = M1 a) → (k = 0 → N1 109 0 = v) → ∃ n M', adc k ((fR N1).bind (fun y => (f188 y.2).bind (fun u => if u = k then (if ¬ k = 0 then (K k y.2 y.1) else (if (y.2 109 (Int.toNat 0)) = y.1 then (K k y.2 y.1) else none)) else none))) = some (1, n, M') ∧ n ≤ q + 1 := fun N1 hN h0 => by
    obtain ⟨b, M2, g1, g2, g3, g4, g5⟩ := h3 N1 hN
    obtain ⟨n, M', k1, k2⟩ := hK M2 k b g4
    have al := ad_le k
    refine ⟨ad k + n, M', ?_, by omega⟩
    rw [g1, bs_]
    unfold f188
    rw [bs_]
    dsimp only
    rw [if_pos g2]
    by_cases c : k = 0
    · have e : M2 109 (Int.toNat 0) = b := by
        show M2 109 0 = b
        rw [g5, h0 c, g3 c]
      rw [if_neg (fun z => z c), if_pos e, k1]
      rfl
    · rw [if_pos c, k1]
      rfl
  rw [h1, bs_]
  dsimp only
  rcases h2 with rfl | rfl | rfl
  · rw [if_pos rfl, bs_]
    exact fin _ (fun a ha => up_cell ha) (fun _ => up_same M1 109 0 v)
  · rw [if_neg (by decide), if_pos rfl, bs_]
    exact fin _ (fun a ha => rfl) (fun z => by omega)
  · rw [if_neg (by decide), if_neg (by decide), bs_]
    exact fin _ (fun a ha => rfl) (fun z => by omega)
theorem law_two (rel : Rel M M) (hA : ∀ Mc Mr, Rel Mc Mr → Ans Mc Mr (fC Mc) (fR Mr)) (h12 : ∀ M k v M1, fC M = some (k, v, M1) → k = 0 ∨ k = 1) (hK : ∀ M2 k b, Rel M2 M2 → ∃ n M', K k M2 b = some (1, n, M') ∧ n ≤ q) : ∃ n M', ((fC M).bind (fun zq2 => if zq2.1 = 0 then (some ((0 : Int), (up zq2.2.2 109 (Int.toNat 0) zq2.2.1))) else if zq2.1 = 1 then (some (1, zq2.2.2)) else none)).bind (fun z => adc z.1 ((fR z.2).bind (fun y => (f188 y.2).bind (fun u => if u = z.1 then (if ¬ z.1 = 0 then (K z.1 y.2 y.1) else (if (y.2 109 (Int.toNat 0)) = y.1 then (K z.1 y.2 y.1) else none)) else none)))) = some (1, n, M') ∧ n ≤ q + 1 := by
  obtain ⟨n, M', h, hn⟩ := law_one rel hA hK
  refine ⟨n, M', ?_, hn⟩
  rw [← h]
  congr 1
  cases e : fC M with
  | none => rfl
  | some r =>
    obtain ⟨k, v, M1⟩ := r
    rw [bs_, bs_]
    dsimp only
    rcases h12 M k v M1 e with rfl | rfl
    · rw [if_pos rfl, if_pos rfl]
    · rw [if_neg (by decide), if_pos rfl, if_neg (by decide), if_pos rfl]
theorem law_is (rel : Rel M M) (hA : ∀ Mc Mr, Rel Mc Mr → Ans Mc Mr (fC Mc) (fR Mr)) (h12 : ∀ M k v M1, fC M = some (k, v, M1) → k = 0 ∨ k = 1) (hK : ∀ M2 k b, Rel M2 M2 → ∃ n M', K k M2 b = some (1, n, M') ∧ n ≤ q) : ∃ n M', ((fC M).bind (fun zq2 => if zq2.1 = 0 then (if zq2.2.1 = 0 then (some ((0 : Int), (up zq2.2.2 109 (Int.toNat 0) 0))) else (some (0, (up zq2.2.2 109 (Int.toNat 0) 1)))) else if zq2.1 = 1 then (some (1, zq2.2.2)) else none)).bind (fun z => adc z.1 ((fR z.2).bind (fun y => (f188 y.2).bind (fun u => if u = z.1 then (if ¬ z.1 = 0 then (K z.1 y.2 y.1) else (if y.1 = 0 then (if (y.2 109 (Int.toNat 0)) = 0 then (K z.1 y.2 y.1) else none) else (if (y.2 109 (Int.toNat 0)) = 1 then (K z.1 y.2 y.1) else none))) else none)))) = some (1, n, M') ∧ n ≤ q + 1 := by
  obtain ⟨k, v, M1, h1, h2, h3⟩ := law_all rel hA
  have fin : ∀ N1 : Mm, (∀ a, a ≠ 109 → N1 a = M1 a) → (k = 0 → N1 109 0 = if v = 0 then 0 else 1) → ∃ n M', adc k ((fR N1).bind (fun y => (f188 y.2).bind (fun u => if u = k then (if ¬ k = 0 then (K k y.2 y.1) else (if y.1 = 0 then (if (y.2 109 (Int.toNat 0)) = 0 then (K k y.2 y.1) else none) else (if (y.2 109 (Int.toNat 0)) = 1 then (K k y.2 y.1) else none))) else none))) = some (1, n, M') ∧ n ≤ q + 1 := fun N1 hN h0 => by
    obtain ⟨b, M2, g1, g2, g3, g4, g5⟩ := h3 N1 hN
    obtain ⟨n, M', k1, k2⟩ := hK M2 k b g4
    have al := ad_le k
    refine ⟨ad k + n, M', ?_, by omega⟩
    rw [g1, bs_]
    unfold f188
    rw [bs_]
    dsimp only
    rw [if_pos g2]
    by_cases c : k = 0
    · have e : M2 109 (Int.toNat 0) = if v = 0 then 0 else 1 := by
        show M2 109 0 = _
        rw [g5, h0 c]
      have e2 := g3 c
      subst e2
      rw [if_neg (fun z => z c)]
      by_cases z : b = 0
      · rw [if_pos z] at e
        rw [if_pos z, if_pos e, k1]
        rfl
      · rw [if_neg z] at e
        rw [if_neg z, if_pos e, k1]
        rfl
    · rw [if_pos c, k1]
      rfl
  rw [h1, bs_]
  dsimp only
  rcases h12 M k v M1 h1 with rfl | rfl
  · rw [if_pos rfl]
    by_cases z : v = 0
    · rw [if_pos z, bs_]
      exact fin _ (fun a ha => up_cell ha) (fun _ => by rw [if_pos z]; exact up_same M1 109 0 0)
    · rw [if_neg z, bs_]
      exact fin _ (fun a ha => up_cell ha) (fun _ => by rw [if_neg z]; exact up_same M1 109 0 1)
  · rw [if_neg (by decide), if_pos rfl, bs_]
    exact fin _ (fun a ha => rfl) (fun z => by omega)
theorem law_num (rel : Rel M M) (hA : ∀ Mc Mr, Rel Mc Mr → AnsN Mc Mr (fC Mc) (fR Mr)) (hK : ∀ M2 k b, Rel M2 M2 → ∃ n M', K k M2 b = some (1, n, M') ∧ n ≤ q) : ∃ n M', ((fC M).bind (fun zq2 => if zq2.1 = 0 then (some ((0 : Int), (up zq2.2.2 109 (Int.toNat 0) zq2.2.1))) else if zq2.1 = 1 then none else (some (1, zq2.2.2)))).bind (fun z => adc z.1 ((fR z.2).bind (fun y => (f188 y.2).bind (fun u => if u = z.1 then (if ¬ z.1 = 0 then (K z.1 y.2 y.1) else (if (y.2 109 (Int.toNat 0)) = y.1 then (K z.1 y.2 y.1) else none)) else none)))) = some (1, n, M') ∧ n ≤ q + 1 := by
  obtain ⟨k, v, b0, M1, Mr0, h1, _, h2, _, _, fc, _⟩ := hA M M rel
  have fin : ∀ (N1 : Mm) (k2 : Int), (∀ a, a ≠ 109 → N1 a = M1 a) → (k = 0 → N1 109 0 = v) → ((k = 0 ∧ k2 = 0) ∨ (k = 2 ∧ k2 = 1)) → ∃ n M', adc k2 ((fR N1).bind (fun y => (f188 y.2).bind (fun u => if u = k2 then (if ¬ k2 = 0 then (K k2 y.2 y.1) else (if (y.2 109 (Int.toNat 0)) = y.1 then (K k2 y.2 y.1) else none)) else none))) = some (1, n, M') ∧ n ≤ q + 1 := fun N1 k2 hN h0 hk => by
    have r2 : Rel M N1 := Rel_two rel (fun a a1 a2 => by rw [hN a (by omega), fc a a1])
    obtain ⟨k', v', b, M1', M2, g1, g2, g3, g4, g5, _, g6⟩ := hA M N1 r2
    rw [h1] at g1
    cases g1
    have g7 := Rel_one (M := M) g5 g6 (fun a ha => hN a (by omega))
    have g8 : M2 109 = N1 109 := g6 109 (Or.inr (by omega))
    obtain ⟨n, M', u1, u2⟩ := hK M2 k2 b g7
    have al := ad_le k2
    refine ⟨ad k2 + n, M', ?_, by omega⟩
    have t : M2 53 0 = k2 := by omega
    rw [g2, bs_]
    unfold f188
    rw [bs_]
    dsimp only
    rw [if_pos t]
    by_cases c : k2 = 0
    · have k0 : k = 0 := by omega
      have e : M2 109 (Int.toNat 0) = b := by
        show M2 109 0 = b
        rw [g8, h0 k0, g4 k0]
      rw [if_neg (fun z => z c), if_pos e, u1]
      rfl
    · rw [if_pos c, u1]
      rfl
  rw [h1, bs_]
  dsimp only
  rcases h2 with ⟨rfl, _⟩ | ⟨rfl, _⟩
  · rw [if_pos rfl, bs_]
    exact fin _ _ (fun a ha => up_cell ha) (fun _ => up_same M1 109 0 v) (Or.inl ⟨rfl, rfl⟩)
  · rw [if_neg (by decide), if_neg (by decide), bs_]
    exact fin _ _ (fun a ha => rfl) (fun z => by omega) (Or.inr ⟨rfl, rfl⟩)
end LAW
theorem f144_12 {M M1 : Mm} {x y k v : Int} (h : f144 M x y = some (k, v, M1)) : k = 0 ∨ k = 1 := by
  unfold f144 at h
  obtain ⟨q2, _, h⟩ := Option.bind_eq_some_iff.mp h
  split at h
  · cases h; exact Or.inr rfl
  · split at h
    · cases h; exact Or.inr rfl
    · obtain ⟨q10, _, h⟩ := Option.bind_eq_some_iff.mp h
      split at h
      · split at h
        · cases h; exact Or.inr rfl
        · split at h
          · split at h
            · obtain ⟨q21, _, h⟩ := Option.bind_eq_some_iff.mp h
              cases h; exact Or.inl rfl
            · obtain ⟨q21, _, h⟩ := Option.bind_eq_some_iff.mp h
              cases h; exact Or.inl rfl
          · obtain ⟨q21, _, h⟩ := Option.bind_eq_some_iff.mp h
            cases h; exact Or.inl rfl
      · cases h
theorem f146_12 {M M1 : Mm} {x y k v : Int} (h : f146 M x y = some (k, v, M1)) : k = 0 ∨ k = 1 := by
  unfold f146 at h
  obtain ⟨q2, _, h⟩ := Option.bind_eq_some_iff.mp h
  split at h
  · cases h; exact Or.inr rfl
  · obtain ⟨q9, _, h⟩ := Option.bind_eq_some_iff.mp h
    split at h
    · cases h; exact Or.inr rfl
    · obtain ⟨q17, _, h⟩ := Option.bind_eq_some_iff.mp h
      split at h
      · cases h; exact Or.inl rfl
      · cases h
theorem f184_12 {M M1 : Mm} {x k v : Int} (h : f184 M x = some (k, v, M1)) : k = 0 ∨ k = 1 := by
  unfold f184 at h
  obtain ⟨q2, _, h⟩ := Option.bind_eq_some_iff.mp h
  split at h
  · cases h; exact Or.inr rfl
  · obtain ⟨q9, _, h⟩ := Option.bind_eq_some_iff.mp h
    cases h; exact Or.inl rfl
/-- the law's loop says yes -/
theorem law_loop {L : Nat} {xs : Nat → Int32} (hL : L ≤ 3584) : ∀ (c f : Nat) (M : Mm) (x4 : Int), (L : Int) - 7 < x4 + 7 * (c : Int) → 0 ≤ x4 → x4 ≤ (L : Int) → 3 * c + 1 ≤ f → Rel M M → ∃ n M', l0 L xs f 23 M x4 0 0 = some (1, n, M') ∧ n ≤ c := by
  intro c
  induction c with
  | zero =>
    intro f M x4 h1 h2 h3 hf rel
    obtain ⟨f, rfl⟩ : ∃ f', f = f' + 1 := ⟨f - 1, by omega⟩
    exact ⟨0, M, by rw [l0, if_pos (by unfold rg; omega), if_pos (by omega)], Nat.le_refl _⟩
  | succ c ih =>
    intro f M x4 h1 h2 h3 hf rel
    obtain ⟨f, rfl⟩ : ∃ f', f = f' + 1 := ⟨f - 1, by omega⟩
    by_cases e : (L : Int) - 7 < x4
    · exact ⟨0, M, by rw [l0, if_pos (by unfold rg; omega), if_pos e], Nat.zero_le _⟩
    · obtain ⟨g, rfl⟩ : ∃ g, f = g + 2 := ⟨f - 2, by omega⟩
      have nxt : ∀ M2, Rel M2 M2 → ∃ n M', l0 L xs (g + 1) 1229 M2 x4 0 0 = some (1, n, M') ∧ n ≤ c := fun M2 r2 => by
        rw [l0, if_pos (by unfold rg; omega)]
        exact ih g M2 (x4 + 7) (by omega) (by omega) (by omega) (by omega) r2
      have go : ∀ lab : Nat, (∀ (f : Nat) (M : Mm) (k b : Int), l0 L xs (f + 1) lab M x4 k b = l0 L xs f 1229 M x4 0 0) → ∀ M2 (k b : Int), Rel M2 M2 → ∃ n M', l0 L xs (g + 2) lab M2 x4 k b = some (1, n, M') ∧ n ≤ c := fun lab h M2 k b r2 => by
        rw [h]
        exact nxt M2 r2
      rw [l0, if_pos (by unfold rg; omega), if_neg e, if_pos (show 0 ≤ x4 ∧ x4 < (L : Int) by omega)]
      by_cases m0 : bAnd ((xs (Int.toNat x4)).toInt) 31 = 0
      · rw [if_pos m0, if_pos (show 0 ≤ x4 + 1 ∧ x4 + 1 < (L : Int) by omega)]
        exact law_one rel (fC := fun M => f16 M ((xs (Int.toNat (x4 + 1))).toInt)) (fR := fun M => f189 M ((xs (Int.toNat (x4 + 1))).toInt)) (fun Mc Mr r => list_ok r ((xs (Int.toNat (x4 + 1))).toInt)) (K := fun k M2 b => l0 L xs (g + 2) 177 M2 x4 k b) (go 177 (fun f M k b => by rw [l0]))
      rw [if_neg m0]
      by_cases m1 : bAnd ((xs (Int.toNat x4)).toInt) 31 = 1
      · rw [if_pos m1, if_pos (show 0 ≤ x4 + 1 ∧ x4 + 1 < (L : Int) by omega), if_pos (show 0 ≤ x4 + 2 ∧ x4 + 2 < (L : Int) by omega)]
        exact law_one rel (fC := fun M => f23 M ((xs (Int.toNat (x4 + 1))).toInt) ((xs (Int.toNat (x4 + 2))).toInt)) (fR := fun M => f193 M ((xs (Int.toNat (x4 + 1))).toInt) ((xs (Int.toNat (x4 + 2))).toInt)) (fun Mc Mr r => fun_ok r ((xs (Int.toNat (x4 + 1))).toInt) ((xs (Int.toNat (x4 + 2))).toInt)) (K := fun k M2 b => l0 L xs (g + 2) 245 M2 x4 k b) (go 245 (fun f M k b => by rw [l0]))
      rw [if_neg m1]
      by_cases m2 : bAnd ((xs (Int.toNat x4)).toInt) 31 = 2
      · rw [if_pos m2, if_pos (show 0 ≤ x4 + 1 ∧ x4 + 1 < (L : Int) by omega)]
        exact law_one rel (fC := fun M => f25 M ((xs (Int.toNat (x4 + 1))).toInt)) (fR := fun M => f194 M ((xs (Int.toNat (x4 + 1))).toInt)) (fun Mc Mr r => type_call r ((xs (Int.toNat (x4 + 1))).toInt)) (K := fun k M2 b => l0 L xs (g + 2) 301 M2 x4 k b) (go 301 (fun f M k b => by rw [l0]))
      rw [if_neg m2]
      by_cases m3 : bAnd ((xs (Int.toNat x4)).toInt) 31 = 3
      · rw [if_pos m3, if_pos (show 0 ≤ x4 + 1 ∧ x4 + 1 < (L : Int) by omega), if_pos (show 0 ≤ x4 + 2 ∧ x4 + 2 < (L : Int) by omega)]
        exact law_one rel (fC := fun M => f30 M ((xs (Int.toNat (x4 + 1))).toInt) ((xs (Int.toNat (x4 + 2))).toInt)) (fR := fun M => f196 M ((xs (Int.toNat (x4 + 1))).toInt) ((xs (Int.toNat (x4 + 2))).toInt)) (fun Mc Mr r => meth_call r ((xs (Int.toNat (x4 + 1))).toInt) ((xs (Int.toNat (x4 + 2))).toInt)) (K := fun k M2 b => l0 L xs (g + 2) 369 M2 x4 k b) (go 369 (fun f M k b => by rw [l0]))
      rw [if_neg m3]
      by_cases m4 : bAnd ((xs (Int.toNat x4)).toInt) 31 = 4
      · rw [if_pos m4, if_pos (show 0 ≤ x4 + 1 ∧ x4 + 1 < (L : Int) by omega)]
        exact law_num rel (fC := fun M => f37 M ((xs (Int.toNat (x4 + 1))).toInt)) (fR := fun M => f200 M ((xs (Int.toNat (x4 + 1))).toInt)) (fun Mc Mr r => num_call r ((xs (Int.toNat (x4 + 1))).toInt)) (K := fun k M2 b => l0 L xs (g + 2) 425 M2 x4 k b) (go 425 (fun f M k b => by rw [l0]))
      rw [if_neg m4]
      by_cases m5 : bAnd ((xs (Int.toNat x4)).toInt) 31 = 5
      · rw [if_pos m5, if_pos (show 0 ≤ x4 + 1 ∧ x4 + 1 < (L : Int) by omega)]
        exact law_one rel (fC := fun M => f43 M ((xs (Int.toNat (x4 + 1))).toInt)) (fR := fun M => f202 M ((xs (Int.toNat (x4 + 1))).toInt)) (fun Mc Mr r => prim_call r ((xs (Int.toNat (x4 + 1))).toInt)) (K := fun k M2 b => l0 L xs (g + 2) 481 M2 x4 k b) (go 481 (fun f M k b => by rw [l0]))
      rw [if_neg m5]
      by_cases m6 : bAnd ((xs (Int.toNat x4)).toInt) 31 = 6
      · rw [if_pos m6, if_pos (show 0 ≤ x4 + 1 ∧ x4 + 1 < (L : Int) by omega)]
        exact law_one rel (fC := fun M => f45 M ((xs (Int.toNat (x4 + 1))).toInt)) (fR := fun M => f204 M ((xs (Int.toNat (x4 + 1))).toInt)) (fun Mc Mr r => local_call r ((xs (Int.toNat (x4 + 1))).toInt)) (K := fun k M2 b => l0 L xs (g + 2) 537 M2 x4 k b) (go 537 (fun f M k b => by rw [l0]))
      rw [if_neg m6]
      by_cases m7 : bAnd ((xs (Int.toNat x4)).toInt) 31 = 7
      · rw [if_pos m7, if_pos (show 0 ≤ x4 + 1 ∧ x4 + 1 < (L : Int) by omega)]
        exact law_one rel (fC := fun M => f47 M ((xs (Int.toNat (x4 + 1))).toInt)) (fR := fun M => f205 M ((xs (Int.toNat (x4 + 1))).toInt)) (fun Mc Mr r => lam_call r ((xs (Int.toNat (x4 + 1))).toInt)) (K := fun k M2 b => l0 L xs (g + 2) 593 M2 x4 k b) (go 593 (fun f M k b => by rw [l0]))
      rw [if_neg m7]
      by_cases m8 : bAnd ((xs (Int.toNat x4)).toInt) 31 = 8
      · rw [if_pos m8, if_pos (show 0 ≤ x4 + 1 ∧ x4 + 1 < (L : Int) by omega), if_pos (show 0 ≤ x4 + 2 ∧ x4 + 2 < (L : Int) by omega)]
        exact law_one rel (fC := fun M => f50 M ((xs (Int.toNat (x4 + 1))).toInt) ((xs (Int.toNat (x4 + 2))).toInt)) (fR := fun M => f207 M ((xs (Int.toNat (x4 + 1))).toInt) ((xs (Int.toNat (x4 + 2))).toInt)) (fun Mc Mr r => app_call r ((xs (Int.toNat (x4 + 1))).toInt) ((xs (Int.toNat (x4 + 2))).toInt)) (K := fun k M2 b => l0 L xs (g + 2) 661 M2 x4 k b) (go 661 (fun f M k b => by rw [l0]))
      rw [if_neg m8]
      by_cases m9 : bAnd ((xs (Int.toNat x4)).toInt) 31 = 9
      · rw [if_pos m9, if_pos (show 0 ≤ x4 + 1 ∧ x4 + 1 < (L : Int) by omega), if_pos (show 0 ≤ x4 + 2 ∧ x4 + 2 < (L : Int) by omega)]
        exact law_one rel (fC := fun M => f52 M ((xs (Int.toNat (x4 + 1))).toInt) ((xs (Int.toNat (x4 + 2))).toInt)) (fR := fun M => f208 M ((xs (Int.toNat (x4 + 1))).toInt) ((xs (Int.toNat (x4 + 2))).toInt)) (fun Mc Mr r => use_call r ((xs (Int.toNat (x4 + 1))).toInt) ((xs (Int.toNat (x4 + 2))).toInt)) (K := fun k M2 b => l0 L xs (g + 2) 729 M2 x4 k b) (go 729 (fun f M k b => by rw [l0]))
      rw [if_neg m9]
      by_cases m10 : bAnd ((xs (Int.toNat x4)).toInt) 31 = 10
      · rw [if_pos m10, if_pos (show 0 ≤ x4 + 1 ∧ x4 + 1 < (L : Int) by omega)]
        exact law_one rel (fC := fun M => f55 M ((xs (Int.toNat (x4 + 1))).toInt)) (fR := fun M => f209 M ((xs (Int.toNat (x4 + 1))).toInt)) (fun Mc Mr r => given_call r ((xs (Int.toNat (x4 + 1))).toInt)) (K := fun k M2 b => l0 L xs (g + 2) 785 M2 x4 k b) (go 785 (fun f M k b => by rw [l0]))
      rw [if_neg m10]
      by_cases m11 : bAnd ((xs (Int.toNat x4)).toInt) 31 = 11
      · rw [if_pos m11, if_pos (show 0 ≤ x4 + 1 ∧ x4 + 1 < (L : Int) by omega), if_pos (show 0 ≤ x4 + 2 ∧ x4 + 2 < (L : Int) by omega), if_pos (show 0 ≤ x4 + 3 ∧ x4 + 3 < (L : Int) by omega), if_pos (show 0 ≤ x4 + 4 ∧ x4 + 4 < (L : Int) by omega), if_pos (show 0 ≤ x4 + 5 ∧ x4 + 5 < (L : Int) by omega), if_pos (show 0 ≤ x4 + 6 ∧ x4 + 6 < (L : Int) by omega)]
        exact law_one rel (fC := fun M => f58 M ((xs (Int.toNat (x4 + 1))).toInt) ((xs (Int.toNat (x4 + 2))).toInt) ((xs (Int.toNat (x4 + 3))).toInt) ((xs (Int.toNat (x4 + 4))).toInt) ((xs (Int.toNat (x4 + 5))).toInt) ((xs (Int.toNat (x4 + 6))).toInt)) (fR := fun M => f237 M ((xs (Int.toNat (x4 + 1))).toInt) ((xs (Int.toNat (x4 + 2))).toInt) ((xs (Int.toNat (x4 + 3))).toInt) ((xs (Int.toNat (x4 + 4))).toInt) ((xs (Int.toNat (x4 + 5))).toInt) ((xs (Int.toNat (x4 + 6))).toInt)) (fun Mc Mr r => inst_ok r ((xs (Int.toNat (x4 + 1))).toInt) ((xs (Int.toNat (x4 + 2))).toInt) ((xs (Int.toNat (x4 + 3))).toInt) ((xs (Int.toNat (x4 + 4))).toInt) ((xs (Int.toNat (x4 + 5))).toInt) ((xs (Int.toNat (x4 + 6))).toInt)) (K := fun k M2 b => l0 L xs (g + 2) 903 M2 x4 k b) (go 903 (fun f M k b => by rw [l0]))
      rw [if_neg m11]
      by_cases m12 : bAnd ((xs (Int.toNat x4)).toInt) 31 = 12
      · rw [if_pos m12, if_pos (show 0 ≤ x4 + 1 ∧ x4 + 1 < (L : Int) by omega)]
        exact law_one rel (fC := fun M => f126 M ((xs (Int.toNat (x4 + 1))).toInt)) (fR := fun M => f210 M ((xs (Int.toNat (x4 + 1))).toInt)) (fun Mc Mr r => def_call r ((xs (Int.toNat (x4 + 1))).toInt)) (K := fun k M2 b => l0 L xs (g + 2) 959 M2 x4 k b) (go 959 (fun f M k b => by rw [l0]))
      rw [if_neg m12]
      by_cases m13 : bAnd ((xs (Int.toNat x4)).toInt) 31 = 13
      · rw [if_pos m13, if_pos (show 0 ≤ x4 + 1 ∧ x4 + 1 < (L : Int) by omega), if_pos (show 0 ≤ x4 + 2 ∧ x4 + 2 < (L : Int) by omega)]
        exact law_two rel (fC := fun M => f144 M ((xs (Int.toNat (x4 + 1))).toInt) ((xs (Int.toNat (x4 + 2))).toInt)) (fR := fun M => f236 M ((xs (Int.toNat (x4 + 1))).toInt) ((xs (Int.toNat (x4 + 2))).toInt)) (fun Mc Mr r => sch_ok r (x := ((xs (Int.toNat (x4 + 1))).toInt)) (iz_rg _)) (fun M k v M1 h => f144_12 h) (K := fun k M2 b => l0 L xs (g + 2) 1027 M2 x4 k b) (go 1027 (fun f M k b => by rw [l0]))
      rw [if_neg m13]
      by_cases m14 : bAnd ((xs (Int.toNat x4)).toInt) 31 = 14
      · rw [if_pos m14, if_pos (show 0 ≤ x4 + 1 ∧ x4 + 1 < (L : Int) by omega), if_pos (show 0 ≤ x4 + 2 ∧ x4 + 2 < (L : Int) by omega)]
        exact law_is rel (fC := fun M => f146 M ((xs (Int.toNat (x4 + 1))).toInt) ((xs (Int.toNat (x4 + 2))).toInt)) (fR := fun M => f199 M ((xs (Int.toNat (x4 + 1))).toInt) ((xs (Int.toNat (x4 + 2))).toInt)) (fun Mc Mr r => is_call r ((xs (Int.toNat (x4 + 1))).toInt) ((xs (Int.toNat (x4 + 2))).toInt)) (fun M k v M1 h => f146_12 h) (K := fun k M2 b => l0 L xs (g + 2) 1102 M2 x4 k b) (go 1102 (fun f M k b => by rw [l0]))
      rw [if_neg m14]
      by_cases m15 : bAnd ((xs (Int.toNat x4)).toInt) 31 = 15
      · rw [if_pos m15, if_pos (show 0 ≤ x4 + 1 ∧ x4 + 1 < (L : Int) by omega), if_pos (show 0 ≤ x4 + 2 ∧ x4 + 2 < (L : Int) by omega)]
        exact law_one rel (fC := fun M => f149 M ((xs (Int.toNat (x4 + 1))).toInt) ((xs (Int.toNat (x4 + 2))).toInt)) (fR := fun M => f241 M ((xs (Int.toNat (x4 + 1))).toInt) ((xs (Int.toNat (x4 + 2))).toInt)) (fun Mc Mr r => run_ok r ((xs (Int.toNat (x4 + 1))).toInt) ((xs (Int.toNat (x4 + 2))).toInt)) (K := fun k M2 b => l0 L xs (g + 2) 1170 M2 x4 k b) (go 1170 (fun f M k b => by rw [l0]))
      rw [if_neg m15]
      by_cases m16 : bAnd ((xs (Int.toNat x4)).toInt) 31 = 16
      · rw [if_pos m16, if_pos (show 0 ≤ x4 + 1 ∧ x4 + 1 < (L : Int) by omega)]
        exact law_two rel (fC := fun M => f184 M ((xs (Int.toNat (x4 + 1))).toInt)) (fR := fun M => f253 M ((xs (Int.toNat (x4 + 1))).toInt)) (fun Mc Mr r => val_ok r ((xs (Int.toNat (x4 + 1))).toInt)) (fun M k v M1 h => f184_12 h) (K := fun k M2 b => l0 L xs (g + 2) 1226 M2 x4 k b) (go 1226 (fun f M k b => by rw [l0]))
      rw [if_neg m16]
      rw [l0, if_pos (by unfold rg; omega)]
      obtain ⟨n, M', q1, q2⟩ := ih (g + 1) M (x4 + 7) (by omega) (by omega) (by omega) (by omega) rel
      exact ⟨n, M', q1, by omega⟩
