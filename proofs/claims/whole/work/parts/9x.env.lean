/-! Run: new environments there; both at once. -/
theorem l245_g {Ma : Mm} {g cnt ne w U η : Nat} {x1 x2 x3 x4 : Int} (hg : g < 20) (hc : Ma 69 g = (cnt : Int)) (hc8 : cnt ≤ 8) (hne : Ma 53 68 = (ne : Int)) (hne2 : ne < 400) (hU : U < 4440) (h71 : Ma 53 71 = (w : Int)) (hw : w < 2000) (d : Nat) : ∀ (x f : Nat) (M : Mm), x + d = cnt → d < f → (∀ a, a ≠ 101 → a ≠ 102 → M a = Ma a) → (∀ j, j < 8 * ne → M 101 j = Ma 101 j ∧ M 102 j = Ma 102 j) → (∀ v, v < x → M 101 (8 * ne + v) = Ma 72 (8 * U + v) ∧ M 102 (8 * ne + v) = (η : Int)) →
    ∃ M' : Mm, l245 f 409 M x1 x2 x3 x4 (η : Int) ((8 * U : Nat) : Int) (g : Int) (x : Int) = some (0, ptk (up M' 53 68 ((ne : Int) + 1)) w 0 (g : Int) (Ma 67 g) 0 (-1) (ne : Int)) ∧ (∀ a, a ≠ 101 → a ≠ 102 → M' a = Ma a) ∧ (∀ j, j < 8 * ne → M' 101 j = Ma 101 j ∧ M' 102 j = Ma 102 j) ∧ ∀ v, v < cnt → M' 101 (8 * ne + v) = Ma 72 (8 * U + v) ∧ M' 102 (8 * ne + v) = (η : Int) := by
  induction d with
  | zero =>
    intro x f M hx hf e1 e2 e3
    obtain ⟨f, rfl⟩ : ∃ f', f = f' + 1 := ⟨f - 1, by omega⟩
    refine ⟨M, ?_, e1, e2, fun v hv => e3 v (by omega)⟩
    have q : up M 53 68 ((ne : Int) + 1) 53 71 = (w : Int) := by rw [up_at (by decide), e1 53 (by decide) (by decide)]; exact h71
    rw [l245, if_pos (by omega), Int.toNat_natCast, e1 69 (by decide) (by decide), hc, if_pos (by omega), if_pos (by rw [e1 53 (by decide) (by decide), hne]; unfold rg; omega), if_pos (by rw [e1 53 (by decide) (by decide), hne]; unfold rg; omega), e1 53 (by decide) (by decide), hne, show (ne : Int) + 1 - 1 = (ne : Int) by omega, f243_eq q hw, bs_, e1 67 (by decide) (by decide)]
  | succ d ih =>
    intro x f M hx hf e1 e2 e3
    obtain ⟨f, rfl⟩ : ∃ f', f = f' + 1 := ⟨f - 1, by omega⟩
    obtain ⟨M', r1, r2⟩ := ih (x + 1) f (up (up M 101 (8 * ne + x) (Ma 72 (8 * U + x))) 102 (8 * ne + x) (η : Int)) (by omega) (by omega) (fun a h1 h2 => by rw [up_cell h2, up_cell h1]; exact e1 a h1 h2) (fun j hj => by rw [up_cell (by decide), up_at (by omega), up_at (by omega), up_cell (by decide)]; exact e2 j hj) (fun v hv => by
      by_cases z : v = x
      · subst z; rw [up_cell (by decide), up_same, up_same]; exact ⟨rfl, rfl⟩
      · rw [up_cell (by decide), up_at (by omega), up_at (by omega), up_cell (by decide)]; exact e3 v (by omega))
    refine ⟨M', ?_, r2⟩
    have i1 : Int.toNat (((8 * U : Nat) : Int) + (x : Int)) = 8 * U + x := by omega
    have i2 : Int.toNat ((8 : Int) * (ne : Int) + (x : Int)) = 8 * ne + x := by omega
    rw [l245, if_pos (by omega), Int.toNat_natCast, e1 69 (by decide) (by decide), hc, if_neg (by omega), if_pos (by omega), if_pos (by rw [e1 53 (by decide) (by decide), hne]; omega), if_pos (by unfold rg; omega), e1 53 (by decide) (by decide), hne, i1, i2, e1 72 (by decide) (by decide)]
    exact r1
section ENV
variable {M0 R0 : Mm} {N NT : Nat} {G : Nat → UGt} {Mc Mr Mc' Mr' : Mm} {φ : Nat → Nat} {τ : Nat → Ty} {κ : Nat → Nat × Nat × Nat} {Es : Nat → Int → Ty} {n m nf ne : Nat}
/-- a new frame here, a new environment there -/
theorem Bas_env {σ : Int → Ty} (b : Bas M0 R0 N NT G Mc Mr φ τ κ Es n m nf ne) (h1 : ∀ a, a ≠ 47 → a ≠ 48 → a ≠ 50 → a ≠ 51 → Mc' a = Mc a) (h16 : Mc' 47 16 = Mc 47 16) (h48 : Mc' 48 2 = Mc 48 2) (h483 : Mc' 48 3 = ((nf + 1 : Nat) : Int)) (h50 : ∀ j, j < 8 * nf → Mc' 50 j = Mc 50 j) (hfb : ∀ v : Nat, v < 8 → 0 ≤ Mc' 50 (8 * nf + v) ∧ Mc' 50 (8 * nf + v) ≤ 800000 * ((nf : Int) + 1)) (h2 : ∀ a, a ≠ 53 → a ≠ 101 → a ≠ 102 → (a < 103 ∨ 108 < a) → Mr' a = Mr a) (h3 : ∀ j, (j < 58 ∨ j = 61) → Mr' 53 j = Mr 53 j) (h68 : Mr' 53 68 = ((ne + 1 : Nat) : Int)) (h101 : ∀ j, j < 8 * ne → Mr' 101 j = Mr 101 j ∧ Mr' 102 j = Mr 102 j) (hσ : ∀ v : Int, σ v = tF tI tI ∨ ∃ w t η' : Nat, v = (w : Int) ∧ w < 8 ∧ Mr' 101 (8 * ne + w) = (t : Int) ∧ Mr' 102 (8 * ne + w) = (η' : Int) ∧ t < NT ∧ η' < ne ∧ σ v = sub (Es η') (trm Mr t)) : Bas M0 R0 N NT G Mc' Mr' φ τ κ (fu Es ne σ) n m (nf + 1) (ne + 1) ∧ Grw Mc Mr φ τ κ Es n m nf ne Mc' Mr' φ τ κ (fu Es ne σ) n m (nf + 1) (ne + 1) := by
  obtain ⟨⟨s1, s2, s3, s4⟩, ⟨c1, c2, c3, c4⟩, ew, fb, ck⟩ := b
  have g : Grw Mc Mr φ τ κ Es n m nf ne Mc' Mr' φ τ κ (fu Es ne σ) n m (nf + 1) (ne + 1) := ⟨⟨Nat.le_refl _, Nat.le_refl _, by omega, by omega⟩, fun _ _ => by rw [h1 49 (by decide) (by decide) (by decide) (by decide)], fun j hj => h50 j hj, fun a _ b1 b2 _ => by rw [h2 a (by omega) (by omega) (by omega) (by omega)], fun _ _ => ⟨rfl, rfl, rfl⟩, fun η hη => fu_ne (by omega)⟩
  have tr : ∀ t, trm Mr' t = trm Mr t := trm_fr (h2 73 (by decide) (by decide) (by decide) (by omega)) (h2 74 (by decide) (by decide) (by decide) (by omega)) (h2 75 (by decide) (by decide) (by decide) (by omega))
  refine ⟨⟨⟨fun a ha => by rw [h1 a (by omega) (by omega) (by omega) (by omega)]; exact s1 a ha, by rw [h16]; exact s2, fun a ha => by rw [h2 a (by omega) (by omega) (by omega) (by omega)]; exact s3 a ha, fun j hj => by rw [h3 j (by omega)]; exact s4 j hj⟩, ⟨by rw [h48]; exact c1, h483, by rw [h3 61 (by omega)]; exact c3, h68⟩, fun η hη v => ?_, fun f v hf hv => ?_, fun i hi => COK_grow g hi (ck i hi)⟩, g⟩
  · by_cases e : η = ne
    · subst e
      rw [fu_eq]
      rcases hσ v with z | ⟨w, t, η', z1, z2, z3, z4, z5, z6, z7⟩
      · exact Or.inl z
      · exact Or.inr ⟨w, t, η', z1, z2, z3, z4, z5, z6, by rw [fu_ne (by omega), tr]; exact z7⟩
    · rw [fu_ne e]
      rcases ew η (by omega) v with z | ⟨w, t, η', z1, z2, z3, z4, z5, z6, z7⟩
      · exact Or.inl z
      · exact Or.inr ⟨w, t, η', z1, z2, by rw [(h101 _ (by omega)).1]; exact z3, by rw [(h101 _ (by omega)).2]; exact z4, z5, z6, by rw [fu_ne (by omega), tr]; exact z7⟩
  · by_cases e : f = nf
    · subst e
      exact hfb v hv
    · rw [h50 _ (by omega)]
      exact fb f v (by omega) hv
end ENV
