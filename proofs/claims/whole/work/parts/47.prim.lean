/-! From a state on: more nodes; what a primitive's type is, here and there. -/
def Cg (M M' : Mm) (n : Nat) : Prop := (∀ a, a < 25 ∨ (29 < a ∧ a ≠ 33 ∧ ¬ (40 ≤ a ∧ a ≤ 41)) → M' a = M a) ∧ (∀ k, k ≠ 8 → M' 25 k = M 25 k) ∧ ∀ x, x < n → M' 26 x = M 26 x ∧ M' 27 x = M 27 x ∧ M' 28 x = M 28 x
def Rg (M M' : Mm) (n : Nat) : Prop := (∀ a, a ≠ 53 → ¬ (76 ≤ a ∧ a ≤ 80) → ¬ (82 ≤ a ∧ a ≤ 83) → M' a = M a) ∧ (∀ k, k ≠ 28 → M' 53 k = M 53 k) ∧ ∀ x, x < n → M' 76 x = M 76 x ∧ M' 77 x = M 77 x ∧ M' 78 x = M 78 x
theorem Cg_refl (M : Mm) (n : Nat) : Cg M M n := ⟨fun _ _ => rfl, fun _ _ => rfl, fun _ _ => ⟨rfl, rfl, rfl⟩⟩
theorem Rg_refl (M : Mm) (n : Nat) : Rg M M n := ⟨fun _ _ _ _ => rfl, fun _ _ => rfl, fun _ _ => ⟨rfl, rfl, rfl⟩⟩
theorem Cg_trans {M M1 M2 : Mm} {n n1 : Nat} (a : Cg M M1 n) (b : Cg M1 M2 n1) (h : n ≤ n1) : Cg M M2 n :=
  ⟨fun c hc => (b.1 c hc).trans (a.1 c hc), fun k hk => (b.2.1 k hk).trans (a.2.1 k hk), fun x hx => ⟨(b.2.2 x (by omega)).1.trans (a.2.2 x hx).1, (b.2.2 x (by omega)).2.1.trans (a.2.2 x hx).2.1, (b.2.2 x (by omega)).2.2.trans (a.2.2 x hx).2.2⟩⟩
theorem Rg_trans {M M1 M2 : Mm} {n n1 : Nat} (a : Rg M M1 n) (b : Rg M1 M2 n1) (h : n ≤ n1) : Rg M M2 n :=
  ⟨fun c h1 h2 h3 => (b.1 c h1 h2 h3).trans (a.1 c h1 h2 h3), fun k hk => (b.2.1 k hk).trans (a.2.1 k hk), fun x hx => ⟨(b.2.2 x (by omega)).1.trans (a.2.2 x hx).1, (b.2.2 x (by omega)).2.1.trans (a.2.2 x hx).2.1, (b.2.2 x (by omega)).2.2.trans (a.2.2 x hx).2.2⟩⟩
theorem Cg_nn {M M' : Mm} {n : Nat} (h : nnw M M' n) : Cg M M' n := ⟨fun a ha => h.1 a (by omega) (by omega) (by omega) (by omega) (by omega), h.2.1, fun x hx => ⟨(h.2.2 x hx).1, (h.2.2 x hx).2.1, (h.2.2 x hx).2.2.1⟩⟩
theorem Rg_nn {M M' : Mm} {n : Nat} (h : nnr M M' n) : Rg M M' n := ⟨fun a h1 h2 h3 => h.1 a h1 (by omega) (by omega) (by omega) (by omega), h.2.1, fun x hx => ⟨(h.2.2 x hx).1, (h.2.2 x hx).2.1, (h.2.2 x hx).2.2.1⟩⟩
theorem Cg_j {M M' : Mm} {n : Nat} (h : frj M M' n) : Cg M M' n := by
  refine ⟨fun a ha => h.1 a (by omega) (by omega), fun k _ => by rw [h.1 25 (by decide) (by decide)], fun x _ => ?_⟩
  rw [h.1 26 (by decide) (by decide), h.1 27 (by decide) (by decide), h.1 28 (by decide) (by decide)]
  exact ⟨rfl, rfl, rfl⟩
theorem Rg_j {M M' : Mm} {n : Nat} (h : frr M M' n) : Rg M M' n := by
  refine ⟨fun a h1 h2 h3 => h.1 a (by omega) (by omega), fun k _ => by rw [h.1 53 (by decide) (by decide)], fun x _ => ?_⟩
  rw [h.1 76 (by decide) (by decide), h.1 77 (by decide) (by decide), h.1 78 (by decide) (by decide)]
  exact ⟨rfl, rfl, rfl⟩
def Inc (Mc0 Mr0 : Mm) (S0 : Nat → Nat → Prop) (n0 n0' : Nat) (Mc Mr : Mm) (S : Nat → Nat → Prop) (n n' : Nat) (cs : List (Nat × Nat)) : Prop := Tw Mc Mr S n n' cs ∧ Cg Mc0 Mc n0 ∧ Rg Mr0 Mr n0' ∧ (n0 ≤ n ∧ n0' ≤ n') ∧ (∀ x y, S0 x y → S x y) ∧ (∀ d u, S d u → u < n0' → S0 d u) ∧ ∀ x, n0 ≤ x → x < n → Mc 26 x ≠ 5
theorem k5_new {M M' : Mm} {n0 n : Nat} (w : Cg M M' n) (s : ∀ x, n0 ≤ x → x < n → M 26 x ≠ 5) (k : M' 26 n ≠ 5) : ∀ x, n0 ≤ x → x < n + 1 → M' 26 x ≠ 5 := fun x h1 h2 => by
  by_cases e : x = n
  · rw [e]; exact k
  · rw [(w.2.2 x (by omega)).1]; exact s x h1 (by omega)
theorem Inc_refl {Mc Mr : Mm} {S : Nat → Nat → Prop} {n n' : Nat} {cs : List (Nat × Nat)} (h : Tw Mc Mr S n n' cs) : Inc Mc Mr S n n' Mc Mr S n n' cs := ⟨h, Cg_refl _ _, Rg_refl _ _, ⟨Nat.le_refl _, Nat.le_refl _⟩, fun _ _ q => q, fun _ _ q _ => q, fun x h1 h2 => by omega⟩
section INC
variable {Mc0 Mr0 Mc Mr : Mm} {S0 S : Nat → Nat → Prop} {n0 n0' n n' : Nat} {cs : List (Nat × Nat)}
theorem f214_k {M M' : Mm} {k a b : Int} {n' : Nat} (h : f214 M k a b = some ((n' : Int), M')) : M' 76 n' = k := by
  unfold f214 at h
  split at h
  · split at h
    · split at h
      · rename_i h1 h2 h3
        injection h with h
        injection h with e1 e2
        have : (M 53 28).toNat = n' := by omega
        rw [← e2, this]
        rw [up_cell (by decide), up_cell (by decide), up_cell (by decide), up_cell (by decide), up_same]
      · cases h
    · cases h
  · cases h
theorem Inc_var (h : Inc Mc0 Mr0 S0 n0 n0' Mc Mr S n n' cs) (hn : n < 2504) (hn' : n' < 4000) : ∃ Mc' Mr', f74 Mc 2 (-1) (-1) = some ((n : Int), Mc') ∧ f214 Mr 2 0 0 = some ((n' : Int), Mr') ∧ Inc Mc0 Mr0 S0 n0 n0' Mc' Mr' (adS S n n') (n + 1) (n' + 1) cs ∧ Cg Mc Mc' n ∧ Mc' 26 n = 2 ∧ Mr' 76 n' = 2 := by
  obtain ⟨t, c, r, m, s1, s2, s3⟩ := h
  obtain ⟨Mc', Mr', e1, e2, t', w, w', k⟩ := Tw_new (k := 2) (a := -1) (b := -1) (a' := 0) (b' := 0) t hn hn' (by omega) (fun q => by omega) (fun _ => rfl) (fun q => by omega) (fun _ => rfl)
  exact ⟨Mc', Mr', e1, e2, ⟨t', Cg_trans c (Cg_nn w) m.1, Rg_trans r (Rg_nn w') m.2, by omega, fun x y q => Or.inl (s1 x y q), fun d u q hu => q.elim (fun q => s2 d u q hu) (fun q => by omega), k5_new (Cg_nn w) s3 (by have := k.1; omega)⟩, Cg_nn w, k.1, f214_k e2⟩
theorem Inc_list (h : Inc Mc0 Mr0 S0 n0 n0' Mc Mr S n n' cs) (hn : n < 2504) (hn' : n' < 4000) {a a' : Nat} (ha : S a a') : ∃ Mc' Mr', f74 Mc 3 (a : Int) (-1) = some ((n : Int), Mc') ∧ f214 Mr 3 (a' : Int) 0 = some ((n' : Int), Mr') ∧ Inc Mc0 Mr0 S0 n0 n0' Mc' Mr' (adS S n n') (n + 1) (n' + 1) cs ∧ Cg Mc Mc' n ∧ (Mc' 26 n = 3 ∧ Mc' 27 n = (a : Int)) ∧ Rg Mr Mr' n' := by
  obtain ⟨t, c, r, m, s1, s2, s3⟩ := h
  obtain ⟨Mc', Mr', e1, e2, t', w, w', k⟩ := Tw_new (k := 3) (a := (a : Int)) (b := -1) (a' := (a' : Int)) (b' := 0) t hn hn' (by omega) (fun q => ⟨by omega, by omega, by simpa using ha⟩) (fun q => by omega) (fun q => by omega) (fun _ => rfl)
  exact ⟨Mc', Mr', e1, e2, ⟨t', Cg_trans c (Cg_nn w) m.1, Rg_trans r (Rg_nn w') m.2, by omega, fun x y q => Or.inl (s1 x y q), fun d u q hu => q.elim (fun q => s2 d u q hu) (fun q => by omega), k5_new (Cg_nn w) s3 (by have := k.1; omega)⟩, Cg_nn w, ⟨k.1, k.2.1⟩, Rg_nn w'⟩
theorem Inc_arr (h : Inc Mc0 Mr0 S0 n0 n0' Mc Mr S n n' cs) (hn : n < 2504) (hn' : n' < 4000) {a a' b b' : Nat} (ha : S a a') (hb : S b b') : ∃ Mc' Mr', f83 Mc (a : Int) (b : Int) = some ((n : Int), Mc') ∧ f219 Mr (a' : Int) (b' : Int) = some ((n' : Int), Mr') ∧ Inc Mc0 Mr0 S0 n0 n0' Mc' Mr' (adS S n n') (n + 1) (n' + 1) cs ∧ Cg Mc Mc' n ∧ (Mc' 26 n = 4 ∧ Mc' 27 n = (a : Int) ∧ Mc' 28 n = (b : Int)) := by
  obtain ⟨t, c, r, m, s1, s2, s3⟩ := h
  obtain ⟨Mc', Mr', e1, e2, t', w, w', k⟩ := Tw_new (k := 4) (a := (a : Int)) (b := (b : Int)) (a' := (a' : Int)) (b' := (b' : Int)) t hn hn' (by omega) (fun q => ⟨by omega, by omega, by simpa using ha⟩) (fun q => by omega) (fun q => ⟨by omega, by omega, by simpa using hb⟩) (fun q => by omega)
  refine ⟨Mc', Mr', ?_, ?_, ⟨t', Cg_trans c (Cg_nn w) m.1, Rg_trans r (Rg_nn w') m.2, by omega, fun x y q => Or.inl (s1 x y q), fun d u q hu => q.elim (fun q => s2 d u q hu) (fun q => by omega), k5_new (Cg_nn w) s3 (by have := k.1; omega)⟩, Cg_nn w, k⟩
  · unfold f83; rw [e1]; rfl
  · unfold f219; rw [e2]; rfl
theorem Inc_int (h : Inc Mc0 Mr0 S0 n0 n0' Mc Mr S n n' cs) (hn' : n' < 4000) {k : Nat} (hk : k ≤ 1) : ∃ Mr', f214 Mr (k : Int) 0 0 = some ((n' : Int), Mr') ∧ Inc Mc0 Mr0 S0 n0 n0' Mc Mr' (adS S k n') n (n' + 1) cs := by
  obtain ⟨t, c, r, m, s1, s2, s3⟩ := h
  obtain ⟨Mr', e2, t', w'⟩ := Tw_int (k := k) t hn' hk 0 0
  exact ⟨Mr', e2, t', c, Rg_trans r (Rg_nn w') m.2, by omega, fun x y q => Or.inl (s1 x y q), fun d u q hu => q.elim (fun q => s2 d u q hu) (fun q => by omega), s3⟩
theorem Inc_jv (h : Inc Mc0 Mr0 S0 n0 n0' Mc Mr S n n' cs) (hn' : n' < 4000) : ∃ Mr', f214 Mr 2 0 0 = some ((n' : Int), Mr') ∧ Inc Mc0 Mr0 S0 n0 n0' Mc Mr' S n (n' + 1) cs ∧ Mr' 76 n' = 2 ∧ Rg Mr Mr' n' := by
  obtain ⟨t, c, r, m, s1, s2, s3⟩ := h
  obtain ⟨Mr', e2, t', w', k⟩ := Tw_junk (k := 2) (a' := 0) (b' := 0) t hn' (by omega) (fun q => by omega) (fun q => by omega) ⟨by decide, fun q => by omega⟩
  exact ⟨Mr', e2, ⟨t', c, Rg_trans r (Rg_nn w') m.2, by omega, s1, s2, s3⟩, k, Rg_nn w'⟩
theorem Inc_old (h : Inc Mc0 Mr0 S0 n0 n0' Mc Mr S n n' cs) (hn : n < 2504) {u : Nat} (hu : u < n') (hk : Mr 76 u = 2) (hf : ∀ d, ¬ S d u) (h0 : n0' ≤ u) : ∃ Mc', f74 Mc 2 (-1) (-1) = some ((n : Int), Mc') ∧ Inc Mc0 Mr0 S0 n0 n0' Mc' Mr (adS S n u) (n + 1) n' cs ∧ Cg Mc Mc' n ∧ Mc' 26 n = 2 := by
  obtain ⟨t, c, r, m, s1, s2, s3⟩ := h
  obtain ⟨Mc', e1, t', w, k⟩ := Tw_old t hn hu hk hf
  exact ⟨Mc', e1, ⟨t', Cg_trans c (Cg_nn w) m.1, r, by omega, fun x y q => Or.inl (s1 x y q), fun d u q hu => q.elim (fun q => s2 d u q hu) (fun q => by omega), k5_new (Cg_nn w) s3 (by have := k; omega)⟩, Cg_nn w, k⟩
theorem Inc_jl (h : Inc Mc0 Mr0 S0 n0 n0' Mc Mr S n n' cs) (hn' : n' < 4000) {a : Nat} (ha : a < n') (hk : Mr 76 a = 2) : ∃ Mr', f214 Mr 3 (a : Int) 0 = some ((n' : Int), Mr') ∧ Inc Mc0 Mr0 S0 n0 n0' Mc Mr' S n (n' + 1) cs := by
  obtain ⟨t, c, r, m, s1, s2, s3⟩ := h
  obtain ⟨Mr', e2, t', w', -⟩ := Tw_junk (k := 3) (a' := (a : Int)) (b' := 0) t hn' (by omega) (fun q => by omega) (fun q => by omega) ⟨by decide, fun _ => by rw [Int.toNat_natCast]; exact hk⟩
  exact ⟨Mr', e2, t', c, Rg_trans r (Rg_nn w') m.2, by omega, s1, s2, s3⟩
end INC
theorem f213_eq (M : Mm) : f213 M = f214 M 2 0 0 := by
  unfold f213
  cases f214 M 2 0 0 <;> rfl
/-- a function node; a list node -/
def isF (M : Mm) (y a b : Nat) : Prop := M 26 y = 4 ∧ M 27 y = (a : Int) ∧ M 28 y = (b : Int)
def isL (M : Mm) (y a : Nat) : Prop := M 26 y = 3 ∧ M 27 y = (a : Int)
theorem isF_g {M M' : Mm} {n y a b : Nat} (h : Cg M M' n) (hy : y < n) (q : isF M y a b) : isF M' y a b := by
  obtain ⟨a1, a2, a3⟩ := h.2.2 y hy
  unfold isF
  rw [a1, a2, a3]
  exact q
theorem isL_g {M M' : Mm} {n y a : Nat} (h : Cg M M' n) (hy : y < n) (q : isL M y a) : isL M' y a := by
  obtain ⟨a1, a2, a3⟩ := h.2.2 y hy
  unfold isL
  rw [a1, a2]
  exact q
/-- what a primitive's node is -/
def PN (M : Mm) (k y : Nat) : Prop := (k ≤ 1 ∧ y = 1) ∨ (k = 2 ∧ ∃ y1, isF M y 0 y1 ∧ isF M y1 0 0) ∨ (k = 3 ∧ ∃ y1, isF M y 0 y1 ∧ isF M y1 0 1) ∨ (k = 4 ∧ ∃ a y1 y2, isF M y 1 y1 ∧ isF M y1 a y2 ∧ isF M y2 a a) ∨ (k = 5 ∧ ∃ a, isL M y a) ∨ (k = 6 ∧ ∃ a l y1, isL M l a ∧ isF M y a y1 ∧ isF M y1 l l) ∨ (k = 7 ∧ ∃ a l b y1 y2 y3 y4, isL M l a ∧ isF M y1 b b ∧ isF M y2 a y1 ∧ isF M y3 l b ∧ isF M y4 b y3 ∧ isF M y y2 y4)
theorem prim_ok {Mc Mr : Mm} {S : Nat → Nat → Prop} {n n' : Nat} {cs : List (Nat × Nat)} {k : Nat} (h : Tw Mc Mr S n n' cs) (hn : n + 8 < 2504) (hn' : n' + 10 < 4000) (hk : k < 8) :
    ∃ (y v : Nat) (Mc' Mr' : Mm) (S' : Nat → Nat → Prop) (m m' : Nat), f82 Mc (k : Int) = some ((y : Int), Mc') ∧ f218 Mr (k : Int) = some ((v : Int), Mr') ∧ Inc Mc Mr S n n' Mc' Mr' S' m m' cs ∧ S' y v ∧ PN Mc' k y ∧ m ≤ n + 8 ∧ m' ≤ n' + 10 := by
  have h0 := Inc_refl h
  obtain ⟨R1, r1, h1⟩ := Inc_int (k := 0) h0 (by omega) (by omega)
  obtain ⟨R2, r2, h2⟩ := Inc_int (k := 1) h1 (by omega) (by omega)
  have r1 : f214 Mr 0 0 0 = some ((n' : Int), R1) := r1
  have r2 : f214 R1 1 0 0 = some (((n' + 1 : Nat) : Int), R2) := r2
  have s0 : adS (adS S 0 n') 1 (n' + 1) 0 n' := adS_l adS_r
  have s1 : adS (adS S 0 n') 1 (n' + 1) 1 (n' + 1) := adS_r
  by_cases hs : k ≤ 3
  · -- no variable of the class
    obtain ⟨R3, r3, h3, q3, -⟩ := Inc_jv h2 (by omega)
    obtain ⟨R4, r4, h4, -, zz4⟩ := Inc_jv h3 (by omega)
    obtain ⟨R5, r5, h5⟩ := Inc_jl (a := n' + 1 + 1) h4 (by omega) (by omega) (by rw [(zz4.2.2 _ (by omega)).1]; exact q3)
    by_cases h01 : k ≤ 1
    · refine ⟨1, n' + 1, Mc, R5, _, _, _, ?_, ?_, h5, s1, Or.inl ⟨h01, rfl⟩, by omega, by omega⟩
      · unfold f82
        rcases (show k = 0 ∨ k = 1 by omega) with rfl | rfl <;> simp
      · unfold f218
        rw [r1]
        simp only [Option.bind_some, r2, f213_eq, r3, r4, r5]
        rcases (show k = 0 ∨ k = 1 by omega) with rfl | rfl <;> simp
    · rcases (show k = 2 ∨ k = 3 by omega) with rfl | rfl
      · obtain ⟨C1, R6, c1, r6, h6, w1, k1⟩ := Inc_arr (a := 0) (b := 0) h5 (by omega) (by omega) s0 s0
        obtain ⟨C2, R7, c2, r7, h7, w2, k2⟩ := Inc_arr (a := 0) (b := n) h6 (by omega) (by omega) (adS_l s0) adS_r
        refine ⟨n + 1, _, C2, R7, _, _, _, ?_, ?_, h7, adS_r, Or.inr (Or.inl ⟨rfl, n, k2, isF_g w2 (by omega) k1⟩), by omega, by omega⟩
        · unfold f82
          have c1 : f83 Mc 0 0 = some ((n : Int), C1) := c1
          have c2 : f83 C1 0 (n : Int) = some (((n + 1 : Nat) : Int), C2) := c2
          simp only [show ¬ ((2 : Nat) : Int) = 0 by decide, show ¬ ((2 : Nat) : Int) = 1 by decide, eq_true (show ((2 : Nat) : Int) = 2 from rfl), show ¬ ((2 : Nat) : Int) = 3 by decide, show ¬ ((2 : Nat) : Int) = 4 by decide, show ¬ ((2 : Nat) : Int) = 5 by decide, show ¬ ((2 : Nat) : Int) = 6 by decide, not_true, not_false_iff, if_true, if_false, c1, c2, Option.bind_some]
        · unfold f218
          rw [r1]
          simp only [show ¬ ((2 : Nat) : Int) = 0 by decide, show ¬ ((2 : Nat) : Int) = 1 by decide, eq_true (show ((2 : Nat) : Int) = 2 from rfl), show ¬ ((2 : Nat) : Int) = 3 by decide, show ¬ ((2 : Nat) : Int) = 4 by decide, show ¬ ((2 : Nat) : Int) = 5 by decide, show ¬ ((2 : Nat) : Int) = 6 by decide, if_true, if_false, Option.bind_some, r2, f213_eq, r3, r4, r5, r6, r7]
      · obtain ⟨C1, R6, c1, r6, h6, w1, k1⟩ := Inc_arr (a := 0) (b := 1) h5 (by omega) (by omega) s0 s1
        obtain ⟨C2, R7, c2, r7, h7, w2, k2⟩ := Inc_arr (a := 0) (b := n) h6 (by omega) (by omega) (adS_l s0) adS_r
        refine ⟨n + 1, _, C2, R7, _, _, _, ?_, ?_, h7, adS_r, Or.inr (Or.inr (Or.inl ⟨rfl, n, k2, isF_g w2 (by omega) k1⟩)), by omega, by omega⟩
        · unfold f82
          have c1 : f83 Mc 0 1 = some ((n : Int), C1) := c1
          have c2 : f83 C1 0 (n : Int) = some (((n + 1 : Nat) : Int), C2) := c2
          simp only [show ¬ ((3 : Nat) : Int) = 0 by decide, show ¬ ((3 : Nat) : Int) = 1 by decide, show ¬ ((3 : Nat) : Int) = 2 by decide, eq_true (show ((3 : Nat) : Int) = 3 from rfl), show ¬ ((3 : Nat) : Int) = 4 by decide, show ¬ ((3 : Nat) : Int) = 5 by decide, show ¬ ((3 : Nat) : Int) = 6 by decide, not_true, not_false_iff, if_true, if_false, c1, c2, Option.bind_some]
        · unfold f218
          rw [r1]
          simp only [show ¬ ((3 : Nat) : Int) = 0 by decide, show ¬ ((3 : Nat) : Int) = 1 by decide, show ¬ ((3 : Nat) : Int) = 2 by decide, eq_true (show ((3 : Nat) : Int) = 3 from rfl), show ¬ ((3 : Nat) : Int) = 4 by decide, show ¬ ((3 : Nat) : Int) = 5 by decide, show ¬ ((3 : Nat) : Int) = 6 by decide, if_true, if_false, Option.bind_some, r2, f213_eq, r3, r4, r5, r6, r7]
  · obtain ⟨C3, R3, c3, r3, h3, w3, k3⟩ := Inc_var h2 (by omega) (by omega)
    have s2 : adS (adS (adS S 0 n') 1 (n' + 1)) n (n' + 1 + 1) n (n' + 1 + 1) := adS_r
    by_cases h4' : k = 4
    · subst h4'
      obtain ⟨R4, r4, h4, -, zz4⟩ := Inc_jv h3 (by omega)
      obtain ⟨R5, r5, h5⟩ := Inc_jl (a := n' + 1 + 1) h4 (by omega) (by omega) (by rw [(zz4.2.2 _ (by omega)).1]; exact k3.2)
      obtain ⟨C6, R6, c6, r6, h6, w6, k6⟩ := Inc_arr h5 (by omega) (by omega) s2 s2
      obtain ⟨C7, R7, c7, r7, h7, w7, k7⟩ := Inc_arr h6 (by omega) (by omega) (adS_l s2) adS_r
      obtain ⟨C8, R8, c8, r8, h8, w8, k8⟩ := Inc_arr (a := 1) h7 (by omega) (by omega) (adS_l (adS_l (adS_l s1))) adS_r
      refine ⟨n + 1 + 1 + 1, _, C8, R8, _, _, _, ?_, ?_, h8, adS_r, Or.inr (Or.inr (Or.inr (Or.inl ⟨rfl, n, n + 1 + 1, n + 1, k8, isF_g w8 (by omega) k7, isF_g w8 (by omega) (isF_g w7 (by omega) k6)⟩))), by omega, by omega⟩
      · unfold f82
        have c8 : f83 C7 1 ((n + 1 + 1 : Nat) : Int) = some (((n + 1 + 1 + 1 : Nat) : Int), C8) := c8
        simp only [show ¬ ((4 : Nat) : Int) = 0 by decide, show ¬ ((4 : Nat) : Int) = 1 by decide, show ¬ ((4 : Nat) : Int) = 2 by decide, show ¬ ((4 : Nat) : Int) = 3 by decide, eq_true (show ((4 : Nat) : Int) = 4 from rfl), show ¬ ((4 : Nat) : Int) = 5 by decide, show ¬ ((4 : Nat) : Int) = 6 by decide, not_true, not_false_iff, if_true, if_false, c3, c6, c7, c8, Option.bind_some]
      · unfold f218
        rw [r1]
        simp only [show ¬ ((4 : Nat) : Int) = 0 by decide, show ¬ ((4 : Nat) : Int) = 1 by decide, show ¬ ((4 : Nat) : Int) = 2 by decide, show ¬ ((4 : Nat) : Int) = 3 by decide, eq_true (show ((4 : Nat) : Int) = 4 from rfl), show ¬ ((4 : Nat) : Int) = 5 by decide, show ¬ ((4 : Nat) : Int) = 6 by decide, if_true, if_false, Option.bind_some, r2, f213_eq, r3, r4, r5, r6, r7, r8]
    · by_cases h56 : k ≤ 6
      · obtain ⟨R4, r4, h4, -⟩ := Inc_jv h3 (by omega)
        obtain ⟨C5, R5, c5, r5, h5, w5, k5, -⟩ := Inc_list h4 (by omega) (by omega) s2
        rcases (show k = 5 ∨ k = 6 by omega) with rfl | rfl
        · refine ⟨n + 1, _, C5, R5, _, _, _, ?_, ?_, h5, adS_r, Or.inr (Or.inr (Or.inr (Or.inr (Or.inl ⟨rfl, n, k5⟩)))), by omega, by omega⟩
          · unfold f82
            simp [c3, c5]
          · unfold f218
            rw [r1]
            simp only [Option.bind_some, r2, f213_eq, r3, r4, r5]
            simp
        · obtain ⟨C6, R6, c6, r6, h6, w6, k6⟩ := Inc_arr h5 (by omega) (by omega) (a := n + 1) (b := n + 1) adS_r adS_r
          obtain ⟨C7, R7, c7, r7, h7, w7, k7⟩ := Inc_arr h6 (by omega) (by omega) (adS_l (adS_l s2)) adS_r
          refine ⟨n + 1 + 1 + 1, _, C7, R7, _, _, _, ?_, ?_, h7, adS_r, Or.inr (Or.inr (Or.inr (Or.inr (Or.inr (Or.inl ⟨rfl, n, n + 1, n + 1 + 1, isL_g w7 (by omega) (isL_g w6 (by omega) k5), k7, isF_g w7 (by omega) k6⟩))))), by omega, by omega⟩
          · unfold f82
            simp only [show ¬ ((6 : Nat) : Int) = 0 by decide, show ¬ ((6 : Nat) : Int) = 1 by decide, show ¬ ((6 : Nat) : Int) = 2 by decide, show ¬ ((6 : Nat) : Int) = 3 by decide, show ¬ ((6 : Nat) : Int) = 4 by decide, show ¬ ((6 : Nat) : Int) = 5 by decide, eq_true (show ((6 : Nat) : Int) = 6 from rfl), not_true, not_false_iff, if_true, if_false, c3, c5, c6, c7, Option.bind_some]
          · unfold f218
            rw [r1]
            simp only [show ¬ ((6 : Nat) : Int) = 0 by decide, show ¬ ((6 : Nat) : Int) = 1 by decide, show ¬ ((6 : Nat) : Int) = 2 by decide, show ¬ ((6 : Nat) : Int) = 3 by decide, show ¬ ((6 : Nat) : Int) = 4 by decide, show ¬ ((6 : Nat) : Int) = 5 by decide, eq_true (show ((6 : Nat) : Int) = 6 from rfl), if_true, if_false, Option.bind_some, r2, f213_eq, r3, r4, r5, r6, r7]
      · obtain rfl : k = 7 := by omega
        obtain ⟨R4, r4, h4, q4, -⟩ := Inc_jv h3 (by omega)
        obtain ⟨C5, R5, c5, r5, h5, w5, k5, z5⟩ := Inc_list h4 (by omega) (by omega) s2
        have q5 : R5 76 (n' + 1 + 1 + 1) = 2 := by rw [(z5.2.2 _ (by omega)).1]; exact q4
        have lt0 := fun d u (q : S d u) => Tw_lt h q
        obtain ⟨C6, c6, h6, w6, k6⟩ := Inc_old h5 (by omega) (u := n' + 1 + 1 + 1) (by omega) q5 (fun d q => by
          rcases q with (((q | ⟨-, q⟩) | ⟨-, q⟩) | ⟨-, q⟩) | ⟨-, q⟩
          · have := lt0 _ _ q; omega
          · omega
          · omega
          · omega
          · omega) (by omega)
        have sb : adS (adS (adS (adS (adS S 0 n') 1 (n' + 1)) n (n' + 1 + 1)) (n + 1) (n' + 1 + 1 + 1 + 1)) (n + 1 + 1) (n' + 1 + 1 + 1) (n + 1 + 1) (n' + 1 + 1 + 1) := adS_r
        have sl : adS (adS (adS (adS (adS S 0 n') 1 (n' + 1)) n (n' + 1 + 1)) (n + 1) (n' + 1 + 1 + 1 + 1)) (n + 1 + 1) (n' + 1 + 1 + 1) (n + 1) (n' + 1 + 1 + 1 + 1) := adS_l adS_r
        have sa : adS (adS (adS (adS (adS S 0 n') 1 (n' + 1)) n (n' + 1 + 1)) (n + 1) (n' + 1 + 1 + 1 + 1)) (n + 1 + 1) (n' + 1 + 1 + 1) n (n' + 1 + 1) := adS_l (adS_l adS_r)
        obtain ⟨C7, R7, c7, r7, h7, w7, k7⟩ := Inc_arr h6 (by omega) (by omega) sb sb
        obtain ⟨C8, R8, c8, r8, h8, w8, k8⟩ := Inc_arr h7 (by omega) (by omega) (adS_l sa) adS_r
        obtain ⟨C9, R9, c9, r9, h9, w9, k9⟩ := Inc_arr h8 (by omega) (by omega) (adS_l (adS_l sl)) (adS_l (adS_l sb))
        obtain ⟨Ca, Ra, ca, ra, ha, wa, ka⟩ := Inc_arr h9 (by omega) (by omega) (adS_l (adS_l (adS_l sb))) adS_r
        obtain ⟨Cb, Rb, cb, rb, hb, wb, kb⟩ := Inc_arr ha (by omega) (by omega) (a := n + 1 + 1 + 1 + 1) (adS_l (adS_l adS_r)) adS_r
        refine ⟨_, _, Cb, Rb, _, _, _, ?_, ?_, hb, adS_r, Or.inr (Or.inr (Or.inr (Or.inr (Or.inr (Or.inr ⟨rfl, n, n + 1, n + 1 + 1, n + 1 + 1 + 1, n + 1 + 1 + 1 + 1, n + 1 + 1 + 1 + 1 + 1, n + 1 + 1 + 1 + 1 + 1 + 1, ?_, ?_, ?_, ?_, ?_, kb⟩))))), by omega, by omega⟩
        · unfold f82
          simp only [show ¬ ((7 : Nat) : Int) = 0 by decide, show ¬ ((7 : Nat) : Int) = 1 by decide, show ¬ ((7 : Nat) : Int) = 2 by decide, show ¬ ((7 : Nat) : Int) = 3 by decide, show ¬ ((7 : Nat) : Int) = 4 by decide, show ¬ ((7 : Nat) : Int) = 5 by decide, show ¬ ((7 : Nat) : Int) = 6 by decide, if_false, not_false_iff, if_true, c3, Option.bind_some, c5, c6, c7, c8, c9, ca, cb]
        · unfold f218
          simp only [show ¬ ((7 : Nat) : Int) = 0 by decide, show ¬ ((7 : Nat) : Int) = 1 by decide, show ¬ ((7 : Nat) : Int) = 2 by decide, show ¬ ((7 : Nat) : Int) = 3 by decide, show ¬ ((7 : Nat) : Int) = 4 by decide, show ¬ ((7 : Nat) : Int) = 5 by decide, show ¬ ((7 : Nat) : Int) = 6 by decide, if_false, r1, r2, f213_eq, r3, r4, r5, Option.bind_some, r7, r8, r9, ra, rb]
        · exact isL_g wb (by omega) (isL_g wa (by omega) (isL_g w9 (by omega) (isL_g w8 (by omega) (isL_g w7 (by omega) (isL_g w6 (by omega) k5)))))
        · exact isF_g wb (by omega) (isF_g wa (by omega) (isF_g w9 (by omega) (isF_g w8 (by omega) k7)))
        · exact isF_g wb (by omega) (isF_g wa (by omega) (isF_g w9 (by omega) k8))
        · exact isF_g wb (by omega) (isF_g wa (by omega) k9)
        · exact isF_g wb (by omega) ka
