/-! Numbering a type, the reference's way: to the end. -/
section BIG2
variable {Mc Mr : Mm} {S : Nat → Nat → Prop} {n n' k : Nat} {cs : List (Nat × Nat)} {ρ ρ' : Nat → Nat} {T : Nat → Ty}
theorem rtA_eq {M : Mm} {B : Tab} (q : NQ Mc Mr S n n' ρ ρ' T M B) (x : Nat) : rtA M ρ' x = rtA Mr ρ' x ∧ rtB M ρ' x = rtB Mr ρ' x ∧ M 76 x = Mr 76 x := by
  unfold rtA rtB
  rw [q.1.1 76 (by decide) (by decide) (by decide) (by decide) (by decide) (by decide), q.1.1 77 (by decide) (by decide) (by decide) (by decide) (by decide) (by decide), q.1.1 78 (by decide) (by decide) (by decide) (by decide) (by decide) (by decide)]
  exact ⟨rfl, rfl, rfl⟩
/-- a part is numbered first: from e0 to e1 -/
def PartA (Mc Mr : Mm) (S : Nat → Nat → Prop) (n n' : Nat) (ρ ρ' : Nat → Nat) (T : Nat → Ty) (u a a' : Nat) (L : List Nat) (M : Mm) (B : Tab) (f : Nat) (e0 : Option (Int × Mm)) (e1 : Nat → Mm → Option (Int × Mm)) : Prop :=
  (ins (T a) B = none ∧ ∃ M', e0 = some (-1, M') ∧ Rq Mr M') ∨
  ∃ (t : Nat) (C : Tab) (M' : Mm) (f' : Nat), ins (T a) B = some (t, C) ∧ e0 = e1 f' M' ∧ NQ Mc Mr S n n' ρ ρ' T M' C ∧ M' 81 a' = (t : Int) ∧ M' 81 (ρ' u) = -1 ∧ sk M' 82 (u :: L) ∧ uN M' n' ≤ uN M n' ∧ f + 60 * uN M' n' ≤ f' + 60 * uN M n' + 9 ∧ (∀ y, M 81 y ≠ -1 → M' 81 y = M 81 y) ∧ ∀ d v, Tt S n n' ρ ρ' d v → hT (T a) < hT (T d) → M' 81 (ρ' v) = M 81 (ρ' v)
theorem part_A {M : Mm} {B : Tab} {x1 : Int} {c u a a' f : Nat} {L : List Nat} (h : Fin2 Mc Mr S n n' cs ρ ρ') (q : NQ Mc Mr S n n' ρ ρ' T M B) (tt : Tt S n n' ρ ρ' c u) (va : vOK (T a)) (ta : Tt S n n' ρ ρ' a a') (ra : ρ' a' = a') (eA : rtA Mr ρ' (ρ' u) = (a' : Int)) (hs : sk M 82 (u :: L)) (hL : L.length ≤ 14000) (h0 : M 81 (ρ' u) = -1) (hh : hT (T a) < hT (T c)) (hf : 60 * uN M n' + 20 * (hT (T c) + 1) ≤ f)
    (ih : ∀ (f : Nat) (M : Mm), NQ Mc Mr S n n' ρ ρ' T M B → sk M 82 (a' :: u :: L) → M 81 (ρ' a') = -1 → 60 * uN M n' + 20 * (hT (T a) + 1) ≤ f → Out Mc Mr S n n' ρ ρ' T x1 a a' (u :: L) M B f) :
    PartA Mc Mr S n n' ρ ρ' T u a a' L M B f (l233 f 32 M x1 ((u :: L).length : Int) 0 0 0 0) (fun f' M' => l233 f' 158 M' x1 ((u :: L).length : Int) (ρ' u : Int) (rtA Mr ρ' (ρ' u)) (rtB Mr ρ' (ρ' u)) 0) := by
  have hn' := h.2.1.1.2.1
  have hu := (T_lt tt).2
  have ha := (T_lt ta).2
  have ql := (h.2.1.2.2 u hu).1
  have hd : ∀ (N : Mm) (C : Tab) (g : Nat), NQ Mc Mr S n n' ρ ρ' T N C → sk N 82 (u :: L) → 3 ≤ g → ∃ g', g ≤ g' + 3 ∧ l233 g 32 N x1 ((u :: L).length : Int) 0 0 0 0 = l233 g' 111 N x1 ((u :: L).length : Int) (ρ' u : Int) (rtA Mr ρ' (ρ' u)) (rtB Mr ρ' (ρ' u)) 0 := by
    intro N C g nq sk hg
    obtain ⟨f1, g1, g2⟩ := l233_head (x1 := x1) (f := g - 3) (NQ_fin h nq).2.1 hu rfl sk (by omega)
    rw [Nat.sub_add_cancel hg, (rtA_eq nq _).1, (rtA_eq nq _).2.1] at g2
    exact ⟨f1, by omega, g2⟩
  obtain ⟨f1, g1, g2⟩ := hd M B f q hs (by omega)
  by_cases m : M 81 a' = -1
  · obtain ⟨f2, rfl⟩ : ∃ f2, f1 = f2 + 2 := ⟨f1 - 2, by omega⟩
    have hl : (u :: L).length ≤ 15900 := by simp; omega
    have e81 : (up M 82 (u :: L).length (a' : Int)) 81 = M 81 := up_cell (by decide)
    have eu : uN (up M 82 (u :: L).length (a' : Int)) n' = uN M n' := uN_eq (fun y => by rw [e81])
    have e3 := l233_pA (f := f2) (x1 := x1) (B := rtB Mr ρ' (ρ' u)) (len := (u :: L).length) (show ρ' u < 4000 by omega) hl h0 eA (by omega) m
    rw [g2, e3]
    rcases ih f2 (up M 82 (u :: L).length (a' : Int)) (NQ_82 q) ⟨up_same _ _ _ _, sk_eq (fun i hi => up_at (by omega)) hs⟩ (by rw [e81, ra]; exact m) (by rw [eu]; omega) with ⟨z1, M', z2, z3⟩ | ⟨t, C, M1, f3, y1, y2, y3, y4, y5, y6, y7, y8, y9⟩
    · exact Or.inl ⟨z1, M', z2, z3⟩
    · rw [eu] at y6 y7
      have y2 : l233 f2 32 (up M 82 (u :: L).length (a' : Int)) x1 (((u :: L).length + 1 : Nat) : Int) 0 0 0 0 = l233 f3 32 M1 x1 ((u :: L).length : Int) 0 0 0 0 := y2
      rw [ra] at y4
      have m1 : M1 81 (ρ' u) = -1 := by rw [y9 c u tt hh, e81]; exact h0
      obtain ⟨f4, g3, g4⟩ := hd M1 C f3 y3 y5 (by omega)
      obtain ⟨f5, rfl⟩ : ∃ f5, f4 = f5 + 1 := ⟨f4 - 1, by omega⟩
      have e5 := l233_nA (f := f5) (x1 := x1) (B := rtB Mr ρ' (ρ' u)) (len := (u :: L).length) (show ρ' u < 4000 by omega) m1 (Or.inr ⟨a', eA, by omega, by omega⟩)
      refine Or.inr ⟨t, C, M1, f5, y1, ?_, y3, y4, m1, y5, by omega, by omega, fun y hy => ?_, fun d v td hdv => ?_⟩
      · rw [y2, g4, e5]
      · rw [y8 y (by rw [e81]; exact hy), e81]
      · rw [y9 d v td hdv, e81]
  · obtain ⟨f5, rfl⟩ : ∃ f5, f1 = f5 + 1 := ⟨f1 - 1, by omega⟩
    have e5 := l233_nA (f := f5) (x1 := x1) (B := rtB Mr ρ' (ρ' u)) (len := (u :: L).length) (show ρ' u < 4000 by omega) h0 (Or.inr ⟨a', eA, by omega, m⟩)
    have qq := q.2.2.2 a a' ta va
    rw [ra] at qq
    rcases qq with z | ⟨t, z1, z2⟩
    · exact absurd z m
    · exact Or.inr ⟨t, B, M, f5, z2, by rw [g2, e5], q, z1, h0, hs, Nat.le_refl _, by omega, fun _ _ => rfl, fun _ _ _ _ => rfl⟩
theorem part_B {M : Mm} {B : Tab} {x1 : Int} {c u a' b b' l f : Nat} {L : List Nat} (h : Fin2 Mc Mr S n n' cs ρ ρ') (q : NQ Mc Mr S n n' ρ ρ' T M B) (tt : Tt S n n' ρ ρ' c u) (va : vOK (T b)) (ta : Tt S n n' ρ ρ' b b') (ra : ρ' b' = b') (la : a' < n') (eA : rtA Mr ρ' (ρ' u) = (a' : Int)) (eB : rtB Mr ρ' (ρ' u) = (b' : Int)) (ma : M 81 a' = (l : Int)) (hs : sk M 82 (u :: L)) (hL : L.length ≤ 14000) (h0 : M 81 (ρ' u) = -1) (hh : hT (T b) < hT (T c)) (hf : 60 * uN M n' + 20 * (hT (T b) + 1) + 5 ≤ f)
    (ih : ∀ (f : Nat) (M : Mm), NQ Mc Mr S n n' ρ ρ' T M B → sk M 82 (b' :: u :: L) → M 81 (ρ' b') = -1 → 60 * uN M n' + 20 * (hT (T b) + 1) ≤ f → Out Mc Mr S n n' ρ ρ' T x1 b b' (u :: L) M B f) :
    PartA Mc Mr S n n' ρ ρ' T u b b' L M B f (l233 f 158 M x1 ((u :: L).length : Int) (ρ' u : Int) (rtA Mr ρ' (ρ' u)) (rtB Mr ρ' (ρ' u)) 0) (fun f' M' => l233 f' 189 M' x1 ((u :: L).length : Int) (ρ' u : Int) (rtA Mr ρ' (ρ' u)) (rtB Mr ρ' (ρ' u)) 0) := by
  have hn' := h.2.1.1.2.1
  have hu := (T_lt tt).2
  have ha := (T_lt ta).2
  have ql := (h.2.1.2.2 u hu).1
  have hd : ∀ (N : Mm) (C : Tab) (g : Nat), NQ Mc Mr S n n' ρ ρ' T N C → sk N 82 (u :: L) → 3 ≤ g → ∃ g', g ≤ g' + 3 ∧ l233 g 32 N x1 ((u :: L).length : Int) 0 0 0 0 = l233 g' 111 N x1 ((u :: L).length : Int) (ρ' u : Int) (rtA Mr ρ' (ρ' u)) (rtB Mr ρ' (ρ' u)) 0 := by
    intro N C g nq sk hg
    obtain ⟨f1, g1, g2⟩ := l233_head (x1 := x1) (f := g - 3) (NQ_fin h nq).2.1 hu rfl sk (by omega)
    rw [Nat.sub_add_cancel hg, (rtA_eq nq _).1, (rtA_eq nq _).2.1] at g2
    exact ⟨f1, by omega, g2⟩
  by_cases m : M 81 b' = -1
  · obtain ⟨f2, rfl⟩ : ∃ f2, f = f2 + 2 := ⟨f - 2, by omega⟩
    have hl : (u :: L).length ≤ 15900 := by simp; omega
    have e81 : (up M 82 (u :: L).length (b' : Int)) 81 = M 81 := up_cell (by decide)
    have eu : uN (up M 82 (u :: L).length (b' : Int)) n' = uN M n' := uN_eq (fun y => by rw [e81])
    have e3 := l233_pB (f := f2) (x1 := x1) (q := ρ' u) (A := rtA Mr ρ' (ρ' u)) (len := (u :: L).length) hl eB (by omega) m
    rw [e3]
    rcases ih f2 (up M 82 (u :: L).length (b' : Int)) (NQ_82 q) ⟨up_same _ _ _ _, sk_eq (fun i hi => up_at (by omega)) hs⟩ (by rw [e81, ra]; exact m) (by rw [eu]; omega) with ⟨z1, M', z2, z3⟩ | ⟨t, C, M1, f3, y1, y2, y3, y4, y5, y6, y7, y8, y9⟩
    · exact Or.inl ⟨z1, M', z2, z3⟩
    · rw [eu] at y6 y7
      have y2 : l233 f2 32 (up M 82 (u :: L).length (b' : Int)) x1 (((u :: L).length + 1 : Nat) : Int) 0 0 0 0 = l233 f3 32 M1 x1 ((u :: L).length : Int) 0 0 0 0 := y2
      rw [ra] at y4
      have m1 : M1 81 (ρ' u) = -1 := by rw [y9 c u tt hh, e81]; exact h0
      have ma1 : M1 81 a' = (l : Int) := by rw [y8 a' (by rw [e81, ma]; omega), e81]; exact ma
      obtain ⟨f4, g3, g4⟩ := hd M1 C f3 y3 y5 (by omega)
      obtain ⟨f5, rfl⟩ : ∃ f5, f4 = f5 + 2 := ⟨f4 - 2, by omega⟩
      have e5 := l233_nA (f := f5 + 1) (x1 := x1) (B := rtB Mr ρ' (ρ' u)) (len := (u :: L).length) (show ρ' u < 4000 by omega) m1 (Or.inr ⟨a', eA, by omega, by omega⟩)
      have e6 := l233_nB (M := M1) (f := f5) (x1 := x1) (q := ρ' u) (A := rtA Mr ρ' (ρ' u)) (len := (u :: L).length) (Or.inr ⟨b', eB, by omega, by omega⟩)
      refine Or.inr ⟨t, C, M1, f5, y1, ?_, y3, y4, m1, y5, by omega, by omega, fun y hy => ?_, fun d v td hdv => ?_⟩
      · rw [y2, g4, e5, e6]
      · rw [y8 y (by rw [e81]; exact hy), e81]
      · rw [y9 d v td hdv, e81]
  · obtain ⟨f5, rfl⟩ : ∃ f5, f = f5 + 1 := ⟨f - 1, by omega⟩
    have e5 := l233_nB (M := M) (f := f5) (x1 := x1) (q := ρ' u) (A := rtA Mr ρ' (ρ' u)) (len := (u :: L).length) (Or.inr ⟨b', eB, by omega, m⟩)
    have qq := q.2.2.2 b b' ta va
    rw [ra] at qq
    rcases qq with z | ⟨t, z1, z2⟩
    · exact absurd z m
    · exact Or.inr ⟨t, B, M, f5, z2, by rw [e5], q, z1, h0, hs, Nat.le_refl _, by omega, fun _ _ => rfl, fun _ _ _ _ => rfl⟩
end BIG2
