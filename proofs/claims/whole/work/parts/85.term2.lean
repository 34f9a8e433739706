/-! Terms: how the reference makes the term of a node. -/
def Rk (M M' : Mm) : Prop := (∀ a, a ≠ 53 → a ≠ 73 → a ≠ 74 → a ≠ 75 → a ≠ 81 → a ≠ 82 → M' a = M a) ∧ (∀ j, j ≠ 24 → M' 53 j = M 53 j) ∧ (∀ t : Nat, (t : Int) < M 53 24 → M' 73 t = M 73 t ∧ M' 74 t = M 74 t ∧ M' 75 t = M 75 t) ∧ M 53 24 ≤ M' 53 24
theorem Rk_refl (M : Mm) : Rk M M := ⟨fun _ _ _ _ _ _ _ => rfl, fun _ _ => rfl, fun _ _ => ⟨rfl, rfl, rfl⟩, Int.le_refl _⟩
theorem Rk_trans {M M1 M2 : Mm} (a : Rk M M1) (b : Rk M1 M2) : Rk M M2 := ⟨fun c h1 h2 h3 h4 h5 h6 => (b.1 c h1 h2 h3 h4 h5 h6).trans (a.1 c h1 h2 h3 h4 h5 h6), fun j hj => (b.2.1 j hj).trans (a.2.1 j hj), fun t ht => by have q := a.2.2.1 t ht; have q2 := b.2.2.1 t (by have := a.2.2.2; omega); exact ⟨q2.1.trans q.1, q2.2.1.trans q.2.1, q2.2.2.trans q.2.2⟩, Int.le_trans a.2.2.2 b.2.2.2⟩
section TK
variable {Mc Mr : Mm} {S : Nat → Nat → Prop} {n n' k lim : Nat} {cs : List (Nat × Nat)} {ρ ρ' : Nat → Nat} {T : Nat → Ty}
def KQ (Mr : Mm) (S : Nat → Nat → Prop) (n n' : Nat) (ρ ρ' : Nat → Nat) (T : Nat → Ty) (lim : Nat) (M : Mm) (N : Nat) : Prop := Rk Mr M ∧ M 53 24 = (N : Int) ∧ WTm M N ∧ N + uN M n' ≤ lim ∧ ∀ c u, Tt S n n' ρ ρ' c u → M 81 (ρ' u) = -1 ∨ ∃ t : Nat, M 81 (ρ' u) = (t : Int) ∧ t < N ∧ trm M t = T c
theorem KQ_fin {M : Mm} {N : Nat} (h : Fin2 Mc Mr S n n' cs ρ ρ') (q : KQ Mr S n n' ρ ρ' T lim M N) : Fin2 Mc M S n n' cs ρ ρ' := Fin2_same h ⟨rfl, rfl, rfl⟩ ⟨q.1.1 76 (by decide) (by decide) (by decide) (by decide) (by decide) (by decide), q.1.1 77 (by decide) (by decide) (by decide) (by decide) (by decide) (by decide), q.1.1 78 (by decide) (by decide) (by decide) (by decide) (by decide) (by decide)⟩ h.1 (Fr_same (fun a h1 h2 => q.1.1 a (by omega) (by omega) (by omega) (by omega) (by omega) (by omega)) (q.1.2.1 28 (by decide)) h.2.1)
theorem KQ_nm {M : Mm} {N : Nat} (nm : Nm Mc Mr S n n' ρ ρ' k) (q : KQ Mr S n n' ρ ρ' T lim M N) : Nm Mc M S n n' ρ ρ' k := by
  unfold Nm
  rw [q.1.2.1 50 (by decide), q.1.1 92 (by decide) (by decide) (by decide) (by decide) (by decide) (by decide)]
  exact nm
theorem KQ_82 {M : Mm} {N i : Nat} {v : Int} (q : KQ Mr S n n' ρ ρ' T lim M N) : KQ Mr S n n' ρ ρ' T lim (up M 82 i v) N := by
  obtain ⟨q1, q2, q3, q4, q5⟩ := q
  have e73 : (up M 82 i v) 73 = M 73 := up_cell (by decide)
  have e74 : (up M 82 i v) 74 = M 74 := up_cell (by decide)
  have e75 : (up M 82 i v) 75 = M 75 := up_cell (by decide)
  have e81 : (up M 82 i v) 81 = M 81 := up_cell (by decide)
  have e53 : (up M 82 i v) 53 = M 53 := up_cell (by decide)
  refine ⟨Rk_trans q1 ⟨fun a _ _ _ _ _ h6 => up_cell h6, fun j _ => by rw [e53], fun t _ => by rw [e73, e74, e75]; exact ⟨rfl, rfl, rfl⟩, by rw [e53]; exact Int.le_refl _⟩, by rw [e53]; exact q2, ?_, ?_, fun c u t => ?_⟩
  · unfold WTm; rw [e73, e74, e75]; exact q3
  · rw [uN_eq (fun y => by rw [e81])]; exact q4
  · rw [e81]
    rcases q5 c u t with z | ⟨t', z1, z2, z3⟩
    · exact Or.inl z
    · exact Or.inr ⟨t', z1, z2, by rw [trm_eq q3 (fun _ _ => by rw [e73, e74, e75]; exact ⟨rfl, rfl, rfl⟩) z2]; exact z3⟩
theorem rtK {M : Mm} {N : Nat} (q : KQ Mr S n n' ρ ρ' T lim M N) (x : Nat) : rtA M ρ' x = rtA Mr ρ' x ∧ rtB M ρ' x = rtB Mr ρ' x ∧ M 76 x = Mr 76 x := by
  unfold rtA rtB
  rw [q.1.1 76 (by decide) (by decide) (by decide) (by decide) (by decide) (by decide), q.1.1 77 (by decide) (by decide) (by decide) (by decide) (by decide) (by decide), q.1.1 78 (by decide) (by decide) (by decide) (by decide) (by decide) (by decide)]
  exact ⟨rfl, rfl, rfl⟩
theorem nt_at {M : Mm} {N q : Nat} {a b : Int} : (∀ t, nt M N q a b 73 t = if t = N then M 76 q else M 73 t) ∧ (∀ t, nt M N q a b 74 t = if t = N then a else M 74 t) ∧ (∀ t, nt M N q a b 75 t = if t = N then b else M 75 t) ∧ (∀ y, nt M N q a b 81 y = if y = q then (N : Int) else M 81 y) ∧ nt M N q a b 53 24 = ((N + 1 : Nat) : Int) ∧ (∀ j, j ≠ 24 → nt M N q a b 53 j = M 53 j) ∧ ∀ c, c ≠ 53 → c ≠ 73 → c ≠ 74 → c ≠ 75 → c ≠ 81 → nt M N q a b c = M c := by
  unfold nt
  refine ⟨fun t => ?_, fun t => ?_, fun t => ?_, fun y => ?_, ?_, fun j hj => ?_, fun c h1 h2 h3 h4 h5 => ?_⟩
  · rw [up_cell (by decide), up_cell (by decide), up_cell (by decide), up_cell (by decide)]; simp [up]
  · rw [up_cell (by decide), up_cell (by decide), up_cell (by decide)]; simp [up]
  · rw [up_cell (by decide), up_cell (by decide)]; simp [up]
  · rw [up_cell (by decide)]; simp [up]
  · rw [up_same]; omega
  · rw [up_at hj, up_cell (by decide), up_cell (by decide), up_cell (by decide), up_cell (by decide)]
  · rw [up_cell h1, up_cell h5, up_cell h4, up_cell h3, up_cell h2]
theorem KQ_nt {M : Mm} {N c u : Nat} {a b : Int} (h : Fin2 Mc Mr S n n' cs ρ ρ') (tg : TyG Mc n ρ T) (q : KQ Mr S n n' ρ ρ' T lim M N) (tt : Tt S n n' ρ ρ' c u) (h0 : M 81 (ρ' u) = -1)
    (hr : ((3 ≤ M 76 (ρ' u) ∧ M 76 (ρ' u) ≤ 4) → 0 ≤ a ∧ a < (N : Int)) ∧ (M 76 (ρ' u) = 4 → 0 ≤ b ∧ b < (N : Int)))
    (ht : ∀ M' : Mm, WTm M' (N + 1) → M' 73 N = M 76 (ρ' u) → M' 74 N = a → M' 75 N = b → (∀ t, t < N → trm M' t = trm M t) → trm M' N = T c) :
    KQ Mr S n n' ρ ρ' T lim (nt M N (ρ' u) a b) (N + 1) ∧ uN (nt M N (ρ' u) a b) n' + 1 = uN M n' := by
  obtain ⟨q1, q2, q3, q4, q5⟩ := q
  have ql := (h.2.1.2.2 u (T_lt tt).2).1
  have k5 := (Fin2_same h ⟨rfl, rfl, rfl⟩ ⟨rfl, rfl, rfl⟩ h.1 h.2.1).2.1.1.2.2 (ρ' u) ql
  have e76 : M 76 = Mr 76 := q1.1 76 (by decide) (by decide) (by decide) (by decide) (by decide) (by decide)
  obtain ⟨a1, a2, a3, a4, a5, a6, a7⟩ := nt_at (M := M) (N := N) (q := ρ' u) (a := a) (b := b)
  have old : ∀ t : Nat, t < N → nt M N (ρ' u) a b 73 t = M 73 t ∧ nt M N (ρ' u) a b 74 t = M 74 t ∧ nt M N (ρ' u) a b 75 t = M 75 t := fun t ht => by
    rw [a1, a2, a3, if_neg (by omega), if_neg (by omega), if_neg (by omega)]; exact ⟨rfl, rfl, rfl⟩
  have wt : WTm (nt M N (ρ' u) a b) (N + 1) := fun t htN => by
    by_cases e : t = N
    · subst e
      rw [a1, a2, a3, if_pos rfl, if_pos rfl, if_pos rfl]
      exact ⟨by rw [e76]; exact k5.1, hr.1, hr.2⟩
    · rw [(old t (by omega)).1, (old t (by omega)).2.1, (old t (by omega)).2.2]
      exact q3 t (by omega)
  have eu : uN (nt M N (ρ' u) a b) n' + 1 = uN M n' := uN_up ql h0 (v := (N : Int)) (by omega) a4
  refine ⟨⟨Rk_trans q1 ⟨fun c h1 h2 h3 h4 h5 _ => a7 c h1 h2 h3 h4 h5, a6, fun t ht => old t (by omega), by rw [a5]; omega⟩, a5, wt, by omega, fun d v td => ?_⟩, eu⟩
  rw [a4]
  by_cases e : ρ' v = ρ' u
  · rw [if_pos e]
    refine Or.inr ⟨N, rfl, by omega, ?_⟩
    rw [tg.1 d c (T_c h td tt e)]
    exact ht _ wt (by rw [a1, if_pos rfl]) (by rw [a2, if_pos rfl]) (by rw [a3, if_pos rfl]) (fun t htN => trm_eq q3 old htN)
  · rw [if_neg e]
    rcases q5 d v td with z | ⟨t', z1, z2, z3⟩
    · exact Or.inl z
    · exact Or.inr ⟨t', z1, by omega, by rw [trm_eq q3 old z2]; exact z3⟩
/-- the outcome -/
def OutK (Mr : Mm) (S : Nat → Nat → Prop) (n n' : Nat) (ρ ρ' : Nat → Nat) (T : Nat → Ty) (lim : Nat) (x1 : Int) (c u : Nat) (L : List Nat) (M : Mm) (f : Nat) : Prop :=
  ∃ (t : Nat) (N' : Nat) (M' : Mm) (f' : Nat), l235 f 9 M x1 ((u :: L).length : Int) 0 0 0 = l235 f' 9 M' x1 (L.length : Int) 0 0 0 ∧ KQ Mr S n n' ρ ρ' T lim M' N' ∧ M' 81 (ρ' u) = (t : Int) ∧ sk M' 82 L ∧ uN M' n' < uN M n' ∧ f + 60 * uN M' n' ≤ f' + 60 * uN M n' ∧ (∀ y, M 81 y ≠ -1 → M' 81 y = M 81 y) ∧ ∀ d v, Tt S n n' ρ ρ' d v → hT (T c) < hT (T d) → M' 81 (ρ' v) = M 81 (ρ' v)
def PartK (Mr : Mm) (S : Nat → Nat → Prop) (n n' : Nat) (ρ ρ' : Nat → Nat) (T : Nat → Ty) (lim u a a' : Nat) (L : List Nat) (M : Mm) (f : Nat) (e0 : Option (Int × Mm)) (e1 : Nat → Mm → Option (Int × Mm)) : Prop :=
  ∃ (t : Nat) (N' : Nat) (M' : Mm) (f' : Nat), e0 = e1 f' M' ∧ KQ Mr S n n' ρ ρ' T lim M' N' ∧ (M' 81 a' = (t : Int) ∧ t < N' ∧ trm M' t = T a) ∧ M' 81 (ρ' u) = -1 ∧ sk M' 82 (u :: L) ∧ uN M' n' ≤ uN M n' ∧ f + 60 * uN M' n' ≤ f' + 60 * uN M n' + 9 ∧ (∀ y, M 81 y ≠ -1 → M' 81 y = M 81 y) ∧ ∀ d v, Tt S n n' ρ ρ' d v → hT (T a) < hT (T d) → M' 81 (ρ' v) = M 81 (ρ' v)
theorem part_KA {M : Mm} {N : Nat} {x1 : Int} {c u a a' f : Nat} {L : List Nat} (h : Fin2 Mc Mr S n n' cs ρ ρ') (q : KQ Mr S n n' ρ ρ' T lim M N) (tt : Tt S n n' ρ ρ' c u) (ta : Tt S n n' ρ ρ' a a') (ra : ρ' a' = a') (eA : rtA Mr ρ' (ρ' u) = (a' : Int)) (hs : sk M 82 (u :: L)) (hL : L.length ≤ 14000) (h0 : M 81 (ρ' u) = -1) (hh : hT (T a) < hT (T c)) (hf : 60 * uN M n' + 20 * (hT (T c) + 1) ≤ f)
    (ih : ∀ (f : Nat) (M : Mm), KQ Mr S n n' ρ ρ' T lim M N → sk M 82 (a' :: u :: L) → M 81 (ρ' a') = -1 → 60 * uN M n' + 20 * (hT (T a) + 1) ≤ f → OutK Mr S n n' ρ ρ' T lim x1 a a' (u :: L) M f) :
    PartK Mr S n n' ρ ρ' T lim u a a' L M f (l235 f 9 M x1 ((u :: L).length : Int) 0 0 0) (fun f' M' => l235 f' 135 M' x1 ((u :: L).length : Int) (ρ' u : Int) (rtA Mr ρ' (ρ' u)) (rtB Mr ρ' (ρ' u))) := by
  have hn' := h.2.1.1.2.1
  have hu := (T_lt tt).2
  have ha := (T_lt ta).2
  have ql := (h.2.1.2.2 u hu).1
  have hd : ∀ (N' : Mm) (C : Nat) (g : Nat), KQ Mr S n n' ρ ρ' T lim N' C → sk N' 82 (u :: L) → 3 ≤ g → ∃ g', g ≤ g' + 3 ∧ l235 g 9 N' x1 ((u :: L).length : Int) 0 0 0 = l235 g' 88 N' x1 ((u :: L).length : Int) (ρ' u : Int) (rtA Mr ρ' (ρ' u)) (rtB Mr ρ' (ρ' u)) := by
    intro N' C g nq sk hg
    obtain ⟨f1, g1, g2⟩ := l235_head (x1 := x1) (f := g - 3) (KQ_fin h nq).2.1 hu rfl sk (by omega)
    rw [Nat.sub_add_cancel hg, (rtK nq _).1, (rtK nq _).2.1] at g2
    exact ⟨f1, by omega, g2⟩
  obtain ⟨f1, g1, g2⟩ := hd M N f q hs (by omega)
  by_cases m : M 81 a' = -1
  · obtain ⟨f2, rfl⟩ : ∃ f2, f1 = f2 + 2 := ⟨f1 - 2, by omega⟩
    have hl : (u :: L).length ≤ 15900 := by simp; omega
    have e81 : (up M 82 (u :: L).length (a' : Int)) 81 = M 81 := up_cell (by decide)
    have eu : uN (up M 82 (u :: L).length (a' : Int)) n' = uN M n' := uN_eq (fun y => by rw [e81])
    have e3 := l235_pA (f := f2) (x1 := x1) (B := rtB Mr ρ' (ρ' u)) (len := (u :: L).length) (show ρ' u < 4000 by omega) hl h0 eA (by omega) m
    rw [g2, e3]
    obtain ⟨t, C, M1, f3, y2, y3, y4, y5, y6, y7, y8, y9⟩ := ih f2 (up M 82 (u :: L).length (a' : Int)) (KQ_82 q) ⟨up_same _ _ _ _, sk_eq (fun i hi => up_at (by omega)) hs⟩ (by rw [e81, ra]; exact m) (by rw [eu]; omega)
    rw [eu] at y6 y7
    have y2 : l235 f2 9 (up M 82 (u :: L).length (a' : Int)) x1 (((u :: L).length + 1 : Nat) : Int) 0 0 0 = l235 f3 9 M1 x1 ((u :: L).length : Int) 0 0 0 := y2
    rw [ra] at y4
    have m1 : M1 81 (ρ' u) = -1 := by rw [y9 c u tt hh, e81]; exact h0
    obtain ⟨f4, g3, g4⟩ := hd M1 C f3 y3 y5 (by omega)
    obtain ⟨f5, rfl⟩ : ∃ f5, f4 = f5 + 1 := ⟨f4 - 1, by omega⟩
    have e5 := l235_nA (f := f5) (x1 := x1) (B := rtB Mr ρ' (ρ' u)) (len := (u :: L).length) (show ρ' u < 4000 by omega) m1 (Or.inr ⟨a', eA, by omega, by omega⟩)
    have qq := y3.2.2.2.2 a a' ta
    rw [ra, y4] at qq
    refine ⟨t, C, M1, f5, ?_, y3, ⟨y4, ?_⟩, m1, y5, by omega, by omega, fun y hy => ?_, fun d v td hdv => ?_⟩
    · rw [y2, g4, e5]
    · rcases qq with z | ⟨t', z1, z2, z3⟩
      · omega
      · obtain rfl : t' = t := by omega
        exact ⟨z2, z3⟩
    · rw [y8 y (by rw [e81]; exact hy), e81]
    · rw [y9 d v td hdv, e81]
  · obtain ⟨f5, rfl⟩ : ∃ f5, f1 = f5 + 1 := ⟨f1 - 1, by omega⟩
    have e5 := l235_nA (f := f5) (x1 := x1) (B := rtB Mr ρ' (ρ' u)) (len := (u :: L).length) (show ρ' u < 4000 by omega) h0 (Or.inr ⟨a', eA, by omega, m⟩)
    have qq := q.2.2.2.2 a a' ta
    rw [ra] at qq
    rcases qq with z | ⟨t, z1, z2⟩
    · exact absurd z m
    · exact ⟨t, N, M, f5, by rw [g2, e5], q, ⟨z1, z2⟩, h0, hs, Nat.le_refl _, by omega, fun _ _ => rfl, fun _ _ _ _ => rfl⟩
theorem part_KB {M : Mm} {N : Nat} {x1 : Int} {c u a' b b' l f : Nat} {L : List Nat} (h : Fin2 Mc Mr S n n' cs ρ ρ') (q : KQ Mr S n n' ρ ρ' T lim M N) (tt : Tt S n n' ρ ρ' c u) (ta : Tt S n n' ρ ρ' b b') (ra : ρ' b' = b') (la : a' < n') (eA : rtA Mr ρ' (ρ' u) = (a' : Int)) (eB : rtB Mr ρ' (ρ' u) = (b' : Int)) (ma : M 81 a' = (l : Int)) (hs : sk M 82 (u :: L)) (hL : L.length ≤ 14000) (h0 : M 81 (ρ' u) = -1) (hh : hT (T b) < hT (T c)) (hf : 60 * uN M n' + 20 * (hT (T b) + 1) + 5 ≤ f)
    (ih : ∀ (f : Nat) (M : Mm), KQ Mr S n n' ρ ρ' T lim M N → sk M 82 (b' :: u :: L) → M 81 (ρ' b') = -1 → 60 * uN M n' + 20 * (hT (T b) + 1) ≤ f → OutK Mr S n n' ρ ρ' T lim x1 b b' (u :: L) M f) :
    PartK Mr S n n' ρ ρ' T lim u b b' L M f (l235 f 135 M x1 ((u :: L).length : Int) (ρ' u : Int) (rtA Mr ρ' (ρ' u)) (rtB Mr ρ' (ρ' u))) (fun f' M' => l235 f' 166 M' x1 ((u :: L).length : Int) (ρ' u : Int) (rtA Mr ρ' (ρ' u)) (rtB Mr ρ' (ρ' u))) := by
  have hn' := h.2.1.1.2.1
  have hu := (T_lt tt).2
  have ha := (T_lt ta).2
  have ql := (h.2.1.2.2 u hu).1
  have hd : ∀ (N' : Mm) (C : Nat) (g : Nat), KQ Mr S n n' ρ ρ' T lim N' C → sk N' 82 (u :: L) → 3 ≤ g → ∃ g', g ≤ g' + 3 ∧ l235 g 9 N' x1 ((u :: L).length : Int) 0 0 0 = l235 g' 88 N' x1 ((u :: L).length : Int) (ρ' u : Int) (rtA Mr ρ' (ρ' u)) (rtB Mr ρ' (ρ' u)) := by
    intro N' C g nq sk hg
    obtain ⟨f1, g1, g2⟩ := l235_head (x1 := x1) (f := g - 3) (KQ_fin h nq).2.1 hu rfl sk (by omega)
    rw [Nat.sub_add_cancel hg, (rtK nq _).1, (rtK nq _).2.1] at g2
    exact ⟨f1, by omega, g2⟩
  by_cases m : M 81 b' = -1
  · obtain ⟨f2, rfl⟩ : ∃ f2, f = f2 + 2 := ⟨f - 2, by omega⟩
    have hl : (u :: L).length ≤ 15900 := by simp; omega
    have e81 : (up M 82 (u :: L).length (b' : Int)) 81 = M 81 := up_cell (by decide)
    have eu : uN (up M 82 (u :: L).length (b' : Int)) n' = uN M n' := uN_eq (fun y => by rw [e81])
    have e3 := l235_pB (f := f2) (x1 := x1) (q := ρ' u) (A := rtA Mr ρ' (ρ' u)) (len := (u :: L).length) hl eB (by omega) m
    rw [e3]
    obtain ⟨t, C, M1, f3, y2, y3, y4, y5, y6, y7, y8, y9⟩ := ih f2 (up M 82 (u :: L).length (b' : Int)) (KQ_82 q) ⟨up_same _ _ _ _, sk_eq (fun i hi => up_at (by omega)) hs⟩ (by rw [e81, ra]; exact m) (by rw [eu]; omega)
    rw [eu] at y6 y7
    have y2 : l235 f2 9 (up M 82 (u :: L).length (b' : Int)) x1 (((u :: L).length + 1 : Nat) : Int) 0 0 0 = l235 f3 9 M1 x1 ((u :: L).length : Int) 0 0 0 := y2
    rw [ra] at y4
    have m1 : M1 81 (ρ' u) = -1 := by rw [y9 c u tt hh, e81]; exact h0
    have ma1 : M1 81 a' = (l : Int) := by rw [y8 a' (by rw [e81, ma]; omega), e81]; exact ma
    obtain ⟨f4, g3, g4⟩ := hd M1 C f3 y3 y5 (by omega)
    obtain ⟨f5, rfl⟩ : ∃ f5, f4 = f5 + 2 := ⟨f4 - 2, by omega⟩
    have e5 := l235_nA (f := f5 + 1) (x1 := x1) (B := rtB Mr ρ' (ρ' u)) (len := (u :: L).length) (show ρ' u < 4000 by omega) m1 (Or.inr ⟨a', eA, by omega, by omega⟩)
    have e6 := l235_nB (M := M1) (f := f5) (x1 := x1) (q := ρ' u) (A := rtA Mr ρ' (ρ' u)) (len := (u :: L).length) (Or.inr ⟨b', eB, by omega, by omega⟩)
    have qq := y3.2.2.2.2 b b' ta
    rw [ra, y4] at qq
    refine ⟨t, C, M1, f5, ?_, y3, ⟨y4, ?_⟩, m1, y5, by omega, by omega, fun y hy => ?_, fun d v td hdv => ?_⟩
    · rw [y2, g4, e5, e6]
    · rcases qq with z | ⟨t', z1, z2, z3⟩
      · omega
      · obtain rfl : t' = t := by omega
        exact ⟨z2, z3⟩
    · rw [y8 y (by rw [e81]; exact hy), e81]
    · rw [y9 d v td hdv, e81]
  · obtain ⟨f5, rfl⟩ : ∃ f5, f = f5 + 1 := ⟨f - 1, by omega⟩
    have e5 := l235_nB (M := M) (f := f5) (x1 := x1) (q := ρ' u) (A := rtA Mr ρ' (ρ' u)) (len := (u :: L).length) (Or.inr ⟨b', eB, by omega, m⟩)
    have qq := q.2.2.2.2 b b' ta
    rw [ra] at qq
    rcases qq with z | ⟨t, z1, z2⟩
    · exact absurd z m
    · exact ⟨t, N, M, f5, by rw [e5], q, ⟨z1, z2⟩, h0, hs, Nat.le_refl _, by omega, fun _ _ => rfl, fun _ _ _ _ => rfl⟩
end TK
