/-! The two graphs, done: what is the same in them. -/
def Fin2 (Mc Mr : Mm) (S : Nat → Nat → Prop) (n n' : Nat) (cs : List (Nat × Nat)) (ρ ρ' : Nat → Nat) : Prop := Fg Mc n ρ ∧ Fr Mr n' ρ' ∧ (Mc 26 0 = 0 ∧ Mc 26 1 = 1 ∧ (∀ c, 2 ≤ c → c < n → ∃ u, S c u) ∧ ∀ u, u < n' → (3 ≤ Mr 76 u ∧ Mr 76 u ≤ 4) → (∃ c, S c u) ∨ (Mr 76 u = 3 ∧ Mr 76 (Mr 77 u).toNat = 2)) ∧ Ssm Mc Mr n n' S ∧ ∃ cs', Sc S cs cs' ∧ Ui n (gN Mc 26) (gN Mc 27) (gN Mc 28) ρ [] cs ∧ Ui n' (gN Mr 76) (gN Mr 77) (gN Mr 78) ρ' [] cs'
theorem Fin2_of {Mc Mr : Mm} {S : Nat → Nat → Prop} {n n' : Nat} {cs : List (Nat × Nat)} (h : Tw Mc Mr S n n' cs) : ∃ ρ ρ', Fin2 Mc Mr S n n' cs ρ ρ' := by
  obtain ⟨h01, J, ρ, J', ρ', cs', g, g', s, sc⟩ := h
  exact ⟨ρ, ρ', Fg_of g, Fr_of g', h01, s, cs', sc, g.2.2.2, g'.2.2.2⟩
theorem Fin2_same {Mc Mr Nc Nr : Mm} {S : Nat → Nat → Prop} {n n' : Nat} {cs : List (Nat × Nat)} {ρ ρ' : Nat → Nat} (h : Fin2 Mc Mr S n n' cs ρ ρ') (e : Nc 26 = Mc 26 ∧ Nc 27 = Mc 27 ∧ Nc 28 = Mc 28) (e' : Nr 76 = Mr 76 ∧ Nr 77 = Mr 77 ∧ Nr 78 = Mr 78) (f : Fg Nc n ρ) (f' : Fr Nr n' ρ') : Fin2 Nc Nr S n n' cs ρ ρ' := by
  obtain ⟨-, -, a, b, c⟩ := h
  refine ⟨f, f', by rw [e.1, e'.1, e'.2.1]; exact a, ?_, ?_⟩
  · unfold Ssm
    rw [gN_fr e.1, gN_fr e.2.1, gN_fr e.2.2, gN_fr e'.1, gN_fr e'.2.1, gN_fr e'.2.2]
    exact b
  · rw [gN_fr e.1, gN_fr e.2.1, gN_fr e.2.2, gN_fr e'.1, gN_fr e'.2.1, gN_fr e'.2.2]
    exact c
section FIN
variable {Mc Mr : Mm} {S : Nat → Nat → Prop} {n n' : Nat} {cs : List (Nat × Nat)} {ρ ρ' : Nat → Nat}
theorem kI {Mc : Mm} {n x : Nat} {ρ : Nat → Nat} (h : Fg Mc n ρ) (hx : x < n) : Mc 26 x = (gN Mc 26 x : Int) := by
  have := (h.1.2.2.2 x hx).1
  unfold gN
  omega
theorem kR {Mr : Mm} {n x : Nat} {ρ : Nat → Nat} (h : Fr Mr n ρ) (hx : x < n) : Mr 76 x = (gN Mr 76 x : Int) := by
  have := (h.1.2.2 x hx).1
  unfold gN
  omega
theorem T_lt {c u : Nat} (q : Tt S n n' ρ ρ' c u) : c < n ∧ u < n' := ⟨q.1, q.2.1⟩
theorem T_S (h : Fin2 Mc Mr S n n' cs ρ ρ') {c u : Nat} (q : S c u) : Tt S n n' ρ ρ' c u := Tt_of h.2.2.2.1 q
theorem T_k (h : Fin2 Mc Mr S n n' cs ρ ρ') {c u : Nat} (q : Tt S n n' ρ ρ' c u) : Mc 26 (ρ c) = Mr 76 (ρ' u) := by
  obtain ⟨f, f', -, s, cs', sc, u1, u2⟩ := h
  have := Tt_K s sc u1 u2 q
  obtain ⟨a, b⟩ := T_lt q
  rw [kI f (f.2.2 c a).1, kR f' (f'.2.2 u b).1, this]
theorem T_a (h : Fin2 Mc Mr S n n' cs ρ ρ') {c u : Nat} (q : Tt S n n' ρ ρ' c u) (hk : 3 ≤ Mc 26 (ρ c) ∧ Mc 26 (ρ c) ≤ 4) : Tt S n n' ρ ρ' (Mc 27 (ρ c)).toNat (Mr 77 (ρ' u)).toNat := by
  obtain ⟨f, f', -, s, cs', sc, u1, u2⟩ := h
  have := kI f (f.2.2 c (T_lt q).1).1
  exact Tt_A s sc u1 u2 q (by omega)
theorem T_b (h : Fin2 Mc Mr S n n' cs ρ ρ') {c u : Nat} (q : Tt S n n' ρ ρ' c u) (hk : Mc 26 (ρ c) = 4) : Tt S n n' ρ ρ' (Mc 28 (ρ c)).toNat (Mr 78 (ρ' u)).toNat := by
  obtain ⟨f, f', -, s, cs', sc, u1, u2⟩ := h
  have := kI f (f.2.2 c (T_lt q).1).1
  exact Tt_B s sc u1 u2 q (by omega)
theorem T_c (h : Fin2 Mc Mr S n n' cs ρ ρ') {c d u v : Nat} (q : Tt S n n' ρ ρ' c u) (r : Tt S n n' ρ ρ' d v) (e : ρ' u = ρ' v) : ρ c = ρ d := by
  obtain ⟨f, f', -, s, cs', sc, u1, u2⟩ := h
  exact Tt_c s sc u1 u2 q r e
theorem T_u (h : Fin2 Mc Mr S n n' cs ρ ρ') {c d u v : Nat} (q : Tt S n n' ρ ρ' c u) (r : Tt S n n' ρ ρ' d v) (e : ρ c = ρ d) : ρ' u = ρ' v ∨ Mc 26 (ρ c) ≤ 1 := by
  obtain ⟨f, f', -, s, cs', sc, u1, u2⟩ := h
  have := kI f (f.2.2 c (T_lt q).1).1
  rcases Tt_u s sc u1 u2 q r e with z | z
  · exact Or.inl z
  · exact Or.inr (by omega)
/-- only the roots matter -/
theorem T_r {c d u v : Nat} (q : Tt S n n' ρ ρ' c u) (hd : d < n) (hv : v < n') (e : ρ c = ρ d) (e' : ρ' u = ρ' v) : Tt S n n' ρ ρ' d v := by
  obtain ⟨-, -, c0, u0, q1, q2, q3⟩ := q
  exact ⟨hd, hv, c0, u0, q1, q2.trans e, q3.trans e'⟩
theorem mu_iff {M : Mm} {x m : Nat} : mu M ρ x m ≠ 0 ↔ ((3 ≤ M 26 x ∧ M 26 x ≤ 4) ∧ ρ (M 27 x).toNat = m) ∨ (M 26 x = 4 ∧ ρ (M 28 x).toNat = m) := by
  unfold mu
  by_cases c1 : (3 ≤ M 26 x ∧ M 26 x ≤ 4) ∧ ρ (M 27 x).toNat = m
  · rw [if_pos c1]
    exact ⟨fun _ => Or.inl c1, fun _ => by omega⟩
  · rw [if_neg c1]
    by_cases c2 : M 26 x = 4 ∧ ρ (M 28 x).toNat = m
    · rw [if_pos c2]
      exact ⟨fun _ => Or.inr c2, fun _ => by omega⟩
    · rw [if_neg c2]
      exact ⟨fun q => absurd rfl q, fun q => (q.elim c1 c2).elim⟩
theorem no_D (h : Fin2 Mc Mr S n n' cs ρ ρ') (A : Acy Mc ρ n) : ¬ Dyc Mr ρ' n' := by
  rintro ⟨U, ⟨m0, hm0⟩, hU⟩
  obtain ⟨r, -, hr⟩ := A
  have f := h.1
  have f' := h.2.1
  -- one that has its like here
  have down : ∀ k u c, U u → Tt S n n' ρ ρ' c u → r (ρ c) ≤ k → False := by
    intro k
    induction k with
    | zero =>
      intro u c hu q hk
      obtain ⟨u1, u2, m, m1, m2⟩ := hU u hu
      have kk := T_k h q
      rw [u2] at kk
      have cr := f.2.2 c (T_lt q).1
      rcases m2 with ⟨p1, p2⟩ | ⟨p1, p2⟩
      · have := hr (ρ c) (ρ (Mc 27 (ρ c)).toNat) cr.1 cr.2 (mu_iff.mpr (Or.inl ⟨by omega, rfl⟩))
        omega
      · have := hr (ρ c) (ρ (Mc 28 (ρ c)).toNat) cr.1 cr.2 (mu_iff.mpr (Or.inr ⟨by omega, rfl⟩))
        omega
    | succ k ih =>
      intro u c hu q hk
      obtain ⟨u1, u2, m, m1, m2⟩ := hU u hu
      obtain ⟨v1, v2, -⟩ := hU m m1
      have kk := T_k h q
      rw [u2] at kk
      have cr := f.2.2 c (T_lt q).1
      rcases m2 with ⟨p1, p2⟩ | ⟨p1, p2⟩
      · have := hr (ρ c) (ρ (Mc 27 (ρ c)).toNat) cr.1 cr.2 (mu_iff.mpr (Or.inl ⟨by omega, rfl⟩))
        have t := T_a h q (by omega)
        rw [u2] at t
        exact ih m (Mc 27 (ρ c)).toNat m1 (T_r t (T_lt t).1 v1 rfl (by rw [p2, v2])) (by omega)
      · have := hr (ρ c) (ρ (Mc 28 (ρ c)).toNat) cr.1 cr.2 (mu_iff.mpr (Or.inr ⟨by omega, rfl⟩))
        have t := T_b h q (by omega)
        rw [u2] at t
        exact ih m (Mc 28 (ρ c)).toNat m1 (T_r t (T_lt t).1 v1 rfl (by rw [p2, v2])) (by omega)
  have comp : ∀ u, U u → 3 ≤ Mr 76 u ∧ Mr 76 u ≤ 4 := fun u hu => by
    obtain ⟨-, -, m, -, m2⟩ := hU u hu
    rcases m2 with ⟨p1, -⟩ | ⟨p1, -⟩ <;> omega
  have rel : ∀ u c, U u → S c u → False := fun u c hu q => down _ u c hu (T_S h q) (Nat.le_refl _)
  obtain ⟨-, -, ⟨-, -, -, jk⟩, s, cs', sc, u1, u2⟩ := h
  obtain ⟨a1, a2, m, m1, m2⟩ := hU m0 hm0
  rcases jk m0 a1 (comp m0 hm0) with ⟨c, hc⟩ | ⟨j1, j2⟩
  · exact rel m0 c hm0 hc
  · rcases m2 with ⟨p1, p2⟩ | ⟨p1, p2⟩
    · have := (f'.1.2.2 m0 a1).2.1 p1
      have cm := comp m m1
      rcases Er_rt s sc u1 u2 (u := (Mr 77 m0).toNat) (by omega) with e | ⟨c, d, b1, b2, b3⟩
      · rw [← e] at p2
        rw [← p2, j2] at cm
        omega
      · rw [p2] at b2
        exact rel m d m1 b2
    · omega
theorem bnd_r (r : Nat → Nat) : ∀ n, ∃ B, ∀ x, x < n → r x ≤ B
  | 0 => ⟨0, fun x hx => absurd hx (Nat.not_lt_zero _)⟩
  | n + 1 => by
    obtain ⟨B, hB⟩ := bnd_r r n
    refine ⟨B + r n, fun x hx => ?_⟩
    by_cases e : x = n
    · subst e; omega
    · have := hB x (by omega); omega
theorem no_C (h : Fin2 Mc Mr S n n' cs ρ ρ') (A : Acr Mr ρ' n') : ¬ Cyc Mc ρ n := by
  rintro ⟨U, ⟨m0, hm0⟩, hU⟩
  obtain ⟨r, hr⟩ := A
  have f := h.1
  have f' := h.2.1
  obtain ⟨B, hB⟩ := bnd_r r n'
  obtain ⟨n1, n2, tot, -⟩ := h.2.2.1
  have has : ∀ x, U x → 3 ≤ Mc 26 x → ∃ u, Tt S n n' ρ ρ' x u := fun x hx k => by
    obtain ⟨x1, -⟩ := hU x hx
    have : 2 ≤ x := by
      apply Classical.byContradiction
      intro c
      rcases (show x = 0 ∨ x = 1 by omega) with rfl | rfl <;> omega
    obtain ⟨u, hu⟩ := tot x this x1
    exact ⟨u, T_S h hu⟩
  have user : ∀ m, U m → ∃ x, U x ∧ 3 ≤ Mc 26 x ∧ mu Mc ρ x m ≠ 0 := fun m hm => by
    obtain ⟨-, -, x, x1, x2⟩ := hU m hm
    refine ⟨x, x1, ?_, x2⟩
    rcases mu_iff.mp x2 with ⟨p, -⟩ | ⟨p, -⟩ <;> omega
  have upw : ∀ k m v, U m → 3 ≤ Mc 26 m → Tt S n n' ρ ρ' m v → B + 1 ≤ r (ρ' v) + k → False := by
    intro k
    induction k with
    | zero =>
      intro m v hm hk q hb
      have := hB (ρ' v) (f'.2.2 v (T_lt q).2).1
      omega
    | succ k ih =>
      intro m v hm hk q hb
      obtain ⟨m1, m2, -⟩ := hU m hm
      obtain ⟨x, x1, x2, x3⟩ := user m hm
      obtain ⟨u, hu⟩ := has x x1 x2
      obtain ⟨y1, y2, -⟩ := hU x x1
      have ur := f'.2.2 u (T_lt hu).2
      have kk := T_k h hu
      rw [y2] at kk
      refine ih x u x1 x2 hu ?_
      have : r (ρ' v) < r (ρ' u) := by
        rcases mu_iff.mp x3 with ⟨p1, p2⟩ | ⟨p1, p2⟩
        · have t := T_a h hu (by rw [y2]; exact p1)
          rw [y2] at t
          rcases T_u h q t (by rw [m2, p2]) with e | e
          · rw [e]
            exact hr (ρ' u) _ ur.1 ur.2 (Or.inl ⟨by omega, rfl⟩)
          · rw [m2] at e; omega
        · have t := T_b h hu (by rw [y2]; exact p1)
          rw [y2] at t
          rcases T_u h q t (by rw [m2, p2]) with e | e
          · rw [e]
            exact hr (ρ' u) _ ur.1 ur.2 (Or.inr ⟨by omega, rfl⟩)
          · rw [m2] at e; omega
      omega
  obtain ⟨x, x1, x2, -⟩ := user m0 hm0
  obtain ⟨u, hu⟩ := has x x1 x2
  exact upw (B + 1) x u x1 x2 hu (by omega)
/-- endless here and there -/
theorem end_ok (h : Fin2 Mc Mr S n n' cs ρ ρ') : ∃ (b : Int) (Mc' Mr' : Mm), f97 Mc = some (b, Mc') ∧ f225 Mr = some (b, Mr') ∧ frk Mc Mc' n ∧ (∀ a, a ≠ 80 → Mr' a = Mr a) ∧ Fin2 Mc' Mr' S n n' cs ρ ρ' ∧ ((b = 0 ∧ Acy Mc ρ n) ∨ b = 1) := by
  obtain ⟨b, Mc', e1, e2, e3, e4⟩ := f97_ok h.1
  obtain ⟨b', Mr', g1, g2, g4⟩ := f225_ok h.2.1
  have F : Fin2 Mc' Mr' S n n' cs ρ ρ' := Fin2_same h ⟨e2.1 26 (by decide) (by decide) (by decide), e2.1 27 (by decide) (by decide) (by decide), e2.1 28 (by decide) (by decide) (by decide)⟩ ⟨g2 76 (by decide), g2 77 (by decide), g2 78 (by decide)⟩ e3 (Fr_same (fun a h1 h2 => g2 a (by omega)) (by rw [g2 53 (by decide)]) h.2.1)
  rcases e4 with ⟨rfl, A⟩ | ⟨rfl, C⟩
  · rcases g4 with ⟨rfl, -⟩ | ⟨rfl, D⟩
    · exact ⟨0, Mc', Mr', e1, g1, e2, g2, F, Or.inl ⟨rfl, A⟩⟩
    · exact absurd D (no_D h A)
  · rcases g4 with ⟨rfl, A⟩ | ⟨rfl, D⟩
    · exact absurd C (no_C h A)
    · exact ⟨1, Mc', Mr', e1, g1, e2, g2, F, Or.inr rfl⟩
end FIN
