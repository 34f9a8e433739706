/-! TWO such joinings of what is the same: S c u says that node c of the one is node u of the other; numbers and truth values (kinds 0, 1) are one node here and may be many there. -/
def Ss (n n' : Nat) (K A B K' A' B' : Nat → Nat) (S : Nat → Nat → Prop) : Prop :=
  (∀ c u, S c u → c < n ∧ u < n' ∧ K c = K' u ∧ ((3 ≤ K c ∧ K c ≤ 4) → S (A c) (A' u)) ∧ (K c = 4 → S (B c) (B' u))) ∧
  (∀ c u v, S c u → S c v → u = v ∨ K c ≤ 1) ∧ (∀ c d u, S c u → S d u → c = d)
/-- what is asked is the same -/
def Sc (S : Nat → Nat → Prop) (cs cs' : List (Nat × Nat)) : Prop := (∀ p ∈ cs', ∃ q ∈ cs, S q.1 p.1 ∧ S q.2 p.2) ∧ (∀ q ∈ cs, ∃ p ∈ cs', S q.1 p.1 ∧ S q.2 p.2)
def Er (S : Nat → Nat → Prop) (ρ : Nat → Nat) (u v : Nat) : Prop := u = v ∨ ∃ c d, S c u ∧ S d v ∧ ρ c = ρ d
def Ec (S : Nat → Nat → Prop) (K' ρ' : Nat → Nat) (c d : Nat) : Prop := c = d ∨ ∃ u v, S c u ∧ S d v ∧ (ρ' u = ρ' v ∨ (K' (ρ' u) = K' (ρ' v) ∧ K' (ρ' u) ≤ 1))
section TWO
variable {n n' : Nat} {K A B ρ K' A' B' ρ' : Nat → Nat} {cs cs' : List (Nat × Nat)} {S : Nat → Nat → Prop}
theorem Er_clo (hS : Ss n n' K A B K' A' B' S) (h : Ui n K A B ρ [] cs) : clo n' K' A' B' (Er S ρ) := by
  obtain ⟨s1, s2, s3⟩ := hS
  refine ⟨⟨fun x => Or.inl rfl, fun x y q => ?_, fun x y z q r => ?_⟩, fun x y _ _ q hk => ?_⟩
  · rcases q with rfl | ⟨c, d, a, b, e⟩
    · exact Or.inl rfl
    · exact Or.inr ⟨d, c, b, a, e.symm⟩
  · rcases q with rfl | ⟨c, d, a, b, e⟩
    · exact r
    · rcases r with rfl | ⟨c', d', a', b', e'⟩
      · exact Or.inr ⟨c, d, a, b, e⟩
      · cases s3 d c' y b a'
        exact Or.inr ⟨c, d', a, b', e.trans e'⟩
  · rcases q with rfl | ⟨c, d, a, b, e⟩
    · exact ⟨fun _ => Or.inl rfl, fun _ => Or.inl rfl⟩
    · obtain ⟨a1, a2, a3, a4, a5⟩ := s1 c x a
      obtain ⟨b1, b2, b3, b4, b5⟩ := s1 d y b
      have hcd : K c = K d := by rw [a3, b3]; exact hk
      obtain ⟨q1, q2⟩ := (Ui_clo h).2 c d a1 b1 e hcd
      rw [← a3]
      exact ⟨fun k9 => Or.inr ⟨_, _, a4 k9, b4 (by rw [← hcd]; exact k9), q1 k9⟩, fun k9 => Or.inr ⟨_, _, a5 k9, b5 (by rw [← hcd]; exact k9), q2 k9⟩⟩
theorem Er_cs (hc : Sc S cs cs') (h : Ui n K A B ρ [] cs) : ∀ p ∈ cs', Er S ρ p.1 p.2 := by
  intro p hp
  obtain ⟨q, hq, a, b⟩ := hc.1 p hp
  exact Or.inr ⟨_, _, a, b, Ui_cs h hq⟩
theorem Er_no (hS : Ss n n' K A B K' A' B' S) (h : Ui n K A B ρ [] cs) : ¬ clash n' K' (Er S ρ) := by
  rintro ⟨x, y, hx, hy, e, h1, h2, h3⟩
  rcases e with rfl | ⟨c, d, a, b, e⟩
  · exact h3 rfl
  · obtain ⟨a1, a2, a3, -⟩ := hS.1 c x a
    obtain ⟨b1, b2, b3, -⟩ := hS.1 d y b
    rw [← a3] at h1 h3
    rw [← b3] at h2 h3
    exact Ui_no h ⟨c, d, a1, b1, e, h1, h2, h3⟩
theorem Ec_clo (hS : Ss n n' K A B K' A' B' S) (h : Ui n' K' A' B' ρ' [] cs') : clo n K A B (Ec S K' ρ') := by
  obtain ⟨s1, s2, s3⟩ := hS
  refine ⟨⟨fun x => Or.inl rfl, fun x y q => ?_, fun x y z q r => ?_⟩, fun x y _ _ q hk => ?_⟩
  · rcases q with rfl | ⟨c, d, a, b, e⟩
    · exact Or.inl rfl
    · exact Or.inr ⟨d, c, b, a, e.elim (fun q => Or.inl q.symm) (fun q => Or.inr ⟨q.1.symm, by rw [← q.1]; exact q.2⟩)⟩
  · rcases q with rfl | ⟨c, d, a, b, e⟩
    · exact r
    · rcases r with rfl | ⟨c', d', a', b', e'⟩
      · exact Or.inr ⟨c, d, a, b, e⟩
      · refine Or.inr ⟨c, d', a, b', ?_⟩
        have kd : K' (ρ' d) = K' (ρ' c') → K' (ρ' d) ≤ 1 → (ρ' c = ρ' d' ∨ (K' (ρ' c) = K' (ρ' d') ∧ K' (ρ' c) ≤ 1)) := by
          intro g1 g2
          have g3 : K' (ρ' c) = K' (ρ' d) := e.elim (fun q => by rw [q]) (fun q => q.1)
          have g4 : K' (ρ' c') = K' (ρ' d') := e'.elim (fun q => by rw [q]) (fun q => q.1)
          exact Or.inr ⟨by rw [g3, g1, g4], by rw [g3]; exact g2⟩
        rcases s2 y d c' b a' with g | g
        · subst g
          rcases e with e | e
          · rcases e' with e' | e'
            · exact Or.inl (e.trans e')
            · exact Or.inr ⟨by rw [e]; exact e'.1, by rw [e]; exact e'.2⟩
          · exact kd rfl (by rw [← e.1]; exact e.2)
        · obtain ⟨b1, b2, b3, -⟩ := s1 y d b
          obtain ⟨c1, c2, c3, -⟩ := s1 y c' a'
          have k1 := Ui_K h b2 (by omega)
          have k2 := Ui_K h c2 (by omega)
          exact kd (by omega) (by omega)
  · rcases q with rfl | ⟨c, d, a, b, e⟩
    · exact ⟨fun _ => Or.inl rfl, fun _ => Or.inl rfl⟩
    · obtain ⟨a1, a2, a3, a4, a5⟩ := s1 x c a
      obtain ⟨b1, b2, b3, b4, b5⟩ := s1 y d b
      have ee : 3 ≤ K x → ρ' c = ρ' d := fun k9 => by
        rcases e with e | e
        · exact e
        · have k1 := Ui_K h a2 (by omega)
          omega
      have hcd : K' c = K' d := by omega
      refine ⟨fun k9 => Or.inr ⟨_, _, a4 k9, b4 (by omega), Or.inl ?_⟩, fun k9 => Or.inr ⟨_, _, a5 k9, b5 (by omega), Or.inl ?_⟩⟩
      · exact ((Ui_clo h).2 c d a2 b2 (ee (by omega)) hcd).1 (by omega)
      · exact ((Ui_clo h).2 c d a2 b2 (ee (by omega)) hcd).2 (by omega)
theorem Ec_cs (hc : Sc S cs cs') (h : Ui n' K' A' B' ρ' [] cs') : ∀ p ∈ cs, Ec S K' ρ' p.1 p.2 := by
  intro q hq
  obtain ⟨p, hp, a, b⟩ := hc.2 q hq
  exact Or.inr ⟨_, _, a, b, Or.inl (Ui_cs h hp)⟩
theorem Ec_no (hS : Ss n n' K A B K' A' B' S) (h : Ui n' K' A' B' ρ' [] cs') : ¬ clash n K (Ec S K' ρ') := by
  rintro ⟨x, y, hx, hy, e, h1, h2, h3⟩
  rcases e with rfl | ⟨c, d, a, b, e⟩
  · exact h3 rfl
  · obtain ⟨a1, a2, a3, -⟩ := hS.1 x c a
    obtain ⟨b1, b2, b3, -⟩ := hS.1 y d b
    have k1 := Ui_K h a2 (by omega)
    have k2 := Ui_K h b2 (by omega)
    rcases e with e | e
    · rw [e] at k1; omega
    · omega
/-- nodes whose roots are the same -/
def Tt (S : Nat → Nat → Prop) (n n' : Nat) (ρ ρ' : Nat → Nat) (c u : Nat) : Prop := c < n ∧ u < n' ∧ ∃ c0 u0, S c0 u0 ∧ ρ c0 = ρ c ∧ ρ' u0 = ρ' u
section TT
theorem Er_rt (hS : Ss n n' K A B K' A' B' S) (hc : Sc S cs cs') (h : Ui n K A B ρ [] cs) (h' : Ui n' K' A' B' ρ' [] cs') {u : Nat} (hu : u < n') : Er S ρ u (ρ' u) := (h'.2.2.1 _ (Er_clo hS h) (Er_cs hc h)).1 u hu
theorem Ec_rt (hS : Ss n n' K A B K' A' B' S) (hc : Sc S cs cs') (h : Ui n K A B ρ [] cs) (h' : Ui n' K' A' B' ρ' [] cs') {c : Nat} (hu : c < n) : Ec S K' ρ' c (ρ c) := (h.2.2.1 _ (Ec_clo hS h') (Ec_cs hc h')).1 c hu
theorem Tt_of (hS : Ss n n' K A B K' A' B' S) {c u : Nat} (q : S c u) : Tt S n n' ρ ρ' c u := ⟨(hS.1 c u q).1, (hS.1 c u q).2.1, c, u, q, rfl, rfl⟩
theorem Tt_rt (h : Ui n K A B ρ [] cs) (h' : Ui n' K' A' B' ρ' [] cs') {c u : Nat} : Tt S n n' ρ ρ' c u → Tt S n n' ρ ρ' (ρ c) (ρ' u) := by
  rintro ⟨a, b, c0, u0, q1, q2, q3⟩
  exact ⟨(h.1 c a).1, (h'.1 u b).1, c0, u0, q1, by rw [(h.1 c a).2]; exact q2, by rw [(h'.1 u b).2]; exact q3⟩
/-- the kinds of the roots -/
theorem Tt_K (hS : Ss n n' K A B K' A' B' S) (hc : Sc S cs cs') (h : Ui n K A B ρ [] cs) (h' : Ui n' K' A' B' ρ' [] cs') {c u : Nat} (q : Tt S n n' ρ ρ' c u) : K (ρ c) = K' (ρ' u) := by
  obtain ⟨hcn, hun, c0, u0, q1, q2, q3⟩ := q
  rw [← q2, ← q3]
  obtain ⟨a1, a2, a3, -⟩ := hS.1 c0 u0 q1
  by_cases k2 : K (ρ c0) = 2
  · have k0 : K c0 = 2 := by
      apply Classical.byContradiction
      intro hk
      have := Ui_K h a1 hk
      omega
    rw [k2]
    apply Classical.byContradiction
    intro hk
    rcases Er_rt hS hc h h' a2 with e | ⟨d, d', b1, b2, b3⟩
    · rw [← e, ← a3] at hk
      exact hk k0.symm
    · cases hS.2.2 d c0 u0 b1 q1
      obtain ⟨d1, d2, d3, -⟩ := hS.1 d' _ b2
      have := Ui_K h d1 (by omega)
      rw [← b3] at this
      omega
  · rcases Ec_rt hS hc h h' a1 with e | ⟨u, v, b1, b2, b3⟩
    · have := Ui_K h' a2 (by rw [← a3, e]; exact k2)
      rw [this, ← a3, ← e]
    · obtain ⟨v1, v2, v3, -⟩ := hS.1 _ _ b2
      have kv := Ui_K h' v2 (by omega)
      rcases hS.2.1 c0 u u0 b1 q1 with g | g
      · subst g
        rcases b3 with b3 | b3
        · rw [b3, kv, v3]
        · rw [b3.1, kv, v3]
      · have e1 := Ui_K h a1 (by omega)
        have e2 := Ui_K h' a2 (by omega)
        omega
/-- a root that is made of parts has its like -/
theorem Tt_up (hS : Ss n n' K A B K' A' B' S) (hc : Sc S cs cs') (h : Ui n K A B ρ [] cs) (h' : Ui n' K' A' B' ρ' [] cs') {c u : Nat} (q : Tt S n n' ρ ρ' c u) (hk : 3 ≤ K (ρ c)) : ∃ v, S (ρ c) v ∧ ρ' v = ρ' u := by
  obtain ⟨hcn, hun, c0, u0, q1, q2, q3⟩ := q
  rw [← q2] at hk ⊢
  rw [← q3]
  obtain ⟨a1, a2, a3, -⟩ := hS.1 c0 u0 q1
  rcases Ec_rt hS hc h h' a1 with e | ⟨u, v, b1, b2, b3⟩
  · rw [← e]
    exact ⟨u0, q1, rfl⟩
  · refine ⟨v, b2, ?_⟩
    obtain ⟨v1, v2, v3, -⟩ := hS.1 _ _ b2
    have kv := Ui_K h' v2 (by omega)
    rcases hS.2.1 c0 u u0 b1 q1 with g | g
    · subst g
      rcases b3 with b3 | b3
      · exact b3.symm
      · omega
    · have := Ui_K h a1 (by omega)
      omega
theorem Tt_A (hS : Ss n n' K A B K' A' B' S) (hc : Sc S cs cs') (h : Ui n K A B ρ [] cs) (h' : Ui n' K' A' B' ρ' [] cs') {c u : Nat} (q : Tt S n n' ρ ρ' c u) (hk : 3 ≤ K (ρ c) ∧ K (ρ c) ≤ 4) : Tt S n n' ρ ρ' (A (ρ c)) (A' (ρ' u)) := by
  obtain ⟨v, b1, b2⟩ := Tt_up hS hc h h' q hk.1
  obtain ⟨v1, v2, v3, v4, v5⟩ := hS.1 _ _ b1
  obtain ⟨w1, w2, -⟩ := hS.1 _ _ (v4 hk)
  have e := Ui_A h' v2 (by omega)
  have e2 := h'.2.2.2.2.2.2 (ρ' v) ((h'.1 v v2).1)
  rw [Ui_K h' v2 (by omega)] at e2
  rw [← b2]
  exact ⟨w1, e2.1 (by omega), _, _, v4 hk, rfl, e⟩
theorem Tt_B (hS : Ss n n' K A B K' A' B' S) (hc : Sc S cs cs') (h : Ui n K A B ρ [] cs) (h' : Ui n' K' A' B' ρ' [] cs') {c u : Nat} (q : Tt S n n' ρ ρ' c u) (hk : K (ρ c) = 4) : Tt S n n' ρ ρ' (B (ρ c)) (B' (ρ' u)) := by
  obtain ⟨v, b1, b2⟩ := Tt_up hS hc h h' q (by omega)
  obtain ⟨v1, v2, v3, v4, v5⟩ := hS.1 _ _ b1
  obtain ⟨w1, w2, -⟩ := hS.1 _ _ (v5 hk)
  have e := Ui_B h' v2 (by omega)
  have e2 := h'.2.2.2.2.2.2 (ρ' v) ((h'.1 v v2).1)
  rw [Ui_K h' v2 (by omega)] at e2
  rw [← b2]
  exact ⟨w1, e2.2 (by omega), _, _, v5 hk, rfl, e⟩
theorem Tt_c (hS : Ss n n' K A B K' A' B' S) (hc : Sc S cs cs') (h : Ui n K A B ρ [] cs) (h' : Ui n' K' A' B' ρ' [] cs') {c d u v : Nat} (q : Tt S n n' ρ ρ' c u) (r : Tt S n n' ρ ρ' d v) (e : ρ' u = ρ' v) : ρ c = ρ d := by
  obtain ⟨-, -, c0, u0, q1, q2, q3⟩ := q
  obtain ⟨-, -, d0, v0, r1, r2, r3⟩ := r
  obtain ⟨a1, a2, -⟩ := hS.1 c0 u0 q1
  obtain ⟨b1, b2, -⟩ := hS.1 d0 v0 r1
  have e1 := Er_rt hS hc h h' a2
  have e2 := Er_rt hS hc h h' b2
  rw [q3, e, ← r3] at e1
  have E := (Er_clo hS h).1
  rcases E.2.2 _ _ _ e1 (E.2.1 _ _ e2) with g | ⟨x, y, g1, g2, g3⟩
  · subst g
    cases hS.2.2 c0 d0 u0 q1 r1
    rw [← q2, ← r2]
  · cases hS.2.2 x c0 u0 g1 q1
    cases hS.2.2 y d0 v0 g2 r1
    rw [← q2, ← r2, g3]
theorem Tt_u (hS : Ss n n' K A B K' A' B' S) (hc : Sc S cs cs') (h : Ui n K A B ρ [] cs) (h' : Ui n' K' A' B' ρ' [] cs') {c d u v : Nat} (q : Tt S n n' ρ ρ' c u) (r : Tt S n n' ρ ρ' d v) (e : ρ c = ρ d) : ρ' u = ρ' v ∨ K (ρ c) ≤ 1 := by
  have hk := Tt_K hS hc h h' q
  have hk2 := Tt_K hS hc h h' r
  obtain ⟨-, -, c0, u0, q1, q2, q3⟩ := q
  obtain ⟨-, -, d0, v0, r1, r2, r3⟩ := r
  obtain ⟨a1, a2, a3, -⟩ := hS.1 c0 u0 q1
  obtain ⟨b1, b2, b3, -⟩ := hS.1 d0 v0 r1
  have e1 := Ec_rt hS hc h h' a1
  have e2 := Ec_rt hS hc h h' b1
  rw [q2, e, ← r2] at e1
  have E := (Ec_clo hS h').1
  have low : K c0 ≤ 1 → K (ρ c) ≤ 1 := fun g => by
    have := Ui_K h a1 (by omega)
    rw [q2] at this
    omega
  have low2 : K d0 ≤ 1 → K (ρ c) ≤ 1 := fun g => by
    have := Ui_K h b1 (by omega)
    rw [r2, ← e] at this
    omega
  rcases E.2.2 _ _ _ e1 (E.2.1 _ _ e2) with g | ⟨x, y, g1, g2, g3⟩
  · subst g
    rcases hS.2.1 c0 u0 v0 q1 r1 with g | g
    · subst g
      exact Or.inl (by rw [← q3, ← r3])
    · exact Or.inr (low g)
  · rcases hS.2.1 c0 x u0 g1 q1 with i | i
    · rcases hS.2.1 d0 y v0 g2 r1 with j | j
      · subst i j
        rcases g3 with g3 | g3
        · exact Or.inl (by rw [← q3, ← r3, g3])
        · right
          rw [hk, ← q3]
          exact g3.2
      · exact Or.inr (low2 j)
    · exact Or.inr (low i)
end TT
end TWO
