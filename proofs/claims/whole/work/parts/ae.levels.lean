/-! Run: the other side's cells stay under 6000. What folds cost in which the same cell is to be taken. -/
def sz : Ty → Nat
  | .group a _ => sz a + 1
  | .append a b => sz a + sz b + 1
  | _ => 0
theorem sz_L (a : Ty) : sz (tL a) = sz a + 1 := rfl
theorem sz_F (a b : Ty) : sz (tF a b) = sz a + sz b + 1 := rfl
theorem tL_ne {a : Ty} (h : a = tL a) : False := by
  have := congrArg sz h
  rw [sz_L] at this
  omega
def crF (M : Mm) (nu ep th : Nat → Nat) : Nat → Nat := fF M (fun k => nu k + ep k + th k)
theorem cn_add {V : Nat → Bool} {u n : Nat} (hu : u < n) (h : V u = false) : cn (fun x => V x || (x == u)) n = cn V n + 1 := cn_one hu h (by show (V u || (u == u)) = true; rw [beq_self_eq_true, Bool.or_true]) (fun x _ hx => by
  show (V x || (x == u)) = V x
  rw [show (x == u) = false from decide_eq_false hx, Bool.or_false])
/-- the lowest fold -/
theorem lowF {M : Mm} : ∀ k : Nat, qF M k → ∃ b, b ≤ k ∧ qF M b ∧ ∀ j, j < b → ¬ qF M j := by
  intro k
  induction k using Nat.strongRecOn with
  | ind k ih =>
    intro h
    by_cases e : ∃ j, j < k ∧ qF M j
    · obtain ⟨j, j1, j2⟩ := e
      obtain ⟨b, b1, b2, b3⟩ := ih j j1 j2
      exact ⟨b, by omega, b2, b3⟩
    · exact ⟨k, Nat.le_refl _, h, fun j hj q => e ⟨j, hj, q⟩⟩
theorem sm_ge {f : Nat → Nat} {j k : Nat} (h : j < k) : f j ≤ sm f k := by
  have := sm_mono (f := f) (a := j + 1) (b := k) (by omega)
  rw [sm_s] at this
  omega
theorem sm_ge2 {f : Nat → Nat} {p j k : Nat} (h1 : p < j) (h2 : j < k) : sm f p + f p + f j ≤ sm f k := by
  have a := sm_mono (f := f) (a := j + 1) (b := k) (by omega)
  have b := sm_mono (f := f) (a := p + 1) (b := j) (by omega)
  rw [sm_s] at a b
  omega
theorem sm_ge1 {f : Nat → Nat} {p k : Nat} (h1 : p < k) : sm f p + f p ≤ sm f k := by
  have b := sm_mono (f := f) (a := p + 1) (b := k) (by omega)
  rw [sm_s] at b
  omega
section LEV
variable {M : Mm} {τ : Nat → Ty} {n w c : Nat} {ρ nu ep th : Nat → Nat} {dd : Nat → Bool}
/-- what is known of the rows of folds -/
def HDs (M : Mm) (w c : Nat) (ρ : Nat → Nat) : Prop := ∀ k k', k < k' → k' < w → qF M k → qF M k' → inR M k c → inR M k' c → ρ k ≠ ρ k'
def HTy (M : Mm) (τ : Nat → Ty) (w c : Nat) (ρ : Nat → Nat) : Prop := ∀ k, k < w → qF M k → (inR M k c → τ (lF M k) = τ c) ∧ (∃ b, τ (ρ k) = tF (τ (lF M k)) b) ∧ ∃ a b, τ (gF M k) = tF a b ∧ τ (lF M k) = tL a
def HSb (M : Mm) (ρ : Nat → Nat) (k k' : Nat) : Prop := M 49 (5 * gF M k) = 4 ∧ M 49 (5 * gF M k + 1) = 7 ∧ M 49 (5 * gF M k + 2) = 2 ∧ M 49 (5 * gF M k + 4) = (ρ k' : Int)
def HAd (M : Mm) (τ : Nat → Ty) (w : Nat) (ρ ep : Nat → Nat) : Prop := ∀ k k', k < k' → k' < w → qF M k → qF M k' → (∀ j, k < j → j < k' → ¬ qF M j) → τ (lF M k) = τ (lF M k') → ep k = 1 ∨ HSb M ρ k k'
def HNu (M : Mm) (w : Nat) (nu : Nat → Nat) : Prop := ∀ k k', k < k' → k' < w → qF M k → qF M k' → nu k = 1
def HNx (M : Mm) (τ : Nat → Ty) (w : Nat) (ρ th : Nat → Nat) (dd : Nat → Bool) : Prop := ∀ k, k < w → qF M k → dd (ρ k) = true → ∃ j, j < k ∧ qF M j ∧ (∀ i, j < i → i < k → ¬ qF M i) ∧ th j = 2 ∧ τ (lF M j) = tL (τ (lF M k))
def HBt (M : Mm) (w : Nat) (th : Nat → Nat) : Prop := ∀ k, k < w → qF M k → (∀ j, j < k → ¬ qF M j) → th k = 2
def HGd (M : Mm) (n w : Nat) (ρ : Nat → Nat) (dd : Nat → Bool) : Prop := ∀ k, k < w → qF M k → ρ k < n ∧ gF M k < n ∧ dd (gF M k) = false
theorem lev (h1 : HDs M w c ρ) (h2 : HTy M τ w c ρ) (h3 : HAd M τ w ρ ep) (h4 : HNu M w nu) (h5 : HNx M τ w ρ th dd) (h6 : HBt M w th) (h7 : RHO M w ρ) (h8 : HGd M n w ρ dd) : ∀ k, k ≤ w → ∃ V : Nat → Bool, (∀ x, V x = true → x < n ∧ M 49 (5 * x) = 4 ∧ M 49 (5 * x + 1) = 7 ∧ M 49 (5 * x + 2) = 2 ∧ dd x = false ∧ ((∃ j, j < k ∧ qF M j ∧ inR M j c ∧ ρ j = x) ∨ ∃ j j', j < j' ∧ j' < k ∧ qF M j ∧ qF M j' ∧ inR M j c ∧ inR M j' c ∧ gF M j = x ∧ M 49 (5 * x + 4) = (ρ j' : Int))) ∧ ((cn (fun k => inB M k c) k = 0 ∧ ∀ j, j < k → ¬ (qF M j ∧ inR M j c)) ∨ ∃ p, p < k ∧ qF M p ∧ inR M p c ∧ 4 * cn (fun k => inB M k c) k ≤ 2 * cn V n + sm (crF M nu ep th) p + th p + 1 ∧ 2 * cn (fun k => inB M k c) k ≤ 2 * cn V n + sm (fF M th) p) := by
  intro k
  induction k with
  | zero =>
    intro _
    refine ⟨fun _ => false, ⟨fun x hx => ?_, Or.inl ⟨rfl, fun j hj => by omega⟩⟩⟩
    exact absurd hx Bool.false_ne_true
  | succ k ih =>
    intro hk
    obtain ⟨V, v1, v2⟩ := ih (by omega)
    have v1' : ∀ x, V x = true → x < n ∧ M 49 (5 * x) = 4 ∧ M 49 (5 * x + 1) = 7 ∧ M 49 (5 * x + 2) = 2 ∧ dd x = false ∧ ((∃ j, j < k + 1 ∧ qF M j ∧ inR M j c ∧ ρ j = x) ∨ ∃ j j', j < j' ∧ j' < k + 1 ∧ qF M j ∧ qF M j' ∧ inR M j c ∧ inR M j' c ∧ gF M j = x ∧ M 49 (5 * x + 4) = (ρ j' : Int)) := fun x hx => by
      obtain ⟨a1, a2, a3, a4, a5, a6⟩ := v1 x hx
      refine ⟨a1, a2, a3, a4, a5, ?_⟩
      rcases a6 with ⟨j, j1, j2⟩ | ⟨j, j', j1, j2, j3⟩
      · exact Or.inl ⟨j, by omega, j2⟩
      · exact Or.inr ⟨j, j', j1, by omega, j3⟩
    rw [cn_s]
    by_cases e : inB M k c = true
    · obtain ⟨kF, kR⟩ := inB_iff.mp e
      rw [if_pos e]
      obtain ⟨t1, ⟨tb, t2⟩, ta, tb', t3, t4⟩ := h2 k (by omega) kF
      obtain ⟨d1, d2, d3⟩ := h8 k (by omega) kF
      obtain ⟨r1, r2, r3, r4⟩ := h7 k (by omega) kF
      have ck : crF M nu ep th k = nu k + ep k + th k := if_pos kF
      cases hdd : dd (ρ k) with
      | true =>
        obtain ⟨j, j1, j2, j3, j4, j5⟩ := h5 k (by omega) kF hdd
        have nj := h4 j k j1 (by omega) j2 kF
        have cj : crF M nu ep th j = nu j + ep j + th j := if_pos j2
        have tj : fF M th j = th j := if_pos j2
        refine ⟨V, v1', Or.inr ⟨k, by omega, kF, kR, ?_⟩⟩
        rcases v2 with ⟨v2, _⟩ | ⟨p, p1, p2, p3, p4, p5⟩
        · have g1 := sm_ge (f := crF M nu ep th) j1
          have g2 := sm_ge (f := fF M th) j1
          omega
        · have tp := (h2 p (by omega) p2).1 p3
          have pj : p ≠ j := fun q => by
            subst q
            rw [tp, ← t1 kR] at j5
            exact tL_ne j5
          have pj2 : p < j := by
            by_cases q : p < j
            · exact q
            · exact absurd p2 (j3 p (by omega) p1)
          have np := h4 p k p1 (by omega) p2 kF
          have cp : crF M nu ep th p = nu p + ep p + th p := if_pos p2
          have g1 := sm_ge2 (f := crF M nu ep th) pj2 j1
          have g2 := sm_ge2 (f := fF M th) pj2 j1
          omega
      | false =>
        have nV : V (ρ k) = false := by
          cases q : V (ρ k) with
          | false => rfl
          | true =>
            rcases (v1 _ q).2.2.2.2.2 with ⟨j, j1, j2, j3, j4⟩ | ⟨j, j', j1, j2, j3, j4, j5, j6, j7, j8⟩
            · exact absurd j4 (h1 j k j1 (by omega) j2 kF j3 kR)
            · obtain ⟨u1, _, a, b, u3, u4⟩ := h2 j (by omega) j3
              rw [j7, t2] at u3
              obtain ⟨u5, _⟩ := tF_inj u3
              rw [u1 j5, ← t1 kR, u5] at u4
              exact False.elim (tL_ne u4)
        have cV := cn_add d1 nV
        have v3 : ∀ x, (V x || (x == ρ k)) = true → x < n ∧ M 49 (5 * x) = 4 ∧ M 49 (5 * x + 1) = 7 ∧ M 49 (5 * x + 2) = 2 ∧ dd x = false ∧ ((∃ j, j < k + 1 ∧ qF M j ∧ inR M j c ∧ ρ j = x) ∨ ∃ j j', j < j' ∧ j' < k + 1 ∧ qF M j ∧ qF M j' ∧ inR M j c ∧ inR M j' c ∧ gF M j = x ∧ M 49 (5 * x + 4) = (ρ j' : Int)) := fun x hx => by
          rcases Bool.or_eq_true_iff.mp hx with hx | hx
          · exact v1' x hx
          · obtain rfl : x = ρ k := of_decide_eq_true hx
            exact ⟨d1, r1, r2, r3, hdd, Or.inl ⟨k, by omega, kF, kR, rfl⟩⟩
        rcases v2 with ⟨v2, v2b⟩ | ⟨p, p1, p2, p3, p4, p5⟩
        · refine ⟨_, v3, Or.inr ⟨k, by omega, kF, kR, ?_⟩⟩
          rw [cV]
          obtain ⟨b, b1, b2, b3⟩ := lowF k kF
          have tb := h6 b (by omega) b2 b3
          by_cases q : b = k
          · subst q
            omega
          · have g1 := sm_ge (f := crF M nu ep th) (j := b) (k := k) (by omega)
            have cb : crF M nu ep th b = nu b + ep b + th b := if_pos b2
            omega
        · have np := h4 p k p1 (by omega) p2 kF
          have cp : crF M nu ep th p = nu p + ep p + th p := if_pos p2
          have g1 := sm_ge1 (f := crF M nu ep th) p1
          have g2 := sm_ge1 (f := fF M th) p1
          by_cases q : ∃ j, p < j ∧ j < k ∧ qF M j
          · obtain ⟨j, j1, j2, j3⟩ := q
            have nj := h4 j k j2 (by omega) j3 kF
            have cj : crF M nu ep th j = nu j + ep j + th j := if_pos j3
            have g3 := sm_ge2 (f := crF M nu ep th) j1 j2
            refine ⟨_, v3, Or.inr ⟨k, by omega, kF, kR, ?_⟩⟩
            rw [cV]
            omega
          · have tp := (h2 p (by omega) p2).1 p3
            rcases h3 p k p1 (by omega) p2 kF (fun j a b z => q ⟨j, a, b, z⟩) (by rw [tp, t1 kR]) with z | ⟨z1, z2, z3, z4⟩
            · refine ⟨_, v3, Or.inr ⟨k, by omega, kF, kR, ?_⟩⟩
              rw [cV]
              omega
            · obtain ⟨s1, s2, s3⟩ := h8 p (by omega) p2
              obtain ⟨_, _, a, b, u3, u4⟩ := h2 p (by omega) p2
              have nG : (fun x => V x || (x == ρ k)) (gF M p) = false := by
                cases q2 : (fun x => V x || (x == ρ k)) (gF M p) with
                | false => rfl
                | true =>
                  have rho : ∀ j, j < k + 1 → qF M j → inR M j c → ρ j = gF M p → False := fun j j1 j2 j3 j4 => by
                    obtain ⟨w1, ⟨w2, w3⟩, _⟩ := h2 j (by omega) j2
                    rw [j4, u3] at w3
                    obtain ⟨w5, _⟩ := tF_inj w3
                    rw [tp, ← w1 j3, ← w5] at u4
                    exact tL_ne u4
                  rcases (v3 _ q2).2.2.2.2.2 with ⟨j, j1, j2, j3, j4⟩ | ⟨j, j', j1, j2, j3, j4, j5, j6, j7, j8⟩
                  · exact False.elim (rho j j1 j2 j3 j4)
                  · by_cases jk : j' = k
                    · subst jk
                      rcases Bool.or_eq_true_iff.mp q2 with q3 | q3
                      · rcases (v1 _ q3).2.2.2.2.2 with ⟨i, i1, i2, i3, i4⟩ | ⟨i, i', i1, i2, i3, i4, i5, i6, i7, i8⟩
                        · exact False.elim (rho i (by omega) i2 i3 i4)
                        · have ne := h1 i' j' i2 (by omega) i4 kF i6 kR
                          exact False.elim (ne (by omega))
                      · exact False.elim (rho j' (by omega) kF kR (of_decide_eq_true q3).symm)
                    · have ne := h1 j' k (by omega) (by omega) j4 kF j6 kR
                      exact False.elim (ne (by omega))
              have cG := cn_add (V := fun x => V x || (x == ρ k)) s2 nG
              refine ⟨fun x => (V x || (x == ρ k)) || (x == gF M p), fun x hx => ?_, Or.inr ⟨k, by omega, kF, kR, ?_⟩⟩
              · rcases Bool.or_eq_true_iff.mp hx with hx | hx
                · exact v3 x hx
                · obtain rfl : x = gF M p := of_decide_eq_true hx
                  exact ⟨s2, z1, z2, z3, s3, Or.inr ⟨p, k, p1, by omega, p2, kF, p3, kR, rfl, z4⟩⟩
              · rw [cG, cV]
                omega
    · rw [if_neg e, Nat.add_zero]
      refine ⟨V, v1', ?_⟩
      rcases v2 with ⟨v2, v2b⟩ | ⟨p, p1, p2⟩
      · refine Or.inl ⟨v2, fun j hj z => ?_⟩
        by_cases q : j = k
        · subst q
          exact e (inB_iff.mpr z)
        · exact v2b j (by omega) z
      · exact Or.inr ⟨p, by omega, p2⟩
end LEV
