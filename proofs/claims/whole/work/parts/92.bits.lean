/-! Which variables stand in a type; which conditions remain. -/
def occ (v : Int) : Ty → Prop
  | .nest w _ => w = v
  | .group a _ => occ v a
  | .append a b => occ v a ∨ occ v b
  | _ => False
theorem bits_occ {M : Mm} (hC : TyC M) (hV : TyV M) (v : Nat) (hv : v < 8) : ∀ (f t : Nat), t < f → (t : Int) < M 1 3 → ((M 4 t).toNat.testBit v = true ↔ occ (v : Int) (dc (tabC M) f t)) := by
  intro f
  induction f with
  | zero => intro t h1; omega
  | succ f ih =>
    intro t h1 ht
    by_cases h10 : t < 10
    · rw [dc_lt h10, hV.1 t h10]
      by_cases e0 : t = 0
      · rw [if_pos e0, if_pos (by omega)]
        exact ⟨fun z => by rw [show ((0 : Int)).toNat = 0 from rfl, Nat.zero_testBit] at z; exact absurd z Bool.false_ne_true, fun z => z.elim⟩
      · rw [if_neg e0]
        by_cases e1 : t = 1
        · rw [if_pos e1, if_pos (by omega)]
          exact ⟨fun z => by rw [show ((0 : Int)).toNat = 0 from rfl, Nat.zero_testBit] at z; exact absurd z Bool.false_ne_true, fun z => z.elim⟩
        · rw [if_neg e1, if_neg (by omega), Int.toNat_natCast, Nat.testBit_two_pow]
          show decide (t - 2 = v) = true ↔ (t : Int) - 2 = (v : Int)
          rw [decide_eq_true_iff]
          omega
    · have w := hC.2 t (by omega) ht
      rw [dc_10 (by omega), vars_or hC hV (by omega) ht]
      show _ ↔ occ (v : Int) (if M 3 t = -1 then tL (dc (tabC M) f (M 2 t).toNat) else tF (dc (tabC M) f (M 2 t).toNat) (dc (tabC M) f (M 3 t).toNat))
      by_cases e : M 3 t = -1
      · rw [if_pos e, if_pos e, Bool.or_false, ih (M 2 t).toNat (by omega) (by omega)]
        exact Iff.rfl
      · rw [if_neg e, if_neg e, Bool.or_eq_true, ih (M 2 t).toNat (by omega) (by omega), ih (M 3 t).toNat (by omega) (by omega)]
        exact Iff.rfl
/-- the first k variables stand in a type, and no other -/
theorem vars_eq {M : Mm} {t k : Nat} (hC : TyC M) (hV : TyV M) (ht : (t : Int) < M 1 3) (hk : k ≤ 8) (h : ∀ v : Nat, v < 8 → (occ (v : Int) (dt M t) ↔ v < k)) : M 4 t = ((2 ^ k - 1 : Nat) : Int) := by
  have r := vars_rg hC hV (t + 1) t (by omega) ht
  have key : (M 4 t).toNat = 2 ^ k - 1 := by
    refine Nat.eq_of_testBit_eq (fun v => ?_)
    rw [Nat.testBit_two_pow_sub_one]
    by_cases hv : v < 8
    · have z := bits_occ hC hV v hv (t + 1) t (by omega) ht
      have y := h v hv
      by_cases e : v < k
      · rw [decide_eq_true e]; exact z.mpr (y.mpr e)
      · rw [decide_eq_false e]
        cases hb : (M 4 t).toNat.testBit v with
        | false => rfl
        | true => exact absurd (y.mp (z.mp hb)) e
    · rw [decide_eq_false (by omega), Nat.testBit_lt_two_pow]
      have : (2 : Nat) ^ 8 ≤ 2 ^ v := Nat.pow_le_pow_right (by decide) (by omega)
      have : (2 : Nat) ^ 8 = 256 := by decide
      omega
  omega
theorem gi_mem {r : Nat → Nat → Bool} {v x : Nat} : ∀ c, (x ∈ gi r v c ↔ ∃ d, d < c ∧ r v d = true ∧ x = 8 * d + v) := by
  intro c
  induction c with
  | zero => exact ⟨fun h => (by simp [gi] at h), fun ⟨d, h, _⟩ => by omega⟩
  | succ c ih =>
    rw [gi, List.mem_append, ih]
    constructor
    · rintro (⟨d, h1, h2, h3⟩ | h)
      · exact ⟨d, by omega, h2, h3⟩
      · by_cases e : r v c = true
        · rw [if_pos e] at h
          exact ⟨c, by omega, e, by simpa using h⟩
        · rw [if_neg e] at h; simp at h
    · rintro ⟨d, h1, h2, h3⟩
      by_cases e : d = c
      · subst e
        exact Or.inr (by rw [if_pos h2]; simpa using h3)
      · exact Or.inl ⟨d, by omega, h2, h3⟩
theorem ga_mem {r : Nat → Nat → Bool} {N x : Nat} : ∀ k, (x ∈ ga r N k ↔ ∃ v d, v < k ∧ d < N ∧ r v d = true ∧ x = 8 * d + v) := by
  intro k
  induction k with
  | zero => exact ⟨fun h => (by simp [ga] at h), fun ⟨v, d, h, _⟩ => by omega⟩
  | succ k ih =>
    rw [ga, List.mem_append, ih, gi_mem]
    constructor
    · rintro (⟨v, d, h1, h2⟩ | ⟨d, h1, h2⟩)
      · exact ⟨v, d, by omega, h2⟩
      · exact ⟨k, d, by omega, h1, h2⟩
    · rintro ⟨v, d, h1, h2⟩
      by_cases e : v = k
      · subst e; exact Or.inr ⟨d, h2⟩
      · exact Or.inl ⟨v, d, by omega, h2⟩
theorem rm_up {Mc Mr : Mm} {N b : Nat} {R : Nat → Nat → Bool} (hR : Rb Mc Mr N R) (hN : N ≤ 6) (hb : ∀ c : Nat, b.testBit c = true → c < N) (d : Nat) : ∀ c : Nat, 6 ≤ c + d → b.testBit c = true → ∃ c' : Nat, rm R b c' = true ∧ Rc Mc (c' : Int) (c : Int) := by
  induction d with
  | zero => intro c hc h; have := hb c h; omega
  | succ d ih =>
    intro c hc h
    by_cases e : rm R b c = true
    · exact ⟨c, e, Rc_refl _ _⟩
    · have z : ∃ d', d' < 6 ∧ bad R b c d' = true := by
        by_cases y : ∃ d', d' < 6 ∧ bad R b c d' = true
        · exact y
        · refine absurd (rm_iff.mpr ⟨h, fun d' h' => ?_⟩) e
          cases hb' : bad R b c d' with
          | false => rfl
          | true => exact absurd ⟨d', h', hb'⟩ y
      obtain ⟨d', z1, z2⟩ := z
      unfold bad at z2
      rw [Bool.and_eq_true, Bool.and_eq_true] at z2
      obtain ⟨⟨y1, y2⟩, y3⟩ := z2
      have l1 := hb d' y2
      have l2 := hb c h
      obtain ⟨_, _, w⟩ := hR d' c l1 l2
      obtain ⟨w1, w2⟩ := w y3
      have ne : d' ≠ c := by simpa using y1
      obtain ⟨c', v1, v2⟩ := ih d' (by omega) y2
      exact ⟨c', v1, Rc_trans v2 w1⟩
theorem con_imp {M : Mm} {A B : Nat → Int → Prop} (h : ∀ c v, A c v → ∃ c' : Nat, B c' v ∧ Rc M (c' : Int) (c : Int)) : ∀ (T : Ty) (c : Nat), con M A T c → con M B T c
  | .nil, _, z => z
  | .line, _, z => z
  | .group a b, c, z => ⟨z.1, z.2.imp id (con_imp h a _)⟩
  | .nest v _, c, ⟨c', z1, z2⟩ => by
    obtain ⟨c'', y1, y2⟩ := h c' v z1
    exact ⟨c'', y1, Rc_trans y2 z2⟩
  | .append _ _, _, z => z
  | .align _, _, z => z
  | .text _, _, z => z
  | .tag _ _, _, z => z
