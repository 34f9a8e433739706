/-! Numbering a type, the reference's way. -/
def RT (M : Mm) (B : Tab) : Prop := M 53 1 = (B.1 : Int) ∧ ∀ t : Nat, 10 ≤ t → t < B.1 → M 55 t = B.2.1 t ∧ ((B.2.2 t = -1 ∧ M 54 t = 3 ∧ M 56 t = 0) ∨ (B.2.2 t ≠ -1 ∧ M 54 t = 4 ∧ M 56 t = B.2.2 t))
theorem RT_of {Mc Mr : Mm} (hC : TyC Mc) (h : TyR Mc Mr) : RT Mr (tabC Mc) := by
  have := hC.1
  exact ⟨by rw [h.1]; show _ = ((Mc 1 3).toNat : Int); omega, fun t h1 h2 => h.2.2 t h1 (by have : t < (Mc 1 3).toNat := h2; omega)⟩
theorem RT_fr {M N : Mm} {B : Tab} (e1 : N 53 1 = M 53 1) (e : N 54 = M 54 ∧ N 55 = M 55 ∧ N 56 = M 56) (h : RT M B) : RT N B := by
  unfold RT
  rw [e1, e.1, e.2.1, e.2.2]
  exact h
/-- how a list or a function is asked for there -/
def asR (r : Int) : Int × Int := if r = -1 then (3, 0) else (4, r)
theorem l192_ok {M : Mm} {B : Tab} {l r : Int} (h : RT M B) (h40 : B.1 ≤ 40) (hr : r = -1 ∨ 0 ≤ r) (s : Nat) : ∀ (t f : Nat), t + s = B.1 → 10 ≤ t → s < f → l192 f 4 M (asR r).1 l (asR r).2 (t : Int) = some (match fnd B.2.1 B.2.2 l r t s with | some u => (u : Int) | none => -1) := by
  induction s with
  | zero =>
    intro t f h1 h2 h3
    obtain ⟨f, rfl⟩ : ∃ f', f = f' + 1 := ⟨f - 1, by omega⟩
    rw [l192, h.1, if_pos (by omega)]
    rfl
  | succ s ih =>
    intro t f h1 h2 h3
    obtain ⟨f, rfl⟩ : ∃ f', f = f' + 1 := ⟨f - 1, by omega⟩
    have go := ih (t + 1) f (by omega) (by omega) (by omega)
    obtain ⟨q1, q2⟩ := h.2 t h2 (by omega)
    have fs : fnd B.2.1 B.2.2 l r t (s + 1) = if B.2.1 t = l ∧ B.2.2 t = r then some t else fnd B.2.1 B.2.2 l r (t + 1) s := rfl
    rw [fs, l192, h.1, if_neg (by omega), if_pos (by omega), Int.toNat_natCast, q1, show (t : Int) + 1 = ((t + 1 : Nat) : Int) by omega, go, if_pos (show rg ((t + 1 : Nat) : Int) by omega)]
    by_cases e1 : B.2.1 t = l
    · by_cases e2 : B.2.2 t = r
      · rw [if_pos (⟨e1, e2⟩ : B.2.1 t = l ∧ B.2.2 t = r)]
        unfold asR
        by_cases er : r = -1
        · rw [if_pos er]
          have : M 54 t = 3 ∧ M 56 t = 0 := by rcases q2 with z | z <;> omega
          rw [if_neg (fun z => z this.1), if_neg (fun z => z e1), if_neg (fun z => z this.2)]
        · rw [if_neg er]
          have : M 54 t = 4 ∧ M 56 t = r := by rcases q2 with z | z <;> omega
          rw [if_neg (fun z => z this.1), if_neg (fun z => z e1), if_neg (fun z => z this.2)]
      · rw [if_neg (fun z : B.2.1 t = l ∧ B.2.2 t = r => e2 z.2)]
        unfold asR
        by_cases er : r = -1
        · rw [if_pos er]
          have : M 54 t = 4 := by rcases q2 with z | z <;> omega
          rw [if_pos (by dsimp only; omega)]
        · rw [if_neg er]
          rcases q2 with z | z
          · rw [if_pos (by dsimp only; omega)]
          · rw [if_neg (fun y => y z.2.1), if_neg (fun y => y e1), if_pos (by dsimp only; omega)]
    · rw [if_neg (fun z : B.2.1 t = l ∧ B.2.2 t = r => e1 z.1)]
      by_cases e3 : M 54 t = (asR r).1
      · rw [if_neg (fun z => z e3), if_pos e1]
      · rw [if_pos e3]
/-- frames of making types there -/
def Rn (M M' : Mm) : Prop := (∀ a, a ≠ 53 → a ≠ 54 → a ≠ 55 → a ≠ 56 → M' a = M a) ∧ (∀ j, j ≠ 1 → M' 53 j = M 53 j) ∧ (∀ t : Nat, (t < 10 ∨ (t : Int) < M 53 1) → M' 54 t = M 54 t ∧ M' 55 t = M 55 t ∧ M' 56 t = M 56 t) ∧ M 53 1 ≤ M' 53 1
theorem Rn_refl (M : Mm) : Rn M M := ⟨fun _ _ _ _ _ => rfl, fun _ _ => rfl, fun _ _ => ⟨rfl, rfl, rfl⟩, Int.le_refl _⟩
theorem f191_ok {M : Mm} {B : Tab} {l r : Int} (h : RT M B) (h10 : 10 ≤ B.1 ∧ B.1 ≤ 40) (hr : r = -1 ∨ 0 ≤ r) : ∃ v M', f191 M (asR r).1 l (asR r).2 = some (v, M') ∧ Rn M M' ∧ ((v = -1 ∧ tadd B l r = none ∧ M' = M) ∨ ∃ (t : Nat) (C : Tab), v = (t : Int) ∧ tadd B l r = some (t, C) ∧ RT M' C) := by
  have key := l192_ok (l := l) h h10.2 hr (B.1 - 10) 10 FU (by omega) (by omega) (by unfold FU; omega)
  have key : f192 M (asR r).1 l (asR r).2 = _ := key
  unfold f191 tadd
  rw [key, bs_]
  cases e : fnd B.2.1 B.2.2 l r 10 (B.1 - 10) with
  | some u =>
    dsimp only
    have := fnd_some e
    rw [if_pos (by omega)]
    exact ⟨(u : Int), M, rfl, Rn_refl M, Or.inr ⟨u, B, rfl, rfl, h⟩⟩
  | none =>
    dsimp only
    rw [if_neg (fun z => z rfl), h.1]
    by_cases e40 : B.1 = 40
    · rw [if_neg (fun z => z (by omega)), if_pos e40]
      exact ⟨-1, M, rfl, Rn_refl M, Or.inl ⟨rfl, rfl, rfl⟩⟩
    · rw [if_pos (by omega), if_neg e40, if_pos (by omega), if_pos (by omega), if_pos (by omega), Int.toNat_natCast, show (B.1 : Int) + 1 - 1 = (B.1 : Int) by omega]
      refine ⟨(B.1 : Int), _, rfl, ⟨fun a h1 h2 h3 h4 => by rw [up_cell h1, up_cell h4, up_cell h3, up_cell h2], fun j hj => by rw [up_at hj, up_cell (by decide), up_cell (by decide), up_cell (by decide)], fun t ht => ?_, ?_⟩, Or.inr ⟨B.1, _, rfl, rfl, ⟨?_, fun t h1 h2 => ?_⟩⟩⟩
      · have z := h.1
        have z10 := h10.1
        refine ⟨by rw [up_cell (by decide), up_cell (by decide), up_cell (by decide), up_at (by omega)], by rw [up_cell (by decide), up_cell (by decide), up_at (by omega), up_cell (by decide)], by rw [up_cell (by decide), up_at (by omega), up_cell (by decide), up_cell (by decide)]⟩
      · rw [up_same, h.1]; omega
      · rw [up_same]; dsimp only; omega
      · dsimp only at h2 ⊢
        rw [up_cell (show 55 ≠ 53 by decide), up_cell (show 55 ≠ 56 by decide), up_cell (show 54 ≠ 53 by decide), up_cell (show 54 ≠ 56 by decide), up_cell (show 54 ≠ 55 by decide), up_cell (show 56 ≠ 53 by decide)]
        by_cases et : t = B.1
        · subst et
          rw [up_same, up_same, up_same, if_pos rfl, if_pos rfl]
          unfold asR
          by_cases er : r = -1
          · rw [if_pos er]; exact ⟨rfl, Or.inl ⟨er, rfl, rfl⟩⟩
          · rw [if_neg er]; exact ⟨rfl, Or.inr ⟨er, rfl, rfl⟩⟩
        · rw [up_at et, up_at et, up_at et, up_cell (show 55 ≠ 54 by decide), up_cell (show 56 ≠ 55 by decide), up_cell (show 56 ≠ 54 by decide), if_neg et, if_neg et]
          exact h.2 t h1 (by omega)
