/-! The table of numbered types, and the numbering of a tree. -/
abbrev Tab := Nat × (Nat → Int) × (Nat → Int)
def fnd (lf rt : Nat → Int) (l r : Int) : Nat → Nat → Option Nat
  | _, 0 => none
  | t, s + 1 => if lf t = l ∧ rt t = r then some t else fnd lf rt l r (t + 1) s
def tadd (B : Tab) (l r : Int) : Option (Nat × Tab) := match fnd B.2.1 B.2.2 l r 10 (B.1 - 10) with
  | some t => some (t, B)
  | none => if B.1 = 40 then none else some (B.1, B.1 + 1, (fun i => if i = B.1 then l else B.2.1 i), (fun i => if i = B.1 then r else B.2.2 i))
def ins : Ty → Tab → Option (Nat × Tab)
  | .nil, B => some (0, B)
  | .line, B => some (1, B)
  | .nest v _, B => some ((2 + v).toNat, B)
  | .group a _, B => (ins a B).bind (fun z => tadd z.2 (z.1 : Int) (-1))
  | .append a b, B => (ins a B).bind (fun z => (ins b z.2).bind (fun w => tadd w.2 (z.1 : Int) (w.1 : Int)))
  | _, _ => none
/-- a tree of the kinds that types have, with variables below eight -/
def vOK : Ty → Prop
  | .nil => True
  | .line => True
  | .nest v x => x = .nil ∧ 0 ≤ v ∧ v < 8
  | .group a b => b = .allOrNone ∧ vOK a
  | .append a b => vOK a ∧ vOK b
  | _ => False
def hT : Ty → Nat
  | .group a _ => hT a + 1
  | .append a b => max (hT a) (hT b) + 1
  | _ => 0
def WT (B : Tab) : Prop := (10 ≤ B.1 ∧ B.1 ≤ 40) ∧ ∀ t : Nat, 10 ≤ t → t < B.1 → (0 ≤ B.2.1 t ∧ B.2.1 t < (t : Int)) ∧ (B.2.2 t = -1 ∨ (0 ≤ B.2.2 t ∧ B.2.2 t < (t : Int)))
def ext (B C : Tab) : Prop := B.1 ≤ C.1 ∧ ∀ t, t < B.1 → C.2.1 t = B.2.1 t ∧ C.2.2 t = B.2.2 t
theorem ext_refl (B : Tab) : ext B B := ⟨Nat.le_refl _, fun _ _ => ⟨rfl, rfl⟩⟩
theorem ext_trans {B C D : Tab} (h : ext B C) (k : ext C D) : ext B D := ⟨Nat.le_trans h.1 k.1, fun t ht => ⟨(k.2 t (Nat.lt_of_lt_of_le ht h.1)).1.trans (h.2 t ht).1, (k.2 t (Nat.lt_of_lt_of_le ht h.1)).2.trans (h.2 t ht).2⟩⟩
theorem fnd_some {lf rt : Nat → Int} {l r : Int} : ∀ {s t u : Nat}, fnd lf rt l r t s = some u → (t ≤ u ∧ u < t + s) ∧ lf u = l ∧ rt u = r
  | 0, _, _, h => by cases h
  | s + 1, t, u, h => by
    unfold fnd at h
    by_cases e : lf t = l ∧ rt t = r
    · rw [if_pos e] at h
      cases h
      exact ⟨⟨Nat.le_refl _, by omega⟩, e⟩
    · rw [if_neg e] at h
      have := fnd_some h
      exact ⟨by omega, this.2⟩
theorem fnd_none {lf rt : Nat → Int} {l r : Int} : ∀ {s t : Nat}, fnd lf rt l r t s = none → ∀ w, t ≤ w → w < t + s → ¬ (lf w = l ∧ rt w = r)
  | 0, _, _, w, h1, h2 => by omega
  | s + 1, t, h, w, h1, h2 => by
    unfold fnd at h
    by_cases e : lf t = l ∧ rt t = r
    · rw [if_pos e] at h
      cases h
    · rw [if_neg e] at h
      by_cases e2 : w = t
      · rw [e2]; exact e
      · exact fnd_none h w (by omega) (by omega)
theorem fnd_ext {lf rt lf' rt' : Nat → Int} {l r : Int} : ∀ {s s' t u : Nat}, fnd lf rt l r t s = some u → (∀ w, t ≤ w → w < t + s → lf' w = lf w ∧ rt' w = rt w) → s ≤ s' → fnd lf' rt' l r t s' = some u
  | 0, _, _, _, h, _, _ => by cases h
  | s + 1, s', t, u, h, e, hs => by
    obtain ⟨s', rfl⟩ : ∃ q, s' = q + 1 := ⟨s' - 1, by omega⟩
    unfold fnd at h ⊢
    rw [(e t (Nat.le_refl _) (by omega)).1, (e t (Nat.le_refl _) (by omega)).2]
    by_cases c : lf t = l ∧ rt t = r
    · rw [if_pos c] at h ⊢
      exact h
    · rw [if_neg c] at h ⊢
      exact fnd_ext h (fun w h1 h2 => e w (by omega) (by omega)) (by omega)
theorem fnd_at {lf rt : Nat → Int} {l r : Int} {u : Nat} (h1 : lf u = l ∧ rt u = r) : ∀ {s t : Nat}, t + s = u → (∀ w, t ≤ w → w < u → ¬ (lf w = l ∧ rt w = r)) → fnd lf rt l r t (s + 1) = some u
  | 0, t, h2, h => by
    obtain rfl : t = u := by omega
    unfold fnd
    rw [if_pos h1]
  | s + 1, t, h2, h => by
    unfold fnd
    rw [if_neg (h t (Nat.le_refl _) (by omega))]
    exact fnd_at h1 (by omega) (fun w h3 h4 => h w (by omega) h4)
theorem tadd_ok {B C : Tab} {l r t : Nat} {r' : Int} (hB : WT B) (hl : l < B.1) (hr : r' = -1 ∨ (r' = (r : Int) ∧ r < B.1)) (h : tadd B (l : Int) r' = some (t, C)) : WT C ∧ ext B C ∧ (10 ≤ t ∧ t < C.1) ∧ (C.2.1 t = (l : Int) ∧ C.2.2 t = r') ∧ tadd C (l : Int) r' = some (t, C) ∧ (C.1 = B.1 → C = B) := by
  have h0 := h
  unfold tadd at h
  cases e : fnd B.2.1 B.2.2 (l : Int) r' 10 (B.1 - 10) with
  | some u =>
    rw [e] at h
    cases h
    have f := fnd_some e
    have := hB.1
    exact ⟨hB, ext_refl _, by omega, f.2, h0, fun _ => rfl⟩
  | none =>
    rw [e] at h
    dsimp only at h
    by_cases e40 : B.1 = 40
    · rw [if_pos e40] at h; cases h
    · rw [if_neg e40] at h
      cases h
      have w10 := hB.1
      have fn := fnd_none e
      refine ⟨⟨by dsimp only; omega, fun t h1 h2 => ?_⟩, ⟨by dsimp only; omega, fun t ht => ?_⟩, by dsimp only; omega, ⟨if_pos rfl, if_pos rfl⟩, ?_, fun z => absurd z (by dsimp only; omega)⟩
      · dsimp only at h2 ⊢
        by_cases et : t = B.1
        · subst et
          rw [if_pos rfl, if_pos rfl]
          refine ⟨by omega, ?_⟩
          rcases hr with z | ⟨z, z2⟩
          · exact Or.inl z
          · exact Or.inr (by omega)
        · rw [if_neg et, if_neg et]
          exact hB.2 t h1 (by omega)
      · dsimp only
        rw [if_neg (by omega), if_neg (by omega)]
        exact ⟨rfl, rfl⟩
      · have : fnd (fun i => if i = B.1 then (l : Int) else B.2.1 i) (fun i => if i = B.1 then r' else B.2.2 i) (l : Int) r' 10 (B.1 - 10 + 1) = some B.1 := fnd_at (by simp) (by omega) (fun w h1 h2 => by
          rw [if_neg (by omega), if_neg (by omega)]
          exact fn w h1 (by omega))
        unfold tadd
        dsimp only
        rw [show B.1 + 1 - 10 = B.1 - 10 + 1 by omega, this]
theorem tadd_ext {B C : Tab} {l r : Int} {t : Nat} (hB : WT B) (h : tadd B l r = some (t, B)) (he : ext B C) : tadd C l r = some (t, C) := by
  unfold tadd at h ⊢
  cases e : fnd B.2.1 B.2.2 l r 10 (B.1 - 10) with
  | some u =>
    rw [e] at h
    cases h
    have := hB.1
    have := he.1
    rw [fnd_ext e (fun w h1 h2 => he.2 w (by omega)) (show B.1 - 10 ≤ C.1 - 10 by omega)]
  | none =>
    rw [e] at h
    dsimp only at h
    by_cases e40 : B.1 = 40
    · rw [if_pos e40] at h; cases h
    · rw [if_neg e40] at h
      have := congrArg (fun z => z.2.1) (Option.some.inj h)
      dsimp only at this
      omega
theorem bind_s {α β : Type} {x : Option α} {f : α → Option β} {b : β} (h : x.bind f = some b) : ∃ a, x = some a ∧ f a = some b := by
  cases x with
  | none => cases h
  | some a => exact ⟨a, rfl, h⟩
theorem ins_ok : ∀ (T : Ty) {B C : Tab} {t : Nat}, vOK T → WT B → ins T B = some (t, C) → WT C ∧ ext B C ∧ t < C.1 ∧ ins T C = some (t, C) ∧ (hT T = 0 ∨ hT T + 9 ≤ t) ∧ (C.1 = B.1 → C = B)
  | .nil, B, C, t, _, hB, h => by
    cases h
    exact ⟨hB, ext_refl _, by have := hB.1; omega, rfl, Or.inl rfl, fun _ => rfl⟩
  | .line, B, C, t, _, hB, h => by
    cases h
    exact ⟨hB, ext_refl _, by have := hB.1; omega, rfl, Or.inl rfl, fun _ => rfl⟩
  | .nest v x, B, C, t, hv, hB, h => by
    cases h
    exact ⟨hB, ext_refl _, by have := hB.1; have := hv.2; omega, rfl, Or.inl rfl, fun _ => rfl⟩
  | .group a b, B, C, t, hv, hB, h => by
    obtain ⟨⟨l, B1⟩, h1, h2⟩ := bind_s (x := ins a B) h
    dsimp only at h2
    obtain ⟨i1, i2, i3, i4, i5, i6⟩ := ins_ok a hv.2 hB h1
    obtain ⟨j1, j2, j3, j4, j5, j6⟩ := tadd_ok (r := 0) i1 i3 (Or.inl rfl) h2
    have wt := j1.2 t j3.1 j3.2
    refine ⟨j1, ext_trans i2 j2, j3.2, ?_, Or.inr ?_, fun z => ?_⟩
    · show (ins a C).bind _ = _
      have : ins a C = some (l, C) := ins_ext a hv.2 i1 i4 j2
      rw [this]
      exact j5
    · show hT a + 1 + 9 ≤ t
      rcases i5 with z | z <;> omega
    · have := i2.1
      have := j2.1
      have e1 := i6 (by omega)
      subst e1
      exact j6 (by omega)
  | .append a b, B, C, t, hv, hB, h => by
    obtain ⟨⟨l, B1⟩, h1, h2⟩ := bind_s (x := ins a B) h
    dsimp only at h2
    obtain ⟨⟨r, B2⟩, h3, h4⟩ := bind_s (x := ins b B1) h2
    dsimp only at h4
    obtain ⟨i1, i2, i3, i4, i5, i6⟩ := ins_ok a hv.1 hB h1
    obtain ⟨k1, k2, k3, k4, k5, k6⟩ := ins_ok b hv.2 i1 h3
    have kl := k2.1
    obtain ⟨j1, j2, j3, j4, j5, j6⟩ := tadd_ok (r := r) k1 (by omega) (Or.inr ⟨rfl, k3⟩) h4
    have wt := j1.2 t j3.1 j3.2
    refine ⟨j1, ext_trans i2 (ext_trans k2 j2), j3.2, ?_, Or.inr ?_, fun z => ?_⟩
    · show (ins a C).bind _ = _
      have e1 : ins a C = some (l, C) := ins_ext a hv.1 i1 i4 (ext_trans k2 j2)
      have e2 : ins b C = some (r, C) := ins_ext b hv.2 k1 k4 j2
      rw [e1]
      show (ins b C).bind _ = _
      rw [e2]
      exact j5
    · show max (hT a) (hT b) + 1 + 9 ≤ t
      rcases i5 with z | z <;> rcases k5 with y | y <;> omega
    · have := i2.1
      have := j2.1
      have e1 := i6 (by omega)
      subst e1
      have e2 := k6 (by omega)
      subst e2
      exact j6 (by omega)
  | .align _, _, _, _, hv, _, _ => hv.elim
  | .text _, _, _, _, hv, _, _ => hv.elim
  | .tag _ _, _, _, _, hv, _, _ => hv.elim
where
  ins_ext : ∀ (T : Ty) {B C : Tab} {t : Nat}, vOK T → WT B → ins T B = some (t, B) → ext B C → ins T C = some (t, C)
  | .nil, B, C, t, _, _, h, _ => by cases h; rfl
  | .line, B, C, t, _, _, h, _ => by cases h; rfl
  | .nest v x, B, C, t, hv, hB, h, _ => by
    have : (2 + v).toNat = t := congrArg Prod.fst (Option.some.inj h)
    rw [← this]; rfl
  | .group a b, B, C, t, hv, hB, h, he => by
    obtain ⟨⟨l, B1⟩, h1, h2⟩ := bind_s (x := ins a B) h
    dsimp only at h2
    obtain ⟨i1, i2, i3, i4, i5, i6⟩ := ins_ok a hv.2 hB h1
    obtain ⟨j1, j2, j3, j4, j5, j6⟩ := tadd_ok (r := 0) i1 i3 (Or.inl rfl) h2
    have := i2.1
    have := j2.1
    have e1 := i6 (by omega)
    subst e1
    show (ins a C).bind _ = _
    rw [ins_ext a hv.2 hB h1 he]
    exact tadd_ext hB h2 he
  | .append a b, B, C, t, hv, hB, h, he => by
    obtain ⟨⟨l, B1⟩, h1, h2⟩ := bind_s (x := ins a B) h
    dsimp only at h2
    obtain ⟨⟨r, B2⟩, h3, h4⟩ := bind_s (x := ins b B1) h2
    dsimp only at h4
    obtain ⟨i1, i2, i3, i4, i5, i6⟩ := ins_ok a hv.1 hB h1
    obtain ⟨k1, k2, k3, k4, k5, k6⟩ := ins_ok b hv.2 i1 h3
    have kl := k2.1
    obtain ⟨j1, j2, j3, j4, j5, j6⟩ := tadd_ok (r := r) k1 (by omega) (Or.inr ⟨rfl, k3⟩) h4
    have := i2.1
    have := j2.1
    have e1 := i6 (by omega)
    subst e1
    have e2 := k6 (by omega)
    subst e2
    show (ins a C).bind _ = _
    rw [ins_ext a hv.1 hB h1 he]
    show (ins b C).bind _ = _
    rw [ins_ext b hv.2 hB h3 he]
    exact tadd_ext hB h4 he
  | .align _, _, _, _, hv, _, _, _ => hv.elim
  | .text _, _, _, _, hv, _, _, _ => hv.elim
  | .tag _ _, _, _, _, hv, _, _, _ => hv.elim
