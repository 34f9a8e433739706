/-! Numbering a type, the class's way. -/
/-- the tree of a number -/
def dc (B : Tab) : Nat → Nat → Ty
  | 0, _ => tX
  | f + 1, t => if t = 0 then tI else if t = 1 then tB else if t < 10 then tV ((t : Int) - 2) else if B.2.2 t = -1 then tL (dc B f (B.2.1 t).toNat) else tF (dc B f (B.2.1 t).toNat) (dc B f (B.2.2 t).toNat)
theorem dc_10 {B : Tab} {f t : Nat} (h : 10 ≤ t) : dc B (f + 1) t = if B.2.2 t = -1 then tL (dc B f (B.2.1 t).toNat) else tF (dc B f (B.2.1 t).toNat) (dc B f (B.2.2 t).toNat) := by
  rw [dc, if_neg (show ¬ t = 0 by omega), if_neg (show ¬ t = 1 by omega), if_neg (show ¬ t < 10 by omega)]
theorem dc_lt {B : Tab} {f t : Nat} (h : t < 10) : dc B (f + 1) t = if t = 0 then tI else if t = 1 then tB else tV ((t : Int) - 2) := by
  rw [dc, if_pos h]
theorem dc_ext {B C : Tab} (hB : WT B) (he : ext B C) : ∀ (f t : Nat), t < B.1 → dc C f t = dc B f t
  | 0, _, _ => rfl
  | f + 1, t, ht => by
    by_cases e10 : t < 10
    · rw [dc_lt e10, dc_lt e10]
    · have w := hB.2 t (by omega) ht
      have e := he.2 t ht
      rw [dc_10 (by omega), dc_10 (by omega), e.1, e.2, dc_ext hB he f (B.2.1 t).toNat (by omega)]
      by_cases r : B.2.2 t = -1
      · rw [if_pos r, if_pos r]
      · rw [if_neg r, if_neg r, dc_ext hB he f (B.2.2 t).toNat (by omega)]
theorem ins_dc : ∀ (T : Ty) {B C : Tab} {t f : Nat}, vOK T → WT B → ins T B = some (t, C) → t < f → dc C f t = T
  | .nil, B, C, t, f, _, _, h, hf => by
    cases h
    obtain ⟨f, rfl⟩ : ∃ f', f = f' + 1 := ⟨f - 1, by omega⟩
    rfl
  | .line, B, C, t, f, _, _, h, hf => by
    cases h
    obtain ⟨f, rfl⟩ : ∃ f', f = f' + 1 := ⟨f - 1, by omega⟩
    rfl
  | .nest v x, B, C, t, f, hv, _, h, hf => by
    cases h
    obtain ⟨f, rfl⟩ : ∃ f', f = f' + 1 := ⟨f - 1, by omega⟩
    obtain ⟨rfl, v1, v2⟩ := hv
    unfold dc
    rw [if_neg (by omega), if_neg (by omega), if_pos (by omega), show (((2 + v).toNat : Nat) : Int) - 2 = v by omega]
    rfl
  | .group a b, B, C, t, f, hv, hB, h, hf => by
    obtain ⟨f, rfl⟩ : ∃ f', f = f' + 1 := ⟨f - 1, by omega⟩
    obtain ⟨⟨l, B1⟩, h1, h2⟩ := bind_s (x := ins a B) h
    dsimp only at h2
    obtain ⟨i1, i2, i3, i4, i5, i6⟩ := ins_ok a hv.2 hB h1
    obtain ⟨j1, j2, j3, j4, j5, j6⟩ := tadd_ok (r := 0) i1 i3 (Or.inl rfl) h2
    have wt := j1.2 t j3.1 j3.2
    unfold dc
    rw [if_neg (by omega), if_neg (by omega), if_neg (by omega), if_pos j4.2, j4.1, Int.toNat_natCast, dc_ext i1 j2 f l i3, ins_dc a hv.2 hB h1 (by omega)]
    rw [hv.1]
    rfl
  | .append a b, B, C, t, f, hv, hB, h, hf => by
    obtain ⟨f, rfl⟩ : ∃ f', f = f' + 1 := ⟨f - 1, by omega⟩
    obtain ⟨⟨l, B1⟩, h1, h2⟩ := bind_s (x := ins a B) h
    dsimp only at h2
    obtain ⟨⟨r, B2⟩, h3, h4⟩ := bind_s (x := ins b B1) h2
    dsimp only at h4
    obtain ⟨i1, i2, i3, i4, i5, i6⟩ := ins_ok a hv.1 hB h1
    obtain ⟨k1, k2, k3, k4, k5, k6⟩ := ins_ok b hv.2 i1 h3
    have kl := k2.1
    obtain ⟨j1, j2, j3, j4, j5, j6⟩ := tadd_ok (r := r) k1 (by omega) (Or.inr ⟨rfl, k3⟩) h4
    have wt := j1.2 t j3.1 j3.2
    unfold dc
    rw [if_neg (by omega), if_neg (by omega), if_neg (by omega), if_neg (by omega), j4.1, j4.2, Int.toNat_natCast, Int.toNat_natCast, dc_ext i1 (ext_trans k2 j2) f l i3, dc_ext k1 j2 f r k3, ins_dc a hv.1 hB h1 (by omega), ins_dc b hv.2 i1 h3 (by omega)]
    rfl
  | .align _, _, _, _, _, hv, _, _, _ => hv.elim
  | .text _, _, _, _, _, hv, _, _, _ => hv.elim
  | .tag _ _, _, _, _, _, hv, _, _, _ => hv.elim
/-- the class's table -/
def tabC (M : Mm) : Tab := ((M 1 3).toNat, M 2, M 3)
/-- frames of making types -/
def Cn (M M' : Mm) : Prop := (∀ a, a ≠ 1 → a ≠ 2 → a ≠ 3 → a ≠ 4 → M' a = M a) ∧ (∀ j, j ≠ 3 → M' 1 j = M 1 j) ∧ (∀ t : Nat, (t : Int) < M 1 3 → M' 4 t = M 4 t ∧ M' 2 t = M 2 t ∧ M' 3 t = M 3 t) ∧ M 1 3 ≤ M' 1 3
theorem Cn_refl (M : Mm) : Cn M M := ⟨fun _ _ _ _ _ => rfl, fun _ _ => rfl, fun _ _ => ⟨rfl, rfl, rfl⟩, Int.le_refl _⟩
theorem Cn_trans {M M1 M2 : Mm} (a : Cn M M1) (b : Cn M1 M2) : Cn M M2 := ⟨fun c h1 h2 h3 h4 => (b.1 c h1 h2 h3 h4).trans (a.1 c h1 h2 h3 h4), fun j hj => (b.2.1 j hj).trans (a.2.1 j hj), fun t ht => by have q := a.2.2.1 t ht; have q2 := b.2.2.1 t (by have := a.2.2.2; omega); exact ⟨q2.1.trans q.1, q2.2.1.trans q.2.1, q2.2.2.trans q.2.2⟩, Int.le_trans a.2.2.2 b.2.2.2⟩
theorem TyC_WT {M : Mm} (h : TyC M) : WT (tabC M) := by
  obtain ⟨h1, h2⟩ := h
  exact ⟨by show 10 ≤ (M 1 3).toNat ∧ (M 1 3).toNat ≤ 40; omega, fun t h3 h4 => h2 t h3 (by have : t < (M 1 3).toNat := h4; omega)⟩
theorem WT_TyC {M : Mm} (h : WT (tabC M)) : TyC M := by
  obtain ⟨h1, h2⟩ := h
  have h1 : 10 ≤ (M 1 3).toNat ∧ (M 1 3).toNat ≤ 40 := h1
  exact ⟨by omega, fun t h3 h4 => h2 t h3 (by show t < (M 1 3).toNat; omega)⟩
theorem l19_ok {M : Mm} {n : Nat} {l r : Int} (hn : M 1 3 = (n : Int)) (h40 : n ≤ 40) (hl : 0 ≤ l ∧ l < 40) (hr : r = -1 ∨ (0 ≤ r ∧ r < 40)) (s : Nat) : ∀ (t f : Nat), t + s = n → s < f → l19 f 3 M l r (t : Int) = match fnd (M 2) (M 3) l r t s with | some u => some ((u : Int), M) | none => if n = 40 then some (-1, M) else some ((n : Int), up (up (up (up M 2 n l) 3 n r) 4 n (bOr (M 4 l.toNat) (if r = -1 then 0 else M 4 r.toNat))) 1 3 ((n : Int) + 1)) := by
  induction s with
  | zero =>
    intro t f h1 h2
    obtain ⟨f, rfl⟩ : ∃ f', f = f' + 1 := ⟨f - 1, by omega⟩
    rw [l19, hn, if_pos (by omega)]
    show _ = if n = 40 then _ else _
    by_cases e : n = 40
    · rw [if_neg (fun z => z (by omega)), if_pos e]
    · rw [if_pos (by omega), if_neg e, if_pos (by omega), if_pos hl, Int.toNat_natCast]
      by_cases er : r = -1
      · rw [if_neg (fun z => z er), if_pos er, if_pos (by omega)]
      · rw [if_pos er, if_neg er, if_pos (by omega), if_pos (by omega)]
  | succ s ih =>
    intro t f h1 h2
    obtain ⟨f, rfl⟩ : ∃ f', f = f' + 1 := ⟨f - 1, by omega⟩
    have go := ih (t + 1) f (by omega) (by omega)
    rw [l19, hn, if_neg (by omega), if_pos (by omega), Int.toNat_natCast, if_pos (show rg ((t : Int) + 1) by omega), show (t : Int) + 1 = ((t + 1 : Nat) : Int) by omega, go]
    have fs : fnd (M 2) (M 3) l r t (s + 1) = if M 2 t = l ∧ M 3 t = r then some t else fnd (M 2) (M 3) l r (t + 1) s := rfl
    rw [fs]
    by_cases e1 : M 2 t = l
    · by_cases e2 : M 3 t = r
      · rw [if_neg (fun z => z e1), if_neg (fun z => z e2), if_pos (⟨e1, e2⟩ : M 2 t = l ∧ M 3 t = r)]
      · rw [if_neg (fun z => z e1), if_pos e2, if_neg (fun z : M 2 t = l ∧ M 3 t = r => e2 z.2)]
    · rw [if_pos e1, if_neg (fun z : M 2 t = l ∧ M 3 t = r => e1 z.1)]
theorem f19_ok {M : Mm} {l : Nat} {r : Int} (hT : TyC M) (hV : TyV M) (hl : (l : Int) < M 1 3) (hr : r = -1 ∨ (0 ≤ r ∧ r < M 1 3)) : ∃ v M', f19 M (l : Int) r = some (v, M') ∧ TyV M' ∧ Cn M M' ∧ ((v = -1 ∧ tadd (tabC M) (l : Int) r = none ∧ M' = M) ∨ ∃ t : Nat, v = (t : Int) ∧ tadd (tabC M) (l : Int) r = some (t, tabC M')) := by
  have h40 := hT.1
  obtain ⟨n, hn⟩ : ∃ n : Nat, M 1 3 = (n : Int) := ⟨(M 1 3).toNat, by omega⟩
  have tn : (M 1 3).toNat = n := by omega
  have key := l19_ok (M := M) (l := (l : Int)) (r := r) hn (by omega) (by omega) (by omega) (n - 10) 10 FU (by omega) (by unfold FU; omega)
  have key : f19 M (l : Int) r = _ := key
  rw [key]
  unfold tadd
  have et : (tabC M).1 = n := tn
  have e2 : (tabC M).2.1 = M 2 := rfl
  have e3 : (tabC M).2.2 = M 3 := rfl
  rw [et, e2, e3]
  cases e : fnd (M 2) (M 3) (l : Int) r 10 (n - 10) with
  | some u => exact ⟨(u : Int), M, rfl, hV, Cn_refl M, Or.inr ⟨u, rfl, rfl⟩⟩
  | none =>
    dsimp only
    by_cases e40 : n = 40
    · rw [if_pos e40, if_pos e40]
      exact ⟨-1, M, rfl, hV, Cn_refl M, Or.inl ⟨rfl, rfl, rfl⟩⟩
    · rw [if_neg e40, if_neg e40]
      let b := bOr (M 4 l) (if r = -1 then 0 else M 4 r.toNat)
      let M' := up (up (up (up M 2 n (l : Int)) 3 n r) 4 n b) 1 3 ((n : Int) + 1)
      have m2 : M' 2 = fun i => if i = n then (l : Int) else M 2 i := by
        show (up (up (up (up M 2 n (l : Int)) 3 n r) 4 n b) 1 3 ((n : Int) + 1)) 2 = _
        rw [up_cell (by decide), up_cell (by decide), up_cell (by decide)]
        funext i; simp [up]
      have m3 : M' 3 = fun i => if i = n then r else M 3 i := by
        show (up (up (up (up M 2 n (l : Int)) 3 n r) 4 n b) 1 3 ((n : Int) + 1)) 3 = _
        rw [up_cell (by decide), up_cell (by decide)]
        funext i; simp [up]
      have m4 : ∀ i, M' 4 i = if i = n then b else M 4 i := fun i => by
        show (up (up (up (up M 2 n (l : Int)) 3 n r) 4 n b) 1 3 ((n : Int) + 1)) 4 i = _
        rw [up_cell (by decide)]
        simp [up]
      have m1 : M' 1 3 = ((n + 1 : Nat) : Int) := by
        show (up (up (up (up M 2 n (l : Int)) 3 n r) 4 n b) 1 3 ((n : Int) + 1)) 1 3 = _
        rw [up_same]; omega
      refine ⟨(n : Int), M', ?_, ⟨fun t ht => ?_, fun t h1 h2 => ?_⟩, ⟨fun a h1 h2 h3 h4 => ?_, fun j hj => ?_, fun t ht => ?_, by omega⟩, Or.inr ⟨n, rfl, ?_⟩⟩
      · rw [Int.toNat_natCast]
      · rw [m4, if_neg (by omega)]; exact hV.1 t ht
      · by_cases et : t = n
        · have x2 : M' 2 t = (l : Int) := by rw [m2]; exact if_pos et
          have x3 : M' 3 t = r := by rw [m3]; exact if_pos et
          rw [m4, if_pos et, x2, Int.toNat_natCast, m4, if_neg (by omega)]
          show bOr (M 4 l) (if r = -1 then 0 else M 4 r.toNat) = _
          by_cases er : r = -1
          · rw [if_pos er, if_pos (show M' 3 t = -1 by rw [x3]; exact er)]
          · rw [if_neg er, if_neg (show ¬ M' 3 t = -1 by rw [x3]; exact er), x3, m4, if_neg (by omega)]
        · have x2 : M' 2 t = M 2 t := by rw [m2]; exact if_neg et
          have x3 : M' 3 t = M 3 t := by rw [m3]; exact if_neg et
          have tt := hT.2 t h1 (by omega)
          rw [m4, if_neg et, x2, m4, if_neg (by omega), hV.2 t h1 (by omega)]
          by_cases er : M 3 t = -1
          · rw [if_pos er, if_pos (show M' 3 t = -1 by rw [x3]; exact er)]
          · rw [if_neg er, if_neg (show ¬ M' 3 t = -1 by rw [x3]; exact er), x3, m4, if_neg (by omega)]
      · show (up (up (up (up M 2 n (l : Int)) 3 n r) 4 n b) 1 3 ((n : Int) + 1)) a = _
        rw [up_cell h1, up_cell h4, up_cell h3, up_cell h2]
      · show (up (up (up (up M 2 n (l : Int)) 3 n r) 4 n b) 1 3 ((n : Int) + 1)) 1 j = _
        rw [up_at hj, up_cell (by decide), up_cell (by decide), up_cell (by decide)]
      · refine ⟨by rw [m4, if_neg (by omega)], by rw [m2]; exact if_neg (by omega), by rw [m3]; exact if_neg (by omega)⟩
      · show some (n, n + 1, _) = some (n, (M' 1 3).toNat, M' 2, M' 3)
        rw [m1, m2, m3, Int.toNat_natCast]
section CTYPE
variable {n : Nat} {ρ : Nat → Nat} {T : Nat → Ty}
/-- what stands while a type is numbered -/
def NT (M : Mm) (n : Nat) (ρ : Nat → Nat) (T : Nat → Ty) : Prop := Fg M n ρ ∧ TyG M n ρ T ∧ TyC M ∧ TyV M ∧ (∀ y, y < n → M 26 y ≠ 5) ∧ (∀ y, y < n → M 26 y = 2 → M 31 y < 0 ∨ M 31 y < 8) ∧ ∀ y, y < n → vOK (T y) → M 44 y = -1 ∨ ∃ t : Nat, M 44 y = (t : Int) ∧ ins (T y) (tabC M) = some (t, tabC M)
def Cz (M M' : Mm) (n : Nat) : Prop := (∀ a, a ≠ 1 → a ≠ 2 → a ≠ 3 → a ≠ 4 → a ≠ 29 → a ≠ 44 → M' a = M a) ∧ (∀ j, j ≠ 3 → M' 1 j = M 1 j) ∧ (∀ t : Nat, (t : Int) < M 1 3 → M' 4 t = M 4 t ∧ M' 2 t = M 2 t ∧ M' 3 t = M 3 t) ∧ M 1 3 ≤ M' 1 3 ∧ ∀ y, n ≤ y → M' 29 y = M 29 y
theorem Cz_refl (M : Mm) (n : Nat) : Cz M M n := ⟨fun _ _ _ _ _ _ _ => rfl, fun _ _ => rfl, fun _ _ => ⟨rfl, rfl, rfl⟩, Int.le_refl _, fun _ _ => rfl⟩
theorem Cz_trans {M M1 M2 : Mm} (a : Cz M M1 n) (b : Cz M1 M2 n) : Cz M M2 n := ⟨fun c h1 h2 h3 h4 h5 h6 => (b.1 c h1 h2 h3 h4 h5 h6).trans (a.1 c h1 h2 h3 h4 h5 h6), fun j hj => (b.2.1 j hj).trans (a.2.1 j hj), fun t ht => by have q := a.2.2.1 t ht; have q2 := b.2.2.1 t (by have := a.2.2.2.1; omega); exact ⟨q2.1.trans q.1, q2.2.1.trans q.2.1, q2.2.2.trans q.2.2⟩, Int.le_trans a.2.2.2.1 b.2.2.2.1, fun y hy => (b.2.2.2.2 y hy).trans (a.2.2.2.2 y hy)⟩
/-- a root is looked up -/
theorem NT_80 {M : Mm} {x : Nat} (h : NT M n ρ T) (hx : x < n) : ∃ M', f80 M (x : Int) = some ((ρ x : Int), M') ∧ NT M' n ρ T ∧ Cz M M' n ∧ tabC M' = tabC M := by
  obtain ⟨f, tg, c, v, k5, k8, mm⟩ := h
  obtain ⟨M', e1, e2, e3⟩ := Fg_80 f hx
  have et : tabC M' = tabC M := by unfold tabC; rw [e2.1 1 (by decide), e2.1 2 (by decide), e2.1 3 (by decide)]
  refine ⟨M', e1, ⟨e3, TyG_fr ⟨e2.1 26 (by decide), e2.1 27 (by decide), e2.1 28 (by decide), e2.1 31 (by decide)⟩ tg, ?_, ?_, by rw [e2.1 26 (by decide)]; exact k5, by rw [e2.1 26 (by decide), e2.1 31 (by decide)]; exact k8, by rw [et, e2.1 44 (by decide)]; exact mm⟩, ⟨fun a _ _ _ _ h5 _ => e2.1 a h5, fun j _ => by rw [e2.1 1 (by decide)], fun t _ => by rw [e2.1 4 (by decide), e2.1 2 (by decide), e2.1 3 (by decide)]; exact ⟨rfl, rfl, rfl⟩, by rw [e2.1 1 (by decide)]; exact Int.le_refl _, e2.2⟩, et⟩
  · unfold TyC; rw [e2.1 1 (by decide), e2.1 2 (by decide), e2.1 3 (by decide)]; exact c
  · unfold TyV; rw [e2.1 1 (by decide), e2.1 2 (by decide), e2.1 3 (by decide), e2.1 4 (by decide)]; exact v
/-- a type is made and noted -/
theorem NT_19 {M : Mm} {x l : Nat} {r : Int} (h : NT M n ρ T) (hx : x < n) (hv : vOK (T x)) (hl : (l : Int) < M 1 3) (hr : r = -1 ∨ (0 ≤ r ∧ r < M 1 3)) (hi : ins (T x) (tabC M) = tadd (tabC M) (l : Int) r) (hc : ∀ t C, tadd (tabC M) (l : Int) r = some (t, C) → ins (T x) C = some (t, C)) : ∃ v M', f19 M (l : Int) r = some (v, M') ∧ NT (up M' 44 x v) n ρ T ∧ Cz M (up M' 44 x v) n ∧ ((v = -1 ∧ ins (T x) (tabC M) = none) ∨ ∃ t : Nat, v = (t : Int) ∧ ins (T x) (tabC M) = some (t, tabC (up M' 44 x v))) := by
  obtain ⟨f, tg, c, tv, k5, k8, mm⟩ := h
  obtain ⟨v, M', e1, e2, e3, e4⟩ := f19_ok c tv hl hr
  have et : tabC (up M' 44 x v) = tabC M' := by unfold tabC; rw [up_cell (by decide), up_cell (by decide), up_cell (by decide)]
  have fr : ∀ a, a ≠ 1 → a ≠ 2 → a ≠ 3 → a ≠ 4 → a ≠ 44 → (up M' 44 x v) a = M a := fun a h1 h2 h3 h4 h5 => by rw [up_cell h5, e3.1 a h1 h2 h3 h4]
  have cz : Cz M (up M' 44 x v) n := ⟨fun a h1 h2 h3 h4 _ h6 => fr a h1 h2 h3 h4 h6, fun j hj => by rw [up_cell (by decide), e3.2.1 j hj], fun t ht => by rw [up_cell (by decide), up_cell (by decide), up_cell (by decide)]; exact e3.2.2.1 t ht, by rw [up_cell (by decide)]; exact e3.2.2.2, fun y _ => by rw [fr 29 (by decide) (by decide) (by decide) (by decide) (by decide)]⟩
  have WM := TyC_WT c
  have wt : WT (tabC M') ∧ ext (tabC M) (tabC M') := by
    rcases e4 with ⟨-, -, z⟩ | ⟨t, -, z⟩
    · rw [z]; exact ⟨WM, ext_refl _⟩
    · have := tadd_ok (r := r.toNat) WM (show l < (M 1 3).toNat by omega) (by rcases hr with y | y; exact Or.inl y; exact Or.inr ⟨by omega, by show r.toNat < (M 1 3).toNat; omega⟩) z
      exact ⟨this.1, this.2.1⟩
  refine ⟨v, M', e1, ⟨Fg_same (fun a h1 h2 => fr a (by omega) (by omega) (by omega) (by omega) (by omega)) f, TyG_fr ⟨fr 26 (by decide) (by decide) (by decide) (by decide) (by decide), fr 27 (by decide) (by decide) (by decide) (by decide) (by decide), fr 28 (by decide) (by decide) (by decide) (by decide) (by decide), fr 31 (by decide) (by decide) (by decide) (by decide) (by decide)⟩ tg, WT_TyC (by rw [et]; exact wt.1), ?_, by rw [fr 26 (by decide) (by decide) (by decide) (by decide) (by decide)]; exact k5, by rw [fr 26 (by decide) (by decide) (by decide) (by decide) (by decide), fr 31 (by decide) (by decide) (by decide) (by decide) (by decide)]; exact k8, fun y hy vy => ?_⟩, cz, ?_⟩
  · unfold TyV
    rw [up_cell (by decide), up_cell (by decide), up_cell (by decide), up_cell (by decide)]
    exact e2
  · rw [et]
    by_cases e : y = x
    · subst e
      rw [up_same]
      rcases e4 with ⟨z, -, -⟩ | ⟨t, z1, z2⟩
      · exact Or.inl z
      · exact Or.inr ⟨t, z1, hc t _ z2⟩
    · rw [up_at e, e3.1 44 (by decide) (by decide) (by decide) (by decide)]
      rcases mm y hy vy with z | ⟨t, z1, z2⟩
      · exact Or.inl z
      · exact Or.inr ⟨t, z1, ins_ok.ins_ext (T y) vy WM z2 wt.2⟩
  · rw [et, hi]
    rcases e4 with ⟨z1, z2, -⟩ | ⟨t, z1, z2⟩
    · exact Or.inl ⟨z1, z2⟩
    · exact Or.inr ⟨t, z1, z2⟩
theorem f138_ok : ∀ (F d : Nat) (M : Mm) (x : Nat), d + F = 40 → d ≤ 30 → NT M n ρ T → x < n → ρ x = x → vOK (T x) → ∃ v M', f138 F M (x : Int) (d : Int) = some (v, M') ∧ NT M' n ρ T ∧ Cz M M' n ∧ ((v = -1 ∧ (ins (T x) (tabC M) = none ∨ 30 < hT (T x) + d)) ∨ ∃ t : Nat, v = (t : Int) ∧ ins (T x) (tabC M) = some (t, tabC M')) := by
  intro F
  induction F with
  | zero => intro d M x h1 h2; omega
  | succ F ih =>
    intro d M x h1 h2 h hx hr hv
    have h0 := h
    obtain ⟨f, tg, c, tv, k5, k8, mm⟩ := h
    have hn := f.1.2.2.1
    obtain ⟨q1, q2, q3, q4, q5, q6⟩ := f.1.2.2.2 x hx
    obtain ⟨g0, g1, g2, g3, g4, g5⟩ := tg.2 x hx
    rw [hr] at g0 g1 g2 g3 g4 g5
    have tx : Int.toNat (x : Int) = x := Int.toNat_natCast x
    rw [f138, f111_ok (by omega), bs_]
    by_cases k0 : M 26 x = 0
    · rw [if_pos k0, k0]
      exact ⟨0, M, rfl, h0, Cz_refl _ _, Or.inr ⟨0, rfl, by rw [g0 k0]; rfl⟩⟩
    · rw [if_neg k0]
      by_cases k1 : M 26 x = 1
      · rw [if_neg (fun z => z k1), k1]
        exact ⟨1, M, rfl, h0, Cz_refl _ _, Or.inr ⟨1, rfl, by rw [g1 k1]; rfl⟩⟩
      · rw [if_pos k1]
        by_cases k2 : M 26 x = 2
        · have vv := hv
          rw [g2 k2] at vv
          have vv : lb M x ≥ 0 ∧ lb M x < 8 := vv.2
          have e31 : lb M x = M 31 x := by
            unfold lb at vv ⊢
            by_cases z : M 31 x < 0
            · rw [if_pos z] at vv; omega
            · rw [if_neg z]
          rw [if_neg (fun z => z k2)]
          unfold f114
          rw [if_pos (by omega), tx, bs_]
          dsimp only
          rw [if_neg (show ¬ M 31 x < -1 by omega), if_pos (show rg (2 + M 31 x) by omega)]
          refine ⟨2 + M 31 x, M, rfl, h0, Cz_refl _ _, Or.inr ⟨(2 + M 31 x).toNat, by omega, ?_⟩⟩
          rw [g2 k2, e31]
          rfl
        · have k34 : 3 ≤ M 26 x ∧ M 26 x ≤ 4 := by have := k5 x hx; omega
          rw [if_pos k2, if_pos (by omega), tx]
          by_cases m1 : M 44 x = -1
          · rw [if_neg (fun z => z m1)]
            have hpos : 1 ≤ hT (T x) := by
              by_cases k3 : M 26 x = 3
              · rw [g3 k3]; show 1 ≤ hT _ + 1; omega
              · rw [g4 (by omega)]; show 1 ≤ max _ _ + 1; omega
            by_cases d30 : (d : Int) < 30
            · rw [if_pos d30]
              have p1 := q2 k34
              obtain ⟨a, ha⟩ : ∃ a : Nat, M 27 x = (a : Int) := ⟨(M 27 x).toNat, by omega⟩
              have ta : (M 27 x).toNat = a := by omega
              rw [ta] at g3 g4
              have ra := f.2.2 a (by omega)
              have Ta : T (ρ a) = T a := tg.1 _ _ ra.2
              obtain ⟨M1, e1, e2, e3, e4⟩ := NT_80 h0 (x := a) (by omega)
              have va : vOK (T (ρ a)) := by
                rw [Ta]
                by_cases k3 : M 26 x = 3
                · rw [g3 k3] at hv; exact hv.2
                · rw [g4 (by omega)] at hv; exact hv.1
              have e112 : f112 M (x : Int) = some ((ρ a : Int), M1) := by
                unfold f112
                rw [if_pos (by omega), tx, ha, e1, bs_]
              rw [e112, bs_]
              dsimp only
              rw [if_pos (by omega), show (d : Int) + 1 = ((d + 1 : Nat) : Int) by omega]
              obtain ⟨v1, M2, i1, i2, i3, i4⟩ := ih (d + 1) M1 (ρ a) (by omega) (by omega) e2 ra.1 ra.2 va
              rw [i1, bs_]
              dsimp only
              have c2 := Cz_trans e3 i3
              rw [Ta, e4] at i4
              rcases i4 with ⟨z1, z2⟩ | ⟨l, z1, z2⟩
              · rw [if_neg (fun z => z z1)]
                refine ⟨-1, M2, rfl, i2, c2, Or.inl ⟨rfl, ?_⟩⟩
                by_cases k3 : M 26 x = 3
                · rw [g3 k3]
                  rcases z2 with z2 | z2
                  · exact Or.inl (by show (ins (T a) (tabC M)).bind _ = none; rw [z2]; rfl)
                  · exact Or.inr (by show 30 < hT (T a) + 1 + d; omega)
                · rw [g4 (by omega)]
                  rcases z2 with z2 | z2
                  · exact Or.inl (by show (ins (T a) (tabC M)).bind _ = none; rw [z2]; rfl)
                  · exact Or.inr (by show 30 < max (hT (T a)) _ + 1 + d; omega)
              · rw [if_pos (by omega)]
                rw [Ta] at va
                have W0 := TyC_WT c
                obtain ⟨o1, o2, o3, o4, o5, o6⟩ := ins_ok (T a) va W0 z2
                have c10 := i2.2.2.1.1
                have o3 : l < (M2 1 3).toNat := o3
                by_cases k3 : M 26 x = 3
                · rw [if_pos (by omega), z1]
                  have insx : ∀ C, ins (T x) C = (ins (T a) C).bind (fun z => tadd z.2 (z.1 : Int) (-1)) := fun C => by rw [g3 k3]; rfl
                  obtain ⟨w, M3, j1, j2, j3, j4⟩ := NT_19 (x := x) (l := l) (r := -1) i2 hx hv (by omega) (Or.inl rfl) (by rw [insx, o4]; rfl) (fun t C hC => by
                    obtain ⟨y1, y2, y3, y4, y5, y6⟩ := tadd_ok (r := 0) o1 o3 (Or.inl rfl) hC
                    rw [insx, ins_ok.ins_ext (T a) va o1 o4 y2]
                    exact y5)
                  rw [j1, bs_]
                  refine ⟨_, _, rfl, j2, Cz_trans c2 j3, ?_⟩
                  rw [up_same]
                  have e5 : ins (T x) (tabC M) = ins (T x) (tabC M2) := by rw [insx, insx, z2, o4]
                  rw [e5]
                  rcases j4 with ⟨y1, y2⟩ | y
                  · exact Or.inl ⟨y1, Or.inl y2⟩
                  · exact Or.inr y
                · have k4 : M 26 x = 4 := by omega
                  rw [if_neg (fun z => z k4)]
                  have p2 := q4 k4
                  obtain ⟨b, hb⟩ : ∃ b : Nat, M 28 x = (b : Int) := ⟨(M 28 x).toNat, by omega⟩
                  have tb : (M 28 x).toNat = b := by omega
                  rw [tb] at g4
                  have rb := f.2.2 b (by omega)
                  have Tb : T (ρ b) = T b := tg.1 _ _ rb.2
                  have vb : vOK (T (ρ b)) := by rw [Tb]; rw [g4 k4] at hv; exact hv.2
                  obtain ⟨M3, s1, s2, s3, s4⟩ := NT_80 i2 (x := b) (by omega)
                  have m28 : M2 28 x = (b : Int) := by rw [c2.1 28 (by decide) (by decide) (by decide) (by decide) (by decide) (by decide)]; exact hb
                  have e139 : f139 M2 (x : Int) = some ((ρ b : Int), M3) := by
                    unfold f139
                    rw [if_pos (by omega), tx, m28, s1, bs_]
                  rw [e139, bs_]
                  dsimp only
                  obtain ⟨v2, M4, u1, u2, u3, u4⟩ := ih (d + 1) M3 (ρ b) (by omega) (by omega) s2 rb.1 rb.2 vb
                  rw [u1, bs_]
                  dsimp only
                  have c4 := Cz_trans c2 (Cz_trans s3 u3)
                  rw [Tb, s4] at u4
                  have insx : ∀ C, ins (T x) C = (ins (T a) C).bind (fun z => (ins (T b) z.2).bind (fun w => tadd w.2 (z.1 : Int) (w.1 : Int))) := fun C => by rw [g4 k4]; rfl
                  rcases u4 with ⟨y1, y2⟩ | ⟨r, y1, y2⟩
                  · rw [if_neg (fun z => z y1)]
                    refine ⟨-1, M4, rfl, u2, c4, Or.inl ⟨rfl, ?_⟩⟩
                    rcases y2 with y2 | y2
                    · refine Or.inl ?_
                      rw [insx, z2]
                      show (ins (T b) (tabC M2)).bind _ = none
                      rw [y2]; rfl
                    · refine Or.inr ?_
                      rw [g4 k4]
                      show 30 < max (hT (T a)) (hT (T b)) + 1 + d
                      omega
                  · rw [if_pos (by omega)]
                    rw [Tb] at vb
                    obtain ⟨o1', o2', o3', o4', o5', o6'⟩ := ins_ok (T b) vb o1 y2
                    have o3' : r < (M4 1 3).toNat := o3'
                    have c40 := u2.2.2.1.1
                    have ll : (M2 1 3).toNat ≤ (M4 1 3).toNat := o2'.1
                    have o4a : ins (T a) (tabC M4) = some (l, tabC M4) := ins_ok.ins_ext (T a) va o1 o4 o2'
                    have hdef : ins (T x) (tabC M4) = tadd (tabC M4) (l : Int) (r : Int) := by
                      rw [insx, o4a]
                      show (ins (T b) (tabC M4)).bind _ = _
                      rw [o4']; rfl
                    obtain ⟨w, M5, j1, j2, j3, j4⟩ := NT_19 (x := x) (l := l) (r := (r : Int)) u2 hx hv (by omega) (Or.inr (by omega)) hdef (fun t C hC => by
                      obtain ⟨y1, y2, y3, y4, y5, y6⟩ := tadd_ok (r := r) o1' (show l < (M4 1 3).toNat by omega) (Or.inr ⟨rfl, o3'⟩) hC
                      rw [insx, ins_ok.ins_ext (T a) va o1' o4a y2]
                      show (ins (T b) C).bind _ = _
                      rw [ins_ok.ins_ext (T b) vb o1' o4' y2]
                      exact y5)
                    rw [z1, y1, j1, bs_]
                    refine ⟨_, _, rfl, j2, Cz_trans c4 j3, ?_⟩
                    rw [up_same]
                    have e5 : ins (T x) (tabC M) = ins (T x) (tabC M4) := by
                      rw [hdef, insx, z2]
                      show (ins (T b) (tabC M2)).bind _ = _
                      rw [y2]; rfl
                    rw [e5]
                    rcases j4 with ⟨y1, y2⟩ | y
                    · exact Or.inl ⟨y1, Or.inl y2⟩
                    · exact Or.inr y
            · rw [if_neg d30]
              refine ⟨M 44 x, M, rfl, h0, Cz_refl _ _, Or.inl ⟨m1, Or.inr ?_⟩⟩
              omega
          · rw [if_pos m1]
            refine ⟨M 44 x, M, rfl, h0, Cz_refl _ _, Or.inr ?_⟩
            rcases mm x hx hv with z | z
            · exact absurd z m1
            · exact z
end CTYPE
