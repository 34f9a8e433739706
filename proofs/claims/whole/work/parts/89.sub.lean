/-! Types put for variables; what the two graphs say of places. -/
def sub (σ : Int → Ty) : Ty → Ty
  | .nest v _ => σ v
  | .group a b => .group (sub σ a) b
  | .append a b => .append (sub σ a) (sub σ b)
  | t => t
theorem sub_sub (σ τ : Int → Ty) : ∀ T : Ty, sub σ (sub τ T) = sub (fun v => sub σ (τ v)) T
  | .nest _ _ => rfl
  | .group a _ => congrArg (Std.Format.group · _) (sub_sub σ τ a)
  | .append a b => by show Std.Format.append _ _ = Std.Format.append _ _; rw [sub_sub σ τ a, sub_sub σ τ b]
  | .nil => rfl
  | .line => rfl
  | .align _ => rfl
  | .text _ => rfl
  | .tag _ _ => rfl
def vlt (m : Int) : Ty → Prop
  | .nest v _ => 0 ≤ v ∧ v < m
  | .group a _ => vlt m a
  | .append a b => vlt m a ∧ vlt m b
  | _ => True
theorem sub_vlt {m : Int} {σ τ : Int → Ty} (h : ∀ v, 0 ≤ v → v < m → σ v = τ v) : ∀ T : Ty, vlt m T → sub σ T = sub τ T
  | .nest v _, k => h v k.1 k.2
  | .group a _, k => congrArg (Std.Format.group · _) (sub_vlt h a k)
  | .append a b, k => by show Std.Format.append _ _ = Std.Format.append _ _; rw [sub_vlt h a k.1, sub_vlt h b k.2]
  | .nil, _ => rfl
  | .line, _ => rfl
  | .align _, _ => rfl
  | .text _, _ => rfl
  | .tag _ _, _ => rfl
def dt (M : Mm) (t : Nat) : Ty := dc (tabC M) (t + 1) t
theorem dc_st {B : Tab} (hB : WT B) : ∀ (f g t : Nat), t < B.1 → t < f → t < g → dc B f t = dc B g t := by
  intro f
  induction f with
  | zero => intro g t _ h1; omega
  | succ f ih =>
    intro g t hN h1 h2
    obtain ⟨g, rfl⟩ : ∃ g', g = g' + 1 := ⟨g - 1, by omega⟩
    by_cases h10 : t < 10
    · rw [dc_lt h10, dc_lt h10]
    · have w := hB.2 t (by omega) hN
      rw [dc_10 (by omega), dc_10 (by omega), ih g (B.2.1 t).toNat (by omega) (by omega) (by omega)]
      by_cases e : B.2.2 t = -1
      · rw [if_pos e, if_pos e]
      · rw [if_neg e, if_neg e, ih g (B.2.2 t).toNat (by omega) (by omega) (by omega)]
theorem dc_vlt {B : Tab} {t m : Nat} (hB : WT B) (h : ∀ i, Oc B.2.1 B.2.2 t i → 2 ≤ i → i < 10 → i - 2 < m) : ∀ (f i : Nat), i < B.1 → Oc B.2.1 B.2.2 t i → vlt (m : Int) (dc B f i) := by
  intro f
  induction f with
  | zero => intro i _ _; exact trivial
  | succ f ih =>
    intro i hi o
    by_cases h10 : i < 10
    · rw [dc_lt h10]
      by_cases e0 : i = 0
      · rw [if_pos e0]; exact trivial
      · rw [if_neg e0]
        by_cases e1 : i = 1
        · rw [if_pos e1]; exact trivial
        · rw [if_neg e1]
          have := h i o (by omega) h10
          exact ⟨by omega, by omega⟩
    · have w := hB.2 i (by omega) hi
      rw [dc_10 (by omega)]
      by_cases e : B.2.2 i = -1
      · rw [if_pos e]
        exact ih _ (by omega) (Oc_l o (by omega))
      · rw [if_neg e]
        exact ⟨ih _ (by omega) (Oc_l o (by omega)), ih _ (by omega) (Oc_r o (by omega) e)⟩
theorem dt_vlt {M : Mm} {t m : Nat} (hC : TyC M) (hV : TyV M) (ht : (t : Int) < M 1 3) (hm : M 4 t = ((2 ^ m - 1 : Nat) : Int)) : vlt (m : Int) (dt M t) :=
  dc_vlt (TyC_WT hC) (fun i o h2 h10 => Oc_var hC hV ht hm o h2 h10) (t + 1) t (by have := hC.1; show t < (M 1 3).toNat; omega) (Oc_t _ _ _)
theorem dt_ext {M M' : Mm} {t : Nat} (hC : TyC M) (he : ext (tabC M) (tabC M')) (ht : (t : Int) < M 1 3) : dt M' t = dt M t :=
  dc_ext (TyC_WT hC) he (t + 1) t (by have := hC.1; show t < (M 1 3).toNat; omega)
/-- a primitive's types -/
def PTy (k : Nat) (T : Ty) : Prop := (k ≤ 1 ∧ T = tB) ∨ (k = 2 ∧ T = tF tI (tF tI tI)) ∨ (k = 3 ∧ T = tF tI (tF tI tB)) ∨ (k = 4 ∧ ∃ a, T = tF tB (tF a (tF a a))) ∨ (k = 5 ∧ ∃ a, T = tL a) ∨ (k = 6 ∧ ∃ a, T = tF a (tF (tL a) (tL a))) ∨ (k = 7 ∧ ∃ a b, T = tF (tF a (tF b b)) (tF b (tF (tL a) b)))
section PLACES
variable {Mc Mr : Mm} {S : Nat → Nat → Prop} {n n' k : Nat} {cs : List (Nat × Nat)} {ρ ρ' : Nat → Nat} {T : Nat → Ty}
theorem T_eq (h : Fin2 Mc Mr S n n' cs ρ ρ') (tg : TyG Mc n ρ T) {x y : Nat} (hm : (x, y) ∈ cs) : T x = T y := by
  obtain ⟨cs', _, u, _⟩ := h.2.2.2.2
  exact tg.1 x y (Ui_cs u hm)
theorem T_kd (h : Fin2 Mc Mr S n n' cs ρ ρ') {y : Nat} (hy : y < n) (hk : Mc 26 y ≠ 2) : Mc 26 (ρ y) = Mc 26 y := by
  obtain ⟨cs', _, u, _⟩ := h.2.2.2.2
  have ky := kI h.1 hy
  have kr := kI h.1 (h.1.2.2 y hy).1
  have := Ui_K u hy (show gN Mc 26 y ≠ 2 by omega)
  omega
theorem T_int (h : Fin2 Mc Mr S n n' cs ρ ρ') (tg : TyG Mc n ρ T) : T 0 = tI ∧ T 1 = tB := by
  have hn := h.1.1.2.1
  have k0 := h.2.2.1.1
  have k1 := h.2.2.1.2.1
  exact ⟨(tg.2 0 (by omega)).1 (by rw [T_kd h (by omega) (by omega)]; exact k0), (tg.2 1 (by omega)).2.1 (by rw [T_kd h (by omega) (by omega)]; exact k1)⟩
theorem T_isL (h : Fin2 Mc Mr S n n' cs ρ ρ') (tg : TyG Mc n ρ T) {y a : Nat} (hy : y < n) (q : isL Mc y a) : T y = tL (T a) := by
  obtain ⟨cs', _, u, _⟩ := h.2.2.2.2
  obtain ⟨q1, q2⟩ := q
  have kr := T_kd h hy (by omega)
  have ky := kI h.1 hy
  have e := Ui_A u hy (show 3 ≤ gN Mc 26 y ∧ gN Mc 26 y ≤ 4 by omega)
  rw [(tg.2 y hy).2.2.2.1 (by omega)]
  have e2 : ρ (Mc 27 y).toNat = ρ (Mc 27 (ρ y)).toNat := e
  rw [q2, Int.toNat_natCast] at e2
  rw [tg.1 _ _ e2]
theorem T_isF (h : Fin2 Mc Mr S n n' cs ρ ρ') (tg : TyG Mc n ρ T) {y a b : Nat} (hy : y < n) (q : isF Mc y a b) : T y = tF (T a) (T b) := by
  obtain ⟨cs', _, u, _⟩ := h.2.2.2.2
  obtain ⟨q1, q2, q3⟩ := q
  have kr := T_kd h hy (by omega)
  have ky := kI h.1 hy
  have e := Ui_A u hy (show 3 ≤ gN Mc 26 y ∧ gN Mc 26 y ≤ 4 by omega)
  have f := Ui_B u hy (show gN Mc 26 y = 4 by omega)
  rw [(tg.2 y hy).2.2.2.2.1 (by omega)]
  have e2 : ρ (Mc 27 y).toNat = ρ (Mc 27 (ρ y)).toNat := e
  have f2 : ρ (Mc 28 y).toNat = ρ (Mc 28 (ρ y)).toNat := f
  rw [q2, Int.toNat_natCast] at e2
  rw [q3, Int.toNat_natCast] at f2
  rw [tg.1 _ _ e2, tg.1 _ _ f2]
theorem T_PN (h : Fin2 Mc Mr S n n' cs ρ ρ') (tg : TyG Mc n ρ T) {y k : Nat} (hy : y < n) (q : PN Mc k y) : PTy k (T y) := by
  have g := h.1.1
  have ti := T_int h tg
  rcases q with ⟨q1, q2⟩ | ⟨q1, y1, q2, q3⟩ | ⟨q1, y1, q2, q3⟩ | ⟨q1, a, y1, y2, q2, q3, q4⟩ | ⟨q1, a, q2⟩ | ⟨q1, a, l, y1, q2, q3, q4⟩ | ⟨q1, a, l, b, y1, y2, y3, y4, q2, q3, q4, q5, q6, q7⟩
  · exact Or.inl ⟨q1, by rw [q2]; exact ti.2⟩
  · have z := GW_F g hy q2
    exact Or.inr (Or.inl ⟨q1, by rw [T_isF h tg hy q2, T_isF h tg z.2 q3, ti.1]⟩)
  · have z := GW_F g hy q2
    exact Or.inr (Or.inr (Or.inl ⟨q1, by rw [T_isF h tg hy q2, T_isF h tg z.2 q3, ti.1, ti.2]⟩))
  · have z := GW_F g hy q2
    have z2 := GW_F g z.2 q3
    exact Or.inr (Or.inr (Or.inr (Or.inl ⟨q1, T a, by rw [T_isF h tg hy q2, T_isF h tg z.2 q3, T_isF h tg z2.2 q4, ti.2]⟩)))
  · exact Or.inr (Or.inr (Or.inr (Or.inr (Or.inl ⟨q1, T a, T_isL h tg hy q2⟩))))
  · have z := GW_F g hy q3
    have z2 := GW_F g z.2 q4
    exact Or.inr (Or.inr (Or.inr (Or.inr (Or.inr (Or.inl ⟨q1, T a, by rw [T_isF h tg hy q3, T_isF h tg z.2 q4, T_isL h tg z2.1 q2]⟩)))))
  · have z := GW_F g hy q7
    have z2 := GW_F g z.1 q4
    have z4 := GW_F g z.2 q6
    have z3 := GW_F g z4.2 q5
    exact Or.inr (Or.inr (Or.inr (Or.inr (Or.inr (Or.inr ⟨q1, T a, T b, by rw [T_isF h tg hy q7, T_isF h tg z.1 q4, T_isF h tg z2.2 q3, T_isF h tg z.2 q6, T_isF h tg z4.2 q5, T_isL h tg z3.1 q2]⟩)))))
theorem T_TNs (h : Fin2 Mc Mr S n n' cs ρ ρ') (tg : TyG Mc n ρ T) (hC : TyC Mc) {t : Nat} {fill ν : Nat → Nat} (ht : (t : Int) < Mc 1 3) (hy : ν t < n) (q : TNs Mc (Mc 2) (Mc 3) fill ν t (t + 1)) : T (ν t) = sub (fun v => T (fill v.toNat)) (dt Mc t) := by
  have g := h.1.1
  have hB := TyC_WT hC
  have key : ∀ (f i : Nat), i < f → i ≤ t → Oc (Mc 2) (Mc 3) t i → ν i < n → T (ν i) = sub (fun v => T (fill v.toNat)) (dc (tabC Mc) f i) := by
    intro f
    induction f with
    | zero => intro i h1; omega
    | succ f ih =>
      intro i h1 hi o hn
      obtain ⟨a1, a2, a3, a4⟩ := q i (by omega) o
      by_cases h10 : i < 10
      · rw [dc_lt h10]
        by_cases e0 : i = 0
        · rw [if_pos e0, a1 (by omega), e0]; exact (T_int h tg).1
        · rw [if_neg e0]
          by_cases e1 : i = 1
          · rw [if_pos e1, a1 (by omega), e1]; exact (T_int h tg).2
          · rw [if_neg e1, a2 (by omega) h10]
            show T _ = T (fill ((i : Int) - 2).toNat)
            rw [show ((i : Int) - 2).toNat = i - 2 by omega]
      · have w := hC.2 i (by omega) (by omega)
        rw [dc_10 (by omega)]
        show _ = sub _ (if Mc 3 i = -1 then tL (dc (tabC Mc) f (Mc 2 i).toNat) else tF (dc (tabC Mc) f (Mc 2 i).toNat) (dc (tabC Mc) f (Mc 3 i).toNat))
        by_cases e : Mc 3 i = -1
        · have z := a3 (by omega) e
          have zl := GW_L g hn z
          rw [if_pos e, T_isL h tg hn z, ih (Mc 2 i).toNat (by omega) (by omega) (Oc_l o (by omega)) zl]
          rfl
        · have z := a4 (by omega) e
          have zl := GW_F g hn z
          rw [if_neg e, T_isF h tg hn z, ih (Mc 2 i).toNat (by omega) (by omega) (Oc_l o (by omega)) zl.1, ih (Mc 3 i).toNat (by omega) (by omega) (Oc_r o (by omega) e) zl.2]
          rfl
  exact key (t + 1) t (by omega) (by omega) (Oc_t _ _ _) hy
end PLACES
