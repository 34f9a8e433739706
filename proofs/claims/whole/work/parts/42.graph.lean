/-! THE CLASS'S GRAPH: cells 26 (kinds), 27, 28 (parts), 29 (links), 33 (what waits), 25.8 (how many). -/
/-- it comes to something, and that is so -/
def wp {α : Type} (o : Option α) (P : α → Prop) : Prop := ∃ r, o = some r ∧ P r
section WP
variable {α β : Type} {P Q : α → Prop}
theorem wp_some {r : α} (h : P r) : wp (some r) P := ⟨r, rfl, h⟩
theorem wp_chk {c : Prop} {d : Decidable c} {a : Option α} (h : c) (k : wp a P) : wp (@ite _ c d a none) P := by rw [if_pos h]; exact k
theorem wp_ite {c : Prop} {d : Decidable c} {a b : Option α} (k1 : c → wp a P) (k2 : ¬ c → wp b P) : wp (@ite _ c d a b) P := by
  by_cases h : c
  · rw [if_pos h]; exact k1 h
  · rw [if_neg h]; exact k2 h
theorem wp_T {c : Prop} {d : Decidable c} {a b : Option α} (h : c) (k : wp a P) : wp (@ite _ c d a b) P := by rw [if_pos h]; exact k
theorem wp_F {c : Prop} {d : Decidable c} {a b : Option α} (h : ¬ c) (k : wp b P) : wp (@ite _ c d a b) P := by rw [if_neg h]; exact k
theorem wp_bind {x : Option β} {f : β → Option α} (h : wp x (fun r => wp (f r) P)) : wp (x.bind f) P := by
  obtain ⟨r, rfl, s, h1, h2⟩ := h
  exact ⟨s, h1, h2⟩
theorem wp_mono {o : Option α} (h : wp o Q) (k : ∀ r, Q r → P r) : wp o P := by
  obtain ⟨r, h1, h2⟩ := h
  exact ⟨r, h1, k r h2⟩
theorem wp_do {x : Option β} {R : β → Prop} {f : β → Option α} (h : wp x R) (k : ∀ r, R r → wp (f r) P) : wp (x.bind f) P := wp_bind (wp_mono h k)
end WP
/-- how many -/
def cn (p : Nat → Bool) : Nat → Nat
  | 0 => 0
  | n + 1 => cn p n + (if p n = true then 1 else 0)
theorem cn_le (p : Nat → Bool) : ∀ n, cn p n ≤ n
  | 0 => Nat.le_refl _
  | n + 1 => by
    have := cn_le p n
    show cn p n + (if p n = true then 1 else 0) ≤ n + 1
    split <;> omega
theorem cn_eq {p q : Nat → Bool} : ∀ {n : Nat}, (∀ x, x < n → p x = q x) → cn p n = cn q n
  | 0, _ => rfl
  | n + 1, h => by
    show cn p n + (if p n = true then 1 else 0) = cn q n + (if q n = true then 1 else 0)
    rw [cn_eq (fun x hx => h x (by omega)), h n (by omega)]
theorem cn_less {p q : Nat → Bool} {u : Nat} (hp : p u = true) (hq : q u = false) : ∀ {n : Nat}, u < n → (∀ x, x < n → x ≠ u → q x = p x) → cn q n + 1 = cn p n
  | 0, hu, _ => absurd hu (Nat.not_lt_zero _)
  | n + 1, hu, h => by
    show cn q n + (if q n = true then 1 else 0) + 1 = cn p n + (if p n = true then 1 else 0)
    by_cases e : u = n
    · subst e
      rw [cn_eq (p := q) (q := p) (fun x hx => h x (by omega) (by omega)), hp, hq]
      simp
    · have := cn_less hp hq (n := n) (by omega) (fun x hx => h x (by omega))
      rw [h n (by omega) (fun q => e q.symm)]
      omega
theorem cn_pos {p : Nat → Bool} {u : Nat} (hp : p u = true) : ∀ {n : Nat}, u < n → 1 ≤ cn p n
  | 0, hu => absurd hu (Nat.not_lt_zero _)
  | n + 1, hu => by
    show 1 ≤ cn p n + (if p n = true then 1 else 0)
    by_cases e : u = n
    · subst e
      rw [hp]
      simp
    · have := cn_pos hp (n := n) (by omega)
      omega
def rc (n : Nat) (ρ : Nat → Nat) : Nat := cn (fun x => decide (ρ x = x)) n
theorem rk_pred {l : Nat → Nat} : ∀ {k x r : Nat}, rk l k x r → l x ≠ x → ∃ k', k = k' + 1 ∧ rk l k' (l x) r
  | 0, x, r, h, e => by
    obtain ⟨rfl, h⟩ := h
    exact absurd h e
  | k + 1, x, r, h, e => by
    rcases h with h | h
    · obtain ⟨k', e1, h'⟩ := rk_pred h e
      subst e1
      exact ⟨_, rfl, Or.inl h'⟩
    · exact ⟨k, rfl, h⟩
def gN (M : Mm) (a x : Nat) : Nat := (M a x).toNat
/-- nodes as they must be: kinds in cell k, parts in a and b (-1 or anything where there is none) -/
def GW (M : Mm) (n : Nat) : Prop := M 25 8 = (n : Int) ∧ 2 ≤ n ∧ n ≤ 2504 ∧ ∀ x, x < n → (0 ≤ M 26 x ∧ M 26 x ≤ 5) ∧ ((3 ≤ M 26 x ∧ M 26 x ≤ 4) → 0 ≤ M 27 x ∧ M 27 x < (n : Int)) ∧ (¬ (3 ≤ M 26 x ∧ M 26 x ≤ 4) → M 27 x = -1) ∧ (M 26 x = 4 → 0 ≤ M 28 x ∧ M 28 x < (n : Int)) ∧ (¬ M 26 x = 4 → M 28 x = -1) ∧ (0 ≤ M 29 x ∧ M 29 x < (n : Int))
def Lc (M : Mm) (n J : Nat) (ρ : Nat → Nat) : Prop := (∀ y, y < n → 0 ≤ M 29 y ∧ M 29 y < (n : Int)) ∧ ∀ y, y < n → rk (gN M 29) J y (ρ y)
/-- nothing has changed but links -/
def fr29 (M M' : Mm) (n : Nat) : Prop := (∀ a, a ≠ 29 → M' a = M a) ∧ ∀ y, n ≤ y → M' 29 y = M 29 y
theorem l80_ok {n J : Nat} {ρ : Nat → Nat} (hn : n ≤ 2504) (x1 : Int) : ∀ (f : Nat) (M : Mm) (k x r : Nat) (u : Int), k < f → 0 ≤ u → u + (k : Int) ≤ 2504 → x < n → Lc M n J ρ → rk (gN M 29) k x r → wp (l80 f 4 M x1 (x : Int) u) (fun q => q.1 = (r : Int) ∧ fr29 M q.2 n ∧ Lc q.2 n J ρ)
  | 0, _, _, _, _, _, h, _, _, _, _, _ => absurd h (Nat.not_lt_zero _)
  | f + 1, M, k, x, r, u, hk, hu, hu2, hx, hl, hr => by
    rw [l80]
    have hx2 : ((x : Int)).toNat = x := Int.toNat_natCast x
    refine wp_ite (fun hu3 => ?_) (fun hu3 => ?_)
    · obtain rfl : k = 0 := by omega
      obtain ⟨rfl, -⟩ := hr
      exact wp_some ⟨rfl, ⟨fun _ _ => rfl, fun _ _ => rfl⟩, hl⟩
    refine wp_chk (by omega) ?_
    rw [hx2]
    have h1 := hl.1 x hx
    refine wp_ite (fun e => ?_) (fun e => ?_)
    · have e2 : gN M 29 x = x := by show (M 29 x).toNat = x; omega
      have := rk_fix e2 hr
      exact wp_some ⟨by rw [this], ⟨fun _ _ => rfl, fun _ _ => rfl⟩, hl⟩
    · refine wp_chk (by omega) ?_
      refine wp_chk (show rg (u + 1) by omega) ?_
      have e2 : gN M 29 x ≠ x := by show (M 29 x).toNat ≠ x; omega
      have hy : gN M 29 x < n := by show (M 29 x).toNat < n; omega
      have h2 := hl.1 _ hy
      have e3 : M 29 (M 29 x).toNat = ((gN M 29 (gN M 29 x) : Nat) : Int) := by
        show M 29 (M 29 x).toNat = ((M 29 (M 29 x).toNat).toNat : Int)
        have : (M 29 x).toNat = gN M 29 x := rfl
        rw [this]
        omega
      have hz : gN M 29 (gN M 29 x) < n := by show (M 29 (gN M 29 x)).toNat < n; omega
      rw [e3, up_same]
      have hh : ∀ y, gN (up M 29 x (gN M 29 (gN M 29 x) : Nat)) 29 y = gN M 29 y ∨ gN (up M 29 x (gN M 29 (gN M 29 x) : Nat)) 29 y = gN M 29 (gN M 29 y) := by
        intro y
        by_cases e : y = x
        · subst e
          right
          show (up M 29 y _ 29 y).toNat = _
          rw [up_same]
          rfl
        · left
          show (up M 29 x _ 29 y).toNat = _
          rw [up_at e]
          rfl
      obtain ⟨k', rfl, hr2⟩ := rk_pred hr e2
      refine wp_mono (l80_ok hn x1 f _ k' _ r (u + 1) (by omega) (by omega) (by omega) hz ⟨fun y hy => ?_, fun y hy => rk_half hh (hl.2 y hy)⟩ (rk_half hh (rk_step hr2))) ?_
      · by_cases e : y = x
        · subst e
          rw [up_same]
          omega
        · rw [up_at e]
          exact hl.1 y hy
      · rintro q ⟨a, ⟨b1, b2⟩, c⟩
        refine ⟨a, ⟨fun a ha => by rw [b1 a ha, up_cell ha], fun y hy => by rw [b2 y hy, up_at (by omega)]⟩, c⟩
theorem f80_ok {M : Mm} {n J x : Nat} {ρ : Nat → Nat} (hn : n ≤ 2504) (hJ : J ≤ 2504) (hx : x < n) (hl : Lc M n J ρ) : wp (f80 M (x : Int)) (fun q => q.1 = (ρ x : Int) ∧ fr29 M q.2 n ∧ Lc q.2 n J ρ) :=
  l80_ok hn _ FU M J x (ρ x) 0 (by unfold FU; omega) (by omega) (by omega) hx hl (hl.2 x hx)
theorem fr29_trans {M M1 M2 : Mm} {n : Nat} (a : fr29 M M1 n) (b : fr29 M1 M2 n) : fr29 M M2 n := ⟨fun c hc => (b.1 c hc).trans (a.1 c hc), fun y hy => (b.2 y hy).trans (a.2 y hy)⟩
/-- what waits: pairs, the top first -/
def stk (M : Mm) (a : Nat) : List (Nat × Nat) → Prop
  | [] => True
  | p :: t => M a (2 * t.length) = (p.1 : Int) ∧ M a (2 * t.length + 1) = (p.2 : Int) ∧ stk M a t
theorem stk_eq {M M' : Mm} {a : Nat} : ∀ {t : List (Nat × Nat)}, (∀ i, i < 2 * t.length → M' a i = M a i) → stk M a t → stk M' a t
  | [], _, _ => trivial
  | p :: t, h, k => by
    have e : (p :: t).length = t.length + 1 := rfl
    exact ⟨by rw [h _ (by omega)]; exact k.1, by rw [h _ (by omega)]; exact k.2.1, stk_eq (fun i hi => h i (by omega)) k.2.2⟩
theorem rc_link {n u w : Nat} {ρ : Nat → Nat} (hu : u < n) (hru : ρ u = u) (hrw : ρ w = w) (hne : u ≠ w) : rc n (fun x => if ρ x = u then w else ρ x) + 1 = rc n ρ := by
  refine cn_less (u := u) (by simp [hru]) (by simp [hru, hne.symm]) hu (fun x hx e => ?_)
  have : (if ρ x = u then w else ρ x) = x ↔ ρ x = x := by
    by_cases q : ρ x = u
    · rw [if_pos q]
      constructor
      · intro q2
        rw [← q2, hrw] at q
        exact absurd q hne.symm
      · intro q2
        rw [q2] at q
        exact absurd q e
    · rw [if_neg q]
  simp only [this]
/-- the graph with its roots, and what was asked -/
def Gc (M : Mm) (n J : Nat) (ρ : Nat → Nat) (t cs : List (Nat × Nat)) : Prop := GW M n ∧ Lc M n J ρ ∧ J + rc n ρ ≤ n ∧ Ui n (gN M 26) (gN M 27) (gN M 28) ρ t cs
/-- nothing has changed but links and what waits -/
def frj (M M' : Mm) (n : Nat) : Prop := (∀ a, a ≠ 29 → a ≠ 33 → M' a = M a) ∧ ∀ y, n ≤ y → M' 29 y = M 29 y
theorem frj_of {M M' : Mm} {n : Nat} (h : fr29 M M' n) : frj M M' n := ⟨fun a h1 _ => h.1 a h1, h.2⟩
theorem frj_trans {M M1 M2 : Mm} {n : Nat} (a : frj M M1 n) (b : frj M1 M2 n) : frj M M2 n := ⟨fun c h1 h2 => (b.1 c h1 h2).trans (a.1 c h1 h2), fun y hy => (b.2 y hy).trans (a.2 y hy)⟩
theorem frj_refl (M : Mm) (n : Nat) : frj M M n := ⟨fun _ _ _ => rfl, fun _ _ => rfl⟩
theorem GW_fr {M M' : Mm} {n J : Nat} {ρ : Nat → Nat} (h : frj M M' n) (hg : GW M n) (hl : Lc M' n J ρ) : GW M' n := by
  obtain ⟨a, b, c, d⟩ := hg
  have h25 := h.1 25 (by decide) (by decide)
  have h26 := h.1 26 (by decide) (by decide)
  have h27 := h.1 27 (by decide) (by decide)
  have h28 := h.1 28 (by decide) (by decide)
  refine ⟨by rw [h25]; exact a, b, c, fun x hx => ?_⟩
  obtain ⟨d1, d2, d3, d4, d5, d6⟩ := d x hx
  rw [h26, h27, h28]
  exact ⟨d1, d2, d3, d4, d5, hl.1 x hx⟩
theorem gN_fr {M M' : Mm} {a : Nat} (h : M' a = M a) : gN M' a = gN M a := by
  funext x
  unfold gN
  rw [h]
/-- linking a root -/
theorem Lc_link {M : Mm} {n J u w : Nat} {ρ : Nat → Nat} (hl : Lc M n J ρ) (hu : u < n) (hw : w < n) (hru : ρ u = u) (hrw : ρ w = w) (hne : u ≠ w) : Lc (up M 29 u (w : Int)) n (J + 1) (fun x => if ρ x = u then w else ρ x) := by
  have e1 : gN (up M 29 u (w : Int)) 29 u = w := by show (up M 29 u (w : Int) 29 u).toNat = w; rw [up_same]; rfl
  have e2 : ∀ y, y ≠ u → gN (up M 29 u (w : Int)) 29 y = gN M 29 y := fun y hy => by show (up M 29 u (w : Int) 29 y).toNat = (M 29 y).toNat; rw [up_at hy]
  have ru : gN M 29 u = u := by have := rk_root (hl.2 u hu); rw [hru] at this; exact this
  have rw' : gN M 29 w = w := by have := rk_root (hl.2 w hw); rw [hrw] at this; exact this
  refine ⟨fun y hy => ?_, fun y hy => ?_⟩
  · by_cases e : y = u
    · subst e
      rw [up_same]
      omega
    · rw [up_at e]
      exact hl.1 y hy
  · obtain ⟨a, b⟩ := rk_link ru rw' hne e1 e2 (hl.2 y hy)
    simp only
    by_cases q : ρ y = u
    · rw [if_pos q]
      exact b q
    · rw [if_neg q]
      exact Or.inl (a q)
