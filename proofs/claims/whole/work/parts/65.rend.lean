/-! Is a type without end: the reference's way. -/
def Fr (M : Mm) (n : Nat) (ρ : Nat → Nat) : Prop := GWr M n ∧ (∃ J, J ≤ 4000 ∧ Lr M n J ρ) ∧ ∀ x, x < n → ρ x < n ∧ ρ (ρ x) = ρ x
theorem Fr_of {M : Mm} {n J : Nat} {ρ : Nat → Nat} {cs : List (Nat × Nat)} (h : Gr M n J ρ [] cs) : Fr M n ρ := ⟨h.1, ⟨J, by have := h.2.2.1; have := h.1.2.1; omega, h.2.1⟩, h.2.2.2.1⟩
theorem Fr_rt {M : Mm} {n x : Nat} {ρ : Nat → Nat} (h : Fr M n ρ) (hx : x < n) : M 79 x = (x : Int) ↔ ρ x = x := by
  obtain ⟨-, ⟨J, -, l1, l2⟩, -⟩ := h
  constructor
  · intro e
    have e2 : gN M 79 x = x := by show (M 79 x).toNat = x; omega
    exact (rk_fix e2 (l2 x hx)).symm
  · intro e
    have := rk_root (l2 x hx)
    rw [e] at this
    have h2 := l1 x hx
    have : (M 79 x).toNat = x := this
    omega
theorem Fr_217 {M : Mm} {n x : Nat} {ρ : Nat → Nat} (h : Fr M n ρ) (hx : x < n) : f217 M (x : Int) = some (ρ x : Int) := by
  obtain ⟨g, ⟨J, hJ, l⟩, i⟩ := h
  exact f217_ok g.2.1 hJ hx l
theorem Fr_same {M N : Mm} {n : Nat} {ρ : Nat → Nat} (e : ∀ a, 76 ≤ a → a ≤ 79 → N a = M a) (e53 : N 53 28 = M 53 28) (h : Fr M n ρ) : Fr N n ρ := by
  have e26 := e 76 (by omega) (by omega)
  have e27 := e 77 (by omega) (by omega)
  have e28 := e 78 (by omega) (by omega)
  have e29 := e 79 (by omega) (by omega)
  unfold Fr GWr Lr
  rw [gN_fr e29, e53, e26, e27, e28, e29]
  exact h
/-- m is a part of x -/
def pr (M : Mm) (ρ : Nat → Nat) (x m : Nat) : Prop := ((3 ≤ M 76 x ∧ M 76 x ≤ 4) ∧ ρ (M 77 x).toNat = m) ∨ (M 76 x = 4 ∧ ρ (M 78 x).toNat = m)
/-- all parts are marked -/
def rdy (M : Mm) (ρ : Nat → Nat) (x : Nat) : Prop := ((3 ≤ M 76 x ∧ M 76 x ≤ 4) → M 80 (ρ (M 77 x).toNat) = 1) ∧ (M 76 x = 4 → M 80 (ρ (M 78 x).toNat) = 1)
theorem l225_el {M : Mm} {n x f : Nat} {ρ : Nat → Nat} {x1 : Int} (h : Fr M n ρ) (hx : x < n) (hm : ∀ y, y < n → M 80 y = 0 ∨ M 80 y = 1) :
    ∃ g, f ≤ g ∧ ((ρ x = x ∧ M 80 x ≠ 1 ∧ rdy M ρ x ∧ l225 (f + 8) 33 M x1 (x : Int) 0 0 = l225 g 33 (up M 80 x 1) 1 ((x + 1 : Nat) : Int) 0 0) ∨ (¬ (ρ x = x ∧ M 80 x ≠ 1 ∧ rdy M ρ x) ∧ l225 (f + 8) 33 M x1 (x : Int) 0 0 = l225 g 33 M x1 ((x + 1 : Nat) : Int) 0 0)) := by
  have hn := h.1.2.1
  have h53 := h.1.1
  have rt := Fr_rt h hx
  obtain ⟨q1, q2, q3, q4⟩ := h.1.2.2 x hx
  have tn : Int.toNat (x : Int) = x := Int.toNat_natCast x
  have cx : (x : Int) + 1 = ((x + 1 : Nat) : Int) := by omega
  have g0 : ¬ (n : Int) ≤ (x : Int) := by omega
  have g1 : 0 ≤ (x : Int) ∧ (x : Int) < 4000 := by omega
  have g2 : rg ((x : Int) + 1) := by omega
  have s166 : ∀ (g : Nat) (N : Mm) (y : Int), l225 (g + 1) 166 N y (x : Int) 0 0 = l225 g 33 N y ((x + 1 : Nat) : Int) 0 0 := fun g N y => by rw [l225, if_pos g2, cx]
  by_cases c1 : M 79 x = (x : Int)
  · by_cases c2 : M 80 x = 1
    · refine ⟨f + 6, by omega, Or.inr ⟨fun q => q.2.1 c2, ?_⟩⟩
      rw [l225, h53, if_neg g0, if_pos g1, tn, if_neg (fun q => q c1), if_neg (fun q => q c2), s166]
    · have e33 : l225 (f + 8) 33 M x1 (x : Int) 0 0 = if (3 ≤ M 76 x ∧ M 76 x ≤ 4) then l225 (f + 7) 84 M x1 (x : Int) 0 0 else l225 (f + 7) 103 M x1 (x : Int) 0 0 := by
        rw [l225, h53, if_neg g0, if_pos g1, tn, if_neg (fun q => q c1), if_pos c2]
        by_cases k3 : M 76 x = 3
        · rw [if_pos k3, if_pos (by omega)]
        · rw [if_neg k3]
          by_cases k4 : M 76 x = 4
          · rw [if_neg (fun q => q k4), if_pos (by omega)]
          · rw [if_pos k4, if_neg (by omega)]
      -- the left part
      have left : ∃ g y3, f + 5 ≤ g ∧ g ≤ f + 7 ∧ l225 (f + 8) 33 M x1 (x : Int) 0 0 = l225 g 109 M x1 (x : Int) y3 0 ∧ ((y3 = 1 ∧ ((3 ≤ M 76 x ∧ M 76 x ≤ 4) → M 80 (ρ (M 77 x).toNat) = 1)) ∨ (y3 = 0 ∧ (3 ≤ M 76 x ∧ M 76 x ≤ 4) ∧ M 80 (ρ (M 77 x).toNat) ≠ 1)) := by
        by_cases k : 3 ≤ M 76 x ∧ M 76 x ≤ 4
        · rw [if_pos k] at e33
          have p := q2 k
          obtain ⟨a, ha⟩ : ∃ a : Nat, M 77 x = (a : Int) := ⟨(M 77 x).toNat, by omega⟩
          have ta : (M 77 x).toNat = a := by rw [ha]; exact Int.toNat_natCast a
          have hr := (h.2.2 a (by omega)).1
          have e84 : l225 (f + 7) 84 M x1 (x : Int) 0 0 = if ¬ M 80 (ρ a) = 1 then l225 (f + 6) 109 M x1 (x : Int) 0 0 else l225 (f + 6) 103 M x1 (x : Int) 0 0 := by
            rw [l225, if_pos g1, tn, ha, Fr_217 h (by omega), bs_, if_pos (by omega), Int.toNat_natCast]
          rw [ta]
          by_cases c3 : M 80 (ρ a) = 1
          · rw [if_neg (fun q => q c3)] at e84
            refine ⟨f + 5, 1, by omega, by omega, ?_, Or.inl ⟨rfl, fun _ => c3⟩⟩
            rw [e33, e84, l225]
          · rw [if_pos c3] at e84
            exact ⟨f + 6, 0, by omega, by omega, by rw [e33, e84], Or.inr ⟨rfl, k, c3⟩⟩
        · rw [if_neg k] at e33
          refine ⟨f + 6, 1, by omega, by omega, ?_, Or.inl ⟨rfl, fun q => absurd q k⟩⟩
          rw [e33, l225]
      obtain ⟨g, y3, g3, g4, e1, e2⟩ := left
      obtain ⟨g, rfl⟩ : ∃ g', g = g' + 1 := ⟨g - 1, by omega⟩
      -- the right part
      have right : ∃ k y4, f + 3 ≤ k ∧ k ≤ f + 7 ∧ l225 (f + 8) 33 M x1 (x : Int) 0 0 = l225 k 145 M x1 (x : Int) y3 y4 ∧ ((y4 = 1 ∧ (M 76 x = 4 → M 80 (ρ (M 78 x).toNat) = 1)) ∨ (y4 = 0 ∧ M 76 x = 4 ∧ M 80 (ρ (M 78 x).toNat) ≠ 1)) := by
        by_cases k4 : M 76 x = 4
        · have p := q3 k4
          obtain ⟨b, hb⟩ : ∃ b : Nat, M 78 x = (b : Int) := ⟨(M 78 x).toNat, by omega⟩
          have tb : (M 78 x).toNat = b := by rw [hb]; exact Int.toNat_natCast b
          have hr := (h.2.2 b (by omega)).1
          have e109 : l225 (g + 1) 109 M x1 (x : Int) y3 0 = if ¬ M 80 (ρ b) = 1 then l225 g 145 M x1 (x : Int) y3 0 else l225 g 138 M x1 (x : Int) y3 0 := by
            rw [l225, if_pos g1, tn, if_neg (fun q => q k4), hb, Fr_217 h (by omega), bs_, if_pos (by omega), Int.toNat_natCast]
          rw [tb]
          by_cases c3 : M 80 (ρ b) = 1
          · rw [if_neg (fun q => q c3)] at e109
            obtain ⟨g, rfl⟩ : ∃ g', g = g' + 1 := ⟨g - 1, by omega⟩
            refine ⟨g, 1, by omega, by omega, ?_, Or.inl ⟨rfl, fun _ => c3⟩⟩
            rw [e1, e109, l225]
          · rw [if_pos c3] at e109
            exact ⟨g, 0, by omega, by omega, by rw [e1, e109], Or.inr ⟨rfl, k4, c3⟩⟩
        · have e109 : l225 (g + 1) 109 M x1 (x : Int) y3 0 = l225 g 138 M x1 (x : Int) y3 0 := by
            rw [l225, if_pos g1, tn, if_pos k4]
          obtain ⟨g, rfl⟩ : ∃ g', g = g' + 1 := ⟨g - 1, by omega⟩
          refine ⟨g, 1, by omega, by omega, ?_, Or.inl ⟨rfl, fun q => absurd q k4⟩⟩
          rw [e1, e109, l225]
      obtain ⟨k, y4, k1, k2, e3, e4⟩ := right
      obtain ⟨k, rfl⟩ : ∃ k', k = k' + 2 := ⟨k - 2, by omega⟩
      refine ⟨k, by omega, ?_⟩
      rcases e2 with ⟨rfl, e2⟩ | ⟨rfl, e2a, e2b⟩
      · rcases e4 with ⟨rfl, e4⟩ | ⟨rfl, e4a, e4b⟩
        · refine Or.inl ⟨rt.mp c1, c2, ⟨e2, e4⟩, ?_⟩
          rw [e3, l225, if_neg (by decide), if_pos (by decide), if_pos g1, tn, s166]
        · refine Or.inr ⟨fun q => e4b (q.2.2.2 e4a), ?_⟩
          rw [e3, l225, if_neg (by decide), if_neg (by decide), s166]
      · refine Or.inr ⟨fun q => e2b (q.2.2.1 e2a), ?_⟩
        rw [e3, l225, if_pos rfl, s166]
  · refine ⟨f + 6, by omega, Or.inr ⟨fun q => c1 (rt.mpr q.1), ?_⟩⟩
    rw [l225, h53, if_neg g0, if_pos g1, tn, if_pos c1, s166]
/-- marks with an order -/
def Mo (M : Mm) (ρ : Nat → Nat) (n : Nat) : Prop := (∀ y, y < n → M 80 y = 0 ∨ M 80 y = 1) ∧ ∃ r : Nat → Nat, ∀ x m, x < n → ρ x = x → M 80 x = 1 → pr M ρ x m → M 80 m = 1 ∧ r m < r x
def mc (M : Mm) (n : Nat) : Nat := cn (fun y => decide (M 80 y = 1)) n
theorem Mo_up {M : Mm} {n x : Nat} {ρ : Nat → Nat} (h : Mo M ρ n) (hx : x < n) (h1 : M 80 x ≠ 1) (hr : rdy M ρ x) : Mo (up M 80 x 1) ρ n ∧ mc (up M 80 x 1) n = mc M n + 1 := by
  obtain ⟨a, r, b⟩ := h
  have e : ∀ y, (up M 80 x 1) 80 y = if y = x then 1 else M 80 y := fun y => by simp [up]
  have pe : ∀ y m, pr (up M 80 x 1) ρ y m ↔ pr M ρ y m := fun y m => by unfold pr; rw [up_cell (by decide), up_cell (by decide), up_cell (by decide)]
  refine ⟨⟨fun y hy => ?_, fx r x (r (ρ (M 77 x).toNat) + r (ρ (M 78 x).toNat) + 1), fun y m hy hry h80 hp => ?_⟩, ?_⟩
  · rw [e]
    split
    · exact Or.inr rfl
    · exact a y hy
  · rw [pe] at hp
    by_cases c : y = x
    · subst c
      have hm : M 80 m = 1 ∧ (m = ρ (M 77 y).toNat ∨ m = ρ (M 78 y).toNat) := by
        rcases hp with ⟨p1, p2⟩ | ⟨p1, p2⟩
        · rw [← p2]; exact ⟨hr.1 p1, Or.inl rfl⟩
        · rw [← p2]; exact ⟨hr.2 p1, Or.inr rfl⟩
      have ne : m ≠ y := fun q => by rw [q] at hm; exact h1 hm.1
      rw [e, if_neg ne, fx_n ne, fx_s]
      refine ⟨hm.1, ?_⟩
      rcases hm.2 with q | q <;> rw [← q] <;> omega
    · rw [e, if_neg c] at h80
      obtain ⟨b1, b2⟩ := b y m hy hry h80 hp
      have ne : m ≠ x := fun q => by rw [q] at b1; exact h1 b1
      rw [e, if_neg ne, fx_n ne, fx_n c]
      exact ⟨b1, b2⟩
  · have := cn_less (p := fun y => decide ((up M 80 x 1) 80 y = 1)) (q := fun y => decide (M 80 y = 1)) (u := x) (by simp [e]) (by simp [h1]) hx (fun y _ hy => by simp [e, hy])
    exact this.symm
theorem l225_pass {n : Nat} {ρ : Nat → Nat} (d : Nat) : ∀ (x f : Nat) (M : Mm) (x1 : Int), x + d = n → Fr M n ρ → Mo M ρ n → (x1 = 0 ∨ x1 = 1) → ∃ (g : Nat) (M' : Mm) (y1 : Int), f ≤ g ∧ l225 (f + 8 * d) 33 M x1 (x : Int) 0 0 = l225 g 33 M' y1 (n : Int) 0 0 ∧ Fr M' n ρ ∧ Mo M' ρ n ∧ (∀ a, a ≠ 80 → M' a = M a) ∧ ((y1 = 0 ∧ x1 = 0 ∧ M' = M ∧ ∀ y, x ≤ y → y < n → ¬ (ρ y = y ∧ M 80 y ≠ 1 ∧ rdy M ρ y)) ∨ (y1 = 1 ∧ (x1 = 1 ∧ mc M n ≤ mc M' n ∨ mc M n < mc M' n))) := by
  induction d with
  | zero =>
    intro x f M x1 hx h hm hx1
    obtain rfl : x = n := by omega
    refine ⟨f, M, x1, Nat.le_refl _, rfl, h, hm, fun _ _ => rfl, ?_⟩
    rcases hx1 with rfl | rfl
    · exact Or.inl ⟨rfl, rfl, rfl, fun y h1 h2 => by omega⟩
    · exact Or.inr ⟨rfl, Or.inl ⟨rfl, Nat.le_refl _⟩⟩
  | succ d ih =>
    intro x f M x1 hx h hm hx1
    obtain ⟨g, g1, q⟩ := l225_el (f := f + 8 * d) (x1 := x1) h (show x < n by omega) hm.1
    obtain ⟨g, rfl⟩ : ∃ g', g = g' + 8 * d := ⟨g - 8 * d, by omega⟩
    rw [show f + 8 * (d + 1) = f + 8 * d + 8 by omega]
    rcases q with ⟨q1, q2, q3, q4⟩ | ⟨q1, q4⟩
    · obtain ⟨m1, m2⟩ := Mo_up hm (show x < n by omega) q2 q3
      obtain ⟨k, M', y1, z1, z2, z3, z4, z5, z6⟩ := ih (x + 1) g (up M 80 x 1) 1 (by omega) (Fr_same (fun a h1 h2 => up_cell (by omega)) (by rw [up_cell (by decide)]) h) m1 (Or.inr rfl)
      refine ⟨k, M', y1, by omega, q4.trans z2, z3, z4, fun a ha => by rw [z5 a ha, up_cell ha], ?_⟩
      rcases z6 with ⟨-, w, -⟩ | ⟨w1, w2⟩
      · cases w
      · refine Or.inr ⟨w1, Or.inr ?_⟩
        rcases w2 with ⟨-, w2⟩ | w2 <;> omega
    · obtain ⟨k, M', y1, z1, z2, z3, z4, z5, z6⟩ := ih (x + 1) g M x1 (by omega) h hm hx1
      refine ⟨k, M', y1, by omega, q4.trans z2, z3, z4, z5, ?_⟩
      rcases z6 with ⟨w1, w2, w3, w4⟩ | w
      · refine Or.inl ⟨w1, w2, w3, fun y h1 h2 => ?_⟩
        by_cases e : y = x
        · subst e; exact q1
        · exact w4 y (by omega) h2
      · exact Or.inr w
theorem l225_while {n : Nat} {ρ : Nat → Nat} (hn0 : n ≤ 4000) (d : Nat) : ∀ (f : Nat) (M : Mm), n ≤ mc M n + d → Fr M n ρ → Mo M ρ n → ∃ (g : Nat) (M' : Mm), f ≤ g ∧ l225 (f + (d + 1) * (8 * n + 3)) 25 M 1 0 0 0 = l225 g 177 M' 0 0 0 0 ∧ Fr M' n ρ ∧ Mo M' ρ n ∧ (∀ a, a ≠ 80 → M' a = M a) ∧ ∀ y, y < n → ¬ (ρ y = y ∧ M' 80 y ≠ 1 ∧ rdy M' ρ y) := by
  induction d with
  | zero =>
    intro f M hd h hm
    obtain ⟨k, M', y1, z1, z2, z3, z4, z5, z6⟩ := l225_pass (ρ := ρ) n 0 (f + 2) M 0 (by omega) h hm (Or.inl rfl)
    rcases z6 with ⟨rfl, -, rfl, w4⟩ | ⟨-, w⟩
    · obtain ⟨k, rfl⟩ : ∃ k', k = k' + 2 := ⟨k - 2, by omega⟩
      refine ⟨k, M', by omega, ?_, z3, z4, fun _ _ => rfl, fun y hy => w4 y (Nat.zero_le _) hy⟩
      have z2 : l225 (f + 2 + 8 * n) 33 M' 0 0 0 0 = l225 (k + 2) 33 M' 0 (n : Int) 0 0 := z2
      rw [show f + (0 + 1) * (8 * n + 3) = f + 2 + 8 * n + 1 by omega, l225, if_neg (by decide), z2, l225, h.1.1, if_pos (Int.le_refl _), l225, if_pos rfl]
    · have := cn_le (fun y => decide (M' 80 y = 1)) n
      have : mc M' n ≤ n := this
      rcases w with ⟨w, -⟩ | w
      · cases w
      · omega
  | succ d ih =>
    intro f M hd h hm
    obtain ⟨k, M', y1, z1, z2, z3, z4, z5, z6⟩ := l225_pass (ρ := ρ) n 0 (f + (d + 1) * (8 * n + 3) + 2) M 0 (by omega) h hm (Or.inl rfl)
    have e1 : l225 (f + (d + 1 + 1) * (8 * n + 3)) 25 M 1 0 0 0 = l225 k 33 M' y1 (n : Int) 0 0 := by
      have z2 : l225 (f + (d + 1) * (8 * n + 3) + 2 + 8 * n) 33 M 0 0 0 0 = l225 k 33 M' y1 (n : Int) 0 0 := z2
      rw [show f + (d + 1 + 1) * (8 * n + 3) = f + (d + 1) * (8 * n + 3) + 2 + 8 * n + 1 by rw [Nat.succ_mul (d + 1)]; omega, l225, if_neg (by decide), z2]
    rcases z6 with ⟨rfl, -, rfl, w4⟩ | ⟨rfl, w⟩
    · obtain ⟨k, rfl⟩ : ∃ k', k = k' + 2 := ⟨k - 2, by omega⟩
      refine ⟨k, M', by omega, ?_, z3, z4, fun _ _ => rfl, fun y hy => w4 y (Nat.zero_le _) hy⟩
      rw [e1, l225, h.1.1, if_pos (Int.le_refl _), l225, if_pos rfl]
    · obtain ⟨k, rfl⟩ : ∃ k', k = k' + 1 := ⟨k - 1, by omega⟩
      obtain ⟨g, hg⟩ : ∃ g, k = g + (d + 1) * (8 * n + 3) := ⟨k - (d + 1) * (8 * n + 3), by omega⟩
      have w' : mc M n < mc M' n := by
        rcases w with ⟨w, -⟩ | w
        · cases w
        · exact w
      obtain ⟨g2, M2, y1', y2, y3, y4, y5, y6⟩ := ih g M' (by omega) z3 z4
      refine ⟨g2, M2, by omega, ?_, y3, y4, fun a ha => by rw [y5 a ha, z5 a ha], y6⟩
      rw [e1, l225, z3.1.1, if_pos (Int.le_refl _), hg]
      exact y2
/-- roots of which each has a part among them -/
def Dyc (M : Mm) (ρ : Nat → Nat) (n : Nat) : Prop := ∃ U : Nat → Prop, (∃ m, U m) ∧ ∀ x, U x → x < n ∧ ρ x = x ∧ ∃ m, U m ∧ pr M ρ x m
def Acr (M : Mm) (ρ : Nat → Nat) (n : Nat) : Prop := ∃ r : Nat → Nat, ∀ x m, x < n → ρ x = x → pr M ρ x m → r m < r x
theorem l225_177 {M : Mm} {n : Nat} {ρ : Nat → Nat} (h : Fr M n ρ) (hm : ∀ y, y < n → M 80 y = 0 ∨ M 80 y = 1) (d : Nat) : ∀ (x f : Nat), x + d = n → 2 * d < f → ∃ b : Int, l225 f 177 M 0 (x : Int) 0 0 = some (b, M) ∧ ((b = 0 ∧ ∀ y, x ≤ y → y < n → ρ y = y → M 80 y = 1) ∨ (b = 1 ∧ ∃ y, y < n ∧ ρ y = y ∧ M 80 y ≠ 1)) := by
  induction d with
  | zero =>
    intro x f hx hf
    obtain ⟨f, rfl⟩ : ∃ f', f = f' + 1 := ⟨f - 1, by omega⟩
    refine ⟨0, ?_, Or.inl ⟨rfl, fun y h1 h2 => by omega⟩⟩
    rw [l225, h.1.1, if_pos (by omega)]
  | succ d ih =>
    intro x f hx hf
    have hn := h.1.2.1
    obtain ⟨f, rfl⟩ : ∃ f', f = f' + 2 := ⟨f - 2, by omega⟩
    obtain ⟨b, z1, z2⟩ := ih (x + 1) f (by omega) (by omega)
    have go : l225 (f + 1) 206 M 0 (x : Int) 0 0 = some (b, M) := by
      rw [l225, if_pos (by omega), show (x : Int) + 1 = ((x + 1 : Nat) : Int) by omega]
      exact z1
    have rt := Fr_rt h (show x < n by omega)
    rw [l225, h.1.1, if_neg (by omega), if_pos (by omega), Int.toNat_natCast]
    have fin : ¬ (ρ x = x ∧ M 80 x ≠ 1) → (b = 0 ∧ ∀ y, x ≤ y → y < n → ρ y = y → M 80 y = 1) ∨ (b = 1 ∧ ∃ y, y < n ∧ ρ y = y ∧ M 80 y ≠ 1) := fun hno => by
      rcases z2 with ⟨z2, z3⟩ | z2
      · refine Or.inl ⟨z2, fun y h1 h2 h3 => ?_⟩
        by_cases e : y = x
        · subst e
          apply Classical.byContradiction
          intro c
          exact hno ⟨h3, c⟩
        · exact z3 y (by omega) h2 h3
      · exact Or.inr z2
    by_cases c : M 79 x = (x : Int)
    · rw [if_neg (fun q => q c)]
      by_cases c2 : M 80 x = 0
      · rw [if_neg (fun q => q c2)]
        exact ⟨1, rfl, Or.inr ⟨rfl, x, by omega, rt.mp c, by omega⟩⟩
      · rw [if_pos c2]
        have := hm x (by omega)
        exact ⟨b, go, fin (fun q => q.2 (by omega))⟩
    · rw [if_pos c]
      exact ⟨b, go, fin (fun q => c (rt.mpr q.1))⟩
theorem l225_2 {n : Nat} {ρ : Nat → Nat} (d : Nat) : ∀ (x f : Nat) (M : Mm), x + d = n → d < f → Fr M n ρ → (∀ y, y < x → M 80 y = 0) → ∃ M', l225 f 2 M (x : Int) 0 0 0 = l225 (f - d - 1) 25 M' 1 0 0 0 ∧ (∀ a, a ≠ 80 → M' a = M a) ∧ ∀ y, y < n → M' 80 y = 0 := by
  induction d with
  | zero =>
    intro x f M hx hf h h0
    obtain ⟨f, rfl⟩ : ∃ f', f = f' + 1 := ⟨f - 1, by omega⟩
    obtain rfl : x = n := by omega
    exact ⟨M, by rw [l225, h.1.1, if_pos (Int.le_refl _)]; rfl, fun _ _ => rfl, h0⟩
  | succ d ih =>
    intro x f M hx hf h h0
    obtain ⟨f, rfl⟩ : ∃ f', f = f' + 1 := ⟨f - 1, by omega⟩
    have hn := h.1.2.1
    obtain ⟨M', z1, z2, z3⟩ := ih (x + 1) f (up M 80 x 0) (by omega) (by omega) (Fr_same (fun a h1 h2 => up_cell (by omega)) (by rw [up_cell (by decide)]) h) (fun y hy => by
      by_cases e : y = x
      · subst e; exact up_same _ _ _ _
      · rw [up_at e]; exact h0 y (by omega))
    refine ⟨M', ?_, fun a ha => by rw [z2 a ha, up_cell ha], z3⟩
    rw [l225, h.1.1, if_neg (by omega), if_pos (by omega), if_pos (by omega), Int.toNat_natCast, show (x : Int) + 1 = ((x + 1 : Nat) : Int) by omega, show f + 1 - (d + 1) - 1 = f - d - 1 by omega]
    exact z1
theorem f225_ok {M : Mm} {n : Nat} {ρ : Nat → Nat} (h : Fr M n ρ) : ∃ (b : Int) (M' : Mm), f225 M = some (b, M') ∧ (∀ a, a ≠ 80 → M' a = M a) ∧ ((b = 0 ∧ Acr M ρ n) ∨ (b = 1 ∧ Dyc M ρ n)) := by
  have hn := h.1.2.1
  obtain ⟨M1, a1, a2, a3⟩ := l225_2 (ρ := ρ) n 0 FU M (by omega) (by unfold FU; omega) h (fun y hy => by omega)
  have a1 : l225 FU 2 M 0 0 0 0 = l225 (FU - n - 1) 25 M1 1 0 0 0 := a1
  have h1 : Fr M1 n ρ := Fr_same (fun a h1 h2 => a2 a (by omega)) (by rw [a2 53 (by decide)]) h
  have big : (n + 1) * (8 * n + 3) ≤ 4001 * 32003 := Nat.mul_le_mul (by omega) (by omega)
  obtain ⟨f, hf⟩ : ∃ f, FU - n - 1 = f + (n + 1) * (8 * n + 3) ∧ 2 * n < f := ⟨FU - n - 1 - (n + 1) * (8 * n + 3), by unfold FU; omega, by unfold FU; omega⟩
  obtain ⟨g, M2, b1, b2, b3, b4, b5, b6⟩ := l225_while (ρ := ρ) hn n f M1 (by omega) h1 ⟨fun y hy => Or.inl (a3 y hy), fun _ => 0, fun x m hx _ q => by rw [a3 x hx] at q; cases q⟩
  obtain ⟨b, c1, c2⟩ := l225_177 b3 b4.1 n 0 g (by omega) (by omega)
  have c1 : l225 g 177 M2 0 0 0 0 = some (b, M2) := c1
  have fr : ∀ a, a ≠ 80 → M2 a = M a := fun a ha => by rw [b5 a ha, a2 a ha]
  have pe : ∀ y m, pr M2 ρ y m ↔ pr M ρ y m := fun y m => by unfold pr; rw [fr 76 (by decide), fr 77 (by decide), fr 78 (by decide)]
  refine ⟨b, M2, ?_, fr, ?_⟩
  · unfold f225
    rw [a1, hf.1, b2, c1]
  · rcases c2 with ⟨c2, c3⟩ | ⟨c2, y, y1, y2, y3⟩
    · refine Or.inl ⟨c2, ?_⟩
      obtain ⟨-, r, hr⟩ := b4
      exact ⟨r, fun x m hx hrx hp => (hr x m hx hrx (c3 x (Nat.zero_le _) hx hrx) ((pe x m).mpr hp)).2⟩
    · refine Or.inr ⟨c2, fun m => m < n ∧ ρ m = m ∧ M2 80 m ≠ 1, ⟨y, y1, y2, y3⟩, fun x hx => ⟨hx.1, hx.2.1, ?_⟩⟩
      have nr : ¬ rdy M2 ρ x := fun q => b6 x hx.1 ⟨hx.2.1, hx.2.2, q⟩
      obtain ⟨q1, q2, q3, q4⟩ := b3.1.2.2 x hx.1
      by_cases l : (3 ≤ M2 76 x ∧ M2 76 x ≤ 4) → M2 80 (ρ (M2 77 x).toNat) = 1
      · by_cases r : M2 76 x = 4 → M2 80 (ρ (M2 78 x).toNat) = 1
        · exact absurd ⟨l, r⟩ nr
        · obtain ⟨r1, r2⟩ := Classical.not_imp.mp r
          have p := q3 r1
          have := b3.2.2 (M2 78 x).toNat (by omega)
          exact ⟨_, ⟨this.1, this.2, r2⟩, (pe x _).mp (Or.inr ⟨r1, rfl⟩)⟩
      · obtain ⟨r1, r2⟩ := Classical.not_imp.mp l
        have p := q2 r1
        have := b3.2.2 (M2 77 x).toNat (by omega)
        exact ⟨_, ⟨this.1, this.2, r2⟩, (pe x _).mp (Or.inl ⟨r1, rfl⟩)⟩
