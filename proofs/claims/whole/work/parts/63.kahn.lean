/-! Is a type without end: the class's way. -/
def Fg (M : Mm) (n : Nat) (ρ : Nat → Nat) : Prop := GW M n ∧ (∃ J, J ≤ 2504 ∧ Lc M n J ρ) ∧ ∀ x, x < n → ρ x < n ∧ ρ (ρ x) = ρ x
theorem Fg_of {M : Mm} {n J : Nat} {ρ : Nat → Nat} {cs : List (Nat × Nat)} (h : Gc M n J ρ [] cs) : Fg M n ρ := ⟨h.1, ⟨J, by have := h.2.2.1; have := h.1.2.2.1; omega, h.2.1⟩, h.2.2.2.1⟩
theorem Fg_rt {M : Mm} {n x : Nat} {ρ : Nat → Nat} (h : Fg M n ρ) (hx : x < n) : M 29 x = (x : Int) ↔ ρ x = x := by
  obtain ⟨-, ⟨J, -, l1, l2⟩, -⟩ := h
  constructor
  · intro e
    have e2 : gN M 29 x = x := by show (M 29 x).toNat = x; omega
    exact (rk_fix e2 (l2 x hx)).symm
  · intro e
    have := rk_root (l2 x hx)
    rw [e] at this
    have h2 := l1 x hx
    have : (M 29 x).toNat = x := this
    omega
theorem Fg_80 {M : Mm} {n x : Nat} {ρ : Nat → Nat} (h : Fg M n ρ) (hx : x < n) : ∃ M', f80 M (x : Int) = some ((ρ x : Int), M') ∧ fr29 M M' n ∧ Fg M' n ρ := by
  obtain ⟨g, ⟨J, hJ, l⟩, i⟩ := h
  obtain ⟨⟨v, M'⟩, e1, e2, e3, e4⟩ := f80_ok g.2.2.1 hJ hx l
  dsimp only at e2 e3 e4
  subst e2
  exact ⟨M', e1, e3, GW_fr (frj_of e3) g e4, ⟨J, hJ, e4⟩, i⟩
theorem Fg_same {M N : Mm} {n : Nat} {ρ : Nat → Nat} (e : ∀ a, 25 ≤ a → a ≤ 29 → N a = M a) (h : Fg M n ρ) : Fg N n ρ := by
  have e25 := e 25 (by omega) (by omega)
  have e26 := e 26 (by omega) (by omega)
  have e27 := e 27 (by omega) (by omega)
  have e28 := e 28 (by omega) (by omega)
  have e29 := e 29 (by omega) (by omega)
  unfold Fg GW Lc
  rw [gN_fr e29, e25, e26, e27, e28, e29]
  exact h
/-- sums -/
def su (g : Nat → Nat) : Nat → Nat
  | 0 => 0
  | n + 1 => su g n + g n
theorem su_eq {g h : Nat → Nat} : ∀ {n : Nat}, (∀ x, x < n → g x = h x) → su g n = su h n
  | 0, _ => rfl
  | n + 1, e => by
    show su g n + g n = su h n + h n
    rw [su_eq (fun x hx => e x (by omega)), e n (by omega)]
theorem su_one {g h : Nat → Nat} {u k : Nat} (e1 : g u = h u + k) : ∀ {n : Nat}, u < n → (∀ x, x < n → x ≠ u → g x = h x) → su g n = su h n + k
  | 0, hu, _ => absurd hu (Nat.not_lt_zero _)
  | n + 1, hu, e => by
    show su g n + g n = su h n + h n + k
    by_cases q : u = n
    · subst q
      rw [su_eq (g := g) (h := h) (fun x hx => e x (by omega) (by omega)), e1]
      omega
    · rw [su_one e1 (n := n) (by omega) (fun x hx => e x (by omega)), e n (by omega) (fun z => q z.symm)]
      omega
theorem su_zero {g : Nat → Nat} {n : Nat} : su g n = 0 → ∀ x, x < n → g x = 0 := by
  induction n with
  | zero => intro _ x hx; omega
  | succ n ih =>
    intro h x hx
    have h : su g n + g n = 0 := h
    by_cases e : x = n
    · subst e; omega
    · exact ih (by omega) x (by omega)
/-- how often m is a part of x -/
def mu (M : Mm) (ρ : Nat → Nat) (x m : Nat) : Nat := (if (3 ≤ M 26 x ∧ M 26 x ≤ 4) ∧ ρ (M 27 x).toNat = m then 1 else 0) + (if M 26 x = 4 ∧ ρ (M 28 x).toNat = m then 1 else 0)
/-- users that have not been taken -/
def us (M : Mm) (ρ : Nat → Nat) (tk : Nat → Bool) (n m : Nat) : Nat := su (fun x => if ρ x = x ∧ tk x = false then mu M ρ x m else 0) n
/-- nothing has changed but links, users, what waits -/
def frk (M M' : Mm) (n : Nat) : Prop := (∀ a, a ≠ 29 → a ≠ 30 → a ≠ 33 → M' a = M a) ∧ ∀ y, n ≤ y → M' 29 y = M 29 y
theorem frk_trans {M M1 M2 : Mm} {n : Nat} (a : frk M M1 n) (b : frk M1 M2 n) : frk M M2 n := ⟨fun c h1 h2 h3 => (b.1 c h1 h2 h3).trans (a.1 c h1 h2 h3), fun y hy => (b.2 y hy).trans (a.2 y hy)⟩
theorem frk_29 {M M' : Mm} {n : Nat} (h : fr29 M M' n) : frk M M' n := ⟨fun a h1 _ _ => h.1 a h1, h.2⟩
/-- a part, if it is one -/
def pt (z : Int) (ρ : Nat → Nat) (m : Nat) : Nat := if z ≠ -1 ∧ ρ z.toNat = m then 1 else 0
theorem mu_pt {M : Mm} {n x : Nat} {ρ : Nat → Nat} (g : GW M n) (hx : x < n) (m : Nat) : mu M ρ x m = pt (M 27 x) ρ m + pt (M 28 x) ρ m := by
  obtain ⟨q1, q2, q3, q4, q5, q6⟩ := g.2.2.2 x hx
  unfold mu pt
  congr 1
  · by_cases k : 3 ≤ M 26 x ∧ M 26 x ≤ 4
    · have := q2 k
      by_cases e : ρ (M 27 x).toNat = m
      · rw [if_pos ⟨k, e⟩, if_pos ⟨by omega, e⟩]
      · rw [if_neg (fun z => e z.2), if_neg (fun z => e z.2)]
    · have := q3 k
      rw [if_neg (fun z => k z.1), if_neg (fun z => z.1 this)]
  · by_cases k : M 26 x = 4
    · have := q4 k
      by_cases e : ρ (M 28 x).toNat = m
      · rw [if_pos ⟨k, e⟩, if_pos ⟨by omega, e⟩]
      · rw [if_neg (fun z => e z.2), if_neg (fun z => e z.2)]
    · have := q5 k
      rw [if_neg (fun z => k z.1), if_neg (fun z => z.1 this)]
theorem f101_ok {M : Mm} {n : Nat} {ρ : Nat → Nat} {z : Int} (h : Fg M n ρ) (hz : z = -1 ∨ (0 ≤ z ∧ z < (n : Int))) (hu : ∀ m, m < n → 0 ≤ M 30 m ∧ M 30 m ≤ 10000) : ∃ M', f101 M z = some (0, M') ∧ frk M M' n ∧ Fg M' n ρ ∧ ∀ m, m < n → M' 30 m = M 30 m + (pt z ρ m : Int) := by
  have hn := h.1.2.2.1
  unfold f101
  rcases hz with hz | hz
  · rw [if_pos hz]
    refine ⟨M, rfl, ⟨fun _ _ _ _ => rfl, fun _ _ => rfl⟩, h, fun m hm => ?_⟩
    unfold pt
    rw [if_neg (fun q => q.1 hz)]
    simp
  · obtain ⟨x, hx⟩ : ∃ x : Nat, z = (x : Int) := ⟨z.toNat, by omega⟩
    subst hx
    obtain ⟨M1, e1, e2, e3⟩ := Fg_80 h (x := x) (by omega)
    have hr := (h.2.2 x (by omega)).1
    have e30 : M1 30 = M 30 := e2.1 30 (by decide)
    have := hu _ hr
    rw [if_neg (by omega), e1, bs_]
    dsimp only
    rw [if_pos (by omega), Int.toNat_natCast, if_pos (show rg (M1 30 (ρ x) + 1) by rw [e30]; omega)]
    refine ⟨_, rfl, ⟨fun a h1 h2 h3 => by rw [up_cell h2]; exact e2.1 a h1, fun y hy => by rw [up_cell (by decide)]; exact e2.2 y hy⟩, Fg_same (fun a h1 h2 => up_cell (by omega)) e3, fun m hm => ?_⟩
    unfold pt
    by_cases e : m = ρ x
    · subst e
      rw [up_same, e30, if_pos ⟨by omega, by rw [Int.toNat_natCast]⟩]
      rfl
    · rw [up_at e, e30, if_neg (by rw [Int.toNat_natCast]; exact fun q => e q.2.symm)]
      simp
theorem su_le {g : Nat → Nat} {b : Nat} : ∀ {n : Nat}, (∀ x, x < n → g x ≤ b) → su g n ≤ n * b
  | 0, _ => by simp [su]
  | n + 1, h => by
    have := su_le (n := n) (fun x hx => h x (by omega))
    have := h n (by omega)
    show su g n + g n ≤ (n + 1) * b
    rw [Nat.succ_mul]
    omega
theorem pt_le (z : Int) (ρ : Nat → Nat) (m : Nat) : pt z ρ m ≤ 1 := by unfold pt; split <;> omega
theorem GW_p {M : Mm} {n x : Nat} (g : GW M n) (hx : x < n) : (M 27 x = -1 ∨ (0 ≤ M 27 x ∧ M 27 x < (n : Int))) ∧ (M 28 x = -1 ∨ (0 ≤ M 28 x ∧ M 28 x < (n : Int))) := by
  obtain ⟨q1, q2, q3, q4, q5, q6⟩ := g.2.2.2 x hx
  refine ⟨?_, ?_⟩
  · by_cases k : 3 ≤ M 26 x ∧ M 26 x ≤ 4
    · exact Or.inr (q2 k)
    · exact Or.inl (q3 k)
  · by_cases k : M 26 x = 4
    · exact Or.inr (q4 k)
    · exact Or.inl (q5 k)
/-- users of those below x -/
def ub (M : Mm) (ρ : Nat → Nat) (k m : Nat) : Nat := su (fun x => if ρ x = x then mu M ρ x m else 0) k
theorem mu_le (M : Mm) (ρ : Nat → Nat) (x m : Nat) : mu M ρ x m ≤ 2 := by unfold mu; split <;> split <;> omega
theorem mu_fr {M M' : Mm} {n x m : Nat} {ρ : Nat → Nat} (h : frk M M' n) : mu M' ρ x m = mu M ρ x m := by
  unfold mu
  rw [h.1 26 (by decide) (by decide) (by decide), h.1 27 (by decide) (by decide) (by decide), h.1 28 (by decide) (by decide) (by decide)]
theorem ub_fr {M M' : Mm} {n k m : Nat} {ρ : Nat → Nat} (h : frk M M' n) : ub M' ρ k m = ub M ρ k m := su_eq (fun x _ => by simp only [mu_fr h])
theorem l98_ok {n : Nat} {ρ : Nat → Nat} (d : Nat) : ∀ (x f : Nat) (M : Mm), x + d = n → d < f → Fg M n ρ → (∀ m, m < n → M 30 m = (ub M ρ x m : Int)) → ∃ M', l98 f 17 M (cn (fun x => decide (ρ x = x)) x : Int) (x : Int) = some ((rc n ρ : Int), M') ∧ frk M M' n ∧ Fg M' n ρ ∧ ∀ m, m < n → M' 30 m = (ub M ρ n m : Int) := by
  induction d with
  | zero =>
    intro x f M hx hf h hu
    obtain ⟨f, rfl⟩ : ∃ f', f = f' + 1 := ⟨f - 1, by omega⟩
    obtain rfl : x = n := by omega
    refine ⟨M, ?_, ⟨fun _ _ _ _ => rfl, fun _ _ => rfl⟩, h, hu⟩
    rw [l98, h.1.1, if_pos (Int.le_refl _)]
    rfl
  | succ d ih =>
    intro x f M hx hf h hu
    obtain ⟨f, rfl⟩ : ∃ f', f = f' + 1 := ⟨f - 1, by omega⟩
    have hn := h.1.2.2.1
    have bd : ∀ k m, k ≤ n → ub M ρ k m ≤ 5008 := fun k m hk => by
      have := su_le (g := fun x => if ρ x = x then mu M ρ x m else 0) (b := 2) (n := k) (fun x _ => by
        split
        · exact mu_le _ _ _ _
        · omega)
      unfold ub
      omega
    have cl := cn_le (fun x => decide (ρ x = x)) x
    have es : ∀ m, ub M ρ (x + 1) m = ub M ρ x m + (if ρ x = x then mu M ρ x m else 0) := fun m => rfl
    have ec : cn (fun x => decide (ρ x = x)) (x + 1) = cn (fun x => decide (ρ x = x)) x + (if ρ x = x then 1 else 0) := by
      show cn _ x + (if decide (ρ x = x) = true then 1 else 0) = _
      simp
    rw [l98, h.1.1, if_neg (by omega), if_pos (by omega), Int.toNat_natCast]
    by_cases e : ρ x = x
    · have e9 := (Fg_rt h (show x < n by omega)).mpr e
      rw [if_neg (fun q => q e9)]
      obtain ⟨p1, p2⟩ := GW_p h.1 (show x < n by omega)
      obtain ⟨M1, a1, a2, a3, a4⟩ := f101_ok h p1 (fun m hm => by rw [hu m hm]; have := bd x m (by omega); omega)
      have e28 : M1 28 = M 28 := a2.1 28 (by decide) (by decide) (by decide)
      obtain ⟨M2, b1, b2, b3, b4⟩ := f101_ok a3 (z := M 28 x) p2 (fun m hm => by rw [a4 m hm, hu m hm]; have := bd x m (by omega); have := pt_le (M 27 x) ρ m; omega)
      have f2 := frk_trans a2 b2
      rw [a1, bs_]
      dsimp only
      rw [e28, b1, bs_]
      dsimp only
      rw [if_pos (by omega), if_pos (by omega)]
      have ih' := ih (x + 1) f M2 (by omega) (by omega) b3 (fun m hm => by
        rw [b4 m hm, a4 m hm, hu m hm, ub_fr f2, es, if_pos e, mu_pt h.1 (by omega)]
        omega)
      rw [ec, if_pos e] at ih'
      obtain ⟨M', z1, z2, z3, z4⟩ := ih'
      refine ⟨M', ?_, frk_trans f2 z2, z3, fun m hm => by rw [z4 m hm, ub_fr f2]⟩
      rw [show (x : Int) + 1 = ((x + 1 : Nat) : Int) by omega]
      exact z1
    · have e9 : ¬ M 29 x = (x : Int) := fun q => e ((Fg_rt h (show x < n by omega)).mp q)
      rw [if_pos e9, if_pos (by omega)]
      have ih' := ih (x + 1) f M (by omega) (by omega) h (fun m hm => by rw [hu m hm, es, if_neg e]; simp)
      rw [ec, if_neg e] at ih'
      exact ih'
theorem l99_ok {n : Nat} (hn : n ≤ 2504) (d : Nat) : ∀ (x f : Nat) (M : Mm), x + d = n → d < f → (∀ m, m < x → M 30 m = 0) → ∃ M', l99_30 f 10 M 0 (n : Int) 0 (x : Int) = some (0, M') ∧ (∀ a, a ≠ 30 → M' a = M a) ∧ ∀ m, m < n → M' 30 m = 0 := by
  induction d with
  | zero =>
    intro x f M hx hf h
    obtain ⟨f, rfl⟩ : ∃ f', f = f' + 1 := ⟨f - 1, by omega⟩
    obtain rfl : x = n := by omega
    exact ⟨M, by rw [l99_30, if_pos (Int.le_refl _)], fun _ _ => rfl, h⟩
  | succ d ih =>
    intro x f M hx hf h
    obtain ⟨f, rfl⟩ : ∃ f', f = f' + 1 := ⟨f - 1, by omega⟩
    obtain ⟨M', z1, z2, z3⟩ := ih (x + 1) f (up M 30 x 0) (by omega) (by omega) (fun m hm => by
      by_cases e : m = x
      · subst e; exact up_same _ _ _ _
      · rw [up_at e]; exact h m (by omega))
    refine ⟨M', ?_, fun a ha => by rw [z2 a ha, up_cell ha], z3⟩
    rw [l99_30, if_neg (by omega), if_pos (by omega), if_pos (by omega), Int.toNat_natCast, show (x : Int) + 1 = ((x + 1 : Nat) : Int) by omega]
    exact z1
theorem f98_ok {M : Mm} {n : Nat} {ρ : Nat → Nat} (h : Fg M n ρ) : ∃ M', f98 M = some ((rc n ρ : Int), M') ∧ frk M M' n ∧ Fg M' n ρ ∧ ∀ m, m < n → M' 30 m = (ub M ρ n m : Int) := by
  have hn := h.1.2.2.1
  obtain ⟨M1, e1, e2, e3⟩ := l99_ok hn n 0 FU M (by omega) (by unfold FU; omega) (fun m hm => by omega)
  have e1 : l99_30 FU 10 M 0 (n : Int) 0 0 = some (0, M1) := e1
  have f1 : frk M M1 n := ⟨fun a _ h2 _ => e2 a h2, fun y _ => by rw [e2 29 (by decide)]⟩
  obtain ⟨M2, z1, z2, z3, z4⟩ := l98_ok (ρ := ρ) n 0 FU M1 (by omega) (by unfold FU; omega) (Fg_same (fun a h1 h2 => e2 a (by omega)) h) (fun m hm => by rw [e3 m hm]; rfl)
  have z1 : l98 FU 17 M1 0 0 = some ((rc n ρ : Int), M2) := z1
  refine ⟨M2, ?_, frk_trans f1 z2, z3, fun m hm => by rw [z4 m hm, ub_fr f1]⟩
  unfold f98 f99_30 f100
  rw [h.1.1, if_pos (by omega), if_pos (by omega), if_pos (by omega), bs_]
  dsimp only
  rw [e1, bs_]
  exact z1
