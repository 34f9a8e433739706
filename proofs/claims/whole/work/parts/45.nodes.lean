/-! New nodes, here and there. -/
theorem rk_ext {l l' : Nat → Nat} {n : Nat} (h : ∀ y, y < n → l' y = l y ∧ l y < n) : ∀ {k x r : Nat}, x < n → rk l k x r → rk l' k x r
  | 0, x, r, hx, q => by
    obtain ⟨rfl, q⟩ := q
    exact ⟨rfl, by rw [(h x hx).1]; exact q⟩
  | k + 1, x, r, hx, q => q.elim (fun q => Or.inl (rk_ext h hx q)) (fun q => Or.inr (by rw [(h x hx).1]; exact rk_ext h (h x hx).2 q))
def ρn (ρ : Nat → Nat) (n : Nat) : Nat → Nat := fun x => if x = n then n else ρ x
theorem ρn_lt {ρ : Nat → Nat} {n x : Nat} (h : x < n) : ρn ρ n x = ρ x := if_neg (by omega)
theorem ρn_n {ρ : Nat → Nat} {n : Nat} : ρn ρ n n = n := if_pos rfl
theorem rc_grow {ρ : Nat → Nat} {n : Nat} : rc (n + 1) (ρn ρ n) = rc n ρ + 1 := by
  show cn _ n + _ = _
  rw [cn_eq (q := fun x => decide (ρ x = x)) (fun x hx => by simp only [ρn_lt hx])]
  simp [ρn_n, rc]
/-- nothing has changed but this node and how many there are -/
def nnw (M M' : Mm) (n : Nat) : Prop := (∀ a, a ≠ 25 → a ≠ 26 → a ≠ 27 → a ≠ 28 → a ≠ 29 → M' a = M a) ∧ (∀ k, k ≠ 8 → M' 25 k = M 25 k) ∧ ∀ x, x < n → M' 26 x = M 26 x ∧ M' 27 x = M 27 x ∧ M' 28 x = M 28 x ∧ M' 29 x = M 29 x
theorem f74_ok {M : Mm} {n J : Nat} {ρ : Nat → Nat} {cs : List (Nat × Nat)} {k a b : Int} (h : Gc M n J ρ [] cs) (hn : n < 2504) (hk : 0 ≤ k ∧ k ≤ 5) (ha : ((3 ≤ k ∧ k ≤ 4) → 0 ≤ a ∧ a < (n : Int)) ∧ (¬ (3 ≤ k ∧ k ≤ 4) → a = -1)) (hb : (k = 4 → 0 ≤ b ∧ b < (n : Int)) ∧ (¬ k = 4 → b = -1)) :
    wp (f74 M k a b) (fun q => q.1 = (n : Int) ∧ nnw M q.2 n ∧ (q.2 26 n = k ∧ q.2 27 n = a ∧ q.2 28 n = b) ∧ Gc q.2 (n + 1) J (ρn ρ n) [] cs) := by
  obtain ⟨⟨g1, g2, g3, g4⟩, ⟨l1, l2⟩, hj, hu⟩ := h
  unfold f74
  refine wp_chk (by omega) (wp_chk (by omega) (wp_some ?_))
  rw [g1, Int.toNat_natCast]
  refine ⟨rfl, ?_⟩
  have c25 : (up (up (up (up (up M 26 n k) 27 n a) 28 n b) 29 n (n : Int)) 25 8 ((n : Int) + 1)) 25 8 = ((n + 1 : Nat) : Int) := by rw [up_same]; omega
  have c26 : ∀ x, (up (up (up (up (up M 26 n k) 27 n a) 28 n b) 29 n (n : Int)) 25 8 ((n : Int) + 1)) 26 x = if x = n then k else M 26 x := fun x => by simp [up]
  have c27 : ∀ x, (up (up (up (up (up M 26 n k) 27 n a) 28 n b) 29 n (n : Int)) 25 8 ((n : Int) + 1)) 27 x = if x = n then a else M 27 x := fun x => by simp [up]
  have c28 : ∀ x, (up (up (up (up (up M 26 n k) 27 n a) 28 n b) 29 n (n : Int)) 25 8 ((n : Int) + 1)) 28 x = if x = n then b else M 28 x := fun x => by simp [up]
  have c29 : ∀ x, (up (up (up (up (up M 26 n k) 27 n a) 28 n b) 29 n (n : Int)) 25 8 ((n : Int) + 1)) 29 x = if x = n then (n : Int) else M 29 x := fun x => by simp [up]
  have cz : nnw M (up (up (up (up (up M 26 n k) 27 n a) 28 n b) 29 n (n : Int)) 25 8 ((n : Int) + 1)) n := by
    refine ⟨fun c h1 h2 h3 h4 h5 => ?_, fun k hk => ?_, fun x hx => ?_⟩
    · rw [up_cell h1, up_cell h5, up_cell h4, up_cell h3, up_cell h2]
    · rw [up_at hk, up_cell (by decide), up_cell (by decide), up_cell (by decide), up_cell (by decide)]
    · rw [c26, c27, c28, c29, if_neg (by omega), if_neg (by omega), if_neg (by omega), if_neg (by omega)]
      exact ⟨rfl, rfl, rfl, rfl⟩
  dsimp only
  generalize (up (up (up (up (up M 26 n k) 27 n a) 28 n b) 29 n (n : Int)) 25 8 ((n : Int) + 1)) = M' at c25 c26 c27 c28 c29 cz ⊢
  refine ⟨cz, ⟨by rw [c26, if_pos rfl], by rw [c27, if_pos rfl], by rw [c28, if_pos rfl]⟩, ⟨c25, by omega, by omega, fun x hx => ?_⟩, ⟨fun y hy => ?_, fun y hy => ?_⟩, by rw [rc_grow]; omega, ?_⟩
  · rw [c26, c27, c28, c29]
    by_cases e : x = n
    · rw [if_pos e, if_pos e, if_pos e, if_pos e]
      refine ⟨hk, fun q => ?_, ha.2, fun q => ?_, hb.2, by omega, by omega⟩
      · have := ha.1 q; omega
      · have := hb.1 q; omega
    · rw [if_neg e, if_neg e, if_neg e, if_neg e]
      obtain ⟨q1, q2, q3, q4, q5, q6⟩ := g4 x (by omega)
      refine ⟨q1, fun q => ?_, q3, fun q => ?_, q5, by omega, by omega⟩
      · have := q2 q; omega
      · have := q4 q; omega
  · rw [c29]
    by_cases e : y = n
    · rw [if_pos e]; omega
    · rw [if_neg e]
      have := l1 y (by omega)
      omega
  · by_cases e : y = n
    · subst e
      rw [ρn_n]
      have e9 : gN M' 29 y = y := by show (M' 29 y).toNat = y; rw [c29, if_pos rfl]; rfl
      exact rk_le (k := 0) ⟨rfl, e9⟩ (Nat.zero_le _)
    · rw [ρn_lt (by omega)]
      refine rk_ext (l := gN M 29) (n := n) (fun z hz => ⟨?_, ?_⟩) (by omega) (l2 y (by omega))
      · show (M' 29 z).toNat = (M 29 z).toNat
        rw [c29, if_neg (by omega)]
      · have := l1 z hz
        show (M 29 z).toNat < n
        omega
  · refine Ui_grow hu (fun x hx => ⟨?_, ?_, ?_, ρn_lt hx⟩) ρn_n ⟨fun q => ?_, fun q => ?_⟩
    · show (M' 26 x).toNat = (M 26 x).toNat; rw [c26, if_neg (by omega)]
    · show (M' 27 x).toNat = (M 27 x).toNat; rw [c27, if_neg (by omega)]
    · show (M' 28 x).toNat = (M 28 x).toNat; rw [c28, if_neg (by omega)]
    · have e : gN M' 26 n = k.toNat := by show (M' 26 n).toNat = _; rw [c26, if_pos rfl]
      have := ha.1 (by omega)
      show (M' 27 n).toNat < n
      rw [c27, if_pos rfl]; omega
    · have e : gN M' 26 n = k.toNat := by show (M' 26 n).toNat = _; rw [c26, if_pos rfl]
      have := hb.1 (by omega)
      show (M' 28 n).toNat < n
      rw [c28, if_pos rfl]; omega
def nnr (M M' : Mm) (n : Nat) : Prop := (∀ a, a ≠ 53 → a ≠ 76 → a ≠ 77 → a ≠ 78 → a ≠ 79 → M' a = M a) ∧ (∀ k, k ≠ 28 → M' 53 k = M 53 k) ∧ ∀ x, x < n → M' 76 x = M 76 x ∧ M' 77 x = M 77 x ∧ M' 78 x = M 78 x ∧ M' 79 x = M 79 x
theorem f214_ok {M : Mm} {n J : Nat} {ρ : Nat → Nat} {cs : List (Nat × Nat)} {k a b : Int} (h : Gr M n J ρ [] cs) (hn : n < 4000) (hk : 0 ≤ k ∧ k ≤ 5) (ha : (3 ≤ k ∧ k ≤ 4) → 0 ≤ a ∧ a < (n : Int)) (hb : k = 4 → 0 ≤ b ∧ b < (n : Int)) :
    wp (f214 M k a b) (fun q => q.1 = (n : Int) ∧ nnr M q.2 n ∧ (q.2 76 n = k ∧ q.2 77 n = a ∧ q.2 78 n = b) ∧ Gr q.2 (n + 1) J (ρn ρ n) [] cs) := by
  obtain ⟨⟨g1, g3, g4⟩, ⟨l1, l2⟩, hj, hu⟩ := h
  unfold f214
  refine wp_chk (by omega) (wp_chk (by omega) (wp_chk (by omega) (wp_some ?_)))
  rw [g1, Int.toNat_natCast]
  refine ⟨by dsimp only; omega, ?_⟩
  have c25 : (up (up (up (up (up M 76 n k) 77 n a) 78 n b) 79 n (n : Int)) 53 28 ((n : Int) + 1)) 53 28 = ((n + 1 : Nat) : Int) := by rw [up_same]; omega
  have c26 : ∀ x, (up (up (up (up (up M 76 n k) 77 n a) 78 n b) 79 n (n : Int)) 53 28 ((n : Int) + 1)) 76 x = if x = n then k else M 76 x := fun x => by simp [up]
  have c27 : ∀ x, (up (up (up (up (up M 76 n k) 77 n a) 78 n b) 79 n (n : Int)) 53 28 ((n : Int) + 1)) 77 x = if x = n then a else M 77 x := fun x => by simp [up]
  have c28 : ∀ x, (up (up (up (up (up M 76 n k) 77 n a) 78 n b) 79 n (n : Int)) 53 28 ((n : Int) + 1)) 78 x = if x = n then b else M 78 x := fun x => by simp [up]
  have c29 : ∀ x, (up (up (up (up (up M 76 n k) 77 n a) 78 n b) 79 n (n : Int)) 53 28 ((n : Int) + 1)) 79 x = if x = n then (n : Int) else M 79 x := fun x => by simp [up]
  have cz : nnr M (up (up (up (up (up M 76 n k) 77 n a) 78 n b) 79 n (n : Int)) 53 28 ((n : Int) + 1)) n := by
    refine ⟨fun c h1 h2 h3 h4 h5 => ?_, fun k hk => ?_, fun x hx => ?_⟩
    · rw [up_cell h1, up_cell h5, up_cell h4, up_cell h3, up_cell h2]
    · rw [up_at hk, up_cell (by decide), up_cell (by decide), up_cell (by decide), up_cell (by decide)]
    · rw [c26, c27, c28, c29, if_neg (by omega), if_neg (by omega), if_neg (by omega), if_neg (by omega)]
      exact ⟨rfl, rfl, rfl, rfl⟩
  dsimp only
  generalize (up (up (up (up (up M 76 n k) 77 n a) 78 n b) 79 n (n : Int)) 53 28 ((n : Int) + 1)) = M' at c25 c26 c27 c28 c29 cz ⊢
  refine ⟨cz, ⟨by rw [c26, if_pos rfl], by rw [c27, if_pos rfl], by rw [c28, if_pos rfl]⟩, ⟨c25, by omega, fun x hx => ?_⟩, ⟨fun y hy => ?_, fun y hy => ?_⟩, by rw [rc_grow]; omega, ?_⟩
  · rw [c26, c27, c28, c29]
    by_cases e : x = n
    · rw [if_pos e, if_pos e, if_pos e, if_pos e]
      refine ⟨hk, fun q => ?_, fun q => ?_, by omega, by omega⟩
      · have := ha q; omega
      · have := hb q; omega
    · rw [if_neg e, if_neg e, if_neg e, if_neg e]
      obtain ⟨q1, q2, q4, q6⟩ := g4 x (by omega)
      refine ⟨q1, fun q => ?_, fun q => ?_, by omega, by omega⟩
      · have := q2 q; omega
      · have := q4 q; omega
  · rw [c29]
    by_cases e : y = n
    · rw [if_pos e]; omega
    · rw [if_neg e]
      have := l1 y (by omega)
      omega
  · by_cases e : y = n
    · subst e
      rw [ρn_n]
      have e9 : gN M' 79 y = y := by show (M' 79 y).toNat = y; rw [c29, if_pos rfl]; rfl
      exact rk_le (k := 0) ⟨rfl, e9⟩ (Nat.zero_le _)
    · rw [ρn_lt (by omega)]
      refine rk_ext (l := gN M 79) (n := n) (fun z hz => ⟨?_, ?_⟩) (by omega) (l2 y (by omega))
      · show (M' 79 z).toNat = (M 79 z).toNat
        rw [c29, if_neg (by omega)]
      · have := l1 z hz
        show (M 79 z).toNat < n
        omega
  · refine Ui_grow hu (fun x hx => ⟨?_, ?_, ?_, ρn_lt hx⟩) ρn_n ⟨fun q => ?_, fun q => ?_⟩
    · show (M' 76 x).toNat = (M 76 x).toNat; rw [c26, if_neg (by omega)]
    · show (M' 77 x).toNat = (M 77 x).toNat; rw [c27, if_neg (by omega)]
    · show (M' 78 x).toNat = (M 78 x).toNat; rw [c28, if_neg (by omega)]
    · have e : gN M' 76 n = k.toNat := by show (M' 76 n).toNat = _; rw [c26, if_pos rfl]
      have := ha (by omega)
      show (M' 77 n).toNat < n
      rw [c27, if_pos rfl]; omega
    · have e : gN M' 76 n = k.toNat := by show (M' 76 n).toNat = _; rw [c26, if_pos rfl]
      have := hb (by omega)
      show (M' 78 n).toNat < n
      rw [c28, if_pos rfl]; omega
