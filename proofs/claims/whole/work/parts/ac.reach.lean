/-! Run: the other side's cells stay under 6000. What can be reached. -/
def rptr (M : Mm) (k x : Nat) : Prop := (M 51 (5 * k) = 0 ∧ M 51 (5 * k + 3) = (x : Int)) ∨ ((M 51 (5 * k) = 1 ∨ M 51 (5 * k) = 2) ∧ M 51 (5 * k + 1) = (x : Int)) ∨ (M 51 (5 * k) = 3 ∧ (M 51 (5 * k + 1) = (x : Int) ∨ M 51 (5 * k + 2) = (x : Int)))
def qF (M : Mm) (k : Nat) : Prop := M 51 (5 * k) = 3
def gF (M : Mm) (k : Nat) : Nat := (M 51 (5 * k + 1)).toNat
def lF (M : Mm) (k : Nat) : Nat := (M 51 (5 * k + 2)).toNat
def rF (M : Mm) (k : Nat) : Nat := (M 51 (5 * k + 3)).toNat
/-- c is still to be taken by the fold of row k -/
def inR (M : Mm) (k c : Nat) : Prop := ∃ j, j < rF M k ∧ tlC M j (lF M k) = c
def Sk (lo σ x : Nat) : Prop := x < lo ∨ σ ≤ x
/-- folds hide what they hide -/
def ACC (M : Mm) (n w : Nat) (ρ σ lo : Nat → Nat) (Rg : Nat → Prop) : Prop := ∀ k, k < w → qF M k → (ρ k < σ k ∧ σ k ≤ n ∧ ρ k ≤ lo k ∧ lF M k < σ k) ∧ (∀ x, Rg x → Sk (lo k) (σ k) x) ∧ (∀ k', k < k' → k' < w → (∀ x, rptr M k' x → Sk (lo k) (σ k) x) ∧ (qF M k' → Sk (lo k) (σ k) (ρ k'))) ∧ ∀ i x, σ k ≤ i → i < n → fld M i x → Sk (lo k) (σ k) x
def LOF (M : Mm) (w : Nat) (ρ lo : Nat → Nat) : Prop := ∀ k, k < w → qF M k → lo k = ρ k ∨ ∀ j, j < rF M k → lo k ≤ tlC M j (lF M k)
def RHO (M : Mm) (w : Nat) (ρ : Nat → Nat) : Prop := ∀ k, k < w → qF M k → M 49 (5 * ρ k) = 4 ∧ M 49 (5 * ρ k + 1) = 7 ∧ M 49 (5 * ρ k + 2) = 2 ∧ M 49 (5 * ρ k + 3) = M 51 (5 * k + 1)
/-- what is new after a turn was in reach before it -/
def Nw (M M' : Mm) (n n' w w' w0 : Nat) (Rg Rg' : Nat → Prop) : Prop := ∀ S : Nat → Prop, clF M n S → (∀ x, Rg x → S x) → (∀ k' x, w0 ≤ k' → k' < w → rptr M k' x → S x) → (∀ i, n ≤ i → i < n' → S i) → (∀ i x, n ≤ i → i < n' → fld M' i x → S x) ∧ (∀ x, Rg' x → S x) ∧ ∀ k' x, w0 ≤ k' → k' < w' → rptr M' k' x → S x
theorem fld_fr {M M' : Mm} {i x : Nat} (h : ∀ j, 5 * i ≤ j → j < 5 * i + 5 → M' 49 j = M 49 j) : fld M' i x ↔ fld M i x := by
  unfold fld
  rw [h (5 * i) (by omega) (by omega), h (5 * i + 1) (by omega) (by omega), h (5 * i + 2) (by omega) (by omega), h (5 * i + 3) (by omega) (by omega), h (5 * i + 4) (by omega) (by omega)]
theorem rptr_fr {M M' : Mm} {k x : Nat} (h : ∀ j, 5 * k ≤ j → j < 5 * k + 5 → M' 51 j = M 51 j) : rptr M' k x ↔ rptr M k x := by
  unfold rptr
  rw [h (5 * k) (by omega) (by omega), h (5 * k + 1) (by omega) (by omega), h (5 * k + 2) (by omega) (by omega), h (5 * k + 3) (by omega) (by omega)]
theorem qF_fr {M M' : Mm} {k : Nat} (h : M' 51 (5 * k) = M 51 (5 * k)) : qF M' k ↔ qF M k := by
  unfold qF
  rw [h]
theorem tlC_fr {M M' : Mm} (h : M' 49 = M 49) : ∀ (k l : Nat), tlC M' k l = tlC M k l := by
  intro k
  induction k with
  | zero => intro l; rfl
  | succ k ih =>
    intro l
    show tlC M' k (M' 49 (5 * l + 2)).toNat = tlC M k (M 49 (5 * l + 2)).toNat
    rw [h, ih]
section REACH
variable {M0 R0 : Mm} {N NT : Nat} {G : Nat → UGt} {Mc Mr M M' : Mm} {φ : Nat → Nat} {τ : Nat → Ty} {κ : Nat → Nat × Nat × Nat} {Es : Nat → Int → Ty} {n n' m nf ne : Nat} {w w' w0 : Nat} {ρ σ lo : Nat → Nat} {Rg Rg' : Nat → Prop}
theorem EnK_lt {u η i x : Nat} {q ν : Int} (h : EnK Mc κ i u q ν η) (e : ν = (x : Int)) : x < i := by
  rcases h with ⟨_, h⟩ | ⟨l, i', _, h2, h3, _⟩
  · omega
  · omega
theorem fld_lt {i x : Nat} (h : COK M0 N G Mc Mr φ τ κ Es m nf ne i) (hf : fld Mc i x) : x < i := by
  rcases hf with ⟨k, hf⟩ | ⟨k, hf⟩ | ⟨k, hf⟩
  · rcases k with k | k
    · obtain ⟨_, _, y, t, c1, c2, c3, c4, _⟩ := COK_2 h k
      rcases hf with hf | hf <;> omega
    · obtain ⟨_, _, u, l, η, j, _, _, c3, c4, _, _, _, c8⟩ := COK_5 h k
      rcases hf with hf | hf
      · omega
      · exact EnK_lt c8 hf
  · obtain ⟨_, _, u, p, f, η, ν, pl, _, _, _, c5, _⟩ := COK_3 h k
    exact EnK_lt pl.2.2.2.2.2 (by rw [← c5]; exact hf)
  · obtain ⟨_, _, k', _, _, _, c⟩ := COK_4 h k
    rcases c with ⟨c1, _⟩ | ⟨y, c0, c1, _, c3, _⟩ | ⟨y, z, c0, c0', _, c1, _, c3, _, c5, _⟩
    · rcases hf with hf | hf <;> omega
    · rcases hf with hf | hf <;> omega
    · rcases hf with hf | hf <;> omega
/-- what a fold leaves in reach is closed -/
theorem Sk_clF {k : Nat} (hlt : ∀ i x, i < n → fld M i x → x < i) (h : ACC M n w ρ σ lo Rg) (hk : k < w) (hF : qF M k) : clF M n (Sk (lo k) (σ k)) := by
  intro i x hi hS hf
  rcases hS with hS | hS
  · have := hlt i x hi hf
    exact Or.inl (by omega)
  · exact (h k hk hF).2.2.2 i x hS hi hf
theorem ACC_step (hlt : ∀ i x, i < n → fld M i x → x < i) (h : ACC M n w ρ σ lo Rg) (hn : n ≤ n') (h49 : ∀ j, j < 5 * n → M' 49 j = M 49 j) (hw : w0 ≤ w) (h51 : ∀ j, j < 5 * w0 → M' 51 j = M 51 j) (nw : Nw M M' n n' w w' w0 Rg Rg') (hρ : ∀ k, k < w0 → qF M k → ∀ k', w0 ≤ k' → k' < w' → qF M' k' → Sk (lo k) (σ k) (ρ k')) : ∀ k, k < w0 → qF M' k → (ρ k < σ k ∧ σ k ≤ n' ∧ ρ k ≤ lo k ∧ lF M' k < σ k) ∧ (∀ x, Rg' x → Sk (lo k) (σ k) x) ∧ (∀ k', k < k' → k' < w' → (∀ x, rptr M' k' x → Sk (lo k) (σ k) x) ∧ (qF M' k' → Sk (lo k) (σ k) (ρ k'))) ∧ ∀ i x, σ k ≤ i → i < n' → fld M' i x → Sk (lo k) (σ k) x := by
  intro k hk hF
  have hF0 : qF M k := (qF_fr (h51 _ (by omega))).mp hF
  have el : lF M' k = lF M k := by unfold lF; rw [h51 _ (by omega)]
  obtain ⟨⟨a1, a2, a3, a4⟩, a5, a6, a7⟩ := h k (by omega) hF0
  obtain ⟨b1, b2, b3⟩ := nw (Sk (lo k) (σ k)) (Sk_clF hlt h (by omega) hF0) a5 (fun k' x h1 h2 h3 => (a6 k' (by omega) h2).1 x h3) (fun i h1 _ => Or.inr (by omega))
  refine ⟨⟨a1, by omega, a3, by omega⟩, b2, fun k' h1 h2 => ?_, fun i x h1 h2 h3 => ?_⟩
  · by_cases c : k' < w0
    · have q : ∀ x, rptr M' k' x ↔ rptr M k' x := fun x => rptr_fr (fun j h1 h2 => h51 j (by omega))
      exact ⟨fun x hx => (a6 k' h1 (by omega)).1 x ((q x).mp hx), fun hx => (a6 k' h1 (by omega)).2 ((qF_fr (h51 _ (by omega))).mp hx)⟩
    · exact ⟨fun x hx => b3 k' x (by omega) h2 hx, fun hx => hρ k hk hF0 k' (by omega) h2 hx⟩
  · by_cases c : i < n
    · exact a7 i x h1 c ((fld_fr (fun j h1 h2 => h49 j (by omega))).mp h3)
    · exact b1 i x (by omega) h2 h3
/-- along a list -/
theorem tl_S {S : Nat → Prop} (hC : ∀ i, i < n → COK M0 N G M Mr φ τ κ Es m nf ne i) (hS : clF M n S) : ∀ (j l : Nat), l < n → (j : Int) < lenC M l → S l → S (tlC M j l) := by
  intro j
  induction j with
  | zero => intro l _ _ h; exact h
  | succ j ih =>
    intro l hl hj h
    have z := (tl_ok hC 0 l hl (by omega)).2.1
    have z : M 49 (5 * l) = 2 := z
    obtain ⟨a, b, x, t, c1, c2, c3, c4, c5, c6, c7, c8, c9⟩ := COK_2 (hC l hl) z
    have e : lenC M l = lenC M t + 1 := by
      rw [← c9]
      unfold lenC
      rw [if_pos z]
    show S (tlC M j (M 49 (5 * l + 2)).toNat)
    rw [c4, Int.toNat_natCast]
    exact ih t (by omega) (by omega) (hS l t hl h (Or.inl ⟨Or.inl z, Or.inr c4⟩))
/-- two folds in which the same cell is to be taken -/
theorem rho_ne {k k' c : Nat} (hC : ∀ i, i < n → COK M0 N G M Mr φ τ κ Es m nf ne i) (h : ACC M n w ρ σ lo Rg) (hlo : LOF M w ρ lo) (hr : ∀ k, k < w → qF M k → lF M k < n ∧ (rF M k : Int) ≤ lenC M (lF M k) ∧ M 51 (5 * k + 2) = (lF M k : Int)) (hk : k < k') (hk' : k' < w) (hF : qF M k) (hF' : qF M k') (hc : inR M k c) (hc' : inR M k' c) : ρ k ≠ ρ k' := by
  have hlt : ∀ i x, i < n → fld M i x → x < i := fun i x hi hf => fld_lt (hC i hi) hf
  obtain ⟨⟨a1, a2, a3, a4⟩, a5, a6, a7⟩ := h k (by omega) hF
  obtain ⟨j, j1, j2⟩ := hc
  obtain ⟨j', j1', j2'⟩ := hc'
  obtain ⟨r1, r2, r3⟩ := hr k (by omega) hF
  obtain ⟨r1', r2', r3'⟩ := hr k' hk' hF'
  have s1 : Sk (lo k) (σ k) (lF M k') := (a6 k' hk hk').1 _ (Or.inr (Or.inr ⟨hF', Or.inr r3'⟩))
  have s2 := tl_S hC (Sk_clF hlt h (by omega) hF) j' _ r1' (by omega) s1
  rw [j2'] at s2
  have t1 := (tl_ok hC j _ r1 (by omega)).1
  rw [j2] at t1
  have s3 := (a6 k' hk hk').2 hF'
  have c1 : c < lo k := by
    rcases s2 with s2 | s2
    · exact s2
    · omega
  rcases hlo k (by omega) hF with e | e
  · rcases s3 with s3 | s3
    · omega
    · omega
  · have := e j j1
    omega
end REACH
