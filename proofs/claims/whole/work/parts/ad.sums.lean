/-! Run: the other side's cells stay under 6000. Sums; what remains of all folds, cell by cell. -/
def sm (f : Nat → Nat) : Nat → Nat
  | 0 => 0
  | k + 1 => sm f k + f k
theorem sm_s {f : Nat → Nat} {w : Nat} : sm f (w + 1) = sm f w + f w := rfl
theorem sm_eq {f g : Nat → Nat} : ∀ {w : Nat}, (∀ k, k < w → f k = g k) → sm f w = sm g w := by
  intro w
  induction w with
  | zero => intro _; rfl
  | succ w ih => intro h; rw [sm_s, sm_s, ih (fun k hk => h k (by omega)), h w (by omega)]
theorem sm_le {f g : Nat → Nat} : ∀ {w : Nat}, (∀ k, k < w → f k ≤ g k) → sm f w ≤ sm g w := by
  intro w
  induction w with
  | zero => intro _; exact Nat.le_refl _
  | succ w ih =>
    intro h
    have h1 := ih (fun k hk => h k (by omega))
    have h2 := h w (by omega)
    rw [sm_s, sm_s]
    omega
theorem sm_add {f g : Nat → Nat} : ∀ w, sm (fun k => f k + g k) w = sm f w + sm g w := by
  intro w
  induction w with
  | zero => rfl
  | succ w ih => rw [sm_s, sm_s, sm_s, ih]; omega
theorem sm_mono {f : Nat → Nat} {a : Nat} : ∀ {b : Nat}, a ≤ b → sm f a ≤ sm f b := by
  intro b
  induction b with
  | zero => intro h; obtain rfl : a = 0 := by omega
            exact Nat.le_refl _
  | succ b ih =>
    intro h
    by_cases e : a = b + 1
    · subst e; exact Nat.le_refl _
    · have := ih (by omega)
      rw [sm_s]
      omega
/-- one place differs -/
theorem sm_one {f g : Nat → Nat} {k0 : Nat} : ∀ {w : Nat}, k0 < w → (∀ k, k < w → k ≠ k0 → f k = g k) → sm f w + g k0 = sm g w + f k0 := by
  intro w
  induction w with
  | zero => intro h; omega
  | succ w ih =>
    intro h1 h2
    rw [sm_s, sm_s]
    by_cases e : k0 = w
    · subst e
      rw [sm_eq (fun k hk => h2 k (by omega) (by omega))]
      omega
    · have := ih (by omega) (fun k hk => h2 k (by omega))
      rw [h2 w (by omega) (by omega)]
      omega
def fF (M : Mm) (f : Nat → Nat) (k : Nat) : Nat := if M 51 (5 * k) = 3 then f k else 0
def inB (M : Mm) (k c : Nat) : Bool := decide (M 51 (5 * k) = 3) && (List.range (rF M k)).any (fun j => tlC M j (lF M k) == c)
theorem inB_iff {M : Mm} {k c : Nat} : inB M k c = true ↔ qF M k ∧ inR M k c := by
  unfold inB qF inR
  rw [Bool.and_eq_true, decide_eq_true_iff, List.any_eq_true]
  constructor
  · rintro ⟨h1, j, h2, h3⟩
    exact ⟨h1, j, List.mem_range.mp h2, of_decide_eq_true h3⟩
  · rintro ⟨h1, j, h2, h3⟩
    exact ⟨h1, j, List.mem_range.mpr h2, decide_eq_true h3⟩
theorem cn_s {p : Nat → Bool} {n : Nat} : cn p (n + 1) = cn p n + (if p n = true then 1 else 0) := rfl
theorem cn_sm {p : Nat → Bool} : ∀ w, cn p w = sm (fun k => if p k = true then 1 else 0) w := by
  intro w
  induction w with
  | zero => rfl
  | succ w ih => rw [cn_s, sm_s, ih]
theorem cn_le1 {p : Nat → Bool} : ∀ {w : Nat}, (∀ a b, a < b → b < w → p a = true → p b = true → False) → cn p w ≤ 1 := by
  intro w
  induction w with
  | zero => intro _; exact Nat.zero_le _
  | succ w ih =>
    intro h
    rw [cn_s]
    by_cases e : p w = true
    · have z : cn p w = cn (fun _ => false) w := cn_eq (fun x hx => by
        cases q : p x with
        | false => rfl
        | true => exact False.elim (h x w hx (by omega) q e))
      have z2 : ∀ w, cn (fun _ => false) w = 0 := by
        intro w
        induction w with
        | zero => rfl
        | succ w ih => rw [cn_s, ih, if_neg Bool.false_ne_true]
      rw [z, z2, if_pos e]
      omega
    · rw [if_neg e]
      exact ih (fun a b h1 h2 => h a b h1 (by omega))
section SUMS
variable {M0 : Mm} {N : Nat} {G : Nat → UGt} {M Mr : Mm} {φ : Nat → Nat} {τ : Nat → Ty} {κ : Nat → Nat × Nat × Nat} {Es : Nat → Int → Ty} {n m nf ne : Nat} {w : Nat}
theorem tl_dec (hC : ∀ i, i < n → COK M0 N G M Mr φ τ κ Es m nf ne i) : ∀ (d j l : Nat), l < n → ((j + d + 1 : Nat) : Int) < lenC M l → tlC M (j + d + 1) l < tlC M j l := by
  intro d
  induction d with
  | zero =>
    intro j l hl hj
    obtain ⟨a1, a2, _⟩ := tl_ok hC j l hl (by omega)
    obtain ⟨_, _, x, t, _, c2, _, c4, _⟩ := COK_2 (hC (tlC M j l) (by omega)) a2
    rw [Nat.add_zero, tlC_succ, c4, Int.toNat_natCast]
    exact c2
  | succ d ih =>
    intro j l hl hj
    have h1 := ih j l hl (by omega)
    obtain ⟨a1, a2, _⟩ := tl_ok hC (j + d + 1) l hl (by omega)
    obtain ⟨_, _, x, t, _, c2, _, c4, _⟩ := COK_2 (hC (tlC M (j + d + 1) l) (by omega)) a2
    rw [show j + (d + 1) + 1 = (j + d + 1) + 1 by omega, tlC_succ, c4, Int.toNat_natCast]
    omega
theorem tl_lt {j j' l : Nat} (hC : ∀ i, i < n → COK M0 N G M Mr φ τ κ Es m nf ne i) (hl : l < n) (h : j < j') (hj : (j' : Int) < lenC M l) : tlC M j' l < tlC M j l := by
  have := tl_dec hC (j' - j - 1) j l hl (by omega)
  rw [show j + (j' - j - 1) + 1 = j' by omega] at this
  exact this
theorem any_s {r l c : Nat} : (List.range (r + 1)).any (fun j => tlC M j l == c) = ((List.range r).any (fun j => tlC M j l == c) || (tlC M r l == c)) := by
  have e : [r].any (fun j => tlC M j l == c) = (tlC M r l == c) := by
    show ((tlC M r l == c) || false) = (tlC M r l == c)
    rw [Bool.or_false]
  rw [List.range_succ, List.any_append, e]
theorem row_cn {l : Nat} (hC : ∀ i, i < n → COK M0 N G M Mr φ τ κ Es m nf ne i) (hl : l < n) : ∀ r : Nat, (r : Int) ≤ lenC M l → r ≤ cn (fun c => (List.range r).any (fun j => tlC M j l == c)) n := by
  intro r
  induction r with
  | zero => intro _; exact Nat.zero_le _
  | succ r ih =>
    intro hr
    have h1 := ih (by omega)
    have t := (tl_ok hC r l hl (by omega)).1
    have h2 := cn_sub_lt (p := fun c => (List.range r).any (fun j => tlC M j l == c)) (q := fun c => (List.range (r + 1)).any (fun j => tlC M j l == c)) (u := tlC M r l) (n := n) (by
      show (List.range (r + 1)).any (fun j => tlC M j l == tlC M r l) = true
      rw [any_s, beq_self_eq_true, Bool.or_true]) (by
      show (List.range r).any (fun j => tlC M j l == tlC M r l) = false
      cases q : (List.range r).any (fun j => tlC M j l == tlC M r l) with
      | false => rfl
      | true =>
        obtain ⟨j, j1, j2⟩ := List.any_eq_true.mp q
        have j1 := List.mem_range.mp j1
        have j2 : tlC M j l = tlC M r l := of_decide_eq_true j2
        have := tl_lt hC hl j1 (by omega)
        omega) (by omega) (fun x _ hx => by
      show (List.range (r + 1)).any (fun j => tlC M j l == x) = true
      have hx : (List.range r).any (fun j => tlC M j l == x) = true := hx
      rw [any_s, hx, Bool.true_or])
    omega
theorem swap (p : Nat → Nat → Bool) (w : Nat) : ∀ n : Nat, sm (fun k => cn (p k) (n + 1)) w = sm (fun k => cn (p k) n) w + cn (fun k => p k n) w := by
  intro n
  rw [cn_sm, ← sm_add]
  rfl
/-- what remains of all folds -/
theorem Rm_le {D : Nat} (hC : ∀ i, i < n → COK M0 N G M Mr φ τ κ Es m nf ne i) (hr : ∀ k, k < w → qF M k → lF M k < n ∧ (rF M k : Int) ≤ lenC M (lF M k)) (hD : ∀ c, c < n → cn (fun k => inB M k c) w ≤ D) (h0 : ∀ c, c < n → Kc M c = 0 → cn (fun k => inB M k c) w ≤ 1) : sm (fF M (rF M)) w ≤ if Kc M n = 0 then 0 else D * (Kc M n - 1) + 1 := by
  have h1 : sm (fF M (rF M)) w ≤ sm (fun k => cn (fun c => inB M k c) n) w := sm_le (fun k hk => by
    unfold fF
    by_cases e : M 51 (5 * k) = 3
    · rw [if_pos e]
      obtain ⟨r1, r2⟩ := hr k hk e
      have := row_cn hC r1 (rF M k) r2
      have z : cn (fun c => inB M k c) n = cn (fun c => (List.range (rF M k)).any (fun j => tlC M j (lF M k) == c)) n := cn_eq (fun c _ => by
        unfold inB
        rw [decide_eq_true e, Bool.true_and])
      rw [z]
      exact this
    · rw [if_neg e]
      exact Nat.zero_le _)
  have h2 : ∀ n', n' ≤ n → sm (fun k => cn (fun c => inB M k c) n') w ≤ if Kc M n' = 0 then 0 else D * (Kc M n' - 1) + 1 := by
    intro n'
    induction n' with
    | zero =>
      intro _
      have z : ∀ w, sm (fun k => cn (fun c => inB M k c) 0) w = 0 := by
        intro w
        induction w with
        | zero => rfl
        | succ w ih => rw [sm_s, ih]; rfl
      rw [z]
      exact Nat.zero_le _
    | succ n' ih =>
      intro hn
      have i1 := ih (by omega)
      rw [swap (fun k c => inB M k c), Kc_s]
      by_cases e : M 49 (5 * n') = 2
      · rw [if_pos e, if_neg (by omega)]
        by_cases z : Kc M n' = 0
        · have := h0 n' (by omega) z
          rw [if_pos z] at i1
          rw [z]
          omega
        · have := hD n' (by omega)
          rw [if_neg z] at i1
          have e2 : D * (Kc M n' + 1 - 1) = D * (Kc M n' - 1) + D := by
            rw [show Kc M n' + 1 - 1 = (Kc M n' - 1) + 1 by omega, Nat.mul_add, Nat.mul_one]
          omega
      · have z : cn (fun k => inB M k n') w = 0 := by
          have : cn (fun k => inB M k n') w = cn (fun _ => false) w := cn_eq (fun k hk => by
            cases q : inB M k n' with
            | false => rfl
            | true =>
              obtain ⟨q1, j, q2, q3⟩ := inB_iff.mp q
              obtain ⟨r1, r2⟩ := hr k hk q1
              have := (tl_ok hC j _ r1 (by omega)).2.1
              rw [q3] at this
              exact absurd this e)
          rw [this]
          have z2 : ∀ w, cn (fun _ => false) w = 0 := by
            intro w
            induction w with
            | zero => rfl
            | succ w ih => rw [cn_s, ih, if_neg Bool.false_ne_true]
          exact z2 w
        rw [if_neg e, Nat.add_zero, z, Nat.add_zero]
        exact i1
  exact Nat.le_trans h1 (h2 n (Nat.le_refl _))
end SUMS
