/-! Run: how many rows, cells, steps; the loops. -/
def wtR (M : Mm) : Nat → Nat
  | 0 => 0
  | k + 1 => wtR M k + (if M 51 (5 * k) = 0 then 2 else 1)
def crR (M : Mm) : Nat → Nat
  | 0 => 0
  | k + 1 => crR M k + (if M 51 (5 * k) = 3 then 0 else 1)
theorem wtR_fr {M M' : Mm} : ∀ w, (∀ j, j < 5 * w → M' 51 j = M 51 j) → wtR M' w = wtR M w := by
  intro w
  induction w with
  | zero => intro _; rfl
  | succ k ih =>
    intro h
    show wtR M' k + (if M' 51 (5 * k) = 0 then 2 else 1) = wtR M k + (if M 51 (5 * k) = 0 then 2 else 1)
    rw [ih (fun j hj => h j (by omega)), h _ (by omega)]
theorem crR_fr {M M' : Mm} : ∀ w, (∀ j, j < 5 * w → M' 51 j = M 51 j) → crR M' w = crR M w := by
  intro w
  induction w with
  | zero => intro _; rfl
  | succ k ih =>
    intro h
    show crR M' k + (if M' 51 (5 * k) = 3 then 0 else 1) = crR M k + (if M 51 (5 * k) = 3 then 0 else 1)
    rw [ih (fun j hj => h j (by omega)), h _ (by omega)]
theorem wtR_ge {M : Mm} : ∀ w, w ≤ wtR M w := by
  intro w
  induction w with
  | zero => exact Nat.le_refl _
  | succ k ih =>
    show k + 1 ≤ wtR M k + (if M 51 (5 * k) = 0 then 2 else 1)
    split <;> omega
theorem wtR_s {M : Mm} {w : Nat} : wtR M (w + 1) = wtR M w + (if M 51 (5 * w) = 0 then 2 else 1) := rfl
theorem crR_s {M : Mm} {w : Nat} : crR M (w + 1) = crR M w + (if M 51 (5 * w) = 3 then 0 else 1) := rfl
/-- CONS cells -/
def Kc (M : Mm) (n : Nat) : Nat := cn (fun i => decide (M 49 (5 * i) = 2)) n
theorem Kc_fr {M M' : Mm} {n : Nat} (h : ∀ j, j < 5 * n → M' 49 j = M 49 j) : Kc M' n = Kc M n := cn_eq (fun x hx => by rw [h _ (by omega)])
theorem Kc_s {M : Mm} {n : Nat} : Kc M (n + 1) = Kc M n + (if M 49 (5 * n) = 2 then 1 else 0) := by
  show Kc M n + (if decide (M 49 (5 * n) = 2) = true then 1 else 0) = _
  by_cases e : M 49 (5 * n) = 2
  · rw [if_pos e, if_pos (by simp only [e, decide_true])]
  · rw [if_neg e, if_neg (by simp only [e, decide_false]; exact Bool.false_ne_true)]
theorem Kc_mono {M : Mm} : ∀ {a b : Nat}, a ≤ b → Kc M a ≤ Kc M b := by
  intro a b
  induction b with
  | zero => intro h; obtain rfl : a = 0 := by omega
            exact Nat.le_refl _
  | succ b ih =>
    intro h
    by_cases e : a = b + 1
    · subst e; exact Nat.le_refl _
    · have := ih (by omega)
      rw [Kc_s]
      omega
/-- a list is no longer than there are CONS cells -/
theorem lenC_K {M0 : Mm} {N : Nat} {G : Nat → UGt} {Mc Mr : Mm} {φ : Nat → Nat} {τ : Nat → Ty} {κ : Nat → Nat × Nat × Nat} {Es : Nat → Int → Ty} {n m nf ne : Nat} (hC : ∀ i, i < n → COK M0 N G Mc Mr φ τ κ Es m nf ne i) : ∀ (b i : Nat), i < b → i < n → lenC Mc i ≤ (Kc Mc (i + 1) : Int) := by
  intro b
  induction b with
  | zero => intro i h; omega
  | succ b ih =>
    intro i hb hi
    by_cases z : Mc 49 (5 * i) = 2
    · obtain ⟨_, _, x, t, _, c2, _, _, _, _, _, _, c9⟩ := COK_2 (hC i hi) z
      have h1 := ih t (by omega) (by omega)
      have h2 := Kc_mono (M := Mc) (a := t + 1) (b := i) (by omega)
      unfold lenC
      rw [if_pos z, c9, Kc_s, if_pos z]
      omega
    · unfold lenC
      rw [if_neg z]
      omega
/-- all that is bounded -/
def Bd (M : Mm) (n nf ne w s lim t : Nat) : Prop := n + crR M w ≤ 2 * s ∧ nf ≤ s + 1 ∧ ne ≤ s + 1 ∧ t + wtR M w ≤ 3 * s ∧ s ≤ lim ∧ Kc M n + crR M w ≤ s
section LOOPS
def LpC (x1 x2 : Int) (Mc : Mm) (t : Nat) (v : Int) (Mc' : Mm) : Prop := ∀ f, 1209 ≤ f + t → l151 f 52 Mc x1 x2 (t : Int) = some (v, Mc')
def LpR (x1 x2 : Int) (Mr : Mm) (v : Int) (Mr' : Mm) (K : Nat) : Prop := ∀ f, K ≤ f → l241 f 123 Mr x1 x2 1 0 = some (v, Mr')
variable {x1 x2 v : Int} {Mc Mc1 Mc' Mr Mr1 Mr' : Mm} {t K : Nat}
theorem LpC_turn (h156 : f156 Mc = some 1) (ht : t < 1208) (hc : (Mc 47 10 = -1 ∧ f174 Mc = some (0, Mc1)) ∨ (Mc 47 10 ≠ -1 ∧ f158 Mc = some (0, Mc1))) (h : LpC x1 x2 Mc1 (t + 1) v Mc') : LpC x1 x2 Mc t v Mc' := by
  intro f hf
  obtain ⟨f, rfl⟩ : ∃ f', f = f' + 1 := ⟨f - 1, by omega⟩
  have r := h f (by omega)
  rw [l151, if_neg (by omega), h156, bs_, if_neg (by decide)]
  rcases hc with ⟨a, b⟩ | ⟨a, b⟩
  · rw [if_pos a, b, bs_, if_pos (by unfold rg; omega)]
    exact r
  · rw [if_neg a, b, bs_, if_pos (by unfold rg; omega)]
    exact r
theorem LpR_turn (h71 : 0 < Mr 53 71) (h60 : Mr 53 60 = 0) (hr : f244 Mr = some (0, Mr1)) (h : LpR x1 x2 Mr1 v Mr' K) : LpR x1 x2 Mr v Mr' (K + 1) := by
  intro f hf
  obtain ⟨f, rfl⟩ : ∃ f', f = f' + 1 := ⟨f - 1, by omega⟩
  rw [l241, if_neg (by omega), if_neg (fun q => q h60), hr, bs_]
  exact h f (by omega)
theorem LpC_stop (h9 : Mc 47 9 = 1) (ht : t ≤ 1208) : LpC x1 x2 Mc t (-1) Mc := by
  intro f hf
  obtain ⟨f, rfl⟩ : ∃ f', f = f' + 1 := ⟨f - 1, by omega⟩
  rw [l151]
  by_cases e : (1208 : Int) ≤ (t : Int)
  · rw [if_pos e, if_pos (by omega)]
  · rw [if_neg e]
    unfold f156
    rw [if_pos (by omega), bs_, if_pos rfl, if_pos (by omega)]
theorem LpR_stop (h60 : Mr 53 60 = 1) : LpR x1 x2 Mr (-1) Mr 2 := by
  intro f hf
  obtain ⟨f, rfl⟩ : ∃ f', f = f' + 2 := ⟨f - 2, by omega⟩
  rw [l241, if_pos (show ¬ Mr 53 60 = 0 by omega), l241, if_neg (show ¬ Mr 53 60 = 0 by omega)]
  split <;> rfl
theorem f156_1 {n nf : Nat} (h9 : Mc 47 9 = 0) (hn : Mc 48 2 = (n : Int)) (hf : Mc 48 3 = (nf : Int)) (bn : n < 602) (bf : nf < 302) (h : Mc 47 10 ≠ -1 ∨ 0 < Mc 47 6) : f156 Mc = some 1 := by
  unfold f156 f157
  rw [if_neg (fun q => q h9), hn, hf, if_neg (by omega), if_neg (by omega), bs_, if_neg (by decide)]
  by_cases e : Mc 47 10 = -1
  · rw [if_neg (fun q => q e), if_neg (by omega)]
  · rw [if_pos e]
end LOOPS
