/-! Run: new cells and rows, here and there. -/
def wc (M : Mm) (n : Nat) (x1 x2 x3 x4 x5 : Int) : Mm := up (up (up (up (up (up M 49 (5 * n) x1) 49 (5 * n + 1) x2) 49 (5 * n + 2) x3) 49 (5 * n + 3) x4) 49 (5 * n + 4) x5) 48 2 ((n : Int) + 1)
def wr (M : Mm) (m : Nat) (x1 x2 x3 x4 x5 x6 : Int) : Mm := up (up (up (up (up (up (up M 95 m x1) 96 m x2) 97 m x3) 98 m x4) 99 m x5) 100 m x6) 53 61 ((m : Int) + 1)
def pw (M : Mm) (w : Nat) (x1 x2 x3 x4 x5 : Int) : Mm := up (up (up (up (up (up M 51 (5 * w) x1) 51 (5 * w + 1) x2) 51 (5 * w + 2) x3) 51 (5 * w + 3) x4) 51 (5 * w + 4) x5) 47 6 ((w : Int) + 1)
def ptk (M : Mm) (t : Nat) (x1 x2 x3 x4 x5 x6 : Int) : Mm := up (up (up (up (up (up (up M 103 t x1) 104 t x2) 105 t x3) 106 t x4) 107 t x5) 108 t x6) 53 71 ((t : Int) + 1)
section NEW
variable {M : Mm} {x1 x2 x3 x4 x5 x6 : Int}
theorem f161_eq {n : Nat} (h : M 48 2 = (n : Int)) (hn : n < 602) : f161 M x1 x2 x3 x4 x5 = some ((n : Int), wc M n x1 x2 x3 x4 x5) := by
  unfold f161 wc
  rw [h, if_pos (by omega), if_pos (by omega), if_pos (by omega), if_pos (by omega), if_pos (by omega), if_pos (by unfold rg; omega), show Int.toNat ((n : Int) * 5) = 5 * n by omega, show Int.toNat ((n : Int) * 5 + 1) = 5 * n + 1 by omega, show Int.toNat ((n : Int) * 5 + 2) = 5 * n + 2 by omega, show Int.toNat ((n : Int) * 5 + 3) = 5 * n + 3 by omega, show Int.toNat ((n : Int) * 5 + 4) = 5 * n + 4 by omega]
theorem f247_eq {m : Nat} (h : M 53 61 = (m : Int)) (hm : m < 6000) : f247 M x1 x2 x3 x4 x5 x6 = some ((m : Int), wr M m x1 x2 x3 x4 x5 x6) := by
  unfold f247 wr
  rw [h, if_pos (by omega), if_pos (by unfold rg; omega), if_pos (by unfold rg; omega), Int.toNat_natCast, show (m : Int) + 1 - 1 = (m : Int) by omega]
theorem f166_eq {w : Nat} (h : M 47 6 = (w : Int)) (hw : w < 903) : f166 M x1 x2 x3 x4 x5 = some (0, pw M w x1 x2 x3 x4 x5) := by
  unfold f166 pw
  rw [h, if_pos (by omega), if_pos (by omega), if_pos (by omega), if_pos (by omega), if_pos (by omega), if_pos (by unfold rg; omega), show Int.toNat ((w : Int) * 5) = 5 * w by omega, show Int.toNat ((w : Int) * 5 + 1) = 5 * w + 1 by omega, show Int.toNat ((w : Int) * 5 + 2) = 5 * w + 2 by omega, show Int.toNat ((w : Int) * 5 + 3) = 5 * w + 3 by omega, show Int.toNat ((w : Int) * 5 + 4) = 5 * w + 4 by omega]
theorem f243_eq {t : Nat} (h : M 53 71 = (t : Int)) (ht : t < 2000) : f243 M x1 x2 x3 x4 x5 x6 = some (0, ptk M t x1 x2 x3 x4 x5 x6) := by
  unfold f243 ptk
  rw [h, if_pos (by omega), if_pos (by unfold rg; omega), Int.toNat_natCast]
theorem wc_row {n : Nat} : wc M n x1 x2 x3 x4 x5 49 (5 * n) = x1 ∧ wc M n x1 x2 x3 x4 x5 49 (5 * n + 1) = x2 ∧ wc M n x1 x2 x3 x4 x5 49 (5 * n + 2) = x3 ∧ wc M n x1 x2 x3 x4 x5 49 (5 * n + 3) = x4 ∧ wc M n x1 x2 x3 x4 x5 49 (5 * n + 4) = x5 := by
  unfold wc
  rw [up_cell (by decide)]
  refine ⟨?_, ?_, ?_, ?_, ?_⟩
  · rw [up_at (by omega), up_at (by omega), up_at (by omega), up_at (by omega), up_same]
  · rw [up_at (by omega), up_at (by omega), up_at (by omega), up_same]
  · rw [up_at (by omega), up_at (by omega), up_same]
  · rw [up_at (by omega), up_same]
  · rw [up_same]
theorem wc_old {n j : Nat} (hj : j < 5 * n) : wc M n x1 x2 x3 x4 x5 49 j = M 49 j := by
  unfold wc
  rw [up_cell (by decide), up_at (by omega), up_at (by omega), up_at (by omega), up_at (by omega), up_at (by omega)]
theorem wc_cell {n a : Nat} (h1 : a ≠ 48) (h2 : a ≠ 49) : wc M n x1 x2 x3 x4 x5 a = M a := by
  unfold wc
  rw [up_cell h1, up_cell h2, up_cell h2, up_cell h2, up_cell h2, up_cell h2]
theorem wc_2 {n : Nat} : wc M n x1 x2 x3 x4 x5 48 2 = ((n + 1 : Nat) : Int) := by
  unfold wc
  rw [up_same]
  omega
theorem wc_48 {n j : Nat} (h : j ≠ 2) : wc M n x1 x2 x3 x4 x5 48 j = M 48 j := by
  unfold wc
  rw [up_at h, up_cell (by decide), up_cell (by decide), up_cell (by decide), up_cell (by decide), up_cell (by decide)]
theorem wr_row {m : Nat} : wr M m x1 x2 x3 x4 x5 x6 95 m = x1 ∧ wr M m x1 x2 x3 x4 x5 x6 96 m = x2 ∧ wr M m x1 x2 x3 x4 x5 x6 97 m = x3 ∧ wr M m x1 x2 x3 x4 x5 x6 98 m = x4 ∧ wr M m x1 x2 x3 x4 x5 x6 99 m = x5 ∧ wr M m x1 x2 x3 x4 x5 x6 100 m = x6 := by
  unfold wr
  refine ⟨?_, ?_, ?_, ?_, ?_, ?_⟩
  · rw [up_cell (by decide), up_cell (by decide), up_cell (by decide), up_cell (by decide), up_cell (by decide), up_cell (by decide), up_same]
  · rw [up_cell (by decide), up_cell (by decide), up_cell (by decide), up_cell (by decide), up_cell (by decide), up_same]
  · rw [up_cell (by decide), up_cell (by decide), up_cell (by decide), up_cell (by decide), up_same]
  · rw [up_cell (by decide), up_cell (by decide), up_cell (by decide), up_same]
  · rw [up_cell (by decide), up_cell (by decide), up_same]
  · rw [up_cell (by decide), up_same]
theorem up_oth {a k a' k' : Nat} {x : Int} (h : a' ≠ a ∨ k' ≠ k) : up M a k x a' k' = M a' k' := by
  by_cases e : a' = a
  · subst e
    exact up_at (by omega)
  · rw [up_cell e]
theorem wr_old {m a y : Nat} (h : a ≠ 53) (hy : y ≠ m) : wr M m x1 x2 x3 x4 x5 x6 a y = M a y := by
  unfold wr
  rw [up_oth (Or.inl h), up_oth (Or.inr hy), up_oth (Or.inr hy), up_oth (Or.inr hy), up_oth (Or.inr hy), up_oth (Or.inr hy), up_oth (Or.inr hy)]
theorem wr_cell {m a : Nat} (h1 : a ≠ 53) (h2 : a < 95 ∨ 100 < a) : wr M m x1 x2 x3 x4 x5 x6 a = M a := by
  unfold wr
  rw [up_cell h1, up_cell (by omega), up_cell (by omega), up_cell (by omega), up_cell (by omega), up_cell (by omega), up_cell (by omega)]
theorem wr_61 {m : Nat} : wr M m x1 x2 x3 x4 x5 x6 53 61 = ((m + 1 : Nat) : Int) := by
  unfold wr
  rw [up_same]
  omega
theorem wr_53 {m j : Nat} (h : j ≠ 61) : wr M m x1 x2 x3 x4 x5 x6 53 j = M 53 j := by
  unfold wr
  rw [up_at h, up_cell (by decide), up_cell (by decide), up_cell (by decide), up_cell (by decide), up_cell (by decide), up_cell (by decide)]
theorem pw_row {n : Nat} : pw M n x1 x2 x3 x4 x5 51 (5 * n) = x1 ∧ pw M n x1 x2 x3 x4 x5 51 (5 * n + 1) = x2 ∧ pw M n x1 x2 x3 x4 x5 51 (5 * n + 2) = x3 ∧ pw M n x1 x2 x3 x4 x5 51 (5 * n + 3) = x4 ∧ pw M n x1 x2 x3 x4 x5 51 (5 * n + 4) = x5 := by
  unfold pw
  rw [up_cell (by decide)]
  refine ⟨?_, ?_, ?_, ?_, ?_⟩
  · rw [up_at (by omega), up_at (by omega), up_at (by omega), up_at (by omega), up_same]
  · rw [up_at (by omega), up_at (by omega), up_at (by omega), up_same]
  · rw [up_at (by omega), up_at (by omega), up_same]
  · rw [up_at (by omega), up_same]
  · rw [up_same]
theorem pw_old {n j : Nat} (hj : j < 5 * n) : pw M n x1 x2 x3 x4 x5 51 j = M 51 j := by
  unfold pw
  rw [up_cell (by decide), up_at (by omega), up_at (by omega), up_at (by omega), up_at (by omega), up_at (by omega)]
theorem pw_cell {n a : Nat} (h1 : a ≠ 47) (h2 : a ≠ 51) : pw M n x1 x2 x3 x4 x5 a = M a := by
  unfold pw
  rw [up_cell h1, up_cell h2, up_cell h2, up_cell h2, up_cell h2, up_cell h2]
theorem pw_6 {n : Nat} : pw M n x1 x2 x3 x4 x5 47 6 = ((n + 1 : Nat) : Int) := by
  unfold pw
  rw [up_same]
  omega
theorem pw_47 {n j : Nat} (h : j ≠ 6) : pw M n x1 x2 x3 x4 x5 47 j = M 47 j := by
  unfold pw
  rw [up_at h, up_cell (by decide), up_cell (by decide), up_cell (by decide), up_cell (by decide), up_cell (by decide)]
theorem ptk_row {m : Nat} : ptk M m x1 x2 x3 x4 x5 x6 103 m = x1 ∧ ptk M m x1 x2 x3 x4 x5 x6 104 m = x2 ∧ ptk M m x1 x2 x3 x4 x5 x6 105 m = x3 ∧ ptk M m x1 x2 x3 x4 x5 x6 106 m = x4 ∧ ptk M m x1 x2 x3 x4 x5 x6 107 m = x5 ∧ ptk M m x1 x2 x3 x4 x5 x6 108 m = x6 := by
  unfold ptk
  refine ⟨?_, ?_, ?_, ?_, ?_, ?_⟩
  · rw [up_cell (by decide), up_cell (by decide), up_cell (by decide), up_cell (by decide), up_cell (by decide), up_cell (by decide), up_same]
  · rw [up_cell (by decide), up_cell (by decide), up_cell (by decide), up_cell (by decide), up_cell (by decide), up_same]
  · rw [up_cell (by decide), up_cell (by decide), up_cell (by decide), up_cell (by decide), up_same]
  · rw [up_cell (by decide), up_cell (by decide), up_cell (by decide), up_same]
  · rw [up_cell (by decide), up_cell (by decide), up_same]
  · rw [up_cell (by decide), up_same]
theorem ptk_old {m a y : Nat} (h : a ≠ 53) (hy : y ≠ m) : ptk M m x1 x2 x3 x4 x5 x6 a y = M a y := by
  unfold ptk
  rw [up_oth (Or.inl h), up_oth (Or.inr hy), up_oth (Or.inr hy), up_oth (Or.inr hy), up_oth (Or.inr hy), up_oth (Or.inr hy), up_oth (Or.inr hy)]
theorem ptk_cell {m a : Nat} (h1 : a ≠ 53) (h2 : a < 103 ∨ 108 < a) : ptk M m x1 x2 x3 x4 x5 x6 a = M a := by
  unfold ptk
  rw [up_cell h1, up_cell (by omega), up_cell (by omega), up_cell (by omega), up_cell (by omega), up_cell (by omega), up_cell (by omega)]
theorem ptk_71 {m : Nat} : ptk M m x1 x2 x3 x4 x5 x6 53 71 = ((m + 1 : Nat) : Int) := by
  unfold ptk
  rw [up_same]
  omega
theorem ptk_53 {m j : Nat} (h : j ≠ 71) : ptk M m x1 x2 x3 x4 x5 x6 53 j = M 53 j := by
  unfold ptk
  rw [up_at h, up_cell (by decide), up_cell (by decide), up_cell (by decide), up_cell (by decide), up_cell (by decide), up_cell (by decide)]
end NEW
