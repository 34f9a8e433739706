/-! Run: a use of a method, here. -/
theorem f167_ok {M : Mm} {nf c mm sh : Nat} {z : Int} (hact : f169_50 M (M 47 11) 0 (M 47 13) = some z) (hz : 0 ≤ z ∧ z ≤ 1000000000) (hsh : (z = 0 ∧ sh = 0) ∨ (z = 1 ∧ sh = 1) ∨ (4 ≤ z ∧ sh = 2)) (hc : c < 6) (hm : mm < 3) (hi : M 9 (3 * c + sh) = 1) (h48 : M 48 3 = (nf : Int)) (hnf : nf < 302) : ∃ C1 : Mm, f167 M (c : Int) (mm : Int) = some (0, up (up (up (up (up C1 50 (8 * nf) (if z < 4 then 2 else z - 4)) 47 10 (M 11 (9 * c + 3 * sh + mm))) 47 11 ((60 * (20 + (9 * c + 3 * sh + mm)) : Nat) : Int)) 47 12 (-1)) 47 13 (nf : Int)) ∧ (∀ a, a ≠ 48 → a ≠ 50 → C1 a = M a) ∧ (∀ j, j ≠ 3 → C1 48 j = M 48 j) ∧ C1 48 3 = ((nf + 1 : Nat) : Int) ∧ (∀ j, (j < 8 * nf ∨ 8 * nf + 8 ≤ j) → C1 50 j = M 50 j) ∧ ∀ v, v < 8 → C1 50 (8 * nf + v) = 2 := by
  obtain ⟨C1, y1, y2, y3, y4, y5, y6⟩ := f154_ok h48 hnf
  refine ⟨C1, ?_, y2, y3, y4, y5, y6⟩
  have e0 : f168 M = some 0 := rfl
  have e1 : f170 M z = some (sh : Int) := by
    unfold f170
    rcases hsh with ⟨h1, h2⟩ | ⟨h1, h2⟩ | ⟨h1, h2⟩
    · rw [if_pos (by omega), if_pos (by omega), h1, h2]; rfl
    · rw [if_pos (by omega), if_pos (by omega), h1, h2]; rfl
    · rw [if_neg (by omega), h2]; rfl
  have e2 : f34 M (c : Int) (sh : Int) = some 1 := by
    have i : Int.toNat ((c : Int) * 3 + (sh : Int)) = 3 * c + sh := by omega
    unfold f34
    rw [if_pos (by omega), i, if_pos (Or.inr hi), hi]
  have e3 : f171 C1 z = some (if z < 4 then 2 else z - 4) := by
    unfold f171
    by_cases q : z < 4
    · rw [if_pos q, if_pos q]
    · rw [if_neg q, if_neg q, if_pos (by unfold rg; omega)]
  have e4 : ∀ x : Int, f172 C1 (nf : Int) 0 x = some (0, up C1 50 (8 * nf) x) := fun x => by
    unfold f172
    rw [if_pos (by omega), show Int.toNat ((nf : Int) * 8 + 0) = 8 * nf by omega]
  have e5 : ∀ x : Int, f64 (up C1 50 (8 * nf) x) (c : Int) (sh : Int) (mm : Int) = some (M 11 (9 * c + 3 * sh + mm)) := fun x => by
    unfold f64
    rw [if_pos (by omega), show Int.toNat (((c : Int) * 3 + (sh : Int)) * 3 + (mm : Int)) = 9 * c + 3 * sh + mm by omega, up_cell (by decide), y2 11 (by decide) (by decide)]
  have e6 : ∀ x : Int, f119 (up C1 50 (8 * nf) x) (c : Int) (sh : Int) (mm : Int) = some ((60 * (20 + (9 * c + 3 * sh + mm)) : Nat) : Int) := fun x => by
    unfold f119
    rw [if_pos (by unfold rg; omega), show ((20 : Int) + ((c : Int) * 3 + (sh : Int)) * 3 + (mm : Int)) * 60 = ((60 * (20 + (9 * c + 3 * sh + mm)) : Nat) : Int) by omega]
  unfold f167
  rw [e0, bs_, hact, bs_, e1, bs_, if_neg (by omega), e2, bs_, if_pos (by decide), y1, bs_]
  dsimp only
  rw [e3, bs_, e4, bs_]
  dsimp only
  rw [e5, bs_, e6, bs_]
  unfold f155
  rw [bs_]
