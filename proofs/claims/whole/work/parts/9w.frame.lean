/-! Run: new frames. -/
theorem l99_in {hi : Nat} {x1 x3 : Int} (h : hi ≤ 2416) (d : Nat) : ∀ (y f : Nat) (M : Mm), y + d = hi → d < f → ∃ M' : Mm, l99_50 f 10 M x1 (hi : Int) x3 (y : Int) = some (0, M') ∧ (∀ a, a ≠ 50 → M' a = M a) ∧ (∀ j, (j < y ∨ hi ≤ j) → M' 50 j = M 50 j) ∧ ∀ j, y ≤ j → j < hi → M' 50 j = x3 := by
  induction d with
  | zero =>
    intro y f M hy hf
    obtain ⟨f, rfl⟩ : ∃ f', f = f' + 1 := ⟨f - 1, by omega⟩
    exact ⟨M, by rw [l99_50, if_pos (by omega)], fun _ _ => rfl, fun _ _ => rfl, fun j h1 h2 => by omega⟩
  | succ d ih =>
    intro y f M hy hf
    obtain ⟨f, rfl⟩ : ∃ f', f = f' + 1 := ⟨f - 1, by omega⟩
    obtain ⟨M', r1, r2, r3, r4⟩ := ih (y + 1) f (up M 50 y x3) (by omega) (by omega)
    refine ⟨M', ?_, fun a ha => by rw [r2 a ha, up_cell ha], fun j hj => by rw [r3 j (by omega), up_at (by omega)], fun j h1 h2 => ?_⟩
    · rw [l99_50, if_neg (by omega), if_pos (by omega), if_pos (by unfold rg; omega), Int.toNat_natCast]
      exact r1
    · by_cases e : j = y
      · subst e
        rw [r3 j (by omega), up_same]
      · exact r4 j (by omega) h2
theorem f154_ok {M : Mm} {nf : Nat} (h : M 48 3 = (nf : Int)) (hn : nf < 302) : ∃ M' : Mm, f154 M = some ((nf : Int), M') ∧ (∀ a, a ≠ 48 → a ≠ 50 → M' a = M a) ∧ (∀ j, j ≠ 3 → M' 48 j = M 48 j) ∧ M' 48 3 = ((nf + 1 : Nat) : Int) ∧ (∀ j, (j < 8 * nf ∨ 8 * nf + 8 ≤ j) → M' 50 j = M 50 j) ∧ ∀ v, v < 8 → M' 50 (8 * nf + v) = 2 := by
  obtain ⟨M1, r1, r2, r3, r4⟩ := l99_in (hi := 8 * nf + 8) (x1 := ((8 * nf : Nat) : Int)) (x3 := 2) (by omega) 8 (8 * nf) FU M (by omega) (by unfold FU; omega)
  have e1 : M1 48 3 = (nf : Int) := by rw [r2 48 (by decide)]; exact h
  refine ⟨up M1 48 3 ((nf : Int) + 1), ?_, fun a h1 h2 => by rw [up_cell h1, r2 a h2], fun j hj => by rw [up_at hj, r2 48 (by decide)], by rw [up_same]; omega, fun j hj => by rw [up_cell (by decide), r3 j hj], fun v hv => by rw [up_cell (by decide)]; exact r4 _ (by omega) (by omega)⟩
  have e2 : f99_50 M ((8 * nf : Nat) : Int) ((8 * nf + 8 : Nat) : Int) 2 = some (0, M1) := by
    unfold f99_50 f100
    rw [if_pos (by omega), if_pos (by omega), if_pos (by omega), bs_]
    exact r1
  unfold f154
  rw [h, if_pos (by unfold rg; omega), if_pos (by unfold rg; omega), show (nf : Int) * 8 = ((8 * nf : Nat) : Int) by omega, show ((8 * nf : Nat) : Int) + 8 = ((8 * nf + 8 : Nat) : Int) by omega, e2, bs_]
  dsimp only
  rw [if_pos (by rw [e1]; unfold rg; omega), e1]
theorem av_fr {M M' : Mm} {x : Int} {f : Nat} (hx : x % 16 < 12) (h : ∀ v, v < 8 → M' 50 (8 * f + v) = M 50 (8 * f + v)) : av M' x f = av M x f := by
  unfold av
  by_cases z : 4 ≤ x % 16
  · rw [if_pos z, if_pos z, h _ (by omega)]
  · rw [if_neg z, if_neg z]
/-- the frame of a definition that is used -/
theorem l173_in {Ma : Mm} {g U f0 fr : Nat} {B : Int} (hg : g < 20) (hU : U < 4440) (hf0 : f0 < fr) (hfr : fr < 302) (hB : 2 ≤ B) (hB2 : B ≤ 1000000000) (hpl : ∀ v, v < 8 → 0 ≤ Ma 23 (8 * U + v) ∧ Ma 23 (8 * U + v) < 4000000 ∧ Ma 23 (8 * U + v) % 16 < 12) (hfb : ∀ v : Nat, v < 8 → 0 ≤ Ma 50 (8 * f0 + v) ∧ Ma 50 (8 * f0 + v) ≤ B) (h11 : Ma 47 11 = (U : Int)) (h13 : Ma 47 13 = (f0 : Int)) (d : Nat) : ∀ (x f : Nat) (M : Mm), x + d = 8 → d < f → (∀ a, a ≠ 50 → M a = Ma a) → (∀ j, (j < 8 * fr ∨ 8 * fr + 8 ≤ j) → M 50 j = Ma 50 j) → (∀ v, v < x → M 50 (8 * fr + v) = av Ma (Ma 23 (8 * U + v)) f0) →
    ∃ M' : Mm, l173 f 10 M (g : Int) (fr : Int) (x : Int) = some (0, up (up (up (up M' 47 10 (Ma 18 g)) 47 11 ((60 * g : Nat) : Int)) 47 12 (-1)) 47 13 (fr : Int)) ∧ (∀ a, a ≠ 50 → M' a = Ma a) ∧ (∀ j, (j < 8 * fr ∨ 8 * fr + 8 ≤ j) → M' 50 j = Ma 50 j) ∧ ∀ v, v < 8 → M' 50 (8 * fr + v) = av Ma (Ma 23 (8 * U + v)) f0 := by
  induction d with
  | zero =>
    intro x f M hx hf e1 e2 e3
    obtain ⟨f, rfl⟩ : ∃ f', f = f' + 1 := ⟨f - 1, by omega⟩
    refine ⟨M, ?_, e1, e2, fun v hv => e3 v (by omega)⟩
    have q1 : f153 M (g : Int) = some (Ma 18 g) := by
      unfold f153
      rw [if_pos (by omega), Int.toNat_natCast, e1 18 (by decide)]
    have q2 : f142 M (g : Int) = some ((60 * g : Nat) : Int) := by
      unfold f142
      rw [if_pos (by unfold rg; omega), show (g : Int) * 60 = ((60 * g : Nat) : Int) by omega]
    rw [l173, if_pos (by omega), q1, bs_, q2, bs_]
    unfold f155
    rw [bs_]
  | succ d ih =>
    intro x f M hx hf e1 e2 e3
    obtain ⟨f, rfl⟩ : ∃ f', f = f' + 1 := ⟨f - 1, by omega⟩
    obtain ⟨p1, p2, p3⟩ := hpl x (by omega)
    have e23 := e1 23 (by decide)
    have row : ∀ v, v < 8 → M 50 (8 * f0 + v) = Ma 50 (8 * f0 + v) := fun v hv => e2 _ (by omega)
    obtain ⟨a1, a2, a3⟩ := act_run (M := M) (i := 8 * U + x) (f := f0) (x1 := (U : Int)) (x2 := (x : Int)) (B := B) (by omega) (by omega) (by rw [e23]; exact p1) (by rw [e23]; exact p2) (by rw [e23]; exact p3) (by omega) hB2 (fun v hv => by rw [row v hv]; exact hfb v hv) hB
    have ea : av M (M 23 (8 * U + x)) f0 = av Ma (Ma 23 (8 * U + x)) f0 := by rw [e23]; exact av_fr p3 row
    rw [ea] at a1
    obtain ⟨M', r1, r2⟩ := ih (x + 1) f (up M 50 (8 * fr + x) (av Ma (Ma 23 (8 * U + x)) f0)) (by omega) (by omega) (fun a ha => by rw [up_cell ha]; exact e1 a ha) (fun j hj => by rw [up_at (by omega)]; exact e2 j hj) (fun v hv => by
      by_cases z : v = x
      · subst z; rw [up_same]
      · rw [up_at (by omega)]; exact e3 v (by omega))
    refine ⟨M', ?_, r2⟩
    have q3 : f172 M (fr : Int) (x : Int) (av Ma (Ma 23 (8 * U + x)) f0) = some (0, up M 50 (8 * fr + x) (av Ma (Ma 23 (8 * U + x)) f0)) := by
      unfold f172
      rw [if_pos (by omega), show Int.toNat ((fr : Int) * 8 + (x : Int)) = 8 * fr + x by omega]
    have q0 : f168 M = some 0 := rfl
    rw [l173, if_neg (by omega), q0, bs_, e1 47 (by decide), h11, h13, a1, bs_, q3, bs_]
    dsimp only
    rw [if_pos (by unfold rg; omega)]
    exact r1
