/-! Define, whole. -/
section DEFC
variable {Mc Mr : Mm} {S : Nat → Nat → Prop} {n n' k : Nat} {cs : List (Nat × Nat)} {ρ ρ' : Nat → Nat} {T : Nat → Ty}
theorem vlt_seen {c : Nat} (F : Fg Mc n ρ) (A : Acy Mc ρ n) (tg : TyG Mc n ρ T) (sn : Sn Mc ρ n c) (h5 : ∀ y, y < n → Mc 26 y ≠ 5) {m0 : Int} (h8 : ∀ y, y < n → Mc 26 y = 2 → Mc 31 y < m0) (hc : c < n) : vlt m0 (T c) := by
  obtain ⟨r, hr, hx⟩ := A
  have key : ∀ (b x : Nat), r x ≤ b → x < n → ρ x = x → Mc 31 x ≠ -2 → vlt m0 (T x) := by
    intro b
    induction b with
    | zero =>
      intro x hb hn hq h2
      exact one x hn hq h2 (fun m z => by have := hx x m hn hq z; omega)
    | succ b ih =>
      intro x hb hn hq h2
      refine one x hn hq h2 (fun m z => ?_)
      have h3 := hx x m hn hq z
      have h4 := sn.2.1 x m hn hq h2 z
      have hm : m < n ∧ ρ m = m := by
        have w := F.1.2.2.2 x hn
        rcases mu_iff.mp z with ⟨z1, z2⟩ | ⟨z1, z2⟩
        · have w1 := w.2.1 z1
          rw [← z2]
          exact F.2.2 _ (by omega)
        · have w1 := w.2.2.2.1 z1
          rw [← z2]
          exact F.2.2 _ (by omega)
      exact ih m (by omega) hm.1 hm.2 h4
  have rc := F.2.2 c hc
  rw [tg.1 c (ρ c) rc.2.symm]
  exact key (r (ρ c)) (ρ c) (Nat.le_refl _) rc.1 rc.2 sn.1
where
  one : ∀ x, x < n → ρ x = x → Mc 31 x ≠ -2 → (∀ m, mu Mc ρ x m ≠ 0 → vlt m0 (T m)) → vlt m0 (T x) := by
    intro x hx hq h2 hm
    obtain ⟨g0, g1, g2, g3, g4, g5⟩ := tg.2 x hx
    rw [hq] at g0 g1 g2 g3 g4 g5
    have w := F.1.2.2.2 x hx
    have e27 : (3 ≤ Mc 26 x ∧ Mc 26 x ≤ 4) → vlt m0 (T (Mc 27 x).toNat) := fun z => by
      have w1 := w.2.1 z
      have r1 := F.2.2 (Mc 27 x).toNat (by omega)
      rw [tg.1 _ _ r1.2.symm]
      exact hm _ (mu_iff.mpr (Or.inl ⟨z, rfl⟩))
    have e28 : Mc 26 x = 4 → vlt m0 (T (Mc 28 x).toNat) := fun z => by
      have w1 := w.2.2.2.1 z
      have r1 := F.2.2 (Mc 28 x).toNat (by omega)
      rw [tg.1 _ _ r1.2.symm]
      exact hm _ (mu_iff.mpr (Or.inr ⟨z, rfl⟩))
    by_cases k0 : Mc 26 x = 0
    · rw [g0 k0]; exact trivial
    · by_cases k1 : Mc 26 x = 1
      · rw [g1 k1]; exact trivial
      · by_cases k2 : Mc 26 x = 2
        · rw [g2 k2]
          have z1 := sn.2.2 x hx k2 h2
          have z2 := h8 x hx k2
          refine ⟨?_, ?_⟩
          · unfold lb; rw [if_neg (by omega)]; exact z1
          · unfold lb; rw [if_neg (by omega)]; exact z2
        · by_cases k3 : Mc 26 x = 3
          · rw [g3 k3]; exact e27 (by omega)
          · have k4 : Mc 26 x = 4 := by have := h5 x hx; omega
            rw [g4 k4]; exact ⟨e27 (by omega), e28 k4⟩
end DEFC
