/-! Run: what a type comes to there (resolve). -/
theorem pln_F {a b : Ty} (h : pln (.append a b)) : False := by
  rcases h with h | h | ⟨x, y, h⟩ <;> cases h
/-- the environments there: what is put for each variable -/
def EW (Mr : Mm) (NT : Nat) (Es : Nat → Int → Ty) (ne : Nat) : Prop := ∀ η, η < ne → ∀ v : Int, Es η v = tF tI tI ∨ ∃ w t η' : Nat, v = (w : Int) ∧ w < 8 ∧ Mr 101 (8 * η + w) = (t : Int) ∧ Mr 102 (8 * η + w) = (η' : Int) ∧ t < NT ∧ η' < η ∧ Es η v = sub (Es η') (trm Mr t)
/-- a term that is no variable -/
def hdT (Mr : Mm) (t : Nat) : Prop := (Mr 73 t = 0 ∧ trm Mr t = tI) ∨ (Mr 73 t = 1 ∧ trm Mr t = tB) ∨ (Mr 73 t = 3 ∧ ∃ a : Nat, Mr 74 t = (a : Int) ∧ a < t ∧ trm Mr t = tL (trm Mr a))
theorem res_in {Mr : Mm} {NT ne : Nat} {Es : Nat → Int → Ty} (hw : WTm Mr NT) (hN : NT ≤ 200000) (hne : ne ≤ 500) (ew : EW Mr NT Es ne) {x1 x2 : Int} : ∀ (b f : Nat) (M : Mm) (t η : Nat), (∀ a, a ≠ 53 → M a = Mr a) → M 53 79 = (t : Int) → M 53 80 = (η : Int) → η < b → b ≤ f → η < ne → t < NT → pln (sub (Es η) (trm Mr t)) →
    ∃ (M' : Mm) (t' η' : Nat), l248 f 10 M x1 x2 = some (0, M') ∧ (∀ a, a ≠ 53 → M' a = M a) ∧ (∀ j, j ≠ 79 → j ≠ 80 → M' 53 j = M 53 j) ∧ M' 53 79 = (t' : Int) ∧ M' 53 80 = (η' : Int) ∧ t' < NT ∧ η' ≤ η ∧ sub (Es η') (trm Mr t') = sub (Es η) (trm Mr t) ∧ hdT Mr t' := by
  intro b
  induction b with
  | zero => intro f M t η _ _ _ h; omega
  | succ b ih =>
    intro f M t η hM h79 h80 hb hf hη ht hp
    obtain ⟨f, rfl⟩ : ∃ f', f = f' + 1 := ⟨f - 1, by omega⟩
    obtain ⟨k1, k2, k3⟩ := hw t ht
    have e73 : M 73 = Mr 73 := hM 73 (by decide)
    have e74 : M 74 = Mr 74 := hM 74 (by decide)
    have e1 := hM 101 (by decide)
    have e2 := hM 102 (by decide)
    -- a variable
    have var : ∀ v : Int, trm Mr t = tV v → ∃ w : Nat, v = (w : Int) ∧ w < 8 ∧ ∃ (M' : Mm) (t' η' : Nat), l248 f 10 (up (up M 53 79 (M 101 (8 * η + w))) 53 80 (M 102 (8 * η + w))) x1 x2 = some (0, M') ∧ (∀ a, a ≠ 53 → M' a = M a) ∧ (∀ j, j ≠ 79 → j ≠ 80 → M' 53 j = M 53 j) ∧ M' 53 79 = (t' : Int) ∧ M' 53 80 = (η' : Int) ∧ t' < NT ∧ η' ≤ η ∧ sub (Es η') (trm Mr t') = sub (Es η) (trm Mr t) ∧ hdT Mr t' := fun v hv => by
      have hs : sub (Es η) (trm Mr t) = Es η v := by rw [hv]; rfl
      rw [hs] at hp
      rcases ew η hη v with z | ⟨w, t1, η1, z1, z2, z3, z4, z5, z6, z7⟩
      · rw [z] at hp
        exact False.elim (pln_F hp)
      · refine ⟨w, z1, z2, ?_⟩
        rw [z7] at hp
        obtain ⟨M', t', η', r1, r2, r3, r4, r5, r6, r7, r8, r9⟩ := ih f (up (up M 53 79 (M 101 (8 * η + w))) 53 80 (M 102 (8 * η + w))) t1 η1 (fun a ha => by rw [up_cell ha, up_cell ha]; exact hM a ha) (by rw [up_at (by decide), up_same, e1, z3]) (by rw [up_same, e2, z4]) (by omega) (by omega) (by omega) z5 hp
        refine ⟨M', t', η', r1, fun a ha => by rw [r2 a ha, up_cell ha, up_cell ha], fun j h1 h2 => by rw [r3 j h1 h2, up_at h2, up_at h1], r4, r5, r6, by omega, by rw [r8, hs, z7], r9⟩
    rw [l248, h79, h80, Int.toNat_natCast, if_pos (by omega), e73, e74]
    have stop : Mr 73 t ≠ 2 → Mr 73 t ≠ 5 → hdT Mr t → ∃ (M' : Mm) (t' η' : Nat), some ((0 : Int), M) = some (0, M') ∧ (∀ a, a ≠ 53 → M' a = M a) ∧ (∀ j, j ≠ 79 → j ≠ 80 → M' 53 j = M 53 j) ∧ M' 53 79 = (t' : Int) ∧ M' 53 80 = (η' : Int) ∧ t' < NT ∧ η' ≤ η ∧ sub (Es η') (trm Mr t') = sub (Es η) (trm Mr t) ∧ hdT Mr t' := fun _ _ hd => ⟨M, t, η, rfl, fun _ _ => rfl, fun _ _ _ => rfl, h79, h80, ht, Nat.le_refl _, rfl, hd⟩
    have z : Mr 73 t = 0 ∨ Mr 73 t = 1 ∨ Mr 73 t = 2 ∨ Mr 73 t = 3 ∨ Mr 73 t = 4 ∨ Mr 73 t = 5 := by omega
    rcases z with z | z | z | z | z | z
    · rw [if_neg (by omega), if_pos (by omega)]
      exact stop (by omega) (by omega) (Or.inl ⟨z, by unfold trm tmT; rw [if_pos z]⟩)
    · rw [if_neg (by omega), if_pos (by omega)]
      exact stop (by omega) (by omega) (Or.inr (Or.inl ⟨z, by unfold trm tmT; rw [if_neg (by omega), if_pos z]⟩))
    · obtain ⟨w, v1, v2, v3⟩ := var (Mr 74 t) (by unfold trm tmT; rw [if_neg (by omega), if_neg (by omega), if_pos z])
      rw [if_pos z, if_pos (by omega), v1, if_pos (by omega), show Int.toNat (8 * (η : Int) + (w : Int)) = 8 * η + w by omega]
      exact v3
    · rw [if_neg (by omega), if_pos (by omega)]
      have c := k2 (by omega)
      obtain ⟨a, ha⟩ : ∃ a : Nat, Mr 74 t = (a : Int) := ⟨(Mr 74 t).toNat, by omega⟩
      exact stop (by omega) (by omega) (Or.inr (Or.inr ⟨z, a, ha, by omega, trm_3 hw ht z ha⟩))
    · have c := k2 (by omega)
      have c2 := k3 z
      obtain ⟨a, ha⟩ : ∃ a : Nat, Mr 74 t = (a : Int) := ⟨(Mr 74 t).toNat, by omega⟩
      obtain ⟨b', hb'⟩ : ∃ a : Nat, Mr 75 t = (a : Int) := ⟨(Mr 75 t).toNat, by omega⟩
      rw [trm_4 hw ht z ha hb'] at hp
      exact False.elim (pln_F hp)
    · obtain ⟨w, v1, v2, v3⟩ := var 0 (by unfold trm tmT; rw [if_neg (by omega), if_neg (by omega), if_neg (by omega), if_neg (by omega), if_neg (by omega)])
      obtain rfl : w = 0 := by omega
      rw [if_neg (by omega), if_neg (by omega), if_neg (by omega), if_pos (by omega), show Int.toNat (8 * (η : Int) + 0) = 8 * η + 0 by omega]
      exact v3
theorem res_ok {Mr : Mm} {NT ne t η : Nat} {Es : Nat → Int → Ty} (hw : WTm Mr NT) (hN : NT ≤ 200000) (hne : ne ≤ 500) (ew : EW Mr NT Es ne) (hη : η < ne) (ht : t < NT) (hp : pln (sub (Es η) (trm Mr t))) : ∃ (M' : Mm) (t' η' : Nat), f248 Mr (t : Int) (η : Int) = some (0, M') ∧ (∀ a, a ≠ 53 → M' a = Mr a) ∧ (∀ j, j ≠ 79 → j ≠ 80 → M' 53 j = Mr 53 j) ∧ M' 53 79 = (t' : Int) ∧ M' 53 80 = (η' : Int) ∧ t' < NT ∧ η' ≤ η ∧ sub (Es η') (trm Mr t') = sub (Es η) (trm Mr t) ∧ hdT Mr t' := by
  obtain ⟨M', t', η', r1, r2, r3, r4⟩ := res_in (x1 := (t : Int)) (x2 := (η : Int)) hw hN hne ew (η + 1) FU (up (up Mr 53 79 (t : Int)) 53 80 (η : Int)) t η (fun a ha => by rw [up_cell ha, up_cell ha]) (by rw [up_at (by decide), up_same]) (by rw [up_same]) (by omega) (by unfold FU; omega) hη ht hp
  exact ⟨M', t', η', r1, fun a ha => by rw [r2 a ha, up_cell ha, up_cell ha], fun j h1 h2 => by rw [r3 j h1 h2, up_at h2, up_at h1], r4⟩
