/-! The simple calls: the seven expressions. -/
theorem f38_eq {Mc Mr : Mm} {k a b : Int} (rel : Rel Mc Mr) (ok : okE Mc k a b) : f38 Mc k a b = if 200 ≤ Mc 12 4 ∨ 60 < szE Mc k a b then some (2, 0, Mc) else (f41 Mc k a b).bind (fun z => some (0, z.1, z.2)) := by
  have eC := (Rel_st rel).2.2.2.1
  unfold f38 f39
  by_cases h1 : 200 ≤ Mc 12 4
  · rw [if_pos h1, bs_, if_pos rfl, if_pos (Or.inl h1)]
  · rw [if_neg h1, f40_eq eC ok rfl, bs_]
    by_cases h2 : 60 < szE Mc k a b
    · rw [if_pos h2, bs_, if_pos rfl, if_pos (Or.inr h2)]
    · rw [if_neg h2, bs_, if_neg (by decide), if_neg (by omega)]
theorem ex_ans {Mc Mr : Mm} {k a b b' g : Int} (rel : Rel Mc Mr) (ok : okE Mc k a b) (hb : (k = 4 ∨ k = 5) → b' = b) (hg : ¬ g = 0) : Ans Mc Mr ((f38 Mc k a b).bind (fun z => if z.1 = 0 then (some (0, z.2.1, z.2.2)) else some (z.1, 0, z.2.2))) ((f203 Mr g k a b' (szE Mc k a b)).bind (fun z => some (z.1, z.2))) := by
  have eC := (Rel_st rel).2.2.2.1
  have e12 : Mr 53 12 = Mc 12 4 := (Rel_st rel).2.2.2.2.1.1
  have c12 := eC.1
  obtain ⟨Mc', Mr', h⟩ := exp_ok rel ok hb
  rw [f38_eq rel ok]
  unfold f203
  rw [if_pos hg, e12]
  by_cases h1 : 200 ≤ Mc 12 4
  · rw [if_pos (Or.inl h1), bs_, if_neg (show ¬ (2 : Int) = 0 by decide), if_pos (show Mc 12 4 = 200 by omega), bs_]
    exact Ans_thr rel (Or.inr rfl)
  · rw [if_neg (show ¬ Mc 12 4 = 200 by omega)]
    by_cases h2 : 60 < szE Mc k a b
    · rw [if_pos (Or.inr h2), bs_, if_neg (show ¬ (2 : Int) = 0 by decide), if_neg (show ¬ szE Mc k a b ≤ 60 by omega), bs_]
      exact Ans_thr rel (Or.inr rfl)
    · obtain ⟨a1, a2, a3, a4, a5, a6⟩ := h (by omega) (by omega)
      rw [if_neg (show ¬ (200 ≤ Mc 12 4 ∨ 60 < szE Mc k a b) by omega), a1, bs_, bs_, if_pos rfl, if_pos (show szE Mc k a b ≤ 60 by omega), a2, bs_, bs_]
      exact ⟨0, _, _, Mc', Mr', rfl, rfl, a6, by omega, fun _ => rfl, a3, a4, a5⟩
theorem f203_0 (Mr : Mm) (k a b n : Int) : (f203 Mr 0 k a b n).bind (fun z => some (z.1, z.2)) = some (0, up Mr 53 0 1) := by
  unfold f203
  rw [if_neg (fun z => z rfl), bs_]
/-- numbers: there is but one thing to throw, and the reference calls it 1 -/
def AnsN (Mc Mr : Mm) (x : Option (Int × Int × Mm)) (y : Option (Int × Mm)) : Prop := ∃ (k v b : Int) (Mc' Mr' : Mm), x = some (k, v, Mc') ∧ y = some (b, Mr') ∧ ((k = 0 ∧ Mr' 53 0 = 0) ∨ (k = 2 ∧ Mr' 53 0 = 1)) ∧ (k = 0 → b = v) ∧ Rel Mc' Mr' ∧ FrC Mc Mc' ∧ FrR Mr Mr'
theorem num_call {Mc Mr : Mm} (rel : Rel Mc Mr) (x : Int) : AnsN Mc Mr (f37 Mc x) (f200 Mr x) := by
  have eC := (Rel_st rel).2.2.2.1
  have e12 : Mr 53 12 = Mc 12 4 := (Rel_st rel).2.2.2.2.1.1
  have c12 := eC.1
  have ok : okE Mc 0 x (-1) := ⟨by omega, fun z => by omega, fun z => by omega, fun z => by omega, fun z => by omega, fun z => by omega, fun z => by omega⟩
  have s1 : szE Mc 0 x (-1) = 1 := by unfold szE; rw [if_pos (by decide), if_pos (by decide)]
  obtain ⟨Mc', Mr', h⟩ := exp_ok (b' := 0) rel ok (fun z => by omega)
  unfold f37 f200
  rw [f38_eq rel ok, e12]
  by_cases h1 : 200 ≤ Mc 12 4
  · rw [if_pos (Or.inl h1), bs_, if_neg (show ¬ (2 : Int) = 0 by decide), if_neg (show ¬ ¬ Mc 12 4 = 200 by omega)]
    exact ⟨2, 0, 0, Mc, up Mr 53 0 1, rfl, rfl, Or.inr ⟨rfl, up_same _ _ _ _⟩, fun z => by omega, Rel_0 1 rel, fun _ _ => rfl, FrR_0 Mr 1⟩
  · obtain ⟨a1, a2, a3, a4, a5, a6⟩ := h (by omega) (by omega)
    rw [s1] at a2
    rw [if_neg (show ¬ (200 ≤ Mc 12 4 ∨ 60 < szE Mc 0 x (-1)) by omega), a1, bs_, bs_, if_pos rfl, if_pos (show ¬ Mc 12 4 = 200 by omega), a2, bs_]
    exact ⟨0, _, _, Mc', Mr', rfl, rfl, Or.inl ⟨rfl, a6⟩, fun _ => rfl, a3, a4, a5⟩
theorem sz1 {M : Mm} {k a b : Int} (h3 : k ≠ 3) (h4 : k ≠ 4) : szE M k a b = 1 := by unfold szE; rw [if_pos h3, if_pos h4]
theorem prim_call {Mc Mr : Mm} (rel : Rel Mc Mr) (x : Int) : Ans Mc Mr (f43 Mc x) (f202 Mr x) := by
  unfold f43 f202
  by_cases h0 : x < 0
  · rw [if_pos h0, if_pos h0, f203_0]; exact Ans_thr rel (Or.inl rfl)
  · rw [if_neg h0, if_neg h0]
    by_cases h1 : 8 ≤ x
    · rw [if_pos h1, if_pos h1, f203_0]; exact Ans_thr rel (Or.inl rfl)
    · rw [if_neg h1, if_neg h1]
      have := ex_ans (k := 1) (a := x) (b := -1) (b' := 0) (g := 1) rel ⟨by omega, fun z => by omega, fun z => by omega, fun z => by omega, fun z => by omega, fun z => by omega, fun z => by omega⟩ (fun z => by omega) (by decide)
      rw [sz1 (by decide) (by decide)] at this
      exact this
theorem local_call {Mc Mr : Mm} (rel : Rel Mc Mr) (x : Int) : Ans Mc Mr (f45 Mc x) (f204 Mr x) := by
  unfold f45 f204
  by_cases h0 : x < 0
  · rw [if_pos h0, if_pos h0, f203_0]; exact Ans_thr rel (Or.inl rfl)
  · rw [if_neg h0, if_neg h0]
    by_cases h1 : 10 ≤ x
    · rw [if_pos h1, if_pos h1, f203_0]; exact Ans_thr rel (Or.inl rfl)
    · rw [if_neg h1, if_neg h1]
      have := ex_ans (k := 2) (a := x) (b := -1) (b' := 0) (g := 1) rel ⟨by omega, fun z => by omega, fun z => by omega, fun z => by omega, fun z => by omega, fun z => by omega, fun z => by omega⟩ (fun z => by omega) (by decide)
      rw [sz1 (by decide) (by decide)] at this
      exact this
theorem given_call {Mc Mr : Mm} (rel : Rel Mc Mr) (x : Int) : Ans Mc Mr (f55 Mc x) (f209 Mr x) := by
  have e17 : Mr 53 17 = Mc 17 4 := by obtain ⟨N, NT, st, ct, sp, ⟨t1, t2, t3, t4, t5⟩, _⟩ := rel; exact t4
  unfold f55 f209
  rw [f56_b, bs_, e17]
  unfold b01
  by_cases h0 : x < 0
  · rw [if_pos h0, if_pos h0, if_pos rfl, f203_0]; exact Ans_thr rel (Or.inl rfl)
  · rw [if_neg h0, if_neg h0]
    by_cases h1 : Mc 17 4 ≤ x
    · rw [if_pos h1, if_pos h1, if_pos rfl, f203_0]; exact Ans_thr rel (Or.inl rfl)
    · rw [if_neg h1, if_neg h1, if_neg (show ¬ (1 : Int) = 0 by decide)]
      have := ex_ans (k := 6) (a := x) (b := -1) (b' := 0) (g := 1) rel ⟨by omega, fun z => by omega, fun z => by omega, fun z => by omega, fun z => by omega, fun z => by omega, fun z => by omega⟩ (fun z => by omega) (by decide)
      rw [sz1 (by decide) (by decide)] at this
      exact this
theorem lam_call {Mc Mr : Mm} (rel : Rel Mc Mr) (x : Int) : Ans Mc Mr (f47 Mc x) (f205 Mr x) := by
  have eC := (Rel_st rel).2.2.2.1
  have eR := (Rel_st rel).2.2.2.2.1
  have c12 := eC.1
  unfold f47 f205
  rw [f48_b, bs_, f206_b, bs_, eR.1]
  rcases b01_01 (Mc 12 4) x with z | ⟨z, z1, z2⟩
  · rw [if_pos z, if_pos z, z, f203_0]; exact Ans_thr rel (Or.inl rfl)
  · have nz : ¬ b01 (Mc 12 4) x = 0 := by omega
    rw [if_neg nz, if_neg nz]
    have e66 : Mr 66 x.toNat = Mc 16 x.toNat := (eR.2 x.toNat (by omega)).2.2.2
    have s16 := (eC.2 x.toNat (by omega)).2.1
    rw [if_pos (show 0 ≤ x ∧ x < 200 by omega), e66, if_pos (show rg ((1 : Int) + Mc 16 x.toNat) by omega)]
    have := ex_ans (k := 3) (a := x) (b := -1) (b' := 0) (g := b01 (Mc 12 4) x) rel ⟨by omega, fun z => by omega, fun z => by omega, fun _ => ⟨z1, z2⟩, fun z => by omega, fun z => by omega, fun z => by omega⟩ (fun z => by omega) nz
    have sz : szE Mc 3 x (-1) = 1 + Mc 16 x.toNat := by unfold szE; rw [if_neg (fun z => z rfl)]
    rw [sz] at this
    exact this
theorem app_call {Mc Mr : Mm} (rel : Rel Mc Mr) (x y : Int) : Ans Mc Mr (f50 Mc x y) (f207 Mr x y) := by
  have eC := (Rel_st rel).2.2.2.1
  have eR := (Rel_st rel).2.2.2.2.1
  have c12 := eC.1
  unfold f50 f207
  rw [f48_b, bs_, f206_b, bs_, eR.1]
  rcases b01_01 (Mc 12 4) x with z | ⟨z, z1, z2⟩
  · rw [if_pos z, if_pos z, f203_0]; exact Ans_thr rel (Or.inl rfl)
  · have nz : ¬ b01 (Mc 12 4) x = 0 := by omega
    rw [if_neg nz, if_neg nz, f48_b, bs_, f206_b, bs_, eR.1]
    rcases b01_01 (Mc 12 4) y with w | ⟨w, w1, w2⟩
    · rw [if_pos w, if_pos w, f203_0]; exact Ans_thr rel (Or.inl rfl)
    · have nw : ¬ b01 (Mc 12 4) y = 0 := by omega
      rw [if_neg nw, if_neg nw]
      have e66 : Mr 66 x.toNat = Mc 16 x.toNat := (eR.2 x.toNat (by omega)).2.2.2
      have e66y : Mr 66 y.toNat = Mc 16 y.toNat := (eR.2 y.toNat (by omega)).2.2.2
      have s16 := (eC.2 x.toNat (by omega)).2.1
      have s16y := (eC.2 y.toNat (by omega)).2.1
      rw [if_pos (show 0 ≤ x ∧ x < 200 by omega), if_pos (show 0 ≤ y ∧ y < 200 by omega), e66, e66y, if_pos (show rg ((1 : Int) + Mc 16 x.toNat + Mc 16 y.toNat) by omega)]
      have := ex_ans (k := 4) (a := x) (b := y) (b' := y) (g := 1) rel ⟨by omega, fun z => by omega, fun z => by omega, fun z => by omega, fun _ => ⟨⟨z1, z2⟩, w1, w2⟩, fun z => by omega, fun z => by omega⟩ (fun _ => rfl) (by decide)
      have sz : szE Mc 4 x y = 1 + Mc 16 x.toNat + Mc 16 y.toNat := by unfold szE; rw [if_pos (by decide), if_neg (fun z => z rfl)]
      rw [sz] at this
      exact this
theorem use_call {Mc Mr : Mm} (rel : Rel Mc Mr) (x y : Int) : Ans Mc Mr (f52 Mc x y) (f208 Mr x y) := by
  obtain ⟨N, NT, st, ct, _⟩ := id rel
  have n6 := ct.1.2.2
  have h5 := ct.1.1
  have h53 := ct.1.2.1
  unfold f52 f53 f208
  rw [f26_b, bs_, f195_b, bs_, h5, h53]
  rcases b01_01 (N : Int) x with z | ⟨z, z1, z2⟩
  · rw [if_pos z, if_pos z, bs_, if_pos rfl, f203_0]; exact Ans_thr rel (Or.inl rfl)
  · have nz : ¬ b01 (N : Int) x = 0 := by omega
    rw [if_neg nz, if_neg nz]
    by_cases y0 : y < 0
    · rw [if_pos y0, if_pos y0, bs_, if_pos rfl, f203_0]; exact Ans_thr rel (Or.inl rfl)
    · have x6 : 0 ≤ x ∧ x < 6 := by omega
      rw [if_neg y0, if_neg y0, if_pos x6, if_pos x6, (ct.2.1 x.toNat (by omega)).2.1]
      by_cases y1 : Mc 7 x.toNat ≤ y
      · rw [if_pos y1, if_pos y1, bs_, if_pos rfl, f203_0]; exact Ans_thr rel (Or.inl rfl)
      · rw [if_neg y1, if_neg y1, bs_, if_neg (show ¬ (1 : Int) = 0 by decide)]
        have := ex_ans (k := 5) (a := x) (b := y) (b' := y) (g := 1) rel ⟨by omega, fun z => by omega, fun z => by omega, fun z => by omega, fun z => by omega, fun _ => ⟨⟨z1, by omega⟩, by omega, by omega⟩, fun z => by omega⟩ (fun _ => rfl) (by decide)
        rw [sz1 (by decide) (by decide)] at this
        exact this
theorem def_call {Mc Mr : Mm} (rel : Rel Mc Mr) (x : Int) : Ans Mc Mr (f126 Mc x) (f210 Mr x) := by
  obtain ⟨N, NT, st, ct, sp, ⟨t1, t2, t3, t4, t5⟩, _⟩ := id rel
  have eR := st.2.2.2.2.1
  have d17 := st.2.2.2.2.2.2.1
  unfold f126 f210
  rw [f48_b, bs_, f206_b, bs_, eR.1]
  rcases b01_01 (Mc 12 4) x with z | ⟨z, z1, z2⟩
  · rw [if_pos z, if_neg (fun y => y z)]; exact Ans_thr rel (Or.inl rfl)
  · have nz : ¬ b01 (Mc 12 4) x = 0 := by omega
    rw [if_neg nz, if_pos nz]
    unfold f127
    rw [bs_, t4]
    by_cases h : 20 ≤ Mc 17 4
    · rw [if_pos h, if_neg (show ¬ ¬ Mc 17 4 = 20 by omega)]; exact Ans_thr rel (Or.inr rfl)
    · rw [if_neg h, if_pos (show ¬ Mc 17 4 = 20 by omega)]
      obtain ⟨e, rfl⟩ : ∃ e : Nat, x = (e : Int) := ⟨x.toNat, by omega⟩
      obtain ⟨v, Mc', Mr', a1, a2, a3, a4, a5, a6⟩ := def_in (Rel_0 0 rel) z2 (by omega)
      rw [a1, bs_, a2]
      exact ⟨0, v, v, Mc', Mr', rfl, rfl, by rw [a6]; exact up_same _ _ _ _, by omega, fun _ => rfl, a3, a4, FrR_trans (FrR_0 Mr 0) a5⟩
