/-! The simple calls: types, classes, what is asked. -/
theorem f17_b (M : Mm) (x : Int) : f17 M x = some (b01 (M 1 3) x) := by
  unfold f17 b01
  by_cases h1 : x < 0
  · rw [if_pos h1, if_pos h1]
  · rw [if_neg h1, if_neg h1]
    by_cases h2 : M 1 3 ≤ x
    · rw [if_pos h2, if_pos h2]
    · rw [if_neg h2, if_neg h2]
theorem f190_b (M : Mm) (x : Int) : f190 M x = some (b01 (M 53 1) x) := by
  unfold f190 b01
  by_cases h1 : x < 0
  · rw [if_pos h1, if_pos h1]
  · rw [if_neg h1, if_neg h1]
    by_cases h2 : M 53 1 ≤ x
    · rw [if_pos h2, if_pos h2]
    · rw [if_neg h2, if_neg h2]
theorem f56_b (M : Mm) (x : Int) : f56 M x = some (b01 (M 17 4) x) := by
  unfold f56 b01
  by_cases h1 : x < 0
  · rw [if_pos h1, if_pos h1]
  · rw [if_neg h1, if_neg h1]
    by_cases h2 : M 17 4 ≤ x
    · rw [if_pos h2, if_pos h2]
    · rw [if_neg h2, if_neg h2]
theorem Rel_st {Mc Mr : Mm} (h : Rel Mc Mr) : Stat Mc Mr := by obtain ⟨N, NT, st, _⟩ := h; exact st
theorem Rel_vr {Mc Mr : Mm} (h : Rel Mc Mr) : ValR Mc Mr := by obtain ⟨N, NT, st, ct, sp, t, df, mt, vr⟩ := h; exact vr
/-- a type is made or found -/
theorem typ_ok {Mc Mr : Mm} {l : Nat} {r : Int} (rel : Rel Mc Mr) (hl : (l : Int) < Mc 1 3) (hr : r = -1 ∨ (0 ≤ r ∧ r < Mc 1 3)) :
    ∃ v Mc' Mr', f19 Mc (l : Int) r = some (v, Mc') ∧ f191 (up Mr 53 0 0) (asR r).1 (l : Int) (asR r).2 = some (v, Mr') ∧ Rel Mc' Mr' ∧ FrC Mc Mc' ∧ FrR Mr Mr' ∧ Mr' 53 0 = 0 ∧ -1 ≤ v ∧ (v = -1 → Mc' = Mc) := by
  obtain ⟨tC, tR, tV, _⟩ := Rel_st rel
  have rel0 := Rel_0 0 rel
  obtain ⟨_, tR0, _⟩ := Rel_st rel0
  obtain ⟨v, Mc', a1, a2, a3, a4⟩ := f19_ok tC tV hl hr
  obtain ⟨v2, Mr', b1, b2, b3⟩ := f191_ok (M := up Mr 53 0 0) (B := tabC Mc) (l := (l : Int)) (r := r) (RT_of tC tR0) (TyC_WT tC).1 (by omega)
  have m0 : Mr' 53 0 = 0 := by rw [b2.2.1 0 (by decide)]; exact up_same _ _ _ _
  have fc : FrC Mc Mc' := fun a ha => a3.1 a (by omega) (by omega) (by omega) (by omega)
  have fr : FrR Mr Mr' := fun a ha => by rw [b2.1 a (by omega) (by omega) (by omega) (by omega), up_cell (by omega)]
  rcases a4 with ⟨z1, z2, z3⟩ | ⟨t, z1, z2⟩
  · rcases b3 with ⟨y1, y2, y3⟩ | ⟨t', C, y1, y2, y3⟩
    · refine ⟨-1, Mc', Mr', by rw [a1, z1], by rw [b1, y1], ?_, fc, fr, m0, by omega, fun _ => z3⟩
      rw [z3, y3]
      exact rel0
    · rw [z2] at y2; cases y2
  · rcases b3 with ⟨y1, y2, y3⟩ | ⟨t', C, y1, y2, y3⟩
    · rw [z2] at y2; cases y2
    · rw [z2] at y2
      have y2 := Option.some.inj y2
      have e1 : t = t' := congrArg Prod.fst y2
      have e2 : tabC Mc' = C := congrArg Prod.snd y2
      subst e1; subst e2
      refine ⟨(t : Int), Mc', Mr', by rw [a1, z1], by rw [b1, y1], ?_, fc, fr, m0, by omega, fun z => by omega⟩
      have hr' : r = -1 ∨ (r = (r.toNat : Int) ∧ r.toNat < (tabC Mc).1) := by
        show r = -1 ∨ (r = (r.toNat : Int) ∧ r.toNat < (Mc 1 3).toNat)
        omega
      obtain ⟨w1, w2, w3, w4, w5, w6⟩ := tadd_ok (r := r.toNat) (TyC_WT tC) (show l < (Mc 1 3).toNat by omega) hr' z2
      have tC' := WT_TyC w1
      have le := a3.2.2.2
      refine Rel_tab rel0 (fun a _ b1 b2 b3 b4 => a3.1 a b1 b2 b3 b4) (fun a b3 b4 => b2.1 a (by omega) (by omega) (by omega) (by omega)) (fun j _ hj _ => b2.2.1 j hj) tC' a2 (TyR_of y3 (fun t ht => by rw [(b2.2.2.1 t (Or.inl ht)).1]; exact tR0.2.1 t ht) tC') a3.2.2.1 le (ValR_fr ⟨by rw [a3.1 47 (by decide) (by decide) (by decide) (by decide)], a3.1 52 (by decide) (by decide) (by decide) (by decide)⟩ ⟨b2.2.1 54 (by decide), b2.2.1 55 (by decide), b2.2.1 56 (by decide), b2.1 94 (by decide) (by decide) (by decide) (by decide)⟩ (Rel_vr rel0))
theorem typ_end {Mc Mr Mc' Mr' : Mm} {v : Int} (rel : Rel Mc' Mr') (fc : FrC Mc Mc') (fr : FrR Mr Mr') (m0 : Mr' 53 0 = 0) (hv : -1 ≤ v) : Ans Mc Mr ((f20 Mc' v).bind (fun z => if z.1 = 0 then (some (0, z.2.1, z.2.2)) else some (z.1, 0, z.2.2))) (if ¬ v = (-1) then (if ¬ v = (-1) then (some (v, (up Mr' 53 0 0))) else (some (0, (up Mr' 53 0 0)))) else (if ¬ v = (-1) then (some (v, (up Mr' 53 0 2))) else (some (0, (up Mr' 53 0 2))))) := by
  unfold f20
  by_cases e : v = -1
  · have n : ¬ ¬ v = -1 := fun z => z e
    rw [if_pos e, bs_, if_neg (show ¬ (2 : Int) = 0 by decide), if_neg n, if_neg n]
    exact ⟨2, 0, 0, Mc', up Mr' 53 0 2, rfl, rfl, up_same _ _ _ _, by omega, fun z => by omega, Rel_0 2 rel, fc, FrR_trans fr (FrR_0 Mr' 2)⟩
  · rw [if_neg e, bs_, if_pos rfl, if_pos e, if_pos e]
    exact ⟨0, v, v, Mc', up Mr' 53 0 0, rfl, rfl, up_same _ _ _ _, by omega, fun z => rfl, Rel_0 0 rel, fc, FrR_trans fr (FrR_0 Mr' 0)⟩
theorem list_ok {Mc Mr : Mm} (rel : Rel Mc Mr) (x : Int) : Ans Mc Mr (f16 Mc x) (f189 Mr x) := by
  have e1 : Mr 53 1 = Mc 1 3 := (Rel_st rel).2.1.1
  unfold f16 f189
  rw [f17_b, bs_, f190_b, bs_, e1]
  rcases b01_01 (Mc 1 3) x with z | ⟨z, z1, z2⟩
  · rw [if_pos z, if_pos z]
    exact Ans_thr rel (Or.inl rfl)
  · have nz : ¬ b01 (Mc 1 3) x = 0 := by omega
    rw [if_neg nz, if_neg nz]
    obtain ⟨l, rfl⟩ : ∃ l : Nat, x = (l : Int) := ⟨x.toNat, by omega⟩
    obtain ⟨v, Mc', Mr', a1, a2, a3, a4, a5, a6, a7, _⟩ := typ_ok (r := -1) rel z2 (Or.inl rfl)
    have a2 : f191 (up Mr 53 0 0) 3 (l : Int) 0 = some (v, Mr') := a2
    rw [a1, bs_, a2, bs_]
    exact typ_end a3 a4 a5 a6 a7
theorem fun_ok {Mc Mr : Mm} (rel : Rel Mc Mr) (x y : Int) : Ans Mc Mr (f23 Mc x y) (f193 Mr x y) := by
  have e1 : Mr 53 1 = Mc 1 3 := (Rel_st rel).2.1.1
  unfold f23 f193
  rw [f17_b, bs_, f190_b, bs_, e1]
  rcases b01_01 (Mc 1 3) x with z | ⟨z, z1, z2⟩
  · rw [if_pos z, if_pos z]
    exact Ans_thr rel (Or.inl rfl)
  · have nz : ¬ b01 (Mc 1 3) x = 0 := by omega
    rw [if_neg nz, if_neg nz, f17_b, bs_, f190_b, bs_, e1]
    rcases b01_01 (Mc 1 3) y with w | ⟨w, w1, w2⟩
    · rw [if_pos w, if_pos w]
      exact Ans_thr rel (Or.inl rfl)
    · have nw : ¬ b01 (Mc 1 3) y = 0 := by omega
      rw [if_neg nw, if_neg nw]
      obtain ⟨l, rfl⟩ : ∃ l : Nat, x = (l : Int) := ⟨x.toNat, by omega⟩
      obtain ⟨v, Mc', Mr', a1, a2, a3, a4, a5, a6, a7, _⟩ := typ_ok (r := y) rel z2 (Or.inr ⟨w1, w2⟩)
      have ea : asR y = (4, y) := by unfold asR; rw [if_neg (by omega)]
      rw [ea] at a2
      have a2 : f191 (up Mr 53 0 0) 4 (l : Int) y = some (v, Mr') := a2
      rw [a1, bs_, a2, bs_]
      exact typ_end a3 a4 a5 a6 a7
theorem val_ok {Mc Mr : Mm} (rel : Rel Mc Mr) (x : Int) : Ans Mc Mr (f184 Mc x) (f253 Mr x) := by
  have fin : ∀ v b : Int, b = v → Ans Mc Mr (some (0, v, Mc)) (some (b, up Mr 53 0 0)) := fun v b h => ⟨0, v, b, Mc, up Mr 53 0 0, rfl, rfl, up_same _ _ _ _, by omega, fun _ => h, Rel_0 0 rel, fun _ _ => rfl, FrR_0 Mr 0⟩
  have thr : Ans Mc Mr (some (1, 0, Mc)) (some (0, up Mr 53 0 1)) := Ans_thr rel (Or.inl rfl)
  unfold f184 f253 f185 f186
  rcases Rel_vr rel with ⟨h1, h2⟩ | ⟨h1, k, h2, h3, h4, h5, h6⟩
  · rw [if_pos h2, bs_, if_pos rfl, if_pos h1]
    exact thr
  · rw [if_neg (show ¬ Mc 47 16 = -1 by omega), if_neg (show ¬ Mr 53 54 = 0 by omega), h3, h4]
    by_cases x1 : x < -1
    · rw [if_pos x1, if_pos x1, bs_, if_pos rfl]
      exact thr
    · rw [if_neg x1, if_neg x1]
      by_cases x2 : (k : Int) ≤ x
      · rw [if_pos x2, if_pos x2, bs_, if_pos rfl]
        exact thr
      · rw [if_neg x2, if_neg x2, bs_, if_neg (by decide)]
        by_cases e : x = -1
        · have n : ¬ ¬ x = -1 := fun z => z e
          rw [if_neg n, if_neg n, bs_]
          rcases h5 with h5 | ⟨h5, h7⟩
          · rw [if_neg (show ¬ Mr 53 55 = 0 by omega)]
            exact fin _ _ rfl
          · rw [if_pos h5]
            exact fin _ _ (by omega)
        · rw [if_pos e, if_pos e, if_pos (by omega), if_pos (by omega), bs_]
          exact fin _ _ (h6 x.toNat (by omega)).symm
theorem sch_ok {Mc Mr : Mm} (rel : Rel Mc Mr) {x y : Int} (hy : rg y) : Ans Mc Mr (f144 Mc x y) (f236 Mr x y) := by
  have fin : ∀ v b : Int, b = v → Ans Mc Mr (some (0, v, Mc)) (some (b, up Mr 53 0 0)) := fun v b h => ⟨0, v, b, Mc, up Mr 53 0 0, rfl, rfl, up_same _ _ _ _, by omega, fun _ => h, Rel_0 0 rel, fun _ _ => rfl, FrR_0 Mr 0⟩
  have thr : Ans Mc Mr (some (1, 0, Mc)) (some (0, up Mr 53 0 1)) := Ans_thr rel (Or.inl rfl)
  obtain ⟨N, NT, st, ct, sp, ⟨t1, t2, t3, t4, t5⟩, df, mt, vr⟩ := id rel
  obtain ⟨tC, tR, tV, eC, eR, clT, dfT⟩ := id st
  unfold f144 f236
  rw [f56_b, bs_, t4]
  unfold b01
  by_cases x0 : x < 0
  · rw [if_pos x0, if_pos x0, if_pos rfl]
    exact thr
  · rw [if_neg x0, if_neg x0]
    by_cases x1 : Mc 17 4 ≤ x
    · rw [if_pos x1, if_pos x1, if_pos rfl]
      exact thr
    · rw [if_neg x1, if_neg x1, if_neg (by decide)]
      by_cases y0 : y < 0
      · rw [if_pos y0, if_pos y0]
        exact thr
      · rw [if_neg y0, if_neg y0]
        obtain ⟨g, rfl⟩ : ∃ g : Nat, x = (g : Int) := ⟨x.toNat, by omega⟩
        have d17 := dfT.1
        obtain ⟨b1, b2, b3, m, b4, b5, b6, b7⟩ := dfT.2 g (by omega)
        have e115 : f115 Mc (g : Int) = some (Mc 20 g) := by unfold f115; rw [if_pos (by omega), Int.toNat_natCast]
        have e94 : f94 Mc (g : Int) = some (Mc 19 g) := by unfold f94; rw [if_pos (by omega), Int.toNat_natCast]
        have g20 : 0 ≤ (g : Int) ∧ (g : Int) < 20 := by omega
        rw [e115, bs_, bs_, e94, bs_, if_pos g20, Int.toNat_natCast, b3.1, if_pos (show rg (y - 2) by omega), if_pos (show rg ((2 : Int) + Mc 20 g) by omega)]
        by_cases y1 : Mc 20 g ≤ y - 2
        · rw [if_pos y1, if_pos (show (2 : Int) + Mc 20 g ≤ y by omega)]
          exact thr
        · rw [if_neg y1, if_neg (show ¬ (2 : Int) + Mc 20 g ≤ y by omega)]
          by_cases y2 : y = 0
          · have n : ¬ ¬ y = 0 := fun z => z y2
            rw [if_neg n, if_neg n]
            exact fin _ _ b1
          · rw [if_pos y2, if_pos y2]
            by_cases y3 : y = 1
            · have n : ¬ ¬ y = 1 := fun z => z y3
              rw [if_neg n, if_neg n]
              exact fin _ _ rfl
            · rw [if_pos y3, if_pos y3]
              obtain ⟨i, hi⟩ : ∃ i : Nat, y = ((i + 2 : Nat) : Int) := ⟨(y - 2).toNat, by omega⟩
              have e117 : f117 Mc (g : Int) (y - 2) = some (Mc 21 (8 * g + i)) := by
                unfold f117
                rw [if_pos (by omega), show ((g : Int) * 8) + (y - 2) = ((8 * g + i : Nat) : Int) by omega, Int.toNat_natCast]
              rw [e117, bs_, if_pos (by omega), show (((8 : Int) * (g : Int)) + y) - 2 = ((8 * g + i : Nat) : Int) by omega, Int.toNat_natCast]
              exact fin _ _ (b7 i (by omega)).1
