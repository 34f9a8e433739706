/-! Run: the call itself, given what bounds the other side's cells. -/
theorem plain_ok {Mc Mr : Mm} {t : Nat} (tC : TyC Mc) (tR : TyR Mc Mr) (ht : (t : Int) < Mc 1 3) : ∃ q : Int, f150 Mc (t : Int) = some q ∧ f242 Mr (t : Int) = some q ∧ (q = 0 ∨ (q = 1 ∧ (((t : Int) ≤ 1 ∧ (dt Mc t = tI ∨ dt Mc t = tB)) ∨ (¬ (t : Int) ≤ 1 ∧ (dt Mc t = tL tI ∨ dt Mc t = tL tB))))) := by
  have c13 := tC.1
  unfold f150 f242 dt
  by_cases h10 : t < 10
  · rw [f92_lt h10, bs_, if_pos rfl, dc_lt h10]
    have k := tR.2.1 t h10
    by_cases h0 : t = 0
    · subst h0
      exact ⟨1, rfl, rfl, Or.inr ⟨rfl, Or.inl ⟨by omega, Or.inl rfl⟩⟩⟩
    · by_cases h1 : t = 1
      · subst h1
        exact ⟨1, rfl, rfl, Or.inr ⟨rfl, Or.inl ⟨by omega, Or.inr rfl⟩⟩⟩
      · rw [if_neg (by omega)] at k
        exact ⟨0, by rw [if_neg (by omega), if_pos (by omega)], by rw [if_neg (by omega), if_pos (by omega), Int.toNat_natCast, if_pos (by omega)], Or.inl rfl⟩
  · obtain ⟨t, rfl⟩ : ∃ k, t = k + 1 := ⟨t - 1, by omega⟩
    obtain ⟨q1, q2⟩ := tR.2.2 (t + 1) (by omega) ht
    have w := tC.2 (t + 1) (by omega) ht
    rw [f92_eq (by omega) (by omega), bs_, dc_10 (by omega)]
    show ∃ q : Int, _ ∧ _ ∧ (q = 0 ∨ (q = 1 ∧ ((((t + 1 : Nat) : Int) ≤ 1 ∧ ((if Mc 3 (t + 1) = -1 then tL (dc (tabC Mc) (t + 1) (Mc 2 (t + 1)).toNat) else tF (dc (tabC Mc) (t + 1) (Mc 2 (t + 1)).toNat) (dc (tabC Mc) (t + 1) (Mc 3 (t + 1)).toNat)) = tI ∨ (if Mc 3 (t + 1) = -1 then tL (dc (tabC Mc) (t + 1) (Mc 2 (t + 1)).toNat) else tF (dc (tabC Mc) (t + 1) (Mc 2 (t + 1)).toNat) (dc (tabC Mc) (t + 1) (Mc 3 (t + 1)).toNat)) = tB)) ∨ (¬ ((t + 1 : Nat) : Int) ≤ 1 ∧ ((if Mc 3 (t + 1) = -1 then tL (dc (tabC Mc) (t + 1) (Mc 2 (t + 1)).toNat) else tF (dc (tabC Mc) (t + 1) (Mc 2 (t + 1)).toNat) (dc (tabC Mc) (t + 1) (Mc 3 (t + 1)).toNat)) = tL tI ∨ (if Mc 3 (t + 1) = -1 then tL (dc (tabC Mc) (t + 1) (Mc 2 (t + 1)).toNat) else tF (dc (tabC Mc) (t + 1) (Mc 2 (t + 1)).toNat) (dc (tabC Mc) (t + 1) (Mc 3 (t + 1)).toNat)) = tL tB)))))
    rcases q2 with ⟨k1, k2, k3⟩ | ⟨k1, k2, k3⟩
    · obtain ⟨a, ha⟩ : ∃ a : Nat, Mc 2 (t + 1) = (a : Int) := ⟨(Mc 2 (t + 1)).toNat, by omega⟩
      rw [if_pos k1, if_neg (by decide), f91_eq (by omega), bs_, if_pos k1, ha, Int.toNat_natCast]
      have r0 : (if ((t + 1 : Nat) : Int) < 2 then some (1 : Int) else (if 0 ≤ ((t + 1 : Nat) : Int) ∧ ((t + 1 : Nat) : Int) < 40 then (if ¬ (Mr 54 (t + 1)) = 3 then (some 0) else (if 2 ≤ (Mr 55 (t + 1)) then (some 0) else (some 1))) else none)) = if (2 : Int) ≤ (a : Int) then some 0 else some 1 := by
        rw [if_neg (by omega), if_pos (by omega), if_neg (fun q => q k2), q1, ha]
      rw [r0, Int.toNat_natCast]
      by_cases a0 : a = 0
      · subst a0
        refine ⟨1, rfl, rfl, Or.inr ⟨rfl, Or.inr ⟨by omega, Or.inl ?_⟩⟩⟩
        rw [dc_lt (by omega), if_pos rfl]
      · by_cases a1 : a = 1
        · subst a1
          refine ⟨1, rfl, rfl, Or.inr ⟨rfl, Or.inr ⟨by omega, Or.inr ?_⟩⟩⟩
          rw [dc_lt (by omega), if_neg (by omega), if_pos rfl]
        · exact ⟨0, by rw [if_neg (by omega), if_pos (by omega)], by rw [if_pos (by omega)], Or.inl rfl⟩
    · rw [if_neg k1, if_pos rfl]
      exact ⟨0, by rw [if_neg (by omega), if_pos (by omega)], by rw [if_neg (by omega), if_pos (by omega), Int.toNat_natCast, if_pos (by omega)], Or.inl rfl⟩
/-- what is asked for: the other side's cells stay under 6000 -/
def Cells : Prop := ∀ (M0 R0 : Mm) (N NT : Nat) (G : Nat → UGt) (lim : Nat), Rl M0 R0 N NT → (∀ u, uIn M0 N u → UG M0 R0 u (G u)) → lim ≤ 300 → ∃ P : PrT, Clo M0 R0 N NT G lim P ∧ ∀ (Mc : Mm) (τ ω : Nat → Ty), Mc 47 12 = -1 → P 0 Mc τ ω 0 0 0 0 0 0 0 0
theorem run_go (hcl : Cells) {Mc Mr : Mm} {g lim : Nat} (rel : Rel Mc Mr) (hg : (g : Int) < Mc 17 4) (hl1 : 1 ≤ lim) (hl : lim ≤ 300) (h20 : Mc 20 g = 0) (hty : ((Mc 19 g ≤ 1 ∧ (dt Mc (Mc 19 g).toNat = tI ∨ dt Mc (Mc 19 g).toNat = tB)) ∨ (¬ Mc 19 g ≤ 1 ∧ (dt Mc (Mc 19 g).toNat = tL tI ∨ dt Mc (Mc 19 g).toNat = tL tB)))) : ∃ (v : Int) (Mc' Mr' : Mm), f151 Mc (g : Int) (lim : Int) = some (v, Mc') ∧ (∀ f, 4000 ≤ f → l241 f 69 (up Mr 53 0 0) (g : Int) (lim : Int) 1 0 = some (v, Mr')) ∧ Fin Mc (up Mr 53 0 0) Mc' Mr' := by
  obtain ⟨N, NT, hrl⟩ := Rel_0 0 rel
  obtain ⟨G, hU⟩ := UG_ch hrl
  have hrl0 := hrl
  obtain ⟨hst, hct, hsp, htt, hdf, hmt, hvr⟩ := hrl
  obtain ⟨tC, tR, tV, eC, eR, clT, dfT⟩ := hst
  have g20 : g < 20 := by have := dfT.1.2; omega
  obtain ⟨P, cl, pi⟩ := hcl Mc (up Mr 53 0 0) N NT G lim hrl0 hU hl
  have hNT : NT ≤ 190000 := by
    have h1 := htt.2.2.1
    have h2 : ins18 Mc ≤ 18 := cn_le _ 18
    have h3 := dfT.1
    omega
  obtain ⟨e67, eg, eg1, _⟩ := hdf g hg
  have R68 : up Mr 53 0 0 68 g = Mc 19 g := (dfT.2 g hg).1
  generalize hR0 : up Mr 53 0 0 = R0 at *
  have z0 : R0 53 0 = 0 := by rw [← hR0]; exact up_same _ _ _ _
  have uin : uIn Mc N g := Or.inl ⟨g20, hg⟩
  have ug := hU g uin
  -- here
  obtain ⟨C1, y1, y2, y3, y4, y5, y6⟩ := f154_ok (M := up (up (up (up (up (up Mc 48 2 0) 48 3 0) 47 6 0) 47 7 0) 47 8 (lim : Int)) 47 9 0) (nf := 0) (by rw [up_cell (by decide), up_cell (by decide), up_cell (by decide), up_cell (by decide), up_same]; rfl) (by omega)
  have hc : f151 Mc (g : Int) (lim : Int) = l151 FU 52 (up (up (up (up C1 47 10 (Mc 18 g)) 47 11 ((60 * g : Nat) : Int)) 47 12 (-1)) 47 13 0) (g : Int) (lim : Int) 0 := by
    unfold f151 f152 f153 f142 f155
    rw [bs_]
    dsimp only
    rw [if_pos (by omega), bs_, if_pos (by unfold rg; omega), bs_, y1, bs_, bs_]
    dsimp only
    rw [Int.toNat_natCast, up_cell (show 18 ≠ 47 by decide), up_cell (show 18 ≠ 47 by decide), up_cell (show 18 ≠ 47 by decide), up_cell (show 18 ≠ 47 by decide), up_cell (show 18 ≠ 48 by decide), up_cell (show 18 ≠ 48 by decide), show (g : Int) * 60 = ((60 * g : Nat) : Int) by omega]
    rfl
  -- there
  have e67' : R0 67 g = Mc 18 g := e67
  have hr : ∀ f, 1 ≤ f → l241 f 69 R0 (g : Int) (lim : Int) 1 0 = l241 (f - 1) 123 (ptk (up (up (up (up (up (up R0 53 58 0) 53 59 (lim : Int)) 53 60 0) 53 61 0) 53 68 1) 53 71 0) 0 0 (g : Int) (Mc 18 g) 0 (-1) 0) (g : Int) (lim : Int) 1 0 := fun f hf => by
    obtain ⟨f, rfl⟩ : ∃ f', f = f' + 1 := ⟨f - 1, by omega⟩
    rw [l241, if_pos z0, if_pos (by omega), Int.toNat_natCast, e67', f243_eq (t := 0) (by rw [up_same]; rfl) (by omega), bs_]
    rfl
  generalize hMc1 : up (up (up (up C1 47 10 (Mc 18 g)) 47 11 ((60 * g : Nat) : Int)) 47 12 (-1)) 47 13 0 = A at *
  generalize hMr1 : ptk (up (up (up (up (up (up R0 53 58 0) 53 59 (lim : Int)) 53 60 0) 53 61 0) 53 68 1) 53 71 0) 0 0 (g : Int) (Mc 18 g) 0 (-1) 0 = B at *
  have A47 : ∀ j, j ≠ 10 → j ≠ 11 → j ≠ 12 → j ≠ 13 → A 47 j = up (up (up (up (up (up Mc 48 2 0) 48 3 0) 47 6 0) 47 7 0) 47 8 (lim : Int)) 47 9 0 47 j := fun j h1 h2 h3 h4 => by
    rw [← hMc1, up_at h4, up_at h3, up_at h2, up_at h1, y2 47 (by decide) (by decide)]
  have Ax : ∀ a, a ≠ 47 → A a = C1 a := fun a ha => by rw [← hMc1, up_cell ha, up_cell ha, up_cell ha, up_cell ha]
  have sta : Sta Mc R0 A B := by
    refine ⟨fun a ha => ?_, ?_, fun a ha => ?_, fun j hj => ?_⟩
    · rw [Ax a (by omega), y2 a (by omega) (by omega), up_cell (by omega), up_cell (by omega), up_cell (by omega), up_cell (by omega), up_cell (by omega), up_cell (by omega)]
    · rw [A47 16 (by decide) (by decide) (by decide) (by decide), up_at (by decide), up_at (by decide), up_at (by decide), up_at (by decide), up_cell (by decide), up_cell (by decide)]
    · rw [← hMr1, ptk_cell (by omega) (by omega), up_cell (by omega), up_cell (by omega), up_cell (by omega), up_cell (by omega), up_cell (by omega), up_cell (by omega)]
    · rw [← hMr1, ptk_53 (by omega), up_at (by omega), up_at (by omega), up_at (by omega), up_at (by omega), up_at (by omega), up_at (by omega)]
  have bas : Bas Mc R0 N NT G A B (fun _ => 0) (fun _ => tI) (fun _ => (0, 0, 0)) (fun _ _ => tF tI tI) 0 0 1 1 := by
    refine ⟨sta, ⟨?_, ?_, ?_, ?_⟩, fun _ _ _ => Or.inl rfl, fun f v hf hv => ?_, fun i hi => by omega⟩
    · rw [Ax 48 (by decide), y3 2 (by decide), up_cell (by decide), up_cell (by decide), up_cell (by decide), up_cell (by decide), up_at (by decide), up_same]; rfl
    · rw [Ax 48 (by decide), y4]
    · rw [← hMr1, ptk_53 (by decide), up_at (by decide), up_at (by decide), up_same]; rfl
    · rw [← hMr1, ptk_53 (by decide), up_at (by decide), up_same]; rfl
    · obtain rfl : f = 0 := by omega
      rw [Ax 50 (by decide), y6 v hv]
      omega
  have sj : Sj Mc R0 N NT G A B (fun _ => 0) (fun _ => tI) (fun _ => (0, 0, 0)) (fun _ _ => tF tI tI) 0 0 1 1 (fun _ => sub (fun _ => tF tI tI) (dt Mc (Mc 19 g).toNat)) 0 0 lim := by
    refine ⟨bas, ⟨?_, ?_, ?_, ?_, ?_, ?_⟩, ?_, fun k hk => by omega⟩
    · rw [A47 7 (by decide) (by decide) (by decide) (by decide), up_at (by decide), up_at (by decide), up_same]; rfl
    · rw [← hMr1, ptk_53 (by decide), up_at (by decide), up_at (by decide), up_at (by decide), up_at (by decide), up_at (by decide), up_same]; rfl
    · rw [A47 8 (by decide) (by decide) (by decide) (by decide), up_at (by decide), up_same]
    · rw [← hMr1, ptk_53 (by decide), up_at (by decide), up_at (by decide), up_at (by decide), up_at (by decide), up_same]
    · rw [A47 9 (by decide) (by decide) (by decide) (by decide), up_same]
    · rw [← hMr1, ptk_53 (by decide), up_at (by decide), up_at (by decide), up_at (by decide), up_same]
    · rw [A47 6 (by decide) (by decide) (by decide) (by decide), up_at (by decide), up_at (by decide), up_at (by decide), up_same]; rfl
  have uEg : ((G g).2.1 0 : Int) = Mc 18 g := by
    rw [ug.2.2.2.1]
    unfold uE
    rw [if_pos g20, eg1, Int.toNat_natCast]
  have row := ptk_row (M := up (up (up (up (up (up R0 53 58 0) 53 59 (lim : Int)) 53 60 0) 53 61 0) 53 68 1) 53 71 0) (m := 0) (x1 := 0) (x2 := (g : Int)) (x3 := Mc 18 g) (x4 := 0) (x5 := -1) (x6 := 0)
  have r71 := ptk_71 (M := up (up (up (up (up (up R0 53 58 0) 53 59 (lim : Int)) 53 60 0) 53 61 0) 53 68 1) 53 71 0) (m := 0) (x1 := 0) (x2 := (g : Int)) (x3 := Mc 18 g) (x4 := 0) (x5 := -1) (x6 := 0)
  rw [hMr1] at row r71
  have a12 : A 47 12 = -1 := by rw [← hMc1, up_at (by decide), up_same]
  have se : SE Mc R0 N NT G A B (fun _ => 0) (fun _ => tI) (fun _ => (0, 0, 0)) (fun _ _ => tF tI tI) 0 0 1 1 (fun _ => sub (fun _ => tF tI tI) (dt Mc (Mc 19 g).toNat)) 0 0 lim := by
    refine ⟨sj, r71, g, 0, 0, 0, -1, ⟨uin, by have := ug.1; omega, by omega, by omega, fun c v q => ?_, Or.inl ⟨ug.2.2.2.2.1, rfl⟩⟩, ?_, ?_, a12, ?_, row.1, row.2.1, by rw [row.2.2.1, uEg], row.2.2.2.1, row.2.2.2.2.1, row.2.2.2.2.2, ?_⟩
    · unfold uA at q
      rw [if_pos g20] at q
      obtain ⟨i, k, i1, _⟩ := q
      omega
    · rw [← hMc1, up_at (by decide), up_at (by decide), up_at (by decide), up_same, uEg]
    · rw [← hMc1, up_at (by decide), up_at (by decide), up_same]; omega
    · rw [← hMc1, up_same]; rfl
    · rw [ug.2.2.2.2.2.1]
      unfold uT
      rw [if_pos g20]
  have T0 : (R0 68 g ≤ 1 ∧ (sub (fun _ => tF tI tI) (dt Mc (Mc 19 g).toNat) = tI ∨ sub (fun _ => tF tI tI) (dt Mc (Mc 19 g).toNat) = tB)) ∨ (¬ R0 68 g ≤ 1 ∧ (sub (fun _ => tF tI tI) (dt Mc (Mc 19 g).toNat) = tL tI ∨ sub (fun _ => tF tI tI) (dt Mc (Mc 19 g).toNat) = tL tB)) := by
    rw [R68]
    rcases hty with ⟨h1, h2 | h2⟩ | ⟨h1, h2 | h2⟩
    · rw [h2]; exact Or.inl ⟨h1, Or.inl rfl⟩
    · rw [h2]; exact Or.inl ⟨h1, Or.inr rfl⟩
    · rw [h2]; exact Or.inr ⟨h1, Or.inl rfl⟩
    · rw [h2]; exact Or.inr ⟨h1, Or.inr rfl⟩
  obtain ⟨v, Mc', Mr', K, c1, c2, c3, c4⟩ := (loop_ok (x2 := (lim : Int)) hrl0 hNT hU hl hvr g20 T0 cl (3 * lim + 2)).1 0 A B _ _ _ _ 0 0 1 1 _ 0 0 (by omega) se (pi A _ _ a12) ⟨by show 0 + 0 ≤ 2 * 0; omega, by omega, by omega, by show 0 + 0 ≤ 3 * 0; omega, by omega, by show 0 + 0 ≤ 0; omega⟩ rfl
  refine ⟨v, Mc', Mr', ?_, fun f hf => ?_, c3⟩
  · rw [hc]
    exact c1 FU (by unfold FU; omega)
  · rw [hr f (by omega)]
    exact c2 (f - 1) (by omega)
theorem run_call (hcl : Cells) {Mc Mr : Mm} (rel : Rel Mc Mr) (x y : Int) : Ans Mc Mr (f149 Mc x y) (f241 Mr x y) := by
  obtain ⟨N, NT, st, ct, sp, t, df, mt, vr⟩ := id rel
  obtain ⟨tC, tR, tV, eC, eR, clT, dfT⟩ := st
  have h17 : Mr 53 17 = Mc 17 4 := t.2.2.2.1
  have thr : l241 FU 28 Mr x y 0 0 = some (0, up Mr 53 0 1) := by
    rw [show FU = (FU - 3) + 3 from rfl, l241, l241, if_neg (fun q => q rfl), l241, up_same, if_neg (by decide)]
  unfold f149 f241
  rw [f56_b, bs_, h17, thr]
  unfold b01
  by_cases c1 : x < 0
  · rw [if_pos c1, if_pos c1, if_pos rfl]; exact Ans_thr rel (Or.inl rfl)
  rw [if_neg c1, if_neg c1]
  by_cases c2 : Mc 17 4 ≤ x
  · rw [if_pos c2, if_pos c2, if_pos rfl]; exact Ans_thr rel (Or.inl rfl)
  rw [if_neg c2, if_neg c2, if_neg (by decide)]
  by_cases c3 : y < 1
  · rw [if_pos c3, if_pos c3]; exact Ans_thr rel (Or.inl rfl)
  rw [if_neg c3, if_neg c3]
  by_cases c4 : 300 < y
  · rw [if_pos c4, if_pos c4]; exact Ans_thr rel (Or.inl rfl)
  rw [if_neg c4, if_neg c4]
  obtain ⟨g, rfl⟩ : ∃ k : Nat, x = (k : Int) := ⟨x.toNat, by omega⟩
  obtain ⟨lim, rfl⟩ : ∃ k : Nat, y = (k : Int) := ⟨y.toNat, by omega⟩
  have g17 : (g : Int) < Mc 17 4 := by omega
  have g20 : g < 20 := by have := dfT.1.2; omega
  obtain ⟨d1, d2, d3, d4⟩ := dfT.2 g g17
  have hf : f115 Mc (g : Int) = some (Mc 20 g) := by
    unfold f115
    rw [if_pos (by omega), Int.toNat_natCast]
  have hf2 : f94 Mc (g : Int) = some (Mc 19 g) := by
    unfold f94
    rw [if_pos (by omega), Int.toNat_natCast]
  have hr2 : l241 (FU - 1) 69 (up Mr 53 0 2) (g : Int) (lim : Int) 1 0 = some (0, up Mr 53 0 2) := by
    rw [show FU - 1 = (FU - 2) + 1 from rfl, l241, up_same, if_neg (by decide)]
  have h30 : l241 FU 30 Mr (g : Int) (lim : Int) 1 0 = if 0 < Mc 20 g then (l241 (FU - 1) 69 (up Mr 53 0 2) (g : Int) (lim : Int) 1 0) else (f242 Mr (Mc 19 g)).bind (fun q11 => if ¬ q11 = 0 then (l241 (FU - 1) 69 (up Mr 53 0 0) (g : Int) (lim : Int) 1 0) else (l241 (FU - 1) 69 (up Mr 53 0 2) (g : Int) (lim : Int) 1 0)) := by
    rw [show FU = (FU - 1) + 1 from rfl, l241, if_pos (by decide), if_pos (by omega), Int.toNat_natCast, d3.1, d1]
    rfl
  rw [hf, bs_, h30]
  by_cases c5 : Mc 20 g = 0
  · rw [if_neg (fun q => q c5), if_neg (by omega), hf2, bs_]
    obtain ⟨ty, hty⟩ : ∃ k : Nat, Mc 19 g = (k : Int) := ⟨(Mc 19 g).toNat, by omega⟩
    obtain ⟨q, q1, q2, q3⟩ := plain_ok tC tR (t := ty) (by omega)
    rw [hty, q1, q2, bs_, bs_]
    rcases q3 with rfl | ⟨rfl, q4⟩
    · rw [if_pos rfl, if_neg (fun z => z rfl), hr2]
      exact Ans_thr rel (Or.inr rfl)
    · rw [if_neg (by decide), if_pos (by decide)]
      obtain ⟨v, Mc', Mr', e1, e2, e3, e4, e5, e6⟩ := run_go hcl (g := g) (lim := lim) rel g17 (by omega) (by omega) c5 (by rw [hty, Int.toNat_natCast]; exact q4)
      rw [e1, bs_, e2 (FU - 1) (by unfold FU; omega)]
      have z0 : Mr' 53 0 = 0 := by rw [e5 0 (by omega)]; exact up_same _ _ _ _
      refine ⟨0, v, v, Mc', Mr', rfl, rfl, z0, Or.inl rfl, fun _ => rfl, Rel_fr (fun a ha => e3 a (by omega)) (fun a b1 b2 => e4 a (by omega)) (fun k hk _ => e5 k (by omega)) e6 (Rel_0 0 rel), fun a ha => e3 a (by omega), fun a ha => ?_⟩
      rw [e4 a (by omega), up_cell (by omega)]
  · rw [if_pos c5, if_pos (by omega), hr2]
    exact Ans_thr rel (Or.inr rfl)
