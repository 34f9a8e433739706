/-! The simple calls: classes, methods. -/
theorem type_new {Mc Mr : Mm} {N : Nat} {x : Int} (rel : Rel Mc Mr) (h5 : Mc 5 6 = (N : Int)) (h6 : N < 6) (hx : x = -1 ∨ (0 ≤ x ∧ x < (N : Int))) : Rel (up (up Mc 6 N x) 5 6 ((N : Int) + 1)) (up (up (up Mr 53 0 0) 57 N x) 53 5 ((N : Int) + 1)) := by
  obtain ⟨N', NT, st, ct, sp, ⟨t1, t2, t3, t4, t5⟩, df, mt, vr⟩ := id rel
  have eN : N' = N := by have := ct.1.1; omega
  subst eN
  obtain ⟨tC, tR, tV, eC, eR, clT, dfT⟩ := id st
  generalize hC : up (up Mc 6 N' x) 5 6 ((N' : Int) + 1) = C
  generalize hR : up (up (up Mr 53 0 0) 57 N' x) 53 5 ((N' : Int) + 1) = R
  have ca : ∀ a, a ≠ 5 → a ≠ 6 → C a = Mc a := fun a h1 h2 => by rw [← hC, up_cell h1, up_cell h2]
  have c5 : C 5 6 = ((N' + 1 : Nat) : Int) := by rw [← hC, up_same]; omega
  have c6 : ∀ i, C 6 i = if i = N' then x else Mc 6 i := fun i => by rw [← hC, up_cell (by decide)]; simp [up]
  have ra : ∀ a, a ≠ 53 → a ≠ 57 → R a = Mr a := fun a h1 h2 => by rw [← hR, up_cell h1, up_cell h2, up_cell h1]
  have r5 : R 53 5 = ((N' + 1 : Nat) : Int) := by rw [← hR, up_same]; omega
  have r53 : ∀ j, j ≠ 0 → j ≠ 5 → R 53 j = Mr 53 j := fun j h1 h2 => by rw [← hR, up_at h2, up_cell (by decide), up_at h1]
  have r57 : ∀ i, R 57 i = if i = N' then x else Mr 57 i := fun i => by
    rw [← hR, up_cell (by decide)]
    by_cases e : i = N'
    · rw [e, up_same, if_pos rfl]
    · rw [up_at e, if_neg e, up_cell (by decide)]
  have gw : Gw Mc C := by
    have e : tabC C = tabC Mc := by unfold tabC; rw [ca 1 (by decide) (by decide), ca 2 (by decide) (by decide), ca 3 (by decide) (by decide)]
    refine ⟨by rw [e]; exact ext_refl _, ⟨by omega, fun c hc => ?_⟩, ?_, ?_, ?_⟩
    · rw [c6, if_neg (by omega), ca 7 (by decide) (by decide), ca 8 (by decide) (by decide)]
      exact ⟨rfl, Int.le_refl _, fun _ _ => rfl⟩
    · rw [ca 9 (by decide) (by decide), ca 10 (by decide) (by decide)]
      exact (Gw_refl Mc).2.2.1
    · rw [ca 12 (by decide) (by decide), ca 13 (by decide) (by decide), ca 14 (by decide) (by decide), ca 15 (by decide) (by decide), ca 16 (by decide) (by decide)]
      exact (Gw_refl Mc).2.2.2.1
    · rw [ca 17 (by decide) (by decide), ca 18 (by decide) (by decide), ca 19 (by decide) (by decide), ca 20 (by decide) (by decide), ca 21 (by decide) (by decide)]
      exact (Gw_refl Mc).2.2.2.2
  have gt : Gt Mr R := Gt_fr (r53 24 (by decide) (by decide)) ⟨ra 73 (by decide) (by decide), ra 74 (by decide) (by decide), ra 75 (by decide) (by decide)⟩
  have row : ∀ i, C 23 i = Mc 23 i ∧ R 72 i = Mr 72 i := fun i => by
    rw [ca 23 (by decide) (by decide), ra 72 (by decide) (by decide)]
    exact ⟨rfl, rfl⟩
  have h69 : ∀ g : Nat, (g : Int) < Mc 17 4 → R 69 g = Mr 69 g := fun g _ => by rw [ra 69 (by decide) (by decide)]
  have z5 := t5 N' (Nat.le_refl _) h6
  refine ⟨N' + 1, NT, ⟨?_, ?_, ?_, ?_, ?_, ?_, ?_⟩, ⟨⟨c5, r5, by omega⟩, fun c hc => ?_, fun i hi => ?_⟩, fun c s u b1 b2 b3 b4 => ?_, ⟨by rw [r53 24 (by decide) (by decide)]; exact t1, ?_, ?_, by rw [r53 17 (by decide) (by decide), ca 17 (by decide) (by decide)]; exact t4, fun c b1 b2 => ?_⟩, fun g hg => ?_, fun c s m b1 b2 b3 b4 => ?_, ?_⟩
  · unfold TyC; rw [ca 1 (by decide) (by decide), ca 2 (by decide) (by decide), ca 3 (by decide) (by decide)]; exact tC
  · unfold TyR; rw [ca 1 (by decide) (by decide), ca 2 (by decide) (by decide), ca 3 (by decide) (by decide), ra 54 (by decide) (by decide), ra 55 (by decide) (by decide), ra 56 (by decide) (by decide), r53 1 (by decide) (by decide)]; exact tR
  · unfold TyV; rw [ca 1 (by decide) (by decide), ca 2 (by decide) (by decide), ca 3 (by decide) (by decide), ca 4 (by decide) (by decide)]; exact tV
  · unfold ExC
    rw [c5, ca 7 (by decide) (by decide), ca 12 (by decide) (by decide), ca 13 (by decide) (by decide), ca 14 (by decide) (by decide), ca 15 (by decide) (by decide), ca 16 (by decide) (by decide), ca 17 (by decide) (by decide)]
    refine ⟨eC.1, fun e he => ?_⟩
    obtain ⟨l1, l2, l3, l4, l5, l6, l7, l8, l9⟩ := eC.2 e he
    exact ⟨l1, l2, l3, l4, l5, l6, fun z => by have := l7 z; omega, l8, l9⟩
  · unfold ExR
    rw [ca 12 (by decide) (by decide), ca 13 (by decide) (by decide), ca 14 (by decide) (by decide), ca 15 (by decide) (by decide), ca 16 (by decide) (by decide), r53 12 (by decide) (by decide), ra 63 (by decide) (by decide), ra 64 (by decide) (by decide), ra 65 (by decide) (by decide), ra 66 (by decide) (by decide)]
    exact eR
  · unfold ClT
    rw [c5, ca 1 (by decide) (by decide), ca 4 (by decide) (by decide), ca 7 (by decide) (by decide), ca 8 (by decide) (by decide), ra 59 (by decide) (by decide)]
    refine ⟨by omega, fun c hc => ?_⟩
    by_cases e : c = N'
    · subst e
      exact ⟨by omega, fun m hm => by omega⟩
    · exact clT.2 c (by omega)
  · unfold DfT
    rw [c5, ca 1 (by decide) (by decide), ca 4 (by decide) (by decide), ca 17 (by decide) (by decide), ca 19 (by decide) (by decide), ca 20 (by decide) (by decide), ca 21 (by decide) (by decide), ra 68 (by decide) (by decide), ra 69 (by decide) (by decide), ra 70 (by decide) (by decide), ra 71 (by decide) (by decide)]
    refine ⟨dfT.1, fun g hg => ?_⟩
    obtain ⟨b1, b2, b3, m, b4, b5, b6, b7⟩ := dfT.2 g hg
    refine ⟨b1, b2, b3, m, b4, b5, b6, fun i hi => ?_⟩
    obtain ⟨q1, c, v, q2, q3, q4⟩ := b7 i hi
    exact ⟨q1, c, v, q2, q3, by omega⟩
  · rw [r57, c6, ra 58 (by decide) (by decide), ca 7 (by decide) (by decide)]
    by_cases e : c = N'
    · rw [if_pos e, if_pos e, e]
      exact ⟨rfl, by omega, by omega⟩
    · rw [if_neg e, if_neg e]
      exact ct.2.1 c (by omega)
  · rw [ra 60 (by decide) (by decide), ra 61 (by decide) (by decide), ca 9 (by decide) (by decide), ca 10 (by decide) (by decide)]
    obtain ⟨z1, z2⟩ := ct.2.2 i hi
    refine ⟨z1, ?_⟩
    rcases z2 with z | ⟨y1, y2, y3, y4⟩
    · exact Or.inl z
    · exact Or.inr ⟨y1, by omega, y3, by omega⟩
  · rw [ca 9 (by decide) (by decide), ca 10 (by decide) (by decide)]
    rw [ca 9 (by decide) (by decide)] at b4
    have hc : c < N' := by
      rcases (ct.2.2 (3 * c + s) (by omega)).2 with z | ⟨_, y2, _⟩ <;> omega
    rw [c6, if_neg (by omega)] at b3
    obtain ⟨d1, d2⟩ := sp c s u hc b2 b3 b4
    refine ⟨d1, ?_⟩
    rcases d2 with z | ⟨x', y, z1, z2, z3⟩
    · exact Or.inl z
    · have xl : x' < N' := by
        rcases (ct.2.2 (3 * c + s) (by omega)).2 with w | ⟨_, _, _, w | w⟩ <;> omega
      exact Or.inr ⟨x', y, z1, z2, Rc_grow (CT_CW ct) (fun j hj => by rw [c6, if_neg (by omega)]) xl z3⟩
  · unfold WTm; rw [ra 73 (by decide) (by decide), ra 74 (by decide) (by decide), ra 75 (by decide) (by decide)]; exact t2
  · unfold ins18; rw [ca 9 (by decide) (by decide), ca 17 (by decide) (by decide)]; exact t3
  · rw [ca 7 (by decide) (by decide), ra 58 (by decide) (by decide)]
    exact t5 c (by omega) b2
  · rw [ca 17 (by decide) (by decide)] at hg
    exact UDf_next st ct t1 t2 gw gt (fun i _ _ => row i) h69 (by rw [ra 67 (by decide) (by decide)]) hg (df g hg)
  · rw [ca 9 (by decide) (by decide)] at b3
    rw [ca 7 (by decide) (by decide)] at b4
    have hc : c < N' := by
      rcases (ct.2.2 (3 * c + s) (by omega)).2 with z | ⟨_, y2, _⟩ <;> omega
    exact UMt_next st ct t1 t2 gw gt (fun i _ _ => row i) h69 ⟨by rw [ra 62 (by decide) (by decide)], by rw [ca 11 (by decide) (by decide)]⟩ hc b2 b3 b4 (mt c s m hc b2 b3 b4)
  · exact ValR_fr ⟨by rw [ca 47 (by decide) (by decide)], ca 52 (by decide) (by decide)⟩ ⟨r53 54 (by decide) (by decide), r53 55 (by decide) (by decide), r53 56 (by decide) (by decide), ra 94 (by decide) (by decide)⟩ vr
theorem type_call {Mc Mr : Mm} (rel : Rel Mc Mr) (x : Int) : Ans Mc Mr (f25 Mc x) (f194 Mr x) := by
  obtain ⟨N, NT, st, ct, _⟩ := id rel
  have n6 := ct.1.2.2
  have h5 := ct.1.1
  have h53 := ct.1.2.1
  have key : (x = -1 ∨ (0 ≤ x ∧ x < (N : Int))) → Ans Mc Mr ((f27 Mc).bind (fun q => if 6 ≤ q then (some (2, 0, Mc)) else (f28 Mc x).bind (fun z => some (0, z.1, z.2)))) (if ¬ (Mr 53 5) = 6 then (if 0 ≤ (Mr 53 5) ∧ (Mr 53 5) < 6 then (if rg ((Mr 53 5) + 1) then (if rg (((Mr 53 5) + 1) - 1) then (some ((((Mr 53 5) + 1) - 1), (up (up (up Mr 53 0 0) 57 (Int.toNat (Mr 53 5)) x) 53 5 ((Mr 53 5) + 1)))) else none) else none) else none) else (some (0, (up Mr 53 0 2)))) := by
    intro hx
    unfold f27 f28
    rw [bs_, h5, h53]
    by_cases e : (6 : Int) ≤ (N : Int)
    · rw [if_pos e, if_neg (show ¬ ¬ (N : Int) = 6 by omega)]
      exact Ans_thr rel (Or.inr rfl)
    · have b6 : 0 ≤ (N : Int) ∧ (N : Int) < 6 := by omega
      have g1 : rg ((N : Int) + 1) := by omega
      rw [if_neg e, if_pos (show ¬ (N : Int) = 6 by omega), if_pos b6, if_pos b6, if_pos g1, if_pos g1, if_pos (show rg ((N : Int) + 1 - 1) by omega), bs_, Int.toNat_natCast]
      refine ⟨0, _, _, _, _, rfl, rfl, ?_, by omega, fun _ => by dsimp only; omega, type_new rel h5 (by omega) hx, fun a ha => by dsimp only; rw [up_cell (by omega), up_cell (by omega)], fun a ha => by rw [up_cell (by omega), up_cell (by omega), up_cell (by omega)]⟩
      rw [up_at (by decide), up_cell (by decide), up_same]
  unfold f25 f194
  by_cases e : x = -1
  · rw [if_pos e, if_pos e]
    exact key (Or.inl e)
  · rw [if_neg e, if_neg e, f26_b, bs_, f195_b, bs_, h5, h53]
    rcases b01_01 (N : Int) x with z | ⟨z, z1, z2⟩
    · rw [if_pos z, if_pos z]
      exact Ans_thr rel (Or.inl rfl)
    · have nz : ¬ b01 (N : Int) x = 0 := by omega
      rw [if_neg nz, if_neg nz, ← h53]
      exact key (Or.inr ⟨z1, z2⟩)
