/-! The simple calls: method. -/
theorem shl1 : ∀ n : Fin 8, bShl 1 ((n.val : Nat) : Int) = ((2 ^ n.val : Nat) : Int) := by decide +kernel
theorem var_loop {Mc Mr : Mm} {t : Nat} (tC : TyC Mc) (tV : TyV Mc) (tR : TyR Mc Mr) (ht : (t : Int) < Mc 1 3) (d : Nat) : ∀ (x f : Nat) (R : Mm), x + d = t + 1 → d < f → (∀ a, a ≠ 80 → R a = Mr a) → (∀ i, i < x → R 80 i = Mc 4 i) → ∃ R', l197 f 2 R (t : Int) (x : Int) = some (Mc 4 t, R') ∧ ∀ a, a ≠ 80 → R' a = Mr a := by
  have c13 := tC.1
  induction d with
  | zero =>
    intro x f R hx hf h1 h2
    obtain ⟨f, rfl⟩ : ∃ f', f = f' + 1 := ⟨f - 1, by omega⟩
    refine ⟨R, ?_, h1⟩
    rw [l197, if_pos (by omega), if_pos (by omega), Int.toNat_natCast, h2 t (by omega)]
  | succ d ih =>
    intro x f R hx hf h1 h2
    obtain ⟨f, rfl⟩ : ∃ f', f = f' + 1 := ⟨f - 1, by omega⟩
    have x40 : 0 ≤ (x : Int) ∧ (x : Int) < 40 := by omega
    have x4k : 0 ≤ (x : Int) ∧ (x : Int) < 4000 := by omega
    have rx : rg ((x : Int) + 1) := by omega
    have ex : (x : Int) + 1 = ((x + 1 : Nat) : Int) := by omega
    have r54 : R 54 = Mr 54 := h1 54 (by decide)
    have r55 : R 55 = Mr 55 := h1 55 (by decide)
    have r56 : R 56 = Mr 56 := h1 56 (by decide)
    have go : ∀ v : Int, v = Mc 4 x → ∃ R', l197 f 2 (up R 80 x v) (t : Int) ((x + 1 : Nat) : Int) = some (Mc 4 t, R') ∧ ∀ a, a ≠ 80 → R' a = Mr a := fun v hv => by
      refine ih (x + 1) f (up R 80 x v) (by omega) (by omega) (fun a ha => by rw [up_cell ha, h1 a ha]) (fun i hi => ?_)
      by_cases e : i = x
      · rw [e, up_same, hv]
      · rw [up_at e, h2 i (by omega)]
    by_cases h10 : x < 10
    · have k := tR.2.1 x h10
      have v4 := tV.1 x h10
      by_cases x2 : x < 2
      · rw [if_pos x2] at k v4
        obtain ⟨R', g1, g2⟩ := go 0 v4.symm
        refine ⟨R', ?_, g2⟩
        rw [l197, if_neg (by omega), if_pos x40, Int.toNat_natCast, r54, if_pos (show ¬ Mr 54 x = 3 by omega), if_pos (show ¬ Mr 54 x = 4 by omega), if_pos (show ¬ Mr 54 x = 2 by omega), if_pos x4k, if_pos rx, ex, g1]
      · rw [if_neg x2] at k v4
        obtain ⟨R', g1, g2⟩ := go (bShl 1 ((x : Int) - 2)) (by rw [v4, show (x : Int) - 2 = ((x - 2 : Nat) : Int) by omega]; exact shl1 ⟨x - 2, by omega⟩)
        refine ⟨R', ?_, g2⟩
        rw [l197, if_neg (by omega), if_pos x40, Int.toNat_natCast, r54, if_pos (show ¬ Mr 54 x = 3 by omega), if_pos (show ¬ Mr 54 x = 4 by omega), if_neg (show ¬ ¬ Mr 54 x = 2 by omega), if_pos x4k, if_pos rx, ex, g1]
    · have w := tC.2 x (by omega) (by omega)
      obtain ⟨q1, q2⟩ := tR.2.2 x (by omega) (by omega)
      have v4 := tV.2 x (by omega) (by omega)
      have l0 : 0 ≤ Mr 55 x ∧ Mr 55 x < 4000 := by omega
      have vl := vars_rg tC tV ((Mc 2 x).toNat + 1) (Mc 2 x).toNat (by omega) (by omega)
      rcases q2 with ⟨z1, z2, z3⟩ | ⟨z1, z2, z3⟩
      · rw [if_pos z1] at v4
        obtain ⟨R', g1, g2⟩ := go (R 80 (Mr 55 x).toNat) (by
          rw [q1, h2 _ (by omega), v4]
          have := bOr_n (a := (Mc 4 (Mc 2 x).toNat).toNat) (b := 0) (by omega) (by decide)
          rw [Nat.or_zero, show (((Mc 4 (Mc 2 x).toNat).toNat : Nat) : Int) = Mc 4 (Mc 2 x).toNat by omega] at this
          exact this.symm)
        refine ⟨R', ?_, g2⟩
        rw [l197, if_neg (by omega), if_pos x40, Int.toNat_natCast, r54, if_neg (show ¬ ¬ Mr 54 x = 3 by omega), r55, if_pos l0, if_pos x4k, if_pos rx, ex, g1]
      · rw [if_neg z1] at v4
        have l1 : 0 ≤ Mr 56 x ∧ Mr 56 x < 4000 := by omega
        obtain ⟨R', g1, g2⟩ := go (bOr (R 80 (Mr 55 x).toNat) (R 80 (Mr 56 x).toNat)) (by rw [q1, z3, h2 _ (by omega), h2 _ (by omega), v4])
        refine ⟨R', ?_, g2⟩
        rw [l197, if_neg (by omega), if_pos x40, Int.toNat_natCast, r54, if_pos (show ¬ Mr 54 x = 3 by omega), if_neg (show ¬ ¬ Mr 54 x = 4 by omega), r55, if_pos l0, r56, if_pos l1, if_pos x4k, if_pos rx, ex, g1]
theorem meth_new {Mc Mr R : Mm} {N c mm t : Nat} (rel : Rel Mc Mr) (hR : ∀ a, a ≠ 80 → R a = Mr a) (h5 : Mc 5 6 = (N : Int)) (hc : c < N) (h7 : Mc 7 c = (mm : Int)) (h3 : mm < 3) (ht : (t : Int) < Mc 1 3) (h4 : Mc 4 t = 1) (hi : ∀ s, s < 3 → Mc 9 (3 * c + s) = 0) : Rel (up (up Mc 8 (3 * c + mm) (t : Int)) 7 c ((mm : Int) + 1)) (up (up (up R 53 0 0) 59 (3 * c + mm) (t : Int)) 58 c ((mm : Int) + 1)) := by
  obtain ⟨N', NT, st, ct, sp, ⟨t1, t2, t3, t4, t5⟩, df, mt, vr⟩ := id rel
  have eN : N' = N := by have := ct.1.1; omega
  subst eN
  have n6 := ct.1.2.2
  obtain ⟨tC, tR, tV, eC, eR, clT, dfT⟩ := id st
  have r58 : R 58 c = (mm : Int) := by rw [hR 58 (by decide), (ct.2.1 c hc).2.1]; exact h7
  generalize hC : up (up Mc 8 (3 * c + mm) (t : Int)) 7 c ((mm : Int) + 1) = C
  generalize hR' : up (up (up R 53 0 0) 59 (3 * c + mm) (t : Int)) 58 c ((mm : Int) + 1) = Q
  have ca : ∀ a, a ≠ 7 → a ≠ 8 → C a = Mc a := fun a h1 h2 => by rw [← hC, up_cell h1, up_cell h2]
  have c7 : ∀ i, C 7 i = if i = c then ((mm + 1 : Nat) : Int) else Mc 7 i := fun i => by
    rw [← hC]
    by_cases e : i = c
    · rw [e, up_same, if_pos rfl]; omega
    · rw [up_at e, if_neg e, up_cell (by decide)]
  have c8 : ∀ i, C 8 i = if i = 3 * c + mm then (t : Int) else Mc 8 i := fun i => by rw [← hC, up_cell (by decide)]; simp [up]
  have ra : ∀ a, a ≠ 53 → a ≠ 58 → a ≠ 59 → a ≠ 80 → Q a = Mr a := fun a h1 h2 h3 h4 => by rw [← hR', up_cell h2, up_cell h3, up_cell h1, hR a h4]
  have r53 : ∀ j, j ≠ 0 → Q 53 j = Mr 53 j := fun j hj => by rw [← hR', up_cell (by decide), up_cell (by decide), up_at hj, hR 53 (by decide)]
  have q58 : ∀ i, Q 58 i = if i = c then ((mm + 1 : Nat) : Int) else Mr 58 i := fun i => by
    rw [← hR']
    by_cases e : i = c
    · rw [e, up_same, if_pos rfl]; omega
    · rw [up_at e, if_neg e, up_cell (by decide), up_cell (by decide), hR 58 (by decide)]
  have q59 : ∀ i, Q 59 i = if i = 3 * c + mm then (t : Int) else Mr 59 i := fun i => by
    rw [← hR', up_cell (by decide)]
    by_cases e : i = 3 * c + mm
    · rw [e, up_same, if_pos rfl]
    · rw [up_at e, if_neg e, up_cell (by decide), hR 59 (by decide)]
  have gw : Gw Mc C := by
    have e : tabC C = tabC Mc := by unfold tabC; rw [ca 1 (by decide) (by decide), ca 2 (by decide) (by decide), ca 3 (by decide) (by decide)]
    refine ⟨by rw [e]; exact ext_refl _, ⟨by rw [ca 5 (by decide) (by decide)]; exact Int.le_refl _, fun c' hc' => ⟨by rw [ca 6 (by decide) (by decide)], ?_, fun m hm => ?_⟩⟩, ?_, ?_, ?_⟩
    · rw [c7]
      by_cases e : c' = c
      · rw [if_pos e, e, h7]; omega
      · rw [if_neg e]; exact Int.le_refl _
    · have l3 := (clT.2 c' hc').1
      rw [c8, if_neg]
      intro z
      have e : c' = c := by omega
      subst e
      omega
    · rw [ca 9 (by decide) (by decide), ca 10 (by decide) (by decide)]
      exact (Gw_refl Mc).2.2.1
    · rw [ca 12 (by decide) (by decide), ca 13 (by decide) (by decide), ca 14 (by decide) (by decide), ca 15 (by decide) (by decide), ca 16 (by decide) (by decide)]
      exact (Gw_refl Mc).2.2.2.1
    · rw [ca 17 (by decide) (by decide), ca 18 (by decide) (by decide), ca 19 (by decide) (by decide), ca 20 (by decide) (by decide), ca 21 (by decide) (by decide)]
      exact (Gw_refl Mc).2.2.2.2
  have gt : Gt Mr Q := Gt_fr (r53 24 (by decide)) ⟨ra 73 (by decide) (by decide) (by decide) (by decide), ra 74 (by decide) (by decide) (by decide) (by decide), ra 75 (by decide) (by decide) (by decide) (by decide)⟩
  have row : ∀ i, C 23 i = Mc 23 i ∧ Q 72 i = Mr 72 i := fun i => by
    rw [ca 23 (by decide) (by decide), ra 72 (by decide) (by decide) (by decide) (by decide)]
    exact ⟨rfl, rfl⟩
  have h69 : ∀ g : Nat, (g : Int) < Mc 17 4 → Q 69 g = Mr 69 g := fun g _ => by rw [ra 69 (by decide) (by decide) (by decide) (by decide)]
  refine ⟨N', NT, ⟨?_, ?_, ?_, ?_, ?_, ?_, ?_⟩, ⟨⟨by rw [ca 5 (by decide) (by decide)]; exact h5, by rw [r53 5 (by decide)]; exact ct.1.2.1, n6⟩, fun c' hc' => ?_, ?_⟩, ?_, ⟨by rw [r53 24 (by decide)]; exact t1, ?_, ?_, by rw [r53 17 (by decide), ca 17 (by decide) (by decide)]; exact t4, fun c' b1 b2 => ?_⟩, fun g hg => ?_, fun c' s m b1 b2 b3 b4 => ?_, ?_⟩
  · unfold TyC; rw [ca 1 (by decide) (by decide), ca 2 (by decide) (by decide), ca 3 (by decide) (by decide)]; exact tC
  · unfold TyR; rw [ca 1 (by decide) (by decide), ca 2 (by decide) (by decide), ca 3 (by decide) (by decide), ra 54 (by decide) (by decide) (by decide) (by decide), ra 55 (by decide) (by decide) (by decide) (by decide), ra 56 (by decide) (by decide) (by decide) (by decide), r53 1 (by decide)]; exact tR
  · unfold TyV; rw [ca 1 (by decide) (by decide), ca 2 (by decide) (by decide), ca 3 (by decide) (by decide), ca 4 (by decide) (by decide)]; exact tV
  · unfold ExC
    rw [ca 5 (by decide) (by decide), ca 12 (by decide) (by decide), ca 13 (by decide) (by decide), ca 14 (by decide) (by decide), ca 15 (by decide) (by decide), ca 16 (by decide) (by decide), ca 17 (by decide) (by decide)]
    refine ⟨eC.1, fun e he => ?_⟩
    obtain ⟨l1, l2, l3, l4, l5, l6, l7, l8, l9⟩ := eC.2 e he
    refine ⟨l1, l2, l3, l4, l5, l6, fun z => ?_, l8, l9⟩
    have := l7 z
    rw [c7]
    by_cases e' : (Mc 14 e).toNat = c
    · rw [if_pos e']
      rw [e'] at this
      omega
    · rw [if_neg e']; exact this
  · unfold ExR
    rw [ca 12 (by decide) (by decide), ca 13 (by decide) (by decide), ca 14 (by decide) (by decide), ca 15 (by decide) (by decide), ca 16 (by decide) (by decide), r53 12 (by decide), ra 63 (by decide) (by decide) (by decide) (by decide), ra 64 (by decide) (by decide) (by decide) (by decide), ra 65 (by decide) (by decide) (by decide) (by decide), ra 66 (by decide) (by decide) (by decide) (by decide)]
    exact eR
  · unfold ClT
    rw [ca 5 (by decide) (by decide), ca 1 (by decide) (by decide), ca 4 (by decide) (by decide)]
    refine ⟨clT.1, fun c' hc' => ?_⟩
    have l3 := (clT.2 c' hc').1
    rw [c7]
    by_cases e : c' = c
    · rw [if_pos e]
      refine ⟨by omega, fun m hm => ?_⟩
      rw [c8, q59]
      by_cases em : m = mm
      · rw [e, em, if_pos rfl, if_pos rfl, Int.toNat_natCast]
        exact ⟨rfl, by omega, h4⟩
      · rw [if_neg (by omega), if_neg (by omega)]
        exact (clT.2 c' hc').2 m (by rw [e, h7]; omega)
    · rw [if_neg e]
      refine ⟨l3, fun m hm => ?_⟩
      rw [c8, q59, if_neg (by omega), if_neg (by omega)]
      exact (clT.2 c' hc').2 m hm
  · unfold DfT
    rw [ca 5 (by decide) (by decide), ca 1 (by decide) (by decide), ca 4 (by decide) (by decide), ca 17 (by decide) (by decide), ca 19 (by decide) (by decide), ca 20 (by decide) (by decide), ca 21 (by decide) (by decide), ra 68 (by decide) (by decide) (by decide) (by decide), ra 69 (by decide) (by decide) (by decide) (by decide), ra 70 (by decide) (by decide) (by decide) (by decide), ra 71 (by decide) (by decide) (by decide) (by decide)]
    exact dfT
  · rw [ra 57 (by decide) (by decide) (by decide) (by decide), ca 6 (by decide) (by decide), q58, c7]
    obtain ⟨y1, y2, y3⟩ := ct.2.1 c' hc'
    by_cases e : c' = c
    · rw [if_pos e, if_pos e]
      exact ⟨y1, rfl, y3⟩
    · rw [if_neg e, if_neg e]
      exact ⟨y1, y2, y3⟩
  · rw [ra 60 (by decide) (by decide) (by decide) (by decide), ra 61 (by decide) (by decide) (by decide) (by decide), ca 9 (by decide) (by decide), ca 10 (by decide) (by decide)]
    exact ct.2.2
  · unfold SUP Rc; rw [ca 6 (by decide) (by decide), ca 9 (by decide) (by decide), ca 10 (by decide) (by decide)]; exact sp
  · unfold WTm; rw [ra 73 (by decide) (by decide) (by decide) (by decide), ra 74 (by decide) (by decide) (by decide) (by decide), ra 75 (by decide) (by decide) (by decide) (by decide)]; exact t2
  · unfold ins18; rw [ca 9 (by decide) (by decide), ca 17 (by decide) (by decide)]; exact t3
  · rw [c7, q58, if_neg (by omega), if_neg (by omega)]
    exact t5 c' b1 b2
  · rw [ca 17 (by decide) (by decide)] at hg
    exact UDf_next st ct t1 t2 gw gt (fun i _ _ => row i) h69 (by rw [ra 67 (by decide) (by decide) (by decide) (by decide)]) hg (df g hg)
  · rw [ca 9 (by decide) (by decide)] at b3
    have ne : c' ≠ c := fun z => by have := hi s b2; rw [z] at b3; omega
    rw [c7, if_neg ne] at b4
    exact UMt_next st ct t1 t2 gw gt (fun i _ _ => row i) h69 ⟨by rw [ra 62 (by decide) (by decide) (by decide) (by decide)], by rw [ca 11 (by decide) (by decide)]⟩ b1 b2 b3 b4 (mt c' s m b1 b2 b3 b4)
  · exact ValR_fr ⟨by rw [ca 47 (by decide) (by decide)], ca 52 (by decide) (by decide)⟩ ⟨r53 54 (by decide), r53 55 (by decide), r53 56 (by decide), ra 94 (by decide) (by decide) (by decide) (by decide)⟩ vr
