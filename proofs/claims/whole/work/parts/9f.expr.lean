/-! The simple calls: expressions. -/
def szE (M : Mm) (k : Int) (a b : Int) : Int := if ¬ k = 3 then (if ¬ k = 4 then 1 else 1 + M 16 a.toNat + M 16 b.toNat) else 1 + M 16 a.toNat
/-- what a new expression must be -/
def okE (M : Mm) (k a b : Int) : Prop := (0 ≤ k ∧ k ≤ 6) ∧ (k = 1 → 0 ≤ a ∧ a < 8) ∧ (k = 2 → 0 ≤ a ∧ a < 10) ∧ (k = 3 → 0 ≤ a ∧ a < M 12 4) ∧ (k = 4 → (0 ≤ a ∧ a < M 12 4) ∧ 0 ≤ b ∧ b < M 12 4) ∧ (k = 5 → (0 ≤ a ∧ a < M 5 6) ∧ 0 ≤ b ∧ b < M 7 a.toNat) ∧ (k = 6 → 0 ≤ a ∧ a < M 17 4)
theorem szE_rg {M : Mm} {k a b : Int} (eC : ExC M) (h : okE M k a b) : 1 ≤ szE M k a b ∧ szE M k a b ≤ 121 := by
  unfold szE
  by_cases k3 : k = 3
  · have := h.2.2.2.1 k3
    have := (eC.2 a.toNat (by omega)).2.1
    rw [if_neg (fun z => z k3)]
    omega
  · rw [if_pos k3]
    by_cases k4 : k = 4
    · have := h.2.2.2.2.1 k4
      have := (eC.2 a.toNat (by omega)).2.1
      have := (eC.2 b.toNat (by omega)).2.1
      rw [if_neg (fun z => z k4)]
      omega
    · rw [if_pos k4]; omega
theorem f40_eq {M M' : Mm} {k a b : Int} (eC : ExC M) (h : okE M k a b) (e : M' 16 = M 16) : f40 M' k a b = some (szE M k a b) := by
  have c12 := eC.1
  have sz := szE_rg eC h
  by_cases k3 : k = 3
  · have n3 : ¬ ¬ k = 3 := fun z => z k3
    have o := h.2.2.2.1 k3
    have e1 : szE M k a b = 1 + M 16 a.toNat := by unfold szE; rw [if_neg n3]
    rw [e1] at sz
    unfold f40
    rw [if_neg n3, if_pos (show 0 ≤ a ∧ a < 200 by omega), e, if_pos (show rg ((1 : Int) + M 16 a.toNat) by omega), e1]
  · by_cases k4 : k = 4
    · have n4 : ¬ ¬ k = 4 := fun z => z k4
      have o := h.2.2.2.2.1 k4
      have e1 : szE M k a b = 1 + M 16 a.toNat + M 16 b.toNat := by unfold szE; rw [if_pos k3, if_neg n4]
      rw [e1] at sz
      unfold f40
      rw [if_pos k3, if_neg n4, if_pos (show 0 ≤ a ∧ a < 200 by omega), if_pos (show 0 ≤ b ∧ b < 200 by omega), e, if_pos (show rg ((1 : Int) + M 16 a.toNat + M 16 b.toNat) by omega), e1]
    · have e1 : szE M k a b = 1 := by unfold szE; rw [if_pos k3, if_pos k4]
      unfold f40
      rw [if_pos k3, if_pos k4, e1]
/-- an expression more, here and there -/
theorem exp_ok {Mc Mr : Mm} {k a b b' : Int} (rel : Rel Mc Mr) (ok : okE Mc k a b) (hb : (k = 4 ∨ k = 5) → b' = b) :
    ∃ Mc' Mr', Mc 12 4 < 200 → szE Mc k a b ≤ 60 → f41 Mc k a b = some (Mc 12 4, Mc') ∧ f201 (up Mr 53 0 0) k a b' (szE Mc k a b) = some (Mc 12 4, Mr') ∧ Rel Mc' Mr' ∧ FrC Mc Mc' ∧ FrR Mr Mr' ∧ Mr' 53 0 = 0 := by
  have rel0 := Rel_0 0 rel
  obtain ⟨N, NT, st, ct, sp, ⟨t1, t2, t3, t4, t5⟩, df, mt, vr⟩ := id rel0
  obtain ⟨tC, tR, tV, eC, eR, clT, dfT⟩ := id st
  have c12 := eC.1
  obtain ⟨E, hE⟩ : ∃ E : Nat, Mc 12 4 = (E : Int) := ⟨(Mc 12 4).toNat, by omega⟩
  have sz := szE_rg eC ok
  have rE : (up Mr 53 0 0) 53 12 = (E : Int) := by rw [eR.1]; exact hE
  let C1 := up (up (up (up (up Mc 13 E k) 14 E a) 15 E b) 16 E (szE Mc k a b)) 12 4 ((E : Int) + 1)
  let R1 := up (up (up (up (up (up Mr 53 0 0) 63 E k) 64 E a) 65 E b') 66 E (szE Mc k a b)) 53 12 ((E : Int) + 1)
  refine ⟨C1, R1, fun h200 h60 => ?_⟩
  have E200 : E < 200 := by omega
  have cc : ∀ x, x ≠ 12 → x ≠ 13 → x ≠ 14 → x ≠ 15 → x ≠ 16 → C1 x = Mc x := fun x h1 h2 h3 h4 h5 => by
    show (up (up (up (up (up Mc 13 E k) 14 E a) 15 E b) 16 E (szE Mc k a b)) 12 4 ((E : Int) + 1)) x = _
    rw [up_cell h1, up_cell h5, up_cell h4, up_cell h3, up_cell h2]
  have c1 : C1 12 4 = ((E + 1 : Nat) : Int) := by
    show (up (up (up (up (up Mc 13 E k) 14 E a) 15 E b) 16 E (szE Mc k a b)) 12 4 ((E : Int) + 1)) 12 4 = _
    rw [up_same]; omega
  have c13 : ∀ i, C1 13 i = if i = E then k else Mc 13 i := fun i => by
    show (up (up (up (up (up Mc 13 E k) 14 E a) 15 E b) 16 E (szE Mc k a b)) 12 4 ((E : Int) + 1)) 13 i = _
    rw [up_cell (by decide), up_cell (by decide), up_cell (by decide), up_cell (by decide)]; simp [up]
  have c14 : ∀ i, C1 14 i = if i = E then a else Mc 14 i := fun i => by
    show (up (up (up (up (up Mc 13 E k) 14 E a) 15 E b) 16 E (szE Mc k a b)) 12 4 ((E : Int) + 1)) 14 i = _
    rw [up_cell (by decide), up_cell (by decide), up_cell (by decide)]
    by_cases e : i = E
    · rw [e, up_same, if_pos rfl]
    · rw [up_at e, if_neg e, up_cell (by decide)]
  have c15 : ∀ i, C1 15 i = if i = E then b else Mc 15 i := fun i => by
    show (up (up (up (up (up Mc 13 E k) 14 E a) 15 E b) 16 E (szE Mc k a b)) 12 4 ((E : Int) + 1)) 15 i = _
    rw [up_cell (by decide), up_cell (by decide)]
    by_cases e : i = E
    · rw [e, up_same, if_pos rfl]
    · rw [up_at e, if_neg e, up_cell (by decide), up_cell (by decide)]
  have c16 : ∀ i, C1 16 i = if i = E then szE Mc k a b else Mc 16 i := fun i => by
    show (up (up (up (up (up Mc 13 E k) 14 E a) 15 E b) 16 E (szE Mc k a b)) 12 4 ((E : Int) + 1)) 16 i = _
    rw [up_cell (by decide)]
    by_cases e : i = E
    · rw [e, up_same, if_pos rfl]
    · rw [up_at e, if_neg e, up_cell (by decide), up_cell (by decide), up_cell (by decide)]
  have rr : ∀ x, x ≠ 53 → x ≠ 63 → x ≠ 64 → x ≠ 65 → x ≠ 66 → R1 x = Mr x := fun x h1 h2 h3 h4 h5 => by
    show (up (up (up (up (up (up Mr 53 0 0) 63 E k) 64 E a) 65 E b') 66 E (szE Mc k a b)) 53 12 ((E : Int) + 1)) x = _
    rw [up_cell h1, up_cell h5, up_cell h4, up_cell h3, up_cell h2, up_cell h1]
  have r53 : ∀ j, j ≠ 12 → R1 53 j = (up Mr 53 0 0) 53 j := fun j hj => by
    show (up (up (up (up (up (up Mr 53 0 0) 63 E k) 64 E a) 65 E b') 66 E (szE Mc k a b)) 53 12 ((E : Int) + 1)) 53 j = _
    rw [up_at hj, up_cell (by decide), up_cell (by decide), up_cell (by decide), up_cell (by decide)]
  have r12 : R1 53 12 = ((E + 1 : Nat) : Int) := by
    show (up (up (up (up (up (up Mr 53 0 0) 63 E k) 64 E a) 65 E b') 66 E (szE Mc k a b)) 53 12 ((E : Int) + 1)) 53 12 = _
    rw [up_same]; omega
  have r63 : ∀ i, R1 63 i = if i = E then k else Mr 63 i := fun i => by
    show (up (up (up (up (up (up Mr 53 0 0) 63 E k) 64 E a) 65 E b') 66 E (szE Mc k a b)) 53 12 ((E : Int) + 1)) 63 i = _
    rw [up_cell (by decide), up_cell (by decide), up_cell (by decide), up_cell (by decide)]
    by_cases e : i = E
    · rw [e, up_same, if_pos rfl]
    · rw [up_at e, if_neg e, up_cell (by decide)]
  have r64 : ∀ i, R1 64 i = if i = E then a else Mr 64 i := fun i => by
    show (up (up (up (up (up (up Mr 53 0 0) 63 E k) 64 E a) 65 E b') 66 E (szE Mc k a b)) 53 12 ((E : Int) + 1)) 64 i = _
    rw [up_cell (by decide), up_cell (by decide), up_cell (by decide)]
    by_cases e : i = E
    · rw [e, up_same, if_pos rfl]
    · rw [up_at e, if_neg e, up_cell (by decide), up_cell (by decide)]
  have r65 : ∀ i, R1 65 i = if i = E then b' else Mr 65 i := fun i => by
    show (up (up (up (up (up (up Mr 53 0 0) 63 E k) 64 E a) 65 E b') 66 E (szE Mc k a b)) 53 12 ((E : Int) + 1)) 65 i = _
    rw [up_cell (by decide), up_cell (by decide)]
    by_cases e : i = E
    · rw [e, up_same, if_pos rfl]
    · rw [up_at e, if_neg e, up_cell (by decide), up_cell (by decide), up_cell (by decide)]
  have r66 : ∀ i, R1 66 i = if i = E then szE Mc k a b else Mr 66 i := fun i => by
    show (up (up (up (up (up (up Mr 53 0 0) 63 E k) 64 E a) 65 E b') 66 E (szE Mc k a b)) 53 12 ((E : Int) + 1)) 66 i = _
    rw [up_cell (by decide)]
    by_cases e : i = E
    · rw [e, up_same, if_pos rfl]
    · rw [up_at e, if_neg e, up_cell (by decide), up_cell (by decide), up_cell (by decide), up_cell (by decide)]
  have gw : Gw Mc C1 := by
    have e : tabC C1 = tabC Mc := by unfold tabC; rw [cc 1 (by decide) (by decide) (by decide) (by decide) (by decide), cc 2 (by decide) (by decide) (by decide) (by decide) (by decide), cc 3 (by decide) (by decide) (by decide) (by decide) (by decide)]
    refine ⟨by rw [e]; exact ext_refl _, ?_, ?_, ⟨by omega, fun e' he' => ?_⟩, ?_⟩
    · rw [cc 5 (by decide) (by decide) (by decide) (by decide) (by decide), cc 6 (by decide) (by decide) (by decide) (by decide) (by decide), cc 7 (by decide) (by decide) (by decide) (by decide) (by decide), cc 8 (by decide) (by decide) (by decide) (by decide) (by decide)]
      exact (Gw_refl Mc).2.1
    · rw [cc 9 (by decide) (by decide) (by decide) (by decide) (by decide), cc 10 (by decide) (by decide) (by decide) (by decide) (by decide)]
      exact (Gw_refl Mc).2.2.1
    · rw [c13, c14, c15, c16, if_neg (by omega), if_neg (by omega), if_neg (by omega), if_neg (by omega)]
      exact ⟨rfl, rfl, rfl, rfl⟩
    · rw [cc 17 (by decide) (by decide) (by decide) (by decide) (by decide), cc 18 (by decide) (by decide) (by decide) (by decide) (by decide), cc 19 (by decide) (by decide) (by decide) (by decide) (by decide), cc 20 (by decide) (by decide) (by decide) (by decide) (by decide), cc 21 (by decide) (by decide) (by decide) (by decide) (by decide)]
      exact (Gw_refl Mc).2.2.2.2
  have u0 : ∀ x, x ≠ 53 → (up Mr 53 0 0) x = Mr x := fun x hx => up_cell hx
  have gt : Gt (up Mr 53 0 0) R1 := Gt_fr (r53 24 (by decide)) ⟨by rw [rr 73 (by decide) (by decide) (by decide) (by decide) (by decide), u0 73 (by decide)], by rw [rr 74 (by decide) (by decide) (by decide) (by decide) (by decide), u0 74 (by decide)], by rw [rr 75 (by decide) (by decide) (by decide) (by decide) (by decide), u0 75 (by decide)]⟩
  have row : ∀ i, C1 23 i = Mc 23 i ∧ R1 72 i = (up Mr 53 0 0) 72 i := fun i => by
    rw [cc 23 (by decide) (by decide) (by decide) (by decide) (by decide), rr 72 (by decide) (by decide) (by decide) (by decide) (by decide), u0 72 (by decide)]
    exact ⟨rfl, rfl⟩
  have h69 : ∀ g : Nat, (g : Int) < Mc 17 4 → R1 69 g = (up Mr 53 0 0) 69 g := fun g _ => by rw [rr 69 (by decide) (by decide) (by decide) (by decide) (by decide), u0 69 (by decide)]
  have ec1 : ExC C1 := by
    refine ⟨by omega, fun e' he' => ?_⟩
    rw [c13, c14, c15, c16, cc 5 (by decide) (by decide) (by decide) (by decide) (by decide), cc 7 (by decide) (by decide) (by decide) (by decide) (by decide), cc 17 (by decide) (by decide) (by decide) (by decide) (by decide)]
    by_cases e : e' = E
    · rw [if_pos e, if_pos e, if_pos e, if_pos e]
      obtain ⟨o0, o1, o2, o3, o4, o5, o6⟩ := ok
      refine ⟨o0, by omega, o1, o2, fun k3 => ?_, fun k4 => ?_, fun k5 => ?_, fun k6 => ?_, fun k3 k4 => ?_⟩
      · have := o3 k3
        refine ⟨by omega, by omega, ?_⟩
        unfold szE
        rw [if_neg (fun z => z k3), c16, if_neg (by omega)]
      · have := o4 k4
        refine ⟨by omega, by omega, by omega, by omega, ?_⟩
        unfold szE
        rw [if_pos (by omega), if_neg (fun z => z k4), c16, if_neg (by omega), c16, if_neg (by omega)]
      · have := o5 k5; omega
      · have := o6 k6; omega
      · unfold szE
        rw [if_pos k3, if_pos k4]
    · rw [if_neg e, if_neg e, if_neg e, if_neg e]
      obtain ⟨l1, l2, l3, l4, l5, l6, l7, l8, l9⟩ := eC.2 e' (by omega)
      refine ⟨l1, l2, l3, l4, fun z => ?_, fun z => ?_, l7, l8, l9⟩
      · have := l5 z
        rw [c16, if_neg (by omega)]
        exact this
      · have := l6 z
        rw [c16, if_neg (by omega), c16, if_neg (by omega)]
        exact this
  have er1 : ExR C1 R1 := by
    refine ⟨by rw [r12, c1], fun e' he' => ?_⟩
    rw [c13, c14, c15, c16, r63, r64, r65, r66]
    by_cases e : e' = E
    · rw [if_pos e, if_pos e, if_pos e, if_pos e, if_pos e, if_pos e, if_pos e, if_pos e]
      exact ⟨rfl, rfl, hb, rfl⟩
    · rw [if_neg e, if_neg e, if_neg e, if_neg e, if_neg e, if_neg e, if_neg e, if_neg e]
      have := eR.2 e' (by omega)
      rw [u0 63 (by decide), u0 64 (by decide), u0 65 (by decide), u0 66 (by decide)] at this
      exact this
  have ra : ∀ x, (54 ≤ x ∧ x ≤ 62) ∨ (67 ≤ x ∧ x ≤ 75) → R1 x = (up Mr 53 0 0) x := fun x hx => by rw [rr x (by omega) (by omega) (by omega) (by omega) (by omega), u0 x (by omega)]
  have ca : ∀ x, x < 12 ∨ (17 ≤ x) → C1 x = Mc x := fun x hx => cc x (by omega) (by omega) (by omega) (by omega) (by omega)
  refine ⟨?_, ?_, ⟨N, NT, ⟨?_, ?_, ?_, ec1, er1, ?_, ?_⟩, ?_, ?_, ⟨by rw [r53 24 (by decide)]; exact t1, ?_, ?_, by rw [r53 17 (by decide), ca 17 (by omega)]; exact t4, by unfold Zc; rw [ca 7 (by omega), ra 58 (by omega)]; exact t5⟩, fun g hg => ?_, fun c s m b1 b2 b3 b4 => ?_, ?_⟩, ?_, ?_, ?_⟩
  · unfold f41
    rw [hE, if_pos (by omega), Int.toNat_natCast, f40_eq eC ok (by rw [up_cell (by decide), up_cell (by decide), up_cell (by decide)]), bs_, if_pos (by omega)]
  · unfold f201
    rw [rE, if_pos (by omega), if_pos (by omega), if_pos (by omega), Int.toNat_natCast, hE, show (E : Int) + 1 - 1 = (E : Int) by omega]
  · unfold TyC; rw [ca 1 (by omega), ca 2 (by omega), ca 3 (by omega)]; exact tC
  · unfold TyR; rw [ca 1 (by omega), ca 2 (by omega), ca 3 (by omega), ra 54 (by omega), ra 55 (by omega), ra 56 (by omega), r53 1 (by decide)]; exact tR
  · unfold TyV; rw [ca 1 (by omega), ca 2 (by omega), ca 3 (by omega), ca 4 (by omega)]; exact tV
  · unfold ClT; rw [ca 1 (by omega), ca 4 (by omega), ca 5 (by omega), ca 7 (by omega), ca 8 (by omega), ra 59 (by omega)]; exact clT
  · unfold DfT; rw [ca 1 (by omega), ca 4 (by omega), ca 5 (by omega), ca 17 (by omega), ca 19 (by omega), ca 20 (by omega), ca 21 (by omega), ra 68 (by omega), ra 69 (by omega), ra 70 (by omega), ra 71 (by omega)]; exact dfT
  · unfold CT; rw [ca 5 (by omega), ca 6 (by omega), ca 7 (by omega), ca 9 (by omega), ca 10 (by omega), r53 5 (by decide), ra 57 (by omega), ra 58 (by omega), ra 60 (by omega), ra 61 (by omega)]; exact ct
  · unfold SUP Rc; rw [ca 6 (by omega), ca 9 (by omega), ca 10 (by omega)]; exact sp
  · unfold WTm; rw [ra 73 (by omega), ra 74 (by omega), ra 75 (by omega)]; exact t2
  · unfold ins18; rw [ca 9 (by omega), ca 17 (by omega)]; exact t3
  · rw [ca 17 (by omega)] at hg
    exact UDf_next st ct t1 t2 gw gt (fun i _ _ => row i) h69 (by rw [ra 67 (by omega)]) hg (df g hg)
  · rw [ca 9 (by omega)] at b3
    rw [ca 7 (by omega)] at b4
    exact UMt_next st ct t1 t2 gw gt (fun i _ _ => row i) h69 ⟨by rw [ra 62 (by omega)], by rw [ca 11 (by omega)]⟩ b1 b2 b3 b4 (mt c s m b1 b2 b3 b4)
  · exact ValR_fr ⟨by rw [ca 47 (by omega)], ca 52 (by omega)⟩ ⟨r53 54 (by decide), r53 55 (by decide), r53 56 (by decide), by rw [rr 94 (by decide) (by decide) (by decide) (by decide) (by decide), u0 94 (by decide)]⟩ vr
  · exact fun x hx => ca x (by omega)
  · exact fun x hx => rr x (by omega) (by omega) (by omega) (by omega) (by omega)
  · rw [r53 0 (by decide)]; exact up_same _ _ _ _
