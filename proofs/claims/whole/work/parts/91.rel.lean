/-! The class and the reference side by side, between calls. -/
def Asm (M : Mm) (g : Nat) (c : Nat) (v : Int) : Prop := ∃ i w : Nat, (i : Int) < M 20 g ∧ v = (w : Int) ∧ w < 8 ∧ M 21 (8 * g + i) = ((8 * c + w : Nat) : Int)
def Mth (ctx : Int) (c : Nat) (v : Int) : Prop := v = 0 ∧ ctx = (c : Int)
def shT (s : Nat) : Ty := if s = 0 then tI else if s = 1 then tB else tL (tV 0)
/-- what an instance asks of the class above -/
def SUP (M : Mm) (N : Nat) : Prop := ∀ c s u : Nat, c < N → s < 3 → M 6 c = (u : Int) → M 9 (3 * c + s) = 1 → M 9 (3 * u + s) = 1 ∧ (M 10 (3 * u + s) = -1 ∨ ∃ x y : Nat, M 10 (3 * c + s) = (x : Int) ∧ M 10 (3 * u + s) = (y : Int) ∧ Rc M (x : Int) (y : Int))
def ValR (Mc Mr : Mm) : Prop := (Mr 53 54 = 0 ∧ Mc 47 16 = -1) ∨ (Mr 53 54 = 1 ∧ ∃ k : Nat, k ≤ 301 ∧ Mc 47 16 = (k : Int) ∧ Mr 53 56 = (k : Int) ∧ (Mr 53 55 = 1 ∨ (Mr 53 55 = 0 ∧ k = 1)) ∧ ∀ i, i < k → Mc 52 i = Mr 94 i)
def ins18 (M : Mm) : Nat := cn (fun i => decide (M 9 i = 1)) 18
/-- classes that are not yet there have no methods -/
def Zc (Mc Mr : Mm) (N : Nat) : Prop := ∀ c : Nat, N ≤ c → c < 6 → Mc 7 c = 0 ∧ Mr 58 c = 0
def UDf (Mc Mr : Mm) (g : Nat) : Prop := Mr 67 g = Mc 18 g ∧ ∃ e : Nat, Mc 18 g = (e : Int) ∧ UOK Mc Mr g e (Asm Mc g) (dt Mc (Mc 19 g).toNat)
def UMt (Mc Mr : Mm) (c s m : Nat) : Prop := Mr 62 (9 * c + 3 * s + m) = Mc 11 (9 * c + 3 * s + m) ∧ ∃ e : Nat, Mc 11 (9 * c + 3 * s + m) = (e : Int) ∧ UOK Mc Mr (20 + (9 * c + 3 * s + m)) e (Mth (Mc 10 (3 * c + s))) (sub (fun _ => shT s) (dt Mc (Mc 8 (3 * c + m)).toNat))
def Rl (Mc Mr : Mm) (N NT : Nat) : Prop := Stat Mc Mr ∧ CT Mc Mr N ∧ SUP Mc N ∧ (Mr 53 24 = (NT : Int) ∧ WTm Mr NT ∧ NT ≤ 2560 * ((Mc 17 4).toNat + 3 * ins18 Mc) ∧ Mr 53 17 = Mc 17 4 ∧ Zc Mc Mr N) ∧ (∀ g : Nat, (g : Int) < Mc 17 4 → UDf Mc Mr g) ∧ (∀ c s m : Nat, c < N → s < 3 → Mc 9 (3 * c + s) = 1 → (m : Int) < Mc 7 c → UMt Mc Mr c s m) ∧ ValR Mc Mr
def Rel (Mc Mr : Mm) : Prop := ∃ N NT : Nat, Rl Mc Mr N NT
/-- everything that is needed to carry units on -/
theorem U_next {Mc Mr Mc' Mr' : Mm} {N NT un e : Nat} {A B : Nat → Int → Prop} {top : Ty} (st : Stat Mc Mr) (ct : CT Mc Mr N) (hN : Mr 53 24 = (NT : Int)) (hw : WTm Mr NT) (g : Gw Mc Mc') (gt : Gt Mr Mr') (h23 : ∀ i, 480 * un ≤ i → i < 480 * un + 480 → Mc' 23 i = Mc 23 i ∧ Mr' 72 i = Mr 72 i) (h69 : ∀ g : Nat, (g : Int) < Mc 17 4 → Mr' 69 g = Mr 69 g) (hA : ∀ c v, A c v → c < N) (hAB : ∀ c v, A c v → B c v) (h : UOK Mc Mr un e A top) : UOK Mc' Mr' un e B top := by
  obtain ⟨tC, tR, tV, eC, eR, clT, dfT⟩ := st
  refine U_grow (CT_CW ct) tC eC (fun c hc m hm => ((clT.2 c hc).2 m hm).2.1) (fun g hg => ?_) hN hw g gt h23 h69 hA hAB h
  obtain ⟨d1, d2, d3, m, d4, d5, d6, d7⟩ := dfT.2 g hg
  refine ⟨d2, by omega, by omega, by omega, fun i hi => ?_⟩
  obtain ⟨c, v, q1, q2, q3⟩ := (d7 i hi).2
  exact ⟨c, v, q1, by omega, q3⟩
theorem Asm_lt {Mc Mr : Mm} {N g : Nat} (dfT : DfT Mc Mr) (h5 : Mc 5 6 = (N : Int)) (hg : (g : Int) < Mc 17 4) : ∀ c v, Asm Mc g c v → c < N := fun c v h => by
  obtain ⟨i, w, h1, h2, h3, h4⟩ := h
  obtain ⟨d1, d2, d3, m, d4, d5, d6, d7⟩ := dfT.2 g hg
  obtain ⟨c', v', q1, q2, q3⟩ := (d7 i h1).2
  omega
theorem Asm_grow {Mc Mc' : Mm} {g : Nat} (gw : Gw Mc Mc') (hg : (g : Int) < Mc 17 4) (h8 : Mc 20 g ≤ 8) : ∀ c v, Asm Mc g c v → Asm Mc' g c v := fun c v h => by
  obtain ⟨i, w, h1, h2, h3, h4⟩ := h
  obtain ⟨g1, g2, g3, g4⟩ := gw.2.2.2.2.2 g hg
  exact ⟨i, w, by omega, h2, h3, by rw [g4 i (by omega)]; exact h4⟩
theorem UDf_next {Mc Mr Mc' Mr' : Mm} {N NT g0 : Nat} (st : Stat Mc Mr) (ct : CT Mc Mr N) (hN : Mr 53 24 = (NT : Int)) (hw : WTm Mr NT) (g : Gw Mc Mc') (gt : Gt Mr Mr') (h23 : ∀ i, 480 * g0 ≤ i → i < 480 * g0 + 480 → Mc' 23 i = Mc 23 i ∧ Mr' 72 i = Mr 72 i) (h69 : ∀ g : Nat, (g : Int) < Mc 17 4 → Mr' 69 g = Mr 69 g) (h67 : Mr' 67 g0 = Mr 67 g0) (hg : (g0 : Int) < Mc 17 4) (h : UDf Mc Mr g0) : UDf Mc' Mr' g0 := by
  obtain ⟨a, e, b, c⟩ := h
  obtain ⟨g1, g2, g3, g4⟩ := g.2.2.2.2.2 g0 hg
  have st0 := st
  obtain ⟨tC, tR, tV, eC, eR, clT, dfT⟩ := st
  have d := dfT.2 g0 hg
  refine ⟨by rw [h67, g1]; exact a, e, by rw [g1]; exact b, ?_⟩
  obtain ⟨t, ht⟩ : ∃ t : Nat, Mc 19 g0 = (t : Int) := ⟨(Mc 19 g0).toNat, by omega⟩
  rw [ht, Int.toNat_natCast] at c
  rw [g2, ht, Int.toNat_natCast, dt_ext tC g.1 (by omega)]
  exact U_next st0 ct hN hw g gt h23 h69 (Asm_lt dfT ct.1.1 hg) (Asm_grow g hg (by omega)) c
theorem UMt_next {Mc Mr Mc' Mr' : Mm} {N NT c s m : Nat} (st : Stat Mc Mr) (ct : CT Mc Mr N) (hN : Mr 53 24 = (NT : Int)) (hw : WTm Mr NT) (g : Gw Mc Mc') (gt : Gt Mr Mr') (h23 : ∀ i, 480 * (20 + (9 * c + 3 * s + m)) ≤ i → i < 480 * (20 + (9 * c + 3 * s + m)) + 480 → Mc' 23 i = Mc 23 i ∧ Mr' 72 i = Mr 72 i) (h69 : ∀ g : Nat, (g : Int) < Mc 17 4 → Mr' 69 g = Mr 69 g) (h62 : Mr' 62 (9 * c + 3 * s + m) = Mr 62 (9 * c + 3 * s + m) ∧ Mc' 11 (9 * c + 3 * s + m) = Mc 11 (9 * c + 3 * s + m)) (hc : c < N) (hs : s < 3) (hp : Mc 9 (3 * c + s) = 1) (hm : (m : Int) < Mc 7 c) (h : UMt Mc Mr c s m) : UMt Mc' Mr' c s m := by
  obtain ⟨a, e, b, u⟩ := h
  have st0 := st
  obtain ⟨tC, tR, tV, eC, eR, clT, dfT⟩ := st
  have n6 := ct.1.2.2
  have h5 := ct.1.1
  have cl := (clT.2 c (by omega)).2 m hm
  have i18 : 3 * c + s < 18 := by omega
  obtain ⟨g1, g2⟩ := g.2.2.1 _ i18 hp
  have m8 := (g.2.1.2 c (by omega)).2.2 m hm
  refine ⟨by rw [h62.1, h62.2]; exact a, e, by rw [h62.2]; exact b, ?_⟩
  obtain ⟨t, ht⟩ : ∃ t : Nat, Mc 8 (3 * c + m) = (t : Int) := ⟨(Mc 8 (3 * c + m)).toNat, by omega⟩
  rw [ht, Int.toNat_natCast] at u
  rw [g2, m8, ht, Int.toNat_natCast, dt_ext tC g.1 (by omega)]
  refine U_next st0 ct hN hw g gt h23 h69 (fun c' v z => ?_) (fun _ _ z => z) u
  rcases (CT_CW ct).2.2.2 _ i18 hp with ⟨_, y | y⟩
  · have := z.2; omega
  · have := z.2; omega
/-! Frames. -/
theorem Gw_fr {M M' : Mm} (h : ∀ a, a < 23 → M' a = M a) : Gw M M' := by
  have e : tabC M' = tabC M := by unfold tabC; rw [h 1 (by decide), h 2 (by decide), h 3 (by decide)]
  unfold Gw
  rw [e, h 5 (by decide), h 6 (by decide), h 7 (by decide), h 8 (by decide), h 9 (by decide), h 10 (by decide), h 12 (by decide), h 13 (by decide), h 14 (by decide), h 15 (by decide), h 16 (by decide), h 17 (by decide), h 18 (by decide), h 19 (by decide), h 20 (by decide), h 21 (by decide)]
  exact Gw_refl M
theorem Gt_fr {M M' : Mm} (h53 : M' 53 24 = M 53 24) (h : M' 73 = M 73 ∧ M' 74 = M 74 ∧ M' 75 = M 75) : Gt M M' := by
  unfold Gt
  rw [h53, h.1, h.2.1, h.2.2]
  exact ⟨Int.le_refl _, fun _ _ => ⟨rfl, rfl, rfl⟩⟩
/-- tables as before: all as before -/
theorem Rel_fr {Mc Mr Nc Nr : Mm} (h1 : ∀ a, a < 24 → Nc a = Mc a) (h2 : ∀ a, 54 ≤ a → a ≤ 75 → Nr a = Mr a) (h3 : ∀ k, k < 28 → k ≠ 0 → Nr 53 k = Mr 53 k) (hv : ValR Nc Nr) (h : Rel Mc Mr) : Rel Nc Nr := by
  obtain ⟨N, NT, st, ct, sp, ⟨t1, t2, t3, t4, t5⟩, df, mt, vr⟩ := h
  have gw : Gw Mc Nc := Gw_fr (fun a ha => h1 a (by omega))
  have gt : Gt Mr Nr := Gt_fr (h3 24 (by decide) (by decide)) ⟨h2 73 (by decide) (by decide), h2 74 (by decide) (by decide), h2 75 (by decide) (by decide)⟩
  have st' : Stat Nc Nr := by
    have s1 : Stat Nc (up Nr 53 0 (Mr 53 0)) := Stat_fr (Mc := Mc) (Mr := Mr) h1 (fun a b1 b2 => by rw [up_cell (by omega)]; exact h2 a b1 b2) (fun k hk => by
      by_cases e : k = 0
      · subst e; exact up_same _ _ _ _
      · rw [up_at e]; exact h3 k hk e) st
    obtain ⟨a1, a2, a3, a4, a5, a6, a7⟩ := s1
    unfold TyR at a2
    unfold ExR at a5
    unfold ClT at a6
    unfold DfT at a7
    rw [up_at (show 1 ≠ 0 by decide), up_cell (show 54 ≠ 53 by decide), up_cell (show 55 ≠ 53 by decide), up_cell (show 56 ≠ 53 by decide)] at a2
    rw [up_at (show 12 ≠ 0 by decide), up_cell (show 63 ≠ 53 by decide), up_cell (show 64 ≠ 53 by decide), up_cell (show 65 ≠ 53 by decide), up_cell (show 66 ≠ 53 by decide)] at a5
    rw [up_cell (show 59 ≠ 53 by decide)] at a6
    rw [up_cell (show 68 ≠ 53 by decide), up_cell (show 69 ≠ 53 by decide), up_cell (show 70 ≠ 53 by decide), up_cell (show 71 ≠ 53 by decide)] at a7
    exact ⟨a1, a2, a3, a4, a5, a6, a7⟩
  have ct' : CT Nc Nr N := by
    unfold CT
    rw [h1 5 (by decide), h1 6 (by decide), h1 7 (by decide), h1 9 (by decide), h1 10 (by decide), h3 5 (by decide) (by decide), h2 57 (by decide) (by decide), h2 58 (by decide) (by decide), h2 60 (by decide) (by decide), h2 61 (by decide) (by decide)]
    exact ct
  have sp' : SUP Nc N := by
    unfold SUP Rc
    rw [h1 6 (by decide), h1 9 (by decide), h1 10 (by decide)]
    exact sp
  refine ⟨N, NT, st', ct', sp', ⟨by rw [h3 24 (by decide) (by decide)]; exact t1, ?_, ?_, by rw [h3 17 (by decide) (by decide), h1 17 (by decide)]; exact t4, by unfold Zc; rw [h1 7 (by decide), h2 58 (by decide) (by decide)]; exact t5⟩, fun g hg => ?_, fun c s m b1 b2 b3 b4 => ?_, hv⟩
  · unfold WTm
    rw [h2 73 (by decide) (by decide), h2 74 (by decide) (by decide), h2 75 (by decide) (by decide)]
    exact t2
  · unfold ins18
    rw [h1 17 (by decide), h1 9 (by decide)]
    exact t3
  · rw [h1 17 (by decide)] at hg
    exact UDf_next st ct t1 t2 gw gt (fun i _ _ => ⟨by rw [h1 23 (by decide)], by rw [h2 72 (by decide) (by decide)]⟩) (fun g _ => by rw [h2 69 (by decide) (by decide)]) (by rw [h2 67 (by decide) (by decide)]) hg (df g hg)
  · rw [h1 9 (by decide)] at b3
    rw [h1 7 (by decide)] at b4
    exact UMt_next st ct t1 t2 gw gt (fun i _ _ => ⟨by rw [h1 23 (by decide)], by rw [h2 72 (by decide) (by decide)]⟩) (fun g _ => by rw [h2 69 (by decide) (by decide)]) ⟨by rw [h2 62 (by decide) (by decide)], by rw [h1 11 (by decide)]⟩ b1 b2 b3 b4 (mt c s m b1 b2 b3 b4)
