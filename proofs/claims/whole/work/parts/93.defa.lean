/-! Define: from an expression to a typed one with its conditions. -/
theorem Stat_tab {Mc Mr Nc Nr : Mm} (st : Stat Mc Mr) (h1 : ∀ a, a < 24 → a ≠ 1 → a ≠ 2 → a ≠ 3 → a ≠ 4 → Nc a = Mc a) (h2 : ∀ a, 57 ≤ a → a ≤ 75 → Nr a = Mr a) (h3 : ∀ k, k < 28 → k ≠ 1 → k ≠ 0 → Nr 53 k = Mr 53 k) (tC : TyC Nc) (tV : TyV Nc) (tR : TyR Nc Nr) (h4 : ∀ t : Nat, (t : Int) < Mc 1 3 → Nc 4 t = Mc 4 t) (hle : Mc 1 3 ≤ Nc 1 3) : Stat Nc Nr := by
  obtain ⟨a1, a2, a3, a4, a5, a6, a7⟩ := st
  refine ⟨tC, tR, tV, ?_, ?_, ?_, ?_⟩
  · unfold ExC
    rw [h1 5 (by decide) (by decide) (by decide) (by decide) (by decide), h1 7 (by decide) (by decide) (by decide) (by decide) (by decide), h1 12 (by decide) (by decide) (by decide) (by decide) (by decide), h1 13 (by decide) (by decide) (by decide) (by decide) (by decide), h1 14 (by decide) (by decide) (by decide) (by decide) (by decide), h1 15 (by decide) (by decide) (by decide) (by decide) (by decide), h1 16 (by decide) (by decide) (by decide) (by decide) (by decide), h1 17 (by decide) (by decide) (by decide) (by decide) (by decide)]
    exact a4
  · unfold ExR
    rw [h1 12 (by decide) (by decide) (by decide) (by decide) (by decide), h1 13 (by decide) (by decide) (by decide) (by decide) (by decide), h1 14 (by decide) (by decide) (by decide) (by decide) (by decide), h1 15 (by decide) (by decide) (by decide) (by decide) (by decide), h1 16 (by decide) (by decide) (by decide) (by decide) (by decide), h3 12 (by decide) (by decide) (by decide), h2 63 (by decide) (by decide), h2 64 (by decide) (by decide), h2 65 (by decide) (by decide), h2 66 (by decide) (by decide)]
    exact a5
  · unfold ClT
    rw [h1 5 (by decide) (by decide) (by decide) (by decide) (by decide), h1 7 (by decide) (by decide) (by decide) (by decide) (by decide), h1 8 (by decide) (by decide) (by decide) (by decide) (by decide), h2 59 (by decide) (by decide)]
    refine ⟨a6.1, fun c hc => ⟨(a6.2 c hc).1, fun m hm => ?_⟩⟩
    obtain ⟨b1, b2, b3⟩ := (a6.2 c hc).2 m hm
    exact ⟨b1, by omega, by rw [h4 _ (by omega)]; exact b3⟩
  · unfold DfT
    rw [h1 5 (by decide) (by decide) (by decide) (by decide) (by decide), h1 17 (by decide) (by decide) (by decide) (by decide) (by decide), h1 19 (by decide) (by decide) (by decide) (by decide) (by decide), h1 20 (by decide) (by decide) (by decide) (by decide) (by decide), h1 21 (by decide) (by decide) (by decide) (by decide) (by decide), h2 68 (by decide) (by decide), h2 69 (by decide) (by decide), h2 70 (by decide) (by decide), h2 71 (by decide) (by decide)]
    refine ⟨a7.1, fun g hg => ?_⟩
    obtain ⟨b1, b2, b3, m, b4, b5, b6, b7⟩ := a7.2 g hg
    exact ⟨b1, by omega, b3, m, b4, b5, by rw [h4 _ (by omega)]; exact b6, b7⟩
/-- types are added, or tried -/
theorem Rel_tab {Mc Mr Nc Nr : Mm} (h : Rel Mc Mr) (h1 : ∀ a, a < 24 → a ≠ 1 → a ≠ 2 → a ≠ 3 → a ≠ 4 → Nc a = Mc a) (h2 : ∀ a, 57 ≤ a → a ≤ 75 → Nr a = Mr a) (h3 : ∀ k, k < 28 → k ≠ 1 → k ≠ 0 → Nr 53 k = Mr 53 k) (tC : TyC Nc) (tV : TyV Nc) (tR : TyR Nc Nr) (h4 : ∀ t : Nat, (t : Int) < Mc 1 3 → Nc 4 t = Mc 4 t ∧ Nc 2 t = Mc 2 t ∧ Nc 3 t = Mc 3 t) (hle : Mc 1 3 ≤ Nc 1 3) (hv : ValR Nc Nr) : Rel Nc Nr := by
  obtain ⟨N, NT, st, ct, sp, ⟨t1, t2, t3, t4, t5⟩, df, mt, vr⟩ := h
  have e1 : ∀ a, a < 24 → 5 ≤ a → Nc a = Mc a := fun a b1 b2 => h1 a b1 (by omega) (by omega) (by omega) (by omega)
  have tc := st.1.1
  have ex : ext (tabC Mc) (tabC Nc) := ⟨show (Mc 1 3).toNat ≤ (Nc 1 3).toNat by omega, fun t ht => by
    have ht : t < (Mc 1 3).toNat := ht
    exact ⟨(h4 t (by omega)).2.1, (h4 t (by omega)).2.2⟩⟩
  have gw : Gw Mc Nc := by
    have z := Gw_refl Mc
    unfold Gw at z ⊢
    rw [e1 5 (by decide) (by decide), e1 6 (by decide) (by decide), e1 7 (by decide) (by decide), e1 8 (by decide) (by decide), e1 9 (by decide) (by decide), e1 10 (by decide) (by decide), e1 12 (by decide) (by decide), e1 13 (by decide) (by decide), e1 14 (by decide) (by decide), e1 15 (by decide) (by decide), e1 16 (by decide) (by decide), e1 17 (by decide) (by decide), e1 18 (by decide) (by decide), e1 19 (by decide) (by decide), e1 20 (by decide) (by decide), e1 21 (by decide) (by decide)]
    exact ⟨ex, z.2⟩
  have gt : Gt Mr Nr := Gt_fr (h3 24 (by decide) (by decide) (by decide)) ⟨h2 73 (by decide) (by decide), h2 74 (by decide) (by decide), h2 75 (by decide) (by decide)⟩
  have st' : Stat Nc Nr := Stat_tab st h1 h2 h3 tC tV tR (fun t ht => (h4 t ht).1) hle
  have ct' : CT Nc Nr N := by
    unfold CT
    rw [e1 5 (by decide) (by decide), e1 6 (by decide) (by decide), e1 7 (by decide) (by decide), e1 9 (by decide) (by decide), e1 10 (by decide) (by decide), h3 5 (by decide) (by decide) (by decide), h2 57 (by decide) (by decide), h2 58 (by decide) (by decide), h2 60 (by decide) (by decide), h2 61 (by decide) (by decide)]
    exact ct
  have sp' : SUP Nc N := by
    unfold SUP Rc
    rw [e1 6 (by decide) (by decide), e1 9 (by decide) (by decide), e1 10 (by decide) (by decide)]
    exact sp
  refine ⟨N, NT, st', ct', sp', ⟨by rw [h3 24 (by decide) (by decide) (by decide)]; exact t1, ?_, ?_, by rw [h3 17 (by decide) (by decide) (by decide), e1 17 (by decide) (by decide)]; exact t4, by unfold Zc; rw [e1 7 (by decide) (by decide), h2 58 (by decide) (by decide)]; exact t5⟩, fun g hg => ?_, fun c s m b1 b2 b3 b4 => ?_, hv⟩
  · unfold WTm
    rw [h2 73 (by decide) (by decide), h2 74 (by decide) (by decide), h2 75 (by decide) (by decide)]
    exact t2
  · unfold ins18
    rw [e1 17 (by decide) (by decide), e1 9 (by decide) (by decide)]
    exact t3
  · rw [e1 17 (by decide) (by decide)] at hg
    exact UDf_next st ct t1 t2 gw gt (fun i _ _ => ⟨by rw [e1 23 (by decide) (by decide)], by rw [h2 72 (by decide) (by decide)]⟩) (fun g _ => by rw [h2 69 (by decide) (by decide)]) (by rw [h2 67 (by decide) (by decide)]) hg (df g hg)
  · rw [e1 9 (by decide) (by decide)] at b3
    rw [e1 7 (by decide) (by decide)] at b4
    exact UMt_next st ct t1 t2 gw gt (fun i _ _ => ⟨by rw [e1 23 (by decide) (by decide)], by rw [h2 72 (by decide) (by decide)]⟩) (fun g _ => by rw [h2 69 (by decide) (by decide)]) ⟨by rw [h2 62 (by decide) (by decide)], by rw [e1 11 (by decide) (by decide)]⟩ b1 b2 b3 b4 (mt c s m b1 b2 b3 b4)
/-- the class touches only its own cells, the reference only its own -/
def FrC (M M' : Mm) : Prop := ∀ a, 53 ≤ a → M' a = M a
def FrR (M M' : Mm) : Prop := ∀ a, a < 53 ∨ 109 ≤ a → M' a = M a
theorem FrC_trans {M M1 M2 : Mm} (a : FrC M M1) (b : FrC M1 M2) : FrC M M2 := fun c h => (b c h).trans (a c h)
theorem FrR_trans {M M1 M2 : Mm} (a : FrR M M1) (b : FrR M1 M2) : FrR M M2 := fun c h => (b c h).trans (a c h)
/-- work on the side: tables and values stay -/
def WkC (M M' : Mm) : Prop := ∀ a, a < 24 ∨ 47 ≤ a → M' a = M a
def WkR (M M' : Mm) : Prop := (∀ a, a < 53 ∨ (54 ≤ a ∧ a ≤ 75) ∨ 94 ≤ a → M' a = M a) ∧ ∀ k, k < 28 ∨ 54 ≤ k → M' 53 k = M 53 k
theorem WkC_trans {M M1 M2 : Mm} (a : WkC M M1) (b : WkC M1 M2) : WkC M M2 := fun c h => (b c h).trans (a c h)
theorem WkR_trans {M M1 M2 : Mm} (a : WkR M M1) (b : WkR M1 M2) : WkR M M2 := ⟨fun c h => (b.1 c h).trans (a.1 c h), fun k h => (b.2 k h).trans (a.2 k h)⟩
theorem ValR_fr {Mc Mr Nc Nr : Mm} (h1 : Nc 47 16 = Mc 47 16 ∧ Nc 52 = Mc 52) (h2 : Nr 53 54 = Mr 53 54 ∧ Nr 53 55 = Mr 53 55 ∧ Nr 53 56 = Mr 53 56 ∧ Nr 94 = Mr 94) (h : ValR Mc Mr) : ValR Nc Nr := by
  unfold ValR
  rw [h1.1, h1.2, h2.1, h2.2.1, h2.2.2.1, h2.2.2.2]
  exact h
theorem ValR_wk {Mc Mr Nc Nr : Mm} (h1 : WkC Mc Nc) (h2 : WkR Mr Nr) (h : ValR Mc Mr) : ValR Nc Nr := ValR_fr ⟨by rw [h1 47 (by omega)], h1 52 (by omega)⟩ ⟨h2.2 54 (by omega), h2.2 55 (by omega), h2.2 56 (by omega), h2.1 94 (by omega)⟩ h
theorem Rel_wk {Mc Mr Nc Nr : Mm} (h1 : WkC Mc Nc) (h2 : WkR Mr Nr) (h : Rel Mc Mr) : Rel Nc Nr := by
  refine Rel_fr (fun a ha => h1 a (by omega)) (fun a b1 b2 => h2.1 a (by omega)) (fun k hk _ => h2.2 k (by omega)) ?_ h
  obtain ⟨N, NT, st, ct, sp, t, df, mt, vr⟩ := h
  exact ValR_wk h1 h2 vr
theorem WkC_F {M M' : Mm} (h : WkC M M') : FrC M M' := fun a ha => h a (by omega)
theorem WkR_F {M M' : Mm} (h : WkR M M') : FrR M M' := fun a ha => h.1 a (by omega)
/-- what stands when an expression is typed, its variables numbered, its conditions followed -/
def Chk (Mc Mr : Mm) (S : Nat → Nat → Prop) (n n' : Nat) (cs : List (Nat × Nat)) (ρ ρ' : Nat → Nat) (T : Nat → Ty) (np k N : Nat) (e : Nat) (ctx : Int) : Prop := FS Mc Mr S n n' N k cs ρ ρ' T ctx ∧ PT Mc Mr S cs np ∧ (Mc 34 0 = (e : Int) ∧ Mc 16 e = (np : Int)) ∧ (∀ q, q < np → CQ Mc (Ab Mc k ctx) T q) ∧ (∀ y, y < n → -2 ≤ Mc 31 y ∧ Mc 31 y ≤ 3000) ∧ n' ≤ 2560
theorem def_a {Mc Mr : Mm} {e : Nat} (rel : Rel Mc Mr) (he : (e : Int) < Mc 12 4) :
    ∃ (v : Int) (Mc' Mr' : Mm), WkC Mc Mc' ∧ WkR Mr Mr' ∧
      ((v ≠ 0 ∧ f128 Mc (e : Int) = some (v, Mc') ∧ v ≠ -4 ∧ (f211 Mr (e : Int)).bind (fun z => if z.1 = 0 then (some ((-1), z.2)) else (f225 z.2).bind (fun y => if y.1 = 0 then (f226 (up y.2 53 53 (-1)) (y.2 85 (Int.toNat 0))).bind (fun x => (f227 x.2).bind (fun w => l210 FU 79 w.2 (e : Int) 0 0 0 0 0 0)) else (some ((-1), y.2)))) = some (v, Mr') ∧ v = -1) ∨
      (v = 0 ∧ ∃ (w : Int) (S : Nat → Nat → Prop) (n n' N k np : Nat) (cs : List (Nat × Nat)) (ρ ρ' : Nat → Nat) (T : Nat → Ty), f128 Mc (e : Int) = (if w = 0 then (f132 Mc').bind (fun zq34 => (f133 zq34.2).bind (fun q40 => if 8 < q40 then (some ((-4), zq34.2)) else (if zq34.1 ≤ 8 then (f136 zq34.2).bind (fun zq47 => if ¬ zq47.1 = (-1) then (f141_43 zq47.2 (e : Int) zq47.1 zq34.1).bind (fun zq54 => (f142 zq54.2 zq54.1).bind (fun q60 => (f120_24 zq54.2 q60).bind (fun zq65 => some (zq54.1, zq65.2)))) else (some ((-4), zq47.2))) else (some ((-4), zq34.2))))) else (some (w, Mc'))) ∧
        (f211 Mr (e : Int)).bind (fun z => if z.1 = 0 then (some ((-1), z.2)) else (f225 z.2).bind (fun y => if y.1 = 0 then (f226 (up y.2 53 53 (-1)) (y.2 85 (Int.toNat 0))).bind (fun x => (f227 x.2).bind (fun w => l210 FU 79 w.2 (e : Int) 0 0 0 0 0 0)) else (some ((-1), y.2)))) = l210 FU 79 Mr' (e : Int) 0 0 0 0 0 0 ∧
        w = (if Mr' 53 47 = 0 then if Mr' 53 48 = 0 then if Mr' 53 49 = 0 then 0 else -4 else -3 else -2) ∧ FS Mc' Mr' S n n' N k cs ρ ρ' T (-1) ∧ Bi Mc' Mr' k N ∧ (w = 0 → Chk Mc' Mr' S n n' cs ρ ρ' T np k N e (-1)) ∧ Sn Mc' ρ n 2 ∧ (∀ y, y < n → Mc' 26 y ≠ 5) ∧ (∀ P : Nat → Prop, P (ρ 2) → (∀ x m, P x → m ∈ psc Mc' ρ x → P m) → ∀ y, y < n → Mc' 31 y ≠ -2 → P y) ∧ Mc' 36 0 = 2 ∧ ∃ u : Nat, Mr' 85 0 = (u : Int) ∧ S 2 u)) := by
  obtain ⟨N, NT, st, ct, sp, tt, df, mt, vr⟩ := rel
  obtain ⟨b, C1, R1, e1, e2, e3, e4, e5⟩ := types_ok st he
  have wc1 : WkC Mc C1 := fun a ha => e3.1 a (by omega)
  have wr1 : WkR Mr R1 := ⟨fun a ha => e4.1 a (by omega) (by omega), fun k hk => e4.2 k (by omega) (by omega) (by omega)⟩
  rcases e5 with ⟨e5, _⟩ | ⟨e5, S, n, n', cs, np, ow, ps, h34, h16⟩
  · refine ⟨-1, C1, R1, wc1, wr1, Or.inl ⟨by decide, ?_, by decide, ?_, rfl⟩⟩
    · unfold f128; rw [e1, bs_]; dsimp only; rw [if_pos e5]
    · rw [e2, bs_]; dsimp only; rw [if_pos e5]
  · obtain ⟨ρ, ρ', fin⟩ := Fin2_of ps.1
    obtain ⟨b2, C2, R2, g1, g2, g3, g4, g5, g6⟩ := end_ok fin
    have wc2 : WkC C1 C2 := fun a ha => g3.1 a (by omega) (by omega) (by omega)
    have wr2 : WkR R1 R2 := ⟨fun a ha => g4 a (by omega), fun k _ => by rw [g4 53 (by decide)]⟩
    by_cases hb2 : b2 = 0
    · have ac : Acy C1 ρ n := by
        rcases g6 with z | z
        · exact z.2
        · omega
      have pt1 : PT C1 R1 S cs np := PT_of ps
      have np1 := pt1.2.1.1
      have k5 : ∀ x, x < n → C1 26 x ≠ 5 := ps.2.2.2.2.2.2.2.2.2
      have nb : n' ≤ 120 + 40 * np := ps.2.2.2.2.2.2.2.2.1
      obtain ⟨q36, u, q85, qS⟩ := pt1.2.2.1 0 (by omega)
      have q36 : C1 36 0 = 2 := q36
      have qS : S 2 u := qS
      have e85 : R2 85 0 = (u : Int) := by rw [g4 85 (by decide)]; exact q85
      have c36 : C2 36 0 = 2 := by rw [g3.1 36 (by decide) (by decide) (by decide)]; exact q36
      let R2' := up R2 53 53 (-1)
      have wr2' : WkR R2 R2' := ⟨fun a ha => up_cell (by omega), fun k hk => up_at (by omega)⟩
      have r2c : ∀ a, a ≠ 53 → R2' a = R2 a := fun a ha => up_cell ha
      have fin2 : Fin2 C2 R2' S n n' cs ρ ρ' := Fin2_same g5 ⟨rfl, rfl, rfl⟩ ⟨r2c 76 (by decide), r2c 77 (by decide), r2c 78 (by decide)⟩ g5.1 (Fr_same (fun a b1 b2 => r2c a (by omega)) (up_at (by decide)) g5.2.1)
      obtain ⟨C3, R3, k, n1, n2, n3, n4, n5, n6, n7, n8, n9⟩ := num_ok fin2 qS
      have n1 : f130 C2 2 = some (0, C3) := n1
      have wc3 : WkC C2 C3 := fun a ha => n6.1 a (by omega) (by omega) (by omega) (by omega) (by omega)
      have wr3 : WkR R2' R3 := ⟨fun a ha => n7.1 a (by omega) (by omega) (by omega) (by omega) (by omega), fun k hk => n7.2 k (by omega)⟩
      have wc : WkC Mc C3 := WkC_trans wc1 (WkC_trans wc2 wc3)
      have wr : WkR Mr R3 := WkR_trans wr1 (WkR_trans wr2 (WkR_trans wr2' wr3))
      have ct3 : CT C3 R3 N := CT_fr (fun a ha => wc a (by omega)) (fun a b1 b2 => wr.1 a (by omega)) (fun k hk => wr.2 k (by omega)) ct
      have gr3 : ∀ a, 26 ≤ a → a ≤ 28 → C3 a = C1 a := fun a b1 b2 => by rw [n6.1 a (by omega) (by omega) (by omega) (by omega) (by omega), g3.1 a (by omega) (by omega) (by omega)]
      have ac3 : Acy C3 ρ n := by
        unfold Acy mu
        rw [gr3 26 (by decide) (by decide), gr3 27 (by decide) (by decide), gr3 28 (by decide) (by decide)]
        exact ac
      obtain ⟨T, tg⟩ := TyG_of n3.1 ac3
      have c53 : R3 53 53 = -1 := by rw [n7.2 53 (by decide)]; exact up_same _ _ _ _
      have pt3 : PT C3 R3 S cs np := by
        refine PT_fr (Mc := C1) (Mr := R1) (fun a ha => ?_) (fun a ha => ?_) (fun k hk => ?_) pt1
        · rw [n6.1 a (by omega) (by omega) (by omega) (by omega) (by omega), g3.1 a (by omega) (by omega) (by omega)]
        · rw [n7.1 a (by omega) (by omega) (by omega) (by omega) (by omega), r2c a (by omega), g4 a (by omega)]
        · rw [n7.2 k (by omega)]
          show (up R2 53 53 (-1)) 53 k = _
          rw [up_at (by omega), g4 53 (by decide)]
      obtain ⟨C4, R4, w, s1, s2, s3, s4, s5, s6, s7, s8, s9⟩ := wrong_ok n3 n4 ct3 tg ac3 ⟨c53, by omega, by omega⟩ pt3 n8
      have wc4 : WkC C3 C4 := fun a ha => s6.1 a (by omega) (by omega) (by omega)
      have wr4 : WkR R3 R4 := ⟨fun a ha => s7.1 a (by omega) (by omega), fun k hk => s7.2 k (by omega) (by omega) (by omega)⟩
      have e31 : C4 31 = C3 31 := s6.1 31 (by decide) (by decide) (by decide)
      have e26 : C4 26 = C3 26 := s6.1 26 (by decide) (by decide) (by decide)
      have e27 : C4 27 = C3 27 := s6.1 27 (by decide) (by decide) (by decide)
      have e28 : C4 28 = C3 28 := s6.1 28 (by decide) (by decide) (by decide)
      refine ⟨0, C4, R4, WkC_trans wc wc4, WkR_trans wr wr4, Or.inr ⟨rfl, w, S, n, n', N, k, np, cs, ρ, ρ', T, ?_, ?_, s8, s3, s5, fun hw => ⟨s3, ?_, ?_, fun q hq => ?_, ?_, by omega⟩, ?_, ?_, ?_, ?_, u, ?_, qS⟩⟩
      · unfold f128
        rw [e1, bs_]
        dsimp only
        rw [if_neg (by omega), g1, bs_]
        dsimp only
        rw [if_pos hb2]
        unfold f129
        rw [bs_, show Int.toNat 0 = 0 from rfl, c36, n1, bs_]
        dsimp only
        rw [s1, bs_]
      · rw [e2, bs_]
        dsimp only
        rw [if_neg (by omega), g2, bs_]
        dsimp only
        rw [if_pos hb2, show Int.toNat 0 = 0 from rfl, e85]
        have n2 : f226 (up R2 53 53 (-1)) (u : Int) = some (0, R3) := n2
        rw [n2, bs_]
        dsimp only
        rw [s2, bs_]
      · exact PT_fr (fun a ha => s6.1 a (by omega) (by omega) (by omega)) (fun a ha => s7.1 a (by omega) (by omega)) (fun k hk => s7.2 k (by omega) (by omega) (by omega)) pt3
      · constructor
        · rw [s6.1 34 (by decide) (by decide) (by decide), n6.1 34 (by decide) (by decide) (by decide) (by decide) (by decide), g3.1 34 (by decide) (by decide) (by decide)]
          exact h34
        · rw [wc4 16 (by omega), wc 16 (by omega)]
          exact h16
      · have z47 : R4 53 47 = 0 := by
          by_cases z : R4 53 47 = 0
          · exact z
          · rw [if_neg z] at s8; omega
        have z48 : R4 53 48 = 0 := by
          by_cases z : R4 53 48 = 0
          · exact z
          · rw [if_pos z47, if_neg z] at s8; omega
        exact CQ_fr (fun a ha => s6.1 a (by omega) (by omega) (by omega)) ⟨s6.1 34 (by decide) (by decide) (by decide), s6.1 38 (by decide) (by decide) (by decide)⟩ (s9 z47 z48 q hq)
      · intro y hy
        rw [e31]
        have hn := n3.1.1.2.2.1
        have hk := n4.1.2.2
        rcases n4.2.1 y hy with z | z | ⟨_, i, z1, z2, z3⟩ <;> omega
      · unfold Sn mu
        rw [e31, e26, e27, e28]
        exact n5
      · rw [e26, gr3 26 (by decide) (by decide)]
        exact k5
      · intro P hP hc y hy hs
        refine n9 P hP (fun x m hx hm => hc x m hx ?_) y hy (by rw [← e31]; exact hs)
        unfold psc at hm ⊢
        rw [e26, e27, e28, n6.1 26 (by decide) (by decide) (by decide) (by decide) (by decide), n6.1 27 (by decide) (by decide) (by decide) (by decide) (by decide), n6.1 28 (by decide) (by decide) (by decide) (by decide) (by decide)]
        exact hm
      · rw [s6.1 36 (by decide) (by decide) (by decide), n6.1 36 (by decide) (by decide) (by decide) (by decide) (by decide)]
        exact c36
      · rw [s7.1 85 (by decide) (by decide), n7.1 85 (by decide) (by decide) (by decide) (by decide) (by decide), r2c 85 (by decide)]
        exact e85
    · refine ⟨-1, C2, R2, WkC_trans wc1 wc2, WkR_trans wr1 wr2, Or.inl ⟨by decide, ?_, by decide, ?_, rfl⟩⟩
      · unfold f128; rw [e1, bs_]; dsimp only; rw [if_neg (by omega), g1, bs_]; dsimp only; rw [if_neg hb2]
      · rw [e2, bs_]; dsimp only; rw [if_neg (by omega), g2, bs_]; dsimp only; rw [if_neg hb2]
