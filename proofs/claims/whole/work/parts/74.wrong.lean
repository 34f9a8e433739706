/-! What is wrong with the conditions. -/
/-- what typing leaves, but for the graphs -/
def PT (Mc Mr : Mm) (S : Nat → Nat → Prop) (cs : List (Nat × Nat)) (np : Nat) : Prop := Stat Mc Mr ∧ LayP Mc Mr np ∧ (∀ q, q < np → Mc 36 q = ((2 + q : Nat) : Int) ∧ ∃ u : Nat, Mr 85 q = (u : Int) ∧ S (2 + q) u) ∧ FlP Mc Mr S np np ∧ WtP Mc Mr np ∧ ∀ q, q < np → PlQ Mc cs q
theorem PT_of {Mc Mr : Mm} {S : Nat → Nat → Prop} {n n' np : Nat} {cs : List (Nat × Nat)} {ow : Nat → Nat} (h : PS Mc Mr S n n' cs np np ow) : PT Mc Mr S cs np := ⟨h.2.1, h.2.2.1, fun q hq => (h.2.2.2.1 q hq).1, h.2.2.2.2.1, h.2.2.2.2.2.1, h.2.2.2.2.2.2.1⟩
theorem TNs_fr {M N : Mm} {lf rt : Nat → Int} {fill ν : Nat → Nat} {t x : Nat} (e : N 26 = M 26 ∧ N 27 = M 27 ∧ N 28 = M 28) (h : TNs M lf rt fill ν t x) : TNs N lf rt fill ν t x := by
  unfold TNs isL isF
  rw [e.1, e.2.1, e.2.2]
  exact h
theorem PlQ_fr {M N : Mm} {cs : List (Nat × Nat)} {q : Nat} (h0 : ∀ a, a < 24 → N a = M a) (h34 : N 34 = M 34 ∧ N 35 = M 35 ∧ N 37 = M 37 ∧ N 38 = M 38) (e : N 26 = M 26 ∧ N 27 = M 27 ∧ N 28 = M 28) (h : PlQ M cs q) : PlQ N cs q := by
  unfold PlQ PN TNs isL isF eAt
  rw [h34.1, h34.2.1, h34.2.2.1, h34.2.2.2, e.1, e.2.1, e.2.2, h0 13 (by omega), h0 14 (by omega), h0 15 (by omega), h0 16 (by omega), h0 8 (by omega), h0 19 (by omega), h0 2 (by omega), h0 3 (by omega), arn_fr h34.2.1]
  exact h
theorem PT_fr {Mc Mr Nc Nr : Mm} {S : Nat → Nat → Prop} {cs : List (Nat × Nat)} {np : Nat} (h1 : ∀ a, a < 25 ∨ (26 ≤ a ∧ a ≤ 28) ∨ (34 ≤ a ∧ a ≤ 39) → Nc a = Mc a) (h2 : ∀ a, (54 ≤ a ∧ a ≤ 75) ∨ (84 ≤ a ∧ a ≤ 91) → Nr a = Mr a) (h3 : ∀ k, k < 28 ∨ k = 43 ∨ k = 46 → Nr 53 k = Mr 53 k) (h : PT Mc Mr S cs np) : PT Nc Nr S cs np := by
  obtain ⟨st, ly, nd, fl, wt, pl⟩ := h
  have e0 : ∀ a, a < 24 → Nc a = Mc a := fun a ha => h1 a (by omega)
  refine ⟨Stat_fr e0 (fun a b1 b2 => h2 a (by omega)) (fun k hk => h3 k (by omega)) st, LayP_fr e0 ⟨h1 24 (by omega), h1 34 (by omega), h1 35 (by omega)⟩ ⟨h2 84 (by omega), h2 86 (by omega), h3 46 (by omega)⟩ ly, ?_, ?_, ?_, fun q hq => PlQ_fr e0 ⟨h1 34 (by omega), h1 35 (by omega), h1 37 (by omega), h1 38 (by omega)⟩ ⟨h1 26 (by omega), h1 27 (by omega), h1 28 (by omega)⟩ (pl q hq)⟩
  · rw [h1 36 (by omega), h2 85 (by omega)]; exact nd
  · intro q hq
    rw [h1 39 (by omega), h1 38 (by omega), h2 89 (by omega), h2 88 (by omega)]
    obtain ⟨a, b⟩ := fl q hq
    refine ⟨fun z => ?_, b⟩
    obtain ⟨k, x1, x2, x3, x0, x4⟩ := a z
    exact ⟨k, x1, x2, x3, fq_fr e0 (h1 34 (by omega)) x0, x4⟩
  · unfold WtP eAt
    rw [h3 43 (by omega), h1 34 (by omega), h1 13 (by omega), h1 14 (by omega), h1 20 (by omega), h1 21 (by omega), h2 90 (by omega), h2 91 (by omega), h2 88 (by omega)]
    have e : ∀ q, wsQ Nc q = wsQ Mc q := wsQ_fr e0 (h1 34 (by omega))
    simp only [e]
    exact wt
theorem PT_J {Mc Mr Mc' Mr' : Mm} {S : Nat → Nat → Prop} {cs : List (Nat × Nat)} {np n : Nat} (cj : Cj Mc Mc' n) (rj : Rj Mr Mr') (h : PT Mc Mr S cs np) : PT Mc' Mr' S cs np :=
  PT_fr (fun a ha => cj.1 a (by omega) (by omega) (by omega)) (fun a ha => rj.1 a (by omega) (by omega)) (fun k hk => rj.2 k (by omega) (by omega) (by omega)) h
/-- the conditions at a place hold -/
def CQ (M : Mm) (A : Nat → Int → Prop) (T : Nat → Ty) (p : Nat) : Prop :=
  (M 13 (eAt M p) = 5 → con M A (T (M 38 (8 * p)).toNat) (M 14 (eAt M p)).toNat) ∧
  (M 13 (eAt M p) = 6 → ∀ i c v : Nat, (i : Int) < M 20 (M 14 (eAt M p)).toNat → v < 8 → M 21 (8 * (M 14 (eAt M p)).toNat + i) = ((8 * c + v : Nat) : Int) → con M A (T (M 38 (8 * p + v)).toNat) c)
theorem CQ_fr {M N : Mm} {A : Nat → Int → Prop} {T : Nat → Ty} {p : Nat} (h0 : ∀ a, a < 24 → N a = M a) (h34 : N 34 = M 34 ∧ N 38 = M 38) (h : CQ M A T p) : CQ N A T p := by
  have cf : ∀ t c, con M A t c → con N A t c := con_fr (h0 6 (by omega)) (h0 9 (by omega)) (h0 10 (by omega))
  unfold CQ eAt at h ⊢
  rw [h34.1, h34.2, h0 13 (by omega), h0 14 (by omega), h0 20 (by omega), h0 21 (by omega)]
  exact ⟨fun k => cf _ _ (h.1 k), fun k i c v h1 h2 h3 => cf _ _ (h.2 k i c v h1 h2 h3)⟩
theorem CQ_mono {M : Mm} {A B : Nat → Int → Prop} {T : Nat → Ty} {p : Nat} (hAB : ∀ c v, A c v → B c v) (h : CQ M A T p) : CQ M B T p := ⟨fun k => con_mono hAB _ _ (h.1 k), fun k i c v h1 h2 h3 => con_mono hAB _ _ (h.2 k i c v h1 h2 h3)⟩
theorem two_inj {a b : Nat} (h : 2 ^ a - 1 = 2 ^ b - 1) : a = b := by
  have ha := Nat.one_le_two_pow (n := a)
  have hb := Nat.one_le_two_pow (n := b)
  have : 2 ^ a = 2 ^ b := by omega
  rcases Nat.lt_trichotomy a b with z | z | z
  · have := Nat.pow_lt_pow_right (a := 2) (by decide) z
    omega
  · exact z
  · have := Nat.pow_lt_pow_right (a := 2) (by decide) z
    omega
section WRONG
variable {Mc Mr : Mm} {S : Nat → Nat → Prop} {n n' N k np : Nat} {cs : List (Nat × Nat)} {ρ ρ' : Nat → Nat} {T : Nat → Ty} {ctx : Int}
/-- a use's filling -/
theorem fill_5 {p : Nat} (h : PT Mc Mr S cs np) (hp : p < np) (k5 : Mc 13 (eAt Mc p) = 5) : ∃ m c u : Nat, Mc 14 (eAt Mc p) = (m : Int) ∧ (m : Int) < Mc 5 6 ∧ Mc 38 (8 * p) = (c : Int) ∧ Mr 88 (8 * p) = (u : Int) ∧ S c u ∧ Mc 39 p = 1 ∧ Mr 89 p = 1 := by
  obtain ⟨st, ly, nd, fl, wt, pl⟩ := h
  obtain ⟨e1, e2⟩ := LayP_e ly hp
  obtain ⟨-, -, -, -, -, -, x5, -⟩ := st.2.2.2.1.2 _ e2
  obtain ⟨y1, y2, y3, y4⟩ := x5 k5
  obtain ⟨j, j1, j2, j3, j4, j5⟩ := (fl p hp).1 hp
  have cl := ((st.2.2.2.2.2.1.2 (Mc 14 (eAt Mc p)).toNat (by omega)).2 (Mc 15 (eAt Mc p)).toNat (by omega)).2.2
  have q := j4.1 k5
  rw [cl] at q
  obtain rfl : j = 1 := two_inj (a := j) (b := 1) (by have : (2 ^ 1 - 1 : Nat) = 1 := rfl; omega)
  obtain ⟨c, u, z1, z2, z3⟩ := j5 0 (by omega)
  exact ⟨(Mc 14 (eAt Mc p)).toNat, c, u, by omega, by omega, z1, z2, z3, j2, j3⟩
theorem fill_6 {p : Nat} (h : PT Mc Mr S cs np) (hp : p < np) (k6 : Mc 13 (eAt Mc p) = 6) : ∃ g m : Nat, Mc 14 (eAt Mc p) = (g : Int) ∧ (g : Int) < Mc 17 4 ∧ m ≤ 8 ∧ Mr 69 g = (m : Int) ∧ Mc 39 p = (m : Int) ∧ Mr 89 p = (m : Int) ∧ ∀ v, v < m → ∃ c u : Nat, Mc 38 (8 * p + v) = (c : Int) ∧ Mr 88 (8 * p + v) = (u : Int) ∧ S c u := by
  obtain ⟨st, ly, nd, fl, wt, pl⟩ := h
  obtain ⟨e1, e2⟩ := LayP_e ly hp
  obtain ⟨-, -, -, -, -, -, -, x6, -⟩ := st.2.2.2.1.2 _ e2
  obtain ⟨y1, y2⟩ := x6 k6
  obtain ⟨j, j1, j2, j3, j4, j5⟩ := (fl p hp).1 hp
  obtain ⟨-, -, -, m, m1, m2, m3, -⟩ := st.2.2.2.2.2.2.2 (Mc 14 (eAt Mc p)).toNat (by omega)
  have q := j4.2 k6
  rw [m3] at q
  obtain rfl : j = m := two_inj (by omega)
  exact ⟨(Mc 14 (eAt Mc p)).toNat, j, by omega, by omega, m1, m2, j2, j3, j5⟩
theorem wrong_at {p : Nat} (h : FS Mc Mr S n n' N k cs ρ ρ' T ctx) (pt : PT Mc Mr S cs np) (fl : Fl Mc Mr) (bi : Bi Mc Mr k N) (hp : p < np) :
    ∃ Mc' Mr', f108 Mc (p : Int) = some (0, Mc') ∧ (∀ g, l227 (g + cnQ Mc p) 17 Mr (wsQ Mc p : Int) = l227 g 17 Mr' (wsQ Mc (p + 1) : Int)) ∧ Jn Mc Mr Mc' Mr' n k N ctx ∧ FS Mc' Mr' S n n' N k cs ρ ρ' T ctx ∧ (Mc' 45 6 = 0 → Mc' 45 7 = 0 → CQ Mc (Ab Mc' k ctx) T p) := by
  obtain ⟨st, ly, nd, flp, wt, pl⟩ := id pt
  obtain ⟨e77, e78⟩ := f77_eq ly st.2.2.2.1 hp
  have np60 := ly.1
  have hN := h.2.2.1.1
  have wle := wsQ_le ly st (p + 1) (by omega)
  have wtot := wsQ_mono Mc (show p + 1 ≤ np by omega)
  have wle2 := wsQ_le ly st np (by omega)
  have w43 : Mr 53 43 = (wsQ Mc np : Int) := wt.1
  have ws1 : wsQ Mc (p + 1) = wsQ Mc p + cnQ Mc p := rfl
  unfold f108
  rw [e77, bs_, e78, bs_, bs_]
  by_cases k5 : Mc 13 (eAt Mc p) = 5
  · obtain ⟨m, c, u, y1, y2, y3, y4, y5, -⟩ := fill_5 pt hp k5
    have cn : cnQ Mc p = 1 := if_pos k5
    obtain ⟨w1, w2⟩ := (wt.2 p hp).1 k5
    obtain ⟨Mc', Mr', r1, r2, r3, r4, r5⟩ := follow_ok h fl bi (T_S h.1 y5) (c := m) (by omega)
    refine ⟨Mc', Mr', ?_, fun g => ?_, r3, r4, fun z1 z2 => ⟨fun _ => ?_, fun z => by omega⟩⟩
    · rw [if_neg (fun z => z k5), y1]
      unfold f109
      rw [if_pos (by omega), show ((p : Int) * 8 + 0).toNat = 8 * p by omega, y3, bs_, r1, bs_]
    · rw [cn, l227, w43, if_neg (by omega), if_pos (by omega), Int.toNat_natCast, w1, w2, y1, y4, r2, bs_]
      dsimp only
      rw [if_pos (by omega), show (wsQ Mc p : Int) + 1 = (wsQ Mc (p + 1) : Int) by omega]
    · rw [y3, y1, Int.toNat_natCast, Int.toNat_natCast]
      exact r5 z1 z2
  · rw [if_pos k5]
    by_cases k6 : Mc 13 (eAt Mc p) = 6
    · rw [if_neg (fun z => z k6)]
      obtain ⟨gg, m, y1, y2, y3, y4, -, -, y5⟩ := fill_6 pt hp k6
      have tg : (Mc 14 (eAt Mc p)).toNat = gg := by rw [y1]; exact Int.toNat_natCast gg
      have df := st.2.2.2.2.2.2
      have d20 := df.1
      obtain ⟨-, -, ⟨-, q1, q2⟩, m', -, q3, -, q4⟩ := df.2 gg y2
      have em : m' = m := by omega
      subst em
      obtain ⟨kk, hkk⟩ : ∃ kk : Nat, Mc 20 gg = (kk : Int) := ⟨(Mc 20 gg).toNat, by omega⟩
      have cn : cnQ Mc p = kk := by unfold cnQ; rw [if_neg k5, if_pos k6, tg, hkk]; exact Int.toNat_natCast kk
      have w6 := (wt.2 p hp).2 k6
      rw [tg] at w6
      have loop : ∀ (d i f : Nat) (M R : Mm), i + d = kk → d < f → Jn Mc Mr M R n k N ctx → FS M R S n n' N k cs ρ ρ' T ctx → (M 45 6 = 0 → M 45 7 = 0 → ∀ j c v : Nat, j < i → v < 8 → Mc 21 (8 * gg + j) = ((8 * c + v : Nat) : Int) → con Mc (Ab M k ctx) (T (Mc 38 (8 * p + v)).toNat) c) →
          ∃ Mc' Mr', l108 f 53 M (p : Int) (gg : Int) (i : Int) = some (0, Mc') ∧ (∀ g, l227 (g + d) 17 R ((wsQ Mc p + i : Nat) : Int) = l227 g 17 Mr' (wsQ Mc (p + 1) : Int)) ∧ Jn Mc Mr Mc' Mr' n k N ctx ∧ FS Mc' Mr' S n n' N k cs ρ ρ' T ctx ∧ (Mc' 45 6 = 0 → Mc' 45 7 = 0 → ∀ j c v : Nat, j < kk → v < 8 → Mc 21 (8 * gg + j) = ((8 * c + v : Nat) : Int) → con Mc (Ab Mc' k ctx) (T (Mc 38 (8 * p + v)).toNat) c) := by
        intro d
        induction d with
        | zero =>
          intro i f M R hi hf J F hold
          obtain ⟨f, rfl⟩ : ∃ f', f = f' + 1 := ⟨f - 1, by omega⟩
          obtain rfl : i = kk := by omega
          have ej : M 20 = Mc 20 := J.2.2.1.1 20 (by decide) (by decide) (by decide)
          refine ⟨M, R, ?_, fun g => ?_, J, F, hold⟩
          · rw [l108]
            unfold f115
            rw [if_pos (by omega), Int.toNat_natCast, ej, hkk, bs_, if_pos (Int.le_refl _)]
          · rw [show wsQ Mc p + i = wsQ Mc (p + 1) by omega, Nat.add_zero]
        | succ d ih =>
          intro i f M R hi hf J F hold
          obtain ⟨f, rfl⟩ : ∃ f', f = f' + 1 := ⟨f - 1, by omega⟩
          have e20 : M 20 = Mc 20 := J.2.2.1.1 20 (by decide) (by decide) (by decide)
          have e21 : M 21 = Mc 21 := J.2.2.1.1 21 (by decide) (by decide) (by decide)
          have e38 : M 38 = Mc 38 := J.2.2.1.1 38 (by decide) (by decide) (by decide)
          have r90 : R 90 = Mr 90 := J.2.2.2.1.1 90 (by decide) (by decide)
          have r91 : R 91 = Mr 91 := J.2.2.2.1.1 91 (by decide) (by decide)
          have r43 : R 53 43 = Mr 53 43 := J.2.2.2.1.2 43 (by decide) (by decide) (by decide)
          obtain ⟨z1, c, v, z2, z3, z4⟩ := q4 i (by omega)
          obtain ⟨a, u, z5, z6, z7⟩ := y5 v z3
          obtain ⟨w1, w2⟩ := w6 i c v (by omega) (by omega) z2
          obtain ⟨Mc', Mr', r1, r2, r3, r4, r5⟩ := follow_ok F J.1 J.2.1 (T_S F.1 z7) (c := c) (by omega)
          have J' := Jn_trans J r3
          obtain ⟨Mc2, Mr2, s1, s2, s3, s4, s5⟩ := ih (i + 1) f Mc' Mr' (by omega) (by omega) J' r4 (fun x1 x2 j c' v' h1 h2 h3 => by
            by_cases ej : j = i
            · subst ej
              have : c' = c ∧ v' = v := by omega
              obtain ⟨rfl, rfl⟩ := this
              rw [z5, Int.toNat_natCast]
              exact con_29 (fun a ha => J.2.2.1.1 a (by omega) (by omega) (by omega)) (r5 x1 x2)
            · exact con_mono r3.2.2.2.2.1 _ _ (hold (r3.2.2.2.2.2.1 x1) (r3.2.2.2.2.2.2 x2) j c' v' (by omega) h2 h3))
          refine ⟨Mc2, Mr2, ?_, fun g => ?_, s3, s4, s5⟩
          · have e117 : f117 M (gg : Int) (i : Int) = some ((8 * c + v : Nat) : Int) := by
              unfold f117
              rw [if_pos (by omega), show ((gg : Int) * 8 + (i : Int)).toNat = 8 * gg + i by omega, e21, z2]
            rw [l108]
            unfold f115 f116 f118 f109
            rw [if_pos (by omega), Int.toNat_natCast, e20, hkk, bs_, if_neg (by omega), e117, bs_, if_pos (by omega), if_pos (by omega), bs_, show ((8 * c + v : Nat) : Int) % 8 = (v : Int) by omega, if_pos (by omega), show ((p : Int) * 8 + (v : Int)).toNat = 8 * p + v by omega, e38, z5, bs_, bs_, if_pos (by omega), if_pos (by omega), bs_, show ((8 * c + v : Nat) : Int) / 8 = (c : Int) by omega, r1, bs_]
            dsimp only
            rw [if_pos (by omega), show (i : Int) + 1 = ((i + 1 : Nat) : Int) by omega]
            exact s1
          · rw [← s2 g, show g + (d + 1) = g + d + 1 by omega, l227, r43, w43, if_neg (by omega), if_pos (by omega), Int.toNat_natCast, r90, r91, w1, w2, z6, r2, bs_]
            dsimp only
            rw [if_pos (by omega), show ((wsQ Mc p + i : Nat) : Int) + 1 = ((wsQ Mc p + (i + 1) : Nat) : Int) by omega]
      obtain ⟨Mc', Mr', r1, r2, r3, r4, r5⟩ := loop kk 0 FU Mc Mr (by omega) (by unfold FU; omega) (Jn_refl fl bi) h (fun _ _ j c v hj => by omega)
      refine ⟨Mc', Mr', ?_, fun g => ?_, r3, r4, fun z1 z2 => ⟨fun z => absurd z k5, fun _ i c v h1 h2 h3 => ?_⟩⟩
      · rw [y1]
        exact r1
      · rw [cn]
        exact r2 g
      · rw [tg] at h1 h3
        exact r5 z1 z2 i c v (by omega) h2 h3
    · rw [if_pos k6]
      have cn : cnQ Mc p = 0 := by unfold cnQ; rw [if_neg k5, if_neg k6]
      refine ⟨Mc, Mr, rfl, fun g => by rw [ws1, cn]; rfl, Jn_refl fl bi, h, fun _ _ => ⟨fun z => absurd z k5, fun z => absurd z k6⟩⟩
theorem wrong_loop {x1 : Int} (d : Nat) : ∀ (p f g : Nat) (M R : Mm), p + d = np → d < f → wsQ Mc np < g + wsQ Mc p → PT Mc Mr S cs np → Jn Mc Mr M R n k N ctx → FS M R S n n' N k cs ρ ρ' T ctx → (M 45 6 = 0 → M 45 7 = 0 → ∀ q, q < p → CQ Mc (Ab M k ctx) T q) →
    ∃ Mc' Mr' w, l105 f 38 M x1 (p : Int) = some (w, Mc') ∧ l227 g 17 R (wsQ Mc p : Int) = some (0, Mr') ∧ Jn Mc Mr Mc' Mr' n k N ctx ∧ FS Mc' Mr' S n n' N k cs ρ ρ' T ctx ∧ w = (if Mr' 53 47 = 0 then if Mr' 53 48 = 0 then if Mr' 53 49 = 0 then 0 else -4 else -3 else -2) ∧ (Mr' 53 47 = 0 → Mr' 53 48 = 0 → ∀ q, q < np → CQ Mc (Ab Mc' k ctx) T q) := by
  induction d with
  | zero =>
    intro p f g M R hp hf hg pt J F hold
    obtain ⟨f, rfl⟩ : ∃ f', f = f' + 1 := ⟨f - 1, by omega⟩
    obtain rfl : p = np := by omega
    obtain ⟨g, rfl⟩ : ∃ g', g = g' + 1 := ⟨g - 1, by omega⟩
    have e24 : M 24 = Mc 24 := J.2.2.1.1 24 (by decide) (by decide) (by decide)
    have r43 : R 53 43 = Mr 53 43 := J.2.2.2.1.2 43 (by decide) (by decide) (by decide)
    obtain ⟨w, ew⟩ : ∃ w : Int, w = (if R 53 47 = 0 then if R 53 48 = 0 then if R 53 49 = 0 then 0 else -4 else -3 else -2) := ⟨_, rfl⟩
    refine ⟨M, R, w, ?_, ?_, J, F, ew, fun z1 z2 => hold (by rw [J.1.1.1]; exact z1) (by rw [J.1.2.1.1]; exact z2)⟩
    · rw [l105]
      unfold f107
      rw [bs_, e24, pt.2.1.2.1, if_pos (Int.le_refl _), J.1.1.1, J.1.2.1.1, J.1.2.2.1, ew]
      by_cases a : R 53 47 = 0
      · rw [if_pos a, if_pos a]
        by_cases b : R 53 48 = 0
        · rw [if_pos b, if_pos b]
          by_cases c : R 53 49 = 0
          · rw [if_pos c, if_pos c]
          · rw [if_neg c, if_neg c]
        · rw [if_neg b, if_neg b]
      · rw [if_neg a, if_neg a]
    · rw [l227, r43, pt.2.2.2.2.1.1, if_pos (Int.le_refl _)]
  | succ d ih =>
    intro p f g M R hp hf hg pt J F hold
    obtain ⟨f, rfl⟩ : ∃ f', f = f' + 1 := ⟨f - 1, by omega⟩
    have e24 : M 24 = Mc 24 := J.2.2.1.1 24 (by decide) (by decide) (by decide)
    have np60 := pt.2.1.1
    have lt24 : ∀ a, a < 24 → M a = Mc a := fun a ha => J.2.2.1.1 a (by omega) (by omega) (by omega)
    have e34 : M 34 = Mc 34 := J.2.2.1.1 34 (by decide) (by decide) (by decide)
    have e38 : M 38 = Mc 38 := J.2.2.1.1 38 (by decide) (by decide) (by decide)
    obtain ⟨Mc', Mr', r1, r2, r3, r4, r5⟩ := wrong_at (p := p) F (PT_J J.2.2.1 J.2.2.2.1 pt) J.1 J.2.1 (by omega)
    have ews : ∀ q, wsQ M q = wsQ Mc q := wsQ_fr lt24 e34
    have ecn : cnQ M p = cnQ Mc p := by unfold cnQ eAt; rw [e34, lt24 13 (by omega), lt24 14 (by omega), lt24 20 (by omega)]
    have ws1 : wsQ Mc (p + 1) = wsQ Mc p + cnQ Mc p := rfl
    have mono := wsQ_mono Mc (show p + 1 ≤ np by omega)
    have J' := Jn_trans J r3
    obtain ⟨M2, R2, w, s1, s2, s3, s4, s5, s6⟩ := ih (p + 1) f (g - cnQ Mc p) Mc' Mr' (by omega) (by omega) (by omega) pt J' r4 (fun z1 z2 q hq => by
      by_cases e : q = p
      · subst e
        exact CQ_fr (fun a ha => (lt24 a ha).symm) ⟨e34.symm, e38.symm⟩ (r5 z1 z2)
      · exact CQ_mono r3.2.2.2.2.1 (hold (r3.2.2.2.2.2.1 z1) (r3.2.2.2.2.2.2 z2) q (by omega)))
    refine ⟨M2, R2, w, ?_, ?_, s3, s4, s5, s6⟩
    · rw [l105]
      unfold f107
      rw [bs_, e24, pt.2.1.2.1, if_neg (by omega), r1, bs_]
      dsimp only
      rw [if_pos (by omega), show (p : Int) + 1 = ((p + 1 : Nat) : Int) by omega]
      exact s1
    · have := r2 (g - cnQ Mc p)
      rw [ews, ews, ecn, show g - cnQ Mc p + cnQ Mc p = g by omega] at this
      rw [this]
      exact s2
end WRONG
theorem l99o_ok {n : Nat} (hn : n ≤ 2504) (d : Nat) : ∀ (x f : Nat) (M : Mm), x + d = n → d < f → (∀ m, m < x → M 46 m = 0) → ∃ M', l99_46 f 10 M 0 (n : Int) 0 (x : Int) = some (0, M') ∧ (∀ a, a ≠ 46 → M' a = M a) ∧ ∀ m, m < n → M' 46 m = 0 := by
  induction d with
  | zero =>
    intro x f M hx hf h
    obtain ⟨f, rfl⟩ : ∃ f', f = f' + 1 := ⟨f - 1, by omega⟩
    obtain rfl : x = n := by omega
    exact ⟨M, by rw [l99_46, if_pos (Int.le_refl _)], fun _ _ => rfl, h⟩
  | succ d ih =>
    intro x f M hx hf h
    obtain ⟨f, rfl⟩ : ∃ f', f = f' + 1 := ⟨f - 1, by omega⟩
    obtain ⟨M', z1, z2, z3⟩ := ih (x + 1) f (up M 46 x 0) (by omega) (by omega) (fun m hm => by
      by_cases e : m = x
      · subst e; exact up_same _ _ _ _
      · rw [up_at e]; exact h m (by omega))
    refine ⟨M', ?_, fun a ha => by rw [z2 a ha, up_cell ha], z3⟩
    rw [l99_46, if_neg (by omega), if_pos (by omega), if_pos (by omega), Int.toNat_natCast, show (x : Int) + 1 = ((x + 1 : Nat) : Int) by omega]
    exact z1
/-- frames of following all -/
def Cw (M M' : Mm) (n : Nat) : Prop := (∀ a, a ≠ 29 → a ≠ 45 → a ≠ 46 → M' a = M a) ∧ ∀ y, n ≤ y → M' 29 y = M 29 y
theorem wrong_ok {Mc Mr : Mm} {S : Nat → Nat → Prop} {n n' N k np : Nat} {cs : List (Nat × Nat)} {ρ ρ' : Nat → Nat} {T : Nat → Ty} {ctx : Int} (h2 : Fin2 Mc Mr S n n' cs ρ ρ') (nm : Nm Mc Mr S n n' ρ ρ' k) (ct : CT Mc Mr N) (tg : TyG Mc n ρ T) (ac : Acy Mc ρ n) (hc : Mr 53 53 = ctx ∧ -1 ≤ ctx ∧ ctx < (N : Int)) (pt : PT Mc Mr S cs np) (h93 : ∀ i : Nat, i < k → Mr 93 i = 0) :
    ∃ Mc' Mr' w, f105 Mc ctx = some (w, Mc') ∧ f227 Mr = some (0, Mr') ∧ FS Mc' Mr' S n n' N k cs ρ ρ' T ctx ∧ Fl Mc' Mr' ∧ Bi Mc' Mr' k N ∧ Cw Mc Mc' n ∧ Rj Mr Mr' ∧ w = (if Mr' 53 47 = 0 then if Mr' 53 48 = 0 then if Mr' 53 49 = 0 then 0 else -4 else -3 else -2) ∧ (Mr' 53 47 = 0 → Mr' 53 48 = 0 → ∀ q, q < np → CQ Mc (Ab Mc' k ctx) T q) := by
  have hn := h2.1.1.2.2.1
  obtain ⟨M1, e1, e2, e3⟩ := l99o_ok hn n 0 FU Mc (by omega) (by unfold FU; omega) (fun m hm => by omega)
  have e1 : l99_46 FU 10 Mc 0 (n : Int) 0 0 = some (0, M1) := e1
  let M2 := up (up (up (up M1 45 5 ctx) 45 6 0) 45 7 0) 45 8 0
  let R2 := up (up (up Mr 53 47 0) 53 48 0) 53 49 0
  have m2 : ∀ a, a ≠ 45 → a ≠ 46 → M2 a = Mc a := fun a b1 b2 => by show (up (up (up (up M1 45 5 ctx) 45 6 0) 45 7 0) 45 8 0) a = _; rw [up_cell b1, up_cell b1, up_cell b1, up_cell b1, e2 a b2]
  have m46 : ∀ y, M2 46 y = M1 46 y := fun y => by show (up (up (up (up M1 45 5 ctx) 45 6 0) 45 7 0) 45 8 0) 46 y = _; rw [up_cell (by decide), up_cell (by decide), up_cell (by decide), up_cell (by decide)]
  have m45 : M2 45 5 = ctx ∧ M2 45 6 = 0 ∧ M2 45 7 = 0 ∧ M2 45 8 = 0 := by
    show (up (up (up (up M1 45 5 ctx) 45 6 0) 45 7 0) 45 8 0) 45 5 = ctx ∧ (up (up (up (up M1 45 5 ctx) 45 6 0) 45 7 0) 45 8 0) 45 6 = 0 ∧ (up (up (up (up M1 45 5 ctx) 45 6 0) 45 7 0) 45 8 0) 45 7 = 0 ∧ (up (up (up (up M1 45 5 ctx) 45 6 0) 45 7 0) 45 8 0) 45 8 = 0
    simp [up]
  have r2 : Rj Mr R2 := ⟨fun a b1 b2 => by show (up (up (up Mr 53 47 0) 53 48 0) 53 49 0) a = _; rw [up_cell b1, up_cell b1, up_cell b1], fun j b1 b2 b3 => by show (up (up (up Mr 53 47 0) 53 48 0) 53 49 0) 53 j = _; rw [up_at b3, up_at b2, up_at b1]⟩
  have r53 : R2 53 47 = 0 ∧ R2 53 48 = 0 ∧ R2 53 49 = 0 := by
    show (up (up (up Mr 53 47 0) 53 48 0) 53 49 0) 53 47 = 0 ∧ (up (up (up Mr 53 47 0) 53 48 0) 53 49 0) 53 48 = 0 ∧ (up (up (up Mr 53 47 0) 53 48 0) 53 49 0) 53 49 = 0
    simp [up]
  have r93 : R2 93 = Mr 93 := by show (up (up (up Mr 53 47 0) 53 48 0) 53 49 0) 93 = _; rw [up_cell (by decide), up_cell (by decide), up_cell (by decide)]
  have fg : Fg M2 n ρ := Fg_same (fun a b1 b2 => m2 a (by omega) (by omega)) h2.1
  have F2 : FS M2 R2 S n n' N k cs ρ ρ' T ctx := by
    refine ⟨Fin2_same h2 ⟨m2 26 (by decide) (by decide), m2 27 (by decide) (by decide), m2 28 (by decide) (by decide)⟩ ⟨r2.1 76 (by decide) (by decide), r2.1 77 (by decide) (by decide), r2.1 78 (by decide) (by decide)⟩ fg (Fr_same (fun a b1 b2 => r2.1 a (by omega) (by omega)) (r2.2 28 (by decide) (by decide) (by decide)) h2.2.1), ?_, CT_fr (fun a ha => m2 a (by omega) (by omega)) (fun a b1 b2 => r2.1 a (by omega) (by omega)) (fun j hj => r2.2 j (by omega) (by omega) (by omega)) ct, TyG_fr ⟨m2 26 (by decide) (by decide), m2 27 (by decide) (by decide), m2 28 (by decide) (by decide), m2 31 (by decide) (by decide)⟩ tg, ?_, m45.1, by rw [r2.2 53 (by decide) (by decide) (by decide)]; exact hc.1, hc.2⟩
    · unfold Nm
      rw [m2 25 (by decide) (by decide), m2 26 (by decide) (by decide), m2 31 (by decide) (by decide), m2 32 (by decide) (by decide), r2.2 50 (by decide) (by decide) (by decide), r2.1 92 (by decide) (by decide)]
      exact nm
    · unfold Acy mu
      rw [m2 26 (by decide) (by decide), m2 27 (by decide) (by decide), m2 28 (by decide) (by decide)]
      exact ac
  have fl2 : Fl M2 R2 := by
    unfold Fl
    rw [m45.2.1, m45.2.2.1, m45.2.2.2, r53.1, r53.2.1, r53.2.2]
    exact ⟨⟨rfl, Or.inl rfl⟩, ⟨rfl, Or.inl rfl⟩, rfl, Or.inl rfl⟩
  have bi2 : Bi M2 R2 k N := fun i hi => by
    obtain ⟨a, b, y1, y2, y3, y4, y5, y6, y7⟩ := nm.2.2.1 i hi
    refine ⟨0, by omega, ?_, by rw [r93]; exact h93 i hi, fun c hc => by rw [Nat.zero_testBit] at hc; exact absurd hc Bool.false_ne_true⟩
    rw [m2 32 (by decide) (by decide), y1, Int.toNat_natCast, m46]
    exact e3 a (T_lt y5).1
  have pt2 : PT M2 R2 S cs np := PT_fr (fun a ha => m2 a (by omega) (by omega)) (fun a ha => r2.1 a (by omega) (by omega)) (fun j hj => r2.2 j (by omega) (by omega) (by omega)) pt
  have wle := wsQ_le pt2.2.1 pt2.1 np (by omega)
  obtain ⟨Mc', Mr', w, s1, s2, s3, s4, s5, s6⟩ := wrong_loop (x1 := ctx) np 0 FU FU M2 R2 (by omega) (by have := pt.2.1.1; unfold FU; omega) (by have := pt.2.1.1; unfold FU; omega) pt2 (Jn_refl fl2 bi2) F2 (fun _ _ q hq => by omega)
  have s1 : l105 FU 38 M2 ctx 0 = some (w, Mc') := s1
  have s2 : l227 FU 17 R2 0 = some (0, Mr') := s2
  refine ⟨Mc', Mr', w, ?_, ?_, s4, s3.1, s3.2.1, ⟨fun a b1 b2 b3 => by rw [s3.2.2.1.1 a b1 b2 b3, m2 a b2 b3], fun y hy => by rw [s3.2.2.1.2.2 y hy, m2 29 (by decide) (by decide)]⟩, Rj_trans r2 s3.2.2.2.1, s5, fun z1 z2 q hq => CQ_fr (fun a ha => (m2 a (by omega) (by omega)).symm) ⟨(m2 34 (by decide) (by decide)).symm, (m2 38 (by decide) (by decide)).symm⟩ (s6 z1 z2 q hq)⟩
  · unfold f105 f106 f99_46 f100
    rw [bs_, h2.1.1.1, if_pos (by omega), if_pos (by omega), if_pos (by omega), bs_]
    dsimp only
    rw [e1, bs_]
    exact s1
  · unfold f227
    exact s2
