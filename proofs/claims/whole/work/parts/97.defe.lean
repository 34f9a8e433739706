/-! Define, whole: the two calls agree. -/
theorem def_in {Mc Mr : Mm} {e : Nat} (rel : Rel Mc Mr) (he : (e : Int) < Mc 12 4) (hD : Mc 17 4 < 20) :
    ∃ (v : Int) (Mc' Mr' : Mm), f128 Mc (e : Int) = some (v, Mc') ∧ (f211 Mr (e : Int)).bind (fun z => if z.1 = 0 then (some ((-1), z.2)) else (f225 z.2).bind (fun y => if y.1 = 0 then (f226 (up y.2 53 53 (-1)) (y.2 85 (Int.toNat 0))).bind (fun x => (f227 x.2).bind (fun w => l210 FU 79 w.2 (e : Int) 0 0 0 0 0 0)) else (some ((-1), y.2)))) = some (v, Mr') ∧ Rel Mc' Mr' ∧ FrC Mc Mc' ∧ FrR Mr Mr' ∧ Mr' 53 0 = Mr 53 0 := by
  obtain ⟨v, C4, R4, wc, wr, ⟨_, h1, _, h2, h3⟩ | ⟨_, w, S, n, n', N, k, np, cs, ρ, ρ', T, g1, g2, g3, fs, bi, chk, sn, h5, h9, h36, u, h85, qS⟩⟩ := def_a rel he
  · exact ⟨v, C4, R4, h1, h2, Rel_wk wc wr rel, WkC_F wc, WkR_F wr, wr.2 0 (by omega)⟩
  · have rel4 := Rel_wk wc wr rel
    rw [g1, g2]
    have hn := fs.1.1.1.2.2.1
    have hk := fs.2.1.1.2.2
    obtain ⟨R0, hR⟩ := Rb_of fs.2.2.1
    have ct := fs.2.2.1
    have B1 : ∀ v, v < k → (R4 93 v).toNat < 64 ∧ (∀ c : Nat, ((R4 93 v).toNat).testBit c = true → c < N) ∧ R4 93 v = (((R4 93 v).toNat : Nat) : Int) := fun v hv => by
      obtain ⟨b, b1, b2, b3, b4⟩ := bi v hv
      rw [b3, Int.toNat_natCast]
      exact ⟨b1, b4, rfl⟩
    obtain ⟨R5, f', p1, p2, p3, p4⟩ := l210_79 (Mc := C4) (Mr := R4) (B := fun v => (R4 93 v).toNat) (x1 := (e : Int)) hR ct.1.2.1 fs.2.1.1.2.1 ct.1.2.2 (by omega) B1 k 0 FU R4 (by omega) (by unfold FU; omega) (fun _ _ => rfl) (fun _ _ => rfl) (fun i hi => by omega)
    have p1 : l210 FU 79 R4 (e : Int) 0 0 0 0 0 0 = _ := p1
    have e50 : R5 53 50 = (k : Int) := by rw [p3 53 (by decide)]; exact fs.2.1.1.2.1
    have e47 : R5 53 47 = R4 53 47 := by rw [p3 53 (by decide)]
    have e48 : R5 53 48 = R4 53 48 := by rw [p3 53 (by decide)]
    have e49 : R5 53 49 = R4 53 49 := by rw [p3 53 (by decide)]
    have wr5 : WkR R4 R5 := ⟨fun a ha => p3 a (by omega), fun k _ => by rw [p3 53 (by decide)]⟩
    have wrr := WkR_trans wr wr5
    have rel5 := Rel_wk (Nc := C4) (fun _ _ => rfl) wr5 rel4
    rw [p1, l210, e50, if_pos (Int.le_refl _), e47, e48, e49]
    by_cases z47 : R4 53 47 = 0
    · rw [if_pos z47] at g3 ⊢
      by_cases z48 : R4 53 48 = 0
      · rw [if_pos z48] at g3 ⊢
        by_cases z49 : R4 53 49 = 0
        · rw [if_pos z49] at g3
          have chk := chk g3
          obtain ⟨C5, l1, l2, l3⟩ := l132_ok (Mc := C4) (Mr := R4) (B := fun v => (R4 93 v).toNat) hR ct.1.1 fs.2.1.1.1 ct.1.2.2 (fun v hv => by
            obtain ⟨b, b1, b2, b3, b4⟩ := bi v hv
            obtain ⟨c, w', c1, c2, c3, c4, c5, c6, c7⟩ := fs.2.1.2.2.1 v hv
            have := (T_lt c5).1
            refine ⟨(B1 v hv).1, (B1 v hv).2.1, c, c1, by omega, ?_⟩
            rw [c1, Int.toNat_natCast] at b2
            rw [b2, b3, Int.toNat_natCast]) (by omega) k 0 FU C4 (by omega) (by unfold FU; omega) (fun _ _ => rfl) (fun i x hx => by simp [ga] at hx)
          have l1 : f132 C4 = _ := l1
          have wc5 : WkC C4 C5 := fun a ha => l2 a (by omega)
          have rel55 := Rel_wk (Nr := R5) wc5 ⟨fun _ _ => rfl, fun _ _ => rfl⟩ rel5
          rw [if_pos g3, l1, bs_]
          dsimp only
          unfold f133
          rw [bs_, l2 25 (by decide), fs.2.1.1.1]
          by_cases z8 : 8 < (k : Int)
          · rw [if_pos z8, if_pos z8]
            exact ⟨-4, C5, R5, rfl, rfl, rel55, WkC_F (WkC_trans wc wc5), WkR_F wrr, wrr.2 0 (by omega)⟩
          · rw [if_neg z8, if_neg z8]
            by_cases zm : 8 < ((ga (fun v c => rm R0 (R4 93 v).toNat c) N k).length : Int)
            · rw [if_neg (by omega), if_pos zm]
              exact ⟨-4, C5, R5, rfl, rfl, rel55, WkC_F (WkC_trans wc wc5), WkR_F wrr, wrr.2 0 (by omega)⟩
            · rw [if_pos (by omega), if_neg zm, if_pos z49]
              have hf : 100 < f' := by unfold FU at p2; omega
              have chk5 : Chk C5 R5 S n n' cs ρ ρ' T np k N e (-1) := by
                obtain ⟨k1, k3, k4, k5, k6, k7⟩ := chk
                have F5 : Fg C5 n ρ := Fg_same (fun a b1 b2 => l2 a (by omega)) k1.1.1
                refine ⟨⟨Fin2_same k1.1 ⟨l2 26 (by decide), l2 27 (by decide), l2 28 (by decide)⟩ ⟨p3 76 (by decide), p3 77 (by decide), p3 78 (by decide)⟩ F5 (Fr_same (fun a b1 b2 => p3 a (by omega)) (by rw [p3 53 (by decide)]) k1.1.2.1), ?_, CT_fr (fun a ha => l2 a (by omega)) (fun a b1 b2 => p3 a (by omega)) (fun j hj => by rw [p3 53 (by decide)]) k1.2.2.1, TyG_fr ⟨l2 26 (by decide), l2 27 (by decide), l2 28 (by decide), l2 31 (by decide)⟩ k1.2.2.2.1, ?_, ?_⟩, PT_fr (fun a ha => l2 a (by omega)) (fun a ha => p3 a (by omega)) (fun j hj => by rw [p3 53 (by decide)]) k3, ?_, fun q hq => ?_, by rw [l2 31 (by decide)]; exact k6, k7⟩
                · unfold Nm
                  rw [l2 25 (by decide), l2 26 (by decide), l2 31 (by decide), l2 32 (by decide), p3 53 (by decide), p3 92 (by decide)]
                  exact k1.2.1
                · unfold Acy mu
                  rw [l2 26 (by decide), l2 27 (by decide), l2 28 (by decide)]
                  exact k1.2.2.2.2.1
                · rw [l2 45 (by decide), p3 53 (by decide)]
                  exact k1.2.2.2.2.2
                · rw [l2 34 (by decide), l2 16 (by decide)]; exact k4
                · have := CQ_fr (N := C5) (fun a ha => l2 a (by omega)) ⟨l2 34 (by decide), l2 38 (by decide)⟩ (k5 q hq)
                  refine CQ_mono (fun c v hcv => ?_) this
                  unfold Ab
                  rw [l2 46 (by decide), l2 32 (by decide)]
                  exact hcv
              have key := def_t (many := (ga (fun v c => rm R0 (R4 93 v).toNat c) N k).length) (R0 := R0) (B0 := fun v => (R4 93 v).toNat) (f := f') (x2 := ((ga (fun v c => rm R0 (R4 93 v).toNat c) N k).length : Int)) rfl rel55 chk5 (by omega) (by omega) rfl l3 (fun v c hv hc hrm => by
                obtain ⟨b, b1, b2, b3, b4⟩ := bi v hv
                refine ⟨b, b1, by rw [l2 46 (by decide), l2 32 (by decide)]; exact b2, ?_⟩
                have := (rm_iff.mp hrm).1
                rw [b3, Int.toNat_natCast] at this
                exact this) (fun c v hcv => by
                rcases hcv with ⟨i, b, a1, a2, a3, a4, a5, a6⟩ | ⟨_, z⟩
                · rw [l2 46 (by decide), l2 32 (by decide)] at a3
                  obtain ⟨b', b1, b2, b3, b4⟩ := bi i a1
                  have eb : b = b' := by omega
                  subst eb
                  obtain ⟨c', r1, r2⟩ := rm_up hR ct.1.2.2 b4 6 c (by omega) a5
                  have lc := b4 c' (rm_iff.mp r1).1
                  refine ⟨c', ⟨i, a2, a1, lc, ?_⟩, ?_⟩
                  · rw [b3, Int.toNat_natCast]
                    exact r1
                  · unfold Rc at r2 ⊢
                    rw [l2 6 (by decide)]
                    exact r2
                · omega) p4 (by unfold Sn mu; rw [l2 31 (by decide), l2 26 (by decide), l2 27 (by decide), l2 28 (by decide)]; exact sn) (by rw [l2 26 (by decide)]; exact h5) (by rw [show psc C5 = psc C4 by unfold psc; rw [l2 26 (by decide), l2 27 (by decide), l2 28 (by decide)], l2 31 (by decide)]; exact h9) (by rw [l2 36 (by decide)]; exact h36) (by rw [p3 85 (by decide)]; exact h85) qS (by rw [l2 17 (by decide), wc 17 (by omega)]; exact hD) hf
              obtain ⟨v', C', R', y1, y2, y3, y4, y5, y6⟩ := key
              exact ⟨v', C', R', y1, y2, y3, FrC_trans (WkC_F (WkC_trans wc wc5)) y4, FrR_trans (WkR_F wrr) y5, by rw [y6]; exact wrr.2 0 (by omega)⟩
        · rw [if_neg z49] at g3
          rw [if_neg (by omega), g3]
          have fin : ∀ (o : Option (Int × Mm)), (∃ R', o = some (-4, R') ∧ R' = R5) → ∃ v Mc' Mr', some ((-4 : Int), C4) = some (v, Mc') ∧ o = some (v, Mr') ∧ Rel Mc' Mr' ∧ FrC Mc Mc' ∧ FrR Mr Mr' ∧ Mr' 53 0 = Mr 53 0 := by
            rintro o ⟨R', h1, rfl⟩
            exact ⟨-4, C4, _, rfl, h1, rel5, WkC_F wc, WkR_F wrr, wrr.2 0 (by omega)⟩
          refine fin _ ⟨R5, ?_, rfl⟩
          by_cases z8 : 8 < (k : Int)
          · rw [if_pos z8]
          · rw [if_neg z8]
            by_cases zm : 8 < ((ga (fun v c => rm R0 (R4 93 v).toNat c) N k).length : Int)
            · rw [if_pos zm]
            · rw [if_neg zm, if_neg z49]
      · rw [if_neg z48] at g3 ⊢
        rw [if_neg (by omega), g3]
        exact ⟨-3, C4, R5, rfl, rfl, rel5, WkC_F wc, WkR_F wrr, wrr.2 0 (by omega)⟩
    · rw [if_neg z47] at g3 ⊢
      rw [if_neg (by omega), g3]
      exact ⟨-2, C4, R5, rfl, rfl, rel5, WkC_F wc, WkR_F wrr, wrr.2 0 (by omega)⟩
