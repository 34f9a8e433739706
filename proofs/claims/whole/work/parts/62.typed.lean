/-! findTypes and typeAll. -/
def CFt (M M' : Mm) : Prop := (∀ a, a < 24 ∨ 42 ≤ a → M' a = M a) ∧ (∀ k, k ≠ 13 → M' 24 k = M 24 k) ∧ ∀ k, k ≠ 8 → M' 25 k = M 25 k
def RFt (M M' : Mm) : Prop := (∀ a, a ≠ 53 → ¬ (76 ≤ a ∧ a ≤ 91) → M' a = M a) ∧ ∀ k, k ≠ 28 → k ≠ 43 → k ≠ 46 → M' 53 k = M 53 k
theorem types_ok {Mc Mr : Mm} {e : Nat} (st : Stat Mc Mr) (he : (e : Int) < Mc 12 4) : ∃ (b : Int) (Mc' Mr' : Mm), f65 Mc (e : Int) = some (b, Mc') ∧ f211 Mr (e : Int) = some (b, Mr') ∧ CFt Mc Mc' ∧ RFt Mr Mr' ∧ ((b = 0 ∧ Nf Mr') ∨ (b = 1 ∧ ∃ S n n' cs np ow, PS Mc' Mr' S n n' cs np np ow ∧ Mc' 34 0 = (e : Int) ∧ Mc 16 e = (np : Int))) := by
  obtain ⟨tyc, tyr, tyv, exc, exr, cl, df⟩ := id st
  have h200 := exc.1
  obtain ⟨-, k2, -⟩ := exc.2 e he
  obtain ⟨np, hnp⟩ : ∃ np : Nat, Mc 16 e = (np : Int) := ⟨(Mc 16 e).toNat, by omega⟩
  have r66 : Mr 66 e = (np : Int) := by rw [(exr.2 e he).2.2.2]; exact hnp
  -- laying out
  let M0 := up (up (up Mc 24 13 (np : Int)) 34 0 (e : Int)) 35 0 (-1)
  let R0 := up (up (up (up (up Mr 53 28 0) 53 43 0) 53 46 (np : Int)) 84 0 (e : Int)) 86 0 (-1)
  have m0 : ∀ a, a ≠ 24 → a ≠ 34 → a ≠ 35 → M0 a = Mc a := fun a h1 h2 h3 => by show (up (up (up Mc 24 13 (np : Int)) 34 0 (e : Int)) 35 0 (-1)) a = _; rw [up_cell h3, up_cell h2, up_cell h1]
  have m24 : ∀ k, k ≠ 13 → M0 24 k = Mc 24 k := fun k hk => by show (up (up (up Mc 24 13 (np : Int)) 34 0 (e : Int)) 35 0 (-1)) 24 k = _; rw [up_cell (by decide), up_cell (by decide), up_at hk]
  have r0 : ∀ a, a ≠ 53 → a ≠ 84 → a ≠ 86 → R0 a = Mr a := fun a h1 h2 h3 => by show (up (up (up (up (up Mr 53 28 0) 53 43 0) 53 46 (np : Int)) 84 0 (e : Int)) 86 0 (-1)) a = _; rw [up_cell h3, up_cell h2, up_cell h1, up_cell h1, up_cell h1]
  have r53 : ∀ k, R0 53 k = if k = 46 then (np : Int) else if k = 43 then 0 else if k = 28 then 0 else Mr 53 k := fun k => by show (up (up (up (up (up Mr 53 28 0) 53 43 0) 53 46 (np : Int)) 84 0 (e : Int)) 86 0 (-1)) 53 k = _; simp [up]
  have tb : tbl Mc M0 := ⟨m0 12 (by decide) (by decide) (by decide), m0 13 (by decide) (by decide) (by decide), m0 14 (by decide) (by decide) (by decide), m0 15 (by decide) (by decide) (by decide), m0 16 (by decide) (by decide) (by decide)⟩
  have a34 : M0 34 0 = (e : Int) := by show (up (up (up Mc 24 13 (np : Int)) 34 0 (e : Int)) 35 0 (-1)) 34 0 = _; rw [up_cell (by decide), up_same]
  have a35 : M0 35 0 = -1 := by show (up (up (up Mc 24 13 (np : Int)) 34 0 (e : Int)) 35 0 (-1)) 35 0 = _; rw [up_same]
  have a24 : M0 24 13 = (np : Int) := by show (up (up (up Mc 24 13 (np : Int)) 34 0 (e : Int)) 35 0 (-1)) 24 13 = _; rw [up_cell (by decide), up_cell (by decide), up_same]
  have b84 : R0 84 0 = (e : Int) := by show (up (up (up (up (up Mr 53 28 0) 53 43 0) 53 46 (np : Int)) 84 0 (e : Int)) 86 0 (-1)) 84 0 = _; rw [up_cell (by decide), up_same]
  have b86 : R0 86 0 = -1 := by show (up (up (up (up (up Mr 53 28 0) 53 43 0) 53 46 (np : Int)) 84 0 (e : Int)) 86 0 (-1)) 86 0 = _; rw [up_same]
  have st0 : Stat M0 R0 := Stat_fr (fun a ha => m0 a (by omega) (by omega) (by omega)) (fun a h1 h2 => r0 a (by omega) (by omega) (by omega)) (fun k hk => by rw [r53, if_neg (by omega), if_neg (by omega), if_neg (by omega)]) st
  have lnd0 : Lnd R0 0 0 (fun _ => 0) := ⟨⟨⟨by rw [r53]; rfl, by omega, fun x hx => by omega⟩, ⟨fun x hx => by omega, fun x hx => by omega⟩, by rw [rc_id]; omega, Ui_id (fun x hx => by omega)⟩, by omega, fun u hu => by omega, fun q hq => by omega, fun q hq => by omega⟩
  have cov0 : cov M0 np 0 0 [e] := by
    refine ⟨⟨a34, by rw [tb.1]; exact he, by rw [a35]; omega, by rw [a35]; decide, Or.inl a35⟩, ?_⟩
    show 0 + (M0 16 e).toNat = np
    rw [tb.2.2.2.2, hnp, Int.toNat_natCast]
    omega
  obtain ⟨M1, R1, n', ow, l1, l2, l3, l4, l5, l6, l7, l8⟩ := lay_loop (e0 := (e : Int)) (show np ≤ 60 by omega) np 0 FU FU M0 R0 [e] 0 (fun _ => 0) (by omega) (by unfold FU; omega) (by unfold FU; omega) st0.2.2.2.1 st0.2.2.2.2.1 a24 (by rw [r53]; rfl) cov0 (fun q hq => by omega) (fun q hq => by
    rcases hq with hq | hq
    · omega
    · rcases hq with rfl | hq
      · rw [b84, b86, a34, a35]; exact ⟨rfl, rfl⟩
      · exact hq.elim) lnd0
  have e66 : f66 Mc (e : Int) = some (0, M1) := by
    unfold f66
    rw [f67_eq (by omega), bs_, hnp]
    have : f68 (up Mc 24 13 (np : Int)) 0 (e : Int) (-1) = some (0, M0) := f68_eq (p := 0) (by omega)
    rw [this, bs_]
    exact l1
  have e212 : f212 (up (up Mr 53 28 0) 53 43 0) (e : Int) = some (0, R1) := by
    unfold f212
    rw [if_pos (by omega), Int.toNat_natCast, up_cell (show 66 ≠ 53 by decide), up_cell (show 66 ≠ 53 by decide), r66]
    exact l2
  -- the first nodes
  obtain ⟨M2, c1, c2, c3, c4, c5⟩ := clear_ok M1
  have tw0 : Tw M2 R1 (Sp R1 0) (2 + 0) n' [] := by
    refine ⟨⟨c4.1, c4.2, fun c h1 h2 => by omega, fun u hu k9 => by rw [l7.2.2.1 u hu] at k9; omega⟩, 0, fun x => x, 0, fun x => x, [], c5, l7.1, ⟨fun c u q => ?_, fun c u v q => ?_, fun c d u q => ?_⟩, fun p hp => (nomatch hp), fun p hp => (nomatch hp)⟩
    · obtain ⟨i, hi, -⟩ := q; omega
    · obtain ⟨i, hi, -⟩ := q; omega
    · obtain ⟨i, hi, -⟩ := q; omega
  obtain ⟨M3, t1, t2, t3, t4, t5⟩ := ta_loop (e := (e : Int)) (show np ≤ 60 by omega) l7 np 0 FU M2 (by omega) (by unfold FU; omega) (by rw [c2 24 (by decide), l3 24 (by decide) (by decide)]; exact a24) tw0 (fun i hi => by omega)
  have m3 : ∀ a, ¬ (25 ≤ a ∧ a ≤ 29) → a ≠ 36 → a ≠ 39 → M3 a = M1 a := fun a h1 h2 h3 => by rw [t2 a h1 h2 h3, c2 a h1]
  have m3c : ∀ a, a ≠ 24 → ¬ (25 ≤ a ∧ a ≤ 29) → ¬ (34 ≤ a ∧ a ≤ 36) → a ≠ 39 → M3 a = Mc a := fun a h0 h1 h2 h3 => by rw [m3 a h1 (by omega) h3, l3 a (by omega) (by omega), m0 a h0 (by omega) (by omega)]
  have r1c : ∀ a, a ≠ 53 → ¬ (76 ≤ a ∧ a ≤ 79) → ¬ (84 ≤ a ∧ a ≤ 87) → a ≠ 89 → R1 a = Mr a := fun a h1 h2 h3 h4 => by rw [l4.1 a h1 h2 h3 h4, r0 a h1 (by omega) (by omega)]
  have r1k : ∀ k, k ≠ 28 → k ≠ 43 → k ≠ 46 → R1 53 k = Mr 53 k := fun k h1 h2 h3 => by rw [l4.2 k h1, r53, if_neg h3, if_neg h2, if_neg h1]
  have x34 : M3 34 = M1 34 := m3 34 (by decide) (by decide) (by decide)
  have x35 : M3 35 = M1 35 := m3 35 (by decide) (by decide) (by decide)
  have ly : LayP M3 R1 np := by
    refine ⟨by omega, by rw [m3 24 (by decide) (by decide) (by decide), l3 24 (by decide) (by decide)]; exact a24, by rw [l4.2 46 (by decide), r53]; rfl, fun q hq => ?_, fun q hq => by rw [x34, x35]; exact l6 q hq⟩
    have := l5 q hq
    unfold LayQ at this ⊢
    rw [x34, x35, m3 12 (by decide) (by decide) (by decide), m3 13 (by decide) (by decide) (by decide), m3 14 (by decide) (by decide) (by decide), m3 15 (by decide) (by decide) (by decide), m3 16 (by decide) (by decide) (by decide)]
    exact this
  have stF : Stat M3 R1 := Stat_fr (fun a ha => m3c a (by omega) (by omega) (by omega) (by omega)) (fun a h1 h2 => r1c a (by omega) (by omega) (by omega) (by omega)) (fun k hk => r1k k (by omega) (by omega) (by omega)) st
  have ps : PS M3 R1 (Sp R1 np) (2 + np) n' [] 0 np ow := by
    obtain ⟨-, n1, n2, n3, n4⟩ := l7
    refine ⟨t4, stF, ly, fun q hq => ⟨⟨(t5 q hq).1, ?_⟩, fun k => ?_⟩, fun q hq => ⟨fun h => by omega, fun _ => ⟨(t5 q hq).2, (n3 q hq).1⟩⟩, ⟨by rw [l4.2 43 (by decide), r53]; rfl, fun q hq => by omega⟩, fun q hq => by omega, by omega, by omega, fun x hx => ?_⟩
    · obtain ⟨-, u, u1, u2, -⟩ := n3 q hq
      exact ⟨u, u2, q, hq, rfl, u2⟩
    · have h3 : R1 63 (R1 84 q).toNat = 3 := by
        rw [(ly.2.2.2.2 q hq).1]
        show R1 63 (eAt M3 q) = 3
        rw [(stF.2.2.2.2.1.2 _ (LayP_e ly hq).2).1]
        exact k
      obtain ⟨u, u1, u2, u3⟩ := n4 q hq h3
      refine ⟨u, u1, u2, n2 u u1, u3, fun h => by omega, fun _ d hd => ?_⟩
      obtain ⟨i, i1, i2, i3⟩ := hd
      obtain ⟨-, u', v1, v2, v3⟩ := n3 i i1
      have : u' = u := by omega
      subst this
      omega
    · obtain ⟨⟨a0, a1, a2, -⟩, -, -, -, -, -, -, -, s, -⟩ := t4
      by_cases e0 : x = 0
      · rw [e0, a0]; decide
      · by_cases e1 : x = 1
        · rw [e1, a1]; decide
        · obtain ⟨u, hu⟩ := a2 x (by omega) hx
          obtain ⟨-, b2, b3, -⟩ := s.1 x u hu
          have := n2 u b2
          unfold gN at b3
          omega
  obtain ⟨b, Mc', Mr', z1, z2, z3, z4, z5⟩ := pl_loop (e := (e : Int)) (e' := (e : Int)) np 0 (FU - np - 1) FU M3 R1 (Sp R1 np) (2 + np) n' [] (by omega) (by unfold FU; omega) (by unfold FU; omega) ps
  refine ⟨b, Mc', Mr', ?_, ?_, ⟨fun a ha => ?_, fun k hk => ?_, fun k hk => ?_⟩, ⟨fun a h1 h2 => ?_, fun k h1 h2 h3 => ?_⟩, z5.imp_right (fun q => ⟨q.1, ?_⟩)⟩
  · unfold f65
    rw [e66, bs_]
    dsimp only
    rw [c1, bs_]
    dsimp only
    exact t1.trans z1
  · unfold f211
    rw [e212, bs_]
    exact z2
  · rw [z3.1 a (by omega), m3c a (by omega) (by omega) (by omega) (by omega)]
  · rw [z3.1 24 (by omega), m3 24 (by decide) (by decide) (by decide), l3 24 (by decide) (by decide), m24 k hk]
  · rw [z3.2 k hk, t3 k hk, c3 k hk, l3 25 (by decide) (by decide), m0 25 (by decide) (by decide) (by decide)]
  · rw [z4.1 a h1 (by omega) (by omega), r1c a h1 (by omega) (by omega) (by omega)]
  · rw [z4.2 k h1 h2, r1k k h1 h2 h3]
  · obtain ⟨-, S', m, m', cs', w⟩ := q
    refine ⟨S', m, m', cs', np, ow, w, ?_, hnp⟩
    rw [z3.1 34 (by omega), x34, l8]
    exact a34
