/-! Define, whole. -/
section DEFD
variable {Mc Mr : Mm} {S : Nat → Nat → Prop} {n n' k N np e : Nat} {cs : List (Nat × Nat)} {ρ ρ' : Nat → Nat} {T : Nat → Ty}
/-- the state in which the type gets its number -/
theorem def_t {C R : Mm} {many u : Nat} {R0 : Nat → Nat → Bool} {B0 : Nat → Nat} {r : Nat → Nat → Bool} (er : r = fun v c => rm R0 (B0 v) c) (rel : Rel C R) (chk : Chk C R S n n' cs ρ ρ' T np k N e (-1)) (hk : k ≤ 8) (hm : many ≤ 8) (hl : many = (ga r N k).length) (l43 : ls C 43 0 (ga r N k)) (hr : ∀ v c, v < k → c < N → r v c = true → ∃ b : Nat, b < 64 ∧ C 46 (C 32 v).toNat = (b : Int) ∧ b.testBit c = true) (hcov : ∀ c v, Ab C k (-1) c v → ∃ c' : Nat, (∃ w : Nat, v = (w : Int) ∧ w < k ∧ c' < N ∧ r w c' = true) ∧ Rc C (c' : Int) (c : Int))
    (ho : ∀ v, v < k → ∃ o : Nat, R 93 v = (o : Int) ∧ o < 64 ∧ ∀ e, e < 6 → o.testBit e = r v e) (sn : Sn C ρ n 2) (h5 : ∀ y, y < n → C 26 y ≠ 5) (h9 : ∀ P : Nat → Prop, P (ρ 2) → (∀ x m, P x → m ∈ psc C ρ x → P m) → ∀ y, y < n → C 31 y ≠ -2 → P y) (h36 : C 36 0 = 2) (h85 : R 85 0 = (u : Int)) (qS : S 2 u) (hD : C 17 4 < 20) {x2 : Int} {f : Nat} (hf : 100 < f) :
    ∃ (v : Int) (C' R' : Mm), (f136 C).bind (fun zq47 => if ¬ zq47.1 = (-1) then (f141_43 zq47.2 (e : Int) zq47.1 (many : Int)).bind (fun zq54 => (f142 zq54.2 zq54.1).bind (fun q60 => (f120_24 zq54.2 q60).bind (fun zq65 => some (zq54.1, zq65.2)))) else (some ((-4), zq47.2))) = some (v, C') ∧
      (f233 R (R 85 (Int.toNat 0))).bind (fun zq49 => if ¬ zq49.1 = (-1) then (if rg ((zq49.2 53 17) + 1) then (if 0 ≤ (zq49.2 53 17) ∧ (zq49.2 53 17) < 20 then (l210 f 252 (up (up (up (up (up zq49.2 53 17 ((zq49.2 53 17) + 1)) 67 (Int.toNat (zq49.2 53 17)) (e : Int)) 68 (Int.toNat (zq49.2 53 17)) zq49.1) 69 (Int.toNat (zq49.2 53 17)) (zq49.2 53 50)) 70 (Int.toNat (zq49.2 53 17)) 0) (e : Int) x2 (R 53 1) zq49.1 (zq49.2 53 17) 0 0) else none) else none) else (some ((-4), (up zq49.2 53 1 (R 53 1))))) = some (v, R') ∧ Rel C' R' ∧ FrC C C' ∧ FrR R R' ∧ R' 53 0 = R 53 0 := by
  have rel0 := rel
  obtain ⟨N0, NT, st, ct0, sp, ⟨t1, t2, t3, t4, t5⟩, df, mt, vr⟩ := rel
  obtain ⟨fs, pt, ⟨h34, h16⟩, cq, h31, hn'⟩ := chk
  obtain ⟨fin, nm, ct, tg, ac, hctx⟩ := fs
  have eN : N0 = N := by have := ct0.1.1; have := ct.1.1; omega
  subst eN
  obtain ⟨tC, tR, tV, eC, eR, clT, dfT⟩ := st
  have st0 : Stat C R := ⟨tC, tR, tV, eC, eR, clT, dfT⟩
  have F := fin.1
  have h2n : 2 < n := (T_lt (T_S fin qS)).1
  have m31 : ∀ y, y < n → C 26 y = 2 → C 31 y < (k : Int) := fun y hy _ => by
    rcases nm.2.1 y hy with z | z | ⟨_, i, z1, z2, z3⟩ <;> omega
  have vc : vOK (T 2) := vOK_seen F ac tg sn h5 (fun y hy z => by have := m31 y hy z; omega) h2n
  have vl : vlt (k : Int) (T 2) := vlt_seen F ac tg sn h5 m31 h2n
  obtain ⟨v1, C6, y1, y2, y3, y4, y5, y6⟩ := cnum_ok (c := 2) F tg tC tV h5 (fun y hy z => by have := m31 y hy z; omega) h2n h36 vc
  obtain ⟨v2, R6, z1, z2, z3⟩ := rnum_ok fin nm tg ac h5 qS vc (RT_of tC tR) (TyC_WT tC)
  have r1 : R 53 1 = C 1 3 := tR.1
  rw [y1, bs_, show Int.toNat 0 = 0 from rfl, h85, z1, bs_]
  dsimp only
  rcases y6 with ⟨a1, a2, a3⟩ | ⟨t, a1, a2, a3, a4⟩
  · have b1 : v2 = -1 := by
      rcases z3 with ⟨b, _⟩ | ⟨t', C', _, b, _⟩
      · exact b
      · rw [a3] at b; cases b
    rw [if_neg (fun z => z a1), if_neg (fun z => z b1)]
    refine ⟨-4, C6, _, rfl, rfl, ?_, fun a ha => y2 a (by omega) (by omega) (by omega) (by omega) (by omega) (by omega), fun a ha => by rw [up_cell (by omega), z2.1 a (by omega) (by omega) (by omega) (by omega) (by omega) (by omega)], by rw [up_at (by decide), z2.2.1 0 (by decide)]⟩
    refine Rel_tab rel0 (fun a b1 b2 b3 b4 b5 => y2 a b2 b3 b4 b5 (by omega) (by omega)) (fun a b1 b2 => by rw [up_cell (by omega), z2.1 a (by omega) (by omega) (by omega) (by omega) (by omega) (by omega)]) (fun j b1 b2 b3 => by rw [up_at b2, z2.2.1 j b2]) (TyC_same a2 (fun t ht => (y4 t ht).2) tC) (TyV_same a2 y4 tC tV) ?_ y4 (by omega) (ValR_fr ⟨by rw [y2 47 (by decide) (by decide) (by decide) (by decide) (by decide) (by decide)], y2 52 (by decide) (by decide) (by decide) (by decide) (by decide) (by decide)⟩ ⟨by rw [up_at (by decide), z2.2.1 54 (by decide)], by rw [up_at (by decide), z2.2.1 55 (by decide)], by rw [up_at (by decide), z2.2.1 56 (by decide)], by rw [up_cell (by decide), z2.1 94 (by decide) (by decide) (by decide) (by decide) (by decide) (by decide)]⟩ vr)
    refine ⟨by rw [up_same, a2]; exact r1, fun t ht => ?_, fun t h1 h2 => ?_⟩
    · rw [up_cell (by decide), (z2.2.2.1 t (Or.inl ht)).1]
      exact tR.2.1 t ht
    · rw [a2] at h2
      have q := z2.2.2.1 t (Or.inr (by omega))
      rw [up_cell (show 55 ≠ 53 by decide), up_cell (show 54 ≠ 53 by decide), up_cell (show 56 ≠ 53 by decide), q.1, q.2.1, q.2.2, (y4 t h2).2.1, (y4 t h2).2.2]
      exact tR.2.2 t h1 h2
  · obtain ⟨b1, b2⟩ : v2 = (t : Int) ∧ RT R6 (tabC C6) := by
      rcases z3 with ⟨_, b⟩ | ⟨t', C', b1, b2, b3⟩
      · rw [a2] at b; cases b
      · rw [a2] at b2
        have b2 := Option.some.inj b2
        have e1 : t = t' := congrArg Prod.fst b2
        have e2 : tabC C6 = C' := congrArg Prod.snd b2
        subst e1; subst e2
        exact ⟨b1, b3⟩
    clear z3
    subst a1
    subst b1
    rw [if_pos (by omega), if_pos (by omega)]
    have tR6 : TyR C6 R6 := TyR_of b2 (fun t ht => by rw [(z2.2.2.1 t (Or.inl ht)).1]; exact tR.2.1 t ht) a3
    have le13 : C 1 3 ≤ C6 1 3 := by
      obtain ⟨o1, o2, o3, o4, o5, o6⟩ := ins_ok (T 2) vc (TyC_WT tC) a2
      have h1 : (C 1 3).toNat ≤ (C6 1 3).toNat := o2.1
      have := tC.1
      have := a3.1
      omega
    have tlt : (t : Int) < C6 1 3 := by
      obtain ⟨o1, o2, o3, o4, o5, o6⟩ := ins_ok (T 2) vc (TyC_WT tC) a2
      have h1 : t < (C6 1 3).toNat := o3
      have := a3.1
      omega
    have fr6 : ∀ a, a ≠ 1 → a ≠ 2 → a ≠ 3 → a ≠ 4 → a ≠ 29 → a ≠ 44 → C6 a = C a := y2
    have rr6 : ∀ a, a ≠ 53 → a ≠ 54 → a ≠ 55 → a ≠ 56 → a ≠ 81 → a ≠ 82 → R6 a = R a := z2.1
    have rel6 : Rel C6 R6 := Rel_tab rel0 (fun a b1 b2 b3 b4 b5 => y2 a b2 b3 b4 b5 (by omega) (by omega)) (fun a b1 b2 => rr6 a (by omega) (by omega) (by omega) (by omega) (by omega) (by omega)) (fun j b1 b2 b3 => z2.2.1 j b2) a3 a4 tR6 y4 le13 (ValR_fr ⟨by rw [y2 47 (by decide) (by decide) (by decide) (by decide) (by decide) (by decide)], y2 52 (by decide) (by decide) (by decide) (by decide) (by decide) (by decide)⟩ ⟨z2.2.1 54 (by decide), z2.2.1 55 (by decide), z2.2.1 56 (by decide), rr6 94 (by decide) (by decide) (by decide) (by decide) (by decide) (by decide)⟩ vr)
    obtain ⟨N1, NT1, st6, ct6, sp6, ⟨t61, t62, t63, t64, t65⟩, df6, mt6, vr6⟩ := rel6
    have eN1 : N1 = N0 := by
      have h1 := ct6.1.1
      have h2 := ct.1.1
      rw [fr6 5 (by decide) (by decide) (by decide) (by decide) (by decide) (by decide)] at h1
      omega
    subst eN1
    -- the class writes it down
    have d17 := dfT.1
    obtain ⟨D, hD'⟩ : ∃ D : Nat, C 17 4 = (D : Int) := ⟨(C 17 4).toNat, by omega⟩
    have D20 : D < 20 := by omega
    have hD6 : C6 17 4 = (D : Int) := by rw [fr6 17 (by decide) (by decide) (by decide) (by decide) (by decide) (by decide)]; exact hD'
    obtain ⟨C7, w1, w2, w3, w4, w5, w6, w7, w8, w9⟩ := add_ok (e := (e : Int)) (t := (t : Int)) hD6 D20 hm
    have fr7 : ∀ a, 24 ≤ a → a ≠ 29 → a ≠ 44 → C7 a = C a := fun a b1 b2 b3 => by rw [w2 a (by omega) (by omega) (by omega) (by omega) (by omega), fr6 a (by omega) (by omega) (by omega) (by omega) b2 b3]
    have F7 : Fg C7 n ρ := Fg_same (fun a b1 b2 => w2 a (by omega) (by omega) (by omega) (by omega) (by omega)) y5
    have tg7 : TyG C7 n ρ T := TyG_fr ⟨fr7 26 (by decide) (by decide) (by decide), fr7 27 (by decide) (by decide) (by decide), fr7 28 (by decide) (by decide) (by decide), fr7 31 (by decide) (by decide) (by decide)⟩ tg
    have ac7 : Acy C7 ρ n := by
      unfold Acy mu
      rw [fr7 26 (by decide) (by decide) (by decide), fr7 27 (by decide) (by decide) (by decide), fr7 28 (by decide) (by decide) (by decide)]
      exact ac
    have npb := pt.2.1.1
    obtain ⟨C8, x1, x2', x3, x4, x5, x6⟩ := write_ok (un := D) (np := np) F7 tg7 ac7 (by rw [fr7 31 (by decide) (by decide) (by decide)]; exact h31) (by omega) npb.2 (by rw [fr7 24 (by decide) (by decide) (by decide)]; exact pt.2.1.2.1) (fun p hp => by
      obtain ⟨kk, f1, f2, f3, f4, f5⟩ := (pt.2.2.2.1 p hp).1 hp
      rw [fr7 39 (by decide) (by decide) (by decide), fr7 38 (by decide) (by decide) (by decide)]
      refine ⟨kk, f1, f2, fun v hv => ?_⟩
      obtain ⟨c, u', g1, g2, g3⟩ := f5 v hv
      exact ⟨c, g1, (T_lt (T_S fin g3)).1⟩)
    -- the reference, too
    have r17 : R6 53 17 = (D : Int) := by rw [t64]; exact hD6
    have r50 : R6 53 50 = (k : Int) := by rw [z2.2.1 50 (by decide)]; exact nm.1.2.1
    rw [if_pos (by omega), if_pos (by omega), r17, Int.toNat_natCast, r50]
    let R7 := up (up (up (up (up R6 53 17 ((D : Int) + 1)) 67 D (e : Int)) 68 D (t : Int)) 69 D (k : Int)) 70 D 0
    have q7 : ∀ a, a ≠ 53 → a ≠ 67 → a ≠ 68 → a ≠ 69 → a ≠ 70 → R7 a = R6 a := fun a b1 b2 b3 b4 b5 => by
      show (up (up (up (up (up R6 53 17 ((D : Int) + 1)) 67 D (e : Int)) 68 D (t : Int)) 69 D (k : Int)) 70 D 0) a = _
      rw [up_cell b5, up_cell b4, up_cell b3, up_cell b2, up_cell b1]
    have q53 : ∀ j, R7 53 j = if j = 17 then ((D + 1 : Nat) : Int) else R6 53 j := fun j => by
      show (up (up (up (up (up R6 53 17 ((D : Int) + 1)) 67 D (e : Int)) 68 D (t : Int)) 69 D (k : Int)) 70 D 0) 53 j = _
      rw [up_cell (by decide), up_cell (by decide), up_cell (by decide), up_cell (by decide)]
      simp [up]
    have q67 : ∀ j, R7 67 j = if j = D then (e : Int) else R6 67 j := fun j => by
      show (up (up (up (up (up R6 53 17 ((D : Int) + 1)) 67 D (e : Int)) 68 D (t : Int)) 69 D (k : Int)) 70 D 0) 67 j = _
      rw [up_cell (by decide), up_cell (by decide), up_cell (by decide)]
      by_cases e : j = D
      · rw [e, up_same, if_pos rfl]
      · rw [up_at e, if_neg e, up_cell (by decide)]
    have q68 : ∀ j, R7 68 j = if j = D then (t : Int) else R6 68 j := fun j => by
      show (up (up (up (up (up R6 53 17 ((D : Int) + 1)) 67 D (e : Int)) 68 D (t : Int)) 69 D (k : Int)) 70 D 0) 68 j = _
      rw [up_cell (by decide), up_cell (by decide)]
      by_cases e : j = D
      · rw [e, up_same, if_pos rfl]
      · rw [up_at e, if_neg e, up_cell (by decide), up_cell (by decide)]
    have q69 : ∀ j, R7 69 j = if j = D then (k : Int) else R6 69 j := fun j => by
      show (up (up (up (up (up R6 53 17 ((D : Int) + 1)) 67 D (e : Int)) 68 D (t : Int)) 69 D (k : Int)) 70 D 0) 69 j = _
      rw [up_cell (by decide)]
      by_cases e : j = D
      · rw [e, up_same, if_pos rfl]
      · rw [up_at e, if_neg e, up_cell (by decide), up_cell (by decide), up_cell (by decide)]
    have q70 : R7 70 D = 0 := up_same _ _ _ _
    have q70' : ∀ j, j ≠ D → R7 70 j = R6 70 j := fun j hj => by
      show (up (up (up (up (up R6 53 17 ((D : Int) + 1)) 67 D (e : Int)) 68 D (t : Int)) 69 D (k : Int)) 70 D 0) 70 j = _
      rw [up_at hj, up_cell (by decide), up_cell (by decide), up_cell (by decide), up_cell (by decide)]
    have n6 := ct.1.2.2
    have r93 : ∀ i, i < k → ∃ o : Nat, R7 93 i = (o : Int) ∧ o < 64 ∧ ∀ e, e < 6 → o.testBit e = rm R0 (B0 i) e := fun i hi => by
      rw [q7 93 (by decide) (by decide) (by decide) (by decide) (by decide), rr6 93 (by decide) (by decide) (by decide) (by decide) (by decide) (by decide)]
      have := ho i hi
      rw [er] at this
      exact this
    rw [er] at hl l43 hr hcov
    obtain ⟨R8, p1, p2, p3, p4, p5, p6⟩ := l210_252 (Mr := R7) (N := N1) (k := k) (R := R0) (B := B0) (g := D) (x1 := (e : Int)) (x2 := x2) (x3 := R 53 1) (x4 := (t : Int)) D20 hk n6 r93 (by omega) (by rw [q53, if_neg (by decide)]; exact ct6.1.2.1) (by rw [q53, if_neg (by decide)]; exact r50) k 0 f R7 (by omega) (by omega) (fun _ _ _ => rfl) (fun _ _ => rfl) (fun _ _ => rfl) (by rw [q70]; rfl) (fun i x hx => by simp [ga] at hx)
    have p1 : l210 f 252 R7 (e : Int) x2 (R 53 1) (t : Int) (D : Int) 0 0 = _ := p1
    have fr8 : ∀ a, a ≠ 53 → a ≠ 67 → a ≠ 68 → a ≠ 69 → a ≠ 70 → a ≠ 71 → R8 a = R6 a := fun a b1 b2 b3 b4 b5 b6 => by rw [p2 a b5 b6, q7 a b1 b2 b3 b4 b5]
    have e53 : ∀ j, j ≠ 17 → R8 53 j = R6 53 j := fun j hj => by rw [p2 53 (by decide) (by decide), q53, if_neg hj]
    have fr86 : ∀ a, a ≠ 53 → a ≠ 54 → a ≠ 55 → a ≠ 56 → a ≠ 67 → a ≠ 68 → a ≠ 69 → a ≠ 70 → a ≠ 71 → a ≠ 81 → a ≠ 82 → R8 a = R a := fun a b1 b2 b3 b4 b5 b6 b7 b8 b9 b10 b11 => by rw [fr8 a b1 b5 b6 b7 b8 b9, rr6 a b1 b2 b3 b4 b10 b11]
    have e53' : ∀ j, j ≠ 17 → j ≠ 1 → R8 53 j = R 53 j := fun j b1 b2 => by rw [e53 j b1, z2.2.1 j b2]
    have fin8 : Fin2 C7 R8 S n n' cs ρ ρ' := Fin2_same fin ⟨fr7 26 (by decide) (by decide) (by decide), fr7 27 (by decide) (by decide) (by decide), fr7 28 (by decide) (by decide) (by decide)⟩ ⟨fr86 76 (by decide) (by decide) (by decide) (by decide) (by decide) (by decide) (by decide) (by decide) (by decide) (by decide) (by decide), fr86 77 (by decide) (by decide) (by decide) (by decide) (by decide) (by decide) (by decide) (by decide) (by decide) (by decide) (by decide), fr86 78 (by decide) (by decide) (by decide) (by decide) (by decide) (by decide) (by decide) (by decide) (by decide) (by decide) (by decide)⟩ F7 (Fr_same (fun a b1 b2 => fr86 a (by omega) (by omega) (by omega) (by omega) (by omega) (by omega) (by omega) (by omega) (by omega) (by omega) (by omega)) (e53' 28 (by decide) (by decide)) fin.2.1)
    have nm8 : Nm C7 R8 S n n' ρ ρ' k := by
      unfold Nm
      rw [fr7 25 (by decide) (by decide) (by decide), fr7 26 (by decide) (by decide) (by decide), fr7 31 (by decide) (by decide) (by decide), fr7 32 (by decide) (by decide) (by decide), e53' 50 (by decide) (by decide), fr86 92 (by decide) (by decide) (by decide) (by decide) (by decide) (by decide) (by decide) (by decide) (by decide) (by decide) (by decide)]
      exact nm
    have fl8 : FlP C7 R8 S np np := fun q hq => by
      obtain ⟨z1, z2⟩ := pt.2.2.2.1 q hq
      refine ⟨fun hq' => ?_, fun z => by omega⟩
      obtain ⟨kk, f1, f2, f3, f4, f5⟩ := z1 hq'
      rw [fr7 39 (by decide) (by decide) (by decide), fr7 38 (by decide) (by decide) (by decide), fr86 89 (by decide) (by decide) (by decide) (by decide) (by decide) (by decide) (by decide) (by decide) (by decide) (by decide) (by decide), fr86 88 (by decide) (by decide) (by decide) (by decide) (by decide) (by decide) (by decide) (by decide) (by decide) (by decide) (by decide)]
      refine ⟨kk, f1, f2, f3, ?_, f5⟩
      have ex := pt.2.1
      have le := LayP_e ex hq'
      have xe := eC.2 (eAt C q) le.2
      have ee : eAt C7 q = eAt C q := by unfold eAt; rw [fr7 34 (by decide) (by decide) (by decide)]
      have tb : ∀ a, 5 ≤ a → a < 17 → C7 a = C a := fun a b1 b2 => by rw [w2 a (by omega) (by omega) (by omega) (by omega) (by omega), fr6 a (by omega) (by omega) (by omega) (by omega) (by omega) (by omega)]
      unfold fq
      rw [ee, tb 13 (by decide) (by decide), tb 14 (by decide) (by decide), tb 15 (by decide) (by decide), tb 8 (by decide) (by decide)]
      refine ⟨fun k5 => ?_, fun k6 => ?_⟩
      · have y := xe.2.2.2.2.2.2.1 k5
        have cl := (clT.2 (C 14 (eAt C q)).toNat (by omega)).2 (C 15 (eAt C q)).toNat (by omega)
        rw [w2 4 (by decide) (by decide) (by decide) (by decide) (by decide), (y4 _ (by omega)).1]
        exact f4.1 k5
      · have y := xe.2.2.2.2.2.2.2.1 k6
        have d := dfT.2 (C 14 (eAt C q)).toNat (by omega)
        rw [w2 4 (by decide) (by decide) (by decide) (by decide) (by decide), w6, if_neg (by omega), fr6 19 (by decide) (by decide) (by decide) (by decide) (by decide) (by decide), (y4 _ (by omega)).1]
        exact f4.2 k6
    have i18 : ins18 C ≤ 18 := cn_le _ _
    have wt8 : WTm R8 NT := by
      unfold WTm
      rw [fr86 73 (by decide) (by decide) (by decide) (by decide) (by decide) (by decide) (by decide) (by decide) (by decide) (by decide) (by decide), fr86 74 (by decide) (by decide) (by decide) (by decide) (by decide) (by decide) (by decide) (by decide) (by decide) (by decide) (by decide), fr86 75 (by decide) (by decide) (by decide) (by decide) (by decide) (by decide) (by decide) (by decide) (by decide) (by decide) (by decide)]
      exact t2
    obtain ⟨NT', R9, k1, k2, k3, k4, k5, k6, k7⟩ := keep_ok (un := D) (N := NT) fin8 nm8 tg7 ac7 (by omega) npb.2 (by rw [e53' 46 (by decide) (by decide)]; exact pt.2.1.2.2.1) fl8 (by rw [e53' 24 (by decide) (by decide)]; exact t1) wt8 (by omega)
    have e142 : f142 C7 (D : Int) = some ((60 * D : Nat) : Int) := by
      unfold f142
      rw [if_pos (by omega), show (D : Int) * 60 = ((60 * D : Nat) : Int) by omega]
    refine ⟨(D : Int), C8, R9, ?_, ?_, ?_, ?_, ?_, ?_⟩
    · rw [w1, bs_]
      dsimp only
      rw [e142, bs_, x1, bs_]
    · show l210 f 252 R7 (e : Int) x2 (R 53 1) (t : Int) (D : Int) 0 0 = _
      rw [p1, k1, bs_]
    · have c8 : ∀ a, a ≠ 17 → a ≠ 18 → a ≠ 19 → a ≠ 20 → a ≠ 21 → a ≠ 23 → a ≠ 29 → C8 a = C6 a := fun a b1 b2 b3 b4 b5 b6 b7 => by rw [x2' a b6 b7, w2 a b1 b2 b3 b4 b5]
      have c87 : ∀ a, a ≠ 23 → a ≠ 29 → C8 a = C7 a := x2'
      have r9 : ∀ a, 54 ≤ a → a ≤ 66 → R9 a = R6 a := fun a b1 b2 => by rw [k2.1 a (by omega) (by omega) (by omega) (by omega) (by omega) (by omega) (by omega), fr8 a (by omega) (by omega) (by omega) (by omega) (by omega) (by omega)]
      have r98 : ∀ a, 67 ≤ a → a ≤ 71 → R9 a = R8 a := fun a b1 b2 => k2.1 a (by omega) (by omega) (by omega) (by omega) (by omega) (by omega) (by omega)
      have r953 : ∀ j, j ≠ 17 → j ≠ 24 → R9 53 j = R6 53 j := fun j b1 b2 => by rw [k2.2.1 j b2, e53 j b1]
      have r917 : R9 53 17 = ((D + 1 : Nat) : Int) := by rw [k2.2.1 17 (by decide), p2 53 (by decide) (by decide), q53, if_pos rfl]
      have tab8 : tabC C8 = tabC C6 := by unfold tabC; rw [c8 1 (by decide) (by decide) (by decide) (by decide) (by decide) (by decide) (by decide), c8 2 (by decide) (by decide) (by decide) (by decide) (by decide) (by decide) (by decide), c8 3 (by decide) (by decide) (by decide) (by decide) (by decide) (by decide) (by decide)]
      obtain ⟨o1, o2, o3, o4, o5, o6⟩ := ins_ok (T 2) vc (TyC_WT tC) a2
      obtain ⟨tC6, tR6', tV6, eC6, eR6, clT6, dfT6⟩ := st6
      have tC8 : TyC C8 := by unfold TyC; rw [c8 1 (by decide) (by decide) (by decide) (by decide) (by decide) (by decide) (by decide), c8 2 (by decide) (by decide) (by decide) (by decide) (by decide) (by decide) (by decide), c8 3 (by decide) (by decide) (by decide) (by decide) (by decide) (by decide) (by decide)]; exact tC6
      have tV8 : TyV C8 := by unfold TyV; rw [c8 1 (by decide) (by decide) (by decide) (by decide) (by decide) (by decide) (by decide), c8 2 (by decide) (by decide) (by decide) (by decide) (by decide) (by decide) (by decide), c8 3 (by decide) (by decide) (by decide) (by decide) (by decide) (by decide) (by decide), c8 4 (by decide) (by decide) (by decide) (by decide) (by decide) (by decide) (by decide)]; exact tV6
      have tR8 : TyR C8 R9 := by unfold TyR; rw [c8 1 (by decide) (by decide) (by decide) (by decide) (by decide) (by decide) (by decide), c8 2 (by decide) (by decide) (by decide) (by decide) (by decide) (by decide) (by decide), c8 3 (by decide) (by decide) (by decide) (by decide) (by decide) (by decide) (by decide), r9 54 (by decide) (by decide), r9 55 (by decide) (by decide), r9 56 (by decide) (by decide), r953 1 (by decide) (by decide)]; exact tR6'
      have c817 : C8 17 4 = ((D + 1 : Nat) : Int) := by rw [c87 17 (by decide) (by decide)]; exact w4
      have eC8 : ExC C8 := by
        unfold ExC
        rw [c8 5 (by decide) (by decide) (by decide) (by decide) (by decide) (by decide) (by decide), c8 7 (by decide) (by decide) (by decide) (by decide) (by decide) (by decide) (by decide), c8 12 (by decide) (by decide) (by decide) (by decide) (by decide) (by decide) (by decide), c8 13 (by decide) (by decide) (by decide) (by decide) (by decide) (by decide) (by decide), c8 14 (by decide) (by decide) (by decide) (by decide) (by decide) (by decide) (by decide), c8 15 (by decide) (by decide) (by decide) (by decide) (by decide) (by decide) (by decide), c8 16 (by decide) (by decide) (by decide) (by decide) (by decide) (by decide) (by decide), c817]
        refine ⟨eC6.1, fun e' he' => ?_⟩
        obtain ⟨l1, l2, l3, l4, l5, l6, l7, l8, l9⟩ := eC6.2 e' he'
        exact ⟨l1, l2, l3, l4, l5, l6, l7, fun z => by have := l8 z; omega, l9⟩
      have eR8 : ExR C8 R9 := by
        unfold ExR
        rw [c8 12 (by decide) (by decide) (by decide) (by decide) (by decide) (by decide) (by decide), c8 13 (by decide) (by decide) (by decide) (by decide) (by decide) (by decide) (by decide), c8 14 (by decide) (by decide) (by decide) (by decide) (by decide) (by decide) (by decide), c8 15 (by decide) (by decide) (by decide) (by decide) (by decide) (by decide) (by decide), c8 16 (by decide) (by decide) (by decide) (by decide) (by decide) (by decide) (by decide), r953 12 (by decide) (by decide), r9 63 (by decide) (by decide), r9 64 (by decide) (by decide), r9 65 (by decide) (by decide), r9 66 (by decide) (by decide)]
        exact eR6
      have clT8 : ClT C8 R9 := by
        unfold ClT
        rw [c8 1 (by decide) (by decide) (by decide) (by decide) (by decide) (by decide) (by decide), c8 4 (by decide) (by decide) (by decide) (by decide) (by decide) (by decide) (by decide), c8 5 (by decide) (by decide) (by decide) (by decide) (by decide) (by decide) (by decide), c8 7 (by decide) (by decide) (by decide) (by decide) (by decide) (by decide) (by decide), c8 8 (by decide) (by decide) (by decide) (by decide) (by decide) (by decide) (by decide), r9 59 (by decide) (by decide)]
        exact clT6
      have c819 : C8 19 D = (t : Int) := by rw [c87 19 (by decide) (by decide), w6, if_pos rfl]
      have c820 : C8 20 D = (many : Int) := by rw [c87 20 (by decide) (by decide), w7, if_pos rfl]
      have c818 : C8 18 D = (e : Int) := by rw [c87 18 (by decide) (by decide), w5, if_pos rfl]
      have c821 : ∀ i, i < many → C8 21 (8 * D + i) = C 43 i := fun i hi => by rw [c87 21 (by decide) (by decide), w8 i hi, fr6 43 (by decide) (by decide) (by decide) (by decide) (by decide) (by decide)]
      have dt8 : dt C8 t = T 2 := by unfold dt; rw [tab8]; exact ins_dc (T 2) vc (TyC_WT tC) a2 (by omega)
      have c13 : C8 1 3 = C6 1 3 := by rw [c8 1 (by decide) (by decide) (by decide) (by decide) (by decide) (by decide) (by decide)]
      have oc := occ_top fin nm tg h2n h9
      have c84 : C8 4 t = ((2 ^ k - 1 : Nat) : Int) := vars_eq tC8 tV8 (by omega) hk (fun v hv => by
        rw [dt8]
        exact ⟨fun z => by have := occ_vlt (T 2) vc vl z; omega, fun z => oc v z⟩)
      have lsget : ∀ i, i < many → ∃ c v : Nat, (ga (fun v c => rm R0 (B0 v) c) N1 k)[i]? = some (8 * c + v) ∧ v < k ∧ c < N1 := fun i hi => by
        have hi' : i < (ga (fun v c => rm R0 (B0 v) c) N1 k).length := by omega
        have g1 := List.getElem?_eq_getElem hi'
        have g2 := (ga_mem k).mp (List.getElem_mem hi')
        obtain ⟨v, d, g3, g4, g5, g6⟩ := g2
        exact ⟨d, v, by rw [g1, g6], g3, g4⟩
      have c5 : C8 5 6 = (N1 : Int) := by rw [c8 5 (by decide) (by decide) (by decide) (by decide) (by decide) (by decide) (by decide)]; exact ct6.1.1
      have dfT8 : DfT C8 R9 := by
        refine DfT_add (D := D) (m := k) dfT6 hD6 D20 c817 (by rw [c8 5 (by decide) (by decide) (by decide) (by decide) (by decide) (by decide) (by decide)]) (by omega) (fun g hg => ?_) (fun t' _ => by rw [c8 4 (by decide) (by decide) (by decide) (by decide) (by decide) (by decide) (by decide)]) ⟨?_, by omega, by omega⟩ ⟨?_, by omega, by omega⟩ ⟨hk, ?_, by rw [c819, Int.toNat_natCast]; exact c84⟩ (fun i hi => ?_)
        · refine ⟨?_, ?_, ?_, ?_, ?_, fun i hi => ⟨?_, ?_⟩⟩
          · rw [r98 68 (by decide) (by decide), p2 68 (by decide) (by decide), q68, if_neg (by omega)]
          · rw [c87 19 (by decide) (by decide), w6, if_neg (by omega)]
          · rw [r98 70 (by decide) (by decide), p3 g (by omega), q70' g (by omega)]
          · rw [c87 20 (by decide) (by decide), w7, if_neg (by omega)]
          · rw [r98 69 (by decide) (by decide), p2 69 (by decide) (by decide), q69, if_neg (by omega)]
          · rw [r98 71 (by decide) (by decide), p4 _ (by omega), q7 71 (by decide) (by decide) (by decide) (by decide) (by decide)]
          · rw [c87 21 (by decide) (by decide), w9 _ (by omega)]
        · rw [r98 68 (by decide) (by decide), p2 68 (by decide) (by decide), q68, if_pos rfl, c819]
        · rw [r98 70 (by decide) (by decide), p5, c820, hl]
        · rw [r98 69 (by decide) (by decide), p2 69 (by decide) (by decide), q69, if_pos rfl]
        · obtain ⟨c, v, g1, g2, g3⟩ := lsget i (by omega)
          have g4 := l43 i _ g1 (by omega)
          have g5 := p6 i _ g1 (by omega)
          rw [Nat.zero_add] at g4
          rw [r98 71 (by decide) (by decide), g5, c821 i (by omega), g4]
          exact ⟨rfl, c, v, rfl, g2, by omega⟩
      have ct8 : CT C8 R9 N1 := by
        unfold CT
        rw [c8 5 (by decide) (by decide) (by decide) (by decide) (by decide) (by decide) (by decide), c8 6 (by decide) (by decide) (by decide) (by decide) (by decide) (by decide) (by decide), c8 7 (by decide) (by decide) (by decide) (by decide) (by decide) (by decide) (by decide), c8 9 (by decide) (by decide) (by decide) (by decide) (by decide) (by decide) (by decide), c8 10 (by decide) (by decide) (by decide) (by decide) (by decide) (by decide) (by decide), r953 5 (by decide) (by decide), r9 57 (by decide) (by decide), r9 58 (by decide) (by decide), r9 60 (by decide) (by decide), r9 61 (by decide) (by decide)]
        exact ct6
      have sp8 : SUP C8 N1 := by
        unfold SUP Rc
        rw [c8 6 (by decide) (by decide) (by decide) (by decide) (by decide) (by decide) (by decide), c8 9 (by decide) (by decide) (by decide) (by decide) (by decide) (by decide) (by decide), c8 10 (by decide) (by decide) (by decide) (by decide) (by decide) (by decide) (by decide)]
        exact sp6
      have cc : ∀ a, 5 ≤ a → a ≤ 16 → C8 a = C a := fun a b1 b2 => by rw [c8 a (by omega) (by omega) (by omega) (by omega) (by omega) (by omega) (by omega), fr6 a (by omega) (by omega) (by omega) (by omega) (by omega) (by omega)]
      have gw : Gw C C8 := by
        refine ⟨by rw [tab8]; exact o2, ?_, ?_, ?_, ?_⟩
        · rw [cc 5 (by decide) (by decide), cc 6 (by decide) (by decide), cc 7 (by decide) (by decide), cc 8 (by decide) (by decide)]
          exact (Gw_refl C).2.1
        · rw [cc 9 (by decide) (by decide), cc 10 (by decide) (by decide)]
          exact (Gw_refl C).2.2.1
        · rw [cc 12 (by decide) (by decide), cc 13 (by decide) (by decide), cc 14 (by decide) (by decide), cc 15 (by decide) (by decide), cc 16 (by decide) (by decide)]
          exact (Gw_refl C).2.2.2.1
        · refine ⟨by omega, fun g hg => ⟨?_, ?_, ?_, fun i hi => ?_⟩⟩
          · rw [c87 18 (by decide) (by decide), w5, if_neg (by omega), fr6 18 (by decide) (by decide) (by decide) (by decide) (by decide) (by decide)]
          · rw [c87 19 (by decide) (by decide), w6, if_neg (by omega), fr6 19 (by decide) (by decide) (by decide) (by decide) (by decide) (by decide)]
          · rw [c87 20 (by decide) (by decide), w7, if_neg (by omega), fr6 20 (by decide) (by decide) (by decide) (by decide) (by decide) (by decide)]
          · rw [c87 21 (by decide) (by decide), w9 _ (by omega), fr6 21 (by decide) (by decide) (by decide) (by decide) (by decide) (by decide)]
      have rc : ∀ a, 72 ≤ a → a ≤ 75 → R8 a = R a := fun a b1 b2 => fr86 a (by omega) (by omega) (by omega) (by omega) (by omega) (by omega) (by omega) (by omega) (by omega) (by omega) (by omega)
      have e24 : R8 53 24 = R 53 24 := e53' 24 (by decide) (by decide)
      have gt : Gt R R9 := by
        refine ⟨by rw [← e24]; exact k2.2.2.2, fun t' ht' => ?_⟩
        have := k2.2.2.1 t' (by rw [e24]; exact ht')
        rw [rc 73 (by decide) (by decide), rc 74 (by decide) (by decide), rc 75 (by decide) (by decide)] at this
        exact this
      have row : ∀ un i, un ≠ D → 480 * un ≤ i → i < 480 * un + 480 → C8 23 i = C 23 i ∧ R9 72 i = R 72 i := fun un' i b1 b2 b3 => by
        refine ⟨?_, ?_⟩
        · rw [x5 i (by omega), w2 23 (by decide) (by decide) (by decide) (by decide) (by decide), fr6 23 (by decide) (by decide) (by decide) (by decide) (by decide) (by decide)]
        · rw [k6 i (by omega), rc 72 (by decide) (by decide)]
      have h69 : ∀ g : Nat, (g : Int) < C 17 4 → R9 69 g = R 69 g := fun g hg => by rw [r98 69 (by decide) (by decide), p2 69 (by decide) (by decide), q69, if_neg (by omega), rr6 69 (by decide) (by decide) (by decide) (by decide) (by decide) (by decide)]
      have eIns : ins18 C8 = ins18 C := by unfold ins18; rw [cc 9 (by decide) (by decide)]
      refine ⟨N1, NT', ⟨tC8, tR8, tV8, eC8, eR8, clT8, dfT8⟩, ct8, sp8, ⟨k3, k4, by rw [eIns, c817, Int.toNat_natCast]; rw [hD', Int.toNat_natCast] at t3; omega, by rw [r917, c817], by unfold Zc; rw [c8 7 (by decide) (by decide) (by decide) (by decide) (by decide) (by decide) (by decide), r9 58 (by decide) (by decide)]; exact t65⟩, fun g hg => ?_, fun c s' m b1 b2 b3 b4 => ?_, ?_⟩
      · by_cases eg : g = D
        · subst eg
          refine ⟨?_, e, c818, ?_⟩
          · rw [r98 67 (by decide) (by decide), p2 67 (by decide) (by decide), q67, if_pos rfl, c818]
          · have cq' : ∀ q, q < np → CQ C (Asm C8 g) T q := fun q hq => by
              have imp : ∀ c v, Ab C k (-1) c v → ∃ c' : Nat, Asm C8 g c' v ∧ Rc C (c' : Int) (c : Int) := fun c v hcv => by
                obtain ⟨c', ⟨w, f1, f2, f3, f4⟩, f5⟩ := hcov c v hcv
                have mem := (ga_mem (r := fun v c => rm R0 (B0 v) c) (N := N1) k).mpr ⟨w, c', f2, f3, f4, rfl⟩
                obtain ⟨i, hi, gi⟩ := List.getElem_of_mem mem
                have g1 : (ga (fun v c => rm R0 (B0 v) c) N1 k)[i]? = some (8 * c' + w) := by rw [List.getElem?_eq_getElem hi, gi]
                have g4 := l43 i _ g1 (by omega)
                rw [Nat.zero_add] at g4
                exact ⟨c', ⟨i, w, by omega, f1, by omega, by rw [c821 i (by omega), g4]⟩, f5⟩
              exact ⟨fun z => con_imp imp _ _ ((cq q hq).1 z), fun z i c v f1 f2 f3 => con_imp imp _ _ ((cq q hq).2 z i c v f1 f2 f3)⟩
            have uo := U_of (Mp := C8) (Mt := R9) (un := g) (A := Asm C8 g) fin tg pt h34 h16 cq' (fun q w hq h8 => by
                have := x6 q w (Or.inl hq) hq h8
                rw [fr7 39 (by decide) (by decide) (by decide), fr7 38 (by decide) (by decide) (by decide)] at this
                exact this) (fun q w hq hw => by
                have := k7 q w hq (by rw [fr7 39 (by decide) (by decide) (by decide)]; exact hw)
                rw [fr7 38 (by decide) (by decide) (by decide)] at this
                obtain ⟨t', f1, f2, f3⟩ := this
                exact ⟨t', f1, by omega, f3⟩) h69 (fun y hy => by
                rcases nm.2.1 y hy with z | z | ⟨_, i, i1, i2, _⟩ <;> omega)
            have A_lt : ∀ c v, Asm C8 g c v → c < N1 := Asm_lt dfT8 c5 (by omega)
            have ug := U_grow (Mc' := C8) (Mp' := C8) (Mr' := R9) (B := Asm C8 g) (CT_CW ct) tC eC (fun c hc m hm => ((clT.2 c hc).2 m hm).2.1) (fun g' hg' => by
                obtain ⟨d1, d2, d3, m, d4, d5, d6, d7⟩ := dfT.2 g' hg'
                have z := h69 g' hg'
                refine ⟨d2, by omega, by omega, by omega, fun i hi => ?_⟩
                obtain ⟨c, v, q1, q2, q3⟩ := (d7 i hi).2
                exact ⟨c, v, q1, by omega, q3⟩) k3 k4 gw ⟨Int.le_refl _, fun _ _ => ⟨rfl, rfl, rfl⟩⟩ (fun _ _ _ => ⟨rfl, rfl⟩) (fun _ _ => rfl) A_lt (fun _ _ z => z) uo
            rw [c819, Int.toNat_natCast, dt8]
            exact ug
        · exact UDf_next st0 ct t1 t2 gw gt (row g · eg) h69 (by rw [r98 67 (by decide) (by decide), p2 67 (by decide) (by decide), q67, if_neg eg, rr6 67 (by decide) (by decide) (by decide) (by decide) (by decide) (by decide)]) (by omega) (df g (by omega))
      · rw [cc 9 (by decide) (by decide)] at b3
        rw [cc 7 (by decide) (by decide)] at b4
        refine UMt_next st0 ct t1 t2 gw gt (row _ · (by omega)) h69 ⟨?_, cc 11 (by decide) (by decide) ▸ rfl⟩ b1 b2 b3 b4 (mt c s' m b1 b2 b3 b4)
        rw [r9 62 (by decide) (by decide), rr6 62 (by decide) (by decide) (by decide) (by decide) (by decide) (by decide)]
      · refine ValR_fr ⟨?_, ?_⟩ ⟨?_, ?_, ?_, ?_⟩ vr6
        · rw [c8 47 (by decide) (by decide) (by decide) (by decide) (by decide) (by decide) (by decide)]
        · exact c8 52 (by decide) (by decide) (by decide) (by decide) (by decide) (by decide) (by decide)
        · exact r953 54 (by decide) (by decide)
        · exact r953 55 (by decide) (by decide)
        · exact r953 56 (by decide) (by decide)
        · rw [k2.1 94 (by decide) (by decide) (by decide) (by decide) (by decide) (by decide) (by decide), fr8 94 (by decide) (by decide) (by decide) (by decide) (by decide) (by decide)]
    · intro a ha
      rw [x2' a (by omega) (by omega), fr7 a (by omega) (by omega) (by omega)]
    · intro a ha
      rw [k2.1 a (by omega) (by omega) (by omega) (by omega) (by omega) (by omega) (by omega), fr86 a (by omega) (by omega) (by omega) (by omega) (by omega) (by omega) (by omega) (by omega) (by omega) (by omega) (by omega)]
    · rw [k2.2.1 0 (by decide), e53' 0 (by decide) (by decide)]
end DEFD
