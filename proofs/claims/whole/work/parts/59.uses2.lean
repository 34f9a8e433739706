/-! Uses and given definitions, the two steps. -/
theorem l221_ok {p c mm : Nat} {a : Int} (d : Nat) : ∀ (x f : Nat) (R : Mm), x + d = 10 → d < f → (2 ≤ x) → ∃ R' : Mm, l221 f 9 R (p : Int) (c : Int) (mm : Int) a (x : Int) = l221 (f - d) 9 R' (p : Int) (c : Int) (mm : Int) a 10 ∧ (∀ b, b ≠ 83 → R' b = R b) ∧ (∀ j, x ≤ j → j < 10 → R' 83 j = a) ∧ ∀ j, j < x → R' 83 j = R 83 j := by
  induction d with
  | zero =>
    intro x f R hx hf h2
    obtain rfl : x = 10 := by omega
    exact ⟨R, rfl, fun _ _ => rfl, fun j h1 h2 => by omega, fun _ _ => rfl⟩
  | succ d ih =>
    intro x f R hx hf h2
    obtain ⟨f, rfl⟩ : ∃ f', f = f' + 1 := ⟨f - 1, by omega⟩
    obtain ⟨R', z1, z2, z3, z4⟩ := ih (x + 1) f (up R 83 x a) (by omega) (by omega) (by omega)
    refine ⟨R', ?_, fun b hb => by rw [z2 b hb, up_cell hb], fun j h1 h2 => ?_, fun j hj => by rw [z4 j (by omega), up_at (by omega)]⟩
    · rw [show f + 1 - (d + 1) = f - d by omega, ← z1, l221, if_neg (by omega), if_pos (by omega), if_pos (by omega), Int.toNat_natCast, show (x : Int) + 1 = ((x + 1 : Nat) : Int) by omega]
    · by_cases e : j = x
      · subst e
        rw [z4 j (by omega), up_same]
      · exact z3 j (by omega) h2
theorem wsQ_le {Mc Mr : Mm} {np : Nat} (ly : LayP Mc Mr np) (st : Stat Mc Mr) : ∀ q, q ≤ np → wsQ Mc q ≤ 8 * q
  | 0, _ => Nat.le_refl _
  | q + 1, hq => by
    have ih := wsQ_le ly st q (by omega)
    have : cnQ Mc q ≤ 8 := by
      unfold cnQ
      split
      · omega
      · split
        · rename_i k
          have he := (LayP_e ly (show q < np by omega)).2
          obtain ⟨-, -, -, -, -, -, -, x6, -⟩ := st.2.2.2.1.2 (eAt Mc q) he
          obtain ⟨y1, y2⟩ := x6 k
          have := (st.2.2.2.2.2.2.2 (Mc 14 (eAt Mc q)).toNat (by omega)).2.2.1
          omega
        · omega
    show wsQ Mc q + cnQ Mc q ≤ 8 * (q + 1)
    omega
section STEP5
variable {Mc Mr : Mm} {S : Nat → Nat → Prop} {n n' p np : Nat} {cs : List (Nat × Nat)} {ow : Nat → Nat}
theorem step_5 (h : PS Mc Mr S n n' cs p np ow) (hp : p < np) (k : Mc 13 (eAt Mc p) = 5) : ∃ (b : Int) (Mc' Mr' : Mm), f76 Mc (p : Int) = some (b, Mc') ∧ f215 Mr (p : Int) = some (b, Mr') ∧ Nxt Mc Mr b Mc' Mr' p np ow := by
  obtain ⟨tw, st, ly, nd, fl, wt, plq, b1, b2, k5z⟩ := id h
  have np60 := ly.1
  obtain ⟨e77, e78⟩ := f77_eq ly st.2.2.2.1 hp
  obtain ⟨e1, e2⟩ := LayP_e ly hp
  have r84 : Mr 84 p = (eAt Mc p : Int) := by rw [(ly.2.2.2.2 p hp).1]; exact e1
  have r63 : Mr 63 (eAt Mc p) = 5 := by rw [(st.2.2.2.2.1.2 _ e2).1]; exact k
  have r64 : Mr 64 (eAt Mc p) = Mc 14 (eAt Mc p) := (st.2.2.2.2.1.2 _ e2).2.1
  have r65 : Mr 65 (eAt Mc p) = Mc 15 (eAt Mc p) := (st.2.2.2.2.1.2 _ e2).2.2.1 (Or.inr k)
  have hne := st.2.2.2.1.1
  obtain ⟨-, -, -, -, -, -, k5, -⟩ := st.2.2.2.1.2 _ e2
  obtain ⟨k51, k52, k53, k54⟩ := k5 k
  obtain ⟨c, hc⟩ : ∃ c : Nat, Mc 14 (eAt Mc p) = (c : Int) := ⟨(Mc 14 (eAt Mc p)).toNat, by omega⟩
  obtain ⟨mm, hmm⟩ : ∃ mm : Nat, Mc 15 (eAt Mc p) = (mm : Int) := ⟨(Mc 15 (eAt Mc p)).toNat, by omega⟩
  have tc : (Mc 14 (eAt Mc p)).toNat = c := by rw [hc]; exact Int.toNat_natCast c
  have tm : (Mc 15 (eAt Mc p)).toNat = mm := by rw [hmm]; exact Int.toNat_natCast mm
  rw [tc] at k54
  have cl := st.2.2.2.2.2.1
  obtain ⟨⟨m0, m3⟩, cm⟩ := cl.2 c (by omega)
  obtain ⟨q1, q2, q3⟩ := cm mm (by omega)
  have c6 := cl.1
  obtain ⟨t, ht⟩ : ∃ t : Nat, Mc 8 (3 * c + mm) = (t : Int) := ⟨(Mc 8 (3 * c + mm)).toNat, by omega⟩
  have tt : (Mc 8 (3 * c + mm)).toNat = t := by rw [ht]; exact Int.toNat_natCast t
  rw [tt] at q3
  have t40 := st.1.1
  have ws := wsQ_le ly st p (by omega)
  have cn : cnQ Mc p = 1 := if_pos k
  have w1' : wsQ Mc (p + 1) = wsQ Mc p + 1 := by show wsQ Mc p + cnQ Mc p = _; rw [cn]
  -- the class's node
  have tw0 : Tw (up Mc 39 p 1) Mr S n n' cs := Tw_same (fun a h1 h2 => up_cell (by omega)) (fun _ _ _ => rfl) rfl tw
  obtain ⟨C1, R1, c1, r1, hI, cg1, kv, -⟩ := Inc_var (Inc_refl tw0) (by omega) (by omega)
  obtain ⟨tw1, -, rg1, -, -, sf1, -⟩ := hI
  obtain ⟨R2, l1, l2, l3, l4⟩ := l221_ok (p := p) (c := c) (mm := mm) (a := (n' : Int)) 8 2 FU R1 (by omega) (by unfold FU; omega) (by omega)
  have x43 : R2 53 43 = (wsQ Mc p : Int) := by rw [l2 53 (by decide), rg1.2.1 43 (by decide)]; exact wt.1
  let R3 := up (up R2 88 (8 * p) (n' : Int)) 89 p 1
  let R4 := up (up (up R3 90 (wsQ Mc p) (c : Int)) 91 (wsQ Mc p) (n' : Int)) 53 43 ((wsQ Mc p : Int) + 1)
  have y43 : R3 53 43 = (wsQ Mc p : Int) := by show (up (up R2 88 (8 * p) (n' : Int)) 89 p 1) 53 43 = _; rw [up_cell (by decide), up_cell (by decide)]; exact x43
  have e222 : f222 R3 (c : Int) (n' : Int) = some (0, R4) := by
    unfold f222
    rw [y43, if_pos (by omega), if_pos (by omega), Int.toNat_natCast]
  have rz : ∀ a, a ≠ 53 → a ≠ 83 → ¬ (88 ≤ a ∧ a ≤ 91) → R4 a = R1 a := fun a h1 h2 h3 => by
    show (up (up (up (up (up R2 88 (8 * p) (n' : Int)) 89 p 1) 90 (wsQ Mc p) (c : Int)) 91 (wsQ Mc p) (n' : Int)) 53 43 ((wsQ Mc p : Int) + 1)) a = _
    rw [up_cell h1, up_cell (by omega), up_cell (by omega), up_cell (by omega), up_cell (by omega), l2 a h2]
  have z53 : ∀ j, j ≠ 43 → R4 53 j = R1 53 j := fun j hj => by
    show (up (up (up (up (up R2 88 (8 * p) (n' : Int)) 89 p 1) 90 (wsQ Mc p) (c : Int)) 91 (wsQ Mc p) (n' : Int)) 53 43 ((wsQ Mc p : Int) + 1)) 53 j = _
    rw [up_at hj, up_cell (by decide), up_cell (by decide), up_cell (by decide), up_cell (by decide), l2 53 (by decide)]
  have z88 : ∀ j, R4 88 j = if j = 8 * p then (n' : Int) else Mr 88 j := fun j => by
    show (up (up (up (up (up R2 88 (8 * p) (n' : Int)) 89 p 1) 90 (wsQ Mc p) (c : Int)) 91 (wsQ Mc p) (n' : Int)) 53 43 ((wsQ Mc p : Int) + 1)) 88 j = _
    simp [up, l2 88 (by decide), rg1.1 88 (by omega) (by omega) (by omega)]
  have z89 : ∀ j, R4 89 j = if j = p then 1 else Mr 89 j := fun j => by
    show (up (up (up (up (up R2 88 (8 * p) (n' : Int)) 89 p 1) 90 (wsQ Mc p) (c : Int)) 91 (wsQ Mc p) (n' : Int)) 53 43 ((wsQ Mc p : Int) + 1)) 89 j = _
    simp [up, l2 89 (by decide), rg1.1 89 (by omega) (by omega) (by omega)]
  have z90 : ∀ j, R4 90 j = if j = wsQ Mc p then (c : Int) else Mr 90 j := fun j => by
    show (up (up (up (up (up R2 88 (8 * p) (n' : Int)) 89 p 1) 90 (wsQ Mc p) (c : Int)) 91 (wsQ Mc p) (n' : Int)) 53 43 ((wsQ Mc p : Int) + 1)) 90 j = _
    simp [up, l2 90 (by decide), rg1.1 90 (by omega) (by omega) (by omega)]
  have z91 : ∀ j, R4 91 j = if j = wsQ Mc p then (n' : Int) else Mr 91 j := fun j => by
    show (up (up (up (up (up R2 88 (8 * p) (n' : Int)) 89 p 1) 90 (wsQ Mc p) (c : Int)) 91 (wsQ Mc p) (n' : Int)) 53 43 ((wsQ Mc p : Int) + 1)) 91 j = _
    simp [up, l2 91 (by decide), rg1.1 91 (by omega) (by omega) (by omega)]
  have z83 : R4 83 2 = (n' : Int) := by
    show (up (up (up (up (up R2 88 (8 * p) (n' : Int)) 89 p 1) 90 (wsQ Mc p) (c : Int)) 91 (wsQ Mc p) (n' : Int)) 53 43 ((wsQ Mc p : Int) + 1)) 83 2 = _
    rw [up_cell (by decide), up_cell (by decide), up_cell (by decide), up_cell (by decide), up_cell (by decide)]
    exact l3 2 (by omega) (by omega)
  have x38 : ∀ j, (up C1 38 (8 * p) (n : Int)) 38 j = if j = 8 * p then (n : Int) else Mc 38 j := fun j => by simp [up, cg1.1 38 (by omega)]
  have twF : Tw (up C1 38 (8 * p) (n : Int)) R4 (adS S n n') (n + 1) (n' + 1) cs := Tw_same (fun a h1 h2 => up_cell (by omega)) (fun a h1 h2 => rz a (by omega) (by omega) (by omega)) (z53 28 (by decide)) tw1
  obtain ⟨y, v, C2, R5, b, C3, R6, f1, f2, f3, f4, f5⟩ := PS_fill (C1 := up C1 38 (8 * p) (n : Int)) (R4 := R4) (m := 1) (t := t) h hp (Or.inl k) (by omega) (by omega) q3 twF (by omega)
    (fun a ha => by rw [up_cell (by omega), cg1.1 a (by omega), up_cell (by omega)]) (fun k hk => by rw [up_cell (by decide), cg1.2.1 k hk, up_cell (by decide)]) (fun x hx => by
      obtain ⟨y1, y2, y3⟩ := cg1.2.2 x hx
      rw [up_cell (by decide), up_cell (by decide), up_cell (by decide), y1, y2, y3, up_cell (by decide), up_cell (by decide), up_cell (by decide)]
      exact ⟨rfl, rfl, rfl⟩) (fun q => by rw [up_cell (by decide), cg1.1 39 (by omega)]; simp [up]) (fun x hx => by rw [x38, if_neg (by omega)])
    (fun a h1 h2 h3 => by rw [rz a h1 (by omega) h3]; exact rg1.1 a h1 (by omega) (by omega)) (fun k h1 h2 => by rw [z53 k h2, rg1.2.1 k h1]) (fun u hu => by rw [rz 76 (by decide) (by decide) (by decide)]; exact (rg1.2.2 u hu).1) (fun q => by rw [z89]; rfl) (fun x hx => by rw [z88, if_neg (by omega)])
    (by
      show (up (up (up R3 90 (wsQ Mc p) (c : Int)) 91 (wsQ Mc p) (n' : Int)) 53 43 ((wsQ Mc p : Int) + 1)) 53 43 = _
      rw [up_same, w1']
      omega) (fun i hi => by rw [z90, z91, if_neg (by omega), if_neg (by omega)]; exact ⟨rfl, rfl⟩) (fun _ => by rw [z90, z91, z88, if_pos rfl, if_pos rfl, if_pos rfl, hc]; exact ⟨rfl, rfl⟩) (fun k6 => by omega)
    (fun _ _ => adS_l) (fun d u q hu => q.elim id (fun q => by omega)) (fun j hj => by
      obtain rfl : j = 0 := by omega
      exact ⟨n, n', by rw [Nat.add_zero, x38, if_pos rfl], by rw [Nat.add_zero, z88, if_pos rfl], z83, adS_r⟩) (fun _ => by rw [tc, tm]; exact tt) (fun k6 => by omega) (fun x h1 h2 => by
      obtain rfl : x = n := by omega
      rw [up_cell (by decide), kv]; decide)
  have cp8 : (p : Int) * 8 = ((8 * p : Nat) : Int) := by omega
  have c36 : (up C1 38 (8 * p) (n : Int)) 36 = Mc 36 := by rw [up_cell (by decide), cg1.1 36 (by omega), up_cell (by decide)]
  refine ⟨b, C3, R6, ?_, ?_, f5⟩
  · have e72 : f72 Mc (Mc 34 p) = some (mm : Int) := by rw [e1, f72_eq (by omega), hmm]
    have e85 : f85 Mc (c : Int) (mm : Int) = some (t : Int) := by
      unfold f85
      rw [if_pos (by omega), show ((c : Int) * 3 + (mm : Int)).toNat = 3 * c + mm by omega, ht]
    have e87 : f87 Mc (t : Int) = some (1 : Int) := f87_eq (m := 1) (by omega) (by omega) q3
    have e86 : f86 Mc (p : Int) (t : Int) = some (b, C3) := by
      unfold f86
      rw [e87, bs_, if_pos (by omega), Int.toNat_natCast]
      have g1 : l86 FU 16 (up Mc 39 p 1) (p : Int) (t : Int) 0 = l86 999999999 16 (up C1 38 (8 * p) (n : Int)) (p : Int) (t : Int) 1 := by
        rw [show FU = 999999999 + 1 from rfl, l86]
        simp only [if_pos (show 0 ≤ (p : Int) ∧ (p : Int) < 60 by omega), Int.toNat_natCast, up_same, if_neg (show ¬ (1 : Int) ≤ 0 by decide), c1, bs_, if_pos (show 0 ≤ (p : Int) * 8 + 0 ∧ (p : Int) * 8 + 0 < 488 by omega), if_pos (show rg ((0 : Int) + 1) by decide), show ((p : Int) * 8 + 0).toNat = 8 * p by omega]
        rfl
      rw [g1, show (999999999 : Nat) = 999999998 + 1 from rfl, l86]
      have h39 : (up C1 38 (8 * p) (n : Int)) 39 p = 1 := by rw [up_cell (by decide), cg1.1 39 (by omega), up_same]
      simp only [if_pos (show 0 ≤ (p : Int) ∧ (p : Int) < 60 by omega), Int.toNat_natCast, h39, if_pos (show (1 : Int) ≤ 1 by decide), cp8, if_pos (show rg ((8 * p : Nat) : Int) by omega), f1, bs_, f3]
      exact ans01 (Nxt_01 f5)
    unfold f76
    rw [e77, bs_, e78, bs_, if_neg (by omega), if_neg (by omega), if_neg (by omega), if_neg (by omega), if_neg (by omega), if_pos k, if_pos (by omega), Int.toNat_natCast, e72, bs_, hc, e85, bs_, e86, bs_]
    exact ans01 (Nxt_01 f5)
  · have e221 : f221 Mr (p : Int) (c : Int) (mm : Int) = some ((v : Int), R5) := by
      unfold f221
      rw [f213_eq, r1, bs_]
      have l1 : l221 FU 9 R1 (p : Int) (c : Int) (mm : Int) (n' : Int) 2 = l221 999999992 9 R2 (p : Int) (c : Int) (mm : Int) (n' : Int) 10 := l1
      dsimp only
      rw [l1, show (999999992 : Nat) = 999999991 + 1 from rfl, l221, if_pos (by decide), if_pos (by omega), if_pos (by omega), Int.toNat_natCast, show ((8 : Int) * (p : Int)).toNat = 8 * p by omega]
      rw [show f222 (up (up R2 88 (8 * p) (n' : Int)) 89 p 1) (c : Int) (n' : Int) = some (0, R4) from e222, bs_]
      dsimp only
      rw [if_pos (by omega), show ((3 : Int) * (c : Int) + (mm : Int)).toNat = 3 * c + mm by omega, rz 59 (by decide) (by decide) (by decide), rg1.1 59 (by omega) (by omega) (by omega), q1, ht, f2, bs_]
    unfold f215
    rw [if_pos (by omega), Int.toNat_natCast, r84, if_pos (by omega), Int.toNat_natCast, if_neg (by omega), if_neg (by omega), if_neg (by omega), if_neg (by omega), if_neg (by omega), if_pos r63, r64, r65, hc, hmm, e221, bs_]
    have f4 : f216 R5 (Mr 85 p) (v : Int) = some (b, R6) := by
      have : R4 85 = Mr 85 := by rw [rz 85 (by decide) (by decide) (by decide)]; exact rg1.1 85 (by omega) (by omega) (by omega)
      rw [this] at f4
      exact f4
    dsimp only
    rw [f4, bs_]
    exact ans01 (Nxt_01 f5)
end STEP5
