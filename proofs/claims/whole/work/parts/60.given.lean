/-! Given definitions. -/
def Rw (M M' : Mm) : Prop := (∀ a, a ≠ 53 → a ≠ 90 → a ≠ 91 → M' a = M a) ∧ ∀ k, k ≠ 43 → M' 53 k = M 53 k
theorem want_loop {p g kk w : Nat} (hg : g < 20) (hw : w + kk ≤ 700) (hkk : kk ≤ 8) (d : Nat) : ∀ (i f : Nat) (R : Mm), i + d = kk → d < f → R 53 43 = ((w + i : Nat) : Int) → R 70 g = (kk : Int) → (∀ j, j < kk → ∃ c v : Nat, R 71 (8 * g + j) = ((8 * c + v : Nat) : Int) ∧ v < 8 ∧ c < 6) →
    ∃ R' : Mm, l224 f 59 R (p : Int) (g : Int) (i : Int) = (f223 R' (R 68 g)).bind (fun z => some (z.1, z.2)) ∧ Rw R R' ∧ R' 53 43 = ((w + kk : Nat) : Int) ∧ (∀ x, x < w + i → R' 90 x = R 90 x ∧ R' 91 x = R 91 x) ∧ ∀ j c v : Nat, i ≤ j → j < kk → v < 8 → R 71 (8 * g + j) = ((8 * c + v : Nat) : Int) → R' 90 (w + j) = (c : Int) ∧ R' 91 (w + j) = R 83 (2 + v) := by
  induction d with
  | zero =>
    intro i f R hi hf h43 h70 h71
    obtain ⟨f, rfl⟩ : ∃ f', f = f' + 1 := ⟨f - 1, by omega⟩
    obtain rfl : i = kk := by omega
    refine ⟨R, ?_, ⟨fun _ _ _ _ => rfl, fun _ _ => rfl⟩, h43, fun _ _ => ⟨rfl, rfl⟩, fun j c v h1 h2 => by omega⟩
    rw [l224, if_pos (by omega), Int.toNat_natCast, h70, if_pos (Int.le_refl _)]
  | succ d ih =>
    intro i f R hi hf h43 h70 h71
    obtain ⟨f, rfl⟩ : ∃ f', f = f' + 1 := ⟨f - 1, by omega⟩
    obtain ⟨c, v, e, hv, hc⟩ := h71 i (by omega)
    let R1 := up (up (up R 90 (w + i) (c : Int)) 91 (w + i) (R 83 (2 + v))) 53 43 (((w + i : Nat) : Int) + 1)
    have r1 : Rw R R1 := ⟨fun a h1 h2 h3 => by show (up (up (up R 90 _ _) 91 _ _) 53 43 _) a = _; rw [up_cell h1, up_cell h3, up_cell h2], fun k hk => by show (up (up (up R 90 _ _) 91 _ _) 53 43 _) 53 k = _; rw [up_at hk, up_cell (by decide), up_cell (by decide)]⟩
    have x90 : ∀ x, R1 90 x = if x = w + i then (c : Int) else R 90 x := fun x => by show (up (up (up R 90 (w + i) (c : Int)) 91 (w + i) (R 83 (2 + v))) 53 43 (((w + i : Nat) : Int) + 1)) 90 x = _; simp [up]
    have x91 : ∀ x, R1 91 x = if x = w + i then R 83 (2 + v) else R 91 x := fun x => by show (up (up (up R 90 (w + i) (c : Int)) 91 (w + i) (R 83 (2 + v))) 53 43 (((w + i : Nat) : Int) + 1)) 91 x = _; simp [up]
    have x43 : R1 53 43 = ((w + (i + 1) : Nat) : Int) := by show (up (up (up R 90 (w + i) (c : Int)) 91 (w + i) (R 83 (2 + v))) 53 43 (((w + i : Nat) : Int) + 1)) 53 43 = _; rw [up_same]; omega
    obtain ⟨R', z1, z2, z3, z4, z5⟩ := ih (i + 1) f R1 (by omega) (by omega) x43 (by rw [r1.1 70 (by decide) (by decide) (by decide)]; exact h70) (by rw [r1.1 71 (by decide) (by decide) (by decide)]; exact h71)
    rw [r1.1 68 (by decide) (by decide) (by decide)] at z1
    rw [r1.1 71 (by decide) (by decide) (by decide), r1.1 83 (by decide) (by decide) (by decide)] at z5
    refine ⟨R', ?_, ⟨fun a h1 h2 h3 => by rw [z2.1 a h1 h2 h3, r1.1 a h1 h2 h3], fun k hk => by rw [z2.2 k hk, r1.2 k hk]⟩, z3, fun x hx => ?_, fun j c' v' h1 h2 h3 h4 => ?_⟩
    · have e222 : f222 R (c : Int) (R 83 (2 + v)) = some (0, R1) := by
        unfold f222
        rw [h43, if_pos (by omega), if_pos (by omega), Int.toNat_natCast]
      rw [← z1, l224, if_pos (by omega), Int.toNat_natCast, h70, if_neg (by omega), if_pos (by omega), show ((8 : Int) * (g : Int) + (i : Int)).toNat = 8 * g + i by omega, e, if_pos (by omega), show ((8 * c + v : Nat) : Int) % 8 = (v : Int) by omega, show ((8 * c + v : Nat) : Int) / 8 = (c : Int) by omega, if_pos (by omega), if_pos (by omega), show ((2 : Int) + (v : Int)).toNat = 2 + v by omega, e222, bs_]
      dsimp only
      rw [if_pos (by omega), show (i : Int) + 1 = ((i + 1 : Nat) : Int) by omega]
    · obtain ⟨y1, y2⟩ := z4 x (by omega)
      rw [y1, y2, x90, x91, if_neg (by omega), if_neg (by omega)]
      exact ⟨rfl, rfl⟩
    · by_cases ej : j = i
      · subst ej
        have : c' = c ∧ v' = v := by omega
        obtain ⟨rfl, rfl⟩ := this
        obtain ⟨y1, y2⟩ := z4 (w + j) (by omega)
        rw [y1, y2, x90, x91, if_pos rfl, if_pos rfl]
        exact ⟨rfl, rfl⟩
      · exact z5 j c' v' (by omega) h2 h3 h4
section STEP6
variable {Mc Mr : Mm} {S : Nat → Nat → Prop} {n n' p np : Nat} {cs : List (Nat × Nat)} {ow : Nat → Nat}
theorem step_6 (h : PS Mc Mr S n n' cs p np ow) (hp : p < np) (k : Mc 13 (eAt Mc p) = 6) : ∃ (b : Int) (Mc' Mr' : Mm), f76 Mc (p : Int) = some (b, Mc') ∧ f215 Mr (p : Int) = some (b, Mr') ∧ Nxt Mc Mr b Mc' Mr' p np ow := by
  obtain ⟨tw, st, ly, nd, fl, wt, plq, b1, b2, k5z⟩ := id h
  have np60 := ly.1
  obtain ⟨e77, e78⟩ := f77_eq ly st.2.2.2.1 hp
  obtain ⟨e1, e2⟩ := LayP_e ly hp
  have r84 : Mr 84 p = (eAt Mc p : Int) := by rw [(ly.2.2.2.2 p hp).1]; exact e1
  have r63 : Mr 63 (eAt Mc p) = 6 := by rw [(st.2.2.2.2.1.2 _ e2).1]; exact k
  have r64 : Mr 64 (eAt Mc p) = Mc 14 (eAt Mc p) := (st.2.2.2.2.1.2 _ e2).2.1
  have hne := st.2.2.2.1.1
  obtain ⟨-, -, -, -, -, -, -, k6, -⟩ := st.2.2.2.1.2 _ e2
  obtain ⟨k61, k62⟩ := k6 k
  obtain ⟨g, hg⟩ : ∃ g : Nat, Mc 14 (eAt Mc p) = (g : Int) := ⟨(Mc 14 (eAt Mc p)).toNat, by omega⟩
  have tg : (Mc 14 (eAt Mc p)).toNat = g := by rw [hg]; exact Int.toNat_natCast g
  have df := st.2.2.2.2.2.2
  have cl := st.2.2.2.2.2.1.1
  obtain ⟨q1, q2, ⟨q3, q4, q5⟩, m, hm, q6, q7, q8⟩ := df.2 g (by omega)
  have d20 := df.1
  obtain ⟨t, ht⟩ : ∃ t : Nat, Mc 19 g = (t : Int) := ⟨(Mc 19 g).toNat, by omega⟩
  have tt : (Mc 19 g).toNat = t := by rw [ht]; exact Int.toNat_natCast t
  rw [tt] at q7
  obtain ⟨kk, hkk⟩ : ∃ kk : Nat, Mc 20 g = (kk : Int) := ⟨(Mc 20 g).toNat, by omega⟩
  have t40 := st.1.1
  have ws := wsQ_le ly st p (by omega)
  have cn : cnQ Mc p = kk := by unfold cnQ; rw [if_neg (by omega), if_pos k, tg, hkk]; exact Int.toNat_natCast kk
  have w1' : wsQ Mc (p + 1) = wsQ Mc p + kk := by show wsQ Mc p + cnQ Mc p = _; rw [cn]
  have tw0 : Tw (up Mc 39 p (m : Int)) Mr S n n' cs := Tw_same (fun a h1 h2 => up_cell (by omega)) (fun _ _ _ => rfl) rfl tw
  obtain ⟨C1, R1, S1, y1, y2, y3, y4, y5, y6, y7, y9, y8⟩ := giv_loop (p := p) (m := m) (t := t) (gg := g) (by omega) hm m 0 FU FU (up Mc 39 p (m : Int)) Mr S n n' cs (by omega) (by unfold FU; omega) (by unfold FU; omega) (by omega) (by omega) tw0 (up_same _ _ _ _) (fun j hj => by omega)
  obtain ⟨R2, x1, x2, x3, x4⟩ := giv_rest (p := p) (gg := g) (m := m) (by omega) (8 - m) m (FU - m) C1 R1 S1 (n + m) (n' + m) cs (by omega) (Nat.le_refl _) (by unfold FU; omega) (by omega) y3
  have rf := Rf_trans y5 x3 (by omega)
  let R3 := up R2 89 p (m : Int)
  have r3 : ∀ a, a ≠ 89 → R3 a = R2 a := fun a ha => by show (up R2 89 p (m : Int)) a = _; exact up_cell ha
  obtain ⟨R4, v1, v2, v3, v4, v5⟩ := want_loop (p := p) (g := g) (kk := kk) (w := wsQ Mc p) (by omega) (by omega) (by omega) kk 0 (FU - m - (8 - m) - 1) R3 (by omega) (by unfold FU; omega) (by rw [r3 53 (by decide), rf.2.1 43 (by decide)]; exact wt.1) (by rw [r3 70 (by decide), rf.1 70 (by omega) (by omega) (by omega) (by omega), q3]; exact hkk) (fun j hj => by
    obtain ⟨z1, c, v, z2, z3, z4⟩ := q8 j (by omega)
    exact ⟨c, v, by rw [r3 71 (by decide), rf.1 71 (by omega) (by omega) (by omega) (by omega), z1]; exact z2, by omega, by omega⟩)
  have rz : ∀ a, a ≠ 53 → ¬ (76 ≤ a ∧ a ≤ 83) → ¬ (88 ≤ a ∧ a ≤ 91) → R4 a = Mr a := fun a h1 h2 h3 => by
    rw [v2.1 a h1 (by omega) (by omega), r3 a (by omega), rf.1 a h1 (by omega) (by omega) (by omega)]
  have r4 : ∀ a, a ≠ 53 → a ≠ 89 → a ≠ 90 → a ≠ 91 → R4 a = R2 a := fun a h1 h2 h3 h4 => by rw [v2.1 a h1 h3 h4, r3 a h2]
  have s4 : ∀ j, j ≠ 43 → R4 53 j = R2 53 j := fun j hj => by rw [v2.2 j hj, r3 53 (by decide)]
  have z89 : ∀ j, R4 89 j = if j = p then (m : Int) else Mr 89 j := fun j => by
    rw [v2.1 89 (by decide) (by decide) (by decide)]
    show (up R2 89 p (m : Int)) 89 j = _
    simp [up, rf.1 89 (by omega) (by omega) (by omega) (by omega)]
  have twF : Tw C1 R4 S1 (n + m) (n' + m + (8 - m)) cs := Tw_same (fun _ _ _ => rfl) (fun a h1 h2 => r4 a (by omega) (by omega) (by omega) (by omega)) (s4 28 (by decide)) x2
  have r88 : R4 88 = R2 88 := r4 88 (by decide) (by decide) (by decide) (by decide)
  have r83 : R4 83 = R2 83 := r4 83 (by decide) (by decide) (by decide) (by decide)
  have fills : ∀ j, j < m → ∃ c u : Nat, C1 38 (8 * p + j) = (c : Int) ∧ R4 88 (8 * p + j) = (u : Int) ∧ R4 83 (2 + j) = (u : Int) ∧ S1 c u := fun j hj => by
    obtain ⟨c, u, a1, a2, a3, a4⟩ := y8 j hj
    obtain ⟨b1, b2⟩ := x4 j hj
    exact ⟨c, u, a1, by rw [r88, b1]; exact a2, by rw [r83, b2]; exact a3, a4⟩
  obtain ⟨y, v, C2, R5, b, C3, R6, f1, f2, f3, f4, f5⟩ := PS_fill (C1 := C1) (R4 := R4) (m := m) (t := t) h hp (Or.inr k) (by omega) hm q7 twF (by omega)
    (fun a ha => by rw [y4.1 a (by omega), up_cell (by omega)]) (fun k hk => by rw [y4.2.1 k hk, up_cell (by decide)]) (fun x hx => by
      obtain ⟨a1, a2, a3⟩ := y4.2.2.1 x hx
      rw [a1, a2, a3, up_cell (by decide), up_cell (by decide), up_cell (by decide)]
      exact ⟨rfl, rfl, rfl⟩) (fun q => by rw [y4.1 39 (by omega)]; simp [up]) (fun x hx => by rw [y4.2.2.2 x hx, up_cell (by decide)])
    rz (fun k h1 h2 => by rw [s4 k h2, rf.2.1 k h1]) (fun u hu => by rw [r4 76 (by decide) (by decide) (by decide) (by decide)]; exact rf.2.2.1 u hu) z89 (fun x hx => by rw [r88]; exact rf.2.2.2 x (Or.inl hx))
    (by rw [v3, w1']) (fun i hi => by
      obtain ⟨a1, a2⟩ := v4 i (by omega)
      rw [a1, a2, r3 90 (by decide), r3 91 (by decide), rf.1 90 (by omega) (by omega) (by omega) (by omega), rf.1 91 (by omega) (by omega) (by omega) (by omega)]
      exact ⟨rfl, rfl⟩) (fun k5 => by omega) (fun _ i c v h1 h2 h3 => by
      rw [tg] at h1 h3
      obtain ⟨z1, c', v', z2, z3, z4⟩ := q8 i h1
      have : c' = c ∧ v' = v := by omega
      obtain ⟨rfl, rfl⟩ := this
      obtain ⟨a1, a2⟩ := v5 i c' v' (by omega) (by omega) h2 (by rw [r3 71 (by decide), rf.1 71 (by omega) (by omega) (by omega) (by omega), z1]; exact z2)
      refine ⟨a1, ?_⟩
      rw [a2, r3 83 (by decide), ← r83]
      obtain ⟨c2, u2, d1, d2, d3, d4⟩ := fills v' z3
      rw [d3, d2]) y6 y7 fills (fun k5 => by omega) (fun _ => by rw [tg]; exact tt) y9
  have cp8 : (p : Int) * 8 = ((8 * p : Nat) : Int) := by omega
  have c36 : C1 36 = Mc 36 := by rw [y4.1 36 (by omega), up_cell (by decide)]
  refine ⟨b, C3, R6, ?_, ?_, f5⟩
  · have e94 : f94 Mc (g : Int) = some (t : Int) := by
      unfold f94
      rw [if_pos (by omega), Int.toNat_natCast, ht]
    have e87 : f87 Mc (t : Int) = some (m : Int) := f87_eq (by omega) hm q7
    have e86 : f86 Mc (p : Int) (t : Int) = some (b, C3) := by
      unfold f86
      rw [e87, bs_, if_pos (by omega), Int.toNat_natCast]
      have y1 : l86 FU 16 (up Mc 39 p (m : Int)) (p : Int) (t : Int) 0 = l86 (FU - m) 16 C1 (p : Int) (t : Int) (m : Int) := y1
      have h39 : C1 39 p = (m : Int) := by rw [y4.1 39 (by omega), up_same]
      obtain ⟨F, hF⟩ : ∃ F, FU - m = F + 1 := ⟨FU - m - 1, by unfold FU; omega⟩
      rw [y1, hF, l86]
      simp only [if_pos (show 0 ≤ (p : Int) ∧ (p : Int) < 60 by omega), Int.toNat_natCast, h39, if_pos (Int.le_refl (m : Int)), cp8, if_pos (show rg ((8 * p : Nat) : Int) by omega), f1, bs_, f3]
      exact ans01 (Nxt_01 f5)
    unfold f76
    rw [e77, bs_, e78, bs_, if_neg (by omega), if_neg (by omega), if_neg (by omega), if_neg (by omega), if_neg (by omega), if_neg (by omega), hg, e94, bs_, e86, bs_]
    exact ans01 (Nxt_01 f5)
  · have e224 : f224 Mr (p : Int) (g : Int) = some ((v : Int), R5) := by
      unfold f224
      have y2 : l224 FU 2 Mr (p : Int) (g : Int) 0 = l224 (FU - m) 2 R1 (p : Int) (g : Int) (m : Int) := y2
      obtain ⟨F, hF⟩ : ∃ F, FU - m - (8 - m) = F + 1 := ⟨FU - m - (8 - m) - 1, by unfold FU; omega⟩
      have v1 : l224 (FU - m - (8 - m) - 1) 59 R3 (p : Int) (g : Int) 0 = (f223 R4 (R3 68 g)).bind (fun z => some (z.1, z.2)) := v1
      rw [show FU - m - (8 - m) - 1 = F by omega] at v1
      have e69 : R2 69 g = (m : Int) := by rw [rf.1 69 (by omega) (by omega) (by omega) (by omega)]; exact q6
      have e68 : R3 68 g = (t : Int) := by rw [r3 68 (by decide), rf.1 68 (by omega) (by omega) (by omega) (by omega), q1]; exact ht
      rw [y2, x1, hF, l224, if_pos (Int.le_refl _), if_pos (by omega), if_pos (by omega), Int.toNat_natCast, Int.toNat_natCast, e69]
      rw [show l224 F 59 (up R2 89 p (m : Int)) (p : Int) (g : Int) 0 = (f223 R4 (R3 68 g)).bind (fun z => some (z.1, z.2)) from v1, e68, f2, bs_]
    unfold f215
    rw [if_pos (by omega), Int.toNat_natCast, r84, if_pos (by omega), Int.toNat_natCast, if_neg (by omega), if_neg (by omega), if_neg (by omega), if_neg (by omega), if_neg (by omega), if_neg (by omega), r64, hg, e224, bs_]
    have f4 : f216 R5 (Mr 85 p) (v : Int) = some (b, R6) := by
      have : R4 85 = Mr 85 := rz 85 (by decide) (by decide) (by decide)
      rw [this] at f4
      exact f4
    dsimp only
    rw [f4, bs_]
    exact ans01 (Nxt_01 f5)
end STEP6
