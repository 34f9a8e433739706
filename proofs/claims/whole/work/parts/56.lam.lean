/-! Lambdas and locals. -/
section STEP2
variable {Mc Mr : Mm} {S : Nat → Nat → Prop} {n n' p np : Nat} {cs : List (Nat × Nat)} {ow : Nat → Nat}
theorem step_3 (h : PS Mc Mr S n n' cs p np ow) (hp : p < np) (k : Mc 13 (eAt Mc p) = 3) : ∃ (b : Int) (Mc' Mr' : Mm), f76 Mc (p : Int) = some (b, Mc') ∧ f215 Mr (p : Int) = some (b, Mr') ∧ Nxt Mc Mr b Mc' Mr' p np ow := by
  obtain ⟨tw, st, ly, nd, fl, wt, plq, b1, b2, k5z⟩ := id h
  have np60 := ly.1
  obtain ⟨⟨d1, u, d2, d3⟩, dl⟩ := nd p hp
  obtain ⟨ua, a1, a2, a3, a4, -, a6⟩ := dl k
  have a6 := a6 (Nat.le_refl _)
  obtain ⟨e77, e78⟩ := f77_eq ly st.2.2.2.1 hp
  obtain ⟨e1, e2⟩ := LayP_e ly hp
  have r84 : Mr 84 p = (eAt Mc p : Int) := by rw [(ly.2.2.2.2 p hp).1]; exact e1
  have r63 : Mr 63 (eAt Mc p) = 3 := by rw [(st.2.2.2.2.1.2 _ e2).1]; exact k
  have hne := st.2.2.2.1.1
  obtain ⟨e, l1, l2, -, l3, -⟩ := ly.2.2.2.1 p hp
  have ee0 : e = eAt Mc p := by unfold eAt; rw [l1]; exact (Int.toNat_natCast e).symm
  subst ee0
  obtain ⟨l5, l6, l7⟩ := l3 k
  obtain ⟨⟨da, ub, db, dc⟩, -⟩ := nd (p + 1) l5
  obtain ⟨C1, c1, t1, w1, k1⟩ := Tw_old tw (by omega) a1 a3 a6
  have cg1 := Cg_nn w1
  have t2 : Tw (up C1 37 p (n : Int)) Mr (adS S n ua) (n + 1) n' cs := Tw_same (fun a h1 h2 => up_cell (by omega)) (fun _ _ _ => rfl) rfl t1
  obtain ⟨C2, R2, c2, r2, hI, cg2, kf⟩ := Inc_arr (Inc_refl t2) (by omega) (by omega) (a := n) (a' := ua) (b := 2 + (p + 1)) (b' := ub) adS_r (adS_l dc)
  obtain ⟨tw2, -, rg2, -, -, -, -⟩ := hI
  obtain ⟨b, C3, R3, z1, z2, F, F', w⟩ := Tw_join (x := 2 + p) (u := u) tw2 (adS_l (adS_l d3)) adS_r
  have cg3 := Cg_j F
  have rg3 := Rg_trans rg2 (Rg_j F') (by omega)
  -- what the class's cells are in the end
  have cz : ∀ a, a < 25 ∨ (29 < a ∧ a ≠ 33 ∧ a ≠ 37 ∧ ¬ (40 ≤ a ∧ a ≤ 41)) → C3 a = Mc a := fun a ha => by
    rw [cg3.1 a (by omega), cg2.1 a (by omega), up_cell (by omega), cg1.1 a (by omega)]
  have c37 : C3 37 = (up C1 37 p (n : Int)) 37 := by rw [cg3.1 37 (by omega), cg2.1 37 (by omega)]
  have c25 : ∀ k, k ≠ 8 → C3 25 k = Mc 25 k := fun k hk => by rw [cg3.2.1 k hk, cg2.2.1 k hk, up_cell (by decide), cg1.2.1 k hk]
  have crow : ∀ x, x < n → C3 26 x = Mc 26 x ∧ C3 27 x = Mc 27 x ∧ C3 28 x = Mc 28 x := fun x hx => by
    obtain ⟨x1, x2, x3⟩ := cg3.2.2 x (by omega)
    obtain ⟨y1, y2, y3⟩ := cg2.2.2 x (by omega)
    obtain ⟨v1, v2, v3⟩ := cg1.2.2 x hx
    rw [x1, x2, x3, y1, y2, y3, up_cell (by decide), up_cell (by decide), up_cell (by decide), v1, v2, v3]
    exact ⟨rfl, rfl, rfl⟩
  have cp : ((p : Int) + 1) = ((p + 1 : Nat) : Int) := by omega
  refine ⟨b, C3, R3, ?_, ?_, ⟨fun a ha => cz a (by omega), c25⟩, ⟨fun a h1 h2 h3 => rg3.1 a h1 (by omega) (by omega), fun k h1 _ => rg3.2.1 k h1⟩, ?_⟩
  · have m36 : C1 36 = Mc 36 := cg1.1 36 (by omega)
    have c2 : f83 (up C1 37 p (n : Int)) (n : Int) ((2 + (p + 1) : Nat) : Int) = some (((n + 1 : Nat) : Int), C2) := c2
    unfold f76
    rw [e77, bs_, e78, bs_, if_neg (by omega), if_neg (by omega), if_neg (by omega), if_pos k, c1, bs_]
    dsimp only
    rw [if_pos (by omega), cp, if_pos (by omega), Int.toNat_natCast, Int.toNat_natCast, up_same, m36, da, c2, bs_, d1, z1, bs_]
    exact ans01 (w.elim (fun q => Or.inr q.1) Or.inl)
  · unfold f215
    rw [if_pos (by omega), Int.toNat_natCast, r84, if_pos (by omega), Int.toNat_natCast, if_neg (by omega), if_neg (by omega), if_neg (by omega), if_pos r63, cp, if_pos (by omega), Int.toNat_natCast, a2, db, r2, bs_, d2, z2, bs_]
    exact ans01 (w.elim (fun q => Or.inr q.1) Or.inl)
  · rcases w with ⟨rfl, w⟩ | w
    · refine Or.inr ⟨rfl, adS (adS S n ua) (n + 1) n', n + 1 + 1, n' + 1, (2 + p, n + 1) :: cs, ?_⟩
      have z := (fl p hp).2 (Nat.le_refl _)
      have cn : cnQ Mc p = 0 := by unfold cnQ; rw [if_neg (by omega), if_neg (by omega)]
      have c39 := cz 39 (by omega)
      have c38 := cz 38 (by omega)
      have r88 := rg3.1 88 (by omega) (by omega) (by omega)
      have r89 := rg3.1 89 (by omega) (by omega) (by omega)
      have r90 := rg3.1 90 (by omega) (by omega) (by omega)
      have r91 := rg3.1 91 (by omega) (by omega) (by omega)
      refine PS_next h hp w (fun z hz => List.mem_cons_of_mem _ hz) crow (fun u hu => (rg3.2.2 u hu).1) (fun a ha => cz a (by omega)) ⟨cz 34 (by omega), cz 35 (by omega), cz 36 (by omega)⟩ (fun a h1 h2 => rg3.1 a (by omega) (by omega) (by omega)) ⟨rg3.1 84 (by omega) (by omega) (by omega), rg3.1 85 (by omega) (by omega) (by omega), rg3.1 86 (by omega) (by omega) (by omega), rg3.1 87 (by omega) (by omega) (by omega)⟩ (fun k h1 _ => rg3.2.1 k h1) (fun q hq => by rw [c37, up_at (by omega), cg1.1 37 (by omega)]) (fun _ => ⟨n, ua, by rw [c37, up_same], a2, adS_l adS_r⟩) (fun c u q => adS_l (adS_l q)) (fun d u q hu => ?_) (fun q _ => by rw [c39, r89]; exact ⟨rfl, rfl⟩) (fun q v _ _ => by rw [c38, r88]; exact ⟨rfl, rfl⟩) ⟨0, by omega, by rw [c39]; exact z.1, by rw [r89]; exact z.2, ⟨fun z => by omega, fun z => by omega⟩, fun v hv => by omega⟩ ?_ (fun i _ => by rw [r90, r91]; exact ⟨rfl, rfl⟩) (fun k => by omega) (fun k => by omega) ?_ (by omega) (fun x h1 h2 => by
        rw [(cg3.2.2 x (by omega)).1]
        by_cases e : x = n + 1
        · rw [e, kf.1]; decide
        · obtain rfl : x = n := by omega
          rw [(cg2.2.2 x (by omega)).1, up_cell (by decide), k1]; decide)
      · rcases q with (q | ⟨-, q⟩) | ⟨-, q⟩
        · exact Or.inl q
        · exact Or.inr ⟨k, by rw [q]; exact a2⟩
        · omega
      · rw [rg3.2.1 43 (by decide)]
        show Mr 53 43 = ((wsQ Mc p + cnQ Mc p : Nat) : Int)
        rw [cn]
        exact wt.1
      · have ee : eAt C3 p = eAt Mc p := by unfold eAt; rw [cz 34 (by omega)]
        refine PlQ_one (k := 3) (by rw [ee, cz 13 (by omega)]; exact k) (fun q => by omega) (fun q => by omega) (fun q => by omega) (fun _ => ⟨n + 1, n, by rw [c37, up_same], List.mem_cons_self, ?_⟩) (fun q => by omega) (by omega)
        exact isF_g cg3 (by omega) kf
    · refine Or.inl ⟨w, ?_⟩
      have z := Tw_28 tw2
      have y := PS_28 h
      unfold Nf
      rw [F'.1 53 (by decide) (by decide)]
      omega
/-- places around are lambdas -/
theorem arn_lam {np : Nat} (hl : ∀ q, q < np → LayQ Mc np q) : ∀ (k : Nat) (q : Nat) (l : Nat), q < np → arn Mc k (Mc 35 q) = (l : Int) → l < q ∧ Mc 13 (eAt Mc l) = 3
  | 0, q, l, hq, e => by
    have e : Mc 35 q = (l : Int) := e
    obtain ⟨x, -, -, ⟨h1, h2, h3⟩, -⟩ := hl q hq
    rw [e, Int.toNat_natCast] at h3
    exact ⟨by omega, h3.resolve_left (by omega)⟩
  | k + 1, q, l, hq, e => by
    obtain ⟨x, -, -, ⟨h1, h2, h3⟩, -⟩ := hl q hq
    unfold arn at e
    split at e
    · omega
    · obtain ⟨r, hr⟩ : ∃ r : Nat, Mc 35 q = (r : Int) := ⟨(Mc 35 q).toNat, by omega⟩
      rw [hr, Int.toNat_natCast] at e
      obtain ⟨i1, i2⟩ := arn_lam hl k r l (by omega) e
      exact ⟨by omega, i2⟩
theorem arn_ge {np : Nat} (h : ∀ q, q < np → -1 ≤ Mc 35 q ∧ Mc 35 q < (q : Int)) : ∀ (k : Nat) (a : Int), -1 ≤ a → a < (np : Int) → -1 ≤ arn Mc k a
  | 0, a, h0, _ => h0
  | k + 1, a, h0, ha => by
    unfold arn
    split
    · omega
    · obtain ⟨q, hq⟩ : ∃ q : Nat, a = (q : Int) := ⟨a.toNat, by omega⟩
      subst hq
      rw [Int.toNat_natCast]
      obtain ⟨b1, b2⟩ := h q (by omega)
      exact arn_ge h k _ b1 (by omega)
theorem arn_m1 (k : Nat) : arn Mc k (-1) = -1 := by
  cases k <;> rfl
/-- looking for it, here -/
theorem l84_ok {np : Nat} (hnp : np ≤ 60) (h : ∀ q, q < np → -1 ≤ Mc 35 q ∧ Mc 35 q < (q : Int)) (x1 : Nat) (hx1 : x1 < np) (k : Nat) (hk : k < 10) : ∀ (d i f : Nat) (a : Int), i + d = k → d < f → -1 ≤ a → a < (np : Int) → l84 f 10 Mc (x1 : Int) (k : Int) a (i : Int) = if arn Mc d a = -1 then some (0, Mc) else (f79 Mc (Mc 36 x1) (Mc 37 (arn Mc d a).toNat)).bind (fun z => if z.1 = 0 then some (0, z.2) else some (1, z.2))
  | d, i, 0, _, _, hf, _, _ => absurd hf (Nat.not_lt_zero _)
  | 0, i, f + 1, a, hi, hf, h0, ha => by
    rw [l84, if_pos (by omega)]
    show _ = if a = -1 then _ else _
    by_cases e : a = -1
    · rw [if_pos e, if_pos e]
    · rw [if_neg e, if_neg e, if_pos (by omega), if_pos (by omega), Int.toNat_natCast]
      rfl
  | d + 1, i, f + 1, a, hi, hf, h0, ha => by
    rw [l84, if_neg (by omega)]
    by_cases e : a = -1
    · rw [if_pos e, if_pos e]
      subst e
      rw [arn_m1, if_pos rfl]
    · obtain ⟨q, hq⟩ : ∃ q : Nat, a = (q : Int) := ⟨a.toNat, by omega⟩
      subst hq
      obtain ⟨b1, b2⟩ := h q (by omega)
      rw [if_neg e, if_pos (by omega), if_pos (by omega), Int.toNat_natCast, show (i : Int) + 1 = ((i + 1 : Nat) : Int) by omega, l84_ok hnp h x1 hx1 k hk d (i + 1) f (Mc 35 q) (by omega) (by omega) b1 (by omega)]
      have e9 : arn Mc (d + 1) (q : Int) = arn Mc d (Mc 35 q) := by
        show (if (q : Int) = -1 then -1 else arn Mc d (Mc 35 ((q : Int)).toNat)) = _
        rw [if_neg e, Int.toNat_natCast]
      rw [e9]
/-- and there -/
theorem l220_ok {np : Nat} (hnp : np ≤ 60) (h : ∀ q, q < np → -1 ≤ Mc 35 q ∧ Mc 35 q < (q : Int)) (h86 : ∀ q, q < np → Mr 86 q = Mc 35 q) (x1 : Nat) (hx1 : x1 < np) (k : Nat) (hk : k < 10) : ∀ (d i f : Nat) (a : Int), i + d = k → d < f → -1 ≤ a → a < (np : Int) → l220 f 10 Mr (x1 : Int) (k : Int) a (i : Int) = some (if arn Mc d a = -1 then -1 else Mr 87 (arn Mc d a).toNat)
  | d, i, 0, _, _, hf, _, _ => absurd hf (Nat.not_lt_zero _)
  | 0, i, f + 1, a, hi, hf, h0, ha => by
    rw [l220, if_pos (by omega)]
    show _ = some (if a = -1 then _ else Mr 87 a.toNat)
    by_cases e : a = -1
    · rw [if_neg (by simp [e]), if_pos e]
    · rw [if_pos e, if_neg e, if_pos (by omega)]
  | d + 1, i, f + 1, a, hi, hf, h0, ha => by
    rw [l220, if_neg (by omega)]
    by_cases e : a = -1
    · rw [if_pos e, if_neg (by simp [e])]
      subst e
      rw [arn_m1, if_pos rfl]
    · obtain ⟨q, hq⟩ : ∃ q : Nat, a = (q : Int) := ⟨a.toNat, by omega⟩
      subst hq
      obtain ⟨b1, b2⟩ := h q (by omega)
      rw [if_neg e, if_pos (by omega), if_pos (by omega), Int.toNat_natCast, show (i : Int) + 1 = ((i + 1 : Nat) : Int) by omega, h86 q (by omega), l220_ok hnp h h86 x1 hx1 k hk d (i + 1) f (Mc 35 q) (by omega) (by omega) b1 (by omega)]
      have e9 : arn Mc (d + 1) (q : Int) = arn Mc d (Mc 35 q) := by
        show (if (q : Int) = -1 then -1 else arn Mc d (Mc 35 ((q : Int)).toNat)) = _
        rw [if_neg e, Int.toNat_natCast]
      rw [e9]
theorem step_2 (h : PS Mc Mr S n n' cs p np ow) (hp : p < np) (k : Mc 13 (eAt Mc p) = 2) : ∃ (b : Int) (Mc' Mr' : Mm), f76 Mc (p : Int) = some (b, Mc') ∧ f215 Mr (p : Int) = some (b, Mr') ∧ Nxt Mc Mr b Mc' Mr' p np ow := by
  obtain ⟨tw, st, ly, nd, fl, wt, plq, b1, b2, k5z⟩ := id h
  have np60 := ly.1
  obtain ⟨⟨d1, u, d2, d3⟩, -⟩ := nd p hp
  obtain ⟨e77, e78⟩ := f77_eq ly st.2.2.2.1 hp
  obtain ⟨e1, e2⟩ := LayP_e ly hp
  have r84 : Mr 84 p = (eAt Mc p : Int) := by rw [(ly.2.2.2.2 p hp).1]; exact e1
  have r63 : Mr 63 (eAt Mc p) = 2 := by rw [(st.2.2.2.2.1.2 _ e2).1]; exact k
  have r64 : Mr 64 (eAt Mc p) = Mc 14 (eAt Mc p) := (st.2.2.2.2.1.2 _ e2).2.1
  have hne := st.2.2.2.1.1
  obtain ⟨-, -, -, k1, -⟩ := st.2.2.2.1.2 _ e2
  have k1 := k1 k
  obtain ⟨j, hj⟩ : ∃ j : Nat, Mc 14 (eAt Mc p) = (j : Int) := ⟨(Mc 14 (eAt Mc p)).toNat, by omega⟩
  have tj : (Mc 14 (eAt Mc p)).toNat = j := by rw [hj]; exact Int.toNat_natCast j
  have l35 := Lay35 ly
  have z35 := l35 p hp
  have A := l84_ok (Mc := Mc) np60.2 l35 p hp j (by omega) j 0 FU (Mc 35 p) (by omega) (by unfold FU; omega) z35.1 (by omega)
  have B := l220_ok (Mc := Mc) (Mr := Mr) np60.2 l35 (fun q hq => (ly.2.2.2.2 q hq).2) p hp j (by omega) j 0 FU (Mc 35 p) (by omega) (by unfold FU; omega) z35.1 (by omega)
  have A : l84 FU 10 Mc (p : Int) (j : Int) (Mc 35 p) 0 = _ := A
  have B : l220 FU 10 Mr (p : Int) (j : Int) (Mc 35 p) 0 = _ := B
  have f84e : f84 Mc (p : Int) (j : Int) = l84 FU 10 Mc (p : Int) (j : Int) (Mc 35 p) 0 := by unfold f84; rw [if_pos (by omega), Int.toNat_natCast]
  have f220e : f220 Mr (p : Int) (j : Int) = l220 FU 10 Mr (p : Int) (j : Int) (Mc 35 p) 0 := by unfold f220; rw [if_pos (by omega), Int.toNat_natCast, (ly.2.2.2.2 p hp).2]
  rw [A] at f84e
  rw [B] at f220e
  by_cases e : arn Mc j (Mc 35 p) = -1
  · rw [if_pos e] at f84e f220e
    refine ⟨0, Mc, Mr, ?_, ?_, ⟨fun _ _ => rfl, fun _ _ => rfl⟩, ⟨fun _ _ _ _ => rfl, fun _ _ _ => rfl⟩, Or.inl ⟨rfl, by have z := Tw_28 h.1; have y := PS_28 h; unfold Nf; omega⟩⟩
    · unfold f76
      rw [e77, bs_, e78, bs_, if_neg (by omega), if_neg (by omega), if_pos k, hj, f84e, bs_]
      exact ans01 (Or.inl rfl)
    · unfold f215
      rw [if_pos (by omega), Int.toNat_natCast, r84, if_pos (by omega), Int.toNat_natCast, if_neg (by omega), if_neg (by omega), if_pos r63, r64, hj, f220e, bs_, if_pos rfl]
  · have ge := arn_ge (Mc := Mc) l35 j (Mc 35 p) z35.1 (by omega)
    obtain ⟨l, hl⟩ : ∃ l : Nat, arn Mc j (Mc 35 p) = (l : Int) := ⟨(arn Mc j (Mc 35 p)).toNat, by omega⟩
    obtain ⟨lp, lk⟩ := arn_lam ly.2.2.2.1 j p l hp hl
    rw [if_neg e, hl, Int.toNat_natCast] at f84e f220e
    obtain ⟨-, dl⟩ := nd l (by omega)
    obtain ⟨ua, a1, a2, a3, a4, a5, -⟩ := dl lk
    obtain ⟨c, a7, a8⟩ := a5 lp
    rw [a7, d1] at f84e
    rw [a2] at f220e
    obtain ⟨b, C2, R2, z1, z2, z3⟩ := PS_simple (x := 2 + p) (y := c) (u := u) (v := ua) h hp (by omega) (by omega) (by omega) (Inc_refl tw) (by omega) d3 a8 (fun C2 F => by
      have cg := Cg_j F
      have ee : eAt C2 p = eAt Mc p := by unfold eAt; rw [cg.1 34 (by omega)]
      refine PlQ_one (k := 2) (by rw [ee, cg.1 13 (by omega)]; exact k) (fun q => by omega) (fun q => by omega) (fun _ => ⟨l, c, ?_, by rw [cg.1 37 (by omega)]; exact a7, List.mem_cons_self⟩) (fun q => by omega) (fun q => by omega) (by omega)
      rw [ee, cg.1 14 (by omega), tj, arn_fr (cg.1 35 (by omega)), cg.1 35 (by omega)]
      exact hl)
    rw [z1, bs_] at f84e
    refine ⟨b, C2, R2, ?_, ?_, z3⟩
    · unfold f76
      rw [e77, bs_, e78, bs_, if_neg (by omega), if_neg (by omega), if_pos k, hj, f84e]
      rcases Nxt_01 z3 with rfl | rfl
      · rw [if_pos rfl, bs_]
        exact ans01 (Or.inl rfl)
      · rw [if_neg (show ¬ (1 : Int) = 0 by decide), bs_]
        exact ans01 (Or.inr rfl)
    · unfold f215
      rw [if_pos (by omega), Int.toNat_natCast, r84, if_pos (by omega), Int.toNat_natCast, if_neg (by omega), if_neg (by omega), if_pos r63, r64, hj, f220e, bs_, if_neg (by omega), d2, z2, bs_]
      rcases Nxt_01 z3 with rfl | rfl
      · rw [if_pos rfl]
      · rw [if_neg (show ¬ (1 : Int) = 0 by decide)]
end STEP2
