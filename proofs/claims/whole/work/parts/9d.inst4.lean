/-! Instances: the two calls agree, whole. -/
theorem f26_b (M : Mm) (x : Int) : f26 M x = some (b01 (M 5 6) x) := by
  unfold f26 b01
  by_cases h1 : x < 0
  · rw [if_pos h1, if_pos h1]
  · rw [if_neg h1, if_neg h1]
    by_cases h2 : M 5 6 ≤ x
    · rw [if_pos h2, if_pos h2]
    · rw [if_neg h2, if_neg h2]
theorem f195_b (M : Mm) (x : Int) : f195 M x = some (b01 (M 53 5) x) := by
  unfold f195 b01
  by_cases h1 : x < 0
  · rw [if_pos h1, if_pos h1]
  · rw [if_neg h1, if_neg h1]
    by_cases h2 : M 53 5 ≤ x
    · rw [if_pos h2, if_pos h2]
    · rw [if_neg h2, if_neg h2]
/-- the reference, where something is not there -/
theorem r_bad {M : Mm} {c s ctx m0 m1 m2 : Int} {f : Nat} : l237 (f + 5) 39 M c s ctx m0 m1 m2 0 0 0 0 0 0 = some (0, up M 53 0 1) := by
  rw [l237, l237, l237, if_pos rfl, l237, if_neg (fun z => z rfl), l237, up_same, if_neg (by decide)]
/-- both, where all is there -/
theorem inst_go {Mc Mr : Mm} {N NT c s mm : Nat} {ctx m0 m1 m2 : Int} {f g : Nat} (rl : Rl Mc Mr N NT) (hc : c < N) (hs : s < 3) (hx : -1 ≤ ctx ∧ ctx < (N : Int)) (hx2 : s ≠ 2 → ctx = -1) (h7 : Mc 7 c = (mm : Int)) (h3 : mm ≤ 3) (hg : gd (Mc 12 4) m0 m1 m2 mm) (i : Nat) :
    Ans Mc Mr (l58 (f + 20) 145 Mc (c : Int) (s : Int) ctx m0 m1 m2 (mm : Int) 0 0) (l237 (g + 30) 96 Mr (c : Int) (s : Int) ctx m0 m1 m2 1 (i : Int) 0 0 0 0) := by
  have rel : Rel Mc Mr := ⟨N, NT, rl⟩
  obtain ⟨st, ct, sp, ⟨t1, t2, t3, t4, t5⟩, df, mt, vr⟩ := id rl
  have n6 := ct.1.2.2
  obtain ⟨g1, g2⟩ := f34_ok ct hc hs
  obtain ⟨k1, k2⟩ := ct.2.2 (3 * c + s) (by omega)
  have e3 : ((3 : Int) * (c : Int)) + (s : Int) = ((3 * c + s : Nat) : Int) := by omega
  have e4 : ((c : Int) * 3) + (s : Int) = ((3 * c + s : Nat) : Int) := by omega
  have b18 : 0 ≤ ((3 * c + s : Nat) : Int) ∧ ((3 * c + s : Nat) : Int) < 18 := by omega
  have EC : l58 (f + 20) 145 Mc (c : Int) (s : Int) ctx m0 m1 m2 (mm : Int) 0 0 = if ¬ Mc 9 (3 * c + s) = 0 then some (2, 0, Mc) else l58 (f + 19) 165 Mc (c : Int) (s : Int) ctx m0 m1 m2 (mm : Int) 0 0 := by rw [l58, g1, bs_]
  have ER : l237 (g + 30) 96 Mr (c : Int) (s : Int) ctx m0 m1 m2 1 (i : Int) 0 0 0 0 = if Mc 9 (3 * c + s) = 0 then l237 (g + 29) 127 (up Mr 53 0 0) (c : Int) (s : Int) ctx m0 m1 m2 1 (i : Int) 0 0 0 0 else l237 (g + 29) 127 (up Mr 53 0 2) (c : Int) (s : Int) ctx m0 m1 m2 1 (i : Int) 0 0 0 0 := by rw [l237, if_pos (by decide), e3, if_pos b18, Int.toNat_natCast, k1]
  rw [EC, ER]
  by_cases p : Mc 9 (3 * c + s) = 0
  · rw [if_neg (fun z => z p), if_pos p]
    have EC2 : l58 (f + 19) 165 Mc (c : Int) (s : Int) ctx m0 m1 m2 (mm : Int) 0 0 = (f59 Mc (c : Int) (s : Int) ctx).bind (fun q62 => if ¬ q62 = 0 then (f61 Mc (c : Int) (s : Int) ctx).bind (fun zq68 => (f62 zq68.2 (c : Int) (s : Int) m0 m1 m2).bind (fun zq74 => l58 (f + 18) 212 zq74.2 (c : Int) (s : Int) ctx m0 m1 m2 (mm : Int) 0 0)) else (some (0, (-5), Mc))) := by rw [l58]
    have ER2 : l237 (g + 29) 127 (up Mr 53 0 0) (c : Int) (s : Int) ctx m0 m1 m2 1 (i : Int) 0 0 0 0 = (f238 (up Mr 53 0 0) (c : Int) (s : Int) ctx).bind (fun q49 => if ¬ q49 = 0 then l237 (g + 28) 189 (up (up (up (up Mr 53 0 0) 60 (3 * c + s) 1) 61 (3 * c + s) ctx) 53 53 ctx) (c : Int) (s : Int) ctx m0 m1 m2 1 ((3 * c + s : Nat) : Int) ((up Mr 53 0 0) 53 24) 0 0 0 else (some ((-5), up Mr 53 0 0))) := by
      rw [l237, up_same, if_pos rfl]
      congr 1
      funext q
      rw [e3, if_pos b18, if_pos (show rg ((3 * c + s : Nat) : Int) by omega), Int.toNat_natCast]
    rw [EC2, ER2]
    have rl0 : Rel Mc (up Mr 53 0 0) := Rel_0 0 rel
    have ct0 : CT Mc (up Mr 53 0 0) N := by
      unfold CT
      rw [up_at (show 5 ≠ 0 by decide), up_cell (show 57 ≠ 53 by decide), up_cell (show 58 ≠ 53 by decide), up_cell (show 60 ≠ 53 by decide), up_cell (show 61 ≠ 53 by decide)]
      exact ct
    obtain ⟨v, v1, v2, v3⟩ := above_ok ct0 hc hs hx hx2
    rw [v1, bs_, v2, bs_]
    rcases v3 with v0 | ⟨v0, vs⟩
    · have nv : ¬ ¬ v = 0 := fun z => z v0
      rw [if_neg nv, if_neg nv]
      exact ⟨0, -5, -5, Mc, up Mr 53 0 0, rfl, rfl, up_same _ _ _ _, by omega, fun _ => rfl, rl0, fun _ _ => rfl, FrR_0 Mr 0⟩
    · have nv : ¬ v = 0 := by omega
      rw [if_pos nv, if_pos nv]
      unfold f61 f62
      rw [e4, if_pos b18, bs_]
      dsimp only
      rw [show ((3 * c + s : Nat) : Int) * 3 = ((9 * c + 3 * s : Nat) : Int) by omega, show ((9 * c + 3 * s : Nat) : Int) + 1 = ((9 * c + 3 * s + 1 : Nat) : Int) by omega, show ((9 * c + 3 * s : Nat) : Int) + 2 = ((9 * c + 3 * s + 2 : Nat) : Int) by omega, if_pos (show 0 ≤ ((9 * c + 3 * s : Nat) : Int) ∧ ((9 * c + 3 * s : Nat) : Int) < 54 by omega), if_pos (show 0 ≤ ((9 * c + 3 * s + 1 : Nat) : Int) ∧ ((9 * c + 3 * s + 1 : Nat) : Int) < 54 by omega), if_pos (show 0 ≤ ((9 * c + 3 * s + 2 : Nat) : Int) ∧ ((9 * c + 3 * s + 2 : Nat) : Int) < 54 by omega), bs_]
      dsimp only
      rw [Int.toNat_natCast, Int.toNat_natCast, Int.toNat_natCast, Int.toNat_natCast]
      generalize hC : up (up (up (up (up Mc 9 (3 * c + s) 1) 10 (3 * c + s) ctx) 11 (9 * c + 3 * s) m0) 11 (9 * c + 3 * s + 1) m1) 11 (9 * c + 3 * s + 2) m2 = C0
      generalize hR : up (up (up (up Mr 53 0 0) 60 (3 * c + s) 1) 61 (3 * c + s) ctx) 53 53 ctx = R0
      have c0 : ∀ a, a ≠ 9 → a ≠ 10 → a ≠ 11 → C0 a = Mc a := fun a b1 b2 b3 => by rw [← hC, up_cell b3, up_cell b3, up_cell b3, up_cell b2, up_cell b1]
      have c9 : ∀ i, C0 9 i = if i = 3 * c + s then 1 else Mc 9 i := fun i => by
        rw [← hC, up_cell (by decide), up_cell (by decide), up_cell (by decide), up_cell (by decide)]; simp [up]
      have c10 : ∀ i, C0 10 i = if i = 3 * c + s then ctx else Mc 10 i := fun i => by
        rw [← hC, up_cell (by decide), up_cell (by decide), up_cell (by decide)]
        by_cases e : i = 3 * c + s
        · rw [e, up_same, if_pos rfl]
        · rw [up_at e, up_cell (by decide), if_neg e]
      have c11 : ∀ i, C0 11 i = if i = 9 * c + 3 * s + 2 then m2 else if i = 9 * c + 3 * s + 1 then m1 else if i = 9 * c + 3 * s then m0 else Mc 11 i := fun i => by
        rw [← hC]
        by_cases e2 : i = 9 * c + 3 * s + 2
        · rw [e2, up_same, if_pos rfl]
        · rw [up_at e2, if_neg e2]
          by_cases e1 : i = 9 * c + 3 * s + 1
          · rw [e1, up_same, if_pos rfl]
          · rw [up_at e1, if_neg e1]
            by_cases e0 : i = 9 * c + 3 * s
            · rw [e0, up_same, if_pos rfl]
            · rw [up_at e0, if_neg e0, up_cell (by decide), up_cell (by decide)]
      have r0 : ∀ a, a ≠ 53 → a ≠ 60 → a ≠ 61 → R0 a = Mr a := fun a b1 b2 b3 => by rw [← hR, up_cell b1, up_cell b3, up_cell b2, up_cell b1]
      have r53 : ∀ j, j ≠ 53 → j ≠ 0 → R0 53 j = Mr 53 j := fun j b1 b2 => by rw [← hR, up_at b1, up_cell (by decide), up_cell (by decide), up_at b2]
      have r530 : R0 53 0 = 0 := by rw [← hR, up_at (by decide), up_cell (by decide), up_cell (by decide)]; exact up_same _ _ _ _
      have r5353 : R0 53 53 = ctx := by rw [← hR]; exact up_same _ _ _ _
      have r60 : ∀ i, R0 60 i = if i = 3 * c + s then 1 else Mr 60 i := fun i => by
        rw [← hR, up_cell (by decide), up_cell (by decide)]
        by_cases e : i = 3 * c + s
        · rw [e, up_same, if_pos rfl]
        · rw [up_at e, if_neg e, up_cell (by decide)]
      have r61 : ∀ i, R0 61 i = if i = 3 * c + s then ctx else Mr 61 i := fun i => by
        rw [← hR, up_cell (by decide)]
        by_cases e : i = 3 * c + s
        · rw [e, up_same, if_pos rfl]
        · rw [up_at e, if_neg e, up_cell (by decide), up_cell (by decide)]
      have st0 : Stat C0 R0 := Stat_ins st (fun a _ _ b1 b2 b3 _ _ _ => c0 a b1 b2 b3) (fun a _ _ _ _ b1 b2 _ _ => r0 a (by omega) b1 b2) ⟨r53 1 (by decide) (by decide), r53 12 (by decide) (by decide)⟩
      have ct1 : CT C0 R0 N := by
        refine ⟨⟨by rw [c0 5 (by decide) (by decide) (by decide)]; exact ct.1.1, by rw [r53 5 (by decide) (by decide)]; exact ct.1.2.1, n6⟩, fun c' hc' => ?_, fun j hj => ?_⟩
        · rw [r0 57 (by decide) (by decide) (by decide), r0 58 (by decide) (by decide) (by decide), c0 6 (by decide) (by decide) (by decide), c0 7 (by decide) (by decide) (by decide)]
          exact ct.2.1 c' hc'
        · rw [r60, c9, c10, r61]
          by_cases e : j = 3 * c + s
          · rw [if_pos e, if_pos e, if_pos e, if_pos e]
            refine ⟨rfl, Or.inr ⟨rfl, by omega, rfl, ?_⟩⟩
            by_cases ec : ctx = -1
            · exact Or.inl ec
            · refine Or.inr ⟨by omega, hx.2, ?_⟩
              have : s = 2 := by
                by_cases z : s = 2
                · exact z
                · exact absurd (hx2 z) ec
              omega
          · rw [if_neg e, if_neg e, if_neg e, if_neg e]
            exact ct.2.2 j hj
      have i18 : ins18 Mc + 1 ≤ 18 := by
        have h1 : cn (fun i => decide (C0 9 i = 1)) 18 = ins18 Mc + 1 := cn_one (u := 3 * c + s) (by omega) (decide_eq_false (by omega)) (decide_eq_true (by rw [c9, if_pos rfl])) (fun x _ hx => by rw [c9, if_neg hx])
        have h2 := cn_le (fun i => decide (C0 9 i = 1)) 18
        omega
      have d20 := st.2.2.2.2.2.2.1
      have nt0 : NT + 2560 * 3 ≤ 200000 := by omega
      have is0 : IS C0 R0 N c s C0 R0 0 NT NT := by
        refine ⟨⟨st0, ct1⟩, ⟨by rw [r53 24 (by decide) (by decide)]; exact t1, ?_, Nat.le_refl _⟩, fun _ _ => rfl, fun _ _ => ⟨rfl, rfl⟩, fun _ _ => rfl, fun _ _ => rfl, fun _ _ => rfl, ⟨Int.le_refl _, fun _ _ => ⟨rfl, rfl, rfl⟩⟩, fun m' hm' => by omega⟩
        unfold WTm
        rw [r0 73 (by decide) (by decide) (by decide), r0 74 (by decide) (by decide) (by decide), r0 75 (by decide) (by decide) (by decide)]
        exact t2
      have bef : (up Mr 53 0 0) 53 24 = (NT : Int) := by rw [up_at (by decide)]; exact t1
      rw [bef]
      obtain ⟨w, M', R', f', g', j, l1, l2, l3⟩ := inst_loop (ctx := ctx) (m0 := m0) (m1 := m1) (m2 := m2) (x7 := 1) (bef := (NT : Int)) nt0 hc n6 hs (by rw [c9, if_pos rfl]) (by rw [c0 7 (by decide) (by decide) (by decide)]; exact h7) h3 (fun m hm => by
        rw [c0 12 (by decide) (by decide) (by decide), c11]
        by_cases m0' : m = 0
        · obtain ⟨z1, z2, z3⟩ : b01 (Mc 12 4) m0 = 1 ∧ 0 ≤ m0 ∧ m0 < Mc 12 4 := by rcases b01_01 (Mc 12 4) m0 with z | z <;> rcases hg.1 with y | y <;> omega
          refine ⟨m0.toNat, by rw [if_pos m0']; omega, by omega, ?_⟩
          rw [if_neg (by omega), if_neg (by omega), if_pos (by omega)]; omega
        · by_cases m1' : m = 1
          · obtain ⟨z1, z2, z3⟩ : b01 (Mc 12 4) m1 = 1 ∧ 0 ≤ m1 ∧ m1 < Mc 12 4 := by rcases b01_01 (Mc 12 4) m1 with z | z <;> rcases hg.2.1 with y | y <;> omega
            refine ⟨m1.toNat, by rw [if_neg m0', if_pos m1']; omega, by omega, ?_⟩
            rw [if_neg (by omega), if_pos (by omega)]; omega
          · obtain ⟨z1, z2, z3⟩ : b01 (Mc 12 4) m2 = 1 ∧ 0 ≤ m2 ∧ m2 < Mc 12 4 := by rcases b01_01 (Mc 12 4) m2 with z | z <;> rcases hg.2.2 with y | y <;> omega
            refine ⟨m2.toNat, by rw [if_neg m0', if_neg m1']; omega, by omega, ?_⟩
            rw [if_pos (by omega)]; omega) (by rw [r5353, c10, if_pos rfl]) (by rw [r0 58 (by decide) (by decide) (by decide), (ct.2.1 c hc).2.1]; exact h7) mm 0 (f + 13) (g + 23) NT C0 R0 (by omega) (by omega) (by omega) is0
      have l1 : l58 (f + 18) 212 C0 (c : Int) (s : Int) ctx m0 m1 m2 (mm : Int) 0 0 = _ := l1
      have l2 : l237 (g + 28) 189 R0 (c : Int) (s : Int) ctx m0 m1 m2 1 ((3 * c + s : Nat) : Int) (NT : Int) 0 0 0 = _ := l2
      rw [l1, l2]
      have w5 : R' 53 0 = 0 := by
        rcases l3 with ⟨_, NT', is⟩ | ⟨_, bad⟩
        · rw [is.2.2.2.2.2.2.1 0 (by omega)]; exact r530
        · rw [bad.2.2.2.2.1 0 (by omega)]; exact r530
      rcases l3 with ⟨z, NT', is⟩ | ⟨z, bad⟩
      · have a1 : l58 (f' + 3) 243 M' (c : Int) (s : Int) ctx m0 m1 m2 (mm : Int) w (j : Int) = some (0, w, M') := by rw [l58, if_pos z, l58]
        have a2 : l237 (g' + 3) 262 R' (c : Int) (s : Int) ctx m0 m1 m2 1 ((3 * c + s : Nat) : Int) (NT : Int) w (j : Int) 0 = some (w, R') := by rw [l237, if_pos z, l237]
        rw [a1, a2]
        obtain ⟨q1, q2, q3⟩ := Rel_new rl hc hs p h7 h3 c0 c9 (fun i hi => by rw [c10, if_neg hi]) (fun i hi => by rw [c11, if_neg (by omega), if_neg (by omega), if_neg (by omega)]) r0 r53 (fun u hu => by
          obtain ⟨y1, y2⟩ := vs u hu
          refine ⟨y1, ?_⟩
          rw [c10, if_pos rfl]
          exact y2) is
        exact ⟨0, w, w, M', R', rfl, rfl, w5, by omega, fun _ => rfl, q1, q2, q3⟩
      · have a1 : l58 (f' + 3) 243 M' (c : Int) (s : Int) ctx m0 m1 m2 (mm : Int) w (j : Int) = some (0, w, up (up M' 9 (3 * c + s) 0) 10 (3 * c + s) (-1)) := by
          rw [l58, if_neg z]
          unfold f124
          rw [e4, if_pos b18, bs_, Int.toNat_natCast, l58]
        have a2 : l237 (g' + 3) 262 R' (c : Int) (s : Int) ctx m0 m1 m2 1 ((3 * c + s : Nat) : Int) (NT : Int) w (j : Int) 0 = some (w, up (up R' 60 (3 * c + s) 0) 53 24 (NT : Int)) := by rw [l237, if_neg z, if_pos b18, Int.toNat_natCast, l237]
        rw [a1, a2]
        obtain ⟨q1, q2, q3⟩ := Rel_old rl hc hs p c0 c9 (fun i hi => by rw [c10, if_neg hi]) (fun i hi => by rw [c11, if_neg (by omega), if_neg (by omega), if_neg (by omega)]) r0 (fun i hi => by rw [r60, r61, if_neg hi, if_neg hi]; exact ⟨rfl, rfl⟩) r53 bad
        exact ⟨0, w, w, _, _, rfl, rfl, by rw [up_at (by decide), up_cell (by decide)]; exact w5, by omega, fun _ => rfl, q1, q2, q3⟩
  · have a2 : l237 (g + 29) 127 (up Mr 53 0 2) (c : Int) (s : Int) ctx m0 m1 m2 1 (i : Int) 0 0 0 0 = some (0, up Mr 53 0 2) := by rw [l237, up_same, if_neg (by decide)]
    rw [if_pos p, if_neg p, a2]
    exact Ans_thr rel (Or.inr rfl)
theorem inst_ok {Mc Mr : Mm} (rel : Rel Mc Mr) (c s ctx m0 m1 m2 : Int) : Ans Mc Mr (f58 Mc c s ctx m0 m1 m2) (f237 Mr c s ctx m0 m1 m2) := by
  obtain ⟨N, NT, rl⟩ := id rel
  obtain ⟨st, ct, sp, tt, df, mt, vr⟩ := id rl
  have n6 := ct.1.2.2
  have h5 := ct.1.1
  have h53 := ct.1.2.1
  have hF : FU = (FU - 100) + 100 := by unfold FU; rfl
  have cB : ∀ f, l58 (f + 1) 24 Mc c s ctx m0 m1 m2 0 0 0 = some (1, 0, Mc) := fun f => by rw [l58]
  have rB : l237 FU 39 Mr c s ctx m0 m1 m2 0 0 0 0 0 0 = some (0, up Mr 53 0 1) := by rw [hF]; exact r_bad (f := FU - 100 + 95)
  have cB1 : l58 FU 24 Mc c s ctx m0 m1 m2 0 0 0 = some (1, 0, Mc) := by rw [hF]; exact cB (FU - 100 + 99)
  unfold f58 f237
  rw [f26_b, bs_, f195_b, bs_, h5, h53]
  rcases b01_01 (N : Int) c with z | ⟨z, z1, z2⟩
  · rw [if_pos z, if_pos z, cB1, rB]
    exact Ans_thr rel (Or.inl rfl)
  · have nz : ¬ b01 (N : Int) c = 0 := by omega
    rw [if_neg nz, if_neg nz]
    by_cases s0 : s < 0
    · rw [if_pos s0, if_pos s0, cB1, rB]
      exact Ans_thr rel (Or.inl rfl)
    · rw [if_neg s0, if_neg s0]
      by_cases s3 : 3 ≤ s
      · rw [if_pos s3, if_pos s3, cB1, rB]
        exact Ans_thr rel (Or.inl rfl)
      · rw [if_neg s3, if_neg s3]
        obtain ⟨c', rfl⟩ : ∃ c' : Nat, c = (c' : Int) := ⟨c.toNat, by omega⟩
        obtain ⟨s', rfl⟩ : ∃ s' : Nat, s = (s' : Int) := ⟨s.toNat, by omega⟩
        obtain ⟨mm, h7⟩ : ∃ mm : Nat, Mc 7 c' = (mm : Int) := ⟨(Mc 7 c').toNat, by have := (st.2.2.2.2.2.1.2 c' (by omega)).1; omega⟩
        have h3 : mm ≤ 3 := by have := (st.2.2.2.2.2.1.2 c' (by omega)).1; omega
        have e12 : Mr 53 12 = Mc 12 4 := st.2.2.2.2.1.1
        have h58 : Mr 58 c' = (mm : Int) := by rw [(ct.2.1 c' (by omega)).2.1]; exact h7
        have go : (-1 ≤ ctx ∧ ctx < (N : Int)) → (s' ≠ 2 → ctx = -1) → Ans Mc Mr (l58 (FU - 2) 57 Mc (c' : Int) (s' : Int) ctx m0 m1 m2 0 0 0) (l237 FU 35 Mr (c' : Int) (s' : Int) ctx m0 m1 m2 0 0 0 0 0 0) := by
          intro hx hx2
          have r0 : ∀ f, l237 (f + 3) 35 Mr (c' : Int) (s' : Int) ctx m0 m1 m2 0 0 0 0 0 0 = l237 (f + 1) 45 Mr (c' : Int) (s' : Int) ctx m0 m1 m2 1 0 0 0 0 0 := fun f => by rw [l237, l237]
          have r1 : l237 FU 35 Mr (c' : Int) (s' : Int) ctx m0 m1 m2 0 0 0 0 0 0 = l237 (FU - 10 + 8) 45 Mr (c' : Int) (s' : Int) ctx m0 m1 m2 1 0 0 0 0 0 := r0 (FU - 3)
          obtain ⟨f', i, g, q1, q2, q3⟩ := r_good (s := (s' : Int)) (ctx := ctx) (m0 := m0) (m1 := m1) (m2 := m2) (f := FU - 10) (show c' < 6 by omega) h58 h3
          rw [r1, q2]
          rw [e12] at q3
          rcases c_good (s := (s' : Int)) (ctx := ctx) (m0 := m0) (m1 := m1) (m2 := m2) (f := FU - 9) (show c' < 6 by omega) h7 h3 with ⟨y1, y2⟩ | ⟨y1, y2⟩
          · have y2 : l58 (FU - 2) 57 Mc (c' : Int) (s' : Int) ctx m0 m1 m2 0 0 0 = l58 (FU - 28 + 20) 145 Mc (c' : Int) (s' : Int) ctx m0 m1 m2 (mm : Int) 0 0 := y2
            rw [y2]
            rcases q3 with ⟨_, rfl⟩ | ⟨q, _⟩
            · obtain ⟨g', rfl⟩ : ∃ g', f' = g' + 30 := ⟨f' - 30, by unfold FU at q1; omega⟩
              exact inst_go rl (by omega) (by omega) hx hx2 h7 h3 y1 i
            · exact absurd y1 q
          · have y2 : l58 (FU - 2) 57 Mc (c' : Int) (s' : Int) ctx m0 m1 m2 0 0 0 = some (1, 0, Mc) := y2
            rw [y2]
            rcases q3 with ⟨q, _⟩ | ⟨_, rfl⟩
            · exact absurd q y1
            · obtain ⟨g', rfl⟩ : ∃ g', f' = g' + 2 := ⟨f' - 2, by unfold FU at q1; omega⟩
              rw [l237, if_neg (fun z => z rfl), l237, up_same, if_neg (by decide)]
              exact Ans_thr rel (Or.inl rfl)
        have c28 : l58 FU 28 Mc (c' : Int) (s' : Int) ctx m0 m1 m2 0 0 0 = if ctx = (-1) then (l58 (FU - 2) 57 Mc (c' : Int) (s' : Int) ctx m0 m1 m2 0 0 0) else (if ¬ (s' : Int) = 2 then (some (1, 0, Mc)) else (if b01 (N : Int) ctx = 0 then (some (1, 0, Mc)) else (l58 (FU - 2) 57 Mc (c' : Int) (s' : Int) ctx m0 m1 m2 0 0 0))) := by
          have g0 : ∀ f, l58 (f + 3) 28 Mc (c' : Int) (s' : Int) ctx m0 m1 m2 0 0 0 = if ctx = (-1) then (l58 (f + 1) 57 Mc (c' : Int) (s' : Int) ctx m0 m1 m2 0 0 0) else (if ¬ (s' : Int) = 2 then (some (1, 0, Mc)) else (if b01 (N : Int) ctx = 0 then (some (1, 0, Mc)) else (l58 (f + 1) 57 Mc (c' : Int) (s' : Int) ctx m0 m1 m2 0 0 0))) := fun f => by
            have h49 : l58 (f + 2) 49 Mc (c' : Int) (s' : Int) ctx m0 m1 m2 0 0 0 = l58 (f + 1) 57 Mc (c' : Int) (s' : Int) ctx m0 m1 m2 0 0 0 := by
              generalize hY : l58 (f + 1) 57 Mc (c' : Int) (s' : Int) ctx m0 m1 m2 0 0 0 = Y
              rw [l58]
              exact hY
            have h53' : l58 (f + 2) 53 Mc (c' : Int) (s' : Int) ctx m0 m1 m2 0 0 0 = some (1, 0, Mc) := by rw [l58]
            generalize hY : l58 (f + 1) 57 Mc (c' : Int) (s' : Int) ctx m0 m1 m2 0 0 0 = Y at h49 ⊢
            rw [l58, h49, h53', f26_b, bs_, h5]
          exact g0 (FU - 3)
        rw [c28]
        by_cases ec : ctx = -1
        · rw [if_pos ec, if_pos ec]
          exact go (by omega) (fun _ => ec)
        · rw [if_neg ec, if_neg ec]
          by_cases e2 : s' = 2
          · have n2 : ¬ ¬ (s' : Int) = 2 := fun z => z (by omega)
            rw [if_neg n2, if_neg n2, f195_b, bs_, h53]
            rcases b01_01 (N : Int) ctx with y | ⟨y, y1, y2⟩
            · rw [if_pos y, if_pos y, rB]
              exact Ans_thr rel (Or.inl rfl)
            · have ny : ¬ b01 (N : Int) ctx = 0 := by omega
              rw [if_neg ny, if_neg ny]
              exact go (by omega) (fun z => absurd e2 z)
          · have n2 : ¬ (s' : Int) = 2 := by omega
            rw [if_pos n2, if_pos n2, rB]
            exact Ans_thr rel (Or.inl rfl)
