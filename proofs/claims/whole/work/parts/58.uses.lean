/-! Uses and given definitions. -/
theorem PS_fill {Mc Mr C1 R4 : Mm} {S S1 : Nat → Nat → Prop} {n n' n1 n1' p np t m : Nat} {cs : List (Nat × Nat)} {ow : Nat → Nat} (h : PS Mc Mr S n n' cs p np ow) (hp : p < np) (hk : Mc 13 (eAt Mc p) = 5 ∨ Mc 13 (eAt Mc p) = 6) (htc : (t : Int) < Mc 1 3) (hm : m ≤ 8) (hv : Mc 4 t = ((2 ^ m - 1 : Nat) : Int)) (tw1 : Tw C1 R4 S1 n1 n1' cs) (hn1 : n1 ≤ n + 8 ∧ n1' ≤ n' + 8 ∧ n ≤ n1 ∧ n' ≤ n1')
    (cC : ∀ a, a < 25 ∨ (34 ≤ a ∧ a ≤ 37) ∨ 42 ≤ a → C1 a = Mc a) (c25 : ∀ k, k ≠ 8 → C1 25 k = Mc 25 k) (crow : ∀ x, x < n → C1 26 x = Mc 26 x ∧ C1 27 x = Mc 27 x ∧ C1 28 x = Mc 28 x) (c39 : ∀ q, C1 39 q = if q = p then (m : Int) else Mc 39 q) (c38 : ∀ x, x < 8 * p ∨ 8 * p + 8 ≤ x → C1 38 x = Mc 38 x)
    (rR : ∀ a, a ≠ 53 → ¬ (76 ≤ a ∧ a ≤ 83) → ¬ (88 ≤ a ∧ a ≤ 91) → R4 a = Mr a) (r53 : ∀ k, k ≠ 28 → k ≠ 43 → R4 53 k = Mr 53 k) (rk : ∀ u, u < n' → R4 76 u = Mr 76 u) (r89 : ∀ q, R4 89 q = if q = p then (m : Int) else Mr 89 q) (r88 : ∀ x, x < 8 * p → R4 88 x = Mr 88 x)
    (w43 : R4 53 43 = (wsQ Mc (p + 1) : Int)) (w90 : ∀ i, i < wsQ Mc p → R4 90 i = Mr 90 i ∧ R4 91 i = Mr 91 i) (wp5 : Mc 13 (eAt Mc p) = 5 → R4 90 (wsQ Mc p) = Mc 14 (eAt Mc p) ∧ R4 91 (wsQ Mc p) = R4 88 (8 * p)) (wp6 : Mc 13 (eAt Mc p) = 6 → ∀ i c v : Nat, (i : Int) < Mc 20 (Mc 14 (eAt Mc p)).toNat → v < 8 → Mc 21 (8 * (Mc 14 (eAt Mc p)).toNat + i) = ((8 * c + v : Nat) : Int) → R4 90 (wsQ Mc p + i) = (c : Int) ∧ R4 91 (wsQ Mc p + i) = R4 88 (8 * p + v))
    (sl : ∀ c u, S c u → S1 c u) (sf : ∀ d u, S1 d u → u < n' → S d u) (fills : ∀ j, j < m → ∃ c u : Nat, C1 38 (8 * p + j) = (c : Int) ∧ R4 88 (8 * p + j) = (u : Int) ∧ R4 83 (2 + j) = (u : Int) ∧ S1 c u)
    (t5 : Mc 13 (eAt Mc p) = 5 → (Mc 8 (3 * (Mc 14 (eAt Mc p)).toNat + (Mc 15 (eAt Mc p)).toNat)).toNat = t) (t6 : Mc 13 (eAt Mc p) = 6 → (Mc 19 (Mc 14 (eAt Mc p)).toNat).toNat = t) (k5C : ∀ x, n ≤ x → x < n1 → C1 26 x ≠ 5) :
    ∃ (y v : Nat) (C2 R5 : Mm) (b : Int) (C3 R6 : Mm), f89 C1 (t : Int) ((8 * p : Nat) : Int) = some ((y : Int), C2) ∧ f223 R4 (t : Int) = some ((v : Int), R5) ∧ f79 C2 (C1 36 p) (y : Int) = some (b, C3) ∧ f216 R5 (R4 85 p) (v : Int) = some (b, R6) ∧ Nxt Mc Mr b C3 R6 p np ow := by
  obtain ⟨tw, st, ly, nd, fl, wt, plq, b1, b2, k5z⟩ := id h
  have np60 := ly.1
  obtain ⟨⟨d1, u, d2, d3⟩, -⟩ := nd p hp
  have st1 : Stat C1 R4 := Stat_fr (fun a ha => cC a (by omega)) (fun a h1 h2 => rR a (by omega) (by omega) (by omega)) (fun k hk => r53 k (by omega) (by omega)) st
  obtain ⟨tyc, tyr, tyv, -⟩ := id st1
  have e1 := cC 1 (by omega)
  have e2 := cC 2 (by omega)
  have e3 := cC 3 (by omega)
  have e4 := cC 4 (by omega)
  have hv1 : C1 4 t = ((2 ^ m - 1 : Nat) : Int) := by rw [e4]; exact hv
  have htc1 : (t : Int) < C1 1 3 := by rw [e1]; exact htc
  obtain ⟨y, v, C2, R5, S2, k, k', ν, z1, z2, hI, sy, tn, ty, k1, k2⟩ := nodeFor_ok (fill := fun v => (C1 38 (8 * p + v)).toNat) (w := fun v => (R4 88 (8 * p + v)).toNat) tw1 tyc tyr htc1 (show 8 * p ≤ 480 by omega) (by omega) (by omega) (fun i h2 h10 o => by
    have hi := Oc_var tyc tyv htc1 hv1 o h2 h10
    obtain ⟨c, u, y1, y2, y3, y4⟩ := fills (i - 2) hi
    rw [show i = 2 + (i - 2) by omega, y3]
    simp only [show 2 + (i - 2) - 2 = i - 2 by omega, y1, y2, Int.toNat_natCast]
    exact ⟨trivial, trivial, y4⟩)
  obtain ⟨tw2, cg2, rg2, mn, sl2, sf2, k5i⟩ := hI
  obtain ⟨b, C3, R6, z3, z4, F, F', w⟩ := Tw_join (x := 2 + p) (u := u) tw2 (sl2 _ _ (sl _ _ d3)) sy
  have cg3 := Cg_trans cg2 (Cg_j F) mn.1
  have rg3 := Rg_trans rg2 (Rg_j F') mn.2
  refine ⟨y, v, C2, R5, b, C3, R6, z1, z2, by rw [cC 36 (by omega), d1]; exact z3, by rw [rR 85 (by omega) (by omega) (by omega), d2]; exact z4, ⟨fun a ha => by rw [cg3.1 a (by omega), cC a (by omega)], fun k hk => by rw [cg3.2.1 k hk, c25 k hk]⟩, ⟨fun a h1 h2 h3 => by rw [rg3.1 a h1 (by omega) (by omega), rR a h1 h2 h3], fun k h1 h2 => by rw [rg3.2.1 k h1, r53 k h1 h2]⟩, ?_⟩
  rcases w with ⟨rfl, w⟩ | w
  · refine Or.inr ⟨rfl, S2, k, k', (2 + p, y) :: cs, ?_⟩
    have x38 := cg3.1 38 (by omega)
    have x39 := cg3.1 39 (by omega)
    have x88 := rg3.1 88 (by omega) (by omega) (by omega)
    have x89 := rg3.1 89 (by omega) (by omega) (by omega)
    have x90 := rg3.1 90 (by omega) (by omega) (by omega)
    have x91 := rg3.1 91 (by omega) (by omega) (by omega)
    have cz : ∀ a, a < 25 ∨ (34 ≤ a ∧ a ≤ 37) → C3 a = Mc a := fun a ha => by rw [cg3.1 a (by omega), cC a (by omega)]
    have rz : ∀ a, a ≠ 53 → ¬ (76 ≤ a ∧ a ≤ 83) → ¬ (88 ≤ a ∧ a ≤ 91) → R6 a = Mr a := fun a h1 h2 h3 => by rw [rg3.1 a h1 (by omega) (by omega), rR a h1 h2 h3]
    refine PS_next h hp w (fun z hz => List.mem_cons_of_mem _ hz) (fun x hx => ?_) (fun u hu => ?_) (fun a ha => cz a (by omega)) ⟨cz 34 (by omega), cz 35 (by omega), cz 36 (by omega)⟩ (fun a h1 h2 => rz a (by omega) (by omega) (by omega)) ⟨rz 84 (by omega) (by omega) (by omega), rz 85 (by omega) (by omega) (by omega), rz 86 (by omega) (by omega) (by omega), rz 87 (by omega) (by omega) (by omega)⟩ (fun k h1 h2 => by rw [rg3.2.1 k h1, r53 k h1 h2]) (fun q _ => by rw [cz 37 (by omega)]) (fun k => by omega) (fun c u q => sl2 _ _ (sl _ _ q)) (fun d u q hu => Or.inl (sf d u (sf2 d u q (by omega)) hu)) (fun q hq => by rw [x39, x89, c39, r89, if_neg hq, if_neg hq]; exact ⟨rfl, rfl⟩) (fun q v hq hv => by rw [x38, x88, c38 _ (by omega), r88 _ (by omega)]; exact ⟨rfl, rfl⟩) ⟨m, hm, by rw [x39, c39, if_pos rfl], by rw [x89, r89, if_pos rfl], ⟨fun z => by rw [t5 z]; exact hv, fun z => by rw [t6 z]; exact hv⟩, fun v hv => ?_⟩ (by rw [rg3.2.1 43 (by decide)]; exact w43) (fun i hi => by rw [x90, x91]; exact w90 i hi) (fun k => by rw [x90, x91, x88]; exact wp5 k) (fun k i c v h1 h2 h3 => by rw [x90, x91, x88]; exact wp6 k i c v h1 h2 h3) ?_ ?_ (fun x h1 h2 => by
      rw [((Cg_j F).2.2 x (by omega)).1]
      by_cases e : x < n1
      · rw [(cg2.2.2 x e).1]; exact k5C x h1 e
      · exact k5i x (by omega) (by omega))
    · obtain ⟨y1, y2, y3⟩ := cg3.2.2 x (by omega)
      obtain ⟨q1, q2, q3⟩ := crow x hx
      rw [y1, y2, y3, q1, q2, q3]
      exact ⟨rfl, rfl, rfl⟩
    · rw [(rg3.2.2 u (by omega)).1]; exact rk u hu
    · obtain ⟨c, u, y1, y2, y3, y4⟩ := fills v hv
      exact ⟨c, u, by rw [x38]; exact y1, by rw [x88]; exact y2, sl2 _ _ y4⟩
    · have ee : eAt C3 p = eAt Mc p := by unfold eAt; rw [cz 34 (by omega)]
      obtain ⟨gw, -⟩ := Tw_G tw2
      have yl := (Tw_lt tw2 sy).1
      have T3 : TNs C3 (C1 2) (C1 3) (fun v => (C3 38 (8 * p + v)).toNat) ν t (t + 1) := TNs_g gw (by rw [ty]; exact yl) (fun j h1 h2 => tyc.2 j h1 (by omega)) (Cg_j F).2.2 (fun i _ _ _ => by rw [x38]) tn
      unfold PlQ
      rw [ee, cz 13 (by omega), cz 14 (by omega), cz 15 (by omega), cz 8 (by omega), cz 19 (by omega), cz 2 (by omega), cz 3 (by omega), ← e2, ← e3]
      refine ⟨fun k => by omega, fun k => by omega, fun k => by omega, fun k => by omega, fun k => by omega, fun k => ?_, fun k => ?_⟩
      · rw [t5 k]
        exact ⟨y, ν, List.mem_cons_self, T3, ty⟩
      · rw [t6 k]
        exact ⟨y, ν, List.mem_cons_self, T3, ty⟩
    · omega
  · refine Or.inl ⟨w, ?_⟩
    have z := Tw_28 tw2
    have y := PS_28 h
    unfold Nf
    rw [F'.1 53 (by decide) (by decide)]
    omega
