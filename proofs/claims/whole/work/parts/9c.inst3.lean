/-! Instances: the two calls agree. -/
/-- how a call ends: what is thrown, what comes out -/
def Ans (Mc Mr : Mm) (x : Option (Int × Int × Mm)) (y : Option (Int × Mm)) : Prop := ∃ (k v b : Int) (Mc' Mr' : Mm), x = some (k, v, Mc') ∧ y = some (b, Mr') ∧ Mr' 53 0 = k ∧ (k = 0 ∨ k = 1 ∨ k = 2) ∧ (k = 0 → b = v) ∧ Rel Mc' Mr' ∧ FrC Mc Mc' ∧ FrR Mr Mr'
theorem Rel_0 {Mc Mr : Mm} (v : Int) (h : Rel Mc Mr) : Rel Mc (up Mr 53 0 v) := by
  obtain ⟨N, NT, st, ct, sp, t, df, mt, vr⟩ := id h
  exact Rel_fr (fun _ _ => rfl) (fun a b1 b2 => up_cell (by omega)) (fun k _ hk => up_at hk) (ValR_fr ⟨rfl, rfl⟩ ⟨up_at (by decide), up_at (by decide), up_at (by decide), up_cell (by decide)⟩ vr) h
theorem FrR_0 (Mr : Mm) (v : Int) : FrR Mr (up Mr 53 0 v) := fun a ha => up_cell (by omega)
theorem Ans_thr {Mc Mr : Mm} {k v b : Int} (rel : Rel Mc Mr) (hk : k = 1 ∨ k = 2) : Ans Mc Mr (some (k, v, Mc)) (some (b, up Mr 53 0 k)) := ⟨k, v, b, Mc, up Mr 53 0 k, rfl, rfl, up_same _ _ _ _, by omega, fun z => by omega, Rel_0 k rel, fun _ _ => rfl, FrR_0 Mr k⟩
theorem cn_one {p q : Nat → Bool} {u n : Nat} (hu : u < n) (hp : p u = false) (hq : q u = true) (h : ∀ x, x < n → x ≠ u → q x = p x) : cn q n = cn p n + 1 := by
  have := cn_less (p := q) (q := p) hq hp hu (fun x h1 h2 => (h x h1 h2).symm)
  omega
/-- with an instance more -/
theorem Rel_new {Mc Mr C0 R0 M R : Mm} {N NT0 NT c s mm : Nat} (rl : Rl Mc Mr N NT0) (hc : c < N) (hs : s < 3) (habs : Mc 9 (3 * c + s) = 0) (h7 : Mc 7 c = (mm : Int)) (h3 : mm ≤ 3)
    (c0 : ∀ a, a ≠ 9 → a ≠ 10 → a ≠ 11 → C0 a = Mc a) (c9 : ∀ i, C0 9 i = if i = 3 * c + s then 1 else Mc 9 i) (c10 : ∀ i, i ≠ 3 * c + s → C0 10 i = Mc 10 i) (c11 : ∀ i, i < 9 * c + 3 * s ∨ 9 * c + 3 * s + 3 ≤ i → C0 11 i = Mc 11 i)
    (r0 : ∀ a, a ≠ 53 → a ≠ 60 → a ≠ 61 → R0 a = Mr a) (r53 : ∀ j, j ≠ 53 → j ≠ 0 → R0 53 j = Mr 53 j)
    (sup : ∀ u : Nat, Mc 6 c = (u : Int) → Mc 9 (3 * u + s) = 1 ∧ (Mc 10 (3 * u + s) = -1 ∨ ∃ x y : Nat, C0 10 (3 * c + s) = (x : Int) ∧ Mc 10 (3 * u + s) = (y : Int) ∧ Rc Mc (x : Int) (y : Int)))
    (is : IS C0 R0 N c s M R mm NT0 NT) : Rel M R ∧ FrC Mc M ∧ FrR Mr R := by
  obtain ⟨st, ct, sp, ⟨t1, t2, t3, t4, t5⟩, df, mt, vr⟩ := rl
  obtain ⟨⟨st', ct'⟩, ⟨u1, u2, u3⟩, k1, k2, k3, k4, k5, k6, k7⟩ := is
  have n6 := ct.1.2.2
  have m9 : ∀ i, M 9 i = if i = 3 * c + s then 1 else Mc 9 i := fun i => by rw [k1 9 (by omega), c9]
  have m10 : ∀ i, i ≠ 3 * c + s → M 10 i = Mc 10 i := fun i hi => by rw [k1 10 (by omega), c10 i hi]
  have ma : ∀ a, a < 23 → a ≠ 9 → a ≠ 10 → a ≠ 11 → M a = Mc a := fun a b1 b2 b3 b4 => by rw [k1 a (by omega), c0 a b2 b3 b4]
  have ra : ∀ a, 54 ≤ a → a ≤ 71 → a ≠ 60 → a ≠ 61 → a ≠ 62 → R a = Mr a := fun a b1 b2 b3 b4 b5 => by rw [k3 a (by omega), r0 a (by omega) b3 b4]
  have r5 : ∀ j, (j < 28 ∧ j ≠ 24 ∧ j ≠ 0) ∨ 54 ≤ j → R 53 j = Mr 53 j := fun j hj => by rw [k5 j (by omega), r53 j (by omega) (by omega)]
  have gw : Gw Mc M := by
    have e : tabC M = tabC Mc := by unfold tabC; rw [ma 1 (by omega) (by omega) (by omega) (by omega), ma 2 (by omega) (by omega) (by omega) (by omega), ma 3 (by omega) (by omega) (by omega) (by omega)]
    refine ⟨by rw [e]; exact ext_refl _, ?_, fun i hi h1 => ?_, ?_, ?_⟩
    · rw [ma 5 (by omega) (by omega) (by omega) (by omega), ma 6 (by omega) (by omega) (by omega) (by omega), ma 7 (by omega) (by omega) (by omega) (by omega), ma 8 (by omega) (by omega) (by omega) (by omega)]
      exact (Gw_refl Mc).2.1
    · have ne : i ≠ 3 * c + s := fun z => by rw [z] at h1; omega
      rw [m9, if_neg ne, m10 i ne]
      exact ⟨h1, rfl⟩
    · rw [ma 12 (by omega) (by omega) (by omega) (by omega), ma 13 (by omega) (by omega) (by omega) (by omega), ma 14 (by omega) (by omega) (by omega) (by omega), ma 15 (by omega) (by omega) (by omega) (by omega), ma 16 (by omega) (by omega) (by omega) (by omega)]
      exact (Gw_refl Mc).2.2.2.1
    · rw [ma 17 (by omega) (by omega) (by omega) (by omega), ma 18 (by omega) (by omega) (by omega) (by omega), ma 19 (by omega) (by omega) (by omega) (by omega), ma 20 (by omega) (by omega) (by omega) (by omega), ma 21 (by omega) (by omega) (by omega) (by omega)]
      exact (Gw_refl Mc).2.2.2.2
  have e24 : R0 53 24 = Mr 53 24 := r53 24 (by decide) (by decide)
  have gt : Gt Mr R := by
    refine ⟨by rw [← e24]; exact k6.1, fun t ht => ?_⟩
    have := k6.2 t (by rw [e24]; exact ht)
    rw [r0 73 (by decide) (by decide) (by decide), r0 74 (by decide) (by decide) (by decide), r0 75 (by decide) (by decide) (by decide)] at this
    exact this
  have h69 : ∀ g : Nat, (g : Int) < Mc 17 4 → R 69 g = Mr 69 g := fun g _ => by rw [ra 69 (by omega) (by omega) (by omega) (by omega) (by omega)]
  have row : ∀ i, i < 480 * (20 + (9 * c + 3 * s)) ∨ 480 * (20 + (9 * c + 3 * s)) + 1440 ≤ i → M 23 i = Mc 23 i ∧ R 72 i = Mr 72 i := fun i hi => by
    rw [(k2 i hi).1, (k2 i hi).2, c0 23 (by decide) (by decide) (by decide), r0 72 (by decide) (by decide) (by decide)]
    exact ⟨rfl, rfl⟩
  have i1 : ins18 M = ins18 Mc + 1 := cn_one (u := 3 * c + s) (by omega) (decide_eq_false (by omega)) (decide_eq_true (by rw [m9, if_pos rfl])) (fun x _ hx => by rw [m9, if_neg hx])
  have e17 : M 17 = Mc 17 := ma 17 (by omega) (by omega) (by omega) (by omega)
  have m6 : M 6 = Mc 6 := ma 6 (by omega) (by omega) (by omega) (by omega)
  refine ⟨⟨N, NT, st', ct', ?_, ⟨u1, u2, by rw [i1, e17]; omega, by rw [r5 17 (by omega), e17]; exact t4, by unfold Zc; rw [ma 7 (by omega) (by omega) (by omega) (by omega), ra 58 (by omega) (by omega) (by omega) (by omega) (by omega)]; exact t5⟩, fun g hg => ?_, fun c' s' m' b1 b2 b3 b4 => ?_, ?_⟩, fun a ha => ?_, fun a ha => ?_⟩
  · intro c' s' u b1 b2 b3 b4
    have rc : ∀ x y : Int, Rc Mc x y → Rc M x y := fun x y h => by unfold Rc at h ⊢; rw [m6]; exact h
    rw [m6] at b3
    have hu : u < c' := by
      have := (ct.2.1 c' b1).2.2
      omega
    by_cases e : 3 * c' + s' = 3 * c + s
    · obtain ⟨rfl, rfl⟩ : c' = c ∧ s' = s := by omega
      obtain ⟨d1, d2⟩ := sup u b3
      have ne : 3 * u + s' ≠ 3 * c' + s' := by omega
      refine ⟨by rw [m9, if_neg ne]; exact d1, ?_⟩
      rw [m10 _ ne, k1 10 (by omega)]
      rcases d2 with z | ⟨x, y, z1, z2, z3⟩
      · exact Or.inl z
      · exact Or.inr ⟨x, y, z1, z2, rc _ _ z3⟩
    · rw [m9, if_neg e] at b4
      obtain ⟨d1, d2⟩ := sp c' s' u b1 b2 b3 b4
      have ne : 3 * u + s' ≠ 3 * c + s := fun z => by rw [z] at d1; omega
      refine ⟨by rw [m9, if_neg ne]; exact d1, ?_⟩
      rw [m10 _ ne, m10 _ e]
      rcases d2 with z | ⟨x, y, z1, z2, z3⟩
      · exact Or.inl z
      · exact Or.inr ⟨x, y, z1, z2, rc _ _ z3⟩
  · rw [e17] at hg
    have := st.2.2.2.2.2.2.1
    exact UDf_next st ct t1 t2 gw gt (fun i b1 b2 => row i (by omega)) h69 (by rw [ra 67 (by omega) (by omega) (by omega) (by omega) (by omega)]) hg (df g hg)
  · rw [ma 7 (by omega) (by omega) (by omega) (by omega)] at b4
    have l3 := (st.2.2.2.2.2.1.2 c' (by rw [ct.1.1]; omega)).1
    by_cases e : 3 * c' + s' = 3 * c + s
    · obtain ⟨rfl, rfl⟩ : c' = c ∧ s' = s := by omega
      exact k7 m' (by omega)
    · rw [m9, if_neg e] at b3
      exact UMt_next st ct t1 t2 gw gt (fun i b5 b6 => row i (by omega)) h69 ⟨by rw [k4 _ (by omega), r0 62 (by decide) (by decide) (by decide)], by rw [k1 11 (by omega), c11 _ (by omega)]⟩ b1 b2 b3 b4 (mt c' s' m' b1 b2 b3 b4)
  · exact ValR_fr ⟨by rw [k1 47 (by omega), c0 47 (by decide) (by decide) (by decide)], by rw [k1 52 (by omega), c0 52 (by decide) (by decide) (by decide)]⟩ ⟨r5 54 (by omega), r5 55 (by omega), r5 56 (by omega), by rw [k3 94 (by omega), r0 94 (by decide) (by decide) (by decide)]⟩ vr
  · rw [k1 a (by omega), c0 a (by omega) (by omega) (by omega)]
  · rw [k3 a (by omega), r0 a (by omega) (by omega) (by omega)]
/-- the instance was wrong: it is taken away -/
theorem Rel_old {Mc Mr C0 R0 M R : Mm} {N NT0 c s : Nat} (rl : Rl Mc Mr N NT0) (hc : c < N) (hs : s < 3) (habs : Mc 9 (3 * c + s) = 0)
    (c0 : ∀ a, a ≠ 9 → a ≠ 10 → a ≠ 11 → C0 a = Mc a) (c9 : ∀ i, C0 9 i = if i = 3 * c + s then 1 else Mc 9 i) (c10 : ∀ i, i ≠ 3 * c + s → C0 10 i = Mc 10 i) (c11 : ∀ i, i < 9 * c + 3 * s ∨ 9 * c + 3 * s + 3 ≤ i → C0 11 i = Mc 11 i)
    (r0 : ∀ a, a ≠ 53 → a ≠ 60 → a ≠ 61 → R0 a = Mr a) (r60 : ∀ i, i ≠ 3 * c + s → R0 60 i = Mr 60 i ∧ R0 61 i = Mr 61 i) (r53 : ∀ j, j ≠ 53 → j ≠ 0 → R0 53 j = Mr 53 j) (bad : Bad C0 R0 c s M R) :
    Rel (up (up M 9 (3 * c + s) 0) 10 (3 * c + s) (-1)) (up (up R 60 (3 * c + s) 0) 53 24 (NT0 : Int)) ∧ FrC Mc (up (up M 9 (3 * c + s) 0) 10 (3 * c + s) (-1)) ∧ FrR Mr (up (up R 60 (3 * c + s) 0) 53 24 (NT0 : Int)) := by
  obtain ⟨st, ct, sp, ⟨t1, t2, t3, t4, t5⟩, df, mt, vr⟩ := rl
  obtain ⟨k1, k2, k3, k4, k5, k6⟩ := bad
  have n6 := ct.1.2.2
  have ab10 : Mc 10 (3 * c + s) = -1 := by
    rcases (ct.2.2 (3 * c + s) (by omega)).2 with z | z <;> omega
  have ab60 : Mr 60 (3 * c + s) = 0 := by rw [(ct.2.2 (3 * c + s) (by omega)).1]; exact habs
  generalize hM : up (up M 9 (3 * c + s) 0) 10 (3 * c + s) (-1) = M'
  generalize hR : up (up R 60 (3 * c + s) 0) 53 24 (NT0 : Int) = R'
  have a9 : M' 9 = Mc 9 := by
    funext i
    rw [← hM, up_cell (by decide)]
    by_cases e : i = 3 * c + s
    · rw [e, up_same, habs]
    · rw [up_at e, k1 9 (by omega), c9, if_neg e]
  have a10 : M' 10 = Mc 10 := by
    funext i
    rw [← hM]
    by_cases e : i = 3 * c + s
    · rw [e, up_same, ab10]
    · rw [up_at e, up_cell (by decide), k1 10 (by omega), c10 i e]
  have am : ∀ a, (a < 23 ∧ a ≠ 11) ∨ 47 ≤ a → M' a = Mc a := fun a ha => by
    by_cases e9 : a = 9
    · rw [e9]; exact a9
    · by_cases e10 : a = 10
      · rw [e10]; exact a10
      · rw [← hM, up_cell e10, up_cell e9, k1 a (by omega), c0 a e9 e10 (by omega)]
  have q60 : ∀ i, R' 60 i = Mr 60 i := fun i => by
    rw [← hR, up_cell (by decide)]
    by_cases e : i = 3 * c + s
    · rw [e, up_same, ab60]
    · rw [up_at e, k3 60 (by omega), (r60 i e).1]
  have q61 : ∀ i, i ≠ 3 * c + s → R' 61 i = Mr 61 i := fun i hi => by rw [← hR, up_cell (by decide), up_cell (by decide), k3 61 (by omega), (r60 i hi).2]
  have rm : ∀ a, (54 ≤ a ∧ a ≤ 71 ∧ a ≠ 60 ∧ a ≠ 61 ∧ a ≠ 62) ∨ a < 53 ∨ 94 ≤ a → R' a = Mr a := fun a ha => by rw [← hR, up_cell (by omega), up_cell (by omega), k3 a (by omega), r0 a (by omega) (by omega) (by omega)]
  have r5 : ∀ j, (j < 28 ∧ j ≠ 24 ∧ j ≠ 0) ∨ 54 ≤ j → R' 53 j = Mr 53 j := fun j hj => by rw [← hR, up_at (by omega), up_cell (by decide), k5 j (by omega), r53 j (by omega) (by omega)]
  have r24 : R' 53 24 = (NT0 : Int) := by rw [← hR]; exact up_same _ _ _ _
  have e24 : R0 53 24 = Mr 53 24 := r53 24 (by decide) (by decide)
  have tr : ∀ t : Nat, (t : Int) < Mr 53 24 → R' 73 t = Mr 73 t ∧ R' 74 t = Mr 74 t ∧ R' 75 t = Mr 75 t := fun t ht => by
    have := k6.2 t (by rw [e24]; exact ht)
    rw [r0 73 (by decide) (by decide) (by decide), r0 74 (by decide) (by decide) (by decide), r0 75 (by decide) (by decide) (by decide)] at this
    rw [← hR, up_cell (by decide), up_cell (by decide), up_cell (by decide), up_cell (by decide), up_cell (by decide), up_cell (by decide)]
    exact this
  have gt : Gt Mr R' := ⟨by omega, tr⟩
  have gw : Gw Mc M' := by
    have e : tabC M' = tabC Mc := by unfold tabC; rw [am 1 (by omega), am 2 (by omega), am 3 (by omega)]
    unfold Gw
    rw [e, am 5 (by omega), am 6 (by omega), am 7 (by omega), am 8 (by omega), am 9 (by omega), am 10 (by omega), am 12 (by omega), am 13 (by omega), am 14 (by omega), am 15 (by omega), am 16 (by omega), am 17 (by omega), am 18 (by omega), am 19 (by omega), am 20 (by omega), am 21 (by omega)]
    exact Gw_refl Mc
  have h69 : ∀ g : Nat, (g : Int) < Mc 17 4 → R' 69 g = Mr 69 g := fun g _ => by rw [rm 69 (by omega)]
  have row : ∀ i, i < 480 * (20 + (9 * c + 3 * s)) ∨ 480 * (20 + (9 * c + 3 * s)) + 1440 ≤ i → M' 23 i = Mc 23 i ∧ R' 72 i = Mr 72 i := fun i hi => by
    rw [← hM, ← hR, up_cell (by decide), up_cell (by decide), up_cell (by decide), up_cell (by decide), (k2 i hi).1, (k2 i hi).2, c0 23 (by decide) (by decide) (by decide), r0 72 (by decide) (by decide) (by decide)]
    exact ⟨rfl, rfl⟩
  refine ⟨⟨N, NT0, Stat_ins st (fun a b1 _ _ _ b2 _ _ b3 => am a (by omega)) (fun a b1 b2 _ _ b3 b4 b5 _ => rm a (by omega)) ⟨r5 1 (by omega), r5 12 (by omega)⟩, ?_, ?_, ⟨r24, ?_, ?_, by rw [r5 17 (by omega), am 17 (by omega)]; exact t4, by unfold Zc; rw [am 7 (by omega), rm 58 (by omega)]; exact t5⟩, fun g hg => ?_, fun c' s' m' b1 b2 b3 b4 => ?_, ?_⟩, fun a ha => am a (by omega), fun a ha => rm a (by omega)⟩
  · refine ⟨⟨by rw [am 5 (by omega)]; exact ct.1.1, by rw [r5 5 (by omega)]; exact ct.1.2.1, n6⟩, fun c' hc' => ?_, fun i hi => ?_⟩
    · rw [rm 57 (by omega), rm 58 (by omega), am 6 (by omega), am 7 (by omega)]
      exact ct.2.1 c' hc'
    · rw [q60, a9, a10]
      obtain ⟨z1, z2⟩ := ct.2.2 i hi
      refine ⟨z1, ?_⟩
      rcases z2 with z | ⟨y1, y2, y3, y4⟩
      · exact Or.inl z
      · have ne : i ≠ 3 * c + s := fun z => by rw [z] at y1; omega
        exact Or.inr ⟨y1, y2, by rw [q61 i ne]; exact y3, y4⟩
  · unfold SUP Rc
    rw [am 6 (by omega), a9, a10]
    exact sp
  · intro t ht
    obtain ⟨w1, w2, w3⟩ := tr t (by omega)
    rw [w1, w2, w3]
    exact t2 t ht
  · unfold ins18
    rw [a9, am 17 (by omega)]
    exact t3
  · rw [am 17 (by omega)] at hg
    have := st.2.2.2.2.2.2.1
    exact UDf_next st ct t1 t2 gw gt (fun i b1 b2 => row i (by omega)) h69 (by rw [rm 67 (by omega)]) hg (df g hg)
  · rw [am 7 (by omega)] at b4
    rw [a9] at b3
    have l3 := (st.2.2.2.2.2.1.2 c' (by rw [ct.1.1]; omega)).1
    have e : 3 * c' + s' ≠ 3 * c + s := fun z => by rw [z] at b3; omega
    refine UMt_next st ct t1 t2 gw gt (fun i b5 b6 => row i (by omega)) h69 ⟨?_, ?_⟩ b1 b2 b3 b4 (mt c' s' m' b1 b2 b3 b4)
    · rw [← hR, up_cell (by decide), up_cell (by decide), k4 _ (by omega), r0 62 (by decide) (by decide) (by decide)]
    · rw [← hM, up_cell (by decide), up_cell (by decide), k1 11 (by omega), c11 _ (by omega)]
  · exact ValR_fr ⟨by rw [am 47 (by omega)], am 52 (by omega)⟩ ⟨r5 54 (by omega), r5 55 (by omega), r5 56 (by omega), rm 94 (by omega)⟩ vr
