/-! Taking those without users. -/
theorem f102_ok {M : Mm} {n t : Nat} {ρ : Nat → Nat} {z : Int} (h : Fg M n ρ) (hz : z = -1 ∨ (0 ≤ z ∧ z < (n : Int))) (hu : ∀ m, m < n → 0 ≤ M 30 m ∧ M 30 m ≤ 10000) (h1 : z ≠ -1 → 1 ≤ M 30 (ρ z.toNat)) (ht : t < 5012) :
    ∃ (t' : Nat) (M' : Mm), f102 M z (t : Int) = some ((t' : Int), M') ∧ frk M M' n ∧ Fg M' n ρ ∧ (∀ m, m < n → M' 30 m = M 30 m - (pt z ρ m : Int)) ∧ ((t' = t ∧ (∀ j, M' 33 j = M 33 j) ∧ (z ≠ -1 → 1 < M 30 (ρ z.toNat))) ∨ (t' = t + 1 ∧ z ≠ -1 ∧ M 30 (ρ z.toNat) = 1 ∧ M' 33 t = (ρ z.toNat : Int) ∧ ∀ j, j ≠ t → M' 33 j = M 33 j)) := by
  have hn := h.1.2.2.1
  unfold f102
  rcases hz with hz | hz
  · rw [if_neg (fun q => q hz)]
    refine ⟨t, M, rfl, ⟨fun _ _ _ _ => rfl, fun _ _ => rfl⟩, h, fun m hm => ?_, Or.inl ⟨rfl, fun _ => rfl, fun q => absurd hz q⟩⟩
    unfold pt
    rw [if_neg (fun q => q.1 hz)]
    simp
  · obtain ⟨x, hx⟩ : ∃ x : Nat, z = (x : Int) := ⟨z.toNat, by omega⟩
    subst hx
    rw [Int.toNat_natCast] at h1 ⊢
    have h1 := h1 (by omega)
    obtain ⟨M1, e1, e2, e3⟩ := Fg_80 h (x := x) (by omega)
    have hr := (h.2.2 x (by omega)).1
    have e30 : M1 30 = M 30 := e2.1 30 (by decide)
    have e33 : M1 33 = M 33 := e2.1 33 (by decide)
    have := hu _ hr
    have hp : ∀ m, (up M1 30 (ρ x) (M1 30 (ρ x) - 1)) 30 m = M 30 m - (pt (x : Int) ρ m : Int) := fun m => by
      unfold pt
      by_cases e : m = ρ x
      · subst e
        rw [up_same, e30, if_pos ⟨by omega, by rw [Int.toNat_natCast]⟩]
        rfl
      · rw [up_at e, e30, if_neg (by rw [Int.toNat_natCast]; exact fun q => e q.2.symm)]
        simp
    have f1 : frk M (up M1 30 (ρ x) (M1 30 (ρ x) - 1)) n := ⟨fun a h1 h2 h3 => by rw [up_cell h2]; exact e2.1 a h1, fun y hy => by rw [up_cell (by decide)]; exact e2.2 y hy⟩
    have g1 : Fg (up M1 30 (ρ x) (M1 30 (ρ x) - 1)) n ρ := Fg_same (fun a h1 h2 => up_cell (by omega)) e3
    rw [if_pos (by omega), e1, bs_]
    dsimp only
    rw [if_pos (by omega), Int.toNat_natCast, if_pos (show rg (M1 30 (ρ x) - 1) by rw [e30]; omega), up_same]
    by_cases c : M 30 (ρ x) = 1
    · rw [if_pos (show M1 30 (ρ x) - 1 ≤ 0 by rw [e30]; omega), if_pos (by omega), if_pos (by omega), Int.toNat_natCast]
      refine ⟨t + 1, _, rfl, ⟨fun a h1 h2 h3 => by rw [up_cell h3]; exact f1.1 a h1 h2 h3, fun y hy => by rw [up_cell (by decide)]; exact f1.2 y hy⟩, Fg_same (fun a h1 h2 => up_cell (by omega)) g1, fun m _ => by rw [up_cell (by decide)]; exact hp m, Or.inr ⟨rfl, by omega, c, up_same _ _ _ _, fun j hj => ?_⟩⟩
      rw [up_at hj, up_cell (by decide), e33]
    · rw [if_neg (show ¬ M1 30 (ρ x) - 1 ≤ 0 by rw [e30]; omega)]
      exact ⟨t, _, rfl, f1, g1, fun m _ => hp m, Or.inl ⟨rfl, fun j => by rw [up_cell (by decide), e33], fun _ => by show (1 : Int) < M 30 (ρ x); omega⟩⟩
/-- the list so far: i gone through, t taken -/
def Kq (M : Mm) (ρ : Nat → Nat) (n i t : Nat) (tk : Nat → Bool) : Prop :=
  i ≤ t ∧ (∀ j, j < t → ∃ x : Nat, M 33 j = (x : Int) ∧ x < n ∧ ρ x = x) ∧ (∀ j k, j < k → k < t → M 33 j ≠ M 33 k) ∧ (∀ x : Nat, tk x = true ↔ ∃ j, j < i ∧ M 33 j = (x : Int)) ∧ (∀ m, m < n → M 30 m = (us M ρ tk n m : Int)) ∧ (∀ m, m < n → ρ m = m → ((∃ j, j < t ∧ M 33 j = (m : Int)) ↔ M 30 m = 0)) ∧ (∀ j x m : Nat, j < t → M 33 j = (m : Int) → x < n → ρ x = x → mu M ρ x m ≠ 0 → ∃ k, k < j ∧ k < i ∧ M 33 k = (x : Int)) ∧ cn tk n = i
theorem us_one {M : Mm} {ρ : Nat → Nat} {tk : Nat → Bool} {n x m : Nat} (hx : x < n) (hr : ρ x = x) (ht : tk x = false) : us M ρ tk n m = us M ρ (fun y => if y = x then true else tk y) n m + mu M ρ x m := by
  refine su_one (u := x) ?_ hx (fun y _ hy => ?_)
  · simp [hr, ht]
  · simp [hy]
theorem us_le (M : Mm) (ρ : Nat → Nat) (tk : Nat → Bool) (n m : Nat) : us M ρ tk n m ≤ n * 2 := su_le (fun x _ => by
  split
  · exact mu_le _ _ _ _
  · omega)
theorem us_fr {M M' : Mm} {n k m : Nat} {ρ : Nat → Nat} {tk : Nat → Bool} (h : frk M M' n) : us M' ρ tk k m = us M ρ tk k m := su_eq (fun x _ => by simp only [mu_fr h])
/-- one is gone through -/
theorem Kq_step {M : Mm} {n i t x : Nat} {ρ : Nat → Nat} {tk : Nat → Bool} (h : Fg M n ρ) (K : Kq M ρ n i t tk) (hi : i < t) (hx : M 33 i = (x : Int)) (htn : t ≤ n) :
    ∃ (t1 t2 : Nat) (M1 M2 : Mm), f102 M (M 27 x) (t : Int) = some ((t1 : Int), M1) ∧ f102 M1 (M1 28 x) (t1 : Int) = some ((t2 : Int), M2) ∧ frk M M2 n ∧ Fg M2 n ρ ∧ Kq M2 ρ n (i + 1) t2 (fun y => if y = x then true else tk y) := by
  obtain ⟨k0, k1, k2, k3, k4, k5, k6, k7⟩ := K
  have hn := h.1.2.2.1
  obtain ⟨x', x1, x2, x3⟩ := k1 i hi
  obtain rfl : x' = x := by omega
  have tkx : tk x' = false := by
    cases q : tk x' with
    | false => rfl
    | true =>
      obtain ⟨j, j1, j2⟩ := (k3 x').mp q
      exact absurd (j2.trans hx.symm) (k2 j i j1 hi)
  obtain ⟨p1, p2⟩ := GW_p h.1 x2
  have ule : ∀ m, m < n → 0 ≤ M 30 m ∧ M 30 m ≤ 10000 := fun m hm => by rw [k4 m hm]; have := us_le M ρ tk n m; omega
  have uge : ∀ m, m < n → (pt (M 27 x') ρ m + pt (M 28 x') ρ m : Nat) ≤ us M ρ tk n m := fun m hm => by
    rw [us_one x2 x3 tkx, mu_pt h.1 x2]
    omega
  have ptz : ∀ {z : Int}, z ≠ -1 → pt z ρ (ρ z.toNat) = 1 := fun hz => if_pos ⟨hz, rfl⟩
  have rlt : ∀ {z : Int}, (z = -1 ∨ (0 ≤ z ∧ z < (n : Int))) → z ≠ -1 → ρ z.toNat < n ∧ ρ (ρ z.toNat) = ρ z.toNat := fun h1 h2 => h.2.2 _ (by rcases h1 with q | q; exact absurd q h2; omega)
  obtain ⟨t1, M1, a1, a2, a3, a4, a5⟩ := f102_ok (t := t) h p1 ule (fun hz => by
    have q := uge _ (rlt p1 hz).1
    rw [ptz hz] at q
    rw [k4 _ (rlt p1 hz).1]
    omega) (by omega)
  have e28 : M1 28 = M 28 := a2.1 28 (by decide) (by decide) (by decide)
  have t1n : t1 ≤ n + 1 := by rcases a5 with ⟨rfl, -⟩ | ⟨rfl, -⟩ <;> omega
  obtain ⟨t2, M2, b1, b2, b3, b4, b5⟩ := f102_ok (t := t1) (z := M 28 x') a3 p2 (fun m hm => by
      rw [a4 m hm, k4 m hm]
      have := uge m hm
      have := us_le M ρ tk n m
      omega) (fun hz => by
    have q := uge _ (rlt p2 hz).1
    rw [ptz hz] at q
    rw [a4 _ (rlt p2 hz).1, k4 _ (rlt p2 hz).1]
    omega) (by omega)
  have f2 := frk_trans a2 b2
  have u2 : ∀ m, m < n → M2 30 m = (us M ρ (fun y => if y = x' then true else tk y) n m : Int) := fun m hm => by
    rw [b4 m hm, a4 m hm, k4 m hm, us_one x2 x3 tkx, mu_pt h.1 x2]
    omega
  -- the list keeps what it has
  have keep : ∀ j, j < t → M2 33 j = M 33 j := fun j hj => by
    have q1 : M1 33 j = M 33 j := by
      rcases a5 with ⟨-, q, -⟩ | ⟨-, -, -, -, q⟩
      · exact q j
      · exact q j (by omega)
    have q2 : M2 33 j = M1 33 j := by
      rcases b5 with ⟨-, q, -⟩ | ⟨-, -, -, -, q⟩
      · exact q j
      · refine q j ?_
        rcases a5 with ⟨r, -⟩ | ⟨r, -⟩ <;> omega
    rw [q2, q1]
  -- what is new in it
  have new : ∀ j, t ≤ j → j < t2 → ∃ m : Nat, M2 33 j = (m : Int) ∧ m < n ∧ ρ m = m ∧ ¬ M 30 m = 0 ∧ M2 30 m = 0 := by
    intro j hj hj2
    rcases a5 with ⟨r1, r2, r3⟩ | ⟨r1, r2, r3, r4, r5⟩
    · rcases b5 with ⟨s1, s2, s3⟩ | ⟨s1, s2, s3, s4, s5⟩
      · omega
      · obtain rfl : j = t1 := by omega
        have q := rlt p2 s2
        have pl : pt (M 27 x') ρ (ρ (M 28 x').toNat) + M1 30 (ρ (M 28 x').toNat) = M 30 (ρ (M 28 x').toNat) := by rw [a4 _ q.1]; omega
        exact ⟨ρ (M 28 x').toNat, s4, q.1, q.2, by omega, by rw [b4 _ q.1, ptz s2, s3]; rfl⟩
    · have q := rlt p1 r2
      have pl : M1 30 (ρ (M 27 x').toNat) = 0 := by rw [a4 _ q.1, ptz r2, r3]; rfl
      have nl := uge _ q.1
      have nk := k4 _ q.1
      rw [ptz r2] at nl
      have pz : pt (M 28 x') ρ (ρ (M 27 x').toNat) = 0 := by omega
      rcases b5 with ⟨s1, s2, s3⟩ | ⟨s1, s2, s3, s4, s5⟩
      · obtain rfl : j = t := by omega
        exact ⟨_, by rw [s2]; exact r4, q.1, q.2, by omega, by rw [b4 _ q.1, pl, pz]; rfl⟩
      · by_cases e : j = t1
        · subst e
          have q' := rlt p2 s2
          have pl : pt (M 27 x') ρ (ρ (M 28 x').toNat) + M1 30 (ρ (M 28 x').toNat) = M 30 (ρ (M 28 x').toNat) := by rw [a4 _ q'.1]; omega
          exact ⟨ρ (M 28 x').toNat, s4, q'.1, q'.2, by omega, by rw [b4 _ q'.1, ptz s2, s3]; rfl⟩
        · obtain rfl : j = t := by omega
          exact ⟨_, by rw [s5 _ e]; exact r4, q.1, q.2, by omega, by rw [b4 _ q.1, pl, pz]; rfl⟩
  have mono : ∀ m, m < n → M2 30 m ≤ M 30 m := fun m hm => by rw [b4 m hm, a4 m hm]; omega
  have t12 : t ≤ t1 ∧ t1 ≤ t2 ∧ t2 ≤ t1 + 1 ∧ t1 ≤ t + 1 := by rcases a5 with ⟨r, -⟩ | ⟨r, -⟩ <;> rcases b5 with ⟨s, -⟩ | ⟨s, -⟩ <;> omega
  have zin : ∀ m, m < n → ρ m = m → M2 30 m = 0 → ∃ j, j < t2 ∧ M2 33 j = (m : Int) := by
    intro m hm hr hz
    by_cases q : M 30 m = 0
    · obtain ⟨j, j1, j2⟩ := (k5 m hm hr).mpr q
      exact ⟨j, by omega, by rw [keep j j1]; exact j2⟩
    · -- it came to 0 here
      have d1 := b4 m hm
      have d2 := a4 m hm
      by_cases r : M1 30 m = 0
      · -- at the left
        have pl : pt (M 27 x') ρ m = 1 := by have := pt_le (M 27 x') ρ m; have := ule m hm; omega
        have hz9 : M 27 x' ≠ -1 ∧ ρ (M 27 x').toNat = m := by
          apply Classical.byContradiction
          intro c
          unfold pt at pl
          rw [if_neg c] at pl
          omega
        rcases a5 with ⟨r1, r2, r3⟩ | ⟨r1, r2, r3, r4, r5⟩
        · have := r3 hz9.1
          rw [hz9.2] at this
          omega
        · rw [hz9.2] at r4
          refine ⟨t, by omega, ?_⟩
          rcases b5 with ⟨s1, s2, s3⟩ | ⟨s1, s2, s3, s4, s5⟩
          · rw [s2]; exact r4
          · rw [s5 _ (by omega)]; exact r4
      · have pl : pt (M 28 x') ρ m = 1 := by have := pt_le (M 28 x') ρ m; have := pt_le (M 27 x') ρ m; have := uge m hm; have := k4 m hm; omega
        have hz9 : M 28 x' ≠ -1 ∧ ρ (M 28 x').toNat = m := by
          apply Classical.byContradiction
          intro c
          unfold pt at pl
          rw [if_neg c] at pl
          omega
        rcases b5 with ⟨s1, s2, s3⟩ | ⟨s1, s2, s3, s4, s5⟩
        · have := s3 hz9.1
          rw [hz9.2] at this
          omega
        · rw [hz9.2] at s4
          exact ⟨t1, by omega, s4⟩
  have nodup : ∀ j k, j < k → k < t2 → M2 33 j ≠ M2 33 k := by
    intro j k hjk hk e
    by_cases q : k < t
    · rw [keep j (by omega), keep k q] at e
      exact k2 j k hjk q e
    · obtain ⟨m, m1, m2, m3, m4, m5⟩ := new k (by omega) hk
      by_cases q2 : j < t
      · rw [keep j q2, m1] at e
        exact m4 ((k5 m m2 m3).mp ⟨j, q2, e⟩)
      · -- both new: j is t, k is t + 1
        rcases a5 with ⟨r1, r2, r3⟩ | ⟨r1, r2, r3, r4, r5⟩
        · omega
        · rcases b5 with ⟨s1, s2, s3⟩ | ⟨s1, s2, s3, s4, s5⟩
          · omega
          · obtain rfl : j = t := by omega
            obtain rfl : k = t1 := by omega
            rw [s5 _ (by omega), r4, s4] at e
            have q := rlt p1 r2
            have pl : M1 30 (ρ (M 27 x').toNat) = 0 := by rw [a4 _ q.1, ptz r2, r3]; rfl
            have : ρ (M 27 x').toNat = ρ (M 28 x').toNat := by omega
            rw [this] at pl
            omega
  refine ⟨t1, t2, M1, M2, a1, by rw [e28]; exact b1, f2, b3, by omega, fun j hj => ?_, nodup, fun y => ?_, fun m hm => by rw [u2 m hm, us_fr f2], fun m hm hr => ⟨fun q => ?_, zin m hm hr⟩, fun j y m hj hjm hy hr hmu => ?_, ?_⟩
  · by_cases q : j < t
    · rw [keep j q]; exact k1 j q
    · obtain ⟨m, m1, m2, m3, -⟩ := new j (by omega) hj
      exact ⟨m, m1, m2, m3⟩
  · constructor
    · intro q
      by_cases e : y = x'
      · subst e
        exact ⟨i, by omega, by rw [keep i hi]; exact hx⟩
      · simp only [if_neg e] at q
        obtain ⟨j, j1, j2⟩ := (k3 y).mp q
        exact ⟨j, by omega, by rw [keep j (by omega)]; exact j2⟩
    · rintro ⟨j, j1, j2⟩
      by_cases e : y = x'
      · simp [e]
      · simp only [if_neg e]
        rw [keep j (by omega)] at j2
        refine (k3 y).mpr ⟨j, ?_, j2⟩
        by_cases q : j = i
        · subst q; omega
        · omega
  · obtain ⟨j, j1, j2⟩ := q
    by_cases q : j < t
    · rw [keep j q] at j2
      have := (k5 m hm hr).mp ⟨j, q, j2⟩
      have := mono m hm
      have := u2 m hm
      omega
    · obtain ⟨m', m1, m2, m3, m4, m5⟩ := new j (by omega) j1
      have : m' = m := by omega
      subst this
      exact m5
  · rw [mu_fr f2] at hmu
    by_cases q : j < t
    · rw [keep j q] at hjm
      obtain ⟨k, kk1, kk2, kk3⟩ := k6 j y m q hjm hy hr hmu
      exact ⟨k, kk1, by omega, by rw [keep k (by omega)]; exact kk3⟩
    · obtain ⟨m', m1, m2, m3, m4, m5⟩ := new j (by omega) hj
      have : m' = m := by omega
      subst this
      have z := u2 m' m2
      rw [m5] at z
      have z2 := su_zero (show us M ρ (fun y => if y = x' then true else tk y) n m' = 0 by omega) y hy
      dsimp only at z2
      by_cases e : y = x'
      · subst e
        exact ⟨i, by omega, by omega, by rw [keep i hi]; exact hx⟩
      · cases c : tk y with
        | true =>
          obtain ⟨l, l1, l2⟩ := (k3 y).mp c
          exact ⟨l, by omega, by omega, by rw [keep l (by omega)]; exact l2⟩
        | false =>
          have z3 : mu M ρ y m' = 0 := by simpa [e, hr, c] using z2
          exact absurd z3 hmu
  · have := cn_less (p := fun y => if y = x' then true else tk y) (q := tk) (u := x') (by simp) tkx (n := n) x2 (fun y _ hy => by simp [hy])
    omega
def tkf (w : Nat → Nat) : Nat → Nat → Bool
  | 0, _ => false
  | s + 1, y => if y = w s then true else tkf w s y
theorem tkf_iff {w : Nat → Nat} : ∀ {s y : Nat}, tkf w s y = true ↔ ∃ j, j < s ∧ w j = y
  | 0, y => ⟨fun q => (by cases q), fun ⟨j, hj, _⟩ => absurd hj (Nat.not_lt_zero _)⟩
  | s + 1, y => by
    show (if y = w s then true else tkf w s y) = true ↔ _
    by_cases e : y = w s
    · rw [if_pos e]
      exact ⟨fun _ => ⟨s, by omega, e.symm⟩, fun _ => rfl⟩
    · rw [if_neg e, tkf_iff]
      constructor
      · rintro ⟨j, j1, j2⟩
        exact ⟨j, by omega, j2⟩
      · rintro ⟨j, j1, j2⟩
        by_cases q : j = s
        · subst q; exact absurd j2.symm e
        · exact ⟨j, by omega, j2⟩
theorem inj_cn {w : Nat → Nat} {n t : Nat} (h1 : ∀ j, j < t → w j < n) (h2 : ∀ j k, j < k → k < t → w j ≠ w k) : ∀ s, s ≤ t → cn (tkf w s) n = s
  | 0, _ => by
    have : ∀ n, cn (tkf w 0) n = 0 := by
      intro n
      induction n with
      | zero => rfl
      | succ n ih => show cn (tkf w 0) n + _ = 0; rw [ih]; rfl
    exact this n
  | s + 1, hs => by
    have ih := inj_cn h1 h2 s (by omega)
    have := cn_less (p := tkf w (s + 1)) (q := tkf w s) (u := w s) (by show (if w s = w s then true else _) = true; rw [if_pos rfl]) (by
      cases c : tkf w s (w s) with
      | false => rfl
      | true =>
        obtain ⟨j, j1, j2⟩ := tkf_iff.mp c
        exact absurd j2 (h2 j s j1 (by omega))) (h1 s (by omega)) (fun y _ hy => by show _ = (if y = w s then true else _); rw [if_neg hy])
    omega
theorem Kq_le {M : Mm} {n i t : Nat} {ρ : Nat → Nat} {tk : Nat → Bool} (K : Kq M ρ n i t tk) : t ≤ n := by
  have h := inj_cn (w := fun j => (M 33 j).toNat) (n := n) (t := t) (fun j hj => by
    obtain ⟨x, x1, x2, -⟩ := K.2.1 j hj
    show (M 33 j).toNat < n
    omega) (fun j k hjk hk e => by
    obtain ⟨x, x1, -⟩ := K.2.1 j (by omega)
    obtain ⟨y, y1, -⟩ := K.2.1 k hk
    have e : (M 33 j).toNat = (M 33 k).toNat := e
    exact K.2.2.1 j k hjk hk (by omega)) t (Nat.le_refl _)
  have := cn_le (tkf (fun j => (M 33 j).toNat) t) n
  omega
theorem l97_54 {n : Nat} {ρ : Nat → Nat} (d : Nat) : ∀ (i t f : Nat) (tk : Nat → Bool) (M : Mm), n ≤ i + d → d < f → Fg M n ρ → Kq M ρ n i t tk → ∃ (b : Int) (M' : Mm) (tk' : Nat → Bool) (t' : Nat), l97 f 54 M (rc n ρ : Int) (t : Int) (i : Int) = some (b, M') ∧ frk M M' n ∧ Fg M' n ρ ∧ Kq M' ρ n t' t' tk' ∧ b = if (rc n ρ : Int) ≤ (t' : Int) then 0 else 1 := by
  induction d with
  | zero =>
    intro i t f tk M hd hf h K
    obtain ⟨f, rfl⟩ : ∃ f', f = f' + 1 := ⟨f - 1, by omega⟩
    have := Kq_le K
    obtain rfl : i = t := by have := K.1; omega
    refine ⟨_, M, tk, i, ?_, ⟨fun _ _ _ _ => rfl, fun _ _ => rfl⟩, h, K, rfl⟩
    rw [l97, if_pos (Int.le_refl _)]
    by_cases c : (rc n ρ : Int) ≤ (i : Int)
    · rw [if_pos c, if_pos c]
    · rw [if_neg c, if_neg c]
  | succ d ih =>
    intro i t f tk M hd hf h K
    obtain ⟨f, rfl⟩ : ∃ f', f = f' + 1 := ⟨f - 1, by omega⟩
    have hn := h.1.2.2.1
    have htn := Kq_le K
    by_cases e : i = t
    · subst e
      refine ⟨_, M, tk, i, ?_, ⟨fun _ _ _ _ => rfl, fun _ _ => rfl⟩, h, K, rfl⟩
      rw [l97, if_pos (Int.le_refl _)]
      by_cases c : (rc n ρ : Int) ≤ (i : Int)
      · rw [if_pos c, if_pos c]
      · rw [if_neg c, if_neg c]
    · have hit : i < t := by have := K.1; omega
      obtain ⟨x, x1, x2, x3⟩ := K.2.1 i hit
      obtain ⟨t1, t2, M1, M2, a1, a2, a3, a4, a5⟩ := Kq_step h K hit x1 htn
      obtain ⟨b, M', tk', t', z1, z2, z3, z4, z5⟩ := ih (i + 1) t2 f _ M2 (by omega) (by omega) a4 a5
      refine ⟨b, M', tk', t', ?_, frk_trans a3 z2, z3, z4, z5⟩
      rw [l97, if_neg (by omega), if_neg (show ¬ (2504 : Int) ≤ (i : Int) by omega), if_pos (by omega), Int.toNat_natCast, x1, if_pos (by omega), Int.toNat_natCast, a1, bs_]
      dsimp only
      rw [a2, bs_]
      dsimp only
      rw [if_pos (by omega), show (i : Int) + 1 = ((i + 1 : Nat) : Int) by omega]
      exact z1
/-- the first ones -/
def Kz (M : Mm) (ρ : Nat → Nat) (n t x : Nat) : Prop := (∀ j, j < t → ∃ y : Nat, M 33 j = (y : Int) ∧ y < x ∧ ρ y = y ∧ M 30 y = 0) ∧ (∀ j k, j < k → k < t → M 33 j < M 33 k) ∧ ∀ y, y < x → ρ y = y → M 30 y = 0 → ∃ j, j < t ∧ M 33 j = (y : Int)
theorem l97_9 {n : Nat} {ρ : Nat → Nat} {R : Int} (d : Nat) : ∀ (x t f : Nat) (M : Mm), x + d = n → d < f → t ≤ x → Fg M n ρ → Kz M ρ n t x → ∃ (t' : Nat) (M' : Mm), l97 f 9 M R (t : Int) (x : Int) = l97 (f - d - 1) 54 M' R (t' : Int) 0 ∧ (∀ a, a ≠ 33 → M' a = M a) ∧ Kz M' ρ n t' n := by
  induction d with
  | zero =>
    intro x t f M hx hf ht h K
    obtain ⟨f, rfl⟩ : ∃ f', f = f' + 1 := ⟨f - 1, by omega⟩
    obtain rfl : x = n := by omega
    refine ⟨t, M, ?_, fun _ _ => rfl, K⟩
    rw [l97, h.1.1, if_pos (Int.le_refl _)]
    rfl
  | succ d ih =>
    intro x t f M hx hf ht h K
    obtain ⟨f, rfl⟩ : ∃ f', f = f' + 1 := ⟨f - 1, by omega⟩
    have hn := h.1.2.2.1
    have rt := Fg_rt h (show x < n by omega)
    have cx : (x : Int) + 1 = ((x + 1 : Nat) : Int) := by omega
    rw [l97, h.1.1, if_neg (by omega), if_pos (by omega), Int.toNat_natCast, cx, show f + 1 - (d + 1) - 1 = f - d - 1 by omega]
    have skip : ¬ (ρ x = x ∧ M 30 x = 0) → ∃ (t' : Nat) (M' : Mm), l97 f 9 M R (t : Int) ((x + 1 : Nat) : Int) = l97 (f - d - 1) 54 M' R (t' : Int) 0 ∧ (∀ a, a ≠ 33 → M' a = M a) ∧ Kz M' ρ n t' n := fun hno => by
      refine ih (x + 1) t f M (by omega) (by omega) (by omega) h ⟨fun j hj => ?_, K.2.1, fun y hy hr hz => ?_⟩
      · obtain ⟨y, y1, y2, y3, y4⟩ := K.1 j hj
        exact ⟨y, y1, by omega, y3, y4⟩
      · by_cases e : y = x
        · subst e; exact absurd ⟨hr, hz⟩ hno
        · exact K.2.2 y (by omega) hr hz
    by_cases c : M 29 x = (x : Int)
    · rw [if_neg (fun q => q c)]
      by_cases z : M 30 x = 0
      · rw [if_neg (fun q => q z), if_pos (by omega), if_pos (by omega), if_pos (by omega), Int.toNat_natCast, show (t : Int) + 1 = ((t + 1 : Nat) : Int) by omega]
        have e30 : (up M 33 t (x : Int)) 30 = M 30 := up_cell (by decide)
        obtain ⟨t', M', z1, z2, z3⟩ := ih (x + 1) (t + 1) f (up M 33 t (x : Int)) (by omega) (by omega) (by omega) (Fg_same (fun a h1 h2 => up_cell (by omega)) h) (by
          refine ⟨fun j hj => ?_, fun j k hjk hk => ?_, fun y hy hr hz => ?_⟩
          · rw [e30]
            by_cases e : j = t
            · subst e
              exact ⟨x, up_same _ _ _ _, by omega, rt.mp c, z⟩
            · obtain ⟨y, y1, y2, y3, y4⟩ := K.1 j (by omega)
              exact ⟨y, by rw [up_at e]; exact y1, by omega, y3, y4⟩
          · rw [up_at (show j ≠ t by omega)]
            by_cases e : k = t
            · subst e
              rw [up_same]
              obtain ⟨y, y1, y2, -⟩ := K.1 j hjk
              omega
            · rw [up_at e]
              exact K.2.1 j k hjk (by omega)
          · rw [e30] at hz
            by_cases e : y = x
            · subst e
              exact ⟨t, by omega, up_same _ _ _ _⟩
            · obtain ⟨j, j1, j2⟩ := K.2.2 y (by omega) hr hz
              exact ⟨j, by omega, by rw [up_at (by omega)]; exact j2⟩)
        exact ⟨t', M', z1, fun a ha => by rw [z2 a ha, up_cell ha], z3⟩
      · rw [if_pos z, if_pos (by omega)]
        exact skip (fun q => z q.2)
    · rw [if_pos c, if_pos (by omega)]
      exact skip (fun q => c (rt.mpr q.1))
theorem cn_sub {p q : Nat → Bool} : ∀ {n : Nat}, (∀ x, x < n → p x = true → q x = true) → cn p n ≤ cn q n
  | 0, _ => Nat.le_refl _
  | n + 1, h => by
    have ih := cn_sub (n := n) (fun x hx => h x (by omega))
    have := h n (by omega)
    show cn p n + (if p n = true then 1 else 0) ≤ cn q n + (if q n = true then 1 else 0)
    by_cases e : p n = true
    · rw [if_pos e, if_pos (this e)]; omega
    · rw [if_neg e]; omega
theorem cn_sub_lt {p q : Nat → Bool} {u : Nat} (hu : q u = true) (hp : p u = false) {n : Nat} (hn : u < n) (h : ∀ x, x < n → p x = true → q x = true) : cn p n < cn q n := by
  have h1 := cn_less (p := fun y => if y = u then true else p y) (q := p) (u := u) (by simp) hp hn (fun y _ hy => by simp [hy])
  have h2 := cn_sub (p := fun y => if y = u then true else p y) (q := q) (n := n) (fun x hx hy => by
    by_cases e : x = u
    · subst e; exact hu
    · simp only [if_neg e] at hy
      exact h x hx hy)
  omega
/-- an order of the roots, parts first; and one that is bounded -/
def Acy (M : Mm) (ρ : Nat → Nat) (n : Nat) : Prop := ∃ r : Nat → Nat, (∀ x, r x ≤ n) ∧ ∀ x m, x < n → ρ x = x → mu M ρ x m ≠ 0 → r m < r x
/-- roots of which each has a user among them -/
def Cyc (M : Mm) (ρ : Nat → Nat) (n : Nat) : Prop := ∃ U : Nat → Prop, (∃ m, U m) ∧ ∀ m, U m → m < n ∧ ρ m = m ∧ ∃ x, U x ∧ mu M ρ x m ≠ 0
theorem f97_ok {M : Mm} {n : Nat} {ρ : Nat → Nat} (h : Fg M n ρ) : ∃ (b : Int) (M' : Mm), f97 M = some (b, M') ∧ frk M M' n ∧ Fg M' n ρ ∧ ((b = 0 ∧ Acy M ρ n) ∨ (b = 1 ∧ Cyc M ρ n)) := by
  have hn := h.1.2.2.1
  obtain ⟨M1, e1, e2, e3, e4⟩ := f98_ok h
  obtain ⟨t, M2, z1, z2, z3, z4, z5⟩ := l97_9 (ρ := ρ) (R := (rc n ρ : Int)) n 0 0 FU M1 (by omega) (by unfold FU; omega) (by omega) e3 ⟨fun j hj => by omega, fun j k h1 h2 => by omega, fun y hy => by omega⟩
  have z1 : l97 FU 9 M1 (rc n ρ : Int) 0 0 = l97 (FU - n - 1) 54 M2 (rc n ρ : Int) (t : Int) 0 := z1
  have f2 : frk M1 M2 n := ⟨fun a _ _ h3 => z2 a h3, fun y _ => by rw [z2 29 (by decide)]⟩
  have f3 := frk_trans e2 f2
  have u2 : ∀ m, m < n → M2 30 m = (us M2 ρ (fun _ => false) n m : Int) := fun m hm => by
    rw [z2 30 (by decide), e4 m hm]
    have : ub M ρ n m = us M2 ρ (fun _ => false) n m := su_eq (fun x _ => by simp [mu_fr f3])
    rw [this]
  have K : Kq M2 ρ n 0 t (fun _ => false) := by
    refine ⟨by omega, fun j hj => ?_, fun j k h1 h2 q => ?_, fun x => ⟨fun q => (by cases q), fun ⟨j, hj, _⟩ => by omega⟩, u2, fun m hm hr => ⟨fun ⟨j, j1, j2⟩ => ?_, z5 m hm hr⟩, fun j x m hj hjm hx hr hmu => ?_, ?_⟩
    · obtain ⟨y, y1, y2, y3, y4⟩ := z3 j hj
      exact ⟨y, y1, y2, y3⟩
    · have := z4 j k h1 h2
      omega
    · obtain ⟨y, y1, y2, y3, y4⟩ := z3 j j1
      have : y = m := by omega
      subst this
      exact y4
    · obtain ⟨y, y1, y2, y3, y4⟩ := z3 j hj
      have : y = m := by omega
      subst this
      have q := u2 y y2
      rw [y4] at q
      have := su_zero (show us M2 ρ (fun _ => false) n y = 0 by omega) x hx
      simp [hr] at this
      exact absurd this hmu
    · have : ∀ n, cn (fun _ => false) n = 0 := by
        intro n
        induction n with
        | zero => rfl
        | succ n ih => show cn (fun _ => false) n + _ = 0; rw [ih]; rfl
      exact this n
  obtain ⟨b, M', tk, t', w1, w2, w3, w4, w5⟩ := l97_54 (ρ := ρ) n 0 t (FU - n - 1) _ M2 (by omega) (by unfold FU; omega) (Fg_same (fun a h1 h2 => z2 a (by omega)) e3) K
  have F := frk_trans f3 w2
  refine ⟨b, M', ?_, F, w3, ?_⟩
  · unfold f97
    rw [e1, bs_]
    exact z1.trans w1
  · obtain ⟨-, k1, k2, k3, k4, k5, k6, k7⟩ := w4
    have sub : ∀ x, x < n → tk x = true → decide (ρ x = x) = true := fun x hx q => by
      obtain ⟨j, j1, j2⟩ := (k3 x).mp q
      obtain ⟨y, y1, y2, y3⟩ := k1 j j1
      have : y = x := by omega
      subst this
      simpa using y3
    by_cases c : (rc n ρ : Int) ≤ (t' : Int)
    · rw [if_pos c] at w5
      refine Or.inl ⟨w5, ?_⟩
      -- all roots are in the list
      have all : ∀ x, x < n → ρ x = x → ∃ j, j < t' ∧ M' 33 j = (x : Int) := by
        intro x hx hr
        cases q : tk x with
        | true => exact (k3 x).mp q
        | false =>
          exfalso
          have := cn_sub_lt (p := tk) (q := fun x => decide (ρ x = x)) (u := x) (by simpa using hr) q hx sub
          have : cn tk n < rc n ρ := this
          omega
      have t'n : t' ≤ n := by have := cn_le tk n; omega
      refine ⟨fun x => if q : ∃ j, j < t' ∧ M' 33 j = (x : Int) then n - Classical.choose q else 0, fun x => ?_, fun x m hx hr hmu => ?_⟩
      · dsimp only
        split
        · omega
        · omega
      · have hmr : m < n ∧ ρ m = m := by
          unfold mu at hmu
          obtain ⟨p1, p2⟩ := GW_p h.1 hx
          obtain ⟨q1, q2, q3, q4, q5, q6⟩ := h.1.2.2.2 x hx
          by_cases c1 : (3 ≤ M 26 x ∧ M 26 x ≤ 4) ∧ ρ (M 27 x).toNat = m
          · have := q2 c1.1
            rw [← c1.2]
            exact h.2.2 _ (by omega)
          · rw [if_neg c1] at hmu
            by_cases c2 : M 26 x = 4 ∧ ρ (M 28 x).toNat = m
            · have := q4 c2.1
              rw [← c2.2]
              exact h.2.2 _ (by omega)
            · rw [if_neg c2] at hmu
              exact absurd rfl hmu
        have qx := all x hx hr
        have qm := all m hmr.1 hmr.2
        dsimp only
        rw [dif_pos qx, dif_pos qm]
        obtain ⟨x1, x2⟩ := Classical.choose_spec qx
        obtain ⟨m1, m2⟩ := Classical.choose_spec qm
        obtain ⟨k, kk1, kk2, kk3⟩ := k6 _ x m m1 m2 hx hr (by rw [mu_fr F]; exact hmu)
        have : k = Classical.choose qx := by
          apply Classical.byContradiction
          intro ne
          rcases (show k < Classical.choose qx ∨ Classical.choose qx < k by omega) with l | l
          · exact k2 _ _ l x1 (kk3.trans x2.symm)
          · exact k2 _ _ l kk2 (x2.trans kk3.symm)
        omega
    · rw [if_neg c] at w5
      refine Or.inr ⟨w5, fun m => m < n ∧ ρ m = m ∧ tk m = false, ?_, fun m hm => ⟨hm.1, hm.2.1, ?_⟩⟩
      · apply Classical.byContradiction
        intro ne
        have : cn (fun x => decide (ρ x = x)) n ≤ cn tk n := cn_sub (fun x hx q => by
          cases r : tk x with
          | true => rfl
          | false => exact absurd ⟨x, hx, by simpa using q, r⟩ ne)
        have : rc n ρ ≤ cn tk n := this
        omega
      · obtain ⟨hm1, hm2, hm3⟩ := hm
        have nz : ¬ M' 30 m = 0 := fun q => by
          obtain ⟨j, j1, j2⟩ := (k5 m hm1 hm2).mpr q
          have := (k3 m).mpr ⟨j, j1, j2⟩
          rw [hm3] at this
          cases this
        apply Classical.byContradiction
        intro ne
        apply nz
        rw [k4 m hm1]
        have : us M' ρ tk n m = 0 := by
          have hz : ∀ k, k ≤ n → su (fun x => if ρ x = x ∧ tk x = false then mu M' ρ x m else 0) k = 0 := by
            intro k
            induction k with
            | zero => intro _; rfl
            | succ k ih =>
              intro hk
              show su _ k + _ = 0
              rw [ih (by omega)]
              dsimp only
              split
              · rename_i q
                apply Classical.byContradiction
                intro ne2
                rw [Nat.zero_add, mu_fr F] at ne2
                exact ne ⟨k, ⟨by omega, q.1, q.2⟩, ne2⟩
              · rfl
          exact hz n (Nat.le_refl _)
        rw [this]
        rfl
