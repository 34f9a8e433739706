/-! Terms: the reference's trees of types. -/
def tmT (M : Mm) : Nat → Nat → Ty
  | 0, _ => tX
  | f + 1, t => if M 73 t = 0 then tI else if M 73 t = 1 then tB else if M 73 t = 2 then tV (M 74 t) else if M 73 t = 3 then tL (tmT M f (M 74 t).toNat) else if M 73 t = 4 then tF (tmT M f (M 74 t).toNat) (tmT M f (M 75 t).toNat) else tV 0
def WTm (M : Mm) (N : Nat) : Prop := ∀ t : Nat, t < N → (0 ≤ M 73 t ∧ M 73 t ≤ 5) ∧ ((3 ≤ M 73 t ∧ M 73 t ≤ 4) → 0 ≤ M 74 t ∧ M 74 t < (t : Int)) ∧ (M 73 t = 4 → 0 ≤ M 75 t ∧ M 75 t < (t : Int))
theorem tmT_st {M : Mm} {N : Nat} (h : WTm M N) : ∀ (f g t : Nat), t < N → t < f → t < g → tmT M f t = tmT M g t := by
  intro f
  induction f with
  | zero => intro g t _ h1; omega
  | succ f ih =>
    intro g t hN h1 h2
    obtain ⟨g, rfl⟩ : ∃ g', g = g' + 1 := ⟨g - 1, by omega⟩
    obtain ⟨w1, w2, w3⟩ := h t hN
    rw [tmT, tmT]
    by_cases k0 : M 73 t = 0
    · rw [if_pos k0, if_pos k0]
    · rw [if_neg k0, if_neg k0]
      by_cases k1 : M 73 t = 1
      · rw [if_pos k1, if_pos k1]
      · rw [if_neg k1, if_neg k1]
        by_cases k2 : M 73 t = 2
        · rw [if_pos k2, if_pos k2]
        · rw [if_neg k2, if_neg k2]
          by_cases k3 : M 73 t = 3
          · have := w2 (by omega)
            rw [if_pos k3, if_pos k3, ih g (M 74 t).toNat (by omega) (by omega) (by omega)]
          · rw [if_neg k3, if_neg k3]
            by_cases k4 : M 73 t = 4
            · have := w2 (by omega)
              have := w3 k4
              rw [if_pos k4, if_pos k4, ih g (M 74 t).toNat (by omega) (by omega) (by omega), ih g (M 75 t).toNat (by omega) (by omega) (by omega)]
            · rw [if_neg k4, if_neg k4]
/-- the tree of a term -/
def trm (M : Mm) (t : Nat) : Ty := tmT M (t + 1) t
theorem tmT_eq {M M' : Mm} {N : Nat} (h : WTm M N) (e : ∀ t : Nat, t < N → M' 73 t = M 73 t ∧ M' 74 t = M 74 t ∧ M' 75 t = M 75 t) : ∀ (f t : Nat), t < N → tmT M' f t = tmT M f t := by
  intro f
  induction f with
  | zero => intro t _; rfl
  | succ f ih =>
    intro t hN
    obtain ⟨w1, w2, w3⟩ := h t hN
    obtain ⟨e1, e2, e3⟩ := e t hN
    rw [tmT, tmT, e1, e2, e3]
    by_cases k3 : M 73 t = 3
    · have := w2 (by omega)
      rw [ih (M 74 t).toNat (by omega), if_neg (show ¬ M 73 t = 0 by omega), if_neg (show ¬ M 73 t = 1 by omega), if_neg (show ¬ M 73 t = 2 by omega), if_pos k3, if_neg (show ¬ M 73 t = 0 by omega), if_neg (show ¬ M 73 t = 1 by omega), if_neg (show ¬ M 73 t = 2 by omega), if_pos k3]
    · by_cases k4 : M 73 t = 4
      · have := w2 (by omega)
        have := w3 k4
        rw [ih (M 74 t).toNat (by omega), ih (M 75 t).toNat (by omega)]
      · rw [if_neg k3, if_neg k3, if_neg k4, if_neg k4]
theorem trm_eq {M M' : Mm} {N t : Nat} (h : WTm M N) (e : ∀ t : Nat, t < N → M' 73 t = M 73 t ∧ M' 74 t = M 74 t ∧ M' 75 t = M 75 t) (ht : t < N) : trm M' t = trm M t := tmT_eq h e _ _ ht
theorem trm_3 {M : Mm} {N t a : Nat} (h : WTm M N) (ht : t < N) (k : M 73 t = 3) (ha : M 74 t = (a : Int)) : trm M t = tL (trm M a) := by
  have := (h t ht).2.1 (by omega)
  unfold trm
  rw [tmT, if_neg (by omega), if_neg (by omega), if_neg (by omega), if_pos k, ha, Int.toNat_natCast, tmT_st h t (a + 1) a (by omega) (by omega) (by omega)]
theorem trm_4 {M : Mm} {N t a b : Nat} (h : WTm M N) (ht : t < N) (k : M 73 t = 4) (ha : M 74 t = (a : Int)) (hb : M 75 t = (b : Int)) : trm M t = tF (trm M a) (trm M b) := by
  have := (h t ht).2.1 (by omega)
  have := (h t ht).2.2 k
  unfold trm
  rw [tmT, if_neg (by omega), if_neg (by omega), if_neg (by omega), if_neg (by omega), if_pos k, ha, hb, Int.toNat_natCast, Int.toNat_natCast, tmT_st h t (a + 1) a (by omega) (by omega) (by omega), tmT_st h t (b + 1) b (by omega) (by omega) (by omega)]
section TERM
theorem l235_head {M : Mm} {n u q : Nat} {ρ : Nat → Nat} {L : List Nat} {x1 : Int} {f : Nat} (h : Fr M n ρ) (hu : u < n) (hq : ρ u = q) (hs : sk M 82 (u :: L)) (hL : L.length ≤ 15000) : ∃ f', f ≤ f' ∧ l235 (f + 3) 9 M x1 ((u :: L).length : Int) 0 0 0 = l235 f' 88 M x1 ((u :: L).length : Int) (q : Int) (rtA M ρ q) (rtB M ρ q) := by
  have hn := h.1.2.1
  have hqn : q < n := by rw [← hq]; exact (h.2.2 u hu).1
  obtain ⟨q1, q2, q3, q4⟩ := h.1.2.2 q hqn
  have tq : Int.toNat (q : Int) = q := Int.toNat_natCast q
  have el : (((u :: L).length : Nat) : Int) = (L.length : Int) + 1 := by simp
  have g1 : 0 ≤ (q : Int) ∧ (q : Int) < 4000 := by omega
  have hd : l235 (f + 3) 9 M x1 ((u :: L).length : Int) 0 0 0 = if M 76 q = 3 then (l235 (f + 2) 46 M x1 ((u :: L).length : Int) (q : Int) 0 0) else (if ¬ M 76 q = 4 then (l235 (f + 2) 62 M x1 ((u :: L).length : Int) (q : Int) (-1) 0) else (l235 (f + 2) 46 M x1 ((u :: L).length : Int) (q : Int) 0 0)) := by
    rw [l235, el, if_neg (by omega), show (L.length : Int) + 1 - 1 = (L.length : Int) by omega, if_pos (by omega), Int.toNat_natCast, hs.1, Fr_217 h hu, bs_, hq, if_pos g1, tq]
  rw [hd]
  unfold rtA rtB
  by_cases k3 : M 76 q = 3
  · have p1 := q2 (by omega)
    rw [if_pos k3, if_pos (Or.inl k3), if_neg (show ¬ M 76 q = 4 by omega)]
    refine ⟨f, Nat.le_refl _, ?_⟩
    rw [l235, if_pos g1, tq, show M 77 q = (((M 77 q).toNat : Nat) : Int) by omega, Fr_217 h (by omega), bs_, l235, if_pos g1, tq, if_pos (show ¬ M 76 q = 4 by omega), Int.toNat_natCast]
  · rw [if_neg k3]
    by_cases k4 : M 76 q = 4
    · have p1 := q2 (by omega)
      have p2 := q3 k4
      rw [if_neg (fun z => z k4), if_pos (Or.inr k4), if_pos k4]
      refine ⟨f, Nat.le_refl _, ?_⟩
      rw [l235, if_pos g1, tq, show M 77 q = (((M 77 q).toNat : Nat) : Int) by omega, Fr_217 h (by omega), bs_, l235, if_pos g1, tq, if_neg (fun z => z k4), show M 78 q = (((M 78 q).toNat : Nat) : Int) by omega, Fr_217 h (by omega), bs_, Int.toNat_natCast, Int.toNat_natCast]
    · rw [if_pos k4, if_neg (show ¬ (M 76 q = 3 ∨ M 76 q = 4) by omega), if_neg k4]
      refine ⟨f + 1, by omega, ?_⟩
      rw [l235, if_pos g1, tq, if_pos k4]
variable {M : Mm} {q len : Nat} {x1 A B : Int} {f : Nat}
theorem l235_pop (hq : q < 4000) (hl : len ≤ 15900) (h : M 81 q ≠ -1) : l235 (f + 2) 88 M x1 ((len + 1 : Nat) : Int) (q : Int) A B = l235 f 9 M x1 (len : Int) 0 0 0 := by
  rw [l235, if_pos (by omega), Int.toNat_natCast, if_neg h, if_pos (by omega), l235, show ((len + 1 : Nat) : Int) + -1 = (len : Int) by omega]
theorem l235_pA {a : Nat} (hq : q < 4000) (hl : len ≤ 15900) (h : M 81 q = -1) (hA : A = (a : Int)) (ha : a < 4000) (h2 : M 81 a = -1) : l235 (f + 2) 88 M x1 (len : Int) (q : Int) A B = l235 f 9 (up M 82 len (a : Int)) x1 ((len + 1 : Nat) : Int) 0 0 0 := by
  rw [l235, if_pos (by omega), Int.toNat_natCast, if_pos h, hA, if_neg (by omega), if_pos (by omega), Int.toNat_natCast, if_neg (fun z => z h2), if_pos (by omega), if_pos (by omega), l235, show (len : Int) + 1 = ((len + 1 : Nat) : Int) by omega, Int.toNat_natCast]
theorem l235_nA (hq : q < 4000) (h : M 81 q = -1) (hA : A = -1 ∨ ∃ a : Nat, A = (a : Int) ∧ a < 4000 ∧ M 81 a ≠ -1) : l235 (f + 1) 88 M x1 (len : Int) (q : Int) A B = l235 f 135 M x1 (len : Int) (q : Int) A B := by
  rw [l235, if_pos (by omega), Int.toNat_natCast, if_pos h]
  rcases hA with hA | ⟨a, hA, h1, h2⟩
  · rw [if_pos hA]
  · rw [hA, if_neg (by omega), if_pos (by omega), Int.toNat_natCast, if_pos h2]
theorem l235_pB {b : Nat} (hl : len ≤ 15900) (hA : B = (b : Int)) (ha : b < 4000) (h2 : M 81 b = -1) : l235 (f + 2) 135 M x1 (len : Int) (q : Int) A B = l235 f 9 (up M 82 len (b : Int)) x1 ((len + 1 : Nat) : Int) 0 0 0 := by
  rw [l235, hA, if_neg (by omega), if_pos (by omega), Int.toNat_natCast, if_neg (fun z => z h2), if_pos (by omega), if_pos (by omega), l235, show (len : Int) + 1 = ((len + 1 : Nat) : Int) by omega, Int.toNat_natCast]
theorem l235_nB (hA : B = -1 ∨ ∃ b : Nat, B = (b : Int) ∧ b < 4000 ∧ M 81 b ≠ -1) : l235 (f + 1) 135 M x1 (len : Int) (q : Int) A B = l235 f 166 M x1 (len : Int) (q : Int) A B := by
  rw [l235]
  rcases hA with hA | ⟨a, hA, h1, h2⟩
  · rw [if_pos hA]
  · rw [hA, if_neg (by omega), if_pos (by omega), Int.toNat_natCast, if_pos h2]
/-- a new term -/
def nt (M : Mm) (t q : Nat) (a b : Int) : Mm := up (up (up (up (up M 73 t (M 76 q)) 74 t a) 75 t b) 81 q (t : Int)) 53 24 ((t : Int) + 1)
theorem l235_mk {t : Nat} {a b : Int} (hq : q < 4000) (hl : len ≤ 15900) (ht : M 53 24 = (t : Int)) (ht2 : t < 200000) (ha : (A = -1 ∧ ((M 76 q ≠ 2 ∧ a = 0) ∨ (M 76 q = 2 ∧ f230 (up M 73 t (M 76 q)) (q : Int) = some a))) ∨ ∃ x : Nat, A = (x : Int) ∧ x < 4000 ∧ a = M 81 x) (hb : (B = -1 ∧ b = 0) ∨ ∃ x : Nat, B = (x : Int) ∧ x < 4000 ∧ b = M 81 x) : l235 (f + 4) 166 M x1 ((len + 1 : Nat) : Int) (q : Int) A B = l235 f 9 (nt M t q a b) x1 (len : Int) 0 0 0 := by
  have tq : Int.toNat (q : Int) = q := Int.toNat_natCast q
  have tt : Int.toNat (t : Int) = t := Int.toNat_natCast t
  have s1 : l235 (f + 4) 166 M x1 ((len + 1 : Nat) : Int) (q : Int) A B = l235 (f + 3) 225 (up (up M 73 t (M 76 q)) 74 t a) x1 ((len + 1 : Nat) : Int) (q : Int) A B := by
    rw [l235, if_pos (by omega), ht, if_pos (by omega), tq, tt]
    rcases ha with ⟨h1, ⟨h2, h3⟩ | ⟨h2, h3⟩⟩ | ⟨x, h1, h2, h3⟩
    · rw [if_pos h1, if_pos h2, h3]
    · rw [if_pos h1, if_neg (fun z => z h2), h3, bs_]
    · rw [h1, if_neg (by omega), if_pos (by omega), Int.toNat_natCast, h3]
  have e24 : (up (up M 73 t (M 76 q)) 74 t a) 53 24 = (t : Int) := by rw [up_cell (by decide), up_cell (by decide)]; exact ht
  have s2 : l235 (f + 3) 225 (up (up M 73 t (M 76 q)) 74 t a) x1 ((len + 1 : Nat) : Int) (q : Int) A B = l235 (f + 2) 251 (up (up (up M 73 t (M 76 q)) 74 t a) 75 t b) x1 ((len + 1 : Nat) : Int) (q : Int) A B := by
    rw [l235]
    rcases hb with ⟨h1, h2⟩ | ⟨x, h1, h2, h3⟩
    · rw [if_pos h1, e24, if_pos (by omega), tt, h2]
    · rw [h1, if_neg (by omega), if_pos (by omega), e24, if_pos (by omega), tt, Int.toNat_natCast, up_cell (show 81 ≠ 74 by decide), up_cell (show 81 ≠ 73 by decide), h3]
  have e24b : (up (up (up M 73 t (M 76 q)) 74 t a) 75 t b) 53 24 = (t : Int) := by rw [up_cell (by decide)]; exact e24
  rw [s1, s2, l235, if_pos (by omega), e24b, if_pos (by omega), if_pos (by omega), tq, l235, show ((len + 1 : Nat) : Int) + -1 = (len : Int) by omega]
  rfl
end TERM
