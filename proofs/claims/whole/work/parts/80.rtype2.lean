/-! Numbering a type, the reference's way: the loop. -/
/-- frames -/
def Rq (M M' : Mm) : Prop := (∀ a, a ≠ 53 → a ≠ 54 → a ≠ 55 → a ≠ 56 → a ≠ 81 → a ≠ 82 → M' a = M a) ∧ (∀ j, j ≠ 1 → M' 53 j = M 53 j) ∧ (∀ t : Nat, (t < 10 ∨ (t : Int) < M 53 1) → M' 54 t = M 54 t ∧ M' 55 t = M 55 t ∧ M' 56 t = M 56 t) ∧ M 53 1 ≤ M' 53 1
theorem Rq_trans {M M1 M2 : Mm} (a : Rq M M1) (b : Rq M1 M2) : Rq M M2 := ⟨fun c h1 h2 h3 h4 h5 h6 => (b.1 c h1 h2 h3 h4 h5 h6).trans (a.1 c h1 h2 h3 h4 h5 h6), fun j hj => (b.2.1 j hj).trans (a.2.1 j hj), fun t ht => by have q := a.2.2.1 t ht; have q2 := b.2.2.1 t (by have := a.2.2.2; omega); exact ⟨q2.1.trans q.1, q2.2.1.trans q.2.1, q2.2.2.trans q.2.2⟩, Int.le_trans a.2.2.2 b.2.2.2⟩
theorem Rq_n {M M' : Mm} (h : Rn M M') : Rq M M' := ⟨fun a h1 h2 h3 h4 _ _ => h.1 a h1 h2 h3 h4, h.2.1, h.2.2⟩
theorem Rq_refl (M : Mm) : Rq M M := ⟨fun _ _ _ _ _ _ _ => rfl, fun _ _ => rfl, fun _ _ => ⟨rfl, rfl, rfl⟩, Int.le_refl _⟩
def rtA (M : Mm) (ρ : Nat → Nat) (q : Nat) : Int := if M 76 q = 3 ∨ M 76 q = 4 then (ρ (M 77 q).toNat : Int) else -1
def rtB (M : Mm) (ρ : Nat → Nat) (q : Nat) : Int := if M 76 q = 4 then (ρ (M 78 q).toNat : Int) else -1
theorem l233_head {M : Mm} {n u q : Nat} {ρ : Nat → Nat} {L : List Nat} {x1 : Int} {f : Nat} (h : Fr M n ρ) (hu : u < n) (hq : ρ u = q) (hs : sk M 82 (u :: L)) (hL : L.length ≤ 15000) : ∃ f', f ≤ f' ∧ l233 (f + 3) 32 M x1 ((u :: L).length : Int) 0 0 0 0 = l233 f' 111 M x1 ((u :: L).length : Int) (q : Int) (rtA M ρ q) (rtB M ρ q) 0 := by
  have hn := h.1.2.1
  have hqn : q < n := by rw [← hq]; exact (h.2.2 u hu).1
  obtain ⟨q1, q2, q3, q4⟩ := h.1.2.2 q hqn
  have tq : Int.toNat (q : Int) = q := Int.toNat_natCast q
  have el : (((u :: L).length : Nat) : Int) = (L.length : Int) + 1 := by simp
  have g1 : 0 ≤ (q : Int) ∧ (q : Int) < 4000 := by omega
  have hd : l233 (f + 3) 32 M x1 ((u :: L).length : Int) 0 0 0 0 = if M 76 q = 3 then (l233 (f + 2) 69 M x1 ((u :: L).length : Int) (q : Int) 0 0 0) else (if ¬ M 76 q = 4 then (l233 (f + 2) 85 M x1 ((u :: L).length : Int) (q : Int) (-1) 0 0) else (l233 (f + 2) 69 M x1 ((u :: L).length : Int) (q : Int) 0 0 0)) := by
    rw [l233, el, if_neg (by omega), show (L.length : Int) + 1 - 1 = (L.length : Int) by omega, if_pos (by omega), Int.toNat_natCast, hs.1, Fr_217 h hu, bs_, hq, if_pos g1, tq]
  rw [hd]
  unfold rtA rtB
  by_cases k3 : M 76 q = 3
  · have p1 := q2 (by omega)
    rw [if_pos k3, if_pos (Or.inl k3), if_neg (show ¬ M 76 q = 4 by omega)]
    refine ⟨f, Nat.le_refl _, ?_⟩
    rw [l233, if_pos g1, tq, show M 77 q = (((M 77 q).toNat : Nat) : Int) by omega, Fr_217 h (by omega), bs_, l233, if_pos g1, tq, if_pos (show ¬ M 76 q = 4 by omega), Int.toNat_natCast]
  · rw [if_neg k3]
    by_cases k4 : M 76 q = 4
    · have p1 := q2 (by omega)
      have p2 := q3 k4
      rw [if_neg (fun z => z k4), if_pos (Or.inr k4), if_pos k4]
      refine ⟨f, Nat.le_refl _, ?_⟩
      rw [l233, if_pos g1, tq, show M 77 q = (((M 77 q).toNat : Nat) : Int) by omega, Fr_217 h (by omega), bs_, l233, if_pos g1, tq, if_neg (fun z => z k4), show M 78 q = (((M 78 q).toNat : Nat) : Int) by omega, Fr_217 h (by omega), bs_, Int.toNat_natCast, Int.toNat_natCast]
    · rw [if_pos k4, if_neg (show ¬ (M 76 q = 3 ∨ M 76 q = 4) by omega), if_neg k4]
      refine ⟨f + 1, by omega, ?_⟩
      rw [l233, if_pos g1, tq, if_pos k4]
section RTYPE
variable {M : Mm} {q len : Nat} {x1 A B : Int} {f : Nat}
theorem l233_pop (hq : q < 4000) (hl : len ≤ 15900) (h : M 81 q ≠ -1) : l233 (f + 2) 111 M x1 ((len + 1 : Nat) : Int) (q : Int) A B 0 = l233 f 32 M x1 (len : Int) 0 0 0 0 := by
  rw [l233, if_pos (by omega), Int.toNat_natCast, if_neg h, if_pos (by omega), l233, show ((len + 1 : Nat) : Int) + -1 = (len : Int) by omega]
theorem l233_pA {a : Nat} (hq : q < 4000) (hl : len ≤ 15900) (h : M 81 q = -1) (hA : A = (a : Int)) (ha : a < 4000) (h2 : M 81 a = -1) : l233 (f + 2) 111 M x1 (len : Int) (q : Int) A B 0 = l233 f 32 (up M 82 len (a : Int)) x1 ((len + 1 : Nat) : Int) 0 0 0 0 := by
  rw [l233, if_pos (by omega), Int.toNat_natCast, if_pos h, hA, if_neg (by omega), if_pos (by omega), Int.toNat_natCast, if_neg (fun z => z h2), if_pos (by omega), if_pos (by omega), l233, show (len : Int) + 1 = ((len + 1 : Nat) : Int) by omega, Int.toNat_natCast]
theorem l233_nA (hq : q < 4000) (h : M 81 q = -1) (hA : A = -1 ∨ ∃ a : Nat, A = (a : Int) ∧ a < 4000 ∧ M 81 a ≠ -1) : l233 (f + 1) 111 M x1 (len : Int) (q : Int) A B 0 = l233 f 158 M x1 (len : Int) (q : Int) A B 0 := by
  rw [l233, if_pos (by omega), Int.toNat_natCast, if_pos h]
  rcases hA with hA | ⟨a, hA, h1, h2⟩
  · rw [if_pos hA]
  · rw [hA, if_neg (by omega), if_pos (by omega), Int.toNat_natCast, if_pos h2]
theorem l233_pB {b : Nat} (hl : len ≤ 15900) (hA : B = (b : Int)) (ha : b < 4000) (h2 : M 81 b = -1) : l233 (f + 2) 158 M x1 (len : Int) (q : Int) A B 0 = l233 f 32 (up M 82 len (b : Int)) x1 ((len + 1 : Nat) : Int) 0 0 0 0 := by
  rw [l233, hA, if_neg (by omega), if_pos (by omega), Int.toNat_natCast, if_neg (fun z => z h2), if_pos (by omega), if_pos (by omega), l233, show (len : Int) + 1 = ((len + 1 : Nat) : Int) by omega, Int.toNat_natCast]
theorem l233_nB (hA : B = -1 ∨ ∃ b : Nat, B = (b : Int) ∧ b < 4000 ∧ M 81 b ≠ -1) : l233 (f + 1) 158 M x1 (len : Int) (q : Int) A B 0 = l233 f 189 M x1 (len : Int) (q : Int) A B 0 := by
  rw [l233]
  rcases hA with hA | ⟨a, hA, h1, h2⟩
  · rw [if_pos hA]
  · rw [hA, if_neg (by omega), if_pos (by omega), Int.toNat_natCast, if_pos h2]
/-- noted -/
theorem l233_set {t : Nat} (hq : q < 4000) (hl : len ≤ 15900) : l233 (f + 2) 259 M x1 ((len + 1 : Nat) : Int) (q : Int) A B (t : Int) = l233 f 32 (up M 81 q (t : Int)) x1 (len : Int) 0 0 0 0 := by
  rw [l233, if_pos (show ¬ (t : Int) = -1 by omega), if_pos (by omega), if_pos (by omega), Int.toNat_natCast, l233, show ((len + 1 : Nat) : Int) + -1 = (len : Int) by omega]
theorem l233_leaf {t : Nat} (hq : q < 4000) (hl : len ≤ 15900) (hA : A = -1) (ht : (M 76 q ≠ 2 ∧ M 76 q = (t : Int)) ∨ (M 76 q = 2 ∧ ∃ j : Int, f230 M (q : Int) = some j ∧ 2 + j = (t : Int) ∧ j < 1000)) : l233 (f + 4) 189 M x1 ((len + 1 : Nat) : Int) (q : Int) A B 0 = l233 f 32 (up M 81 q (t : Int)) x1 (len : Int) 0 0 0 0 := by
  rw [l233, if_pos (by omega), Int.toNat_natCast]
  rcases ht with ⟨h1, h2⟩ | ⟨h1, j, h2, h3, h4⟩
  · rw [if_pos h1, h2, l233, if_pos hA]
    exact l233_set hq hl
  · rw [if_neg (fun z => z h1), h2, bs_, if_pos (by omega), h3, l233, if_pos hA]
    exact l233_set hq hl
theorem l233_list {a : Nat} (hq : q < 4000) (hA : A = (a : Int)) (ha : a < 4000) (hB : B = -1) (k : M 76 q = 3) : l233 (f + 2) 189 M x1 (len : Int) (q : Int) A B 0 = (f191 M (asR (-1)).1 (M 81 a) (asR (-1)).2).bind (fun z => l233 f 259 z.2 x1 (len : Int) (q : Int) A B z.1) := by
  rw [l233, if_pos (by omega), Int.toNat_natCast, if_pos (show ¬ M 76 q = 2 by omega), l233, hA, if_neg (by omega), if_pos (by omega), if_pos (by omega), hB, if_neg (fun z => z rfl), Int.toNat_natCast, Int.toNat_natCast, k]
  rfl
theorem l233_fun {a b : Nat} (hq : q < 4000) (hA : A = (a : Int)) (ha : a < 4000) (hB : B = (b : Int)) (hb : b < 4000) (hr : M 81 b ≠ -1) (k : M 76 q = 4) : l233 (f + 2) 189 M x1 (len : Int) (q : Int) A B 0 = (f191 M (asR (M 81 b)).1 (M 81 a) (asR (M 81 b)).2).bind (fun z => l233 f 259 z.2 x1 (len : Int) (q : Int) A B z.1) := by
  rw [l233, if_pos (by omega), Int.toNat_natCast, if_pos (show ¬ M 76 q = 2 by omega), l233, hA, if_neg (by omega), if_pos (by omega), if_pos (by omega), hB, if_pos (show ¬ (b : Int) = -1 by omega), if_pos (by omega), Int.toNat_natCast, Int.toNat_natCast, Int.toNat_natCast, k]
  unfold asR
  rw [if_neg hr]
end RTYPE
section BIG
variable {Mc Mr : Mm} {S : Nat → Nat → Prop} {n n' k : Nat} {cs : List (Nat × Nat)} {ρ ρ' : Nat → Nat} {T : Nat → Ty}
/-- how many have no number -/
def uN (M : Mm) (n' : Nat) : Nat := cn (fun y => decide (M 81 y = -1)) n'
def NQ (Mc Mr : Mm) (S : Nat → Nat → Prop) (n n' : Nat) (ρ ρ' : Nat → Nat) (T : Nat → Ty) (M : Mm) (B : Tab) : Prop := Rq Mr M ∧ RT M B ∧ WT B ∧ ∀ c u, Tt S n n' ρ ρ' c u → vOK (T c) → M 81 (ρ' u) = -1 ∨ ∃ t : Nat, M 81 (ρ' u) = (t : Int) ∧ ins (T c) B = some (t, B)
theorem NQ_fin {M : Mm} {B : Tab} (h : Fin2 Mc Mr S n n' cs ρ ρ') (q : NQ Mc Mr S n n' ρ ρ' T M B) : Fin2 Mc M S n n' cs ρ ρ' := Fin2_same h ⟨rfl, rfl, rfl⟩ ⟨q.1.1 76 (by decide) (by decide) (by decide) (by decide) (by decide) (by decide), q.1.1 77 (by decide) (by decide) (by decide) (by decide) (by decide) (by decide), q.1.1 78 (by decide) (by decide) (by decide) (by decide) (by decide) (by decide)⟩ h.1 (Fr_same (fun a h1 h2 => q.1.1 a (by omega) (by omega) (by omega) (by omega) (by omega) (by omega)) (q.1.2.1 28 (by decide)) h.2.1)
theorem NQ_nm {M : Mm} {B : Tab} (nm : Nm Mc Mr S n n' ρ ρ' k) (q : NQ Mc Mr S n n' ρ ρ' T M B) : Nm Mc M S n n' ρ ρ' k := by
  unfold Nm
  rw [q.1.2.1 50 (by decide), q.1.1 92 (by decide) (by decide) (by decide) (by decide) (by decide) (by decide)]
  exact nm
theorem NQ_82 {M : Mm} {B : Tab} {i : Nat} {v : Int} (q : NQ Mc Mr S n n' ρ ρ' T M B) : NQ Mc Mr S n n' ρ ρ' T (up M 82 i v) B := by
  obtain ⟨q1, q2, q3, q4⟩ := q
  refine ⟨Rq_trans q1 ⟨fun a _ _ _ _ _ h6 => up_cell h6, fun j _ => by rw [up_cell (by decide)], fun t _ => ⟨by rw [up_cell (by decide)], by rw [up_cell (by decide)], by rw [up_cell (by decide)]⟩, by rw [up_cell (by decide)]; exact Int.le_refl _⟩, RT_fr (by rw [up_cell (by decide)]) ⟨up_cell (by decide), up_cell (by decide), up_cell (by decide)⟩ q2, q3, fun c u t v => ?_⟩
  rw [up_cell (by decide)]
  exact q4 c u t v
theorem uN_up {M M' : Mm} {x : Nat} {v : Int} (hx : x < n') (h0 : M 81 x = -1) (hv : v ≠ -1) (h : ∀ y, M' 81 y = if y = x then v else M 81 y) : uN M' n' + 1 = uN M n' := by
  unfold uN
  refine cn_less (p := fun y => decide (M 81 y = -1)) (q := fun y => decide (M' 81 y = -1)) (u := x) (decide_eq_true h0) (decide_eq_false ?_) hx (fun y _ hy => ?_)
  · rw [h, if_pos rfl]; exact hv
  · rw [h, if_neg hy]
theorem uN_eq {M M' : Mm} (h : ∀ y, M' 81 y = M 81 y) : uN M' n' = uN M n' := cn_eq (fun y _ => by rw [h])
/-- the outcome -/
def Out (Mc Mr : Mm) (S : Nat → Nat → Prop) (n n' : Nat) (ρ ρ' : Nat → Nat) (T : Nat → Ty) (x1 : Int) (c u : Nat) (L : List Nat) (M : Mm) (B : Tab) (f : Nat) : Prop :=
  (ins (T c) B = none ∧ ∃ M', l233 f 32 M x1 ((u :: L).length : Int) 0 0 0 0 = some (-1, M') ∧ Rq Mr M') ∨
  ∃ (t : Nat) (C : Tab) (M' : Mm) (f' : Nat), ins (T c) B = some (t, C) ∧ l233 f 32 M x1 ((u :: L).length : Int) 0 0 0 0 = l233 f' 32 M' x1 (L.length : Int) 0 0 0 0 ∧ NQ Mc Mr S n n' ρ ρ' T M' C ∧ M' 81 (ρ' u) = (t : Int) ∧ sk M' 82 L ∧ uN M' n' < uN M n' ∧ f + 60 * uN M' n' ≤ f' + 60 * uN M n' ∧ (∀ y, M 81 y ≠ -1 → M' 81 y = M 81 y) ∧ ∀ d v, Tt S n n' ρ ρ' d v → hT (T c) < hT (T d) → M' 81 (ρ' v) = M 81 (ρ' v)
/-- it gets a number that is there already -/
theorem NQ_set {M : Mm} {B : Tab} {c u t : Nat} (h : Fin2 Mc Mr S n n' cs ρ ρ') (tg : TyG Mc n ρ T) (q : NQ Mc Mr S n n' ρ ρ' T M B) (tt : Tt S n n' ρ ρ' c u) (hi : ins (T c) B = some (t, B)) : NQ Mc Mr S n n' ρ ρ' T (up M 81 (ρ' u) (t : Int)) B := by
  obtain ⟨q1, q2, q3, q4⟩ := q
  refine ⟨Rq_trans q1 ⟨fun a _ _ _ _ h5 _ => up_cell h5, fun j _ => by rw [up_cell (by decide)], fun t _ => ⟨by rw [up_cell (by decide)], by rw [up_cell (by decide)], by rw [up_cell (by decide)]⟩, by rw [up_cell (by decide)]; exact Int.le_refl _⟩, RT_fr (by rw [up_cell (by decide)]) ⟨up_cell (by decide), up_cell (by decide), up_cell (by decide)⟩ q2, q3, fun d v td vd => ?_⟩
  by_cases e : ρ' v = ρ' u
  · rw [e, up_same]
    have := T_c h td tt e
    exact Or.inr ⟨t, rfl, by rw [tg.1 d c this]; exact hi⟩
  · rw [up_at e]
    exact q4 d v td vd
/-- a made type is numbered at once -/
theorem big_made {M : Mm} {B : Tab} {c u l f : Nat} {r x1 A Bb : Int} {L : List Nat} (h : Fin2 Mc Mr S n n' cs ρ ρ') (tg : TyG Mc n ρ T) (q : NQ Mc Mr S n n' ρ ρ' T M B) (tt : Tt S n n' ρ ρ' c u) (vc : vOK (T c)) (hl : l < B.1) (hr : r = -1 ∨ (0 ≤ r ∧ r < (B.1 : Int))) (hi : ins (T c) B = tadd B (l : Int) r) (hc : ∀ t C, tadd B (l : Int) r = some (t, C) → ins (T c) C = some (t, C)) (hs : sk M 82 (u :: L)) (hL : L.length ≤ 15000) (h0 : M 81 (ρ' u) = -1) (hf : 10 ≤ f) :
    ((f191 M (asR r).1 (l : Int) (asR r).2).bind (fun z => l233 f 259 z.2 x1 ((u :: L).length : Int) (ρ' u : Int) A Bb z.1) = (f191 M (asR r).1 (l : Int) (asR r).2).bind (fun z => l233 f 259 z.2 x1 ((L.length + 1 : Nat) : Int) (ρ' u : Int) A Bb z.1)) ∧
    ((ins (T c) B = none ∧ ∃ M', (f191 M (asR r).1 (l : Int) (asR r).2).bind (fun z => l233 f 259 z.2 x1 ((L.length + 1 : Nat) : Int) (ρ' u : Int) A Bb z.1) = some (-1, M') ∧ Rq Mr M') ∨
    ∃ (t : Nat) (C : Tab) (M' : Mm), ins (T c) B = some (t, C) ∧ (f191 M (asR r).1 (l : Int) (asR r).2).bind (fun z => l233 f 259 z.2 x1 ((L.length + 1 : Nat) : Int) (ρ' u : Int) A Bb z.1) = l233 (f - 2) 32 M' x1 (L.length : Int) 0 0 0 0 ∧ NQ Mc Mr S n n' ρ ρ' T M' C ∧ M' 81 (ρ' u) = (t : Int) ∧ sk M' 82 L ∧ uN M' n' + 1 = uN M n' ∧ (∀ y, M 81 y ≠ -1 → M' 81 y = M 81 y) ∧ ∀ d v, Tt S n n' ρ ρ' d v → hT (T c) < hT (T d) → M' 81 (ρ' v) = M 81 (ρ' v)) := by
  refine ⟨by simp, ?_⟩
  obtain ⟨q1, q2, q3, q4⟩ := q
  have w10 := q3.1
  have hn' := h.2.1.1.2.1
  have ql := (h.2.1.2.2 u (T_lt tt).2).1
  obtain ⟨v, M1, e1, e2, e3⟩ := f191_ok (l := (l : Int)) (r := r) q2 w10 (by omega)
  rw [e1, bs_]
  dsimp only
  rcases e3 with ⟨z1, z2, z3⟩ | ⟨t, C, z1, z2, z3⟩
  · refine Or.inl ⟨by rw [hi]; exact z2, M1, ?_, Rq_trans q1 (Rq_n e2)⟩
    obtain ⟨f, rfl⟩ : ∃ f', f = f' + 1 := ⟨f - 1, by omega⟩
    rw [l233, z1, if_neg (fun z => z rfl)]
  · obtain ⟨f, rfl⟩ : ∃ f', f = f' + 2 := ⟨f - 2, by omega⟩
    have hr' : r = -1 ∨ (r = (r.toNat : Int) ∧ r.toNat < B.1) := by omega
    obtain ⟨y1, y2, y3, y4, y5, y6⟩ := tadd_ok (r := r.toNat) q3 hl hr' z2
    have e81 : M1 81 = M 81 := e2.1 81 (by decide) (by decide) (by decide) (by decide)
    have e82 : M1 82 = M 82 := e2.1 82 (by decide) (by decide) (by decide) (by decide)
    have nq1 : NQ Mc Mr S n n' ρ ρ' T M1 C := by
      refine ⟨Rq_trans q1 (Rq_n e2), z3, y1, fun d v td vd => ?_⟩
      rw [e81]
      rcases q4 d v td vd with z | ⟨s, s1, s2⟩
      · exact Or.inl z
      · exact Or.inr ⟨s, s1, ins_ok.ins_ext (T d) vd q3 s2 y2⟩
    refine Or.inr ⟨t, C, up M1 81 (ρ' u) (t : Int), by rw [hi]; exact z2, ?_, NQ_set h tg nq1 tt (hc t C z2), up_same _ _ _ _, ?_, ?_, fun y hy => ?_, fun d v td hd => ?_⟩
    · rw [z1, l233_set (by omega) (by omega)]
      rfl
    · exact sk_eq (fun i _ => by rw [up_cell (by decide), e82]) hs.2
    · refine uN_up ql h0 (v := (t : Int)) (by omega) (fun y => ?_)
      by_cases e : y = ρ' u
      · rw [e, up_same, if_pos rfl]
      · rw [up_at e, e81, if_neg e]
    · rw [up_at (fun e => hy (by rw [e]; exact h0)), e81]
    · have : ρ' v ≠ ρ' u := fun e => by
        have := tg.1 d c (T_c h td tt e)
        rw [this] at hd
        omega
      rw [up_at this, e81]
end BIG
