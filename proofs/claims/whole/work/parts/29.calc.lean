/-! A CALCULUS OF RUNS: 'from here the run ends so', for all turns and depths from some on; the cells behind a picture M of them. -/
section EV
variable {L : Nat} {xs : Nat → Int32}
def ev (L : Nat) (xs : Nat → Int32) (D j pc : Nat) (lv : mvL) (st : List mvV) (h : mvH) (o : mvO) : Prop := ∃ n0, ∀ n, n0 ≤ n → ∀ d, D ≤ d → mvRun (pgP L xs) n d j pc lv st h = some o
theorem ev_up {D D' j pc : Nat} {lv : mvL} {st : List mvV} {h : mvH} {o : mvO} (hD : D ≤ D') (k : ev L xs D j pc lv st h o) : ev L xs D' j pc lv st h o := by
  obtain ⟨n0, k⟩ := k
  exact ⟨n0, fun n hn d hd => k n hn d (Nat.le_trans hD hd)⟩
/-- a step that leaves the cells alone -/
theorem ev_F {D j pc : Nat} {lv : mvL} {st : List mvV} {h : mvH} {o : mvO} {E : mvE} {q : Instr × Nat} {pc' pc1 : Nat} {lv' : mvL} {st' : List mvV} (hE : pgMm j = some E) (hq : pgDecT j pc = some q) (hF : mvF q.1 q.2 pc E.2.2.1 lv st = some (pc1, lv', st')) (hp : pc1 = pc') (k : ev L xs D j pc' lv' st' h o) : ev L xs D j pc lv st h o := by
  subst hp
  obtain ⟨n0, k⟩ := k
  refine ⟨n0 + 1, fun n hn d hd => ?_⟩
  obtain ⟨n, rfl⟩ : ∃ m, n = m + 1 := ⟨n - 1, by omega⟩
  have h1 : mvPm (pgP L xs) j = some E := hE
  have h2 := pgDecT_ok j E pc q hE hq
  rw [mvRun]
  simp only [h1, h2, hF]
  exact k n (by omega) d hd
/-- a step over the cells that makes none -/
theorem ev_G {D j pc : Nat} {lv : mvL} {st : List mvV} {h h' : mvH} {o : mvO} {E : mvE} {q : Instr × Nat} {pc' : Nat} {st' : List mvV} (hE : pgMm j = some E) (hq : pgDecT j pc = some q) (hF : mvF q.1 q.2 pc E.2.2.1 lv st = none) (hG : ∀ d, D ≤ d → mvG (pgP L xs) j d q.1 q.2 pc st h = some (pc', st', h', 0, 0)) (k : ev L xs D j pc' lv st' h' o) : ev L xs D j pc lv st h o := by
  obtain ⟨n0, k⟩ := k
  refine ⟨n0 + 1, fun n hn d hd => ?_⟩
  obtain ⟨n, rfl⟩ : ∃ m, n = m + 1 := ⟨n - 1, by omega⟩
  have h1 : mvPm (pgP L xs) j = some E := hE
  have h2 := pgDecT_ok j E pc q hE hq
  rw [mvRun]
  simp only [h1, h2, hF, hG d hd, mvAdd_0]
  exact k n (by omega) d hd
/-- an end -/
theorem ev_ret {D j pc : Nat} {lv : mvL} {st : List mvV} {h : mvH} {E : mvE} {q : Instr × Nat} {r : Option mvV} (hE : pgMm j = some E) (hq : pgDecT j pc = some q) (hF : mvF q.1 q.2 pc E.2.2.1 lv st = none) (hG : ∀ d, mvG (pgP L xs) j d q.1 q.2 pc st h = none) (hR : mvFin E q.1 q.2 st = some r) : ev L xs D j pc lv st h (.inl r, h, 0, 0) := by
  refine ⟨1, fun n hn d _ => ?_⟩
  obtain ⟨n, rfl⟩ : ∃ m, n = m + 1 := ⟨n - 1, by omega⟩
  have h1 : mvPm (pgP L xs) j = some E := hE
  have h2 := pgDecT_ok j E pc q hE hq
  rw [mvRun]
  simp only [h1, h2, hF, hG d, hR]
/-- a call that comes back -/
theorem ev_call {D j pc : Nat} {lv : mvL} {st : List mvV} {h : mvH} {E : mvE} {q : Instr × Nat} {j' : Nat} {as rest : List mvV} {v : Option mvV} {h1 h2 : mvH} {r : mvR} {c1 s1 c2 s2 : Nat} (hE : pgMm j = some E) (hq : pgDecT j pc = some q) (hF : mvF q.1 q.2 pc E.2.2.1 lv st = none) (hG : ∀ d, mvG (pgP L xs) j d q.1 q.2 pc st h = none) (hR : mvFin E q.1 q.2 st = none)
    (hI : mvInv (pgP L xs) j q.1 q.2 st h = some (j', as, rest)) (hO : mvOne as = true ∧ mvSum rest ≤ 8) (hb : pgBb j' = none) (k1 : ev L xs D j' 0 (mvArgs 0 as) [] h (.inl v, h1, c1, s1)) (k2 : ev L xs (D + 1) j (pc + 3) lv (v.toList ++ rest) h1 (r, h2, c2, s2)) : ev L xs (D + 1) j pc lv st h (r, h2, c1 + c2, s1 + s2) := by
  obtain ⟨n1, k1⟩ := k1
  obtain ⟨n2, k2⟩ := k2
  refine ⟨max n1 n2 + 1, fun n hn d hd => ?_⟩
  obtain ⟨n, rfl⟩ : ∃ m, n = m + 1 := ⟨n - 1, by omega⟩
  obtain ⟨d, rfl⟩ : ∃ m, d = m + 1 := ⟨d - 1, by omega⟩
  have e1 : mvPm (pgP L xs) j = some E := hE
  have e2 := pgDecT_ok j E pc q hE hq
  have e3 : mvPb (pgP L xs) j' = none := hb
  rw [mvRun]
  simp only [e1, e2, hF, hG (d + 1), hR, hI, if_pos hO, e3, k1 n (by omega) d (by omega), k2 n (by omega) (d + 1) (by omega)]
  rfl
end EV
/-! Ints as the ints of mathematics. -/
abbrev rg (z : Int) : Prop := -2147483648 ≤ z ∧ z < 2147483648
abbrev iz (z : Int) : Int32 := Int32.ofInt z
abbrev Mm : Type := Nat → Nat → Int
theorem iz_toInt {z : Int} (h : rg z) : (iz z).toInt = z := Int32.toInt_ofInt_of_le h.1 h.2
theorem iz_add (a b : Int) : iz a + iz b = iz (a + b) := (Int32.ofInt_add a b).symm
theorem iz_sub (a b : Int) : iz a - iz b = iz (a - b) := (Int32.ofInt_sub a b).symm
theorem iz_mul (a b : Int) : iz a * iz b = iz (a * b) := (Int32.ofInt_mul a b).symm
theorem iz_back (x : Int32) : iz x.toInt = x := Int32.ofInt_toInt x
theorem iz_rg (x : Int32) : rg x.toInt := ⟨Int32.le_toInt x, Int32.toInt_lt x⟩
theorem iz_nat {z : Int} (h : rg z) : (iz z).toNatClampNeg = z.toNat := by
  show ((iz z).toInt).toNat = z.toNat
  rw [iz_toInt h]
theorem iz_lt {a b : Int} (ha : rg a) (hb : rg b) : iz a < iz b ↔ a < b := by rw [Int32.lt_iff_toInt_lt, iz_toInt ha, iz_toInt hb]
theorem iz_le {a b : Int} (ha : rg a) (hb : rg b) : iz a ≤ iz b ↔ a ≤ b := by rw [Int32.le_iff_toInt_le, iz_toInt ha, iz_toInt hb]
theorem iz_eq {a b : Int} (ha : rg a) (hb : rg b) : iz a = iz b ↔ a = b := by
  constructor
  · intro h
    have h2 := congrArg Int32.toInt h
    rw [iz_toInt ha, iz_toInt hb] at h2
    exact h2
  · intro h
    rw [h]
theorem ifT {α : Type} {b : Bool} {x y : α} (h : b = true) : (if b = true then x else y) = x := if_pos h
theorem ifF {α : Type} {b : Bool} {x y : α} (h : b = false) : (if b = true then x else y) = y := if_neg (by rw [h]; exact Bool.false_ne_true)
theorem c2_eq_T {a b : Int} (ha : rg a) (hb : rg b) (h : a = b) : mvC2 .eq (iz a) (iz b) = true := decide_eq_true ((iz_eq ha hb).mpr h)
theorem c2_eq_F {a b : Int} (ha : rg a) (hb : rg b) (h : ¬ a = b) : mvC2 .eq (iz a) (iz b) = false := decide_eq_false (fun q => (h : ¬ (a = b)) ((iz_eq ha hb).mp q))
theorem c2_ne_T {a b : Int} (ha : rg a) (hb : rg b) (h : ¬ a = b) : mvC2 .ne (iz a) (iz b) = true := decide_eq_true ((not_congr (iz_eq ha hb)).mpr h)
theorem c2_ne_F {a b : Int} (ha : rg a) (hb : rg b) (h : a = b) : mvC2 .ne (iz a) (iz b) = false := decide_eq_false (fun q => (fun q => q h : ¬ (¬ a = b)) ((not_congr (iz_eq ha hb)).mp q))
theorem c2_lt_T {a b : Int} (ha : rg a) (hb : rg b) (h : a < b) : mvC2 .lt (iz a) (iz b) = true := decide_eq_true ((iz_lt ha hb).mpr h)
theorem c2_lt_F {a b : Int} (ha : rg a) (hb : rg b) (h : b ≤ a) : mvC2 .lt (iz a) (iz b) = false := decide_eq_false (fun q => (by omega : ¬ (a < b)) ((iz_lt ha hb).mp q))
theorem c2_ge_T {a b : Int} (ha : rg a) (hb : rg b) (h : b ≤ a) : mvC2 .ge (iz a) (iz b) = true := decide_eq_true ((iz_le hb ha).mpr h)
theorem c2_ge_F {a b : Int} (ha : rg a) (hb : rg b) (h : a < b) : mvC2 .ge (iz a) (iz b) = false := decide_eq_false (fun q => (by omega : ¬ (b ≤ a)) ((iz_le hb ha).mp q))
theorem c2_gt_T {a b : Int} (ha : rg a) (hb : rg b) (h : b < a) : mvC2 .gt (iz a) (iz b) = true := decide_eq_true ((iz_lt hb ha).mpr h)
theorem c2_gt_F {a b : Int} (ha : rg a) (hb : rg b) (h : a ≤ b) : mvC2 .gt (iz a) (iz b) = false := decide_eq_false (fun q => (by omega : ¬ (b < a)) ((iz_lt hb ha).mp q))
theorem c2_le_T {a b : Int} (ha : rg a) (hb : rg b) (h : a ≤ b) : mvC2 .le (iz a) (iz b) = true := decide_eq_true ((iz_le ha hb).mpr h)
theorem c2_le_F {a b : Int} (ha : rg a) (hb : rg b) (h : b < a) : mvC2 .le (iz a) (iz b) = false := decide_eq_false (fun q => (by omega : ¬ (a ≤ b)) ((iz_le ha hb).mp q))
theorem c1_eq_T {a : Int} (ha : rg a) (h : a = 0) : mvC1 .eq (iz a) = true := c2_eq_T (b := 0) ha (by omega) h
theorem c1_eq_F {a : Int} (ha : rg a) (h : ¬ a = 0) : mvC1 .eq (iz a) = false := c2_eq_F (b := 0) ha (by omega) h
theorem c1_ne_T {a : Int} (ha : rg a) (h : ¬ a = 0) : mvC1 .ne (iz a) = true := c2_ne_T (b := 0) ha (by omega) h
theorem c1_ne_F {a : Int} (ha : rg a) (h : a = 0) : mvC1 .ne (iz a) = false := c2_ne_F (b := 0) ha (by omega) h
theorem c1_lt_T {a : Int} (ha : rg a) (h : a < 0) : mvC1 .lt (iz a) = true := c2_lt_T (b := 0) ha (by omega) h
theorem c1_lt_F {a : Int} (ha : rg a) (h : 0 ≤ a) : mvC1 .lt (iz a) = false := c2_lt_F (b := 0) ha (by omega) h
theorem c1_ge_T {a : Int} (ha : rg a) (h : 0 ≤ a) : mvC1 .ge (iz a) = true := c2_ge_T (b := 0) ha (by omega) h
theorem c1_ge_F {a : Int} (ha : rg a) (h : a < 0) : mvC1 .ge (iz a) = false := c2_ge_F (b := 0) ha (by omega) h
theorem c1_gt_T {a : Int} (ha : rg a) (h : 0 < a) : mvC1 .gt (iz a) = true := c2_gt_T (b := 0) ha (by omega) h
theorem c1_gt_F {a : Int} (ha : rg a) (h : a ≤ 0) : mvC1 .gt (iz a) = false := c2_gt_F (b := 0) ha (by omega) h
theorem c1_le_T {a : Int} (ha : rg a) (h : a ≤ 0) : mvC1 .le (iz a) = true := c2_le_T (b := 0) ha (by omega) h
theorem c1_le_F {a : Int} (ha : rg a) (h : 0 < a) : mvC1 .le (iz a) = false := c2_le_F (b := 0) ha (by omega) h
/-! The picture of the cells. -/
def rpV (v : amV) (x : Int) : mvV := match v with
  | .inl _ => .inl (iz x)
  | .inr w => .inr w
def rpC (c : amC) (m : Nat → Int) (d : mvC) : Prop := match c, d with
  | .inl (t, n, .inl _), .inl (t', n', .inl f) => t' = t ∧ n' = n ∧ ∀ i, i < n → mvLk f i = iz (m i)
  | .inl (t, n, .inr _), .inl (t', n', .inr f) => t' = t ∧ n' = n ∧ ∀ i, i < n → mvLl f i = (iz (m i)).toInt64
  | .inr (ci, fs), .inr (ci', fs') => ci' = ci ∧ fs'.length = fs.length ∧ ∀ k v, fs[k]? = some v → fs'[k]? = some (rpV v (m k))
  | _, _ => False
def rp (h : mvH) (M : Mm) : Prop := (∀ a k, rg (M a k)) ∧ ∀ a c, pgH0[a]? = some c → ∃ d, h.2[a]? = some d ∧ rpC c (M a) d
def up (M : Mm) (a k : Nat) (x : Int) : Mm := fun a' k' => if a' = a ∧ k' = k then x else M a' k'
theorem up_same (M : Mm) (a k : Nat) (x : Int) : up M a k x a k = x := if_pos ⟨rfl, rfl⟩
theorem up_cell {M : Mm} {a k : Nat} {x : Int} {a' : Nat} (h : a' ≠ a) : up M a k x a' = M a' := by
  funext k'
  exact if_neg (fun q => h q.1)
theorem up_at {M : Mm} {a k : Nat} {x : Int} {k' : Nat} (h : k' ≠ k) : up M a k x a k' = M a k' := if_neg (fun q => h q.2)
theorem rp_obj {h : mvH} {M : Mm} (R : rp h M) {a ci : Nat} {fs : List amV} (ha : pgH0[a]? = some (.inr (ci, fs))) : ∃ fs', h.2[a]? = some (.inr (ci, fs')) ∧ fs'.length = fs.length ∧ ∀ k v, fs[k]? = some v → fs'[k]? = some (rpV v (M a k)) := by
  obtain ⟨d, h1, h2⟩ := R.2 a _ ha
  match d, h2 with
  | .inr (ci', fs'), h2 =>
    obtain ⟨rfl, h3, h4⟩ := h2
    exact ⟨fs', h1, h3, h4⟩
theorem rp_arr {h : mvH} {M : Mm} (R : rp h M) {a t n : Nat} {w : List (Nat × amI)} (ha : pgH0[a]? = some (.inl (t, n, .inl w))) : ∃ f, h.2[a]? = some (.inl (t, n, .inl f)) ∧ ∀ i, i < n → mvLk f i = iz (M a i) := by
  obtain ⟨d, h1, h2⟩ := R.2 a _ ha
  match d, h2 with
  | .inl (t', n', .inl f), h2 =>
    obtain ⟨rfl, rfl, h3⟩ := h2
    exact ⟨f, h1, h3⟩
theorem rp_lng {h : mvH} {M : Mm} (R : rp h M) {a t n : Nat} {w : List (Nat × Int64)} (ha : pgH0[a]? = some (.inl (t, n, .inr w))) : ∃ f, h.2[a]? = some (.inl (t, n, .inr f)) ∧ ∀ i, i < n → mvLl f i = (iz (M a i)).toInt64 := by
  obtain ⟨d, h1, h2⟩ := R.2 a _ ha
  match d, h2 with
  | .inl (t', n', .inr f), h2 =>
    obtain ⟨rfl, rfl, h3⟩ := h2
    exact ⟨f, h1, h3⟩
theorem rp_set {h : mvH} {M : Mm} (R : rp h M) {a k : Nat} {x : Int} (hx : rg x) {c : amC} {d d' : mvC} (ha : pgH0[a]? = some c) (hd : h.2[a]? = some d) (hc : rpC c (up M a k x a) d') : rp (h.1, h.2.set a d') (up M a k x) := by
  refine ⟨fun a' k' => ?_, fun a' c' ha' => ?_⟩
  · unfold up
    split
    · exact hx
    · exact R.1 a' k'
  by_cases e : a' = a
  · subst e
    have e2 := ha.symm.trans ha'
    cases e2
    refine ⟨d', ?_, hc⟩
    have hl : a' < h.2.length := (List.getElem?_eq_some_iff.mp hd).1
    show (h.2.set a' d')[a']? = some d'
    rw [List.getElem?_set_self hl]
  · obtain ⟨d2, h1, h2⟩ := R.2 a' c' ha'
    refine ⟨d2, ?_, ?_⟩
    · show (h.2.set a d')[a']? = some d2
      rw [List.getElem?_set_ne (fun q => e q.symm), h1]
    · rw [up_cell e]
      exact h2
theorem mvIn_iz {z : Int} {n : Nat} (h : 0 ≤ z ∧ z < (n : Int)) (hn : n < 2147483648) : mvIn (iz z) n = true := by
  have r1 : rg z := ⟨by omega, by omega⟩
  refine decide_eq_true (fun q => ?_)
  rcases q with q | q
  · have := (iz_lt (b := 0) r1 (by omega)).mp q
    omega
  · rw [iz_nat r1] at q
    omega
section EV2
variable {L : Nat} {xs : Nat → Int32} {D j pc : Nat} {lv : mvL} {r : List mvV} {h : mvH} {o : mvO} {E : mvE} {M : Mm}
/-- an int field -/
theorem ev_gfi {idx ci k kd a : Nat} {fs : List amV} {y : amI} (hE : pgMm j = some E) (hq : pgDecT j pc = some (.getfield idx, 3)) (hf : pgFf j idx = some (ci, k, kd)) (ha : pgH0[a]? = some (.inr (ci, fs))) (hk : fs[k]? = some (.inl y)) (R : rp h M) (K : ev L xs D j (pc + 3) lv (.inl (iz (M a k)) :: r) h o) : ev L xs D j pc lv (.inr (.inr (.inl (some a))) :: r) h o := by
  obtain ⟨fs', h1, h2, h3⟩ := rp_obj R ha
  have h4 : fs'[k]? = some (.inl (iz (M a k))) := h3 k _ hk
  refine ev_G hE hq rfl (fun d _ => ?_) K
  have e1 : mvPf (pgP L xs) j idx = some (ci, k, kd) := hf
  simp only [mvG, mvG1, e1, h1, h4]
  rfl
/-- a field that holds a cell -/
theorem ev_gfr {idx ci k kd a : Nat} {fs : List amV} {w : Int64 ⊕ (Option Nat ⊕ Nat)} (hE : pgMm j = some E) (hq : pgDecT j pc = some (.getfield idx, 3)) (hf : pgFf j idx = some (ci, k, kd)) (ha : pgH0[a]? = some (.inr (ci, fs))) (hk : fs[k]? = some (.inr w)) (R : rp h M) (K : ev L xs D j (pc + 3) lv (.inr w :: r) h o) : ev L xs D j pc lv (.inr (.inr (.inl (some a))) :: r) h o := by
  obtain ⟨fs', h1, h2, h3⟩ := rp_obj R ha
  have h4 : fs'[k]? = some (.inr w) := h3 k _ hk
  refine ev_G hE hq rfl (fun d _ => ?_) K
  have e1 : mvPf (pgP L xs) j idx = some (ci, k, kd) := hf
  simp only [mvG, mvG1, e1, h1, h4]
  rfl
/-- writing an int field -/
theorem ev_pfi {idx ci k kd a : Nat} {fs : List amV} {y : amI} {x : Int} (hE : pgMm j = some E) (hq : pgDecT j pc = some (.putfield idx, 3)) (hf : pgFf j idx = some (ci, k, kd)) (ha : pgH0[a]? = some (.inr (ci, fs))) (hk : fs[k]? = some (.inl y)) (R : rp h M) (hg : rg x) (hx : mvFit kd (.inl (iz x)) = true) (K : ∀ h', rp h' (up M a k x) → ev L xs D j (pc + 3) lv r h' o) : ev L xs D j pc lv (.inl (iz x) :: .inr (.inr (.inl (some a))) :: r) h o := by
  obtain ⟨fs', h1, h2, h3⟩ := rp_obj R ha
  have hkl : k < fs'.length := by
    rw [h2]
    exact (List.getElem?_eq_some_iff.mp hk).1
  refine ev_G (h' := (h.1, h.2.set a (.inr (ci, fs'.set k (.inl (iz x)))))) hE hq rfl (fun d _ => ?_) (K _ ?_)
  · have e1 : mvPf (pgP L xs) j idx = some (ci, k, kd) := hf
    have e3 : mvG1 (pgP L xs) j (.putfield idx) (.inl (iz x) :: .inr (.inr (.inl (some a))) :: r) h = some (r, (h.1, h.2.set a (.inr (ci, fs'.set k (.inl (iz x)))))) := by
      simp only [mvG1, e1, h1]
      exact if_pos ⟨trivial, hkl, hx⟩
    simp only [mvG, e3]
    rfl
  · refine rp_set R hg ha h1 ⟨rfl, by rw [List.length_set]; exact h2, fun k' v hv => ?_⟩
    by_cases e : k' = k
    · subst e
      have e2 := hk.symm.trans hv
      cases e2
      rw [List.getElem?_set_self hkl]
      show some (Sum.inl (iz x)) = some (Sum.inl (iz (up M a k' x a k')))
      rw [up_same]
    · rw [List.getElem?_set_ne (fun q => e q.symm), h3 k' v hv, up_at e]
theorem fit_b {x : Int} (h : x = 0 ∨ x = 1) : mvFit 1 (.inl (iz x)) = true := by
  rcases h with rfl | rfl <;> rfl
/-- an element of an array of ints, or of truth values -/
theorem ev_ial {a n : Nat} {w : List (Nat × amI)} {x : Int} (hE : pgMm j = some E) (hq : pgDecT j pc = some (.iaload, 1)) (ha : pgH0[a]? = some (.inl (0, n, .inl w))) (hn : n < 2147483648) (R : rp h M) (hx : 0 ≤ x ∧ x < (n : Int)) (K : ev L xs D j (pc + 1) lv (.inl (iz (M a x.toNat)) :: r) h o) : ev L xs D j pc lv (.inl (iz x) :: .inr (.inr (.inl (some a))) :: r) h o := by
  obtain ⟨f, h1, h2⟩ := rp_arr R ha
  have h3 : x.toNat < n := by omega
  refine ev_G hE hq rfl (fun d _ => ?_) K
  simp only [mvG, mvG1, mvG2, h1, mvIn_iz hx hn, if_true, iz_nat (show rg x from by omega), h2 _ h3]
theorem ev_bal {a n : Nat} {w : List (Nat × amI)} {x : Int} (hE : pgMm j = some E) (hq : pgDecT j pc = some (.baload, 1)) (ha : pgH0[a]? = some (.inl (1, n, .inl w))) (hn : n < 2147483648) (R : rp h M) (hx : 0 ≤ x ∧ x < (n : Int)) (K : ev L xs D j (pc + 1) lv (.inl (iz (M a x.toNat)) :: r) h o) : ev L xs D j pc lv (.inl (iz x) :: .inr (.inr (.inl (some a))) :: r) h o := by
  obtain ⟨f, h1, h2⟩ := rp_arr R ha
  have h3 : x.toNat < n := by omega
  refine ev_G hE hq rfl (fun d _ => ?_) K
  simp only [mvG, mvG1, mvG2, h1, mvIn_iz hx hn, if_true, iz_nat (show rg x from by omega), h2 _ h3]
theorem rp_put {h : mvH} {M : Mm} (R : rp h M) {a t n i : Nat} {w : List (Nat × amI)} {y : Int} (hy : rg y) {f : List (Nat × Int32)} (ha : pgH0[a]? = some (.inl (t, n, .inl w))) (h1 : h.2[a]? = some (.inl (t, n, .inl f))) (h2 : ∀ i, i < n → mvLk f i = iz (M a i)) : rp (h.1, h.2.set a (.inl (t, n, .inl ((i, iz y) :: f)))) (up M a i y) := by
  refine rp_set R hy ha h1 ⟨rfl, rfl, fun i' hi' => ?_⟩
  show (if i' = i then iz y else mvLk f i') = iz (if a = a ∧ i' = i then y else M a i')
  by_cases e : i' = i
  · rw [if_pos e, if_pos ⟨rfl, e⟩]
  · rw [if_neg e, if_neg (fun q => e q.2), h2 _ hi']
theorem ev_ias {a n : Nat} {w : List (Nat × amI)} {x y : Int} (hE : pgMm j = some E) (hq : pgDecT j pc = some (.iastore, 1)) (ha : pgH0[a]? = some (.inl (0, n, .inl w))) (hn : n < 2147483648) (R : rp h M) (hx : 0 ≤ x ∧ x < (n : Int)) (hy : rg y) (K : ∀ h', rp h' (up M a x.toNat y) → ev L xs D j (pc + 1) lv r h' o) : ev L xs D j pc lv (.inl (iz y) :: .inl (iz x) :: .inr (.inr (.inl (some a))) :: r) h o := by
  obtain ⟨f, h1, h2⟩ := rp_arr R ha
  refine ev_G (h' := (h.1, h.2.set a (.inl (0, n, .inl ((x.toNat, iz y) :: f))))) hE hq rfl (fun d _ => ?_) (K _ (rp_put R hy ha h1 h2))
  simp only [mvG, mvG1, mvG2, h1, mvIn_iz hx hn, if_true, iz_nat (show rg x from by omega)]
theorem ev_bas {a n : Nat} {w : List (Nat × amI)} {x y : Int} (hE : pgMm j = some E) (hq : pgDecT j pc = some (.bastore, 1)) (ha : pgH0[a]? = some (.inl (1, n, .inl w))) (hn : n < 2147483648) (R : rp h M) (hx : 0 ≤ x ∧ x < (n : Int)) (hy : y = 0 ∨ y = 1) (K : ∀ h', rp h' (up M a x.toNat y) → ev L xs D j (pc + 1) lv r h' o) : ev L xs D j pc lv (.inl (iz y) :: .inl (iz x) :: .inr (.inr (.inl (some a))) :: r) h o := by
  obtain ⟨f, h1, h2⟩ := rp_arr R ha
  have hv : vp_nar .boolean (iz y) = iz y := by rcases hy with rfl | rfl <;> decide
  refine ev_G (h' := (h.1, h.2.set a (.inl (1, n, .inl ((x.toNat, iz y) :: f))))) hE hq rfl (fun d _ => ?_) (K _ (rp_put R (by omega) ha h1 h2))
  simp only [mvG, mvG1, mvG2, h1, mvIn_iz hx hn, if_true, iz_nat (show rg x from by omega), hv]
theorem ev_len {a t n : Nat} {w : List (Nat × amI)} (hE : pgMm j = some E) (hq : pgDecT j pc = some (.arraylength, 1)) (ha : pgH0[a]? = some (.inl (t, n, .inl w))) (ht : t < 2) (R : rp h M) (K : ev L xs D j (pc + 1) lv (.inl (iz (n : Int)) :: r) h o) : ev L xs D j pc lv (.inr (.inr (.inl (some a))) :: r) h o := by
  obtain ⟨f, h1, h2⟩ := rp_arr R ha
  have e : Int32.ofNat n = iz (n : Int) := (Int32.ofInt_eq_ofNat (n := n)).symm
  refine ev_G hE hq rfl (fun d _ => ?_) K
  simp only [mvG, mvG1, mvG2, h1, if_pos ht, e]
  rfl
/-- arithmetic -/
theorem ev_add {a b : Int} (hE : pgMm j = some E) (hq : pgDecT j pc = some (.iadd, 1)) (K : ev L xs D j (pc + 1) lv (.inl (iz (a + b)) :: r) h o) : ev L xs D j pc lv (.inl (iz b) :: .inl (iz a) :: r) h o := by
  rw [← iz_add] at K
  exact ev_F hE hq rfl rfl K
theorem ev_sub {a b : Int} (hE : pgMm j = some E) (hq : pgDecT j pc = some (.isub, 1)) (K : ev L xs D j (pc + 1) lv (.inl (iz (a - b)) :: r) h o) : ev L xs D j pc lv (.inl (iz b) :: .inl (iz a) :: r) h o := by
  rw [← iz_sub] at K
  exact ev_F hE hq rfl rfl K
theorem ev_mul {a b : Int} (hE : pgMm j = some E) (hq : pgDecT j pc = some (.imul, 1)) (K : ev L xs D j (pc + 1) lv (.inl (iz (a * b)) :: r) h o) : ev L xs D j pc lv (.inl (iz b) :: .inl (iz a) :: r) h o := by
  rw [← iz_mul] at K
  exact ev_F hE hq rfl rfl K
theorem ev_inc {k : Nat} {n : Int} {z : Int} {st : List mvV} (hE : pgMm j = some E) (hq : pgDecT j pc = some (.iinc k n, 3)) (hk : k < E.2.2.1) (hl : mvLd lv k = some (.inl (iz z))) (K : ev L xs D j (pc + 3) (mvSv lv k (.inl (iz (z + n)))) st h o) : ev L xs D j pc lv st h o := by
  rw [← iz_add] at K
  refine ev_F (q := (.iinc k n, 3)) (pc1 := pc + 3) (lv' := mvSv lv k (.inl (iz z + iz n))) (st' := st) hE hq ?_ rfl K
  have e2 : mvF2 (.iinc k n) lv st = some (k, .inl (iz z + iz n), st, 3) := by
    simp only [mvF2, hl]
  simp only [mvF, mvF1, e2, if_pos (And.intro rfl hk)]
  exact if_pos ⟨trivial, hk⟩
theorem ev_k {k : Int} {i : Instr} {len : Nat} {st : List mvV} {v : Int32} (hE : pgMm j = some E) (hq : pgDecT j pc = some (i, len)) (hF : mvF i len pc E.2.2.1 lv st = some (pc + len, lv, .inl v :: st)) (hv : v = iz k) (K : ev L xs D j (pc + len) lv (.inl (iz k) :: st) h o) : ev L xs D j pc lv st h o := by
  rw [← hv] at K
  exact ev_F hE hq hF rfl K
end EV2
