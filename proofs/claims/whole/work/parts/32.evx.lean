/-! The calculus with what comes out: a value and a picture. -/
/-- what comes out: a value or what is thrown (true: an argument, false: a state), and how many were thrown on the way -/
abbrev Vv : Type := (Option (Int ⊕ Nat) ⊕ Bool) × Nat
def exn (b : Bool) : String := if b = true then "java/lang/IllegalArgumentException" else "java/lang/IllegalStateException"
def vv (v : Option (Int ⊕ Nat)) : Option mvV := match v with
  | none => none
  | some (.inl z) => some (.inl (iz z))
  | some (.inr a) => some (.inr (.inr (.inl (some a))))
def vr (v : Vv) : mvR := match v.1 with
  | .inl w => .inl (vv w)
  | .inr b => .inr (exn b)
def vok (v : Vv) : Prop := match v.1 with
  | .inl (some (.inl z)) => rg z
  | _ => True
def oo (v : Vv) (h : mvH) : mvO := (vr v, h, v.2, 6 * v.2)
def evx (L : Nat) (xs : Nat → Int32) (D j pc : Nat) (lv : mvL) (st : List mvV) (h : mvH) (v : Vv) (M' : Mm) : Prop := ∃ h', (rp h' M' ∧ vok v) ∧ ev L xs D j pc lv st h (oo v h')
section EVX
variable {L : Nat} {xs : Nat → Int32} {D j pc : Nat} {lv : mvL} {r st : List mvV} {h : mvH} {v : Vv} {E : mvE} {M M' : Mm}
theorem evx_up {D' : Nat} (hD : D ≤ D') (k : evx L xs D j pc lv st h v M') : evx L xs D' j pc lv st h v M' := by
  obtain ⟨h', a, k⟩ := k
  exact ⟨h', a, ev_up hD k⟩
theorem evx_F {q : Instr × Nat} {pc' pc1 : Nat} {lv' : mvL} {st' : List mvV} (hE : pgMm j = some E) (hq : pgDecT j pc = some q) (hF : mvF q.1 q.2 pc E.2.2.1 lv st = some (pc1, lv', st')) (hp : pc1 = pc') (k : evx L xs D j pc' lv' st' h v M') : evx L xs D j pc lv st h v M' := by
  obtain ⟨h', a, k⟩ := k
  exact ⟨h', a, ev_F hE hq hF hp k⟩
theorem evx_lv {b : mvL} (hle : lvLe lv b) (k : evx L xs D j pc lv st h v M') : evx L xs D j pc b st h v M' := by
  obtain ⟨h', a, k⟩ := k
  exact ⟨h', a, ev_lv hle k⟩
theorem evx_G {h1 : mvH} {q : Instr × Nat} {pc' : Nat} {st' : List mvV} (hE : pgMm j = some E) (hq : pgDecT j pc = some q) (hF : mvF q.1 q.2 pc E.2.2.1 lv st = none) (hG : ∀ d, D ≤ d → mvG (pgP L xs) j d q.1 q.2 pc st h = some (pc', st', h1, 0, 0)) (k : evx L xs D j pc' lv st' h1 v M') : evx L xs D j pc lv st h v M' := by
  obtain ⟨h', a, k⟩ := k
  exact ⟨h', a, ev_G hE hq hF hG k⟩
theorem evx_gfi {idx ci k kd a : Nat} {fs : List amV} {y : amI} (hE : pgMm j = some E) (hq : pgDecT j pc = some (.getfield idx, 3)) (hf : pgFf j idx = some (ci, k, kd)) (ha : pgH0[a]? = some (.inr (ci, fs))) (hk : fs[k]? = some (.inl y)) (R : rp h M) (K : evx L xs D j (pc + 3) lv (.inl (iz (M a k)) :: r) h v M') : evx L xs D j pc lv (.inr (.inr (.inl (some a))) :: r) h v M' := by
  obtain ⟨h', b, K⟩ := K
  exact ⟨h', b, ev_gfi hE hq hf ha hk R K⟩
theorem evx_gfr {idx ci k kd a : Nat} {fs : List amV} {w : Int64 ⊕ (Option Nat ⊕ Nat)} (hE : pgMm j = some E) (hq : pgDecT j pc = some (.getfield idx, 3)) (hf : pgFf j idx = some (ci, k, kd)) (ha : pgH0[a]? = some (.inr (ci, fs))) (hk : fs[k]? = some (.inr w)) (R : rp h M) (K : evx L xs D j (pc + 3) lv (.inr w :: r) h v M') : evx L xs D j pc lv (.inr (.inr (.inl (some a))) :: r) h v M' := by
  obtain ⟨h', b, K⟩ := K
  exact ⟨h', b, ev_gfr hE hq hf ha hk R K⟩
theorem evx_pfi {idx ci k kd a : Nat} {fs : List amV} {y : amI} {x : Int} (hE : pgMm j = some E) (hq : pgDecT j pc = some (.putfield idx, 3)) (hf : pgFf j idx = some (ci, k, kd)) (ha : pgH0[a]? = some (.inr (ci, fs))) (hk : fs[k]? = some (.inl y)) (R : rp h M) (hg : rg x) (hx : mvFit kd (.inl (iz x)) = true) (K : ∀ h', rp h' (up M a k x) → evx L xs D j (pc + 3) lv r h' v M') : evx L xs D j pc lv (.inl (iz x) :: .inr (.inr (.inl (some a))) :: r) h v M' := by
  obtain ⟨fs', h1, h2, h3⟩ := rp_obj R ha
  have hkl : k < fs'.length := by
    rw [h2]
    exact (List.getElem?_eq_some_iff.mp hk).1
  refine evx_G (h1 := (h.1, h.2.set a (.inr (ci, fs'.set k (.inl (iz x)))))) hE hq rfl (fun d _ => ?_) (K _ ?_)
  · have e1 : mvPf (pgP L xs) j idx = some (ci, k, kd) := hf
    have e3 : mvG1 (pgP L xs) j (.putfield idx) (.inl (iz x) :: .inr (.inr (.inl (some a))) :: r) h = some (r, (h.1, h.2.set a (.inr (ci, fs'.set k (.inl (iz x)))))) := by
      simp only [mvG1, e1, h1]
      exact if_pos ⟨trivial, hkl, hx⟩
    simp only [mvG, e3]
    rfl
  · refine rp_set R hg ha h1 ⟨rfl, by rw [List.length_set]; exact h2, fun k' v hv => ?_⟩
    by_cases e : k' = k
    · subst e
      have e2 := hk.symm.trans hv
      cases e2
      rw [List.getElem?_set_self hkl]
      show some (Sum.inl (iz x)) = some (Sum.inl (iz (up M a k' x a k')))
      rw [up_same]
    · rw [List.getElem?_set_ne (fun q => e q.symm), h3 k' v hv, up_at e]
theorem evx_ial {a n : Nat} {w : List (Nat × amI)} {x : Int} (hE : pgMm j = some E) (hq : pgDecT j pc = some (.iaload, 1)) (ha : pgH0[a]? = some (.inl (0, n, .inl w))) (hn : n < 2147483648) (R : rp h M) (hx : 0 ≤ x ∧ x < (n : Int)) (K : evx L xs D j (pc + 1) lv (.inl (iz (M a x.toNat)) :: r) h v M') : evx L xs D j pc lv (.inl (iz x) :: .inr (.inr (.inl (some a))) :: r) h v M' := by
  obtain ⟨h', b, K⟩ := K
  exact ⟨h', b, ev_ial hE hq ha hn R hx K⟩
theorem evx_bal {a n : Nat} {w : List (Nat × amI)} {x : Int} (hE : pgMm j = some E) (hq : pgDecT j pc = some (.baload, 1)) (ha : pgH0[a]? = some (.inl (1, n, .inl w))) (hn : n < 2147483648) (R : rp h M) (hx : 0 ≤ x ∧ x < (n : Int)) (K : evx L xs D j (pc + 1) lv (.inl (iz (M a x.toNat)) :: r) h v M') : evx L xs D j pc lv (.inl (iz x) :: .inr (.inr (.inl (some a))) :: r) h v M' := by
  obtain ⟨h', b, K⟩ := K
  exact ⟨h', b, ev_bal hE hq ha hn R hx K⟩
theorem evx_ias {a n : Nat} {w : List (Nat × amI)} {x y : Int} (hE : pgMm j = some E) (hq : pgDecT j pc = some (.iastore, 1)) (ha : pgH0[a]? = some (.inl (0, n, .inl w))) (hn : n < 2147483648) (R : rp h M) (hx : 0 ≤ x ∧ x < (n : Int)) (hy : rg y) (K : ∀ h', rp h' (up M a x.toNat y) → evx L xs D j (pc + 1) lv r h' v M') : evx L xs D j pc lv (.inl (iz y) :: .inl (iz x) :: .inr (.inr (.inl (some a))) :: r) h v M' := by
  obtain ⟨f, h1, h2⟩ := rp_arr R ha
  refine evx_G (h1 := (h.1, h.2.set a (.inl (0, n, .inl ((x.toNat, iz y) :: f))))) hE hq rfl (fun d _ => ?_) (K _ (rp_put R hy ha h1 h2))
  simp only [mvG, mvG1, mvG2, h1, mvIn_iz hx hn, if_true, iz_nat (show rg x from by omega)]
theorem evx_bas {a n : Nat} {w : List (Nat × amI)} {x y : Int} (hE : pgMm j = some E) (hq : pgDecT j pc = some (.bastore, 1)) (ha : pgH0[a]? = some (.inl (1, n, .inl w))) (hn : n < 2147483648) (R : rp h M) (hx : 0 ≤ x ∧ x < (n : Int)) (hy : y = 0 ∨ y = 1) (K : ∀ h', rp h' (up M a x.toNat y) → evx L xs D j (pc + 1) lv r h' v M') : evx L xs D j pc lv (.inl (iz y) :: .inl (iz x) :: .inr (.inr (.inl (some a))) :: r) h v M' := by
  obtain ⟨f, h1, h2⟩ := rp_arr R ha
  have hv : vp_nar .boolean (iz y) = iz y := by rcases hy with rfl | rfl <;> decide
  refine evx_G (h1 := (h.1, h.2.set a (.inl (1, n, .inl ((x.toNat, iz y) :: f))))) hE hq rfl (fun d _ => ?_) (K _ (rp_put R (by omega) ha h1 h2))
  simp only [mvG, mvG1, mvG2, h1, mvIn_iz hx hn, if_true, iz_nat (show rg x from by omega), hv]
theorem evx_len {a t n : Nat} {w : List (Nat × amI)} (hE : pgMm j = some E) (hq : pgDecT j pc = some (.arraylength, 1)) (ha : pgH0[a]? = some (.inl (t, n, .inl w))) (ht : t < 2) (R : rp h M) (K : evx L xs D j (pc + 1) lv (.inl (iz (n : Int)) :: r) h v M') : evx L xs D j pc lv (.inr (.inr (.inl (some a))) :: r) h v M' := by
  obtain ⟨h', b, K⟩ := K
  exact ⟨h', b, ev_len hE hq ha ht R K⟩
theorem evx_add {a b : Int} (hE : pgMm j = some E) (hq : pgDecT j pc = some (.iadd, 1)) (K : evx L xs D j (pc + 1) lv (.inl (iz (a + b)) :: r) h v M') : evx L xs D j pc lv (.inl (iz b) :: .inl (iz a) :: r) h v M' := by
  obtain ⟨h', q, K⟩ := K
  exact ⟨h', q, ev_add hE hq K⟩
theorem evx_sub {a b : Int} (hE : pgMm j = some E) (hq : pgDecT j pc = some (.isub, 1)) (K : evx L xs D j (pc + 1) lv (.inl (iz (a - b)) :: r) h v M') : evx L xs D j pc lv (.inl (iz b) :: .inl (iz a) :: r) h v M' := by
  obtain ⟨h', q, K⟩ := K
  exact ⟨h', q, ev_sub hE hq K⟩
theorem evx_mul {a b : Int} (hE : pgMm j = some E) (hq : pgDecT j pc = some (.imul, 1)) (K : evx L xs D j (pc + 1) lv (.inl (iz (a * b)) :: r) h v M') : evx L xs D j pc lv (.inl (iz b) :: .inl (iz a) :: r) h v M' := by
  obtain ⟨h', q, K⟩ := K
  exact ⟨h', q, ev_mul hE hq K⟩
theorem evx_div {a b : Int} (hE : pgMm j = some E) (hq : pgDecT j pc = some (.idiv, 1)) (ha : 0 ≤ a ∧ a < 2147483648) (hb : 0 < b ∧ b < 2147483648) (K : evx L xs D j (pc + 1) lv (.inl (iz (a / b)) :: r) h v M') : evx L xs D j pc lv (.inl (iz b) :: .inl (iz a) :: r) h v M' := by
  obtain ⟨h', q, K⟩ := K
  exact ⟨h', q, ev_div hE hq ha hb K⟩
theorem evx_rem {a b : Int} (hE : pgMm j = some E) (hq : pgDecT j pc = some (.irem, 1)) (ha : 0 ≤ a ∧ a < 2147483648) (hb : 0 < b ∧ b < 2147483648) (K : evx L xs D j (pc + 1) lv (.inl (iz (a % b)) :: r) h v M') : evx L xs D j pc lv (.inl (iz b) :: .inl (iz a) :: r) h v M' := by
  obtain ⟨h', q, K⟩ := K
  exact ⟨h', q, ev_rem hE hq ha hb K⟩
theorem evx_op {i : Instr} {f : Int32 → Int32 → Int32} {x y : Int32} {z : Int} (hE : pgMm j = some E) (hq : pgDecT j pc = some (i, 1)) (hF : mvF i 1 pc E.2.2.1 lv (.inl y :: .inl x :: r) = some (pc + 1, lv, .inl (f x y) :: r)) (hz : f x y = iz z) (K : evx L xs D j (pc + 1) lv (.inl (iz z) :: r) h v M') : evx L xs D j pc lv (.inl y :: .inl x :: r) h v M' := by
  obtain ⟨h', q, K⟩ := K
  exact ⟨h', q, ev_op hE hq hF hz K⟩
theorem evx_inc {k : Nat} {n : Int} {z : Int} (hE : pgMm j = some E) (hq : pgDecT j pc = some (.iinc k n, 3)) (hk : k < E.2.2.1) (hl : mvLd lv k = some (.inl (iz z))) (K : evx L xs D j (pc + 3) (mvSv lv k (.inl (iz (z + n)))) st h v M') : evx L xs D j pc lv st h v M' := by
  obtain ⟨h', q, K⟩ := K
  exact ⟨h', q, ev_inc hE hq hk hl K⟩
theorem evx_k {k : Int} {i : Instr} {len : Nat} {x : Int32} (hE : pgMm j = some E) (hq : pgDecT j pc = some (i, len)) (hF : mvF i len pc E.2.2.1 lv st = some (pc + len, lv, .inl x :: st)) (hv : x = iz k) (K : evx L xs D j (pc + len) lv (.inl (iz k) :: st) h v M') : evx L xs D j pc lv st h v M' := by
  obtain ⟨h', q, K⟩ := K
  exact ⟨h', q, ev_k hE hq hF hv K⟩
theorem evx_ldc {k : Int} {idx : Nat} {x : Int32} (hE : pgMm j = some E) (hq : pgDecT j pc = some (.ldc idx, 2)) (hc : pgKf j idx = some x) (hv : x = iz k) (K : evx L xs D j (pc + 2) lv (.inl (iz k) :: st) h v M') : evx L xs D j pc lv st h v M' := by
  subst hv
  have e1 : mvPk (pgP L xs) j idx = some (iz k) := hc
  refine evx_G hE hq rfl (fun d _ => ?_) K
  simp only [mvG, mvG1, mvG2, mvG3, mvG4, e1]
  rfl
theorem evx_ldcw {k : Int} {idx : Nat} {x : Int32} (hE : pgMm j = some E) (hq : pgDecT j pc = some (.ldc_w idx, 3)) (hc : pgKf j idx = some x) (hv : x = iz k) (K : evx L xs D j (pc + 3) lv (.inl (iz k) :: st) h v M') : evx L xs D j pc lv st h v M' := by
  subst hv
  have e1 : mvPk (pgP L xs) j idx = some (iz k) := hc
  refine evx_G hE hq rfl (fun d _ => ?_) K
  simp only [mvG, mvG1, mvG2, mvG3, mvG4, e1]
  rfl
theorem evx_tab {w n : Nat} {x : Int} {f : Nat → Int32} {z : Int} (hE : pgMm j = some E) (hq : pgDecT j pc = some (.iaload, 1)) (hw : w < 2) (hX : pgX L xs w = some (n, f)) (hn : n < 2147483648) (hx : 0 ≤ x ∧ x < (n : Int)) (hv : f x.toNat = iz z) (K : evx L xs D j (pc + 1) lv (.inl (iz z) :: r) h v M') : evx L xs D j pc lv (.inl (iz x) :: .inr (.inr (.inr w)) :: r) h v M' := by
  obtain ⟨h', q, K⟩ := K
  exact ⟨h', q, ev_tab hE hq hw hX hn hx hv K⟩
theorem evx_ret {w : Option (Int ⊕ Nat)} {q : Instr × Nat} (hE : pgMm j = some E) (hq : pgDecT j pc = some q) (hF : mvF q.1 q.2 pc E.2.2.1 lv st = none) (hG : ∀ d, mvG (pgP L xs) j d q.1 q.2 pc st h = none) (hR : mvFin E q.1 q.2 st = some (vv w)) (hv : vok (.inl w, 0)) (R : rp h M') : evx L xs D j pc lv st h (.inl w, 0) M' := ⟨h, ⟨R, hv⟩, ev_ret hE hq hF hG hR⟩
theorem evx_retb {z : Int} (hE : pgMm j = some E) (hq : pgDecT j pc = some (.ireturn, 1)) (ht : E.2.2.2.1 = some .boolean) (hz : z = 0 ∨ z = 1) (R : rp h M') : evx L xs D j pc lv [.inl (iz z)] h (.inl (some (.inl z)), 0) M' := ⟨h, ⟨R, (by rcases hz with rfl | rfl <;> exact ⟨by decide, by decide⟩ : rg z)⟩, ev_retb hE hq ht hz⟩
theorem evx_cv {as rest : List mvV} {idx n ci a j' : Nat} {fs : List amV} {v1 : Option (Int ⊕ Nat)} {M1 : Mm} (hE : pgMm j = some E) (hq : pgDecT j pc = some (.invokevirtual idx, 3)) (hi : pgIi j idx = some (j', n, ci)) (hd : st.drop n = .inr (.inr (.inl (some a))) :: rest) (ht : (st.take n).reverse = as) (ha : pgH0[a]? = some (.inr (ci, fs))) (hn : n ≤ st.length ∧ ci < 100) (hO : mvOne (.inr (.inr (.inl (some a))) :: as) = true ∧ mvSum rest ≤ 8) (hb : pgBb j' = none) (R : rp h M) (k1 : evx L xs D j' 0 (mvArgs 0 (.inr (.inr (.inl (some a))) :: as)) [] h (.inl v1, 0) M1) (k2 : ∀ h1, rp h1 M1 → vok (.inl v1, 0) → evx L xs (D + 1) j (pc + 3) lv ((vv v1).toList ++ rest) h1 v M') : evx L xs (D + 1) j pc lv st h v M' := by
  obtain ⟨h1, q, k1⟩ := k1
  obtain ⟨h', q2, k2⟩ := k2 h1 q.1 q.2
  exact ⟨h', q2, ev_cv hE hq hi hd ht ha hn hO hb R k1 k2⟩
theorem evx_cs {as rest : List mvV} {idx n j' : Nat} {v1 : Option (Int ⊕ Nat)} {M1 : Mm} (hE : pgMm j = some E) (hq : pgDecT j pc = some (.invokestatic idx, 3)) (hi : pgIi j idx = some (j', n, 100)) (hd : st.drop n = rest) (ht : (st.take n).reverse = as) (hn : n ≤ st.length) (hO : mvOne as = true ∧ mvSum rest ≤ 8) (hb : pgBb j' = none) (k1 : evx L xs D j' 0 (mvArgs 0 as) [] h (.inl v1, 0) M1) (k2 : ∀ h1, rp h1 M1 → vok (.inl v1, 0) → evx L xs (D + 1) j (pc + 3) lv ((vv v1).toList ++ rest) h1 v M') : evx L xs (D + 1) j pc lv st h v M' := by
  obtain ⟨h1, q, k1⟩ := k1
  obtain ⟨h', q2, k2⟩ := k2 h1 q.1 q.2
  exact ⟨h', q2, ev_cs hE hq hi hd ht hn hO hb k1 k2⟩
/-- a static method that made what it threw, and came back -/
theorem evx_csn {as rest : List mvV} {idx n j' : Nat} {v1 : Option (Int ⊕ Nat)} {w : Option (Int ⊕ Nat) ⊕ Bool} {n1 n2 : Nat} {M1 : Mm} (hE : pgMm j = some E) (hq : pgDecT j pc = some (.invokestatic idx, 3)) (hi : pgIi j idx = some (j', n, 100)) (hd : st.drop n = rest) (ht : (st.take n).reverse = as) (hn : n ≤ st.length) (hO : mvOne as = true ∧ mvSum rest ≤ 8) (hb : pgBb j' = none) (k1 : evx L xs D j' 0 (mvArgs 0 as) [] h (.inl v1, n1) M1) (k2 : ∀ h1, rp h1 M1 → vok (.inl v1, n1) → evx L xs (D + 1) j (pc + 3) lv ((vv v1).toList ++ rest) h1 (w, n2) M') : evx L xs (D + 1) j pc lv st h (w, n1 + n2) M' := by
  obtain ⟨h1, q, k1⟩ := k1
  obtain ⟨h', q2, k2⟩ := k2 h1 q.1 q.2
  subst ht hd
  refine ⟨h', ⟨q2.1, ?_⟩, ?_⟩
  · exact q2.2
  · have k := ev_call hE hq rfl (fun d => rfl) (if_neg (show ¬ (3 = 1) from by decide)) (by
      have e1 : mvPi (pgP L xs) j idx = some (j', n, 100) := hi
      simp only [mvInv, e1]
      exact if_pos ⟨hn, trivial⟩) hO hb k1 k2
    rw [← Nat.mul_add] at k
    exact k
/-- what is required, holds -/
theorem evx_rqT {rest : List mvV} {idx j' : Nat} {b : Bool} {z : Int} (hE : pgMm j = some E) (hq : pgDecT j pc = some (.invokestatic idx, 3)) (hi : pgIi j idx = some (j', 1, 100)) (hO : mvSum rest ≤ 8) (hb : pgBb j' = some (pgRq (exn b))) (hD : 9 ≤ D) (hz : rg z) (h1 : ¬ z = 0) (k : evx L xs D j (pc + 3) lv rest h v M') : evx L xs D j pc lv (.inl (iz z) :: rest) h v M' := by
  obtain ⟨h', q, k⟩ := k
  exact ⟨h', q, ev_rqT hE hq hi hO hb hD hz h1 k⟩
/-- and fails -/
theorem evx_rqF {rest : List mvV} {idx j' : Nat} {b : Bool} {z : Int} (hE : pgMm j = some E) (hq : pgDecT j pc = some (.invokestatic idx, 3)) (hi : pgIi j idx = some (j', 1, 100)) (hO : mvSum rest ≤ 8) (hb : pgBb j' = some (pgRq (exn b))) (hD : 9 ≤ D) (h1 : z = 0) (hh : pgHf j pc (exn b) = none) (hx : E.2.2.2.2 = []) (R : rp h M') : evx L xs D j pc lv (.inl (iz z) :: rest) h (.inr b, 1) M' := ⟨(false, h.2), ⟨rp_thr R, trivial⟩, ev_rqF hE hq hi hO hb hD h1 hh hx⟩
/-- a call that throws -/
theorem evx_thv {as rest : List mvV} {idx n ci a j' n1 : Nat} {fs : List amV} {b : Bool} {M1 : Mm} (hE : pgMm j = some E) (hq : pgDecT j pc = some (.invokevirtual idx, 3)) (hi : pgIi j idx = some (j', n, ci)) (hd : st.drop n = .inr (.inr (.inl (some a))) :: rest) (ht : (st.take n).reverse = as) (ha : pgH0[a]? = some (.inr (ci, fs))) (hn : n ≤ st.length ∧ ci < 100) (hO : mvOne (.inr (.inr (.inl (some a))) :: as) = true ∧ mvSum rest ≤ 8) (hb : pgBb j' = none) (hh : pgHf j pc (exn b) = none) (hx : E.2.2.2.2 = []) (R : rp h M) (k1 : evx L xs D j' 0 (mvArgs 0 (.inr (.inr (.inl (some a))) :: as)) [] h (.inr b, n1) M1) : evx L xs (D + 1) j pc lv st h (.inr b, n1) M1 := by
  obtain ⟨h1, q, k1⟩ := k1
  obtain ⟨fs', h2, -, -⟩ := rp_obj R ha
  subst ht
  refine ⟨h1, q, ev_thr hE hq rfl (fun d => rfl) (if_neg (show ¬ (3 = 1) from by decide)) ?_ hO hb hh hx k1⟩
  have e1 : mvPi (pgP L xs) j idx = some (j', n, ci) := hi
  simp only [mvInv, e1, hd, h2]
  exact if_pos ⟨hn.1, trivial, trivial, hn.2⟩
theorem evx_ths {as rest : List mvV} {idx n j' n1 : Nat} {b : Bool} {M1 : Mm} (hE : pgMm j = some E) (hq : pgDecT j pc = some (.invokestatic idx, 3)) (hi : pgIi j idx = some (j', n, 100)) (hd : st.drop n = rest) (ht : (st.take n).reverse = as) (hn : n ≤ st.length) (hO : mvOne as = true ∧ mvSum rest ≤ 8) (hb : pgBb j' = none) (hh : pgHf j pc (exn b) = none) (hx : E.2.2.2.2 = []) (k1 : evx L xs D j' 0 (mvArgs 0 as) [] h (.inr b, n1) M1) : evx L xs (D + 1) j pc lv st h (.inr b, n1) M1 := by
  obtain ⟨h1, q, k1⟩ := k1
  subst ht hd
  refine ⟨h1, q, ev_thr hE hq rfl (fun d => rfl) (if_neg (show ¬ (3 = 1) from by decide)) ?_ hO hb hh hx k1⟩
  have e1 : mvPi (pgP L xs) j idx = some (j', n, 100) := hi
  simp only [mvInv, e1]
  exact if_pos ⟨hn, trivial⟩
/-- a call that throws, and is caught -/
theorem evx_cat {as rest : List mvV} {idx n ci a j' n1 n2 z x pc' : Nat} {fs : List amV} {b : Bool} {w : Option (Int ⊕ Nat) ⊕ Bool} {M1 : Mm} (hE : pgMm j = some E) (hq : pgDecT j pc = some (.invokevirtual idx, 3)) (hi : pgIi j idx = some (j', n, ci)) (hd : st.drop n = .inr (.inr (.inl (some a))) :: rest) (ht : (st.take n).reverse = as) (ha : pgH0[a]? = some (.inr (ci, fs))) (hn : n ≤ st.length ∧ ci < 100) (hO : mvOne (.inr (.inr (.inl (some a))) :: as) = true ∧ mvSum rest ≤ 8) (hb : pgBb j' = none) (hh : pgHf j pc (exn b) = some (z, x, pc')) (R : rp h M) (k1 : evx L xs D j' 0 (mvArgs 0 (.inr (.inr (.inl (some a))) :: as)) [] h (.inr b, n1) M1) (k2 : ∀ h1, rp h1 M1 → evx L xs (D + 1) j pc' (mvDrop lv x) [] h1 (w, n2) M') : evx L xs (D + 1) j pc lv st h (w, n1 + n2) M' := by
  obtain ⟨h1, q, k1⟩ := k1
  obtain ⟨h', q2, k2⟩ := k2 h1 q.1
  obtain ⟨fs', h2, -, -⟩ := rp_obj R ha
  subst ht
  refine ⟨h', ⟨q2.1, q2.2⟩, ?_⟩
  have eI : mvInv (pgP L xs) j (.invokevirtual idx) 3 st h = some (j', .inr (.inr (.inl (some a))) :: (st.take n).reverse, rest) := by
    have e1 : mvPi (pgP L xs) j idx = some (j', n, ci) := hi
    simp only [mvInv, e1, hd, h2]
    exact if_pos ⟨hn.1, trivial, trivial, hn.2⟩
  have k := ev_cat hE hq rfl (fun d => rfl) (if_neg (show ¬ (3 = 1) from by decide)) eI hO hb hh k1 k2
  rw [← Nat.mul_add] at k
  exact k
/-- System.arraycopy -/
def cpM (M : Mm) (s d : Nat) (sp dp n : Int) : Mm := fun a k => if a = d ∧ dp.toNat ≤ k ∧ k < dp.toNat + n.toNat then M s (sp.toNat + (k - dp.toNat)) else M a k
theorem evx_cpy {idx s d n0 n1 : Nat} {w0 w1 : List (Nat × amI)} {sp dp n : Int} (hE : pgMm j = some E) (hq : pgDecT j pc = some (.invokestatic idx, 3)) (hI : pgIi j idx = none) (hy : pgOo (j + 100000) idx = true) (hy2 : pgOo (j + 200000) idx = false) (hy3 : pgOo (j + 300000) idx = false) (hs : pgH0[s]? = some (.inl (0, n0, .inl w0))) (hd : pgH0[d]? = some (.inl (0, n1, .inl w1))) (hb : n0 < 2147483648 ∧ n1 < 2147483648) (hO : mvSum r ≤ 8) (R : rp h M) (h1 : 0 ≤ sp) (h2 : 0 ≤ dp) (h3 : 0 ≤ n) (h4 : sp + n ≤ (n0 : Int)) (h5 : dp + n ≤ (n1 : Int)) (K : ∀ h', rp h' (cpM M s d sp dp n) → evx L xs (D + 1) j (pc + 3) lv r h' v M') : evx L xs (D + 1) j pc lv (.inl (iz n) :: .inl (iz dp) :: .inr (.inr (.inl (some d))) :: .inl (iz sp) :: .inr (.inr (.inl (some s))) :: r) h v M' := by
  obtain ⟨f, f1, f2⟩ := rp_arr R hs
  obtain ⟨g, g1, g2⟩ := rp_arr R hd
  have rn : rg n := ⟨by omega, by omega⟩
  have rs : rg sp := ⟨by omega, by omega⟩
  have rd : rg dp := ⟨by omega, by omega⟩
  have nn : ∀ {z : Int}, rg z → 0 ≤ z → ¬ iz z < 0 := fun hz h0 q => by have := (iz_lt (b := 0) hz (by omega)).mp q; omega
  have RR : rp (false, h.2.set d (.inl (0, n1, .inl (mvCpl f g sp.toNat dp.toNat n.toNat)))) (cpM M s d sp dp n) := by
    refine ⟨fun a k => ?_, fun a' c' ha' => ?_⟩
    · unfold cpM
      split
      · exact R.1 _ _
      · exact R.1 _ _
    · by_cases e : a' = d
      · subst e
        have e2 := hd.symm.trans ha'
        cases e2
        refine ⟨_, List.getElem?_set_self (List.getElem?_eq_some_iff.mp g1).1, rfl, rfl, fun i hi => ?_⟩
        rw [mvCpl_eq]
        show (if _ then _ else _) = iz (if _ then _ else _)
        by_cases q : dp.toNat ≤ i ∧ i < dp.toNat + n.toNat
        · rw [if_pos q, if_pos ⟨rfl, q⟩, f2 _ (by omega)]
        · rw [if_neg q, if_neg (fun z => q z.2), g2 _ hi]
      · obtain ⟨d2, h1, h2⟩ := R.2 a' c' ha'
        refine ⟨d2, ?_, ?_⟩
        · show (h.2.set d _)[a']? = some d2
          rw [List.getElem?_set_ne (fun q => e q.symm), h1]
        · have : cpM M s d sp dp n a' = M a' := by
            funext k
            exact if_neg (fun q => e q.1)
          rw [this]
          exact h2
  obtain ⟨h', q, n9, K⟩ := K _ RR
  refine ⟨h', q, n9 + 1, fun m hm dd hdd => ?_⟩
  obtain ⟨m, rfl⟩ : ∃ k, m = k + 1 := ⟨m - 1, by omega⟩
  obtain ⟨dd, rfl⟩ : ∃ k, dd = k + 1 := ⟨dd - 1, by omega⟩
  have e1 : mvPm (pgP L xs) j = some E := hE
  have e2 := pgDecT_ok j E pc _ hE hq
  have e3 : mvPi (pgP L xs) j idx = none := hI
  have e4 : mvInv (pgP L xs) j (.invokestatic idx) 3 (.inl (iz n) :: .inl (iz dp) :: .inr (.inr (.inl (some d))) :: .inl (iz sp) :: .inr (.inr (.inl (some s))) :: r) h = none := by
    simp only [mvInv, e3]
  have e7 : mvFin E (.invokestatic idx) 3 (.inl (iz n) :: .inl (iz dp) :: .inr (.inr (.inl (some d))) :: .inl (iz sp) :: .inr (.inr (.inl (some s))) :: r) = none := if_neg (by decide)
  have e8 : mvF (.invokestatic idx) 3 pc E.2.2.1 lv (.inl (iz n) :: .inl (iz dp) :: .inr (.inr (.inl (some d))) :: .inl (iz sp) :: .inr (.inr (.inl (some s))) :: r) = none := rfl
  have e9 : mvG (pgP L xs) j (dd + 1) (.invokestatic idx) 3 pc (.inl (iz n) :: .inl (iz dp) :: .inr (.inr (.inl (some d))) :: .inl (iz sp) :: .inr (.inr (.inl (some s))) :: r) h = none := rfl
  have e6 : mvMx (pgP L xs) j (.invokestatic idx) 3 (.inl (iz n) :: .inl (iz dp) :: .inr (.inr (.inl (some d))) :: .inl (iz sp) :: .inr (.inr (.inl (some s))) :: r) = none := by
    have y2 : mvPo (pgP L xs) (j + 200000) idx = false := by rw [pgPo_eq]; exact hy2
    have y3 : mvPo (pgP L xs) (j + 300000) idx = false := by rw [pgPo_eq]; exact hy3
    simp only [mvMx, y2, y3, Bool.false_eq_true, false_and, if_false]
  have e5 : mvCp (pgP L xs) j (.invokestatic idx) 3 (.inl (iz n) :: .inl (iz dp) :: .inr (.inr (.inl (some d))) :: .inl (iz sp) :: .inr (.inr (.inl (some s))) :: r) h = some (r, (false, h.2.set d (.inl (0, n1, .inl (mvCpl f g sp.toNat dp.toNat n.toNat))))) := by
    have ho : mvPo (pgP L xs) (j + 100000) idx = true := by rw [pgPo_eq]; exact hy
    simp only [mvCp, e6, mvCq, f1, g1]
    rw [if_pos ⟨ho, trivial, hO, nn rs h1, nn rd h2, nn rn h3, by rw [iz_nat rs, iz_nat rn]; omega, by rw [iz_nat rd, iz_nat rn]; omega⟩, iz_nat rs, iz_nat rn, iz_nat rd]
  rw [mvRun]
  simp only [e1, e2, e8, e9, e7, e4, e5]
  exact K m (by omega) (dd + 1) hdd
/-- Math.max, Math.min -/
theorem evx_mx {idx : Nat} {x y z : Int} {b : Bool} (hE : pgMm j = some E) (hq : pgDecT j pc = some (.invokestatic idx, 3)) (hI : pgIi j idx = none) (hy : (b = true ∧ pgOo (j + 200000) idx = true ∧ z = if x < y then y else x) ∨ (b = false ∧ pgOo (j + 200000) idx = false ∧ pgOo (j + 300000) idx = true ∧ z = if y < x then y else x)) (hO : mvSum r ≤ 8) (rx : rg x) (ry : rg y) (K : evx L xs (D + 1) j (pc + 3) lv (.inl (iz z) :: r) h v M') : evx L xs (D + 1) j pc lv (.inl (iz y) :: .inl (iz x) :: r) h v M' := by
  obtain ⟨h', q, n9, K⟩ := K
  refine ⟨h', q, n9 + 1, fun m hm dd hdd => ?_⟩
  obtain ⟨m, rfl⟩ : ∃ k, m = k + 1 := ⟨m - 1, by omega⟩
  obtain ⟨dd, rfl⟩ : ∃ k, dd = k + 1 := ⟨dd - 1, by omega⟩
  have e1 : mvPm (pgP L xs) j = some E := hE
  have e2 := pgDecT_ok j E pc _ hE hq
  have e3 : mvPi (pgP L xs) j idx = none := hI
  have e4 : mvInv (pgP L xs) j (.invokestatic idx) 3 (.inl (iz y) :: .inl (iz x) :: r) h = none := by
    simp only [mvInv, e3]
  have e7 : mvFin E (.invokestatic idx) 3 (.inl (iz y) :: .inl (iz x) :: r) = none := if_neg (by decide)
  have e8 : mvF (.invokestatic idx) 3 pc E.2.2.1 lv (.inl (iz y) :: .inl (iz x) :: r) = none := rfl
  have e9 : mvG (pgP L xs) j (dd + 1) (.invokestatic idx) 3 pc (.inl (iz y) :: .inl (iz x) :: r) h = none := rfl
  have e6 : mvMx (pgP L xs) j (.invokestatic idx) 3 (.inl (iz y) :: .inl (iz x) :: r) = some (.inl (iz z) :: r) := by
    rcases hy with ⟨-, hy, hz⟩ | ⟨-, hy2, hy, hz⟩
    · have y2 : mvPo (pgP L xs) (j + 200000) idx = true := by rw [pgPo_eq]; exact hy
      simp only [mvMx, y2, hO, and_self, if_true]
      by_cases hl : x < y
      · rw [if_pos ((iz_lt rx ry).mpr hl), hz, if_pos hl]
      · rw [if_neg (fun q => hl ((iz_lt rx ry).mp q)), hz, if_neg hl]
    · have y2 : mvPo (pgP L xs) (j + 200000) idx = false := by rw [pgPo_eq]; exact hy2
      have y3 : mvPo (pgP L xs) (j + 300000) idx = true := by rw [pgPo_eq]; exact hy
      simp only [mvMx, y2, y3, hO, Bool.false_eq_true, false_and, if_false, and_self, if_true]
      by_cases hl : y < x
      · rw [if_pos ((iz_lt ry rx).mpr hl), hz, if_pos hl]
      · rw [if_neg (fun q => hl ((iz_lt ry rx).mp q)), hz, if_neg hl]
  have e5 : mvCp (pgP L xs) j (.invokestatic idx) 3 (.inl (iz y) :: .inl (iz x) :: r) h = some (.inl (iz z) :: r, h) := by
    simp only [mvCp, e6]
  rw [mvRun]
  simp only [e1, e2, e8, e9, e7, e4, e5]
  exact K m (by omega) (dd + 1) hdd
/-- longs: the law's row of one -/
theorem evx_las {a n : Nat} {w : List (Nat × Int64)} {x y : Int} (hE : pgMm j = some E) (hq : pgDecT j pc = some (.lastore, 1)) (ha : pgH0[a]? = some (.inl (2, n, .inr w))) (hn : n < 2147483648) (R : rp h M) (hx : 0 ≤ x ∧ x < (n : Int)) (hy : rg y) (K : ∀ h', rp h' (up M a x.toNat y) → evx L xs D j (pc + 1) lv r h' v M') : evx L xs D j pc lv (.inr (.inl (iz y).toInt64) :: .inl (iz x) :: .inr (.inr (.inl (some a))) :: r) h v M' := by
  obtain ⟨f, h1, h2⟩ := rp_lng R ha
  refine evx_G (h1 := (h.1, h.2.set a (.inl (2, n, .inr ((x.toNat, (iz y).toInt64) :: f))))) hE hq rfl (fun d _ => ?_) (K _ ?_)
  · simp only [mvG, mvG1, mvG2, h1, mvIn_iz hx hn, if_true, iz_nat (show rg x from by omega)]
  · refine rp_set R hy ha h1 ⟨rfl, rfl, fun i' hi' => ?_⟩
    show (if i' = x.toNat then (iz y).toInt64 else mvLl f i') = (iz (if a = a ∧ i' = x.toNat then y else M a i')).toInt64
    by_cases e : i' = x.toNat
    · rw [if_pos e, if_pos ⟨rfl, e⟩]
    · rw [if_neg e, if_neg (fun q => e q.2), h2 _ hi']
theorem evx_lal {a n : Nat} {w : List (Nat × Int64)} {x : Int} (hE : pgMm j = some E) (hq : pgDecT j pc = some (.laload, 1)) (ha : pgH0[a]? = some (.inl (2, n, .inr w))) (hn : n < 2147483648) (R : rp h M) (hx : 0 ≤ x ∧ x < (n : Int)) (K : evx L xs D j (pc + 1) lv (.inr (.inl (iz (M a x.toNat)).toInt64) :: r) h v M') : evx L xs D j pc lv (.inl (iz x) :: .inr (.inr (.inl (some a))) :: r) h v M' := by
  obtain ⟨f, h1, h2⟩ := rp_lng R ha
  have h3 : x.toNat < n := by omega
  refine evx_G hE hq rfl (fun d _ => ?_) K
  simp only [mvG, mvG1, mvG2, h1, mvIn_iz hx hn, if_true, iz_nat (show rg x from by omega), h2 _ h3]
/-- a switch, beyond its cases -/
theorem evx_tso {d0 lo hi : Int} {offs : Array Int} {len t : Nat} {x : Int} (hE : pgMm j = some E) (hq : pgDecT j pc = some (.tableswitch d0 lo hi offs, len)) (hx : rg x) (ho : x < lo ∨ hi < x) (ht : mvT pc d0 = some t) (K : evx L xs D j t lv r h v M') : evx L xs D j pc lv (.inl (iz x) :: r) h v M' := by
  refine evx_F hE hq ?_ rfl K
  have e : mvF5 (.tableswitch d0 lo hi offs) pc (.inl (iz x) :: r) = some (t, r) := by
    unfold mvF5
    simp only [iz_toInt hx, if_pos ho, ht]
    rfl
  simp only [mvF, mvF1, mvF2, mvA2, mvF3, mvF4, e]
  rfl
/-- and one of its cases -/
theorem evx_tsi {d0 lo hi : Int} {offs : Array Int} {len t : Nat} {x off : Int} (k : Int) (hE : pgMm j = some E) (hq : pgDecT j pc = some (.tableswitch d0 lo hi offs, len)) (hx : x = k) (hk : rg k) (ho : ¬ (k < lo ∨ hi < k)) (hf : offs[(k - lo).toNat]? = some off) (ht : mvT pc off = some t) (K : evx L xs D j t lv r h v M') : evx L xs D j pc lv (.inl (iz x) :: r) h v M' := by
  subst hx
  refine evx_F hE hq ?_ rfl K
  have e : mvF5 (.tableswitch d0 lo hi offs) pc (.inl (iz x) :: r) = some (t, r) := by
    unfold mvF5
    simp only [iz_toInt hk, if_neg ho, hf, ht]
    rfl
  simp only [mvF, mvF1, mvF2, mvA2, mvF3, mvF4, e]
  rfl
end EVX
