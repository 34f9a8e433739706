/-! The calculus with what comes out: a value and a picture. -/
abbrev Vv : Type := Option (Int ⊕ Nat)
def vv (v : Vv) : Option mvV := match v with
  | none => none
  | some (.inl z) => some (.inl (iz z))
  | some (.inr a) => some (.inr (.inr (.inl (some a))))
def vok (v : Vv) : Prop := match v with
  | some (.inl z) => rg z
  | _ => True
def evx (L : Nat) (xs : Nat → Int32) (D j pc : Nat) (lv : mvL) (st : List mvV) (h : mvH) (v : Vv) (M' : Mm) : Prop := ∃ h', (rp h' M' ∧ vok v) ∧ ev L xs D j pc lv st h (.inl (vv v), h', 0, 0)
section EVX
variable {L : Nat} {xs : Nat → Int32} {D j pc : Nat} {lv : mvL} {r st : List mvV} {h : mvH} {v : Vv} {E : mvE} {M M' : Mm}
theorem evx_up {D' : Nat} (hD : D ≤ D') (k : evx L xs D j pc lv st h v M') : evx L xs D' j pc lv st h v M' := by
  obtain ⟨h', a, k⟩ := k
  exact ⟨h', a, ev_up hD k⟩
theorem evx_F {q : Instr × Nat} {pc' pc1 : Nat} {lv' : mvL} {st' : List mvV} (hE : pgMm j = some E) (hq : pgDecT j pc = some q) (hF : mvF q.1 q.2 pc E.2.2.1 lv st = some (pc1, lv', st')) (hp : pc1 = pc') (k : evx L xs D j pc' lv' st' h v M') : evx L xs D j pc lv st h v M' := by
  obtain ⟨h', a, k⟩ := k
  exact ⟨h', a, ev_F hE hq hF hp k⟩
theorem evx_lv {b : mvL} (hle : lvLe lv b) (k : evx L xs D j pc lv st h v M') : evx L xs D j pc b st h v M' := by
  obtain ⟨h', a, k⟩ := k
  exact ⟨h', a, ev_lv hle k⟩
theorem evx_G {h1 : mvH} {q : Instr × Nat} {pc' : Nat} {st' : List mvV} (hE : pgMm j = some E) (hq : pgDecT j pc = some q) (hF : mvF q.1 q.2 pc E.2.2.1 lv st = none) (hG : ∀ d, D ≤ d → mvG (pgP L xs) j d q.1 q.2 pc st h = some (pc', st', h1, 0, 0)) (k : evx L xs D j pc' lv st' h1 v M') : evx L xs D j pc lv st h v M' := by
  obtain ⟨h', a, k⟩ := k
  exact ⟨h', a, ev_G hE hq hF hG k⟩
theorem evx_gfi {idx ci k kd a : Nat} {fs : List amV} {y : amI} (hE : pgMm j = some E) (hq : pgDecT j pc = some (.getfield idx, 3)) (hf : pgFf j idx = some (ci, k, kd)) (ha : pgH0[a]? = some (.inr (ci, fs))) (hk : fs[k]? = some (.inl y)) (R : rp h M) (K : evx L xs D j (pc + 3) lv (.inl (iz (M a k)) :: r) h v M') : evx L xs D j pc lv (.inr (.inr (.inl (some a))) :: r) h v M' := by
  obtain ⟨h', b, K⟩ := K
  exact ⟨h', b, ev_gfi hE hq hf ha hk R K⟩
theorem evx_gfr {idx ci k kd a : Nat} {fs : List amV} {w : Int64 ⊕ (Option Nat ⊕ Nat)} (hE : pgMm j = some E) (hq : pgDecT j pc = some (.getfield idx, 3)) (hf : pgFf j idx = some (ci, k, kd)) (ha : pgH0[a]? = some (.inr (ci, fs))) (hk : fs[k]? = some (.inr w)) (R : rp h M) (K : evx L xs D j (pc + 3) lv (.inr w :: r) h v M') : evx L xs D j pc lv (.inr (.inr (.inl (some a))) :: r) h v M' := by
  obtain ⟨h', b, K⟩ := K
  exact ⟨h', b, ev_gfr hE hq hf ha hk R K⟩
theorem evx_pfi {idx ci k kd a : Nat} {fs : List amV} {y : amI} {x : Int} (hE : pgMm j = some E) (hq : pgDecT j pc = some (.putfield idx, 3)) (hf : pgFf j idx = some (ci, k, kd)) (ha : pgH0[a]? = some (.inr (ci, fs))) (hk : fs[k]? = some (.inl y)) (R : rp h M) (hg : rg x) (hx : mvFit kd (.inl (iz x)) = true) (K : ∀ h', rp h' (up M a k x) → evx L xs D j (pc + 3) lv r h' v M') : evx L xs D j pc lv (.inl (iz x) :: .inr (.inr (.inl (some a))) :: r) h v M' := by
  obtain ⟨fs', h1, h2, h3⟩ := rp_obj R ha
  have hkl : k < fs'.length := by
    rw [h2]
    exact (List.getElem?_eq_some_iff.mp hk).1
  refine evx_G (h1 := (h.1, h.2.set a (.inr (ci, fs'.set k (.inl (iz x)))))) hE hq rfl (fun d _ => ?_) (K _ ?_)
  · have e1 : mvPf (pgP L xs) j idx = some (ci, k, kd) := hf
    have e3 : mvG1 (pgP L xs) j (.putfield idx) (.inl (iz x) :: .inr (.inr (.inl (some a))) :: r) h = some (r, (h.1, h.2.set a (.inr (ci, fs'.set k (.inl (iz x)))))) := by
      simp only [mvG1, e1, h1]
      exact if_pos ⟨trivial, hkl, hx⟩
    simp only [mvG, e3]
    rfl
  · refine rp_set R hg ha h1 ⟨rfl, by rw [List.length_set]; exact h2, fun k' v hv => ?_⟩
    by_cases e : k' = k
    · subst e
      have e2 := hk.symm.trans hv
      cases e2
      rw [List.getElem?_set_self hkl]
      show some (Sum.inl (iz x)) = some (Sum.inl (iz (up M a k' x a k')))
      rw [up_same]
    · rw [List.getElem?_set_ne (fun q => e q.symm), h3 k' v hv, up_at e]
theorem evx_ial {a n : Nat} {w : List (Nat × amI)} {x : Int} (hE : pgMm j = some E) (hq : pgDecT j pc = some (.iaload, 1)) (ha : pgH0[a]? = some (.inl (0, n, .inl w))) (hn : n < 2147483648) (R : rp h M) (hx : 0 ≤ x ∧ x < (n : Int)) (K : evx L xs D j (pc + 1) lv (.inl (iz (M a x.toNat)) :: r) h v M') : evx L xs D j pc lv (.inl (iz x) :: .inr (.inr (.inl (some a))) :: r) h v M' := by
  obtain ⟨h', b, K⟩ := K
  exact ⟨h', b, ev_ial hE hq ha hn R hx K⟩
theorem evx_bal {a n : Nat} {w : List (Nat × amI)} {x : Int} (hE : pgMm j = some E) (hq : pgDecT j pc = some (.baload, 1)) (ha : pgH0[a]? = some (.inl (1, n, .inl w))) (hn : n < 2147483648) (R : rp h M) (hx : 0 ≤ x ∧ x < (n : Int)) (K : evx L xs D j (pc + 1) lv (.inl (iz (M a x.toNat)) :: r) h v M') : evx L xs D j pc lv (.inl (iz x) :: .inr (.inr (.inl (some a))) :: r) h v M' := by
  obtain ⟨h', b, K⟩ := K
  exact ⟨h', b, ev_bal hE hq ha hn R hx K⟩
theorem evx_ias {a n : Nat} {w : List (Nat × amI)} {x y : Int} (hE : pgMm j = some E) (hq : pgDecT j pc = some (.iastore, 1)) (ha : pgH0[a]? = some (.inl (0, n, .inl w))) (hn : n < 2147483648) (R : rp h M) (hx : 0 ≤ x ∧ x < (n : Int)) (hy : rg y) (K : ∀ h', rp h' (up M a x.toNat y) → evx L xs D j (pc + 1) lv r h' v M') : evx L xs D j pc lv (.inl (iz y) :: .inl (iz x) :: .inr (.inr (.inl (some a))) :: r) h v M' := by
  obtain ⟨f, h1, h2⟩ := rp_arr R ha
  refine evx_G (h1 := (h.1, h.2.set a (.inl (0, n, .inl ((x.toNat, iz y) :: f))))) hE hq rfl (fun d _ => ?_) (K _ (rp_put R hy ha h1 h2))
  simp only [mvG, mvG1, mvG2, h1, mvIn_iz hx hn, if_true, iz_nat (show rg x from by omega)]
theorem evx_bas {a n : Nat} {w : List (Nat × amI)} {x y : Int} (hE : pgMm j = some E) (hq : pgDecT j pc = some (.bastore, 1)) (ha : pgH0[a]? = some (.inl (1, n, .inl w))) (hn : n < 2147483648) (R : rp h M) (hx : 0 ≤ x ∧ x < (n : Int)) (hy : y = 0 ∨ y = 1) (K : ∀ h', rp h' (up M a x.toNat y) → evx L xs D j (pc + 1) lv r h' v M') : evx L xs D j pc lv (.inl (iz y) :: .inl (iz x) :: .inr (.inr (.inl (some a))) :: r) h v M' := by
  obtain ⟨f, h1, h2⟩ := rp_arr R ha
  have hv : vp_nar .boolean (iz y) = iz y := by rcases hy with rfl | rfl <;> decide
  refine evx_G (h1 := (h.1, h.2.set a (.inl (1, n, .inl ((x.toNat, iz y) :: f))))) hE hq rfl (fun d _ => ?_) (K _ (rp_put R (by omega) ha h1 h2))
  simp only [mvG, mvG1, mvG2, h1, mvIn_iz hx hn, if_true, iz_nat (show rg x from by omega), hv]
theorem evx_len {a t n : Nat} {w : List (Nat × amI)} (hE : pgMm j = some E) (hq : pgDecT j pc = some (.arraylength, 1)) (ha : pgH0[a]? = some (.inl (t, n, .inl w))) (ht : t < 2) (R : rp h M) (K : evx L xs D j (pc + 1) lv (.inl (iz (n : Int)) :: r) h v M') : evx L xs D j pc lv (.inr (.inr (.inl (some a))) :: r) h v M' := by
  obtain ⟨h', b, K⟩ := K
  exact ⟨h', b, ev_len hE hq ha ht R K⟩
theorem evx_add {a b : Int} (hE : pgMm j = some E) (hq : pgDecT j pc = some (.iadd, 1)) (K : evx L xs D j (pc + 1) lv (.inl (iz (a + b)) :: r) h v M') : evx L xs D j pc lv (.inl (iz b) :: .inl (iz a) :: r) h v M' := by
  obtain ⟨h', q, K⟩ := K
  exact ⟨h', q, ev_add hE hq K⟩
theorem evx_sub {a b : Int} (hE : pgMm j = some E) (hq : pgDecT j pc = some (.isub, 1)) (K : evx L xs D j (pc + 1) lv (.inl (iz (a - b)) :: r) h v M') : evx L xs D j pc lv (.inl (iz b) :: .inl (iz a) :: r) h v M' := by
  obtain ⟨h', q, K⟩ := K
  exact ⟨h', q, ev_sub hE hq K⟩
theorem evx_mul {a b : Int} (hE : pgMm j = some E) (hq : pgDecT j pc = some (.imul, 1)) (K : evx L xs D j (pc + 1) lv (.inl (iz (a * b)) :: r) h v M') : evx L xs D j pc lv (.inl (iz b) :: .inl (iz a) :: r) h v M' := by
  obtain ⟨h', q, K⟩ := K
  exact ⟨h', q, ev_mul hE hq K⟩
theorem evx_div {a b : Int} (hE : pgMm j = some E) (hq : pgDecT j pc = some (.idiv, 1)) (ha : 0 ≤ a ∧ a < 2147483648) (hb : 0 < b ∧ b < 2147483648) (K : evx L xs D j (pc + 1) lv (.inl (iz (a / b)) :: r) h v M') : evx L xs D j pc lv (.inl (iz b) :: .inl (iz a) :: r) h v M' := by
  obtain ⟨h', q, K⟩ := K
  exact ⟨h', q, ev_div hE hq ha hb K⟩
theorem evx_rem {a b : Int} (hE : pgMm j = some E) (hq : pgDecT j pc = some (.irem, 1)) (ha : 0 ≤ a ∧ a < 2147483648) (hb : 0 < b ∧ b < 2147483648) (K : evx L xs D j (pc + 1) lv (.inl (iz (a % b)) :: r) h v M') : evx L xs D j pc lv (.inl (iz b) :: .inl (iz a) :: r) h v M' := by
  obtain ⟨h', q, K⟩ := K
  exact ⟨h', q, ev_rem hE hq ha hb K⟩
theorem evx_op {i : Instr} {f : Int32 → Int32 → Int32} {x y : Int32} {z : Int} (hE : pgMm j = some E) (hq : pgDecT j pc = some (i, 1)) (hF : mvF i 1 pc E.2.2.1 lv (.inl y :: .inl x :: r) = some (pc + 1, lv, .inl (f x y) :: r)) (hz : f x y = iz z) (K : evx L xs D j (pc + 1) lv (.inl (iz z) :: r) h v M') : evx L xs D j pc lv (.inl y :: .inl x :: r) h v M' := by
  obtain ⟨h', q, K⟩ := K
  exact ⟨h', q, ev_op hE hq hF hz K⟩
theorem evx_inc {k : Nat} {n : Int} {z : Int} (hE : pgMm j = some E) (hq : pgDecT j pc = some (.iinc k n, 3)) (hk : k < E.2.2.1) (hl : mvLd lv k = some (.inl (iz z))) (K : evx L xs D j (pc + 3) (mvSv lv k (.inl (iz (z + n)))) st h v M') : evx L xs D j pc lv st h v M' := by
  obtain ⟨h', q, K⟩ := K
  exact ⟨h', q, ev_inc hE hq hk hl K⟩
theorem evx_k {k : Int} {i : Instr} {len : Nat} {x : Int32} (hE : pgMm j = some E) (hq : pgDecT j pc = some (i, len)) (hF : mvF i len pc E.2.2.1 lv st = some (pc + len, lv, .inl x :: st)) (hv : x = iz k) (K : evx L xs D j (pc + len) lv (.inl (iz k) :: st) h v M') : evx L xs D j pc lv st h v M' := by
  obtain ⟨h', q, K⟩ := K
  exact ⟨h', q, ev_k hE hq hF hv K⟩
theorem evx_ldc {k : Int} {idx : Nat} {x : Int32} (hE : pgMm j = some E) (hq : pgDecT j pc = some (.ldc idx, 2)) (hc : pgKf j idx = some x) (hv : x = iz k) (K : evx L xs D j (pc + 2) lv (.inl (iz k) :: st) h v M') : evx L xs D j pc lv st h v M' := by
  subst hv
  have e1 : mvPk (pgP L xs) j idx = some (iz k) := hc
  refine evx_G hE hq rfl (fun d _ => ?_) K
  simp only [mvG, mvG1, mvG2, mvG3, mvG4, e1]
  rfl
theorem evx_tab {w n : Nat} {x : Int} {f : Nat → Int32} {z : Int} (hE : pgMm j = some E) (hq : pgDecT j pc = some (.iaload, 1)) (hw : w < 2) (hX : pgX L xs w = some (n, f)) (hn : n < 2147483648) (hx : 0 ≤ x ∧ x < (n : Int)) (hv : f x.toNat = iz z) (K : evx L xs D j (pc + 1) lv (.inl (iz z) :: r) h v M') : evx L xs D j pc lv (.inl (iz x) :: .inr (.inr (.inr w)) :: r) h v M' := by
  obtain ⟨h', q, K⟩ := K
  exact ⟨h', q, ev_tab hE hq hw hX hn hx hv K⟩
theorem evx_ret {q : Instr × Nat} (hE : pgMm j = some E) (hq : pgDecT j pc = some q) (hF : mvF q.1 q.2 pc E.2.2.1 lv st = none) (hG : ∀ d, mvG (pgP L xs) j d q.1 q.2 pc st h = none) (hR : mvFin E q.1 q.2 st = some (vv v)) (hv : vok v) (R : rp h M') : evx L xs D j pc lv st h v M' := ⟨h, ⟨R, hv⟩, ev_ret hE hq hF hG hR⟩
theorem evx_retb {z : Int} (hE : pgMm j = some E) (hq : pgDecT j pc = some (.ireturn, 1)) (ht : E.2.2.2.1 = some .boolean) (hz : z = 0 ∨ z = 1) (R : rp h M') : evx L xs D j pc lv [.inl (iz z)] h (some (.inl z)) M' := ⟨h, ⟨R, (by rcases hz with rfl | rfl <;> exact ⟨by decide, by decide⟩ : rg z)⟩, ev_retb hE hq ht hz⟩
theorem evx_cv {as rest : List mvV} {idx n ci a j' : Nat} {fs : List amV} {v1 : Vv} {M1 : Mm} (hE : pgMm j = some E) (hq : pgDecT j pc = some (.invokevirtual idx, 3)) (hi : pgIi j idx = some (j', n, ci)) (hd : st.drop n = .inr (.inr (.inl (some a))) :: rest) (ht : (st.take n).reverse = as) (ha : pgH0[a]? = some (.inr (ci, fs))) (hn : n ≤ st.length ∧ ci < 100) (hO : mvOne (.inr (.inr (.inl (some a))) :: as) = true ∧ mvSum rest ≤ 8) (hb : pgBb j' = none) (R : rp h M) (k1 : evx L xs D j' 0 (mvArgs 0 (.inr (.inr (.inl (some a))) :: as)) [] h v1 M1) (k2 : ∀ h1, rp h1 M1 → vok v1 → evx L xs (D + 1) j (pc + 3) lv ((vv v1).toList ++ rest) h1 v M') : evx L xs (D + 1) j pc lv st h v M' := by
  obtain ⟨h1, q, k1⟩ := k1
  obtain ⟨h', q2, k2⟩ := k2 h1 q.1 q.2
  exact ⟨h', q2, ev_cv hE hq hi hd ht ha hn hO hb R k1 k2⟩
theorem evx_cs {as rest : List mvV} {idx n j' : Nat} {v1 : Vv} {M1 : Mm} (hE : pgMm j = some E) (hq : pgDecT j pc = some (.invokestatic idx, 3)) (hi : pgIi j idx = some (j', n, 100)) (hd : st.drop n = rest) (ht : (st.take n).reverse = as) (hn : n ≤ st.length) (hO : mvOne as = true ∧ mvSum rest ≤ 8) (hb : pgBb j' = none) (k1 : evx L xs D j' 0 (mvArgs 0 as) [] h v1 M1) (k2 : ∀ h1, rp h1 M1 → vok v1 → evx L xs (D + 1) j (pc + 3) lv ((vv v1).toList ++ rest) h1 v M') : evx L xs (D + 1) j pc lv st h v M' := by
  obtain ⟨h1, q, k1⟩ := k1
  obtain ⟨h', q2, k2⟩ := k2 h1 q.1 q.2
  exact ⟨h', q2, ev_cs hE hq hi hd ht hn hO hb k1 k2⟩
/-- a switch, beyond its cases -/
theorem evx_tso {d0 lo hi : Int} {offs : Array Int} {len t : Nat} {x : Int} (hE : pgMm j = some E) (hq : pgDecT j pc = some (.tableswitch d0 lo hi offs, len)) (hx : rg x) (ho : x < lo ∨ hi < x) (ht : mvT pc d0 = some t) (K : evx L xs D j t lv r h v M') : evx L xs D j pc lv (.inl (iz x) :: r) h v M' := by
  refine evx_F hE hq ?_ rfl K
  have e : mvF5 (.tableswitch d0 lo hi offs) pc (.inl (iz x) :: r) = some (t, r) := by
    unfold mvF5
    simp only [iz_toInt hx, if_pos ho, ht]
    rfl
  simp only [mvF, mvF1, mvF2, mvA2, mvF3, mvF4, e]
  rfl
/-- and one of its cases -/
theorem evx_tsi {d0 lo hi : Int} {offs : Array Int} {len t : Nat} {x off : Int} (k : Int) (hE : pgMm j = some E) (hq : pgDecT j pc = some (.tableswitch d0 lo hi offs, len)) (hx : x = k) (hk : rg k) (ho : ¬ (k < lo ∨ hi < k)) (hf : offs[(k - lo).toNat]? = some off) (ht : mvT pc off = some t) (K : evx L xs D j t lv r h v M') : evx L xs D j pc lv (.inl (iz x) :: r) h v M' := by
  subst hx
  refine evx_F hE hq ?_ rfl K
  have e : mvF5 (.tableswitch d0 lo hi offs) pc (.inl (iz x) :: r) = some (t, r) := by
    unfold mvF5
    simp only [iz_toInt hk, if_neg ho, hf, ht]
    rfl
  simp only [mvF, mvF1, mvF2, mvA2, mvF3, mvF4, e]
  rfl
end EVX
