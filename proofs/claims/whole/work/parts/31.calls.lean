/-! Calls, throws, and the rest of the steps, in the calculus. -/
section EV3
variable {L : Nat} {xs : Nat → Int32} {D j pc : Nat} {lv : mvL} {r : List mvV} {h : mvH} {o : mvO} {E : mvE} {M : Mm}
theorem ev_call0 {st : List mvV} {q : Instr × Nat} {j' : Nat} {as rest : List mvV} {v : Option mvV} {h1 : mvH} (hE : pgMm j = some E) (hq : pgDecT j pc = some q) (hF : mvF q.1 q.2 pc E.2.2.1 lv st = none) (hG : ∀ d, mvG (pgP L xs) j d q.1 q.2 pc st h = none) (hR : mvFin E q.1 q.2 st = none)
    (hI : mvInv (pgP L xs) j q.1 q.2 st h = some (j', as, rest)) (hO : mvOne as = true ∧ mvSum rest ≤ 8) (hb : pgBb j' = none) (k1 : ev L xs D j' 0 (mvArgs 0 as) [] h (.inl v, h1, 0, 0)) (k2 : ev L xs (D + 1) j (pc + 3) lv (v.toList ++ rest) h1 o) : ev L xs (D + 1) j pc lv st h o := by
  have k := ev_call hE hq hF hG hR hI hO hb k1 (h2 := o.2.1) (r := o.1) (c2 := o.2.2.1) (s2 := o.2.2.2) k2
  rw [Nat.zero_add, Nat.zero_add] at k
  exact k
/-- a method of an object -/
theorem ev_cv {st as rest : List mvV} {idx n ci a j' : Nat} {fs : List amV} {v : Option mvV} {h1 : mvH} (hE : pgMm j = some E) (hq : pgDecT j pc = some (.invokevirtual idx, 3)) (hi : pgIi j idx = some (j', n, ci)) (hd : st.drop n = .inr (.inr (.inl (some a))) :: rest) (ht : (st.take n).reverse = as) (ha : pgH0[a]? = some (.inr (ci, fs))) (hn : n ≤ st.length ∧ ci < 100) (hO : mvOne (.inr (.inr (.inl (some a))) :: as) = true ∧ mvSum rest ≤ 8) (hb : pgBb j' = none) (R : rp h M) (k1 : ev L xs D j' 0 (mvArgs 0 (.inr (.inr (.inl (some a))) :: as)) [] h (.inl v, h1, 0, 0)) (k2 : ev L xs (D + 1) j (pc + 3) lv (v.toList ++ rest) h1 o) : ev L xs (D + 1) j pc lv st h o := by
  obtain ⟨fs', h2, -, -⟩ := rp_obj R ha
  subst ht
  refine ev_call0 hE hq rfl (fun d => rfl) ?_ ?_ hO hb k1 k2
  · exact if_neg (show ¬ (3 = 1) from by decide)
  · have e1 : mvPi (pgP L xs) j idx = some (j', n, ci) := hi
    simp only [mvInv, e1, hd, h2]
    exact if_pos ⟨hn.1, trivial, trivial, hn.2⟩
/-- a static method -/
theorem ev_cs {st as rest : List mvV} {idx n j' : Nat} {v : Option mvV} {h1 : mvH} (hE : pgMm j = some E) (hq : pgDecT j pc = some (.invokestatic idx, 3)) (hi : pgIi j idx = some (j', n, 100)) (hd : st.drop n = rest) (ht : (st.take n).reverse = as) (hn : n ≤ st.length) (hO : mvOne as = true ∧ mvSum rest ≤ 8) (hb : pgBb j' = none) (k1 : ev L xs D j' 0 (mvArgs 0 as) [] h (.inl v, h1, 0, 0)) (k2 : ev L xs (D + 1) j (pc + 3) lv (v.toList ++ rest) h1 o) : ev L xs (D + 1) j pc lv st h o := by
  subst ht hd
  refine ev_call0 hE hq rfl (fun d => rfl) ?_ ?_ hO hb k1 k2
  · exact if_neg (show ¬ (3 = 1) from by decide)
  · have e1 : mvPi (pgP L xs) j idx = some (j', n, 100) := hi
    simp only [mvInv, e1]
    exact if_pos ⟨hn, trivial⟩
/-- what is required, holds -/
theorem ev_rqT {rest : List mvV} {idx j' : Nat} {ex : String} {z : Int} (hE : pgMm j = some E) (hq : pgDecT j pc = some (.invokestatic idx, 3)) (hi : pgIi j idx = some (j', 1, 100)) (hO : mvSum rest ≤ 8) (hb : pgBb j' = some (pgRq ex)) (hD : 9 ≤ D) (hz : rg z) (h1 : z ≠ 0) (k : ev L xs D j (pc + 3) lv rest h o) : ev L xs D j pc lv (.inl (iz z) :: rest) h o := by
  obtain ⟨n0, k⟩ := k
  refine ⟨n0 + 1, fun n hn d hd => ?_⟩
  obtain ⟨n, rfl⟩ : ∃ m, n = m + 1 := ⟨n - 1, by omega⟩
  obtain ⟨d, rfl⟩ : ∃ m, d = m + 1 := ⟨d - 1, by omega⟩
  have e1 : mvPm (pgP L xs) j = some E := hE
  have e2 := pgDecT_ok j E pc _ hE hq
  have e3 : mvPb (pgP L xs) j' = some (pgRq ex) := hb
  have e4 : mvPi (pgP L xs) j idx = some (j', 1, 100) := hi
  have e5 : mvInv (pgP L xs) j (.invokestatic idx) 3 (.inl (iz z) :: rest) h = some (j', [.inl (iz z)], rest) := by
    simp only [mvInv, e4]
    exact if_pos ⟨by simp, trivial⟩
  have e6 : pgRq ex [.inl (iz z)] h = some (.inl none, h, 0, 0) := if_neg (fun q => h1 ((iz_eq hz (b := 0) (by omega)).mp q))
  have e7 : mvFin E (.invokestatic idx) 3 (.inl (iz z) :: rest) = none := if_neg (by decide)
  have e8 : mvF (.invokestatic idx) 3 pc E.2.2.1 lv (.inl (iz z) :: rest) = none := rfl
  have e9 : mvG (pgP L xs) j (d + 1) (.invokestatic idx) 3 pc (.inl (iz z) :: rest) h = none := rfl
  have e10 : mvOne [(.inl (iz z) : mvV)] = true ∧ mvSum rest ≤ 8 := ⟨rfl, hO⟩
  have e11 : 8 ≤ d := by omega
  rw [mvRun]
  simp only [e1, e2, e8, e9, e7, e5, if_pos e10, e3, if_pos e11, e6, mvAdd_0]
  exact k n (by omega) (d + 1) hd
/-- what is required, fails -/
theorem ev_rqF {rest : List mvV} {idx j' : Nat} {ex : String} {z : Int} (hE : pgMm j = some E) (hq : pgDecT j pc = some (.invokestatic idx, 3)) (hi : pgIi j idx = some (j', 1, 100)) (hO : mvSum rest ≤ 8) (hb : pgBb j' = some (pgRq ex)) (hD : 9 ≤ D) (h1 : z = 0) (hh : pgHf j pc ex = none) (hx : E.2.2.2.2 = []) : ev L xs D j pc lv (.inl (iz z) :: rest) h (.inr ex, (false, h.2), 1, 6) := by
  refine ⟨1, fun n hn d hd => ?_⟩
  obtain ⟨n, rfl⟩ : ∃ m, n = m + 1 := ⟨n - 1, by omega⟩
  obtain ⟨d, rfl⟩ : ∃ m, d = m + 1 := ⟨d - 1, by omega⟩
  subst h1
  have e1 : mvPm (pgP L xs) j = some E := hE
  have e2 := pgDecT_ok j E pc _ hE hq
  have e3 : mvPb (pgP L xs) j' = some (pgRq ex) := hb
  have e4 : mvPi (pgP L xs) j idx = some (j', 1, 100) := hi
  have e5 : mvInv (pgP L xs) j (.invokestatic idx) 3 (.inl (iz 0) :: rest) h = some (j', [.inl (iz 0)], rest) := by
    simp only [mvInv, e4]
    exact if_pos ⟨by simp, trivial⟩
  have e6 : pgRq ex [.inl (iz 0)] h = some (.inr ex, (false, h.2), 1, 6) := rfl
  have e7 : mvFin E (.invokestatic idx) 3 (.inl (iz 0) :: rest) = none := if_neg (by decide)
  have e8 : mvF (.invokestatic idx) 3 pc E.2.2.1 lv (.inl (iz 0) :: rest) = none := rfl
  have e9 : mvG (pgP L xs) j (d + 1) (.invokestatic idx) 3 pc (.inl (iz 0) :: rest) h = none := rfl
  have e10 : mvOne [(.inl (iz 0) : mvV)] = true ∧ mvSum rest ≤ 8 := ⟨rfl, hO⟩
  have e11 : 8 ≤ d := by omega
  have e12 : mvPh (pgP L xs) j pc ex = none := hh
  rw [mvRun]
  simp only [e1, e2, e8, e9, e7, e5, if_pos e10, e3, if_pos e11, e6, e12, if_pos hx]
/-- a call that throws: on, to the caller's caller -/
theorem ev_thr {st : List mvV} {q : Instr × Nat} {j' : Nat} {as rest : List mvV} {ex : String} {h1 : mvH} {c1 s1 : Nat} (hE : pgMm j = some E) (hq : pgDecT j pc = some q) (hF : mvF q.1 q.2 pc E.2.2.1 lv st = none) (hG : ∀ d, mvG (pgP L xs) j d q.1 q.2 pc st h = none) (hR : mvFin E q.1 q.2 st = none)
    (hI : mvInv (pgP L xs) j q.1 q.2 st h = some (j', as, rest)) (hO : mvOne as = true ∧ mvSum rest ≤ 8) (hb : pgBb j' = none) (hh : pgHf j pc ex = none) (hx : E.2.2.2.2 = []) (k1 : ev L xs D j' 0 (mvArgs 0 as) [] h (.inr ex, h1, c1, s1)) : ev L xs (D + 1) j pc lv st h (.inr ex, h1, c1, s1) := by
  obtain ⟨n1, k1⟩ := k1
  refine ⟨n1 + 1, fun n hn d hd => ?_⟩
  obtain ⟨n, rfl⟩ : ∃ m, n = m + 1 := ⟨n - 1, by omega⟩
  obtain ⟨d, rfl⟩ : ∃ m, d = m + 1 := ⟨d - 1, by omega⟩
  have e1 : mvPm (pgP L xs) j = some E := hE
  have e2 := pgDecT_ok j E pc q hE hq
  have e3 : mvPb (pgP L xs) j' = none := hb
  have e12 : mvPh (pgP L xs) j pc ex = none := hh
  rw [mvRun]
  simp only [e1, e2, hF, hG (d + 1), hR, hI, if_pos hO, e3, k1 n (by omega) d (by omega), e12, if_pos hx]
/-- a call that throws, and is caught here -/
theorem ev_cat {st : List mvV} {q : Instr × Nat} {j' x pc' z : Nat} {as rest : List mvV} {ex : String} {h1 : mvH} {c1 s1 c2 s2 : Nat} {rr : mvR} {h2 : mvH} (hE : pgMm j = some E) (hq : pgDecT j pc = some q) (hF : mvF q.1 q.2 pc E.2.2.1 lv st = none) (hG : ∀ d, mvG (pgP L xs) j d q.1 q.2 pc st h = none) (hR : mvFin E q.1 q.2 st = none)
    (hI : mvInv (pgP L xs) j q.1 q.2 st h = some (j', as, rest)) (hO : mvOne as = true ∧ mvSum rest ≤ 8) (hb : pgBb j' = none) (hh : pgHf j pc ex = some (z, x, pc')) (k1 : ev L xs D j' 0 (mvArgs 0 as) [] h (.inr ex, h1, c1, s1)) (k2 : ev L xs (D + 1) j pc' (mvDrop lv x) [] h1 (rr, h2, c2, s2)) : ev L xs (D + 1) j pc lv st h (rr, h2, c1 + c2, s1 + s2) := by
  obtain ⟨n1, k1⟩ := k1
  obtain ⟨n2, k2⟩ := k2
  refine ⟨max n1 n2 + 1, fun n hn d hd => ?_⟩
  obtain ⟨n, rfl⟩ : ∃ m, n = m + 1 := ⟨n - 1, by omega⟩
  obtain ⟨d, rfl⟩ : ∃ m, d = m + 1 := ⟨d - 1, by omega⟩
  have e1 : mvPm (pgP L xs) j = some E := hE
  have e2 := pgDecT_ok j E pc q hE hq
  have e3 : mvPb (pgP L xs) j' = none := hb
  have e12 : mvPh (pgP L xs) j pc ex = some (z, x, pc') := hh
  rw [mvRun]
  simp only [e1, e2, hF, hG (d + 1), hR, hI, if_pos hO, e3, k1 n (by omega) d (by omega), e12, k2 n (by omega) (d + 1) (by omega)]
  rfl
theorem rp_thr {b : Bool} (R : rp h M) : rp (b, h.2) M := R
/-- division of what is not below 0 -/
theorem iz_div {a b : Int} (ha : 0 ≤ a ∧ a < 2147483648) (hb : 0 < b ∧ b < 2147483648) : iz a / iz b = iz (a / b) := by
  apply Int32.toInt_inj.mp
  have h1 : 0 ≤ a / b := Int.ediv_nonneg ha.1 (by omega)
  have h2 : a / b ≤ a := Int.ediv_le_self b ha.1
  rw [Int32.toInt_div, iz_toInt (by omega), iz_toInt (by omega), iz_toInt (by omega)]
  rw [Int.tdiv_eq_ediv_of_nonneg ha.1]
  exact Int.bmod_eq_of_le (by omega) (by omega)
theorem ev_div {a b : Int} (hE : pgMm j = some E) (hq : pgDecT j pc = some (.idiv, 1)) (ha : 0 ≤ a ∧ a < 2147483648) (hb : 0 < b ∧ b < 2147483648) (K : ev L xs D j (pc + 1) lv (.inl (iz (a / b)) :: r) h o) : ev L xs D j pc lv (.inl (iz b) :: .inl (iz a) :: r) h o := by
  rw [← iz_div ha hb] at K
  refine ev_F hE hq ?_ rfl K
  have e : ¬ iz b = 0 := fun q => by have := (iz_eq (b := 0) (by omega) (by omega)).mp q; omega
  have e3 : mvF3 .idiv (.inl (iz b) :: .inl (iz a) :: r) = some (.inl (iz a / iz b) :: r) := if_neg e
  simp only [mvF, mvF1, mvF2, mvA2, e3]
  rfl
theorem ev_rem {a b : Int} (hE : pgMm j = some E) (hq : pgDecT j pc = some (.irem, 1)) (ha : 0 ≤ a ∧ a < 2147483648) (hb : 0 < b ∧ b < 2147483648) (K : ev L xs D j (pc + 1) lv (.inl (iz (a % b)) :: r) h o) : ev L xs D j pc lv (.inl (iz b) :: .inl (iz a) :: r) h o := by
  have e1 : iz (a % b) = iz a - iz a / iz b * iz b := by
    rw [iz_div ha hb, iz_mul, iz_sub]
    congr 1
    have := Int.emod_add_mul_ediv a b
    rw [Int.mul_comm] at this
    omega
  rw [e1] at K
  refine ev_F hE hq ?_ rfl K
  have e : ¬ iz b = 0 := fun q => by have := (iz_eq (b := 0) (by omega) (by omega)).mp q; omega
  have e3 : mvF3 .irem (.inl (iz b) :: .inl (iz a) :: r) = some (.inl (iz a - iz a / iz b * iz b) :: r) := if_neg e
  simp only [mvF, mvF1, mvF2, mvA2, e3]
  rfl
/-- any operation, by what comes out -/
theorem ev_op {i : Instr} {f : Int32 → Int32 → Int32} {x y : Int32} {z : Int} (hE : pgMm j = some E) (hq : pgDecT j pc = some (i, 1)) (hF : mvF i 1 pc E.2.2.1 lv (.inl y :: .inl x :: r) = some (pc + 1, lv, .inl (f x y) :: r)) (hz : f x y = iz z) (K : ev L xs D j (pc + 1) lv (.inl (iz z) :: r) h o) : ev L xs D j pc lv (.inl y :: .inl x :: r) h o := by
  rw [← hz] at K
  exact ev_F hE hq hF rfl K
/-- a truth value that is read is given back -/
theorem ev_retb {z : Int} (hE : pgMm j = some E) (hq : pgDecT j pc = some (.ireturn, 1)) (ht : E.2.2.2.1 = some .boolean) (hz : z = 0 ∨ z = 1) : ev L xs D j pc lv [.inl (iz z)] h (.inl (some (.inl (iz z))), h, 0, 0) := by
  refine ev_ret hE hq rfl (fun d => rfl) ?_
  unfold mvFin
  rw [if_pos rfl]
  simp only [ht]
  rcases hz with rfl | rfl <;> rfl
/-- the tables from outside -/
theorem ev_tab {w n : Nat} {x : Int} {f : Nat → Int32} {v : Int} (hE : pgMm j = some E) (hq : pgDecT j pc = some (.iaload, 1)) (hw : w < 2) (hX : pgX L xs w = some (n, f)) (hn : n < 2147483648) (hx : 0 ≤ x ∧ x < (n : Int)) (hv : f x.toNat = iz v) (K : ev L xs D j (pc + 1) lv (.inl (iz v) :: r) h o) : ev L xs D j pc lv (.inl (iz x) :: .inr (.inr (.inr w)) :: r) h o := by
  have e1 : mvPx (pgP L xs) w = some (n, f) := hX
  refine ev_G hE hq rfl (fun d _ => ?_) K
  have e2 : mvIn (iz x) n = true ∧ w < 2 := ⟨mvIn_iz hx hn, hw⟩
  simp only [mvG, mvG1, mvG2, e1, if_pos e2, iz_nat (show rg x from by omega), hv]
  rfl
end EV3
