/-! The methods as functions, printed by a program. -/
theorem ck {α : Type} {P : Prop} {dP : Decidable P} {x : Option α} {r : α} (h : (@ite _ P dP x none) = some r) : P ∧ x = some r := by
  by_cases k : P
  · rw [if_pos k] at h
    exact ⟨k, h⟩
  · rw [if_neg k] at h
    cases h
theorem fm {α : Type} {p : α → Prop} {a : α} {l : List α} (h1 : p a) (h2 : ∀ x ∈ l, p x) : ∀ x ∈ a :: l, p x := List.forall_mem_cons.mpr ⟨h1, h2⟩
theorem fn {α : Type} {p : α → Prop} : ∀ x ∈ ([] : List α), p x := fun _ h => nomatch h
theorem lvLe_mk {a b : mvL} (ha : lvOne a) (hb : lvOne b) (h : ∀ q ∈ a, mvLd b q.1 = some q.2) : lvLe a b := by
  refine ⟨ha, hb, fun k v hk => ?_⟩
  unfold mvLd at hk
  obtain ⟨q, h1, rfl⟩ := Option.map_eq_some_iff.mp hk
  have h2 := List.find?_some h1
  have h3 := h q (List.mem_of_find?_eq_some h1)
  rw [beq_iff_eq.mp h2] at h3
  exact h3
def FU : Nat := 1000000000
def bAnd (a b : Int) : Int := (iz a &&& iz b).toInt
def bOr (a b : Int) : Int := (iz a ||| iz b).toInt
def bXor (a b : Int) : Int := (iz a ^^^ iz b).toInt
def bShl (a b : Int) : Int := (iz a <<< (iz b &&& 31)).toInt
def bShr (a b : Int) : Int := (iz a >>> (iz b &&& 31)).toInt
theorem evx_iand {L : Nat} {xs : Nat → Int32} {D j pc : Nat} {lv : mvL} {r : List mvV} {h : mvH} {v : Vv} {E : mvE} {M' : Mm} {a b : Int} (hE : pgMm j = some E) (hq : pgDecT j pc = some (.iand, 1)) (K : evx L xs D j (pc + 1) lv (.inl (iz (bAnd a b)) :: r) h v M') : evx L xs D j pc lv (.inl (iz b) :: .inl (iz a) :: r) h v M' := by
  have e : iz (bAnd a b) = iz a &&& iz b := iz_back _
  rw [e] at K
  exact evx_F hE hq rfl rfl K
theorem evx_ior {L : Nat} {xs : Nat → Int32} {D j pc : Nat} {lv : mvL} {r : List mvV} {h : mvH} {v : Vv} {E : mvE} {M' : Mm} {a b : Int} (hE : pgMm j = some E) (hq : pgDecT j pc = some (.ior, 1)) (K : evx L xs D j (pc + 1) lv (.inl (iz (bOr a b)) :: r) h v M') : evx L xs D j pc lv (.inl (iz b) :: .inl (iz a) :: r) h v M' := by
  have e : iz (bOr a b) = iz a ||| iz b := iz_back _
  rw [e] at K
  exact evx_F hE hq rfl rfl K
theorem evx_ixor {L : Nat} {xs : Nat → Int32} {D j pc : Nat} {lv : mvL} {r : List mvV} {h : mvH} {v : Vv} {E : mvE} {M' : Mm} {a b : Int} (hE : pgMm j = some E) (hq : pgDecT j pc = some (.ixor, 1)) (K : evx L xs D j (pc + 1) lv (.inl (iz (bXor a b)) :: r) h v M') : evx L xs D j pc lv (.inl (iz b) :: .inl (iz a) :: r) h v M' := by
  have e : iz (bXor a b) = iz a ^^^ iz b := iz_back _
  rw [e] at K
  exact evx_F hE hq rfl rfl K
theorem evx_ishl {L : Nat} {xs : Nat → Int32} {D j pc : Nat} {lv : mvL} {r : List mvV} {h : mvH} {v : Vv} {E : mvE} {M' : Mm} {a b : Int} (hE : pgMm j = some E) (hq : pgDecT j pc = some (.ishl, 1)) (K : evx L xs D j (pc + 1) lv (.inl (iz (bShl a b)) :: r) h v M') : evx L xs D j pc lv (.inl (iz b) :: .inl (iz a) :: r) h v M' := by
  have e : iz (bShl a b) = iz a <<< (iz b &&& 31) := iz_back _
  rw [e] at K
  exact evx_F hE hq rfl rfl K
theorem evx_ishr {L : Nat} {xs : Nat → Int32} {D j pc : Nat} {lv : mvL} {r : List mvV} {h : mvH} {v : Vv} {E : mvE} {M' : Mm} {a b : Int} (hE : pgMm j = some E) (hq : pgDecT j pc = some (.ishr, 1)) (K : evx L xs D j (pc + 1) lv (.inl (iz (bShr a b)) :: r) h v M') : evx L xs D j pc lv (.inl (iz b) :: .inl (iz a) :: r) h v M' := by
  have e : iz (bShr a b) = iz a >>> (iz b &&& 31) := iz_back _
  rw [e] at K
  exact evx_F hE hq rfl rfl K
def bAdd (a b : Int) : Int := (iz a + iz b).toInt
theorem evx_iaddw {L : Nat} {xs : Nat → Int32} {D j pc : Nat} {lv : mvL} {r : List mvV} {h : mvH} {v : Vv} {E : mvE} {M' : Mm} {a b : Int} (hE : pgMm j = some E) (hq : pgDecT j pc = some (.iadd, 1)) (K : evx L xs D j (pc + 1) lv (.inl (iz (bAdd a b)) :: r) h v M') : evx L xs D j pc lv (.inl (iz b) :: .inl (iz a) :: r) h v M' := by
  have e : iz (bAdd a b) = iz a + iz b := iz_back _
  rw [e] at K
  exact evx_F hE hq rfl rfl K
def bUsr (a b : Int) : Int := (((iz a).toUInt32 >>> ((iz b).toUInt32 &&& Int32.toUInt32 31)).toInt32).toInt
theorem evx_iushr {L : Nat} {xs : Nat → Int32} {D j pc : Nat} {lv : mvL} {r : List mvV} {h : mvH} {v : Vv} {E : mvE} {M' : Mm} {a b : Int} (hE : pgMm j = some E) (hq : pgDecT j pc = some (.iushr, 1)) (K : evx L xs D j (pc + 1) lv (.inl (iz (bUsr a b)) :: r) h v M') : evx L xs D j pc lv (.inl (iz b) :: .inl (iz a) :: r) h v M' := by
  have e : iz (bUsr a b) = ((iz a).toUInt32 >>> ((iz b).toUInt32 &&& Int32.toUInt32 31)).toInt32 := iz_back _
  rw [e] at K
  exact evx_F hE hq rfl rfl K
/-- what a public call comes to: 0 and its value, or 1 (an argument), 2 (a state) -/
def ot (k v : Int) : Vv := if k = 0 then (.inl (some (.inl v)), 0) else (.inr (decide (k = 1)), 1)
theorem ot_ne {k v : Int} (h : ¬ k = 0) : ot k v = (.inr (decide (k = 1)), 1) := if_neg h
theorem ot_1 {v : Int} : ot 1 v = (.inr true, 1) := rfl
theorem ot_2 {k v : Int} (h : ¬ k = 0) (h1 : ¬ k = 1) : ot k v = (.inr false, 1) := by rw [ot_ne h, decide_eq_false h1]
theorem thb {P : Bool → Prop} (h1 : P true) (h2 : P false) (b : Bool) : P b := by cases b <;> assumption
def ad (k : Int) : Nat := if k = 0 then 0 else 1
def ow (k : Int) : Vv := (.inl (some (.inl k)), ad k)
def adc (k : Int) (o : Option (Int × Nat × Mm)) : Option (Int × Nat × Mm) := o.map (fun r => (r.1, ad k + r.2.1, r.2.2))
theorem adc_inv {k v : Int} {n : Nat} {M' : Mm} {o : Option (Int × Nat × Mm)} (h : adc k o = some (v, n, M')) : ∃ n2, o = some (v, n2, M') ∧ n = ad k + n2 := by
  obtain ⟨r, h1, h2⟩ := Option.map_eq_some_iff.mp h
  cases h2
  exact ⟨r.2.1, h1, rfl⟩
theorem evx_tln {L : Nat} {xs : Nat → Int32} {D j pc : Nat} {lv : mvL} {r : List mvV} {h : mvH} {v : Vv} {E : mvE} {M' : Mm} (hE : pgMm j = some E) (hq : pgDecT j pc = some (.arraylength, 1)) (K : evx L xs D j (pc + 1) lv (.inl (iz (L : Int)) :: r) h v M') : evx L xs D j pc lv (.inr (.inr (.inr 1)) :: r) h v M' := by
  have e : Int32.ofNat L = iz (L : Int) := (Int32.ofInt_eq_ofNat (n := L)).symm
  have e1 : mvPx (pgP L xs) 1 = some (L, xs) := rfl
  refine evx_G hE hq rfl (fun d _ => ?_) K
  simp only [mvG, mvG1, mvG2, e1, e]
  rfl
theorem lc_inj {a b : Int} (ha : rg a) (hb : rg b) (h : (iz a).toInt64 = (iz b).toInt64) : a = b := by
  have h1 := congrArg Int64.toInt h
  rw [Int32.toInt_toInt64, Int32.toInt_toInt64, iz_toInt ha, iz_toInt hb] at h1
  exact h1
theorem lc_0 {x y : Int64} : lg_cmp x y = 0 ↔ x = y := by
  unfold lg_cmp
  by_cases h : x = y
  · subst h
    rw [if_neg (show ¬ x > x from Int64.lt_irrefl), if_pos rfl]
    exact ⟨fun _ => rfl, fun _ => rfl⟩
  · refine ⟨fun q => ?_, fun q => absurd q h⟩
    by_cases h1 : x > y
    · rw [if_pos h1] at q; exact absurd q (by decide)
    · rw [if_neg h1, if_neg h] at q; exact absurd q (by decide)
theorem lc_eq_T {a b : Int} (ha : rg a) (hb : rg b) (h : a = b) : mvC1 .eq (lg_cmp (iz a).toInt64 (iz b).toInt64) = true := decide_eq_true (lc_0.mpr (by rw [h]))
theorem lc_eq_F {a b : Int} (ha : rg a) (hb : rg b) (h : ¬ a = b) : mvC1 .eq (lg_cmp (iz a).toInt64 (iz b).toInt64) = false := decide_eq_false (fun q => h (lc_inj ha hb (lc_0.mp q)))
theorem lc_ne_T {a b : Int} (ha : rg a) (hb : rg b) (h : a = b) : mvC1 .ne (lg_cmp (iz a).toInt64 (iz b).toInt64) = false := decide_eq_false (fun q => q (lc_0.mpr (by rw [h])))
theorem lc_ne_F {a b : Int} (ha : rg a) (hb : rg b) (h : ¬ a = b) : mvC1 .ne (lg_cmp (iz a).toInt64 (iz b).toInt64) = true := decide_eq_true (fun q => h (lc_inj ha hb (lc_0.mp q)))
theorem mx_rg {P : Prop} {dP : Decidable P} {x y : Int} (hx : rg x) (hy : rg y) : rg (@ite _ P dP x y) := by
  by_cases h : P
  · rw [if_pos h]; exact hx
  · rw [if_neg h]; exact hy
def aAa (x : Int) : Int := (pgAa x.toNat).toInt
theorem aAa_rg (x : Int) : rg (aAa x) := iz_rg _
theorem aAa_eq (x : Int) : pgAa x.toNat = iz (aAa x) := (iz_back _).symm
theorem H0 : pgH0[0]? = some (.inr (11, [.inr (.inr (.inl (some 1))), .inr (.inr (.inl (some 5))), .inr (.inr (.inl (some 12))), .inr (.inr (.inl (some 17))), .inr (.inr (.inl (some 42))), .inr (.inr (.inl (some 47)))])) := rfl
theorem H1 : pgH0[1]? = some (.inr (9, [.inr (.inr (.inl (some 2))), .inr (.inr (.inl (some 3))), .inr (.inr (.inl (some 4))), .inl (.inl 10)])) := rfl
theorem H2 : pgH0[2]? = some (.inl (0, 40, .inl [])) := rfl
theorem H3 : pgH0[3]? = some (.inl (0, 40, .inl [])) := rfl
theorem H4 : pgH0[4]? = some (.inl (0, 40, .inl [(9, .inl 128), (8, .inl 64), (7, .inl 32), (6, .inl 16), (5, .inl 8), (4, .inl 4), (3, .inl 2), (2, .inl 1)])) := rfl
theorem H5 : pgH0[5]? = some (.inr (1, [.inr (.inr (.inl (some 6))), .inr (.inr (.inl (some 7))), .inr (.inr (.inl (some 8))), .inr (.inr (.inl (some 9))), .inr (.inr (.inl (some 10))), .inr (.inr (.inl (some 11))), .inl (.inl 0)])) := rfl
theorem H6 : pgH0[6]? = some (.inl (0, 6, .inl [])) := rfl
theorem H7 : pgH0[7]? = some (.inl (0, 6, .inl [])) := rfl
theorem H8 : pgH0[8]? = some (.inl (0, 18, .inl [])) := rfl
theorem H9 : pgH0[9]? = some (.inl (1, 18, .inl [])) := rfl
theorem H10 : pgH0[10]? = some (.inl (0, 18, .inl [(17, .inl (-1)), (16, .inl (-1)), (15, .inl (-1)), (14, .inl (-1)), (13, .inl (-1)), (12, .inl (-1)), (11, .inl (-1)), (10, .inl (-1)), (9, .inl (-1)), (8, .inl (-1)), (7, .inl (-1)), (6, .inl (-1)), (5, .inl (-1)), (4, .inl (-1)), (3, .inl (-1)), (2, .inl (-1)), (1, .inl (-1)), (0, .inl (-1))])) := rfl
theorem H11 : pgH0[11]? = some (.inl (0, 54, .inl [])) := rfl
theorem H12 : pgH0[12]? = some (.inr (4, [.inr (.inr (.inl (some 13))), .inr (.inr (.inl (some 14))), .inr (.inr (.inl (some 15))), .inr (.inr (.inl (some 16))), .inl (.inl 0)])) := rfl
theorem H13 : pgH0[13]? = some (.inl (0, 200, .inl [])) := rfl
theorem H14 : pgH0[14]? = some (.inl (0, 200, .inl [])) := rfl
theorem H15 : pgH0[15]? = some (.inl (0, 200, .inl [])) := rfl
theorem H16 : pgH0[16]? = some (.inl (0, 200, .inl [])) := rfl
theorem H17 : pgH0[17]? = some (.inr (3, [.inr (.inr (.inl (some 18))), .inr (.inr (.inl (some 19))), .inr (.inr (.inl (some 20))), .inr (.inr (.inl (some 21))), .inl (.inl 0)])) := rfl
theorem H18 : pgH0[18]? = some (.inl (0, 20, .inl [])) := rfl
theorem H19 : pgH0[19]? = some (.inl (0, 20, .inl [])) := rfl
theorem H20 : pgH0[20]? = some (.inl (0, 20, .inl [])) := rfl
theorem H21 : pgH0[21]? = some (.inl (0, 160, .inl [])) := rfl
theorem H22 : pgH0[22]? = some (.inr (8, [.inr (.inr (.inl (some 23)))])) := rfl
theorem H23 : pgH0[23]? = some (.inl (0, 35520, .inl [])) := rfl
theorem H24 : pgH0[24]? = some (.inr (10, [.inr (.inr (.inl (some 1))), .inr (.inr (.inl (some 5))), .inr (.inr (.inl (some 12))), .inr (.inr (.inl (some 17))), .inr (.inr (.inl (some 25))), .inr (.inr (.inl (some 34))), .inr (.inr (.inl (some 35))), .inr (.inr (.inl (some 36))), .inr (.inr (.inl (some 37))), .inr (.inr (.inl (some 38))), .inr (.inr (.inl (some 39))), .inr (.inr (.inl (some 40))), .inr (.inr (.inl (some 41))), .inl (.inl 0)])) := rfl
theorem H25 : pgH0[25]? = some (.inr (5, [.inr (.inr (.inl (some 26))), .inr (.inr (.inl (some 27))), .inr (.inr (.inl (some 28))), .inr (.inr (.inl (some 29))), .inr (.inr (.inl (some 30))), .inr (.inr (.inl (some 31))), .inr (.inr (.inl (some 32))), .inr (.inr (.inl (some 33))), .inl (.inl 0), .inl (.inl 0)])) := rfl
theorem H26 : pgH0[26]? = some (.inl (0, 2504, .inl [])) := rfl
theorem H27 : pgH0[27]? = some (.inl (0, 2504, .inl [])) := rfl
theorem H28 : pgH0[28]? = some (.inl (0, 2504, .inl [])) := rfl
theorem H29 : pgH0[29]? = some (.inl (0, 2504, .inl [])) := rfl
theorem H30 : pgH0[30]? = some (.inl (0, 2504, .inl [])) := rfl
theorem H31 : pgH0[31]? = some (.inl (0, 2504, .inl [])) := rfl
theorem H32 : pgH0[32]? = some (.inl (0, 2504, .inl [])) := rfl
theorem H33 : pgH0[33]? = some (.inl (0, 5012, .inl [])) := rfl
theorem H34 : pgH0[34]? = some (.inl (0, 60, .inl [])) := rfl
theorem H35 : pgH0[35]? = some (.inl (0, 60, .inl [])) := rfl
theorem H36 : pgH0[36]? = some (.inl (0, 60, .inl [])) := rfl
theorem H37 : pgH0[37]? = some (.inl (0, 60, .inl [])) := rfl
theorem H38 : pgH0[38]? = some (.inl (0, 488, .inl [])) := rfl
theorem H39 : pgH0[39]? = some (.inl (0, 60, .inl [])) := rfl
theorem H40 : pgH0[40]? = some (.inl (0, 40, .inl [])) := rfl
theorem H41 : pgH0[41]? = some (.inl (1, 40, .inl [])) := rfl
theorem H42 : pgH0[42]? = some (.inr (0, [.inr (.inr (.inl (some 1))), .inr (.inr (.inl (some 5))), .inr (.inr (.inl (some 17))), .inr (.inr (.inl (some 24))), .inr (.inr (.inl (some 22))), .inr (.inr (.inl (some 25))), .inr (.inr (.inl (some 45))), .inr (.inr (.inl (some 43))), .inr (.inr (.inl (some 44)))])) := rfl
theorem H43 : pgH0[43]? = some (.inl (0, 8, .inl [])) := rfl
theorem H44 : pgH0[44]? = some (.inl (0, 2504, .inl [])) := rfl
theorem H45 : pgH0[45]? = some (.inr (2, [.inr (.inr (.inl (some 5))), .inr (.inr (.inl (some 17))), .inr (.inr (.inl (some 24))), .inr (.inr (.inl (some 25))), .inr (.inr (.inl (some 46))), .inl (.inl 0), .inl (.inl 0), .inl (.inl 0), .inl (.inl 0)])) := rfl
theorem H46 : pgH0[46]? = some (.inl (0, 2504, .inl [])) := rfl
theorem H47 : pgH0[47]? = some (.inr (7, [.inr (.inr (.inl (some 5))), .inr (.inr (.inl (some 12))), .inr (.inr (.inl (some 17))), .inr (.inr (.inl (some 22))), .inr (.inr (.inl (some 48))), .inr (.inr (.inl (some 51))), .inl (.inl 0), .inl (.inl 0), .inl (.inl 0), .inl (.inl 0), .inl (.inl 0), .inl (.inl 0), .inl (.inl 0), .inl (.inl 0), .inl (.inl 0), .inr (.inr (.inl (some 52))), .inl (.inl (-1))])) := rfl
theorem H48 : pgH0[48]? = some (.inr (6, [.inr (.inr (.inl (some 49))), .inr (.inr (.inl (some 50))), .inl (.inl 0), .inl (.inl 0)])) := rfl
theorem H49 : pgH0[49]? = some (.inl (0, 3010, .inl [])) := rfl
theorem H50 : pgH0[50]? = some (.inl (0, 2416, .inl [])) := rfl
theorem H51 : pgH0[51]? = some (.inl (0, 4515, .inl [])) := rfl
theorem H52 : pgH0[52]? = some (.inl (0, 301, .inl [])) := rfl
theorem H53 : pgH0[53]? = some (.inr (12, [.inl (.inl 0), .inl (.inl 10), .inr (.inr (.inl (some 54))), .inr (.inr (.inl (some 55))), .inr (.inr (.inl (some 56))), .inl (.inl 0), .inr (.inr (.inl (some 57))), .inr (.inr (.inl (some 58))), .inr (.inr (.inl (some 59))), .inr (.inr (.inl (some 60))), .inr (.inr (.inl (some 61))), .inr (.inr (.inl (some 62))), .inl (.inl 0), .inr (.inr (.inl (some 63))), .inr (.inr (.inl (some 64))), .inr (.inr (.inl (some 65))), .inr (.inr (.inl (some 66))), .inl (.inl 0), .inr (.inr (.inl (some 67))), .inr (.inr (.inl (some 68))), .inr (.inr (.inl (some 69))), .inr (.inr (.inl (some 70))), .inr (.inr (.inl (some 71))), .inr (.inr (.inl (some 72))), .inl (.inl 0), .inr (.inr (.inl (some 73))), .inr (.inr (.inl (some 74))), .inr (.inr (.inl (some 75))), .inl (.inl 0), .inr (.inr (.inl (some 76))), .inr (.inr (.inl (some 77))), .inr (.inr (.inl (some 78))), .inr (.inr (.inl (some 79))), .inr (.inr (.inl (some 80))), .inr (.inr (.inl (some 81))), .inr (.inr (.inl (some 82))), .inr (.inr (.inl (some 83))), .inr (.inr (.inl (some 84))), .inr (.inr (.inl (some 85))), .inr (.inr (.inl (some 86))), .inr (.inr (.inl (some 87))), .inr (.inr (.inl (some 88))), .inr (.inr (.inl (some 89))), .inl (.inl 0), .inr (.inr (.inl (some 90))), .inr (.inr (.inl (some 91))), .inl (.inl 0), .inl (.inl 0), .inl (.inl 0), .inl (.inl 0), .inl (.inl 0), .inr (.inr (.inl (some 92))), .inr (.inr (.inl (some 93))), .inl (.inl 0), .inl (.inl 0), .inl (.inl 0), .inl (.inl 0), .inr (.inr (.inl (some 94))), .inl (.inl 0), .inl (.inl 0), .inl (.inl 0), .inl (.inl 0), .inr (.inr (.inl (some 95))), .inr (.inr (.inl (some 96))), .inr (.inr (.inl (some 97))), .inr (.inr (.inl (some 98))), .inr (.inr (.inl (some 99))), .inr (.inr (.inl (some 100))), .inl (.inl 0), .inr (.inr (.inl (some 101))), .inr (.inr (.inl (some 102))), .inl (.inl 0), .inr (.inr (.inl (some 103))), .inr (.inr (.inl (some 104))), .inr (.inr (.inl (some 105))), .inr (.inr (.inl (some 106))), .inr (.inr (.inl (some 107))), .inr (.inr (.inl (some 108))), .inl (.inl 0), .inl (.inl 0), .inl (.inl 0)])) := rfl
theorem H54 : pgH0[54]? = some (.inl (0, 40, .inl [(9, .inl 2), (8, .inl 2), (7, .inl 2), (6, .inl 2), (5, .inl 2), (4, .inl 2), (3, .inl 2), (2, .inl 2), (1, .inl 1), (0, .inl 0)])) := rfl
theorem H55 : pgH0[55]? = some (.inl (0, 40, .inl [])) := rfl
theorem H56 : pgH0[56]? = some (.inl (0, 40, .inl [])) := rfl
theorem H57 : pgH0[57]? = some (.inl (0, 6, .inl [])) := rfl
theorem H58 : pgH0[58]? = some (.inl (0, 6, .inl [])) := rfl
theorem H59 : pgH0[59]? = some (.inl (0, 18, .inl [])) := rfl
theorem H60 : pgH0[60]? = some (.inl (1, 18, .inl [])) := rfl
theorem H61 : pgH0[61]? = some (.inl (0, 18, .inl [])) := rfl
theorem H62 : pgH0[62]? = some (.inl (0, 54, .inl [])) := rfl
theorem H63 : pgH0[63]? = some (.inl (0, 200, .inl [])) := rfl
theorem H64 : pgH0[64]? = some (.inl (0, 200, .inl [])) := rfl
theorem H65 : pgH0[65]? = some (.inl (0, 200, .inl [])) := rfl
theorem H66 : pgH0[66]? = some (.inl (0, 200, .inl [])) := rfl
theorem H67 : pgH0[67]? = some (.inl (0, 20, .inl [])) := rfl
theorem H68 : pgH0[68]? = some (.inl (0, 20, .inl [])) := rfl
theorem H69 : pgH0[69]? = some (.inl (0, 20, .inl [])) := rfl
theorem H70 : pgH0[70]? = some (.inl (0, 20, .inl [])) := rfl
theorem H71 : pgH0[71]? = some (.inl (0, 160, .inl [])) := rfl
theorem H72 : pgH0[72]? = some (.inl (0, 35520, .inl [])) := rfl
theorem H73 : pgH0[73]? = some (.inl (0, 200000, .inl [])) := rfl
theorem H74 : pgH0[74]? = some (.inl (0, 200000, .inl [])) := rfl
theorem H75 : pgH0[75]? = some (.inl (0, 200000, .inl [])) := rfl
theorem H76 : pgH0[76]? = some (.inl (0, 4000, .inl [])) := rfl
theorem H77 : pgH0[77]? = some (.inl (0, 4000, .inl [])) := rfl
theorem H78 : pgH0[78]? = some (.inl (0, 4000, .inl [])) := rfl
theorem H79 : pgH0[79]? = some (.inl (0, 4000, .inl [])) := rfl
theorem H80 : pgH0[80]? = some (.inl (0, 4000, .inl [])) := rfl
theorem H81 : pgH0[81]? = some (.inl (0, 4000, .inl [])) := rfl
theorem H82 : pgH0[82]? = some (.inl (0, 16000, .inl [])) := rfl
theorem H83 : pgH0[83]? = some (.inl (0, 40, .inl [])) := rfl
theorem H84 : pgH0[84]? = some (.inl (0, 60, .inl [])) := rfl
theorem H85 : pgH0[85]? = some (.inl (0, 60, .inl [])) := rfl
theorem H86 : pgH0[86]? = some (.inl (0, 60, .inl [])) := rfl
theorem H87 : pgH0[87]? = some (.inl (0, 60, .inl [])) := rfl
theorem H88 : pgH0[88]? = some (.inl (0, 480, .inl [])) := rfl
theorem H89 : pgH0[89]? = some (.inl (0, 60, .inl [])) := rfl
theorem H90 : pgH0[90]? = some (.inl (0, 700, .inl [])) := rfl
theorem H91 : pgH0[91]? = some (.inl (0, 700, .inl [])) := rfl
theorem H92 : pgH0[92]? = some (.inl (0, 4000, .inl [])) := rfl
theorem H93 : pgH0[93]? = some (.inl (0, 4000, .inl [])) := rfl
theorem H94 : pgH0[94]? = some (.inl (0, 400, .inl [])) := rfl
theorem H95 : pgH0[95]? = some (.inl (0, 6000, .inl [])) := rfl
theorem H96 : pgH0[96]? = some (.inl (0, 6000, .inl [])) := rfl
theorem H97 : pgH0[97]? = some (.inl (0, 6000, .inl [])) := rfl
theorem H98 : pgH0[98]? = some (.inl (0, 6000, .inl [])) := rfl
theorem H99 : pgH0[99]? = some (.inl (0, 6000, .inl [])) := rfl
theorem H100 : pgH0[100]? = some (.inl (0, 6000, .inl [])) := rfl
theorem H101 : pgH0[101]? = some (.inl (0, 4000, .inl [])) := rfl
theorem H102 : pgH0[102]? = some (.inl (0, 4000, .inl [])) := rfl
theorem H103 : pgH0[103]? = some (.inl (0, 2000, .inl [])) := rfl
theorem H104 : pgH0[104]? = some (.inl (0, 2000, .inl [])) := rfl
theorem H105 : pgH0[105]? = some (.inl (0, 2000, .inl [])) := rfl
theorem H106 : pgH0[106]? = some (.inl (0, 2000, .inl [])) := rfl
theorem H107 : pgH0[107]? = some (.inl (0, 2000, .inl [])) := rfl
theorem H108 : pgH0[108]? = some (.inl (0, 2000, .inl [])) := rfl
theorem H109 : pgH0[109]? = some (.inl (2, 1, .inr [])) := rfl
