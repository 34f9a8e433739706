/-! More methods as functions, printed by a program. -/
set_option maxRecDepth 20000 in
theorem E45 : pgMm 45 = some (⟨"DictionaryHouse", "local", "(I)I"⟩, prog_1_method_8_code, 2, (some .int), []) := rfl
theorem D45_0 : pgDecT 45 0 = some (.iload_n 1, 1) := by decide +kernel
theorem D45_1 : pgDecT 45 1 = some (.ifCond .lt 13, 3) := by decide +kernel
theorem D45_14 : pgDecT 45 14 = some (.iconst 0, 1) := by decide +kernel
theorem D45_15 : pgDecT 45 15 = some (.invokestatic 67, 3) := by decide +kernel
theorem I45_67 : pgIi 45 67 = some (18, 1, 100) := by decide +kernel
theorem D45_4 : pgDecT 45 4 = some (.iload_n 1, 1) := by decide +kernel
theorem D45_5 : pgDecT 45 5 = some (.bipush 10, 2) := by decide +kernel
theorem D45_7 : pgDecT 45 7 = some (.if_icmp .ge 7, 3) := by decide +kernel
theorem D45_10 : pgDecT 45 10 = some (.iconst 1, 1) := by decide +kernel
theorem D45_11 : pgDecT 45 11 = some (.goto 4, 3) := by decide +kernel
theorem D45_18 : pgDecT 45 18 = some (.aload_n 0, 1) := by decide +kernel
theorem D45_19 : pgDecT 45 19 = some (.iconst 2, 1) := by decide +kernel
theorem D45_20 : pgDecT 45 20 = some (.iload_n 1, 1) := by decide +kernel
theorem D45_21 : pgDecT 45 21 = some (.iconst (-1), 1) := by decide +kernel
theorem D45_22 : pgDecT 45 22 = some (.invokevirtual 102, 3) := by decide +kernel
theorem I45_102 : pgIi 45 102 = some (38, 3, 11) := by decide +kernel
theorem D45_25 : pgDecT 45 25 = some (.ireturn, 1) := by decide +kernel
/-! 45: DictionaryHouse.local (I)I -/
def f45 (M : Mm) (x1 : Int) : Option (Int × Int × Mm) := if x1 < 0 then (some (1, 0, M)) else (if 10 ≤ x1 then (some (1, 0, M)) else (f38 M 2 x1 (-1)).bind (fun zq7 => if zq7.1 = 0 then (some (0, zq7.2.1, zq7.2.2)) else some (zq7.1, 0, zq7.2.2)))
theorem c45 {L : Nat} {xs : Nat → Int32} {h : mvH} {M : Mm} {x1 : Int} {k v : Int} {M' : Mm} (R : rp h M) (rx1 : rg x1) (hs : f45 M x1 = some (k, v, M')) : evx L xs 10 45 0 [(0, .inr (.inr (.inl (some 0)))), (1, .inl (iz x1))] [] h (ot k v) M' := by
  unfold f45 at hs
  refine evx_F E45 D45_0 rfl rfl ?_
  by_cases cb1 : x1 < 0
  · rw [if_pos cb1] at hs
    refine evx_F E45 D45_1 rfl (ifT (c1_lt_T rx1 cb1)) ?_
    refine evx_F E45 D45_14 rfl rfl ?_
    cases hs
    exact evx_rqF (b := true) E45 D45_15 I45_67 (Nat.le_of_ble_eq_true rfl) rfl (Nat.le_of_ble_eq_true rfl) rfl rfl rfl R
  · rw [if_neg cb1] at hs
    refine evx_F E45 D45_1 rfl (ifF (c1_lt_F rx1 (by omega))) ?_
    refine evx_F E45 D45_4 rfl rfl ?_
    refine evx_k (k := 10) E45 D45_5 rfl (by decide) ?_
    by_cases cb3 : 10 ≤ x1
    · rw [if_pos cb3] at hs
      refine evx_F E45 D45_7 rfl (ifT (c2_ge_T rx1 (by decide) cb3)) ?_
      refine evx_F E45 D45_14 rfl rfl ?_
      cases hs
      exact evx_rqF (b := true) E45 D45_15 I45_67 (Nat.le_of_ble_eq_true rfl) rfl (Nat.le_of_ble_eq_true rfl) rfl rfl rfl R
    · rw [if_neg cb3] at hs
      refine evx_F E45 D45_7 rfl (ifF (c2_ge_F rx1 (by decide) (by omega))) ?_
      refine evx_F E45 D45_10 rfl rfl ?_
      refine evx_F E45 D45_11 rfl rfl ?_
      refine evx_rqT (b := true) E45 D45_15 I45_67 (Nat.le_of_ble_eq_true rfl) rfl (Nat.le_of_ble_eq_true rfl) (by decide) (by decide) ?_
      refine evx_F E45 D45_18 rfl rfl ?_
      refine evx_F E45 D45_19 rfl rfl ?_
      refine evx_F E45 D45_20 rfl rfl ?_
      refine evx_F E45 D45_21 rfl rfl ?_
      obtain ⟨⟨kq12, q7, M11⟩, e6, hs⟩ := Option.bind_eq_some_iff.mp hs
      dsimp only at hs
      have ge6 := c38 (L := L) (xs := xs) R (by decide) rx1 (by decide) e6
      by_cases cb13 : kq12 = 0
      · rw [if_pos cb13] at hs
        subst cb13
        refine evx_cv (D := 9) E45 D45_22 I45_102 rfl rfl H0 ⟨Nat.le_of_ble_eq_true rfl, Nat.le_of_ble_eq_true rfl⟩ ⟨rfl, Nat.le_of_ble_eq_true rfl⟩ rfl R (evx_up (Nat.le_of_ble_eq_true rfl) ge6) ?_
        intro h8 R9 w10
        have w10 : rg q7 := w10
        show evx _ _ _ _ _ _ (.inl (iz q7) :: _) _ _ _
        cases hs
        exact evx_ret E45 D45_25 rfl (fun d => rfl) rfl (show rg _ from w10) R9
      · rw [if_neg cb13] at hs
        cases hs
        rw [ot_ne cb13] at ge6 ⊢
        exact evx_thv (D := 9) E45 D45_22 I45_102 rfl rfl H0 ⟨Nat.le_of_ble_eq_true rfl, Nat.le_of_ble_eq_true rfl⟩ ⟨rfl, Nat.le_of_ble_eq_true rfl⟩ rfl (thb (P := fun b => pgHf 45 22 (exn b) = none) rfl rfl _) rfl R (evx_up (Nat.le_of_ble_eq_true rfl) ge6)
set_option maxRecDepth 20000 in
theorem E47 : pgMm 47 = some (⟨"DictionaryHouse", "lambda", "(I)I"⟩, prog_1_method_9_code, 2, (some .int), []) := rfl
theorem D47_0 : pgDecT 47 0 = some (.aload_n 0, 1) := by decide +kernel
theorem D47_1 : pgDecT 47 1 = some (.getfield 26, 3) := by decide +kernel
theorem F47_26 : pgFf 47 26 = some (11, 2, 3) := by decide +kernel
theorem D47_4 : pgDecT 47 4 = some (.iload_n 1, 1) := by decide +kernel
theorem D47_5 : pgDecT 47 5 = some (.invokevirtual 110, 3) := by decide +kernel
theorem I47_110 : pgIi 47 110 = some (48, 1, 4) := by decide +kernel
theorem D47_8 : pgDecT 47 8 = some (.invokestatic 67, 3) := by decide +kernel
theorem I47_67 : pgIi 47 67 = some (18, 1, 100) := by decide +kernel
theorem D47_11 : pgDecT 47 11 = some (.aload_n 0, 1) := by decide +kernel
theorem D47_12 : pgDecT 47 12 = some (.iconst 3, 1) := by decide +kernel
theorem D47_13 : pgDecT 47 13 = some (.iload_n 1, 1) := by decide +kernel
theorem D47_14 : pgDecT 47 14 = some (.iconst (-1), 1) := by decide +kernel
theorem D47_15 : pgDecT 47 15 = some (.invokevirtual 102, 3) := by decide +kernel
theorem I47_102 : pgIi 47 102 = some (38, 3, 11) := by decide +kernel
theorem D47_18 : pgDecT 47 18 = some (.ireturn, 1) := by decide +kernel
/-! 47: DictionaryHouse.lambda (I)I -/
def f47 (M : Mm) (x1 : Int) : Option (Int × Int × Mm) := (f48 M x1).bind (fun q2 => if q2 = 0 then some (1, 0, M) else (f38 M 3 x1 (-1)).bind (fun zq8 => if zq8.1 = 0 then (some (0, zq8.2.1, zq8.2.2)) else some (zq8.1, 0, zq8.2.2)))
theorem c47 {L : Nat} {xs : Nat → Int32} {h : mvH} {M : Mm} {x1 : Int} {k v : Int} {M' : Mm} (R : rp h M) (rx1 : rg x1) (hs : f47 M x1 = some (k, v, M')) : evx L xs 10 47 0 [(0, .inr (.inr (.inl (some 0)))), (1, .inl (iz x1))] [] h (ot k v) M' := by
  unfold f47 at hs
  refine evx_F E47 D47_0 rfl rfl ?_
  refine evx_gfr E47 D47_1 F47_26 H0 rfl R ?_
  refine evx_F E47 D47_4 rfl rfl ?_
  obtain ⟨q2, e1, hs⟩ := Option.bind_eq_some_iff.mp hs
  refine evx_cv (D := 9) E47 D47_5 I47_110 rfl rfl H12 ⟨Nat.le_of_ble_eq_true rfl, Nat.le_of_ble_eq_true rfl⟩ ⟨rfl, Nat.le_of_ble_eq_true rfl⟩ rfl R (evx_up (Nat.le_of_ble_eq_true rfl) (c48 R rx1 e1)) ?_
  intro h3 R4 w5
  have w5 : rg q2 := w5
  show evx _ _ _ _ _ _ (.inl (iz q2) :: _) _ _ _
  by_cases cb6 : q2 = 0
  · rw [if_pos cb6] at hs
    cases hs
    exact evx_rqF (b := true) E47 D47_8 I47_67 (Nat.le_of_ble_eq_true rfl) rfl (Nat.le_of_ble_eq_true rfl) cb6 rfl rfl R4
  · rw [if_neg cb6] at hs
    refine evx_rqT (b := true) E47 D47_8 I47_67 (Nat.le_of_ble_eq_true rfl) rfl (Nat.le_of_ble_eq_true rfl) w5 cb6 ?_
    refine evx_F E47 D47_11 rfl rfl ?_
    refine evx_F E47 D47_12 rfl rfl ?_
    refine evx_F E47 D47_13 rfl rfl ?_
    refine evx_F E47 D47_14 rfl rfl ?_
    obtain ⟨⟨kq13, q8, M12⟩, e7, hs⟩ := Option.bind_eq_some_iff.mp hs
    dsimp only at hs
    have ge7 := c38 (L := L) (xs := xs) R4 (by decide) rx1 (by decide) e7
    by_cases cb14 : kq13 = 0
    · rw [if_pos cb14] at hs
      subst cb14
      refine evx_cv (D := 9) E47 D47_15 I47_102 rfl rfl H0 ⟨Nat.le_of_ble_eq_true rfl, Nat.le_of_ble_eq_true rfl⟩ ⟨rfl, Nat.le_of_ble_eq_true rfl⟩ rfl R4 (evx_up (Nat.le_of_ble_eq_true rfl) ge7) ?_
      intro h9 R10 w11
      have w11 : rg q8 := w11
      show evx _ _ _ _ _ _ (.inl (iz q8) :: _) _ _ _
      cases hs
      exact evx_ret E47 D47_18 rfl (fun d => rfl) rfl (show rg _ from w11) R10
    · rw [if_neg cb14] at hs
      cases hs
      rw [ot_ne cb14] at ge7 ⊢
      exact evx_thv (D := 9) E47 D47_15 I47_102 rfl rfl H0 ⟨Nat.le_of_ble_eq_true rfl, Nat.le_of_ble_eq_true rfl⟩ ⟨rfl, Nat.le_of_ble_eq_true rfl⟩ rfl (thb (P := fun b => pgHf 47 15 (exn b) = none) rfl rfl _) rfl R4 (evx_up (Nat.le_of_ble_eq_true rfl) ge7)
set_option maxRecDepth 20000 in
theorem E50 : pgMm 50 = some (⟨"DictionaryHouse", "apply", "(II)I"⟩, prog_1_method_10_code, 3, (some .int), []) := rfl
theorem D50_0 : pgDecT 50 0 = some (.aload_n 0, 1) := by decide +kernel
theorem D50_1 : pgDecT 50 1 = some (.getfield 26, 3) := by decide +kernel
theorem F50_26 : pgFf 50 26 = some (11, 2, 3) := by decide +kernel
theorem D50_4 : pgDecT 50 4 = some (.iload_n 1, 1) := by decide +kernel
theorem D50_5 : pgDecT 50 5 = some (.invokevirtual 110, 3) := by decide +kernel
theorem I50_110 : pgIi 50 110 = some (48, 1, 4) := by decide +kernel
theorem D50_8 : pgDecT 50 8 = some (.ifCond .eq 18, 3) := by decide +kernel
theorem D50_26 : pgDecT 50 26 = some (.iconst 0, 1) := by decide +kernel
theorem D50_27 : pgDecT 50 27 = some (.invokestatic 67, 3) := by decide +kernel
theorem I50_67 : pgIi 50 67 = some (18, 1, 100) := by decide +kernel
theorem D50_11 : pgDecT 50 11 = some (.aload_n 0, 1) := by decide +kernel
theorem D50_12 : pgDecT 50 12 = some (.getfield 26, 3) := by decide +kernel
theorem D50_15 : pgDecT 50 15 = some (.iload_n 2, 1) := by decide +kernel
theorem D50_16 : pgDecT 50 16 = some (.invokevirtual 110, 3) := by decide +kernel
theorem D50_19 : pgDecT 50 19 = some (.ifCond .eq 7, 3) := by decide +kernel
theorem D50_22 : pgDecT 50 22 = some (.iconst 1, 1) := by decide +kernel
theorem D50_23 : pgDecT 50 23 = some (.goto 4, 3) := by decide +kernel
theorem D50_30 : pgDecT 50 30 = some (.aload_n 0, 1) := by decide +kernel
theorem D50_31 : pgDecT 50 31 = some (.iconst 4, 1) := by decide +kernel
theorem D50_32 : pgDecT 50 32 = some (.iload_n 1, 1) := by decide +kernel
theorem D50_33 : pgDecT 50 33 = some (.iload_n 2, 1) := by decide +kernel
theorem D50_34 : pgDecT 50 34 = some (.invokevirtual 102, 3) := by decide +kernel
theorem I50_102 : pgIi 50 102 = some (38, 3, 11) := by decide +kernel
theorem D50_37 : pgDecT 50 37 = some (.ireturn, 1) := by decide +kernel
/-! 50: DictionaryHouse.apply (II)I -/
def f50 (M : Mm) (x1 : Int) (x2 : Int) : Option (Int × Int × Mm) := (f48 M x1).bind (fun q2 => if q2 = 0 then (some (1, 0, M)) else (f48 M x2).bind (fun q9 => if q9 = 0 then (some (1, 0, M)) else (f38 M 4 x1 x2).bind (fun zq17 => if zq17.1 = 0 then (some (0, zq17.2.1, zq17.2.2)) else some (zq17.1, 0, zq17.2.2))))
theorem c50 {L : Nat} {xs : Nat → Int32} {h : mvH} {M : Mm} {x1 x2 : Int} {k v : Int} {M' : Mm} (R : rp h M) (rx1 : rg x1) (rx2 : rg x2) (hs : f50 M x1 x2 = some (k, v, M')) : evx L xs 10 50 0 [(0, .inr (.inr (.inl (some 0)))), (1, .inl (iz x1)), (2, .inl (iz x2))] [] h (ot k v) M' := by
  unfold f50 at hs
  refine evx_F E50 D50_0 rfl rfl ?_
  refine evx_gfr E50 D50_1 F50_26 H0 rfl R ?_
  refine evx_F E50 D50_4 rfl rfl ?_
  obtain ⟨q2, e1, hs⟩ := Option.bind_eq_some_iff.mp hs
  refine evx_cv (D := 9) E50 D50_5 I50_110 rfl rfl H12 ⟨Nat.le_of_ble_eq_true rfl, Nat.le_of_ble_eq_true rfl⟩ ⟨rfl, Nat.le_of_ble_eq_true rfl⟩ rfl R (evx_up (Nat.le_of_ble_eq_true rfl) (c48 R rx1 e1)) ?_
  intro h3 R4 w5
  have w5 : rg q2 := w5
  show evx _ _ _ _ _ _ (.inl (iz q2) :: _) _ _ _
  by_cases cb6 : q2 = 0
  · rw [if_pos cb6] at hs
    refine evx_F E50 D50_8 rfl (ifT (c1_eq_T w5 cb6)) ?_
    refine evx_F E50 D50_26 rfl rfl ?_
    cases hs
    exact evx_rqF (b := true) E50 D50_27 I50_67 (Nat.le_of_ble_eq_true rfl) rfl (Nat.le_of_ble_eq_true rfl) rfl rfl rfl R4
  · rw [if_neg cb6] at hs
    refine evx_F E50 D50_8 rfl (ifF (c1_eq_F w5 (by omega))) ?_
    refine evx_F E50 D50_11 rfl rfl ?_
    refine evx_gfr E50 D50_12 F50_26 H0 rfl R4 ?_
    refine evx_F E50 D50_15 rfl rfl ?_
    obtain ⟨q9, e8, hs⟩ := Option.bind_eq_some_iff.mp hs
    refine evx_cv (D := 9) E50 D50_16 I50_110 rfl rfl H12 ⟨Nat.le_of_ble_eq_true rfl, Nat.le_of_ble_eq_true rfl⟩ ⟨rfl, Nat.le_of_ble_eq_true rfl⟩ rfl R4 (evx_up (Nat.le_of_ble_eq_true rfl) (c48 R4 rx2 e8)) ?_
    intro h10 R11 w12
    have w12 : rg q9 := w12
    show evx _ _ _ _ _ _ (.inl (iz q9) :: _) _ _ _
    by_cases cb13 : q9 = 0
    · rw [if_pos cb13] at hs
      refine evx_F E50 D50_19 rfl (ifT (c1_eq_T w12 cb13)) ?_
      refine evx_F E50 D50_26 rfl rfl ?_
      cases hs
      exact evx_rqF (b := true) E50 D50_27 I50_67 (Nat.le_of_ble_eq_true rfl) rfl (Nat.le_of_ble_eq_true rfl) rfl rfl rfl R11
    · rw [if_neg cb13] at hs
      refine evx_F E50 D50_19 rfl (ifF (c1_eq_F w12 (by omega))) ?_
      refine evx_F E50 D50_22 rfl rfl ?_
      refine evx_F E50 D50_23 rfl rfl ?_
      refine evx_rqT (b := true) E50 D50_27 I50_67 (Nat.le_of_ble_eq_true rfl) rfl (Nat.le_of_ble_eq_true rfl) (by decide) (by decide) ?_
      refine evx_F E50 D50_30 rfl rfl ?_
      refine evx_F E50 D50_31 rfl rfl ?_
      refine evx_F E50 D50_32 rfl rfl ?_
      refine evx_F E50 D50_33 rfl rfl ?_
      obtain ⟨⟨kq22, q17, M21⟩, e16, hs⟩ := Option.bind_eq_some_iff.mp hs
      dsimp only at hs
      have ge16 := c38 (L := L) (xs := xs) R11 (by decide) rx1 rx2 e16
      by_cases cb23 : kq22 = 0
      · rw [if_pos cb23] at hs
        subst cb23
        refine evx_cv (D := 9) E50 D50_34 I50_102 rfl rfl H0 ⟨Nat.le_of_ble_eq_true rfl, Nat.le_of_ble_eq_true rfl⟩ ⟨rfl, Nat.le_of_ble_eq_true rfl⟩ rfl R11 (evx_up (Nat.le_of_ble_eq_true rfl) ge16) ?_
        intro h18 R19 w20
        have w20 : rg q17 := w20
        show evx _ _ _ _ _ _ (.inl (iz q17) :: _) _ _ _
        cases hs
        exact evx_ret E50 D50_37 rfl (fun d => rfl) rfl (show rg _ from w20) R19
      · rw [if_neg cb23] at hs
        cases hs
        rw [ot_ne cb23] at ge16 ⊢
        exact evx_thv (D := 9) E50 D50_34 I50_102 rfl rfl H0 ⟨Nat.le_of_ble_eq_true rfl, Nat.le_of_ble_eq_true rfl⟩ ⟨rfl, Nat.le_of_ble_eq_true rfl⟩ rfl (thb (P := fun b => pgHf 50 34 (exn b) = none) rfl rfl _) rfl R11 (evx_up (Nat.le_of_ble_eq_true rfl) ge16)
set_option maxRecDepth 20000 in
theorem E52 : pgMm 52 = some (⟨"DictionaryHouse", "use", "(II)I"⟩, prog_1_method_11_code, 3, (some .int), []) := rfl
theorem D52_0 : pgDecT 52 0 = some (.aload_n 0, 1) := by decide +kernel
theorem D52_1 : pgDecT 52 1 = some (.getfield 19, 3) := by decide +kernel
theorem F52_19 : pgFf 52 19 = some (11, 1, 3) := by decide +kernel
theorem D52_4 : pgDecT 52 4 = some (.iload_n 1, 1) := by decide +kernel
theorem D52_5 : pgDecT 52 5 = some (.iload_n 2, 1) := by decide +kernel
theorem D52_6 : pgDecT 52 6 = some (.invokevirtual 111, 3) := by decide +kernel
theorem I52_111 : pgIi 52 111 = some (53, 2, 1) := by decide +kernel
theorem D52_9 : pgDecT 52 9 = some (.invokestatic 67, 3) := by decide +kernel
theorem I52_67 : pgIi 52 67 = some (18, 1, 100) := by decide +kernel
theorem D52_12 : pgDecT 52 12 = some (.aload_n 0, 1) := by decide +kernel
theorem D52_13 : pgDecT 52 13 = some (.iconst 5, 1) := by decide +kernel
theorem D52_14 : pgDecT 52 14 = some (.iload_n 1, 1) := by decide +kernel
theorem D52_15 : pgDecT 52 15 = some (.iload_n 2, 1) := by decide +kernel
theorem D52_16 : pgDecT 52 16 = some (.invokevirtual 102, 3) := by decide +kernel
theorem I52_102 : pgIi 52 102 = some (38, 3, 11) := by decide +kernel
theorem D52_19 : pgDecT 52 19 = some (.ireturn, 1) := by decide +kernel
/-! 52: DictionaryHouse.use (II)I -/
def f52 (M : Mm) (x1 : Int) (x2 : Int) : Option (Int × Int × Mm) := (f53 M x1 x2).bind (fun q2 => if q2 = 0 then some (1, 0, M) else (f38 M 5 x1 x2).bind (fun zq8 => if zq8.1 = 0 then (some (0, zq8.2.1, zq8.2.2)) else some (zq8.1, 0, zq8.2.2)))
theorem c52 {L : Nat} {xs : Nat → Int32} {h : mvH} {M : Mm} {x1 x2 : Int} {k v : Int} {M' : Mm} (R : rp h M) (rx1 : rg x1) (rx2 : rg x2) (hs : f52 M x1 x2 = some (k, v, M')) : evx L xs 10 52 0 [(0, .inr (.inr (.inl (some 0)))), (1, .inl (iz x1)), (2, .inl (iz x2))] [] h (ot k v) M' := by
  unfold f52 at hs
  refine evx_F E52 D52_0 rfl rfl ?_
  refine evx_gfr E52 D52_1 F52_19 H0 rfl R ?_
  refine evx_F E52 D52_4 rfl rfl ?_
  refine evx_F E52 D52_5 rfl rfl ?_
  obtain ⟨q2, e1, hs⟩ := Option.bind_eq_some_iff.mp hs
  refine evx_cv (D := 9) E52 D52_6 I52_111 rfl rfl H5 ⟨Nat.le_of_ble_eq_true rfl, Nat.le_of_ble_eq_true rfl⟩ ⟨rfl, Nat.le_of_ble_eq_true rfl⟩ rfl R (evx_up (Nat.le_of_ble_eq_true rfl) (c53 R rx1 rx2 e1)) ?_
  intro h3 R4 w5
  have w5 : rg q2 := w5
  show evx _ _ _ _ _ _ (.inl (iz q2) :: _) _ _ _
  by_cases cb6 : q2 = 0
  · rw [if_pos cb6] at hs
    cases hs
    exact evx_rqF (b := true) E52 D52_9 I52_67 (Nat.le_of_ble_eq_true rfl) rfl (Nat.le_of_ble_eq_true rfl) cb6 rfl rfl R4
  · rw [if_neg cb6] at hs
    refine evx_rqT (b := true) E52 D52_9 I52_67 (Nat.le_of_ble_eq_true rfl) rfl (Nat.le_of_ble_eq_true rfl) w5 cb6 ?_
    refine evx_F E52 D52_12 rfl rfl ?_
    refine evx_F E52 D52_13 rfl rfl ?_
    refine evx_F E52 D52_14 rfl rfl ?_
    refine evx_F E52 D52_15 rfl rfl ?_
    obtain ⟨⟨kq13, q8, M12⟩, e7, hs⟩ := Option.bind_eq_some_iff.mp hs
    dsimp only at hs
    have ge7 := c38 (L := L) (xs := xs) R4 (by decide) rx1 rx2 e7
    by_cases cb14 : kq13 = 0
    · rw [if_pos cb14] at hs
      subst cb14
      refine evx_cv (D := 9) E52 D52_16 I52_102 rfl rfl H0 ⟨Nat.le_of_ble_eq_true rfl, Nat.le_of_ble_eq_true rfl⟩ ⟨rfl, Nat.le_of_ble_eq_true rfl⟩ rfl R4 (evx_up (Nat.le_of_ble_eq_true rfl) ge7) ?_
      intro h9 R10 w11
      have w11 : rg q8 := w11
      show evx _ _ _ _ _ _ (.inl (iz q8) :: _) _ _ _
      cases hs
      exact evx_ret E52 D52_19 rfl (fun d => rfl) rfl (show rg _ from w11) R10
    · rw [if_neg cb14] at hs
      cases hs
      rw [ot_ne cb14] at ge7 ⊢
      exact evx_thv (D := 9) E52 D52_16 I52_102 rfl rfl H0 ⟨Nat.le_of_ble_eq_true rfl, Nat.le_of_ble_eq_true rfl⟩ ⟨rfl, Nat.le_of_ble_eq_true rfl⟩ rfl (thb (P := fun b => pgHf 52 16 (exn b) = none) rfl rfl _) rfl R4 (evx_up (Nat.le_of_ble_eq_true rfl) ge7)
set_option maxRecDepth 20000 in
theorem E55 : pgMm 55 = some (⟨"DictionaryHouse", "given", "(I)I"⟩, prog_1_method_12_code, 2, (some .int), []) := rfl
theorem D55_0 : pgDecT 55 0 = some (.aload_n 0, 1) := by decide +kernel
theorem D55_1 : pgDecT 55 1 = some (.getfield 33, 3) := by decide +kernel
theorem F55_33 : pgFf 55 33 = some (11, 3, 3) := by decide +kernel
theorem D55_4 : pgDecT 55 4 = some (.iload_n 1, 1) := by decide +kernel
theorem D55_5 : pgDecT 55 5 = some (.invokevirtual 115, 3) := by decide +kernel
theorem I55_115 : pgIi 55 115 = some (56, 1, 3) := by decide +kernel
theorem D55_8 : pgDecT 55 8 = some (.invokestatic 67, 3) := by decide +kernel
theorem I55_67 : pgIi 55 67 = some (18, 1, 100) := by decide +kernel
theorem D55_11 : pgDecT 55 11 = some (.aload_n 0, 1) := by decide +kernel
theorem D55_12 : pgDecT 55 12 = some (.bipush 6, 2) := by decide +kernel
theorem D55_14 : pgDecT 55 14 = some (.iload_n 1, 1) := by decide +kernel
theorem D55_15 : pgDecT 55 15 = some (.iconst (-1), 1) := by decide +kernel
theorem D55_16 : pgDecT 55 16 = some (.invokevirtual 102, 3) := by decide +kernel
theorem I55_102 : pgIi 55 102 = some (38, 3, 11) := by decide +kernel
theorem D55_19 : pgDecT 55 19 = some (.ireturn, 1) := by decide +kernel
/-! 55: DictionaryHouse.given (I)I -/
def f55 (M : Mm) (x1 : Int) : Option (Int × Int × Mm) := (f56 M x1).bind (fun q2 => if q2 = 0 then some (1, 0, M) else (f38 M 6 x1 (-1)).bind (fun zq8 => if zq8.1 = 0 then (some (0, zq8.2.1, zq8.2.2)) else some (zq8.1, 0, zq8.2.2)))
theorem c55 {L : Nat} {xs : Nat → Int32} {h : mvH} {M : Mm} {x1 : Int} {k v : Int} {M' : Mm} (R : rp h M) (rx1 : rg x1) (hs : f55 M x1 = some (k, v, M')) : evx L xs 10 55 0 [(0, .inr (.inr (.inl (some 0)))), (1, .inl (iz x1))] [] h (ot k v) M' := by
  unfold f55 at hs
  refine evx_F E55 D55_0 rfl rfl ?_
  refine evx_gfr E55 D55_1 F55_33 H0 rfl R ?_
  refine evx_F E55 D55_4 rfl rfl ?_
  obtain ⟨q2, e1, hs⟩ := Option.bind_eq_some_iff.mp hs
  refine evx_cv (D := 9) E55 D55_5 I55_115 rfl rfl H17 ⟨Nat.le_of_ble_eq_true rfl, Nat.le_of_ble_eq_true rfl⟩ ⟨rfl, Nat.le_of_ble_eq_true rfl⟩ rfl R (evx_up (Nat.le_of_ble_eq_true rfl) (c56 R rx1 e1)) ?_
  intro h3 R4 w5
  have w5 : rg q2 := w5
  show evx _ _ _ _ _ _ (.inl (iz q2) :: _) _ _ _
  by_cases cb6 : q2 = 0
  · rw [if_pos cb6] at hs
    cases hs
    exact evx_rqF (b := true) E55 D55_8 I55_67 (Nat.le_of_ble_eq_true rfl) rfl (Nat.le_of_ble_eq_true rfl) cb6 rfl rfl R4
  · rw [if_neg cb6] at hs
    refine evx_rqT (b := true) E55 D55_8 I55_67 (Nat.le_of_ble_eq_true rfl) rfl (Nat.le_of_ble_eq_true rfl) w5 cb6 ?_
    refine evx_F E55 D55_11 rfl rfl ?_
    refine evx_k (k := 6) E55 D55_12 rfl (by decide) ?_
    refine evx_F E55 D55_14 rfl rfl ?_
    refine evx_F E55 D55_15 rfl rfl ?_
    obtain ⟨⟨kq13, q8, M12⟩, e7, hs⟩ := Option.bind_eq_some_iff.mp hs
    dsimp only at hs
    have ge7 := c38 (L := L) (xs := xs) R4 (by decide) rx1 (by decide) e7
    by_cases cb14 : kq13 = 0
    · rw [if_pos cb14] at hs
      subst cb14
      refine evx_cv (D := 9) E55 D55_16 I55_102 rfl rfl H0 ⟨Nat.le_of_ble_eq_true rfl, Nat.le_of_ble_eq_true rfl⟩ ⟨rfl, Nat.le_of_ble_eq_true rfl⟩ rfl R4 (evx_up (Nat.le_of_ble_eq_true rfl) ge7) ?_
      intro h9 R10 w11
      have w11 : rg q8 := w11
      show evx _ _ _ _ _ _ (.inl (iz q8) :: _) _ _ _
      cases hs
      exact evx_ret E55 D55_19 rfl (fun d => rfl) rfl (show rg _ from w11) R10
    · rw [if_neg cb14] at hs
      cases hs
      rw [ot_ne cb14] at ge7 ⊢
      exact evx_thv (D := 9) E55 D55_16 I55_102 rfl rfl H0 ⟨Nat.le_of_ble_eq_true rfl, Nat.le_of_ble_eq_true rfl⟩ ⟨rfl, Nat.le_of_ble_eq_true rfl⟩ rfl (thb (P := fun b => pgHf 55 16 (exn b) = none) rfl rfl _) rfl R4 (evx_up (Nat.le_of_ble_eq_true rfl) ge7)
set_option maxRecDepth 20000 in
theorem E89 : pgMm 89 = some (⟨"DictionaryHouse$Typing", "nodeFor", "(II)I"⟩, prog_12_method_17_code, 4, (some .int), []) := rfl
theorem D89_0 : pgDecT 89 0 = some (.aload_n 0, 1) := by decide +kernel
theorem D89_1 : pgDecT 89 1 = some (.iload_n 1, 1) := by decide +kernel
theorem D89_2 : pgDecT 89 2 = some (.invokevirtual 145, 3) := by decide +kernel
theorem I89_145 : pgIi 89 145 = some (90, 1, 10) := by decide +kernel
theorem D89_5 : pgDecT 89 5 = some (.iconst 0, 1) := by decide +kernel
theorem D89_6 : pgDecT 89 6 = some (.istore_n 3, 1) := by decide +kernel
theorem D89_7 : pgDecT 89 7 = some (.iload_n 3, 1) := by decide +kernel
theorem D89_8 : pgDecT 89 8 = some (.iload_n 1, 1) := by decide +kernel
theorem D89_9 : pgDecT 89 9 = some (.if_icmp .gt 139, 3) := by decide +kernel
theorem D89_148 : pgDecT 89 148 = some (.aload_n 0, 1) := by decide +kernel
theorem D89_149 : pgDecT 89 149 = some (.getfield 37, 3) := by decide +kernel
theorem F89_37 : pgFf 89 37 = some (10, 11, 3) := by decide +kernel
theorem D89_152 : pgDecT 89 152 = some (.iload_n 1, 1) := by decide +kernel
theorem D89_153 : pgDecT 89 153 = some (.iaload, 1) := by decide +kernel
theorem D89_154 : pgDecT 89 154 = some (.ireturn, 1) := by decide +kernel
theorem D89_12 : pgDecT 89 12 = some (.aload_n 0, 1) := by decide +kernel
theorem D89_13 : pgDecT 89 13 = some (.getfield 40, 3) := by decide +kernel
theorem F89_40 : pgFf 89 40 = some (10, 12, 3) := by decide +kernel
theorem D89_16 : pgDecT 89 16 = some (.iload_n 3, 1) := by decide +kernel
theorem D89_17 : pgDecT 89 17 = some (.baload, 1) := by decide +kernel
theorem D89_18 : pgDecT 89 18 = some (.ifCond .ne 6, 3) := by decide +kernel
theorem D89_24 : pgDecT 89 24 = some (.iload_n 3, 1) := by decide +kernel
theorem D89_25 : pgDecT 89 25 = some (.iconst 2, 1) := by decide +kernel
theorem D89_26 : pgDecT 89 26 = some (.if_icmp .ge 13, 3) := by decide +kernel
theorem D89_39 : pgDecT 89 39 = some (.iload_n 3, 1) := by decide +kernel
theorem D89_40 : pgDecT 89 40 = some (.bipush 10, 2) := by decide +kernel
theorem D89_42 : pgDecT 89 42 = some (.if_icmp .ge 22, 3) := by decide +kernel
theorem D89_64 : pgDecT 89 64 = some (.aload_n 0, 1) := by decide +kernel
theorem D89_65 : pgDecT 89 65 = some (.getfield 44, 3) := by decide +kernel
theorem F89_44 : pgFf 89 44 = some (10, 0, 3) := by decide +kernel
theorem D89_68 : pgDecT 89 68 = some (.iload_n 3, 1) := by decide +kernel
theorem D89_69 : pgDecT 89 69 = some (.invokevirtual 148, 3) := by decide +kernel
theorem I89_148 : pgIi 89 148 = some (92, 1, 9) := by decide +kernel
theorem D89_72 : pgDecT 89 72 = some (.ifCond .eq 34, 3) := by decide +kernel
theorem D89_106 : pgDecT 89 106 = some (.aload_n 0, 1) := by decide +kernel
theorem D89_107 : pgDecT 89 107 = some (.getfield 37, 3) := by decide +kernel
theorem D89_110 : pgDecT 89 110 = some (.iload_n 3, 1) := by decide +kernel
theorem D89_111 : pgDecT 89 111 = some (.aload_n 0, 1) := by decide +kernel
theorem D89_112 : pgDecT 89 112 = some (.aload_n 0, 1) := by decide +kernel
theorem D89_113 : pgDecT 89 113 = some (.getfield 37, 3) := by decide +kernel
theorem D89_116 : pgDecT 89 116 = some (.aload_n 0, 1) := by decide +kernel
theorem D89_117 : pgDecT 89 117 = some (.getfield 44, 3) := by decide +kernel
theorem D89_120 : pgDecT 89 120 = some (.iload_n 3, 1) := by decide +kernel
theorem D89_121 : pgDecT 89 121 = some (.invokevirtual 151, 3) := by decide +kernel
theorem I89_151 : pgIi 89 151 = some (91, 1, 9) := by decide +kernel
theorem D89_124 : pgDecT 89 124 = some (.iaload, 1) := by decide +kernel
theorem D89_125 : pgDecT 89 125 = some (.aload_n 0, 1) := by decide +kernel
theorem D89_126 : pgDecT 89 126 = some (.getfield 37, 3) := by decide +kernel
theorem D89_129 : pgDecT 89 129 = some (.aload_n 0, 1) := by decide +kernel
theorem D89_130 : pgDecT 89 130 = some (.getfield 44, 3) := by decide +kernel
theorem D89_133 : pgDecT 89 133 = some (.iload_n 3, 1) := by decide +kernel
theorem D89_134 : pgDecT 89 134 = some (.invokevirtual 154, 3) := by decide +kernel
theorem I89_154 : pgIi 89 154 = some (93, 1, 9) := by decide +kernel
theorem D89_137 : pgDecT 89 137 = some (.iaload, 1) := by decide +kernel
theorem D89_138 : pgDecT 89 138 = some (.invokevirtual 124, 3) := by decide +kernel
theorem I89_124 : pgIi 89 124 = some (83, 2, 10) := by decide +kernel
theorem D89_141 : pgDecT 89 141 = some (.iastore, 1) := by decide +kernel
theorem D89_142 : pgDecT 89 142 = some (.iinc 3 1, 3) := by decide +kernel
theorem D89_145 : pgDecT 89 145 = some (.goto (-138), 3) := by decide +kernel
theorem D89_75 : pgDecT 89 75 = some (.aload_n 0, 1) := by decide +kernel
theorem D89_76 : pgDecT 89 76 = some (.getfield 37, 3) := by decide +kernel
theorem D89_79 : pgDecT 89 79 = some (.iload_n 3, 1) := by decide +kernel
theorem D89_80 : pgDecT 89 80 = some (.aload_n 0, 1) := by decide +kernel
theorem D89_81 : pgDecT 89 81 = some (.getfield 12, 3) := by decide +kernel
theorem F89_12 : pgFf 89 12 = some (10, 4, 3) := by decide +kernel
theorem D89_84 : pgDecT 89 84 = some (.iconst 3, 1) := by decide +kernel
theorem D89_85 : pgDecT 89 85 = some (.aload_n 0, 1) := by decide +kernel
theorem D89_86 : pgDecT 89 86 = some (.getfield 37, 3) := by decide +kernel
theorem D89_89 : pgDecT 89 89 = some (.aload_n 0, 1) := by decide +kernel
theorem D89_90 : pgDecT 89 90 = some (.getfield 44, 3) := by decide +kernel
theorem D89_93 : pgDecT 89 93 = some (.iload_n 3, 1) := by decide +kernel
theorem D89_94 : pgDecT 89 94 = some (.invokevirtual 151, 3) := by decide +kernel
theorem D89_97 : pgDecT 89 97 = some (.iaload, 1) := by decide +kernel
theorem D89_98 : pgDecT 89 98 = some (.iconst (-1), 1) := by decide +kernel
theorem D89_99 : pgDecT 89 99 = some (.invokevirtual 80, 3) := by decide +kernel
theorem I89_80 : pgIi 89 80 = some (74, 3, 5) := by decide +kernel
theorem D89_102 : pgDecT 89 102 = some (.iastore, 1) := by decide +kernel
theorem D89_103 : pgDecT 89 103 = some (.goto 39, 3) := by decide +kernel
theorem D89_45 : pgDecT 89 45 = some (.aload_n 0, 1) := by decide +kernel
theorem D89_46 : pgDecT 89 46 = some (.getfield 37, 3) := by decide +kernel
theorem D89_49 : pgDecT 89 49 = some (.iload_n 3, 1) := by decide +kernel
theorem D89_50 : pgDecT 89 50 = some (.aload_n 0, 1) := by decide +kernel
theorem D89_51 : pgDecT 89 51 = some (.getfield 31, 3) := by decide +kernel
theorem F89_31 : pgFf 89 31 = some (10, 9, 3) := by decide +kernel
theorem D89_54 : pgDecT 89 54 = some (.iload_n 2, 1) := by decide +kernel
theorem D89_55 : pgDecT 89 55 = some (.iload_n 3, 1) := by decide +kernel
theorem D89_56 : pgDecT 89 56 = some (.iadd, 1) := by decide +kernel
theorem D89_57 : pgDecT 89 57 = some (.iconst 2, 1) := by decide +kernel
theorem D89_58 : pgDecT 89 58 = some (.isub, 1) := by decide +kernel
theorem D89_59 : pgDecT 89 59 = some (.iaload, 1) := by decide +kernel
theorem D89_60 : pgDecT 89 60 = some (.iastore, 1) := by decide +kernel
theorem D89_61 : pgDecT 89 61 = some (.goto 81, 3) := by decide +kernel
theorem D89_29 : pgDecT 89 29 = some (.aload_n 0, 1) := by decide +kernel
theorem D89_30 : pgDecT 89 30 = some (.getfield 37, 3) := by decide +kernel
theorem D89_33 : pgDecT 89 33 = some (.iload_n 3, 1) := by decide +kernel
theorem D89_34 : pgDecT 89 34 = some (.iload_n 3, 1) := by decide +kernel
theorem D89_35 : pgDecT 89 35 = some (.iastore, 1) := by decide +kernel
theorem D89_36 : pgDecT 89 36 = some (.goto 106, 3) := by decide +kernel
theorem D89_21 : pgDecT 89 21 = some (.goto 121, 3) := by decide +kernel
/-! 89: DictionaryHouse$Typing.nodeFor (II)I -/
def l89 : Nat → Nat → Mm → Int → Int → Int → Option (Int × Mm)
  | 0, _, _, _, _, _ => none
  | f + 1, 7, M, x1, x2, x3 => if x1 < x3 then (if 0 ≤ x1 ∧ x1 < 40 then (some ((M 40 (Int.toNat x1)), M)) else none) else (if 0 ≤ x3 ∧ x3 < 40 then (if ¬ (M 41 (Int.toNat x3)) = 0 then (if 2 ≤ x3 then (if 10 ≤ x3 then (f92 M x3).bind (fun q14 => if q14 = 0 then (f91 M x3).bind (fun q20 => if 0 ≤ q20 ∧ q20 < 40 then (f93 M x3).bind (fun q26 => if 0 ≤ q26 ∧ q26 < 40 then (f83 M (M 40 (Int.toNat q20)) (M 40 (Int.toNat q26))).bind (fun zq32 => if rg (x3 + 1) then (l89 f 7 (up zq32.2 40 (Int.toNat x3) zq32.1) x1 x2 (x3 + 1)) else none) else none) else none) else (f91 M x3).bind (fun q41 => if 0 ≤ q41 ∧ q41 < 40 then (f74 M 3 (M 40 (Int.toNat q41)) (-1)).bind (fun zq47 => if rg (x3 + 1) then (l89 f 7 (up zq47.2 40 (Int.toNat x3) zq47.1) x1 x2 (x3 + 1)) else none) else none)) else (if 0 ≤ ((x2 + x3) - 2) ∧ ((x2 + x3) - 2) < 488 then (if rg (x3 + 1) then (l89 f 7 (up M 40 (Int.toNat x3) (M 38 (Int.toNat ((x2 + x3) - 2)))) x1 x2 (x3 + 1)) else none) else none)) else (if rg (x3 + 1) then (l89 f 7 (up M 40 (Int.toNat x3) x3) x1 x2 (x3 + 1)) else none)) else (if rg (x3 + 1) then (l89 f 7 M x1 x2 (x3 + 1)) else none)) else none)
  | _, _, _, _, _, _ => none
theorem d89 {L : Nat} {xs : Nat → Int32} (f : Nat) : (∀ (M : Mm) (x1 x2 x3 : Int) (h : mvH) (v : Int) (M' : Mm), l89 f 7 M x1 x2 x3 = some (v, M') → rp h M → rg x1 → rg x2 → rg x3 → evx L xs 3 89 7 [(0, .inr (.inr (.inl (some 24)))), (1, .inl (iz x1)), (2, .inl (iz x2)), (3, .inl (iz x3))] [] h (.inl (some (.inl v)), 0) M') := by
  induction f with
  | zero => exact (fun M x1 x2 x3 h v M' hs _ _ _ _ => by cases hs)
  | succ f ih =>
    intro M x1 x2 x3 h v M' hs R rx1 rx2 rx3
    rw [l89] at hs
    refine evx_F E89 D89_7 rfl rfl ?_
    refine evx_F E89 D89_8 rfl rfl ?_
    by_cases cb7 : x1 < x3
    · rw [if_pos cb7] at hs
      refine evx_F E89 D89_9 rfl (ifT (c2_gt_T rx3 rx1 cb7)) ?_
      refine evx_F E89 D89_148 rfl rfl ?_
      refine evx_gfr E89 D89_149 F89_37 H24 rfl R ?_
      refine evx_F E89 D89_152 rfl rfl ?_
      obtain ⟨k8, hs⟩ := ck hs
      refine evx_ial E89 D89_153 H40 (by decide) R k8 ?_
      cases hs
      exact evx_ret E89 D89_154 rfl (fun d => rfl) rfl (show rg _ from (R.1 40 (Int.toNat x1))) R
    · rw [if_neg cb7] at hs
      refine evx_F E89 D89_9 rfl (ifF (c2_gt_F rx3 rx1 (by omega))) ?_
      refine evx_F E89 D89_12 rfl rfl ?_
      refine evx_gfr E89 D89_13 F89_40 H24 rfl R ?_
      refine evx_F E89 D89_16 rfl rfl ?_
      obtain ⟨k9, hs⟩ := ck hs
      refine evx_bal E89 D89_17 H41 (by decide) R k9 ?_
      by_cases cb10 : ¬ (M 41 (Int.toNat x3)) = 0
      · rw [if_pos cb10] at hs
        refine evx_F E89 D89_18 rfl (ifT (c1_ne_T (R.1 41 (Int.toNat x3)) cb10)) ?_
        refine evx_F E89 D89_24 rfl rfl ?_
        refine evx_F E89 D89_25 rfl rfl ?_
        by_cases cb11 : 2 ≤ x3
        · rw [if_pos cb11] at hs
          refine evx_F E89 D89_26 rfl (ifT (c2_ge_T rx3 (by decide) cb11)) ?_
          refine evx_F E89 D89_39 rfl rfl ?_
          refine evx_k (k := 10) E89 D89_40 rfl (by decide) ?_
          by_cases cb12 : 10 ≤ x3
          · rw [if_pos cb12] at hs
            refine evx_F E89 D89_42 rfl (ifT (c2_ge_T rx3 (by decide) cb12)) ?_
            refine evx_F E89 D89_64 rfl rfl ?_
            refine evx_gfr E89 D89_65 F89_44 H24 rfl R ?_
            refine evx_F E89 D89_68 rfl rfl ?_
            obtain ⟨q14, e13, hs⟩ := Option.bind_eq_some_iff.mp hs
            refine evx_cv (D := 2) E89 D89_69 I89_148 rfl rfl H1 ⟨Nat.le_of_ble_eq_true rfl, Nat.le_of_ble_eq_true rfl⟩ ⟨rfl, Nat.le_of_ble_eq_true rfl⟩ rfl R (evx_up (Nat.le_of_ble_eq_true rfl) (c92 R rx3 e13)) ?_
            intro h15 R16 w17
            have w17 : rg q14 := w17
            show evx _ _ _ _ _ _ (.inl (iz q14) :: _) _ _ _
            by_cases cb18 : q14 = 0
            · rw [if_pos cb18] at hs
              refine evx_F E89 D89_72 rfl (ifT (c1_eq_T w17 cb18)) ?_
              refine evx_F E89 D89_106 rfl rfl ?_
              refine evx_gfr E89 D89_107 F89_37 H24 rfl R16 ?_
              refine evx_F E89 D89_110 rfl rfl ?_
              refine evx_F E89 D89_111 rfl rfl ?_
              refine evx_F E89 D89_112 rfl rfl ?_
              refine evx_gfr E89 D89_113 F89_37 H24 rfl R16 ?_
              refine evx_F E89 D89_116 rfl rfl ?_
              refine evx_gfr E89 D89_117 F89_44 H24 rfl R16 ?_
              refine evx_F E89 D89_120 rfl rfl ?_
              obtain ⟨q20, e19, hs⟩ := Option.bind_eq_some_iff.mp hs
              refine evx_cv (D := 2) E89 D89_121 I89_151 rfl rfl H1 ⟨Nat.le_of_ble_eq_true rfl, Nat.le_of_ble_eq_true rfl⟩ ⟨rfl, Nat.le_of_ble_eq_true rfl⟩ rfl R16 (evx_up (Nat.le_of_ble_eq_true rfl) (c91 R16 rx3 e19)) ?_
              intro h21 R22 w23
              have w23 : rg q20 := w23
              show evx _ _ _ _ _ _ (.inl (iz q20) :: _) _ _ _
              obtain ⟨k24, hs⟩ := ck hs
              refine evx_ial E89 D89_124 H40 (by decide) R22 k24 ?_
              refine evx_F E89 D89_125 rfl rfl ?_
              refine evx_gfr E89 D89_126 F89_37 H24 rfl R22 ?_
              refine evx_F E89 D89_129 rfl rfl ?_
              refine evx_gfr E89 D89_130 F89_44 H24 rfl R22 ?_
              refine evx_F E89 D89_133 rfl rfl ?_
              obtain ⟨q26, e25, hs⟩ := Option.bind_eq_some_iff.mp hs
              refine evx_cv (D := 2) E89 D89_134 I89_154 rfl rfl H1 ⟨Nat.le_of_ble_eq_true rfl, Nat.le_of_ble_eq_true rfl⟩ ⟨rfl, Nat.le_of_ble_eq_true rfl⟩ rfl R22 (evx_up (Nat.le_of_ble_eq_true rfl) (c93 R22 rx3 e25)) ?_
              intro h27 R28 w29
              have w29 : rg q26 := w29
              show evx _ _ _ _ _ _ (.inl (iz q26) :: _) _ _ _
              obtain ⟨k30, hs⟩ := ck hs
              refine evx_ial E89 D89_137 H40 (by decide) R28 k30 ?_
              obtain ⟨⟨q32, M36⟩, e31, hs⟩ := Option.bind_eq_some_iff.mp hs
              dsimp only at hs
              refine evx_cv (D := 2) E89 D89_138 I89_124 rfl rfl H24 ⟨Nat.le_of_ble_eq_true rfl, Nat.le_of_ble_eq_true rfl⟩ ⟨rfl, Nat.le_of_ble_eq_true rfl⟩ rfl R28 (evx_up (Nat.le_of_ble_eq_true rfl) (c83 R28 (R22.1 40 (Int.toNat q20)) (R28.1 40 (Int.toNat q26)) e31)) ?_
              intro h33 R34 w35
              have w35 : rg q32 := w35
              show evx _ _ _ _ _ _ (.inl (iz q32) :: _) _ _ _
              refine evx_ias E89 D89_141 H40 (by decide) R34 k9 w35 ?_
              intro h37 R38
              refine evx_inc E89 D89_142 (Nat.le_of_ble_eq_true rfl) rfl ?_
              refine evx_F E89 D89_145 rfl rfl ?_
              obtain ⟨k39, hs⟩ := ck hs
              show evx _ _ _ _ _ [(3, .inl (iz (x3 + 1))), (0, .inr (.inr (.inl (some 24)))), (1, .inl (iz x1)), (2, .inl (iz x2))] _ _ _ _
              exact evx_lv (lvLe_mk (fm rfl (fm rfl (fm rfl (fm rfl fn)))) (fm rfl (fm rfl (fm rfl (fm rfl fn)))) (fm rfl (fm rfl (fm rfl (fm rfl fn))))) (ih _ _ _ _ _ _ _ hs R38 rx1 rx2 k39)
            · rw [if_neg cb18] at hs
              refine evx_F E89 D89_72 rfl (ifF (c1_eq_F w17 (by omega))) ?_
              refine evx_F E89 D89_75 rfl rfl ?_
              refine evx_gfr E89 D89_76 F89_37 H24 rfl R16 ?_
              refine evx_F E89 D89_79 rfl rfl ?_
              refine evx_F E89 D89_80 rfl rfl ?_
              refine evx_gfr E89 D89_81 F89_12 H24 rfl R16 ?_
              refine evx_F E89 D89_84 rfl rfl ?_
              refine evx_F E89 D89_85 rfl rfl ?_
              refine evx_gfr E89 D89_86 F89_37 H24 rfl R16 ?_
              refine evx_F E89 D89_89 rfl rfl ?_
              refine evx_gfr E89 D89_90 F89_44 H24 rfl R16 ?_
              refine evx_F E89 D89_93 rfl rfl ?_
              obtain ⟨q41, e40, hs⟩ := Option.bind_eq_some_iff.mp hs
              refine evx_cv (D := 2) E89 D89_94 I89_151 rfl rfl H1 ⟨Nat.le_of_ble_eq_true rfl, Nat.le_of_ble_eq_true rfl⟩ ⟨rfl, Nat.le_of_ble_eq_true rfl⟩ rfl R16 (evx_up (Nat.le_of_ble_eq_true rfl) (c91 R16 rx3 e40)) ?_
              intro h42 R43 w44
              have w44 : rg q41 := w44
              show evx _ _ _ _ _ _ (.inl (iz q41) :: _) _ _ _
              obtain ⟨k45, hs⟩ := ck hs
              refine evx_ial E89 D89_97 H40 (by decide) R43 k45 ?_
              refine evx_F E89 D89_98 rfl rfl ?_
              obtain ⟨⟨q47, M51⟩, e46, hs⟩ := Option.bind_eq_some_iff.mp hs
              dsimp only at hs
              refine evx_cv (D := 2) E89 D89_99 I89_80 rfl rfl H25 ⟨Nat.le_of_ble_eq_true rfl, Nat.le_of_ble_eq_true rfl⟩ ⟨rfl, Nat.le_of_ble_eq_true rfl⟩ rfl R43 (evx_up (Nat.le_of_ble_eq_true rfl) (c74 R43 (by decide) (R43.1 40 (Int.toNat q41)) (by decide) e46)) ?_
              intro h48 R49 w50
              have w50 : rg q47 := w50
              show evx _ _ _ _ _ _ (.inl (iz q47) :: _) _ _ _
              refine evx_ias E89 D89_102 H40 (by decide) R49 k9 w50 ?_
              intro h52 R53
              refine evx_F E89 D89_103 rfl rfl ?_
              refine evx_inc E89 D89_142 (Nat.le_of_ble_eq_true rfl) rfl ?_
              refine evx_F E89 D89_145 rfl rfl ?_
              obtain ⟨k54, hs⟩ := ck hs
              show evx _ _ _ _ _ [(3, .inl (iz (x3 + 1))), (0, .inr (.inr (.inl (some 24)))), (1, .inl (iz x1)), (2, .inl (iz x2))] _ _ _ _
              exact evx_lv (lvLe_mk (fm rfl (fm rfl (fm rfl (fm rfl fn)))) (fm rfl (fm rfl (fm rfl (fm rfl fn)))) (fm rfl (fm rfl (fm rfl (fm rfl fn))))) (ih _ _ _ _ _ _ _ hs R53 rx1 rx2 k54)
          · rw [if_neg cb12] at hs
            refine evx_F E89 D89_42 rfl (ifF (c2_ge_F rx3 (by decide) (by omega))) ?_
            refine evx_F E89 D89_45 rfl rfl ?_
            refine evx_gfr E89 D89_46 F89_37 H24 rfl R ?_
            refine evx_F E89 D89_49 rfl rfl ?_
            refine evx_F E89 D89_50 rfl rfl ?_
            refine evx_gfr E89 D89_51 F89_31 H24 rfl R ?_
            refine evx_F E89 D89_54 rfl rfl ?_
            refine evx_F E89 D89_55 rfl rfl ?_
            refine evx_add E89 D89_56 ?_
            refine evx_F E89 D89_57 rfl rfl ?_
            refine evx_sub E89 D89_58 ?_
            obtain ⟨k55, hs⟩ := ck hs
            refine evx_ial E89 D89_59 H38 (by decide) R k55 ?_
            refine evx_ias E89 D89_60 H40 (by decide) R k9 (R.1 38 (Int.toNat ((x2 + x3) - 2))) ?_
            intro h56 R57
            refine evx_F E89 D89_61 rfl rfl ?_
            refine evx_inc E89 D89_142 (Nat.le_of_ble_eq_true rfl) rfl ?_
            refine evx_F E89 D89_145 rfl rfl ?_
            obtain ⟨k58, hs⟩ := ck hs
            show evx _ _ _ _ _ [(3, .inl (iz (x3 + 1))), (0, .inr (.inr (.inl (some 24)))), (1, .inl (iz x1)), (2, .inl (iz x2))] _ _ _ _
            exact evx_lv (lvLe_mk (fm rfl (fm rfl (fm rfl (fm rfl fn)))) (fm rfl (fm rfl (fm rfl (fm rfl fn)))) (fm rfl (fm rfl (fm rfl (fm rfl fn))))) (ih _ _ _ _ _ _ _ hs R57 rx1 rx2 k58)
        · rw [if_neg cb11] at hs
          refine evx_F E89 D89_26 rfl (ifF (c2_ge_F rx3 (by decide) (by omega))) ?_
          refine evx_F E89 D89_29 rfl rfl ?_
          refine evx_gfr E89 D89_30 F89_37 H24 rfl R ?_
          refine evx_F E89 D89_33 rfl rfl ?_
          refine evx_F E89 D89_34 rfl rfl ?_
          refine evx_ias E89 D89_35 H40 (by decide) R k9 rx3 ?_
          intro h59 R60
          refine evx_F E89 D89_36 rfl rfl ?_
          refine evx_inc E89 D89_142 (Nat.le_of_ble_eq_true rfl) rfl ?_
          refine evx_F E89 D89_145 rfl rfl ?_
          obtain ⟨k61, hs⟩ := ck hs
          show evx _ _ _ _ _ [(3, .inl (iz (x3 + 1))), (0, .inr (.inr (.inl (some 24)))), (1, .inl (iz x1)), (2, .inl (iz x2))] _ _ _ _
          exact evx_lv (lvLe_mk (fm rfl (fm rfl (fm rfl (fm rfl fn)))) (fm rfl (fm rfl (fm rfl (fm rfl fn)))) (fm rfl (fm rfl (fm rfl (fm rfl fn))))) (ih _ _ _ _ _ _ _ hs R60 rx1 rx2 k61)
      · rw [if_neg cb10] at hs
        refine evx_F E89 D89_18 rfl (ifF (c1_ne_F (R.1 41 (Int.toNat x3)) (by omega))) ?_
        refine evx_F E89 D89_21 rfl rfl ?_
        refine evx_inc E89 D89_142 (Nat.le_of_ble_eq_true rfl) rfl ?_
        refine evx_F E89 D89_145 rfl rfl ?_
        obtain ⟨k62, hs⟩ := ck hs
        show evx _ _ _ _ _ [(3, .inl (iz (x3 + 1))), (0, .inr (.inr (.inl (some 24)))), (1, .inl (iz x1)), (2, .inl (iz x2))] _ _ _ _
        exact evx_lv (lvLe_mk (fm rfl (fm rfl (fm rfl (fm rfl fn)))) (fm rfl (fm rfl (fm rfl (fm rfl fn)))) (fm rfl (fm rfl (fm rfl (fm rfl fn))))) (ih _ _ _ _ _ _ _ hs R rx1 rx2 k62)
def f89 (M : Mm) (x1 : Int) (x2 : Int) : Option (Int × Mm) := (f90 M x1).bind (fun zq2 => l89 FU 7 zq2.2 x1 x2 0)
theorem c89 {L : Nat} {xs : Nat → Int32} {h : mvH} {M : Mm} {x1 x2 : Int} {v : Int} {M' : Mm} (R : rp h M) (rx1 : rg x1) (rx2 : rg x2) (hs : f89 M x1 x2 = some (v, M')) : evx L xs 3 89 0 [(0, .inr (.inr (.inl (some 24)))), (1, .inl (iz x1)), (2, .inl (iz x2))] [] h (.inl (some (.inl v)), 0) M' := by
  unfold f89 at hs
  refine evx_F E89 D89_0 rfl rfl ?_
  refine evx_F E89 D89_1 rfl rfl ?_
  obtain ⟨⟨q2, M6⟩, e1, hs⟩ := Option.bind_eq_some_iff.mp hs
  dsimp only at hs
  refine evx_cv (D := 2) E89 D89_2 I89_145 rfl rfl H24 ⟨Nat.le_of_ble_eq_true rfl, Nat.le_of_ble_eq_true rfl⟩ ⟨rfl, Nat.le_of_ble_eq_true rfl⟩ rfl R (evx_up (Nat.le_of_ble_eq_true rfl) (c90 R rx1 e1)) ?_
  intro h3 R4 w5
  refine evx_F E89 D89_5 rfl rfl ?_
  refine evx_F E89 D89_6 rfl rfl ?_
  show evx _ _ _ _ _ [(3, .inl (iz 0)), (0, .inr (.inr (.inl (some 24)))), (1, .inl (iz x1)), (2, .inl (iz x2))] _ _ _ _
  exact evx_lv (lvLe_mk (fm rfl (fm rfl (fm rfl (fm rfl fn)))) (fm rfl (fm rfl (fm rfl (fm rfl fn)))) (fm rfl (fm rfl (fm rfl (fm rfl fn))))) ((d89 FU) _ _ _ _ _ _ _ hs R4 rx1 rx2 (by decide))
set_option maxRecDepth 20000 in
theorem E96 : pgMm 96 = some (⟨"DictionaryHouse$Typing", "canBe", "(II)Z"⟩, prog_12_method_10_code, 3, (some .boolean), []) := rfl
theorem D96_0 : pgDecT 96 0 = some (.aload_n 0, 1) := by decide +kernel
theorem D96_1 : pgDecT 96 1 = some (.getfield 31, 3) := by decide +kernel
theorem F96_31 : pgFf 96 31 = some (10, 9, 3) := by decide +kernel
theorem D96_4 : pgDecT 96 4 = some (.sipush 480, 3) := by decide +kernel
theorem D96_7 : pgDecT 96 7 = some (.iload_n 2, 1) := by decide +kernel
theorem D96_8 : pgDecT 96 8 = some (.iastore, 1) := by decide +kernel
theorem D96_9 : pgDecT 96 9 = some (.aload_n 0, 1) := by decide +kernel
theorem D96_10 : pgDecT 96 10 = some (.getfield 12, 3) := by decide +kernel
theorem F96_12 : pgFf 96 12 = some (10, 4, 3) := by decide +kernel
theorem D96_13 : pgDecT 96 13 = some (.aload_n 0, 1) := by decide +kernel
theorem D96_14 : pgDecT 96 14 = some (.getfield 25, 3) := by decide +kernel
theorem F96_25 : pgFf 96 25 = some (10, 7, 3) := by decide +kernel
theorem D96_17 : pgDecT 96 17 = some (.iconst 0, 1) := by decide +kernel
theorem D96_18 : pgDecT 96 18 = some (.iaload, 1) := by decide +kernel
theorem D96_19 : pgDecT 96 19 = some (.aload_n 0, 1) := by decide +kernel
theorem D96_20 : pgDecT 96 20 = some (.iload_n 1, 1) := by decide +kernel
theorem D96_21 : pgDecT 96 21 = some (.sipush 480, 3) := by decide +kernel
theorem D96_24 : pgDecT 96 24 = some (.invokevirtual 92, 3) := by decide +kernel
theorem I96_92 : pgIi 96 92 = some (89, 2, 10) := by decide +kernel
theorem D96_27 : pgDecT 96 27 = some (.invokevirtual 96, 3) := by decide +kernel
theorem I96_96 : pgIi 96 96 = some (79, 2, 5) := by decide +kernel
theorem D96_30 : pgDecT 96 30 = some (.ireturn, 1) := by decide +kernel
/-! 96: DictionaryHouse$Typing.canBe (II)Z -/
def f96 (M : Mm) (x1 : Int) (x2 : Int) : Option (Int × Mm) := (f89 (up M 38 (Int.toNat 480) x2) x1 480).bind (fun zq4 => (f79 zq4.2 (M 36 (Int.toNat 0)) zq4.1).bind (fun zq10 => if zq10.1 = 0 ∨ zq10.1 = 1 then (some (zq10.1, zq10.2)) else none))
theorem c96 {L : Nat} {xs : Nat → Int32} {h : mvH} {M : Mm} {x1 x2 : Int} {v : Int} {M' : Mm} (R : rp h M) (rx1 : rg x1) (rx2 : rg x2) (hs : f96 M x1 x2 = some (v, M')) : evx L xs 4 96 0 [(0, .inr (.inr (.inl (some 24)))), (1, .inl (iz x1)), (2, .inl (iz x2))] [] h (.inl (some (.inl v)), 0) M' := by
  unfold f96 at hs
  refine evx_F E96 D96_0 rfl rfl ?_
  refine evx_gfr E96 D96_1 F96_31 H24 rfl R ?_
  refine evx_k (k := 480) E96 D96_4 rfl (by decide) ?_
  refine evx_F E96 D96_7 rfl rfl ?_
  refine evx_ias E96 D96_8 H38 (by decide) R (by decide) rx2 ?_
  intro h1 R2
  refine evx_F E96 D96_9 rfl rfl ?_
  refine evx_gfr E96 D96_10 F96_12 H24 rfl R2 ?_
  refine evx_F E96 D96_13 rfl rfl ?_
  refine evx_gfr E96 D96_14 F96_25 H24 rfl R2 ?_
  refine evx_F E96 D96_17 rfl rfl ?_
  refine evx_ial E96 D96_18 H36 (by decide) R2 (by decide) ?_
  show evx _ _ _ _ _ _ (.inl (iz (M 36 (Int.toNat 0))) :: _) _ _ _
  refine evx_F E96 D96_19 rfl rfl ?_
  refine evx_F E96 D96_20 rfl rfl ?_
  refine evx_k (k := 480) E96 D96_21 rfl (by decide) ?_
  obtain ⟨⟨q4, M8⟩, e3, hs⟩ := Option.bind_eq_some_iff.mp hs
  dsimp only at hs
  refine evx_cv (D := 3) E96 D96_24 I96_92 rfl rfl H24 ⟨Nat.le_of_ble_eq_true rfl, Nat.le_of_ble_eq_true rfl⟩ ⟨rfl, Nat.le_of_ble_eq_true rfl⟩ rfl R2 (evx_up (Nat.le_of_ble_eq_true rfl) (c89 R2 rx1 (by decide) e3)) ?_
  intro h5 R6 w7
  have w7 : rg q4 := w7
  show evx _ _ _ _ _ _ (.inl (iz q4) :: _) _ _ _
  obtain ⟨⟨q10, M14⟩, e9, hs⟩ := Option.bind_eq_some_iff.mp hs
  dsimp only at hs
  refine evx_cv (D := 3) E96 D96_27 I96_96 rfl rfl H25 ⟨Nat.le_of_ble_eq_true rfl, Nat.le_of_ble_eq_true rfl⟩ ⟨rfl, Nat.le_of_ble_eq_true rfl⟩ rfl R6 (evx_up (Nat.le_of_ble_eq_true rfl) (c79 R6 (R2.1 36 (Int.toNat 0)) w7 e9)) ?_
  intro h11 R12 w13
  have w13 : rg q10 := w13
  show evx _ _ _ _ _ _ (.inl (iz q10) :: _) _ _ _
  obtain ⟨k15, hs⟩ := ck hs
  cases hs
  exact evx_retb E96 D96_30 rfl k15 R12
set_option maxRecDepth 20000 in
theorem E98 : pgMm 98 = some (⟨"DictionaryHouse$Graph", "countUsers", "()I"⟩, prog_7_method_13_code, 3, (some .int), []) := rfl
theorem D98_0 : pgDecT 98 0 = some (.aload_n 0, 1) := by decide +kernel
theorem D98_1 : pgDecT 98 1 = some (.getfield 24, 3) := by decide +kernel
theorem F98_24 : pgFf 98 24 = some (5, 4, 3) := by decide +kernel
theorem D98_4 : pgDecT 98 4 = some (.iconst 0, 1) := by decide +kernel
theorem D98_5 : pgDecT 98 5 = some (.aload_n 0, 1) := by decide +kernel
theorem D98_6 : pgDecT 98 6 = some (.getfield 36, 3) := by decide +kernel
theorem F98_36 : pgFf 98 36 = some (5, 8, 0) := by decide +kernel
theorem D98_9 : pgDecT 98 9 = some (.iconst 0, 1) := by decide +kernel
theorem D98_10 : pgDecT 98 10 = some (.invokestatic 59, 3) := by decide +kernel
theorem I98_59 : pgIi 98 59 = some (99, 4, 100) := by decide +kernel
theorem D98_13 : pgDecT 98 13 = some (.iconst 0, 1) := by decide +kernel
theorem D98_14 : pgDecT 98 14 = some (.istore_n 1, 1) := by decide +kernel
theorem D98_15 : pgDecT 98 15 = some (.iconst 0, 1) := by decide +kernel
theorem D98_16 : pgDecT 98 16 = some (.istore_n 2, 1) := by decide +kernel
theorem D98_17 : pgDecT 98 17 = some (.iload_n 2, 1) := by decide +kernel
theorem D98_18 : pgDecT 98 18 = some (.aload_n 0, 1) := by decide +kernel
theorem D98_19 : pgDecT 98 19 = some (.getfield 36, 3) := by decide +kernel
theorem D98_22 : pgDecT 98 22 = some (.if_icmp .ge 42, 3) := by decide +kernel
theorem D98_64 : pgDecT 98 64 = some (.iload_n 1, 1) := by decide +kernel
theorem D98_65 : pgDecT 98 65 = some (.ireturn, 1) := by decide +kernel
theorem D98_25 : pgDecT 98 25 = some (.aload_n 0, 1) := by decide +kernel
theorem D98_26 : pgDecT 98 26 = some (.getfield 21, 3) := by decide +kernel
theorem F98_21 : pgFf 98 21 = some (5, 3, 3) := by decide +kernel
theorem D98_29 : pgDecT 98 29 = some (.iload_n 2, 1) := by decide +kernel
theorem D98_30 : pgDecT 98 30 = some (.iaload, 1) := by decide +kernel
theorem D98_31 : pgDecT 98 31 = some (.iload_n 2, 1) := by decide +kernel
theorem D98_32 : pgDecT 98 32 = some (.if_icmp .ne 26, 3) := by decide +kernel
theorem D98_58 : pgDecT 98 58 = some (.iinc 2 1, 3) := by decide +kernel
theorem D98_61 : pgDecT 98 61 = some (.goto (-44), 3) := by decide +kernel
theorem D98_35 : pgDecT 98 35 = some (.iinc 1 1, 3) := by decide +kernel
theorem D98_38 : pgDecT 98 38 = some (.aload_n 0, 1) := by decide +kernel
theorem D98_39 : pgDecT 98 39 = some (.aload_n 0, 1) := by decide +kernel
theorem D98_40 : pgDecT 98 40 = some (.getfield 15, 3) := by decide +kernel
theorem F98_15 : pgFf 98 15 = some (5, 1, 3) := by decide +kernel
theorem D98_43 : pgDecT 98 43 = some (.iload_n 2, 1) := by decide +kernel
theorem D98_44 : pgDecT 98 44 = some (.iaload, 1) := by decide +kernel
theorem D98_45 : pgDecT 98 45 = some (.invokevirtual 65, 3) := by decide +kernel
theorem I98_65 : pgIi 98 65 = some (101, 1, 5) := by decide +kernel
theorem D98_48 : pgDecT 98 48 = some (.aload_n 0, 1) := by decide +kernel
theorem D98_49 : pgDecT 98 49 = some (.aload_n 0, 1) := by decide +kernel
theorem D98_50 : pgDecT 98 50 = some (.getfield 18, 3) := by decide +kernel
theorem F98_18 : pgFf 98 18 = some (5, 2, 3) := by decide +kernel
theorem D98_53 : pgDecT 98 53 = some (.iload_n 2, 1) := by decide +kernel
theorem D98_54 : pgDecT 98 54 = some (.iaload, 1) := by decide +kernel
theorem D98_55 : pgDecT 98 55 = some (.invokevirtual 65, 3) := by decide +kernel
/-! 98: DictionaryHouse$Graph.countUsers ()I -/
def l98 : Nat → Nat → Mm → Int → Int → Option (Int × Mm)
  | 0, _, _, _, _ => none
  | f + 1, 17, M, x1, x2 => if (M 25 8) ≤ x2 then (some (x1, M)) else (if 0 ≤ x2 ∧ x2 < 2504 then (if ¬ (M 29 (Int.toNat x2)) = x2 then (if rg (x2 + 1) then (l98 f 17 M x1 (x2 + 1)) else none) else (f101 M (M 27 (Int.toNat x2))).bind (fun zq12 => (f101 zq12.2 (zq12.2 28 (Int.toNat x2))).bind (fun zq18 => if rg (x1 + 1) then (if rg (x2 + 1) then (l98 f 17 zq18.2 (x1 + 1) (x2 + 1)) else none) else none))) else none)
  | _, _, _, _, _ => none
theorem d98 {L : Nat} {xs : Nat → Int32} (f : Nat) : (∀ (M : Mm) (x1 x2 : Int) (h : mvH) (v : Int) (M' : Mm), l98 f 17 M x1 x2 = some (v, M') → rp h M → rg x1 → rg x2 → evx L xs 3 98 17 [(0, .inr (.inr (.inl (some 25)))), (1, .inl (iz x1)), (2, .inl (iz x2))] [] h (.inl (some (.inl v)), 0) M') := by
  induction f with
  | zero => exact (fun M x1 x2 h v M' hs _ _ _ => by cases hs)
  | succ f ih =>
    intro M x1 x2 h v M' hs R rx1 rx2
    rw [l98] at hs
    refine evx_F E98 D98_17 rfl rfl ?_
    refine evx_F E98 D98_18 rfl rfl ?_
    refine evx_gfi (k := 8) E98 D98_19 F98_36 H25 rfl R ?_
    by_cases cb7 : (M 25 8) ≤ x2
    · rw [if_pos cb7] at hs
      refine evx_F E98 D98_22 rfl (ifT (c2_ge_T rx2 (R.1 25 8) cb7)) ?_
      refine evx_F E98 D98_64 rfl rfl ?_
      cases hs
      exact evx_ret E98 D98_65 rfl (fun d => rfl) rfl (show rg _ from rx1) R
    · rw [if_neg cb7] at hs
      refine evx_F E98 D98_22 rfl (ifF (c2_ge_F rx2 (R.1 25 8) (by omega))) ?_
      refine evx_F E98 D98_25 rfl rfl ?_
      refine evx_gfr E98 D98_26 F98_21 H25 rfl R ?_
      refine evx_F E98 D98_29 rfl rfl ?_
      obtain ⟨k8, hs⟩ := ck hs
      refine evx_ial E98 D98_30 H29 (by decide) R k8 ?_
      refine evx_F E98 D98_31 rfl rfl ?_
      by_cases cb9 : ¬ (M 29 (Int.toNat x2)) = x2
      · rw [if_pos cb9] at hs
        refine evx_F E98 D98_32 rfl (ifT (c2_ne_T (R.1 29 (Int.toNat x2)) rx2 cb9)) ?_
        refine evx_inc E98 D98_58 (Nat.le_of_ble_eq_true rfl) rfl ?_
        refine evx_F E98 D98_61 rfl rfl ?_
        obtain ⟨k10, hs⟩ := ck hs
        show evx _ _ _ _ _ [(2, .inl (iz (x2 + 1))), (0, .inr (.inr (.inl (some 25)))), (1, .inl (iz x1))] _ _ _ _
        exact evx_lv (lvLe_mk (fm rfl (fm rfl (fm rfl fn))) (fm rfl (fm rfl (fm rfl fn))) (fm rfl (fm rfl (fm rfl fn)))) (ih _ _ _ _ _ _ hs R rx1 k10)
      · rw [if_neg cb9] at hs
        refine evx_F E98 D98_32 rfl (ifF (c2_ne_F (R.1 29 (Int.toNat x2)) rx2 (by omega))) ?_
        refine evx_inc E98 D98_35 (Nat.le_of_ble_eq_true rfl) rfl ?_
        refine evx_F E98 D98_38 rfl rfl ?_
        refine evx_F E98 D98_39 rfl rfl ?_
        refine evx_gfr E98 D98_40 F98_15 H25 rfl R ?_
        refine evx_F E98 D98_43 rfl rfl ?_
        refine evx_ial E98 D98_44 H27 (by decide) R k8 ?_
        obtain ⟨⟨q12, M16⟩, e11, hs⟩ := Option.bind_eq_some_iff.mp hs
        dsimp only at hs
        refine evx_cv (D := 2) E98 D98_45 I98_65 rfl rfl H25 ⟨Nat.le_of_ble_eq_true rfl, Nat.le_of_ble_eq_true rfl⟩ ⟨rfl, Nat.le_of_ble_eq_true rfl⟩ rfl R (evx_up (Nat.le_of_ble_eq_true rfl) (c101 R (R.1 27 (Int.toNat x2)) e11)) ?_
        intro h13 R14 w15
        refine evx_F E98 D98_48 rfl rfl ?_
        refine evx_F E98 D98_49 rfl rfl ?_
        refine evx_gfr E98 D98_50 F98_18 H25 rfl R14 ?_
        refine evx_F E98 D98_53 rfl rfl ?_
        refine evx_ial E98 D98_54 H28 (by decide) R14 k8 ?_
        obtain ⟨⟨q18, M22⟩, e17, hs⟩ := Option.bind_eq_some_iff.mp hs
        dsimp only at hs
        refine evx_cv (D := 2) E98 D98_55 I98_65 rfl rfl H25 ⟨Nat.le_of_ble_eq_true rfl, Nat.le_of_ble_eq_true rfl⟩ ⟨rfl, Nat.le_of_ble_eq_true rfl⟩ rfl R14 (evx_up (Nat.le_of_ble_eq_true rfl) (c101 R14 (R14.1 28 (Int.toNat x2)) e17)) ?_
        intro h19 R20 w21
        refine evx_inc E98 D98_58 (Nat.le_of_ble_eq_true rfl) rfl ?_
        refine evx_F E98 D98_61 rfl rfl ?_
        obtain ⟨k23, hs⟩ := ck hs
        obtain ⟨k24, hs⟩ := ck hs
        show evx _ _ _ _ _ [(2, .inl (iz (x2 + 1))), (1, .inl (iz (x1 + 1))), (0, .inr (.inr (.inl (some 25))))] _ _ _ _
        exact evx_lv (lvLe_mk (fm rfl (fm rfl (fm rfl fn))) (fm rfl (fm rfl (fm rfl fn))) (fm rfl (fm rfl (fm rfl fn)))) (ih _ _ _ _ _ _ hs R20 k23 k24)
def f98 (M : Mm) : Option (Int × Mm) := (f99_30 M 0 (M 25 8) 0).bind (fun zq2 => l98 FU 17 zq2.2 0 0)
theorem c98 {L : Nat} {xs : Nat → Int32} {h : mvH} {M : Mm} {v : Int} {M' : Mm} (R : rp h M)  (hs : f98 M  = some (v, M')) : evx L xs 3 98 0 [(0, .inr (.inr (.inl (some 25))))] [] h (.inl (some (.inl v)), 0) M' := by
  unfold f98 at hs
  refine evx_F E98 D98_0 rfl rfl ?_
  refine evx_gfr E98 D98_1 F98_24 H25 rfl R ?_
  refine evx_F E98 D98_4 rfl rfl ?_
  refine evx_F E98 D98_5 rfl rfl ?_
  refine evx_gfi (k := 8) E98 D98_6 F98_36 H25 rfl R ?_
  refine evx_F E98 D98_9 rfl rfl ?_
  obtain ⟨⟨q2, M6⟩, e1, hs⟩ := Option.bind_eq_some_iff.mp hs
  dsimp only at hs
  refine evx_cs (D := 2) E98 D98_10 I98_59 rfl rfl (Nat.le_of_ble_eq_true rfl) ⟨rfl, Nat.le_of_ble_eq_true rfl⟩ rfl (evx_up (Nat.le_of_ble_eq_true rfl) (c99_30 R (by decide) (R.1 25 8) (by decide) e1)) ?_
  intro h3 R4 w5
  refine evx_F E98 D98_13 rfl rfl ?_
  refine evx_F E98 D98_14 rfl rfl ?_
  refine evx_F E98 D98_15 rfl rfl ?_
  refine evx_F E98 D98_16 rfl rfl ?_
  show evx _ _ _ _ _ [(2, .inl (iz 0)), (1, .inl (iz 0)), (0, .inr (.inr (.inl (some 25))))] _ _ _ _
  exact evx_lv (lvLe_mk (fm rfl (fm rfl (fm rfl fn))) (fm rfl (fm rfl (fm rfl fn))) (fm rfl (fm rfl (fm rfl fn)))) ((d98 FU) _ _ _ _ _ _ hs R4 (by decide) (by decide))
set_option maxRecDepth 20000 in
theorem E110 : pgMm 110 = some (⟨"DictionaryHouse$Conditions", "follow", "(II)V"⟩, prog_4_method_5_code, 6, none, []) := rfl
theorem D110_0 : pgDecT 110 0 = some (.iload_n 1, 1) := by decide +kernel
theorem D110_1 : pgDecT 110 1 = some (.istore_n 3, 1) := by decide +kernel
theorem D110_2 : pgDecT 110 2 = some (.aload_n 0, 1) := by decide +kernel
theorem D110_3 : pgDecT 110 3 = some (.getfield 35, 3) := by decide +kernel
theorem F110_35 : pgFf 110 35 = some (2, 3, 3) := by decide +kernel
theorem D110_6 : pgDecT 110 6 = some (.iload_n 2, 1) := by decide +kernel
theorem D110_7 : pgDecT 110 7 = some (.invokevirtual 101, 3) := by decide +kernel
theorem I110_101 : pgIi 110 101 = some (80, 1, 5) := by decide +kernel
theorem D110_10 : pgDecT 110 10 = some (.istore 4, 2) := by decide +kernel
theorem D110_12 : pgDecT 110 12 = some (.iconst 0, 1) := by decide +kernel
theorem D110_13 : pgDecT 110 13 = some (.istore 5, 2) := by decide +kernel
theorem D110_15 : pgDecT 110 15 = some (.iload 5, 2) := by decide +kernel
theorem D110_17 : pgDecT 110 17 = some (.sipush 2504, 3) := by decide +kernel
theorem D110_20 : pgDecT 110 20 = some (.if_icmp .ge 54, 3) := by decide +kernel
theorem D110_74 : pgDecT 110 74 = some (.aload_n 0, 1) := by decide +kernel
theorem D110_75 : pgDecT 110 75 = some (.aload_n 0, 1) := by decide +kernel
theorem D110_76 : pgDecT 110 76 = some (.getfield 59, 3) := by decide +kernel
theorem F110_59 : pgFf 110 59 = some (2, 8, 1) := by decide +kernel
theorem D110_79 : pgDecT 110 79 = some (.ifCond .ne 9, 3) := by decide +kernel
theorem D110_88 : pgDecT 110 88 = some (.iconst 1, 1) := by decide +kernel
theorem D110_89 : pgDecT 110 89 = some (.goto 4, 3) := by decide +kernel
theorem D110_93 : pgDecT 110 93 = some (.putfield 59, 3) := by decide +kernel
theorem D110_96 : pgDecT 110 96 = some (.aload_n 0, 1) := by decide +kernel
theorem D110_97 : pgDecT 110 97 = some (.iload_n 3, 1) := by decide +kernel
theorem D110_98 : pgDecT 110 98 = some (.iload 4, 2) := by decide +kernel
theorem D110_100 : pgDecT 110 100 = some (.invokevirtual 113, 3) := by decide +kernel
theorem I110_113 : pgIi 110 113 = some (113, 2, 2) := by decide +kernel
theorem D110_103 : pgDecT 110 103 = some (.return_, 1) := by decide +kernel
theorem D110_82 : pgDecT 110 82 = some (.iload 5, 2) := by decide +kernel
theorem D110_84 : pgDecT 110 84 = some (.iconst 3, 1) := by decide +kernel
theorem D110_85 : pgDecT 110 85 = some (.if_icmp .le 7, 3) := by decide +kernel
theorem D110_92 : pgDecT 110 92 = some (.iconst 0, 1) := by decide +kernel
theorem D110_23 : pgDecT 110 23 = some (.aload_n 0, 1) := by decide +kernel
theorem D110_24 : pgDecT 110 24 = some (.getfield 35, 3) := by decide +kernel
theorem D110_27 : pgDecT 110 27 = some (.iload 4, 2) := by decide +kernel
theorem D110_29 : pgDecT 110 29 = some (.invokevirtual 104, 3) := by decide +kernel
theorem I110_104 : pgIi 110 104 = some (111, 1, 5) := by decide +kernel
theorem D110_32 : pgDecT 110 32 = some (.iconst 3, 1) := by decide +kernel
theorem D110_33 : pgDecT 110 33 = some (.if_icmp .ne 41, 3) := by decide +kernel
theorem D110_36 : pgDecT 110 36 = some (.aload_n 0, 1) := by decide +kernel
theorem D110_37 : pgDecT 110 37 = some (.getfield 17, 3) := by decide +kernel
theorem F110_17 : pgFf 110 17 = some (2, 0, 3) := by decide +kernel
theorem D110_40 : pgDecT 110 40 = some (.iload_n 3, 1) := by decide +kernel
theorem D110_41 : pgDecT 110 41 = some (.invokevirtual 107, 3) := by decide +kernel
theorem I110_107 : pgIi 110 107 = some (104, 1, 1) := by decide +kernel
theorem D110_44 : pgDecT 110 44 = some (.iconst (-1), 1) := by decide +kernel
theorem D110_45 : pgDecT 110 45 = some (.if_icmp .eq 29, 3) := by decide +kernel
theorem D110_48 : pgDecT 110 48 = some (.aload_n 0, 1) := by decide +kernel
theorem D110_49 : pgDecT 110 49 = some (.getfield 17, 3) := by decide +kernel
theorem D110_52 : pgDecT 110 52 = some (.iload_n 3, 1) := by decide +kernel
theorem D110_53 : pgDecT 110 53 = some (.invokevirtual 107, 3) := by decide +kernel
theorem D110_56 : pgDecT 110 56 = some (.istore_n 3, 1) := by decide +kernel
theorem D110_57 : pgDecT 110 57 = some (.aload_n 0, 1) := by decide +kernel
theorem D110_58 : pgDecT 110 58 = some (.getfield 35, 3) := by decide +kernel
theorem D110_61 : pgDecT 110 61 = some (.iload 4, 2) := by decide +kernel
theorem D110_63 : pgDecT 110 63 = some (.invokevirtual 110, 3) := by decide +kernel
theorem I110_110 : pgIi 110 110 = some (112, 1, 5) := by decide +kernel
theorem D110_66 : pgDecT 110 66 = some (.istore 4, 2) := by decide +kernel
theorem D110_68 : pgDecT 110 68 = some (.iinc 5 1, 3) := by decide +kernel
theorem D110_71 : pgDecT 110 71 = some (.goto (-56), 3) := by decide +kernel
/-! 110: DictionaryHouse$Conditions.follow (II)V -/
def l110 : Nat → Nat → Mm → Int → Int → Int → Int → Int → Option (Int × Mm)
  | 0, _, _, _, _, _, _, _ => none
  | f + 1, 15, M, x1, x2, x3, x4, x5 => if 2504 ≤ x5 then (if ¬ (M 45 8) = 0 then (f113 (up M 45 8 1) x3 x4).bind (fun zq12 => some (0, zq12.2)) else (if x5 ≤ 3 then (f113 (up M 45 8 0) x3 x4).bind (fun zq21 => some (0, zq21.2)) else (f113 (up M 45 8 1) x3 x4).bind (fun zq29 => some (0, zq29.2)))) else (f111 M x4).bind (fun q35 => if ¬ q35 = 3 then (if ¬ (M 45 8) = 0 then (f113 (up M 45 8 1) x3 x4).bind (fun zq44 => some (0, zq44.2)) else (if x5 ≤ 3 then (f113 (up M 45 8 0) x3 x4).bind (fun zq53 => some (0, zq53.2)) else (f113 (up M 45 8 1) x3 x4).bind (fun zq61 => some (0, zq61.2)))) else (f104 M x3).bind (fun q67 => if q67 = (-1) then (if ¬ (M 45 8) = 0 then (f113 (up M 45 8 1) x3 x4).bind (fun zq76 => some (0, zq76.2)) else (if x5 ≤ 3 then (f113 (up M 45 8 0) x3 x4).bind (fun zq85 => some (0, zq85.2)) else (f113 (up M 45 8 1) x3 x4).bind (fun zq93 => some (0, zq93.2)))) else (f104 M x3).bind (fun q99 => (f112 M x4).bind (fun zq104 => if rg (x5 + 1) then (l110 f 15 zq104.2 x1 x2 q99 zq104.1 (x5 + 1)) else none))))
  | _, _, _, _, _, _, _, _ => none
theorem d110 {L : Nat} {xs : Nat → Int32} (f : Nat) : (∀ (M : Mm) (x1 x2 x3 x4 x5 : Int) (h : mvH) (v : Int) (M' : Mm), l110 f 15 M x1 x2 x3 x4 x5 = some (v, M') → rp h M → rg x1 → rg x2 → rg x3 → rg x4 → rg x5 → evx L xs 4 110 15 [(0, .inr (.inr (.inl (some 45)))), (1, .inl (iz x1)), (2, .inl (iz x2)), (3, .inl (iz x3)), (4, .inl (iz x4)), (5, .inl (iz x5))] [] h (.inl none, 0) M') := by
  induction f with
  | zero => exact (fun M x1 x2 x3 x4 x5 h v M' hs _ _ _ _ _ _ => by cases hs)
  | succ f ih =>
    intro M x1 x2 x3 x4 x5 h v M' hs R rx1 rx2 rx3 rx4 rx5
    rw [l110] at hs
    refine evx_F E110 D110_15 rfl rfl ?_
    refine evx_k (k := 2504) E110 D110_17 rfl (by decide) ?_
    by_cases cb7 : 2504 ≤ x5
    · rw [if_pos cb7] at hs
      refine evx_F E110 D110_20 rfl (ifT (c2_ge_T rx5 (by decide) cb7)) ?_
      refine evx_F E110 D110_74 rfl rfl ?_
      refine evx_F E110 D110_75 rfl rfl ?_
      refine evx_gfi (k := 8) E110 D110_76 F110_59 H45 rfl R ?_
      by_cases cb8 : ¬ (M 45 8) = 0
      · rw [if_pos cb8] at hs
        refine evx_F E110 D110_79 rfl (ifT (c1_ne_T (R.1 45 8) cb8)) ?_
        refine evx_F E110 D110_88 rfl rfl ?_
        refine evx_F E110 D110_89 rfl rfl ?_
        refine evx_pfi (k := 8) E110 D110_93 F110_59 H45 rfl R (by decide) rfl ?_
        intro h9 R10
        refine evx_F E110 D110_96 rfl rfl ?_
        refine evx_F E110 D110_97 rfl rfl ?_
        refine evx_F E110 D110_98 rfl rfl ?_
        obtain ⟨⟨q12, M16⟩, e11, hs⟩ := Option.bind_eq_some_iff.mp hs
        dsimp only at hs
        refine evx_cv (D := 3) E110 D110_100 I110_113 rfl rfl H45 ⟨Nat.le_of_ble_eq_true rfl, Nat.le_of_ble_eq_true rfl⟩ ⟨rfl, Nat.le_of_ble_eq_true rfl⟩ rfl R10 (evx_up (Nat.le_of_ble_eq_true rfl) (c113 R10 rx3 rx4 e11)) ?_
        intro h13 R14 w15
        cases hs
        exact evx_ret E110 D110_103 rfl (fun d => rfl) rfl trivial R14
      · rw [if_neg cb8] at hs
        refine evx_F E110 D110_79 rfl (ifF (c1_ne_F (R.1 45 8) (by omega))) ?_
        refine evx_F E110 D110_82 rfl rfl ?_
        refine evx_F E110 D110_84 rfl rfl ?_
        by_cases cb17 : x5 ≤ 3
        · rw [if_pos cb17] at hs
          refine evx_F E110 D110_85 rfl (ifT (c2_le_T rx5 (by decide) cb17)) ?_
          refine evx_F E110 D110_92 rfl rfl ?_
          refine evx_pfi (k := 8) E110 D110_93 F110_59 H45 rfl R (by decide) rfl ?_
          intro h18 R19
          refine evx_F E110 D110_96 rfl rfl ?_
          refine evx_F E110 D110_97 rfl rfl ?_
          refine evx_F E110 D110_98 rfl rfl ?_
          obtain ⟨⟨q21, M25⟩, e20, hs⟩ := Option.bind_eq_some_iff.mp hs
          dsimp only at hs
          refine evx_cv (D := 3) E110 D110_100 I110_113 rfl rfl H45 ⟨Nat.le_of_ble_eq_true rfl, Nat.le_of_ble_eq_true rfl⟩ ⟨rfl, Nat.le_of_ble_eq_true rfl⟩ rfl R19 (evx_up (Nat.le_of_ble_eq_true rfl) (c113 R19 rx3 rx4 e20)) ?_
          intro h22 R23 w24
          cases hs
          exact evx_ret E110 D110_103 rfl (fun d => rfl) rfl trivial R23
        · rw [if_neg cb17] at hs
          refine evx_F E110 D110_85 rfl (ifF (c2_le_F rx5 (by decide) (by omega))) ?_
          refine evx_F E110 D110_88 rfl rfl ?_
          refine evx_F E110 D110_89 rfl rfl ?_
          refine evx_pfi (k := 8) E110 D110_93 F110_59 H45 rfl R (by decide) rfl ?_
          intro h26 R27
          refine evx_F E110 D110_96 rfl rfl ?_
          refine evx_F E110 D110_97 rfl rfl ?_
          refine evx_F E110 D110_98 rfl rfl ?_
          obtain ⟨⟨q29, M33⟩, e28, hs⟩ := Option.bind_eq_some_iff.mp hs
          dsimp only at hs
          refine evx_cv (D := 3) E110 D110_100 I110_113 rfl rfl H45 ⟨Nat.le_of_ble_eq_true rfl, Nat.le_of_ble_eq_true rfl⟩ ⟨rfl, Nat.le_of_ble_eq_true rfl⟩ rfl R27 (evx_up (Nat.le_of_ble_eq_true rfl) (c113 R27 rx3 rx4 e28)) ?_
          intro h30 R31 w32
          cases hs
          exact evx_ret E110 D110_103 rfl (fun d => rfl) rfl trivial R31
    · rw [if_neg cb7] at hs
      refine evx_F E110 D110_20 rfl (ifF (c2_ge_F rx5 (by decide) (by omega))) ?_
      refine evx_F E110 D110_23 rfl rfl ?_
      refine evx_gfr E110 D110_24 F110_35 H45 rfl R ?_
      refine evx_F E110 D110_27 rfl rfl ?_
      obtain ⟨q35, e34, hs⟩ := Option.bind_eq_some_iff.mp hs
      refine evx_cv (D := 3) E110 D110_29 I110_104 rfl rfl H25 ⟨Nat.le_of_ble_eq_true rfl, Nat.le_of_ble_eq_true rfl⟩ ⟨rfl, Nat.le_of_ble_eq_true rfl⟩ rfl R (evx_up (Nat.le_of_ble_eq_true rfl) (c111 R rx4 e34)) ?_
      intro h36 R37 w38
      have w38 : rg q35 := w38
      show evx _ _ _ _ _ _ (.inl (iz q35) :: _) _ _ _
      refine evx_F E110 D110_32 rfl rfl ?_
      by_cases cb39 : ¬ q35 = 3
      · rw [if_pos cb39] at hs
        refine evx_F E110 D110_33 rfl (ifT (c2_ne_T w38 (by decide) cb39)) ?_
        refine evx_F E110 D110_74 rfl rfl ?_
        refine evx_F E110 D110_75 rfl rfl ?_
        refine evx_gfi (k := 8) E110 D110_76 F110_59 H45 rfl R37 ?_
        by_cases cb40 : ¬ (M 45 8) = 0
        · rw [if_pos cb40] at hs
          refine evx_F E110 D110_79 rfl (ifT (c1_ne_T (R37.1 45 8) cb40)) ?_
          refine evx_F E110 D110_88 rfl rfl ?_
          refine evx_F E110 D110_89 rfl rfl ?_
          refine evx_pfi (k := 8) E110 D110_93 F110_59 H45 rfl R37 (by decide) rfl ?_
          intro h41 R42
          refine evx_F E110 D110_96 rfl rfl ?_
          refine evx_F E110 D110_97 rfl rfl ?_
          refine evx_F E110 D110_98 rfl rfl ?_
          obtain ⟨⟨q44, M48⟩, e43, hs⟩ := Option.bind_eq_some_iff.mp hs
          dsimp only at hs
          refine evx_cv (D := 3) E110 D110_100 I110_113 rfl rfl H45 ⟨Nat.le_of_ble_eq_true rfl, Nat.le_of_ble_eq_true rfl⟩ ⟨rfl, Nat.le_of_ble_eq_true rfl⟩ rfl R42 (evx_up (Nat.le_of_ble_eq_true rfl) (c113 R42 rx3 rx4 e43)) ?_
          intro h45 R46 w47
          cases hs
          exact evx_ret E110 D110_103 rfl (fun d => rfl) rfl trivial R46
        · rw [if_neg cb40] at hs
          refine evx_F E110 D110_79 rfl (ifF (c1_ne_F (R37.1 45 8) (by omega))) ?_
          refine evx_F E110 D110_82 rfl rfl ?_
          refine evx_F E110 D110_84 rfl rfl ?_
          by_cases cb49 : x5 ≤ 3
          · rw [if_pos cb49] at hs
            refine evx_F E110 D110_85 rfl (ifT (c2_le_T rx5 (by decide) cb49)) ?_
            refine evx_F E110 D110_92 rfl rfl ?_
            refine evx_pfi (k := 8) E110 D110_93 F110_59 H45 rfl R37 (by decide) rfl ?_
            intro h50 R51
            refine evx_F E110 D110_96 rfl rfl ?_
            refine evx_F E110 D110_97 rfl rfl ?_
            refine evx_F E110 D110_98 rfl rfl ?_
            obtain ⟨⟨q53, M57⟩, e52, hs⟩ := Option.bind_eq_some_iff.mp hs
            dsimp only at hs
            refine evx_cv (D := 3) E110 D110_100 I110_113 rfl rfl H45 ⟨Nat.le_of_ble_eq_true rfl, Nat.le_of_ble_eq_true rfl⟩ ⟨rfl, Nat.le_of_ble_eq_true rfl⟩ rfl R51 (evx_up (Nat.le_of_ble_eq_true rfl) (c113 R51 rx3 rx4 e52)) ?_
            intro h54 R55 w56
            cases hs
            exact evx_ret E110 D110_103 rfl (fun d => rfl) rfl trivial R55
          · rw [if_neg cb49] at hs
            refine evx_F E110 D110_85 rfl (ifF (c2_le_F rx5 (by decide) (by omega))) ?_
            refine evx_F E110 D110_88 rfl rfl ?_
            refine evx_F E110 D110_89 rfl rfl ?_
            refine evx_pfi (k := 8) E110 D110_93 F110_59 H45 rfl R37 (by decide) rfl ?_
            intro h58 R59
            refine evx_F E110 D110_96 rfl rfl ?_
            refine evx_F E110 D110_97 rfl rfl ?_
            refine evx_F E110 D110_98 rfl rfl ?_
            obtain ⟨⟨q61, M65⟩, e60, hs⟩ := Option.bind_eq_some_iff.mp hs
            dsimp only at hs
            refine evx_cv (D := 3) E110 D110_100 I110_113 rfl rfl H45 ⟨Nat.le_of_ble_eq_true rfl, Nat.le_of_ble_eq_true rfl⟩ ⟨rfl, Nat.le_of_ble_eq_true rfl⟩ rfl R59 (evx_up (Nat.le_of_ble_eq_true rfl) (c113 R59 rx3 rx4 e60)) ?_
            intro h62 R63 w64
            cases hs
            exact evx_ret E110 D110_103 rfl (fun d => rfl) rfl trivial R63
      · rw [if_neg cb39] at hs
        refine evx_F E110 D110_33 rfl (ifF (c2_ne_F w38 (by decide) (by omega))) ?_
        refine evx_F E110 D110_36 rfl rfl ?_
        refine evx_gfr E110 D110_37 F110_17 H45 rfl R37 ?_
        refine evx_F E110 D110_40 rfl rfl ?_
        obtain ⟨q67, e66, hs⟩ := Option.bind_eq_some_iff.mp hs
        refine evx_cv (D := 3) E110 D110_41 I110_107 rfl rfl H5 ⟨Nat.le_of_ble_eq_true rfl, Nat.le_of_ble_eq_true rfl⟩ ⟨rfl, Nat.le_of_ble_eq_true rfl⟩ rfl R37 (evx_up (Nat.le_of_ble_eq_true rfl) (c104 R37 rx3 e66)) ?_
        intro h68 R69 w70
        have w70 : rg q67 := w70
        show evx _ _ _ _ _ _ (.inl (iz q67) :: _) _ _ _
        refine evx_F E110 D110_44 rfl rfl ?_
        by_cases cb71 : q67 = (-1)
        · rw [if_pos cb71] at hs
          refine evx_F E110 D110_45 rfl (ifT (c2_eq_T w70 (by decide) cb71)) ?_
          refine evx_F E110 D110_74 rfl rfl ?_
          refine evx_F E110 D110_75 rfl rfl ?_
          refine evx_gfi (k := 8) E110 D110_76 F110_59 H45 rfl R69 ?_
          by_cases cb72 : ¬ (M 45 8) = 0
          · rw [if_pos cb72] at hs
            refine evx_F E110 D110_79 rfl (ifT (c1_ne_T (R69.1 45 8) cb72)) ?_
            refine evx_F E110 D110_88 rfl rfl ?_
            refine evx_F E110 D110_89 rfl rfl ?_
            refine evx_pfi (k := 8) E110 D110_93 F110_59 H45 rfl R69 (by decide) rfl ?_
            intro h73 R74
            refine evx_F E110 D110_96 rfl rfl ?_
            refine evx_F E110 D110_97 rfl rfl ?_
            refine evx_F E110 D110_98 rfl rfl ?_
            obtain ⟨⟨q76, M80⟩, e75, hs⟩ := Option.bind_eq_some_iff.mp hs
            dsimp only at hs
            refine evx_cv (D := 3) E110 D110_100 I110_113 rfl rfl H45 ⟨Nat.le_of_ble_eq_true rfl, Nat.le_of_ble_eq_true rfl⟩ ⟨rfl, Nat.le_of_ble_eq_true rfl⟩ rfl R74 (evx_up (Nat.le_of_ble_eq_true rfl) (c113 R74 rx3 rx4 e75)) ?_
            intro h77 R78 w79
            cases hs
            exact evx_ret E110 D110_103 rfl (fun d => rfl) rfl trivial R78
          · rw [if_neg cb72] at hs
            refine evx_F E110 D110_79 rfl (ifF (c1_ne_F (R69.1 45 8) (by omega))) ?_
            refine evx_F E110 D110_82 rfl rfl ?_
            refine evx_F E110 D110_84 rfl rfl ?_
            by_cases cb81 : x5 ≤ 3
            · rw [if_pos cb81] at hs
              refine evx_F E110 D110_85 rfl (ifT (c2_le_T rx5 (by decide) cb81)) ?_
              refine evx_F E110 D110_92 rfl rfl ?_
              refine evx_pfi (k := 8) E110 D110_93 F110_59 H45 rfl R69 (by decide) rfl ?_
              intro h82 R83
              refine evx_F E110 D110_96 rfl rfl ?_
              refine evx_F E110 D110_97 rfl rfl ?_
              refine evx_F E110 D110_98 rfl rfl ?_
              obtain ⟨⟨q85, M89⟩, e84, hs⟩ := Option.bind_eq_some_iff.mp hs
              dsimp only at hs
              refine evx_cv (D := 3) E110 D110_100 I110_113 rfl rfl H45 ⟨Nat.le_of_ble_eq_true rfl, Nat.le_of_ble_eq_true rfl⟩ ⟨rfl, Nat.le_of_ble_eq_true rfl⟩ rfl R83 (evx_up (Nat.le_of_ble_eq_true rfl) (c113 R83 rx3 rx4 e84)) ?_
              intro h86 R87 w88
              cases hs
              exact evx_ret E110 D110_103 rfl (fun d => rfl) rfl trivial R87
            · rw [if_neg cb81] at hs
              refine evx_F E110 D110_85 rfl (ifF (c2_le_F rx5 (by decide) (by omega))) ?_
              refine evx_F E110 D110_88 rfl rfl ?_
              refine evx_F E110 D110_89 rfl rfl ?_
              refine evx_pfi (k := 8) E110 D110_93 F110_59 H45 rfl R69 (by decide) rfl ?_
              intro h90 R91
              refine evx_F E110 D110_96 rfl rfl ?_
              refine evx_F E110 D110_97 rfl rfl ?_
              refine evx_F E110 D110_98 rfl rfl ?_
              obtain ⟨⟨q93, M97⟩, e92, hs⟩ := Option.bind_eq_some_iff.mp hs
              dsimp only at hs
              refine evx_cv (D := 3) E110 D110_100 I110_113 rfl rfl H45 ⟨Nat.le_of_ble_eq_true rfl, Nat.le_of_ble_eq_true rfl⟩ ⟨rfl, Nat.le_of_ble_eq_true rfl⟩ rfl R91 (evx_up (Nat.le_of_ble_eq_true rfl) (c113 R91 rx3 rx4 e92)) ?_
              intro h94 R95 w96
              cases hs
              exact evx_ret E110 D110_103 rfl (fun d => rfl) rfl trivial R95
        · rw [if_neg cb71] at hs
          refine evx_F E110 D110_45 rfl (ifF (c2_eq_F w70 (by decide) (by omega))) ?_
          refine evx_F E110 D110_48 rfl rfl ?_
          refine evx_gfr E110 D110_49 F110_17 H45 rfl R69 ?_
          refine evx_F E110 D110_52 rfl rfl ?_
          obtain ⟨q99, e98, hs⟩ := Option.bind_eq_some_iff.mp hs
          refine evx_cv (D := 3) E110 D110_53 I110_107 rfl rfl H5 ⟨Nat.le_of_ble_eq_true rfl, Nat.le_of_ble_eq_true rfl⟩ ⟨rfl, Nat.le_of_ble_eq_true rfl⟩ rfl R69 (evx_up (Nat.le_of_ble_eq_true rfl) (c104 R69 rx3 e98)) ?_
          intro h100 R101 w102
          have w102 : rg q99 := w102
          show evx _ _ _ _ _ _ (.inl (iz q99) :: _) _ _ _
          refine evx_F E110 D110_56 rfl rfl ?_
          refine evx_F E110 D110_57 rfl rfl ?_
          refine evx_gfr E110 D110_58 F110_35 H45 rfl R101 ?_
          refine evx_F E110 D110_61 rfl rfl ?_
          obtain ⟨⟨q104, M108⟩, e103, hs⟩ := Option.bind_eq_some_iff.mp hs
          dsimp only at hs
          refine evx_cv (D := 3) E110 D110_63 I110_110 rfl rfl H25 ⟨Nat.le_of_ble_eq_true rfl, Nat.le_of_ble_eq_true rfl⟩ ⟨rfl, Nat.le_of_ble_eq_true rfl⟩ rfl R101 (evx_up (Nat.le_of_ble_eq_true rfl) (c112 R101 rx4 e103)) ?_
          intro h105 R106 w107
          have w107 : rg q104 := w107
          show evx _ _ _ _ _ _ (.inl (iz q104) :: _) _ _ _
          refine evx_F E110 D110_66 rfl rfl ?_
          refine evx_inc E110 D110_68 (Nat.le_of_ble_eq_true rfl) rfl ?_
          refine evx_F E110 D110_71 rfl rfl ?_
          obtain ⟨k109, hs⟩ := ck hs
          show evx _ _ _ _ _ [(5, .inl (iz (x5 + 1))), (4, .inl (iz q104)), (3, .inl (iz q99)), (0, .inr (.inr (.inl (some 45)))), (1, .inl (iz x1)), (2, .inl (iz x2))] _ _ _ _
          exact evx_lv (lvLe_mk (fm rfl (fm rfl (fm rfl (fm rfl (fm rfl (fm rfl fn)))))) (fm rfl (fm rfl (fm rfl (fm rfl (fm rfl (fm rfl fn)))))) (fm rfl (fm rfl (fm rfl (fm rfl (fm rfl (fm rfl fn))))))) (ih _ _ _ _ _ _ _ _ _ hs R106 rx1 rx2 w102 w107 k109)
def f110 (M : Mm) (x1 : Int) (x2 : Int) : Option (Int × Mm) := (f80 M x2).bind (fun zq2 => l110 FU 15 zq2.2 x1 x2 x1 zq2.1 0)
theorem c110 {L : Nat} {xs : Nat → Int32} {h : mvH} {M : Mm} {x1 x2 : Int} {v : Int} {M' : Mm} (R : rp h M) (rx1 : rg x1) (rx2 : rg x2) (hs : f110 M x1 x2 = some (v, M')) : evx L xs 4 110 0 [(0, .inr (.inr (.inl (some 45)))), (1, .inl (iz x1)), (2, .inl (iz x2))] [] h (.inl none, 0) M' := by
  unfold f110 at hs
  refine evx_F E110 D110_0 rfl rfl ?_
  refine evx_F E110 D110_1 rfl rfl ?_
  refine evx_F E110 D110_2 rfl rfl ?_
  refine evx_gfr E110 D110_3 F110_35 H45 rfl R ?_
  refine evx_F E110 D110_6 rfl rfl ?_
  obtain ⟨⟨q2, M6⟩, e1, hs⟩ := Option.bind_eq_some_iff.mp hs
  dsimp only at hs
  refine evx_cv (D := 3) E110 D110_7 I110_101 rfl rfl H25 ⟨Nat.le_of_ble_eq_true rfl, Nat.le_of_ble_eq_true rfl⟩ ⟨rfl, Nat.le_of_ble_eq_true rfl⟩ rfl R (evx_up (Nat.le_of_ble_eq_true rfl) (c80 R rx2 e1)) ?_
  intro h3 R4 w5
  have w5 : rg q2 := w5
  show evx _ _ _ _ _ _ (.inl (iz q2) :: _) _ _ _
  refine evx_F E110 D110_10 rfl rfl ?_
  refine evx_F E110 D110_12 rfl rfl ?_
  refine evx_F E110 D110_13 rfl rfl ?_
  show evx _ _ _ _ _ [(5, .inl (iz 0)), (4, .inl (iz q2)), (3, .inl (iz x1)), (0, .inr (.inr (.inl (some 45)))), (1, .inl (iz x1)), (2, .inl (iz x2))] _ _ _ _
  exact evx_lv (lvLe_mk (fm rfl (fm rfl (fm rfl (fm rfl (fm rfl (fm rfl fn)))))) (fm rfl (fm rfl (fm rfl (fm rfl (fm rfl (fm rfl fn)))))) (fm rfl (fm rfl (fm rfl (fm rfl (fm rfl (fm rfl fn))))))) ((d110 FU) _ _ _ _ _ _ _ _ _ hs R4 rx1 rx2 rx1 w5 (by decide))
set_option maxRecDepth 20000 in
theorem E167 : pgMm 167 = some (⟨"DictionaryHouse$Machine", "enterMethod", "(II)V"⟩, prog_9_method_13_code, 6, none, []) := rfl
theorem D167_0 : pgDecT 167 0 = some (.aload_n 0, 1) := by decide +kernel
theorem D167_1 : pgDecT 167 1 = some (.getfield 41, 3) := by decide +kernel
theorem F167_41 : pgFf 167 41 = some (7, 3, 3) := by decide +kernel
theorem D167_4 : pgDecT 167 4 = some (.aload_n 0, 1) := by decide +kernel
theorem D167_5 : pgDecT 167 5 = some (.getfield 120, 3) := by decide +kernel
theorem F167_120 : pgFf 167 120 = some (7, 11, 0) := by decide +kernel
theorem D167_8 : pgDecT 167 8 = some (.iconst 0, 1) := by decide +kernel
theorem D167_9 : pgDecT 167 9 = some (.aload_n 0, 1) := by decide +kernel
theorem D167_10 : pgDecT 167 10 = some (.getfield 12, 3) := by decide +kernel
theorem F167_12 : pgFf 167 12 = some (7, 4, 3) := by decide +kernel
theorem D167_13 : pgDecT 167 13 = some (.invokevirtual 169, 3) := by decide +kernel
theorem I167_169 : pgIi 167 169 = some (168, 0, 6) := by decide +kernel
theorem D167_16 : pgDecT 167 16 = some (.aload_n 0, 1) := by decide +kernel
theorem D167_17 : pgDecT 167 17 = some (.getfield 126, 3) := by decide +kernel
theorem F167_126 : pgFf 167 126 = some (7, 13, 0) := by decide +kernel
theorem D167_20 : pgDecT 167 20 = some (.invokevirtual 173, 3) := by decide +kernel
theorem I167_173 : pgIi 167 173 = some (169, 4, 8) := by decide +kernel
theorem D167_23 : pgDecT 167 23 = some (.istore_n 3, 1) := by decide +kernel
theorem D167_24 : pgDecT 167 24 = some (.iload_n 3, 1) := by decide +kernel
theorem D167_25 : pgDecT 167 25 = some (.invokestatic 177, 3) := by decide +kernel
theorem I167_177 : pgIi 167 177 = some (170, 1, 100) := by decide +kernel
theorem D167_28 : pgDecT 167 28 = some (.istore 4, 2) := by decide +kernel
theorem D167_30 : pgDecT 167 30 = some (.iload 4, 2) := by decide +kernel
theorem D167_32 : pgDecT 167 32 = some (.iconst (-1), 1) := by decide +kernel
theorem D167_33 : pgDecT 167 33 = some (.if_icmp .eq 16, 3) := by decide +kernel
theorem D167_49 : pgDecT 167 49 = some (.aload_n 0, 1) := by decide +kernel
theorem D167_50 : pgDecT 167 50 = some (.iconst 1, 1) := by decide +kernel
theorem D167_51 : pgDecT 167 51 = some (.putfield 57, 3) := by decide +kernel
theorem F167_57 : pgFf 167 57 = some (7, 9, 1) := by decide +kernel
theorem D167_54 : pgDecT 167 54 = some (.return_, 1) := by decide +kernel
theorem D167_36 : pgDecT 167 36 = some (.aload_n 0, 1) := by decide +kernel
theorem D167_37 : pgDecT 167 37 = some (.getfield 29, 3) := by decide +kernel
theorem F167_29 : pgFf 167 29 = some (7, 0, 3) := by decide +kernel
theorem D167_40 : pgDecT 167 40 = some (.iload_n 1, 1) := by decide +kernel
theorem D167_41 : pgDecT 167 41 = some (.iload 4, 2) := by decide +kernel
theorem D167_43 : pgDecT 167 43 = some (.invokevirtual 180, 3) := by decide +kernel
theorem I167_180 : pgIi 167 180 = some (34, 2, 1) := by decide +kernel
theorem D167_46 : pgDecT 167 46 = some (.ifCond .ne 9, 3) := by decide +kernel
theorem D167_55 : pgDecT 167 55 = some (.aload_n 0, 1) := by decide +kernel
theorem D167_56 : pgDecT 167 56 = some (.getfield 12, 3) := by decide +kernel
theorem D167_59 : pgDecT 167 59 = some (.invokevirtual 72, 3) := by decide +kernel
theorem I167_72 : pgIi 167 72 = some (154, 0, 6) := by decide +kernel
theorem D167_62 : pgDecT 167 62 = some (.istore 5, 2) := by decide +kernel
theorem D167_64 : pgDecT 167 64 = some (.aload_n 0, 1) := by decide +kernel
theorem D167_65 : pgDecT 167 65 = some (.getfield 12, 3) := by decide +kernel
theorem D167_68 : pgDecT 167 68 = some (.iload 5, 2) := by decide +kernel
theorem D167_70 : pgDecT 167 70 = some (.iconst 0, 1) := by decide +kernel
theorem D167_71 : pgDecT 167 71 = some (.iload_n 3, 1) := by decide +kernel
theorem D167_72 : pgDecT 167 72 = some (.invokestatic 186, 3) := by decide +kernel
theorem I167_186 : pgIi 167 186 = some (171, 1, 100) := by decide +kernel
theorem D167_75 : pgDecT 167 75 = some (.invokevirtual 189, 3) := by decide +kernel
theorem I167_189 : pgIi 167 189 = some (172, 3, 6) := by decide +kernel
theorem D167_78 : pgDecT 167 78 = some (.aload_n 0, 1) := by decide +kernel
theorem D167_79 : pgDecT 167 79 = some (.aload_n 0, 1) := by decide +kernel
theorem D167_80 : pgDecT 167 80 = some (.getfield 29, 3) := by decide +kernel
theorem D167_83 : pgDecT 167 83 = some (.iload_n 1, 1) := by decide +kernel
theorem D167_84 : pgDecT 167 84 = some (.iload 4, 2) := by decide +kernel
theorem D167_86 : pgDecT 167 86 = some (.iload_n 2, 1) := by decide +kernel
theorem D167_87 : pgDecT 167 87 = some (.invokevirtual 192, 3) := by decide +kernel
theorem I167_192 : pgIi 167 192 = some (64, 3, 1) := by decide +kernel
theorem D167_90 : pgDecT 167 90 = some (.iload_n 1, 1) := by decide +kernel
theorem D167_91 : pgDecT 167 91 = some (.iload 4, 2) := by decide +kernel
theorem D167_93 : pgDecT 167 93 = some (.iload_n 2, 1) := by decide +kernel
theorem D167_94 : pgDecT 167 94 = some (.invokestatic 196, 3) := by decide +kernel
theorem I167_196 : pgIi 167 196 = some (119, 3, 100) := by decide +kernel
theorem D167_97 : pgDecT 167 97 = some (.iload 5, 2) := by decide +kernel
theorem D167_99 : pgDecT 167 99 = some (.invokevirtual 76, 3) := by decide +kernel
theorem I167_76 : pgIi 167 76 = some (155, 3, 7) := by decide +kernel
theorem D167_102 : pgDecT 167 102 = some (.return_, 1) := by decide +kernel
/-! 167: DictionaryHouse$Machine.enterMethod (II)V -/
def f167 (M : Mm) (x1 : Int) (x2 : Int) : Option (Int × Mm) := (f168 M).bind (fun q2 => (f169_50 M (M 47 11) 0 (M 47 13)).bind (fun q7 => (f170 M q7).bind (fun q12 => if q12 = (-1) then (some (0, (up M 47 9 1))) else (f34 M x1 q12).bind (fun q20 => if ¬ q20 = 0 then (f154 M).bind (fun zq26 => (f171 zq26.2 q7).bind (fun q32 => (f172 zq26.2 zq26.1 0 q32).bind (fun zq37 => (f64 zq37.2 x1 q12 x2).bind (fun q43 => (f119 zq37.2 x1 q12 x2).bind (fun q48 => (f155 zq37.2 q43 q48 zq26.1).bind (fun zq53 => some (0, zq53.2))))))) else (some (0, (up M 47 9 1)))))))
theorem c167 {L : Nat} {xs : Nat → Int32} {h : mvH} {M : Mm} {x1 x2 : Int} {v : Int} {M' : Mm} (R : rp h M) (rx1 : rg x1) (rx2 : rg x2) (hs : f167 M x1 x2 = some (v, M')) : evx L xs 4 167 0 [(0, .inr (.inr (.inl (some 47)))), (1, .inl (iz x1)), (2, .inl (iz x2))] [] h (.inl none, 0) M' := by
  unfold f167 at hs
  refine evx_F E167 D167_0 rfl rfl ?_
  refine evx_gfr E167 D167_1 F167_41 H47 rfl R ?_
  refine evx_F E167 D167_4 rfl rfl ?_
  refine evx_gfi (k := 11) E167 D167_5 F167_120 H47 rfl R ?_
  refine evx_F E167 D167_8 rfl rfl ?_
  refine evx_F E167 D167_9 rfl rfl ?_
  refine evx_gfr E167 D167_10 F167_12 H47 rfl R ?_
  obtain ⟨q2, e1, hs⟩ := Option.bind_eq_some_iff.mp hs
  refine evx_cv (D := 3) E167 D167_13 I167_169 rfl rfl H48 ⟨Nat.le_of_ble_eq_true rfl, Nat.le_of_ble_eq_true rfl⟩ ⟨rfl, Nat.le_of_ble_eq_true rfl⟩ rfl R (evx_up (Nat.le_of_ble_eq_true rfl) (c168 R  e1)) ?_
  intro h3 R4 w5
  show evx _ _ _ _ _ _ (.inr (.inr (.inl (some 50))) :: _) _ _ _
  refine evx_F E167 D167_16 rfl rfl ?_
  refine evx_gfi (k := 13) E167 D167_17 F167_126 H47 rfl R4 ?_
  obtain ⟨q7, e6, hs⟩ := Option.bind_eq_some_iff.mp hs
  refine evx_cv (D := 3) E167 D167_20 I167_173 rfl rfl H22 ⟨Nat.le_of_ble_eq_true rfl, Nat.le_of_ble_eq_true rfl⟩ ⟨rfl, Nat.le_of_ble_eq_true rfl⟩ rfl R4 (evx_up (Nat.le_of_ble_eq_true rfl) (c169_50 R4 (R.1 47 11) (by decide) (R4.1 47 13) e6)) ?_
  intro h8 R9 w10
  have w10 : rg q7 := w10
  show evx _ _ _ _ _ _ (.inl (iz q7) :: _) _ _ _
  refine evx_F E167 D167_23 rfl rfl ?_
  refine evx_F E167 D167_24 rfl rfl ?_
  obtain ⟨q12, e11, hs⟩ := Option.bind_eq_some_iff.mp hs
  refine evx_cs (D := 3) E167 D167_25 I167_177 rfl rfl (Nat.le_of_ble_eq_true rfl) ⟨rfl, Nat.le_of_ble_eq_true rfl⟩ rfl (evx_up (Nat.le_of_ble_eq_true rfl) (c170 R9 w10 e11)) ?_
  intro h13 R14 w15
  have w15 : rg q12 := w15
  show evx _ _ _ _ _ _ (.inl (iz q12) :: _) _ _ _
  refine evx_F E167 D167_28 rfl rfl ?_
  refine evx_F E167 D167_30 rfl rfl ?_
  refine evx_F E167 D167_32 rfl rfl ?_
  by_cases cb16 : q12 = (-1)
  · rw [if_pos cb16] at hs
    refine evx_F E167 D167_33 rfl (ifT (c2_eq_T w15 (by decide) cb16)) ?_
    refine evx_F E167 D167_49 rfl rfl ?_
    refine evx_F E167 D167_50 rfl rfl ?_
    refine evx_pfi (k := 9) E167 D167_51 F167_57 H47 rfl R14 (by decide) rfl ?_
    intro h17 R18
    cases hs
    exact evx_ret E167 D167_54 rfl (fun d => rfl) rfl trivial R18
  · rw [if_neg cb16] at hs
    refine evx_F E167 D167_33 rfl (ifF (c2_eq_F w15 (by decide) (by omega))) ?_
    refine evx_F E167 D167_36 rfl rfl ?_
    refine evx_gfr E167 D167_37 F167_29 H47 rfl R14 ?_
    refine evx_F E167 D167_40 rfl rfl ?_
    refine evx_F E167 D167_41 rfl rfl ?_
    obtain ⟨q20, e19, hs⟩ := Option.bind_eq_some_iff.mp hs
    refine evx_cv (D := 3) E167 D167_43 I167_180 rfl rfl H5 ⟨Nat.le_of_ble_eq_true rfl, Nat.le_of_ble_eq_true rfl⟩ ⟨rfl, Nat.le_of_ble_eq_true rfl⟩ rfl R14 (evx_up (Nat.le_of_ble_eq_true rfl) (c34 R14 rx1 w15 e19)) ?_
    intro h21 R22 w23
    have w23 : rg q20 := w23
    show evx _ _ _ _ _ _ (.inl (iz q20) :: _) _ _ _
    by_cases cb24 : ¬ q20 = 0
    · rw [if_pos cb24] at hs
      refine evx_F E167 D167_46 rfl (ifT (c1_ne_T w23 cb24)) ?_
      refine evx_F E167 D167_55 rfl rfl ?_
      refine evx_gfr E167 D167_56 F167_12 H47 rfl R22 ?_
      obtain ⟨⟨q26, M30⟩, e25, hs⟩ := Option.bind_eq_some_iff.mp hs
      dsimp only at hs
      refine evx_cv (D := 3) E167 D167_59 I167_72 rfl rfl H48 ⟨Nat.le_of_ble_eq_true rfl, Nat.le_of_ble_eq_true rfl⟩ ⟨rfl, Nat.le_of_ble_eq_true rfl⟩ rfl R22 (evx_up (Nat.le_of_ble_eq_true rfl) (c154 R22  e25)) ?_
      intro h27 R28 w29
      have w29 : rg q26 := w29
      show evx _ _ _ _ _ _ (.inl (iz q26) :: _) _ _ _
      refine evx_F E167 D167_62 rfl rfl ?_
      refine evx_F E167 D167_64 rfl rfl ?_
      refine evx_gfr E167 D167_65 F167_12 H47 rfl R28 ?_
      refine evx_F E167 D167_68 rfl rfl ?_
      refine evx_F E167 D167_70 rfl rfl ?_
      refine evx_F E167 D167_71 rfl rfl ?_
      obtain ⟨q32, e31, hs⟩ := Option.bind_eq_some_iff.mp hs
      refine evx_cs (D := 3) E167 D167_72 I167_186 rfl rfl (Nat.le_of_ble_eq_true rfl) ⟨rfl, Nat.le_of_ble_eq_true rfl⟩ rfl (evx_up (Nat.le_of_ble_eq_true rfl) (c171 R28 w10 e31)) ?_
      intro h33 R34 w35
      have w35 : rg q32 := w35
      show evx _ _ _ _ _ _ (.inl (iz q32) :: _) _ _ _
      obtain ⟨⟨q37, M41⟩, e36, hs⟩ := Option.bind_eq_some_iff.mp hs
      dsimp only at hs
      refine evx_cv (D := 3) E167 D167_75 I167_189 rfl rfl H48 ⟨Nat.le_of_ble_eq_true rfl, Nat.le_of_ble_eq_true rfl⟩ ⟨rfl, Nat.le_of_ble_eq_true rfl⟩ rfl R34 (evx_up (Nat.le_of_ble_eq_true rfl) (c172 R34 w29 (by decide) w35 e36)) ?_
      intro h38 R39 w40
      refine evx_F E167 D167_78 rfl rfl ?_
      refine evx_F E167 D167_79 rfl rfl ?_
      refine evx_gfr E167 D167_80 F167_29 H47 rfl R39 ?_
      refine evx_F E167 D167_83 rfl rfl ?_
      refine evx_F E167 D167_84 rfl rfl ?_
      refine evx_F E167 D167_86 rfl rfl ?_
      obtain ⟨q43, e42, hs⟩ := Option.bind_eq_some_iff.mp hs
      refine evx_cv (D := 3) E167 D167_87 I167_192 rfl rfl H5 ⟨Nat.le_of_ble_eq_true rfl, Nat.le_of_ble_eq_true rfl⟩ ⟨rfl, Nat.le_of_ble_eq_true rfl⟩ rfl R39 (evx_up (Nat.le_of_ble_eq_true rfl) (c64 R39 rx1 w15 rx2 e42)) ?_
      intro h44 R45 w46
      have w46 : rg q43 := w46
      show evx _ _ _ _ _ _ (.inl (iz q43) :: _) _ _ _
      refine evx_F E167 D167_90 rfl rfl ?_
      refine evx_F E167 D167_91 rfl rfl ?_
      refine evx_F E167 D167_93 rfl rfl ?_
      obtain ⟨q48, e47, hs⟩ := Option.bind_eq_some_iff.mp hs
      refine evx_cs (D := 3) E167 D167_94 I167_196 rfl rfl (Nat.le_of_ble_eq_true rfl) ⟨rfl, Nat.le_of_ble_eq_true rfl⟩ rfl (evx_up (Nat.le_of_ble_eq_true rfl) (c119 R45 rx1 w15 rx2 e47)) ?_
      intro h49 R50 w51
      have w51 : rg q48 := w51
      show evx _ _ _ _ _ _ (.inl (iz q48) :: _) _ _ _
      refine evx_F E167 D167_97 rfl rfl ?_
      obtain ⟨⟨q53, M57⟩, e52, hs⟩ := Option.bind_eq_some_iff.mp hs
      dsimp only at hs
      refine evx_cv (D := 3) E167 D167_99 I167_76 rfl rfl H47 ⟨Nat.le_of_ble_eq_true rfl, Nat.le_of_ble_eq_true rfl⟩ ⟨rfl, Nat.le_of_ble_eq_true rfl⟩ rfl R50 (evx_up (Nat.le_of_ble_eq_true rfl) (c155 R50 w46 w51 w29 e52)) ?_
      intro h54 R55 w56
      cases hs
      exact evx_ret E167 D167_102 rfl (fun d => rfl) rfl trivial R55
    · rw [if_neg cb24] at hs
      refine evx_F E167 D167_46 rfl (ifF (c1_ne_F w23 (by omega))) ?_
      refine evx_F E167 D167_49 rfl rfl ?_
      refine evx_F E167 D167_50 rfl rfl ?_
      refine evx_pfi (k := 9) E167 D167_51 F167_57 H47 rfl R22 (by decide) rfl ?_
      intro h58 R59
      cases hs
      exact evx_ret E167 D167_54 rfl (fun d => rfl) rfl trivial R59
set_option maxRecDepth 20000 in
theorem E173 : pgMm 173 = some (⟨"DictionaryHouse$Machine", "enterDefinition", "(I)V"⟩, prog_9_method_14_code, 4, none, []) := rfl
theorem D173_0 : pgDecT 173 0 = some (.aload_n 0, 1) := by decide +kernel
theorem D173_1 : pgDecT 173 1 = some (.getfield 12, 3) := by decide +kernel
theorem F173_12 : pgFf 173 12 = some (7, 4, 3) := by decide +kernel
theorem D173_4 : pgDecT 173 4 = some (.invokevirtual 72, 3) := by decide +kernel
theorem I173_72 : pgIi 173 72 = some (154, 0, 6) := by decide +kernel
theorem D173_7 : pgDecT 173 7 = some (.istore_n 2, 1) := by decide +kernel
theorem D173_8 : pgDecT 173 8 = some (.iconst 0, 1) := by decide +kernel
theorem D173_9 : pgDecT 173 9 = some (.istore_n 3, 1) := by decide +kernel
theorem D173_10 : pgDecT 173 10 = some (.iload_n 3, 1) := by decide +kernel
theorem D173_11 : pgDecT 173 11 = some (.bipush 8, 2) := by decide +kernel
theorem D173_13 : pgDecT 173 13 = some (.if_icmp .ge 41, 3) := by decide +kernel
theorem D173_54 : pgDecT 173 54 = some (.aload_n 0, 1) := by decide +kernel
theorem D173_55 : pgDecT 173 55 = some (.aload_n 0, 1) := by decide +kernel
theorem D173_56 : pgDecT 173 56 = some (.getfield 37, 3) := by decide +kernel
theorem F173_37 : pgFf 173 37 = some (7, 2, 3) := by decide +kernel
theorem D173_59 : pgDecT 173 59 = some (.iload_n 1, 1) := by decide +kernel
theorem D173_60 : pgDecT 173 60 = some (.invokevirtual 61, 3) := by decide +kernel
theorem I173_61 : pgIi 173 61 = some (153, 1, 3) := by decide +kernel
theorem D173_63 : pgDecT 173 63 = some (.iload_n 1, 1) := by decide +kernel
theorem D173_64 : pgDecT 173 64 = some (.invokestatic 67, 3) := by decide +kernel
theorem I173_67 : pgIi 173 67 = some (142, 1, 100) := by decide +kernel
theorem D173_67 : pgDecT 173 67 = some (.iload_n 2, 1) := by decide +kernel
theorem D173_68 : pgDecT 173 68 = some (.invokevirtual 76, 3) := by decide +kernel
theorem I173_76 : pgIi 173 76 = some (155, 3, 7) := by decide +kernel
theorem D173_71 : pgDecT 173 71 = some (.return_, 1) := by decide +kernel
theorem D173_16 : pgDecT 173 16 = some (.aload_n 0, 1) := by decide +kernel
theorem D173_17 : pgDecT 173 17 = some (.getfield 12, 3) := by decide +kernel
theorem D173_20 : pgDecT 173 20 = some (.iload_n 2, 1) := by decide +kernel
theorem D173_21 : pgDecT 173 21 = some (.iload_n 3, 1) := by decide +kernel
theorem D173_22 : pgDecT 173 22 = some (.aload_n 0, 1) := by decide +kernel
theorem D173_23 : pgDecT 173 23 = some (.getfield 41, 3) := by decide +kernel
theorem F173_41 : pgFf 173 41 = some (7, 3, 3) := by decide +kernel
theorem D173_26 : pgDecT 173 26 = some (.aload_n 0, 1) := by decide +kernel
theorem D173_27 : pgDecT 173 27 = some (.getfield 120, 3) := by decide +kernel
theorem F173_120 : pgFf 173 120 = some (7, 11, 0) := by decide +kernel
theorem D173_30 : pgDecT 173 30 = some (.iload_n 3, 1) := by decide +kernel
theorem D173_31 : pgDecT 173 31 = some (.aload_n 0, 1) := by decide +kernel
theorem D173_32 : pgDecT 173 32 = some (.getfield 12, 3) := by decide +kernel
theorem D173_35 : pgDecT 173 35 = some (.invokevirtual 169, 3) := by decide +kernel
theorem I173_169 : pgIi 173 169 = some (168, 0, 6) := by decide +kernel
theorem D173_38 : pgDecT 173 38 = some (.aload_n 0, 1) := by decide +kernel
theorem D173_39 : pgDecT 173 39 = some (.getfield 126, 3) := by decide +kernel
theorem F173_126 : pgFf 173 126 = some (7, 13, 0) := by decide +kernel
theorem D173_42 : pgDecT 173 42 = some (.invokevirtual 173, 3) := by decide +kernel
theorem I173_173 : pgIi 173 173 = some (169, 4, 8) := by decide +kernel
theorem D173_45 : pgDecT 173 45 = some (.invokevirtual 189, 3) := by decide +kernel
theorem I173_189 : pgIi 173 189 = some (172, 3, 6) := by decide +kernel
theorem D173_48 : pgDecT 173 48 = some (.iinc 3 1, 3) := by decide +kernel
theorem D173_51 : pgDecT 173 51 = some (.goto (-41), 3) := by decide +kernel
/-! 173: DictionaryHouse$Machine.enterDefinition (I)V -/
def l173 : Nat → Nat → Mm → Int → Int → Int → Option (Int × Mm)
  | 0, _, _, _, _, _ => none
  | f + 1, 10, M, x1, x2, x3 => if 8 ≤ x3 then (f153 M x1).bind (fun q9 => (f142 M x1).bind (fun q14 => (f155 M q9 q14 x2).bind (fun zq19 => some (0, zq19.2)))) else (f168 M).bind (fun q25 => (f169_50 M (M 47 11) x3 (M 47 13)).bind (fun q30 => (f172 M x2 x3 q30).bind (fun zq35 => if rg (x3 + 1) then (l173 f 10 zq35.2 x1 x2 (x3 + 1)) else none)))
  | _, _, _, _, _, _ => none
theorem d173 {L : Nat} {xs : Nat → Int32} (f : Nat) : (∀ (M : Mm) (x1 x2 x3 : Int) (h : mvH) (v : Int) (M' : Mm), l173 f 10 M x1 x2 x3 = some (v, M') → rp h M → rg x1 → rg x2 → rg x3 → evx L xs 4 173 10 [(0, .inr (.inr (.inl (some 47)))), (1, .inl (iz x1)), (2, .inl (iz x2)), (3, .inl (iz x3))] [] h (.inl none, 0) M') := by
  induction f with
  | zero => exact (fun M x1 x2 x3 h v M' hs _ _ _ _ => by cases hs)
  | succ f ih =>
    intro M x1 x2 x3 h v M' hs R rx1 rx2 rx3
    rw [l173] at hs
    refine evx_F E173 D173_10 rfl rfl ?_
    refine evx_k (k := 8) E173 D173_11 rfl (by decide) ?_
    by_cases cb7 : 8 ≤ x3
    · rw [if_pos cb7] at hs
      refine evx_F E173 D173_13 rfl (ifT (c2_ge_T rx3 (by decide) cb7)) ?_
      refine evx_F E173 D173_54 rfl rfl ?_
      refine evx_F E173 D173_55 rfl rfl ?_
      refine evx_gfr E173 D173_56 F173_37 H47 rfl R ?_
      refine evx_F E173 D173_59 rfl rfl ?_
      obtain ⟨q9, e8, hs⟩ := Option.bind_eq_some_iff.mp hs
      refine evx_cv (D := 3) E173 D173_60 I173_61 rfl rfl H17 ⟨Nat.le_of_ble_eq_true rfl, Nat.le_of_ble_eq_true rfl⟩ ⟨rfl, Nat.le_of_ble_eq_true rfl⟩ rfl R (evx_up (Nat.le_of_ble_eq_true rfl) (c153 R rx1 e8)) ?_
      intro h10 R11 w12
      have w12 : rg q9 := w12
      show evx _ _ _ _ _ _ (.inl (iz q9) :: _) _ _ _
      refine evx_F E173 D173_63 rfl rfl ?_
      obtain ⟨q14, e13, hs⟩ := Option.bind_eq_some_iff.mp hs
      refine evx_cs (D := 3) E173 D173_64 I173_67 rfl rfl (Nat.le_of_ble_eq_true rfl) ⟨rfl, Nat.le_of_ble_eq_true rfl⟩ rfl (evx_up (Nat.le_of_ble_eq_true rfl) (c142 R11 rx1 e13)) ?_
      intro h15 R16 w17
      have w17 : rg q14 := w17
      show evx _ _ _ _ _ _ (.inl (iz q14) :: _) _ _ _
      refine evx_F E173 D173_67 rfl rfl ?_
      obtain ⟨⟨q19, M23⟩, e18, hs⟩ := Option.bind_eq_some_iff.mp hs
      dsimp only at hs
      refine evx_cv (D := 3) E173 D173_68 I173_76 rfl rfl H47 ⟨Nat.le_of_ble_eq_true rfl, Nat.le_of_ble_eq_true rfl⟩ ⟨rfl, Nat.le_of_ble_eq_true rfl⟩ rfl R16 (evx_up (Nat.le_of_ble_eq_true rfl) (c155 R16 w12 w17 rx2 e18)) ?_
      intro h20 R21 w22
      cases hs
      exact evx_ret E173 D173_71 rfl (fun d => rfl) rfl trivial R21
    · rw [if_neg cb7] at hs
      refine evx_F E173 D173_13 rfl (ifF (c2_ge_F rx3 (by decide) (by omega))) ?_
      refine evx_F E173 D173_16 rfl rfl ?_
      refine evx_gfr E173 D173_17 F173_12 H47 rfl R ?_
      refine evx_F E173 D173_20 rfl rfl ?_
      refine evx_F E173 D173_21 rfl rfl ?_
      refine evx_F E173 D173_22 rfl rfl ?_
      refine evx_gfr E173 D173_23 F173_41 H47 rfl R ?_
      refine evx_F E173 D173_26 rfl rfl ?_
      refine evx_gfi (k := 11) E173 D173_27 F173_120 H47 rfl R ?_
      refine evx_F E173 D173_30 rfl rfl ?_
      refine evx_F E173 D173_31 rfl rfl ?_
      refine evx_gfr E173 D173_32 F173_12 H47 rfl R ?_
      obtain ⟨q25, e24, hs⟩ := Option.bind_eq_some_iff.mp hs
      refine evx_cv (D := 3) E173 D173_35 I173_169 rfl rfl H48 ⟨Nat.le_of_ble_eq_true rfl, Nat.le_of_ble_eq_true rfl⟩ ⟨rfl, Nat.le_of_ble_eq_true rfl⟩ rfl R (evx_up (Nat.le_of_ble_eq_true rfl) (c168 R  e24)) ?_
      intro h26 R27 w28
      show evx _ _ _ _ _ _ (.inr (.inr (.inl (some 50))) :: _) _ _ _
      refine evx_F E173 D173_38 rfl rfl ?_
      refine evx_gfi (k := 13) E173 D173_39 F173_126 H47 rfl R27 ?_
      obtain ⟨q30, e29, hs⟩ := Option.bind_eq_some_iff.mp hs
      refine evx_cv (D := 3) E173 D173_42 I173_173 rfl rfl H22 ⟨Nat.le_of_ble_eq_true rfl, Nat.le_of_ble_eq_true rfl⟩ ⟨rfl, Nat.le_of_ble_eq_true rfl⟩ rfl R27 (evx_up (Nat.le_of_ble_eq_true rfl) (c169_50 R27 (R.1 47 11) rx3 (R27.1 47 13) e29)) ?_
      intro h31 R32 w33
      have w33 : rg q30 := w33
      show evx _ _ _ _ _ _ (.inl (iz q30) :: _) _ _ _
      obtain ⟨⟨q35, M39⟩, e34, hs⟩ := Option.bind_eq_some_iff.mp hs
      dsimp only at hs
      refine evx_cv (D := 3) E173 D173_45 I173_189 rfl rfl H48 ⟨Nat.le_of_ble_eq_true rfl, Nat.le_of_ble_eq_true rfl⟩ ⟨rfl, Nat.le_of_ble_eq_true rfl⟩ rfl R32 (evx_up (Nat.le_of_ble_eq_true rfl) (c172 R32 rx2 rx3 w33 e34)) ?_
      intro h36 R37 w38
      refine evx_inc E173 D173_48 (Nat.le_of_ble_eq_true rfl) rfl ?_
      refine evx_F E173 D173_51 rfl rfl ?_
      obtain ⟨k40, hs⟩ := ck hs
      show evx _ _ _ _ _ [(3, .inl (iz (x3 + 1))), (0, .inr (.inr (.inl (some 47)))), (1, .inl (iz x1)), (2, .inl (iz x2))] _ _ _ _
      exact evx_lv (lvLe_mk (fm rfl (fm rfl (fm rfl (fm rfl fn)))) (fm rfl (fm rfl (fm rfl (fm rfl fn)))) (fm rfl (fm rfl (fm rfl (fm rfl fn))))) (ih _ _ _ _ _ _ _ hs R37 rx1 rx2 k40)
def f173 (M : Mm) (x1 : Int) : Option (Int × Mm) := (f154 M).bind (fun zq2 => l173 FU 10 zq2.2 x1 zq2.1 0)
theorem c173 {L : Nat} {xs : Nat → Int32} {h : mvH} {M : Mm} {x1 : Int} {v : Int} {M' : Mm} (R : rp h M) (rx1 : rg x1) (hs : f173 M x1 = some (v, M')) : evx L xs 4 173 0 [(0, .inr (.inr (.inl (some 47)))), (1, .inl (iz x1))] [] h (.inl none, 0) M' := by
  unfold f173 at hs
  refine evx_F E173 D173_0 rfl rfl ?_
  refine evx_gfr E173 D173_1 F173_12 H47 rfl R ?_
  obtain ⟨⟨q2, M6⟩, e1, hs⟩ := Option.bind_eq_some_iff.mp hs
  dsimp only at hs
  refine evx_cv (D := 3) E173 D173_4 I173_72 rfl rfl H48 ⟨Nat.le_of_ble_eq_true rfl, Nat.le_of_ble_eq_true rfl⟩ ⟨rfl, Nat.le_of_ble_eq_true rfl⟩ rfl R (evx_up (Nat.le_of_ble_eq_true rfl) (c154 R  e1)) ?_
  intro h3 R4 w5
  have w5 : rg q2 := w5
  show evx _ _ _ _ _ _ (.inl (iz q2) :: _) _ _ _
  refine evx_F E173 D173_7 rfl rfl ?_
  refine evx_F E173 D173_8 rfl rfl ?_
  refine evx_F E173 D173_9 rfl rfl ?_
  show evx _ _ _ _ _ [(3, .inl (iz 0)), (2, .inl (iz q2)), (0, .inr (.inr (.inl (some 47)))), (1, .inl (iz x1))] _ _ _ _
  exact evx_lv (lvLe_mk (fm rfl (fm rfl (fm rfl (fm rfl fn)))) (fm rfl (fm rfl (fm rfl (fm rfl fn)))) (fm rfl (fm rfl (fm rfl (fm rfl fn))))) ((d173 FU) _ _ _ _ _ _ _ hs R4 rx1 w5 (by decide))
set_option maxRecDepth 20000 in
theorem E177 : pgMm 177 = some (⟨"DictionaryHouse$Machine", "finish", "(IIII)V"⟩, prog_9_method_17_code, 5, none, []) := rfl
theorem D177_0 : pgDecT 177 0 = some (.iload_n 1, 1) := by decide +kernel
theorem D177_1 : pgDecT 177 1 = some (.tableswitch 148 2 6 #[35, 67, 106, 148, 131], 35) := by decide +kernel
theorem D177_36 : pgDecT 177 36 = some (.aload_n 0, 1) := by decide +kernel
theorem D177_37 : pgDecT 177 37 = some (.aload_n 0, 1) := by decide +kernel
theorem D177_38 : pgDecT 177 38 = some (.getfield 12, 3) := by decide +kernel
theorem F177_12 : pgFf 177 12 = some (7, 4, 3) := by decide +kernel
theorem D177_41 : pgDecT 177 41 = some (.aload_n 0, 1) := by decide +kernel
theorem D177_42 : pgDecT 177 42 = some (.getfield 12, 3) := by decide +kernel
theorem D177_45 : pgDecT 177 45 = some (.iload_n 2, 1) := by decide +kernel
theorem D177_46 : pgDecT 177 46 = some (.invokevirtual 105, 3) := by decide +kernel
theorem I177_105 : pgIi 177 105 = some (178, 1, 6) := by decide +kernel
theorem D177_49 : pgDecT 177 49 = some (.aload_n 0, 1) := by decide +kernel
theorem D177_50 : pgDecT 177 50 = some (.getfield 12, 3) := by decide +kernel
theorem D177_53 : pgDecT 177 53 = some (.iload 4, 2) := by decide +kernel
theorem D177_55 : pgDecT 177 55 = some (.invokevirtual 105, 3) := by decide +kernel
theorem D177_58 : pgDecT 177 58 = some (.iadd, 1) := by decide +kernel
theorem D177_59 : pgDecT 177 59 = some (.invokevirtual 138, 3) := by decide +kernel
theorem I177_138 : pgIi 177 138 = some (160, 1, 6) := by decide +kernel
theorem D177_62 : pgDecT 177 62 = some (.invokevirtual 141, 3) := by decide +kernel
theorem I177_141 : pgIi 177 141 = some (162, 1, 7) := by decide +kernel
theorem D177_65 : pgDecT 177 65 = some (.goto 101, 3) := by decide +kernel
theorem D177_166 : pgDecT 177 166 = some (.return_, 1) := by decide +kernel
theorem D177_68 : pgDecT 177 68 = some (.aload_n 0, 1) := by decide +kernel
theorem D177_69 : pgDecT 177 69 = some (.aload_n 0, 1) := by decide +kernel
theorem D177_70 : pgDecT 177 70 = some (.getfield 12, 3) := by decide +kernel
theorem D177_73 : pgDecT 177 73 = some (.aload_n 0, 1) := by decide +kernel
theorem D177_74 : pgDecT 177 74 = some (.getfield 12, 3) := by decide +kernel
theorem D177_77 : pgDecT 177 77 = some (.iload_n 2, 1) := by decide +kernel
theorem D177_78 : pgDecT 177 78 = some (.invokevirtual 105, 3) := by decide +kernel
theorem D177_81 : pgDecT 177 81 = some (.aload_n 0, 1) := by decide +kernel
theorem D177_82 : pgDecT 177 82 = some (.getfield 12, 3) := by decide +kernel
theorem D177_85 : pgDecT 177 85 = some (.iload 4, 2) := by decide +kernel
theorem D177_87 : pgDecT 177 87 = some (.invokevirtual 105, 3) := by decide +kernel
theorem D177_90 : pgDecT 177 90 = some (.if_icmp .ge 7, 3) := by decide +kernel
theorem D177_97 : pgDecT 177 97 = some (.iconst 0, 1) := by decide +kernel
theorem D177_98 : pgDecT 177 98 = some (.invokevirtual 138, 3) := by decide +kernel
theorem D177_101 : pgDecT 177 101 = some (.invokevirtual 141, 3) := by decide +kernel
theorem D177_104 : pgDecT 177 104 = some (.goto 62, 3) := by decide +kernel
theorem D177_93 : pgDecT 177 93 = some (.iconst 1, 1) := by decide +kernel
theorem D177_94 : pgDecT 177 94 = some (.goto 4, 3) := by decide +kernel
theorem D177_107 : pgDecT 177 107 = some (.aload_n 0, 1) := by decide +kernel
theorem D177_108 : pgDecT 177 108 = some (.aload_n 0, 1) := by decide +kernel
theorem D177_109 : pgDecT 177 109 = some (.getfield 12, 3) := by decide +kernel
theorem D177_112 : pgDecT 177 112 = some (.iload_n 2, 1) := by decide +kernel
theorem D177_113 : pgDecT 177 113 = some (.invokevirtual 105, 3) := by decide +kernel
theorem D177_116 : pgDecT 177 116 = some (.iconst 1, 1) := by decide +kernel
theorem D177_117 : pgDecT 177 117 = some (.if_icmp .ne 7, 3) := by decide +kernel
theorem D177_124 : pgDecT 177 124 = some (.iload 4, 2) := by decide +kernel
theorem D177_126 : pgDecT 177 126 = some (.invokevirtual 141, 3) := by decide +kernel
theorem D177_129 : pgDecT 177 129 = some (.goto 37, 3) := by decide +kernel
theorem D177_120 : pgDecT 177 120 = some (.iload_n 3, 1) := by decide +kernel
theorem D177_121 : pgDecT 177 121 = some (.goto 5, 3) := by decide +kernel
theorem D177_149 : pgDecT 177 149 = some (.aload_n 0, 1) := by decide +kernel
theorem D177_150 : pgDecT 177 150 = some (.iload_n 2, 1) := by decide +kernel
theorem D177_151 : pgDecT 177 151 = some (.iload_n 3, 1) := by decide +kernel
theorem D177_152 : pgDecT 177 152 = some (.iload 4, 2) := by decide +kernel
theorem D177_154 : pgDecT 177 154 = some (.aload_n 0, 1) := by decide +kernel
theorem D177_155 : pgDecT 177 155 = some (.getfield 12, 3) := by decide +kernel
theorem D177_158 : pgDecT 177 158 = some (.iload 4, 2) := by decide +kernel
theorem D177_160 : pgDecT 177 160 = some (.invokevirtual 108, 3) := by decide +kernel
theorem I177_108 : pgIi 177 108 = some (180, 1, 6) := by decide +kernel
theorem D177_163 : pgDecT 177 163 = some (.invokevirtual 202, 3) := by decide +kernel
theorem I177_202 : pgIi 177 202 = some (181, 4, 7) := by decide +kernel
theorem D177_132 : pgDecT 177 132 = some (.aload_n 0, 1) := by decide +kernel
theorem D177_133 : pgDecT 177 133 = some (.aload_n 0, 1) := by decide +kernel
theorem D177_134 : pgDecT 177 134 = some (.getfield 12, 3) := by decide +kernel
theorem D177_137 : pgDecT 177 137 = some (.iload_n 2, 1) := by decide +kernel
theorem D177_138 : pgDecT 177 138 = some (.iload 4, 2) := by decide +kernel
theorem D177_140 : pgDecT 177 140 = some (.invokevirtual 215, 3) := by decide +kernel
theorem I177_215 : pgIi 177 215 = some (179, 2, 6) := by decide +kernel
theorem D177_143 : pgDecT 177 143 = some (.invokevirtual 141, 3) := by decide +kernel
theorem D177_146 : pgDecT 177 146 = some (.goto 20, 3) := by decide +kernel
/-! 177: DictionaryHouse$Machine.finish (IIII)V -/
def f177 (M : Mm) (x1 : Int) (x2 : Int) (x3 : Int) (x4 : Int) : Option (Int × Mm) := if x1 = 2 then (f178 M x2).bind (fun q3 => (f178 M x4).bind (fun q8 => (f160 M (bAdd q3 q8)).bind (fun zq13 => (f162 zq13.2 zq13.1).bind (fun zq19 => some (0, zq19.2))))) else (if x1 = 3 then (f178 M x2).bind (fun q26 => (f178 M x4).bind (fun q31 => if q31 ≤ q26 then (f160 M 0).bind (fun zq37 => (f162 zq37.2 zq37.1).bind (fun zq43 => some (0, zq43.2))) else (f160 M 1).bind (fun zq49 => (f162 zq49.2 zq49.1).bind (fun zq55 => some (0, zq55.2))))) else (if x1 = 4 then (f178 M x2).bind (fun q62 => if ¬ q62 = 1 then (f162 M x4).bind (fun zq68 => some (0, zq68.2)) else (f162 M x3).bind (fun zq74 => some (0, zq74.2))) else (if x1 = 5 then (f180 M x4).bind (fun q81 => (f181 M x2 x3 x4 q81).bind (fun zq86 => some (0, zq86.2))) else (if x1 = 6 then (f179 M x2 x4).bind (fun zq93 => (f162 zq93.2 zq93.1).bind (fun zq99 => some (0, zq99.2))) else ((f180 M x4).bind (fun q105 => (f181 M x2 x3 x4 q105).bind (fun zq110 => some (0, zq110.2))))))))
theorem c177 {L : Nat} {xs : Nat → Int32} {h : mvH} {M : Mm} {x1 x2 x3 x4 : Int} {v : Int} {M' : Mm} (R : rp h M) (rx1 : rg x1) (rx2 : rg x2) (rx3 : rg x3) (rx4 : rg x4) (hs : f177 M x1 x2 x3 x4 = some (v, M')) : evx L xs 4 177 0 [(0, .inr (.inr (.inl (some 47)))), (1, .inl (iz x1)), (2, .inl (iz x2)), (3, .inl (iz x3)), (4, .inl (iz x4))] [] h (.inl none, 0) M' := by
  unfold f177 at hs
  refine evx_F E177 D177_0 rfl rfl ?_
  by_cases cb1 : x1 = 2
  · rw [if_pos cb1] at hs
    refine evx_tsi (2) E177 D177_1 cb1 (by decide) (by decide) rfl rfl ?_
    refine evx_F E177 D177_36 rfl rfl ?_
    refine evx_F E177 D177_37 rfl rfl ?_
    refine evx_gfr E177 D177_38 F177_12 H47 rfl R ?_
    refine evx_F E177 D177_41 rfl rfl ?_
    refine evx_gfr E177 D177_42 F177_12 H47 rfl R ?_
    refine evx_F E177 D177_45 rfl rfl ?_
    obtain ⟨q3, e2, hs⟩ := Option.bind_eq_some_iff.mp hs
    refine evx_cv (D := 3) E177 D177_46 I177_105 rfl rfl H48 ⟨Nat.le_of_ble_eq_true rfl, Nat.le_of_ble_eq_true rfl⟩ ⟨rfl, Nat.le_of_ble_eq_true rfl⟩ rfl R (evx_up (Nat.le_of_ble_eq_true rfl) (c178 R rx2 e2)) ?_
    intro h4 R5 w6
    have w6 : rg q3 := w6
    show evx _ _ _ _ _ _ (.inl (iz q3) :: _) _ _ _
    refine evx_F E177 D177_49 rfl rfl ?_
    refine evx_gfr E177 D177_50 F177_12 H47 rfl R5 ?_
    refine evx_F E177 D177_53 rfl rfl ?_
    obtain ⟨q8, e7, hs⟩ := Option.bind_eq_some_iff.mp hs
    refine evx_cv (D := 3) E177 D177_55 I177_105 rfl rfl H48 ⟨Nat.le_of_ble_eq_true rfl, Nat.le_of_ble_eq_true rfl⟩ ⟨rfl, Nat.le_of_ble_eq_true rfl⟩ rfl R5 (evx_up (Nat.le_of_ble_eq_true rfl) (c178 R5 rx4 e7)) ?_
    intro h9 R10 w11
    have w11 : rg q8 := w11
    show evx _ _ _ _ _ _ (.inl (iz q8) :: _) _ _ _
    refine evx_iaddw E177 D177_58 ?_
    obtain ⟨⟨q13, M17⟩, e12, hs⟩ := Option.bind_eq_some_iff.mp hs
    dsimp only at hs
    refine evx_cv (D := 3) E177 D177_59 I177_138 rfl rfl H48 ⟨Nat.le_of_ble_eq_true rfl, Nat.le_of_ble_eq_true rfl⟩ ⟨rfl, Nat.le_of_ble_eq_true rfl⟩ rfl R10 (evx_up (Nat.le_of_ble_eq_true rfl) (c160 R10 (iz_rg _) e12)) ?_
    intro h14 R15 w16
    have w16 : rg q13 := w16
    show evx _ _ _ _ _ _ (.inl (iz q13) :: _) _ _ _
    obtain ⟨⟨q19, M23⟩, e18, hs⟩ := Option.bind_eq_some_iff.mp hs
    dsimp only at hs
    refine evx_cv (D := 3) E177 D177_62 I177_141 rfl rfl H47 ⟨Nat.le_of_ble_eq_true rfl, Nat.le_of_ble_eq_true rfl⟩ ⟨rfl, Nat.le_of_ble_eq_true rfl⟩ rfl R15 (evx_up (Nat.le_of_ble_eq_true rfl) (c162 R15 w16 e18)) ?_
    intro h20 R21 w22
    refine evx_F E177 D177_65 rfl rfl ?_
    cases hs
    exact evx_ret E177 D177_166 rfl (fun d => rfl) rfl trivial R21
  · rw [if_neg cb1] at hs
    by_cases cb24 : x1 = 3
    · rw [if_pos cb24] at hs
      refine evx_tsi (3) E177 D177_1 cb24 (by decide) (by decide) rfl rfl ?_
      refine evx_F E177 D177_68 rfl rfl ?_
      refine evx_F E177 D177_69 rfl rfl ?_
      refine evx_gfr E177 D177_70 F177_12 H47 rfl R ?_
      refine evx_F E177 D177_73 rfl rfl ?_
      refine evx_gfr E177 D177_74 F177_12 H47 rfl R ?_
      refine evx_F E177 D177_77 rfl rfl ?_
      obtain ⟨q26, e25, hs⟩ := Option.bind_eq_some_iff.mp hs
      refine evx_cv (D := 3) E177 D177_78 I177_105 rfl rfl H48 ⟨Nat.le_of_ble_eq_true rfl, Nat.le_of_ble_eq_true rfl⟩ ⟨rfl, Nat.le_of_ble_eq_true rfl⟩ rfl R (evx_up (Nat.le_of_ble_eq_true rfl) (c178 R rx2 e25)) ?_
      intro h27 R28 w29
      have w29 : rg q26 := w29
      show evx _ _ _ _ _ _ (.inl (iz q26) :: _) _ _ _
      refine evx_F E177 D177_81 rfl rfl ?_
      refine evx_gfr E177 D177_82 F177_12 H47 rfl R28 ?_
      refine evx_F E177 D177_85 rfl rfl ?_
      obtain ⟨q31, e30, hs⟩ := Option.bind_eq_some_iff.mp hs
      refine evx_cv (D := 3) E177 D177_87 I177_105 rfl rfl H48 ⟨Nat.le_of_ble_eq_true rfl, Nat.le_of_ble_eq_true rfl⟩ ⟨rfl, Nat.le_of_ble_eq_true rfl⟩ rfl R28 (evx_up (Nat.le_of_ble_eq_true rfl) (c178 R28 rx4 e30)) ?_
      intro h32 R33 w34
      have w34 : rg q31 := w34
      show evx _ _ _ _ _ _ (.inl (iz q31) :: _) _ _ _
      by_cases cb35 : q31 ≤ q26
      · rw [if_pos cb35] at hs
        refine evx_F E177 D177_90 rfl (ifT (c2_ge_T w29 w34 cb35)) ?_
        refine evx_F E177 D177_97 rfl rfl ?_
        obtain ⟨⟨q37, M41⟩, e36, hs⟩ := Option.bind_eq_some_iff.mp hs
        dsimp only at hs
        refine evx_cv (D := 3) E177 D177_98 I177_138 rfl rfl H48 ⟨Nat.le_of_ble_eq_true rfl, Nat.le_of_ble_eq_true rfl⟩ ⟨rfl, Nat.le_of_ble_eq_true rfl⟩ rfl R33 (evx_up (Nat.le_of_ble_eq_true rfl) (c160 R33 (by decide) e36)) ?_
        intro h38 R39 w40
        have w40 : rg q37 := w40
        show evx _ _ _ _ _ _ (.inl (iz q37) :: _) _ _ _
        obtain ⟨⟨q43, M47⟩, e42, hs⟩ := Option.bind_eq_some_iff.mp hs
        dsimp only at hs
        refine evx_cv (D := 3) E177 D177_101 I177_141 rfl rfl H47 ⟨Nat.le_of_ble_eq_true rfl, Nat.le_of_ble_eq_true rfl⟩ ⟨rfl, Nat.le_of_ble_eq_true rfl⟩ rfl R39 (evx_up (Nat.le_of_ble_eq_true rfl) (c162 R39 w40 e42)) ?_
        intro h44 R45 w46
        refine evx_F E177 D177_104 rfl rfl ?_
        cases hs
        exact evx_ret E177 D177_166 rfl (fun d => rfl) rfl trivial R45
      · rw [if_neg cb35] at hs
        refine evx_F E177 D177_90 rfl (ifF (c2_ge_F w29 w34 (by omega))) ?_
        refine evx_F E177 D177_93 rfl rfl ?_
        refine evx_F E177 D177_94 rfl rfl ?_
        obtain ⟨⟨q49, M53⟩, e48, hs⟩ := Option.bind_eq_some_iff.mp hs
        dsimp only at hs
        refine evx_cv (D := 3) E177 D177_98 I177_138 rfl rfl H48 ⟨Nat.le_of_ble_eq_true rfl, Nat.le_of_ble_eq_true rfl⟩ ⟨rfl, Nat.le_of_ble_eq_true rfl⟩ rfl R33 (evx_up (Nat.le_of_ble_eq_true rfl) (c160 R33 (by decide) e48)) ?_
        intro h50 R51 w52
        have w52 : rg q49 := w52
        show evx _ _ _ _ _ _ (.inl (iz q49) :: _) _ _ _
        obtain ⟨⟨q55, M59⟩, e54, hs⟩ := Option.bind_eq_some_iff.mp hs
        dsimp only at hs
        refine evx_cv (D := 3) E177 D177_101 I177_141 rfl rfl H47 ⟨Nat.le_of_ble_eq_true rfl, Nat.le_of_ble_eq_true rfl⟩ ⟨rfl, Nat.le_of_ble_eq_true rfl⟩ rfl R51 (evx_up (Nat.le_of_ble_eq_true rfl) (c162 R51 w52 e54)) ?_
        intro h56 R57 w58
        refine evx_F E177 D177_104 rfl rfl ?_
        cases hs
        exact evx_ret E177 D177_166 rfl (fun d => rfl) rfl trivial R57
    · rw [if_neg cb24] at hs
      by_cases cb60 : x1 = 4
      · rw [if_pos cb60] at hs
        refine evx_tsi (4) E177 D177_1 cb60 (by decide) (by decide) rfl rfl ?_
        refine evx_F E177 D177_107 rfl rfl ?_
        refine evx_F E177 D177_108 rfl rfl ?_
        refine evx_gfr E177 D177_109 F177_12 H47 rfl R ?_
        refine evx_F E177 D177_112 rfl rfl ?_
        obtain ⟨q62, e61, hs⟩ := Option.bind_eq_some_iff.mp hs
        refine evx_cv (D := 3) E177 D177_113 I177_105 rfl rfl H48 ⟨Nat.le_of_ble_eq_true rfl, Nat.le_of_ble_eq_true rfl⟩ ⟨rfl, Nat.le_of_ble_eq_true rfl⟩ rfl R (evx_up (Nat.le_of_ble_eq_true rfl) (c178 R rx2 e61)) ?_
        intro h63 R64 w65
        have w65 : rg q62 := w65
        show evx _ _ _ _ _ _ (.inl (iz q62) :: _) _ _ _
        refine evx_F E177 D177_116 rfl rfl ?_
        by_cases cb66 : ¬ q62 = 1
        · rw [if_pos cb66] at hs
          refine evx_F E177 D177_117 rfl (ifT (c2_ne_T w65 (by decide) cb66)) ?_
          refine evx_F E177 D177_124 rfl rfl ?_
          obtain ⟨⟨q68, M72⟩, e67, hs⟩ := Option.bind_eq_some_iff.mp hs
          dsimp only at hs
          refine evx_cv (D := 3) E177 D177_126 I177_141 rfl rfl H47 ⟨Nat.le_of_ble_eq_true rfl, Nat.le_of_ble_eq_true rfl⟩ ⟨rfl, Nat.le_of_ble_eq_true rfl⟩ rfl R64 (evx_up (Nat.le_of_ble_eq_true rfl) (c162 R64 rx4 e67)) ?_
          intro h69 R70 w71
          refine evx_F E177 D177_129 rfl rfl ?_
          cases hs
          exact evx_ret E177 D177_166 rfl (fun d => rfl) rfl trivial R70
        · rw [if_neg cb66] at hs
          refine evx_F E177 D177_117 rfl (ifF (c2_ne_F w65 (by decide) (by omega))) ?_
          refine evx_F E177 D177_120 rfl rfl ?_
          refine evx_F E177 D177_121 rfl rfl ?_
          obtain ⟨⟨q74, M78⟩, e73, hs⟩ := Option.bind_eq_some_iff.mp hs
          dsimp only at hs
          refine evx_cv (D := 3) E177 D177_126 I177_141 rfl rfl H47 ⟨Nat.le_of_ble_eq_true rfl, Nat.le_of_ble_eq_true rfl⟩ ⟨rfl, Nat.le_of_ble_eq_true rfl⟩ rfl R64 (evx_up (Nat.le_of_ble_eq_true rfl) (c162 R64 rx3 e73)) ?_
          intro h75 R76 w77
          refine evx_F E177 D177_129 rfl rfl ?_
          cases hs
          exact evx_ret E177 D177_166 rfl (fun d => rfl) rfl trivial R76
      · rw [if_neg cb60] at hs
        by_cases cb79 : x1 = 5
        · rw [if_pos cb79] at hs
          refine evx_tsi (5) E177 D177_1 cb79 (by decide) (by decide) rfl rfl ?_
          refine evx_F E177 D177_149 rfl rfl ?_
          refine evx_F E177 D177_150 rfl rfl ?_
          refine evx_F E177 D177_151 rfl rfl ?_
          refine evx_F E177 D177_152 rfl rfl ?_
          refine evx_F E177 D177_154 rfl rfl ?_
          refine evx_gfr E177 D177_155 F177_12 H47 rfl R ?_
          refine evx_F E177 D177_158 rfl rfl ?_
          obtain ⟨q81, e80, hs⟩ := Option.bind_eq_some_iff.mp hs
          refine evx_cv (D := 3) E177 D177_160 I177_108 rfl rfl H48 ⟨Nat.le_of_ble_eq_true rfl, Nat.le_of_ble_eq_true rfl⟩ ⟨rfl, Nat.le_of_ble_eq_true rfl⟩ rfl R (evx_up (Nat.le_of_ble_eq_true rfl) (c180 R rx4 e80)) ?_
          intro h82 R83 w84
          have w84 : rg q81 := w84
          show evx _ _ _ _ _ _ (.inl (iz q81) :: _) _ _ _
          obtain ⟨⟨q86, M90⟩, e85, hs⟩ := Option.bind_eq_some_iff.mp hs
          dsimp only at hs
          refine evx_cv (D := 3) E177 D177_163 I177_202 rfl rfl H47 ⟨Nat.le_of_ble_eq_true rfl, Nat.le_of_ble_eq_true rfl⟩ ⟨rfl, Nat.le_of_ble_eq_true rfl⟩ rfl R83 (evx_up (Nat.le_of_ble_eq_true rfl) (c181 R83 rx2 rx3 rx4 w84 e85)) ?_
          intro h87 R88 w89
          cases hs
          exact evx_ret E177 D177_166 rfl (fun d => rfl) rfl trivial R88
        · rw [if_neg cb79] at hs
          by_cases cb91 : x1 = 6
          · rw [if_pos cb91] at hs
            refine evx_tsi (6) E177 D177_1 cb91 (by decide) (by decide) rfl rfl ?_
            refine evx_F E177 D177_132 rfl rfl ?_
            refine evx_F E177 D177_133 rfl rfl ?_
            refine evx_gfr E177 D177_134 F177_12 H47 rfl R ?_
            refine evx_F E177 D177_137 rfl rfl ?_
            refine evx_F E177 D177_138 rfl rfl ?_
            obtain ⟨⟨q93, M97⟩, e92, hs⟩ := Option.bind_eq_some_iff.mp hs
            dsimp only at hs
            refine evx_cv (D := 3) E177 D177_140 I177_215 rfl rfl H48 ⟨Nat.le_of_ble_eq_true rfl, Nat.le_of_ble_eq_true rfl⟩ ⟨rfl, Nat.le_of_ble_eq_true rfl⟩ rfl R (evx_up (Nat.le_of_ble_eq_true rfl) (c179 R rx2 rx4 e92)) ?_
            intro h94 R95 w96
            have w96 : rg q93 := w96
            show evx _ _ _ _ _ _ (.inl (iz q93) :: _) _ _ _
            obtain ⟨⟨q99, M103⟩, e98, hs⟩ := Option.bind_eq_some_iff.mp hs
            dsimp only at hs
            refine evx_cv (D := 3) E177 D177_143 I177_141 rfl rfl H47 ⟨Nat.le_of_ble_eq_true rfl, Nat.le_of_ble_eq_true rfl⟩ ⟨rfl, Nat.le_of_ble_eq_true rfl⟩ rfl R95 (evx_up (Nat.le_of_ble_eq_true rfl) (c162 R95 w96 e98)) ?_
            intro h100 R101 w102
            refine evx_F E177 D177_146 rfl rfl ?_
            cases hs
            exact evx_ret E177 D177_166 rfl (fun d => rfl) rfl trivial R101
          · rw [if_neg cb91] at hs
            refine evx_tso E177 D177_1 rx1 (by omega) rfl ?_
            refine evx_F E177 D177_149 rfl rfl ?_
            refine evx_F E177 D177_150 rfl rfl ?_
            refine evx_F E177 D177_151 rfl rfl ?_
            refine evx_F E177 D177_152 rfl rfl ?_
            refine evx_F E177 D177_154 rfl rfl ?_
            refine evx_gfr E177 D177_155 F177_12 H47 rfl R ?_
            refine evx_F E177 D177_158 rfl rfl ?_
            obtain ⟨q105, e104, hs⟩ := Option.bind_eq_some_iff.mp hs
            refine evx_cv (D := 3) E177 D177_160 I177_108 rfl rfl H48 ⟨Nat.le_of_ble_eq_true rfl, Nat.le_of_ble_eq_true rfl⟩ ⟨rfl, Nat.le_of_ble_eq_true rfl⟩ rfl R (evx_up (Nat.le_of_ble_eq_true rfl) (c180 R rx4 e104)) ?_
            intro h106 R107 w108
            have w108 : rg q105 := w108
            show evx _ _ _ _ _ _ (.inl (iz q105) :: _) _ _ _
            obtain ⟨⟨q110, M114⟩, e109, hs⟩ := Option.bind_eq_some_iff.mp hs
            dsimp only at hs
            refine evx_cv (D := 3) E177 D177_163 I177_202 rfl rfl H47 ⟨Nat.le_of_ble_eq_true rfl, Nat.le_of_ble_eq_true rfl⟩ ⟨rfl, Nat.le_of_ble_eq_true rfl⟩ rfl R107 (evx_up (Nat.le_of_ble_eq_true rfl) (c181 R107 rx2 rx3 rx4 w108 e109)) ?_
            intro h111 R112 w113
            cases hs
            exact evx_ret E177 D177_166 rfl (fun d => rfl) rfl trivial R112
set_option maxRecDepth 20000 in
theorem E189 : pgMm 189 = some (⟨"DictionaryHouseModel", "list", "(I)I"⟩, prog_14_method_6_code, 3, (some .int), []) := rfl
theorem D189_0 : pgDecT 189 0 = some (.aload_n 0, 1) := by decide +kernel
theorem D189_1 : pgDecT 189 1 = some (.aload_n 0, 1) := by decide +kernel
theorem D189_2 : pgDecT 189 2 = some (.iload_n 1, 1) := by decide +kernel
theorem D189_3 : pgDecT 189 3 = some (.invokevirtual 189, 3) := by decide +kernel
theorem I189_189 : pgIi 189 189 = some (190, 1, 12) := by decide +kernel
theorem D189_6 : pgDecT 189 6 = some (.ifCond .eq 7, 3) := by decide +kernel
theorem D189_13 : pgDecT 189 13 = some (.iconst 1, 1) := by decide +kernel
theorem D189_14 : pgDecT 189 14 = some (.putfield 182, 3) := by decide +kernel
theorem F189_182 : pgFf 189 182 = some (12, 0, 0) := by decide +kernel
theorem D189_17 : pgDecT 189 17 = some (.aload_n 0, 1) := by decide +kernel
theorem D189_18 : pgDecT 189 18 = some (.getfield 182, 3) := by decide +kernel
theorem D189_21 : pgDecT 189 21 = some (.ifCond .eq 5, 3) := by decide +kernel
theorem D189_24 : pgDecT 189 24 = some (.iconst 0, 1) := by decide +kernel
theorem D189_25 : pgDecT 189 25 = some (.ireturn, 1) := by decide +kernel
theorem D189_9 : pgDecT 189 9 = some (.iconst 0, 1) := by decide +kernel
theorem D189_10 : pgDecT 189 10 = some (.goto 4, 3) := by decide +kernel
theorem D189_26 : pgDecT 189 26 = some (.aload_n 0, 1) := by decide +kernel
theorem D189_27 : pgDecT 189 27 = some (.iconst 3, 1) := by decide +kernel
theorem D189_28 : pgDecT 189 28 = some (.iload_n 1, 1) := by decide +kernel
theorem D189_29 : pgDecT 189 29 = some (.iconst 0, 1) := by decide +kernel
theorem D189_30 : pgDecT 189 30 = some (.invokevirtual 193, 3) := by decide +kernel
theorem I189_193 : pgIi 189 193 = some (191, 3, 12) := by decide +kernel
theorem D189_33 : pgDecT 189 33 = some (.istore_n 2, 1) := by decide +kernel
theorem D189_34 : pgDecT 189 34 = some (.aload_n 0, 1) := by decide +kernel
theorem D189_35 : pgDecT 189 35 = some (.iload_n 2, 1) := by decide +kernel
theorem D189_36 : pgDecT 189 36 = some (.iconst (-1), 1) := by decide +kernel
theorem D189_37 : pgDecT 189 37 = some (.if_icmp .ne 7, 3) := by decide +kernel
theorem D189_44 : pgDecT 189 44 = some (.iconst 0, 1) := by decide +kernel
theorem D189_45 : pgDecT 189 45 = some (.putfield 182, 3) := by decide +kernel
theorem D189_48 : pgDecT 189 48 = some (.iload_n 2, 1) := by decide +kernel
theorem D189_49 : pgDecT 189 49 = some (.iconst (-1), 1) := by decide +kernel
theorem D189_50 : pgDecT 189 50 = some (.if_icmp .ne 7, 3) := by decide +kernel
theorem D189_57 : pgDecT 189 57 = some (.iload_n 2, 1) := by decide +kernel
theorem D189_58 : pgDecT 189 58 = some (.ireturn, 1) := by decide +kernel
theorem D189_53 : pgDecT 189 53 = some (.iconst 0, 1) := by decide +kernel
theorem D189_54 : pgDecT 189 54 = some (.goto 4, 3) := by decide +kernel
theorem D189_40 : pgDecT 189 40 = some (.iconst 2, 1) := by decide +kernel
theorem D189_41 : pgDecT 189 41 = some (.goto 4, 3) := by decide +kernel
/-! 189: DictionaryHouseModel.list (I)I -/
def f189 (M : Mm) (x1 : Int) : Option (Int × Mm) := (f190 M x1).bind (fun q2 => if q2 = 0 then (some (0, (up M 53 0 1))) else (f191 (up M 53 0 0) 3 x1 0).bind (fun zq12 => if ¬ zq12.1 = (-1) then (if ¬ zq12.1 = (-1) then (some (zq12.1, (up zq12.2 53 0 0))) else (some (0, (up zq12.2 53 0 0)))) else (if ¬ zq12.1 = (-1) then (some (zq12.1, (up zq12.2 53 0 2))) else (some (0, (up zq12.2 53 0 2))))))
theorem c189 {L : Nat} {xs : Nat → Int32} {h : mvH} {M : Mm} {x1 : Int} {v : Int} {M' : Mm} (R : rp h M) (rx1 : rg x1) (hs : f189 M x1 = some (v, M')) : evx L xs 3 189 0 [(0, .inr (.inr (.inl (some 53)))), (1, .inl (iz x1))] [] h (.inl (some (.inl v)), 0) M' := by
  unfold f189 at hs
  refine evx_F E189 D189_0 rfl rfl ?_
  refine evx_F E189 D189_1 rfl rfl ?_
  refine evx_F E189 D189_2 rfl rfl ?_
  obtain ⟨q2, e1, hs⟩ := Option.bind_eq_some_iff.mp hs
  refine evx_cv (D := 2) E189 D189_3 I189_189 rfl rfl H53 ⟨Nat.le_of_ble_eq_true rfl, Nat.le_of_ble_eq_true rfl⟩ ⟨rfl, Nat.le_of_ble_eq_true rfl⟩ rfl R (evx_up (Nat.le_of_ble_eq_true rfl) (c190 R rx1 e1)) ?_
  intro h3 R4 w5
  have w5 : rg q2 := w5
  show evx _ _ _ _ _ _ (.inl (iz q2) :: _) _ _ _
  by_cases cb6 : q2 = 0
  · rw [if_pos cb6] at hs
    refine evx_F E189 D189_6 rfl (ifT (c1_eq_T w5 cb6)) ?_
    refine evx_F E189 D189_13 rfl rfl ?_
    refine evx_pfi (k := 0) E189 D189_14 F189_182 H53 rfl R4 (by decide) rfl ?_
    intro h7 R8
    refine evx_F E189 D189_17 rfl rfl ?_
    refine evx_gfi (k := 0) E189 D189_18 F189_182 H53 rfl R8 ?_
    show evx _ _ _ _ _ _ (.inl (iz 1) :: _) _ _ _
    refine evx_F E189 D189_21 rfl rfl ?_
    refine evx_F E189 D189_24 rfl rfl ?_
    cases hs
    exact evx_ret E189 D189_25 rfl (fun d => rfl) rfl (show rg _ from (by decide)) R8
  · rw [if_neg cb6] at hs
    refine evx_F E189 D189_6 rfl (ifF (c1_eq_F w5 (by omega))) ?_
    refine evx_F E189 D189_9 rfl rfl ?_
    refine evx_F E189 D189_10 rfl rfl ?_
    refine evx_pfi (k := 0) E189 D189_14 F189_182 H53 rfl R4 (by decide) rfl ?_
    intro h9 R10
    refine evx_F E189 D189_17 rfl rfl ?_
    refine evx_gfi (k := 0) E189 D189_18 F189_182 H53 rfl R10 ?_
    show evx _ _ _ _ _ _ (.inl (iz 0) :: _) _ _ _
    refine evx_F E189 D189_21 rfl rfl ?_
    refine evx_F E189 D189_26 rfl rfl ?_
    refine evx_F E189 D189_27 rfl rfl ?_
    refine evx_F E189 D189_28 rfl rfl ?_
    refine evx_F E189 D189_29 rfl rfl ?_
    obtain ⟨⟨q12, M16⟩, e11, hs⟩ := Option.bind_eq_some_iff.mp hs
    dsimp only at hs
    refine evx_cv (D := 2) E189 D189_30 I189_193 rfl rfl H53 ⟨Nat.le_of_ble_eq_true rfl, Nat.le_of_ble_eq_true rfl⟩ ⟨rfl, Nat.le_of_ble_eq_true rfl⟩ rfl R10 (evx_up (Nat.le_of_ble_eq_true rfl) (c191 R10 (by decide) rx1 (by decide) e11)) ?_
    intro h13 R14 w15
    have w15 : rg q12 := w15
    show evx _ _ _ _ _ _ (.inl (iz q12) :: _) _ _ _
    refine evx_F E189 D189_33 rfl rfl ?_
    refine evx_F E189 D189_34 rfl rfl ?_
    refine evx_F E189 D189_35 rfl rfl ?_
    refine evx_F E189 D189_36 rfl rfl ?_
    by_cases cb17 : ¬ q12 = (-1)
    · rw [if_pos cb17] at hs
      refine evx_F E189 D189_37 rfl (ifT (c2_ne_T w15 (by decide) cb17)) ?_
      refine evx_F E189 D189_44 rfl rfl ?_
      refine evx_pfi (k := 0) E189 D189_45 F189_182 H53 rfl R14 (by decide) rfl ?_
      intro h18 R19
      refine evx_F E189 D189_48 rfl rfl ?_
      refine evx_F E189 D189_49 rfl rfl ?_
      by_cases cb20 : ¬ q12 = (-1)
      · rw [if_pos cb20] at hs
        refine evx_F E189 D189_50 rfl (ifT (c2_ne_T w15 (by decide) cb20)) ?_
        refine evx_F E189 D189_57 rfl rfl ?_
        cases hs
        exact evx_ret E189 D189_58 rfl (fun d => rfl) rfl (show rg _ from w15) R19
      · rw [if_neg cb20] at hs
        refine evx_F E189 D189_50 rfl (ifF (c2_ne_F w15 (by decide) (by omega))) ?_
        refine evx_F E189 D189_53 rfl rfl ?_
        refine evx_F E189 D189_54 rfl rfl ?_
        cases hs
        exact evx_ret E189 D189_58 rfl (fun d => rfl) rfl (show rg _ from (by decide)) R19
    · rw [if_neg cb17] at hs
      refine evx_F E189 D189_37 rfl (ifF (c2_ne_F w15 (by decide) (by omega))) ?_
      refine evx_F E189 D189_40 rfl rfl ?_
      refine evx_F E189 D189_41 rfl rfl ?_
      refine evx_pfi (k := 0) E189 D189_45 F189_182 H53 rfl R14 (by decide) rfl ?_
      intro h21 R22
      refine evx_F E189 D189_48 rfl rfl ?_
      refine evx_F E189 D189_49 rfl rfl ?_
      by_cases cb23 : ¬ q12 = (-1)
      · rw [if_pos cb23] at hs
        refine evx_F E189 D189_50 rfl (ifT (c2_ne_T w15 (by decide) cb23)) ?_
        refine evx_F E189 D189_57 rfl rfl ?_
        cases hs
        exact evx_ret E189 D189_58 rfl (fun d => rfl) rfl (show rg _ from w15) R22
      · rw [if_neg cb23] at hs
        refine evx_F E189 D189_50 rfl (ifF (c2_ne_F w15 (by decide) (by omega))) ?_
        refine evx_F E189 D189_53 rfl rfl ?_
        refine evx_F E189 D189_54 rfl rfl ?_
        cases hs
        exact evx_ret E189 D189_58 rfl (fun d => rfl) rfl (show rg _ from (by decide)) R22
set_option maxRecDepth 20000 in
theorem E212 : pgMm 212 = some (⟨"DictionaryHouseModel", "layOut", "(I)V"⟩, prog_14_method_33_code, 5, none, []) := rfl
theorem D212_0 : pgDecT 212 0 = some (.aload_n 0, 1) := by decide +kernel
theorem D212_1 : pgDecT 212 1 = some (.aload_n 0, 1) := by decide +kernel
theorem D212_2 : pgDecT 212 2 = some (.getfield 47, 3) := by decide +kernel
theorem F212_47 : pgFf 212 47 = some (12, 16, 3) := by decide +kernel
theorem D212_5 : pgDecT 212 5 = some (.iload_n 1, 1) := by decide +kernel
theorem D212_6 : pgDecT 212 6 = some (.iaload, 1) := by decide +kernel
theorem D212_7 : pgDecT 212 7 = some (.putfield 243, 3) := by decide +kernel
theorem F212_243 : pgFf 212 243 = some (12, 46, 0) := by decide +kernel
theorem D212_10 : pgDecT 212 10 = some (.aload_n 0, 1) := by decide +kernel
theorem D212_11 : pgDecT 212 11 = some (.getfield 103, 3) := by decide +kernel
theorem F212_103 : pgFf 212 103 = some (12, 37, 3) := by decide +kernel
theorem D212_14 : pgDecT 212 14 = some (.iconst 0, 1) := by decide +kernel
theorem D212_15 : pgDecT 212 15 = some (.iload_n 1, 1) := by decide +kernel
theorem D212_16 : pgDecT 212 16 = some (.iastore, 1) := by decide +kernel
theorem D212_17 : pgDecT 212 17 = some (.aload_n 0, 1) := by decide +kernel
theorem D212_18 : pgDecT 212 18 = some (.getfield 109, 3) := by decide +kernel
theorem F212_109 : pgFf 212 109 = some (12, 39, 3) := by decide +kernel
theorem D212_21 : pgDecT 212 21 = some (.iconst 0, 1) := by decide +kernel
theorem D212_22 : pgDecT 212 22 = some (.iconst (-1), 1) := by decide +kernel
theorem D212_23 : pgDecT 212 23 = some (.iastore, 1) := by decide +kernel
theorem D212_24 : pgDecT 212 24 = some (.iconst 0, 1) := by decide +kernel
theorem D212_25 : pgDecT 212 25 = some (.istore_n 2, 1) := by decide +kernel
theorem D212_26 : pgDecT 212 26 = some (.iload_n 2, 1) := by decide +kernel
theorem D212_27 : pgDecT 212 27 = some (.aload_n 0, 1) := by decide +kernel
theorem D212_28 : pgDecT 212 28 = some (.getfield 243, 3) := by decide +kernel
theorem D212_31 : pgDecT 212 31 = some (.if_icmp .ge 160, 3) := by decide +kernel
theorem D212_191 : pgDecT 212 191 = some (.return_, 1) := by decide +kernel
theorem D212_34 : pgDecT 212 34 = some (.aload_n 0, 1) := by decide +kernel
theorem D212_35 : pgDecT 212 35 = some (.getfield 103, 3) := by decide +kernel
theorem D212_38 : pgDecT 212 38 = some (.iload_n 2, 1) := by decide +kernel
theorem D212_39 : pgDecT 212 39 = some (.iaload, 1) := by decide +kernel
theorem D212_40 : pgDecT 212 40 = some (.istore_n 3, 1) := by decide +kernel
theorem D212_41 : pgDecT 212 41 = some (.aload_n 0, 1) := by decide +kernel
theorem D212_42 : pgDecT 212 42 = some (.getfield 106, 3) := by decide +kernel
theorem F212_106 : pgFf 212 106 = some (12, 38, 3) := by decide +kernel
theorem D212_45 : pgDecT 212 45 = some (.iload_n 2, 1) := by decide +kernel
theorem D212_46 : pgDecT 212 46 = some (.aload_n 0, 1) := by decide +kernel
theorem D212_47 : pgDecT 212 47 = some (.invokevirtual 236, 3) := by decide +kernel
theorem I212_236 : pgIi 212 236 = some (213, 0, 12) := by decide +kernel
theorem D212_50 : pgDecT 212 50 = some (.iastore, 1) := by decide +kernel
theorem D212_51 : pgDecT 212 51 = some (.aload_n 0, 1) := by decide +kernel
theorem D212_52 : pgDecT 212 52 = some (.getfield 118, 3) := by decide +kernel
theorem F212_118 : pgFf 212 118 = some (12, 42, 3) := by decide +kernel
theorem D212_55 : pgDecT 212 55 = some (.iload_n 2, 1) := by decide +kernel
theorem D212_56 : pgDecT 212 56 = some (.iconst 0, 1) := by decide +kernel
theorem D212_57 : pgDecT 212 57 = some (.iastore, 1) := by decide +kernel
theorem D212_58 : pgDecT 212 58 = some (.aload_n 0, 1) := by decide +kernel
theorem D212_59 : pgDecT 212 59 = some (.getfield 38, 3) := by decide +kernel
theorem F212_38 : pgFf 212 38 = some (12, 13, 3) := by decide +kernel
theorem D212_62 : pgDecT 212 62 = some (.iload_n 3, 1) := by decide +kernel
theorem D212_63 : pgDecT 212 63 = some (.iaload, 1) := by decide +kernel
theorem D212_64 : pgDecT 212 64 = some (.iconst 3, 1) := by decide +kernel
theorem D212_65 : pgDecT 212 65 = some (.if_icmp .ne 39, 3) := by decide +kernel
theorem D212_104 : pgDecT 212 104 = some (.aload_n 0, 1) := by decide +kernel
theorem D212_105 : pgDecT 212 105 = some (.getfield 38, 3) := by decide +kernel
theorem D212_108 : pgDecT 212 108 = some (.iload_n 3, 1) := by decide +kernel
theorem D212_109 : pgDecT 212 109 = some (.iaload, 1) := by decide +kernel
theorem D212_110 : pgDecT 212 110 = some (.iconst 4, 1) := by decide +kernel
theorem D212_111 : pgDecT 212 111 = some (.if_icmp .ne 74, 3) := by decide +kernel
theorem D212_185 : pgDecT 212 185 = some (.iinc 2 1, 3) := by decide +kernel
theorem D212_188 : pgDecT 212 188 = some (.goto (-162), 3) := by decide +kernel
theorem D212_114 : pgDecT 212 114 = some (.iload_n 2, 1) := by decide +kernel
theorem D212_115 : pgDecT 212 115 = some (.iconst 1, 1) := by decide +kernel
theorem D212_116 : pgDecT 212 116 = some (.iadd, 1) := by decide +kernel
theorem D212_117 : pgDecT 212 117 = some (.aload_n 0, 1) := by decide +kernel
theorem D212_118 : pgDecT 212 118 = some (.getfield 47, 3) := by decide +kernel
theorem D212_121 : pgDecT 212 121 = some (.aload_n 0, 1) := by decide +kernel
theorem D212_122 : pgDecT 212 122 = some (.getfield 41, 3) := by decide +kernel
theorem F212_41 : pgFf 212 41 = some (12, 14, 3) := by decide +kernel
theorem D212_125 : pgDecT 212 125 = some (.iload_n 3, 1) := by decide +kernel
theorem D212_126 : pgDecT 212 126 = some (.iaload, 1) := by decide +kernel
theorem D212_127 : pgDecT 212 127 = some (.iaload, 1) := by decide +kernel
theorem D212_128 : pgDecT 212 128 = some (.iadd, 1) := by decide +kernel
theorem D212_129 : pgDecT 212 129 = some (.istore 4, 2) := by decide +kernel
theorem D212_131 : pgDecT 212 131 = some (.aload_n 0, 1) := by decide +kernel
theorem D212_132 : pgDecT 212 132 = some (.getfield 103, 3) := by decide +kernel
theorem D212_135 : pgDecT 212 135 = some (.iload_n 2, 1) := by decide +kernel
theorem D212_136 : pgDecT 212 136 = some (.iconst 1, 1) := by decide +kernel
theorem D212_137 : pgDecT 212 137 = some (.iadd, 1) := by decide +kernel
theorem D212_138 : pgDecT 212 138 = some (.aload_n 0, 1) := by decide +kernel
theorem D212_139 : pgDecT 212 139 = some (.getfield 41, 3) := by decide +kernel
theorem D212_142 : pgDecT 212 142 = some (.iload_n 3, 1) := by decide +kernel
theorem D212_143 : pgDecT 212 143 = some (.iaload, 1) := by decide +kernel
theorem D212_144 : pgDecT 212 144 = some (.iastore, 1) := by decide +kernel
theorem D212_145 : pgDecT 212 145 = some (.aload_n 0, 1) := by decide +kernel
theorem D212_146 : pgDecT 212 146 = some (.getfield 109, 3) := by decide +kernel
theorem D212_149 : pgDecT 212 149 = some (.iload_n 2, 1) := by decide +kernel
theorem D212_150 : pgDecT 212 150 = some (.iconst 1, 1) := by decide +kernel
theorem D212_151 : pgDecT 212 151 = some (.iadd, 1) := by decide +kernel
theorem D212_152 : pgDecT 212 152 = some (.aload_n 0, 1) := by decide +kernel
theorem D212_153 : pgDecT 212 153 = some (.getfield 109, 3) := by decide +kernel
theorem D212_156 : pgDecT 212 156 = some (.iload_n 2, 1) := by decide +kernel
theorem D212_157 : pgDecT 212 157 = some (.iaload, 1) := by decide +kernel
theorem D212_158 : pgDecT 212 158 = some (.iastore, 1) := by decide +kernel
theorem D212_159 : pgDecT 212 159 = some (.aload_n 0, 1) := by decide +kernel
theorem D212_160 : pgDecT 212 160 = some (.getfield 103, 3) := by decide +kernel
theorem D212_163 : pgDecT 212 163 = some (.iload 4, 2) := by decide +kernel
theorem D212_165 : pgDecT 212 165 = some (.aload_n 0, 1) := by decide +kernel
theorem D212_166 : pgDecT 212 166 = some (.getfield 44, 3) := by decide +kernel
theorem F212_44 : pgFf 212 44 = some (12, 15, 3) := by decide +kernel
theorem D212_169 : pgDecT 212 169 = some (.iload_n 3, 1) := by decide +kernel
theorem D212_170 : pgDecT 212 170 = some (.iaload, 1) := by decide +kernel
theorem D212_171 : pgDecT 212 171 = some (.iastore, 1) := by decide +kernel
theorem D212_172 : pgDecT 212 172 = some (.aload_n 0, 1) := by decide +kernel
theorem D212_173 : pgDecT 212 173 = some (.getfield 109, 3) := by decide +kernel
theorem D212_176 : pgDecT 212 176 = some (.iload 4, 2) := by decide +kernel
theorem D212_178 : pgDecT 212 178 = some (.aload_n 0, 1) := by decide +kernel
theorem D212_179 : pgDecT 212 179 = some (.getfield 109, 3) := by decide +kernel
theorem D212_182 : pgDecT 212 182 = some (.iload_n 2, 1) := by decide +kernel
theorem D212_183 : pgDecT 212 183 = some (.iaload, 1) := by decide +kernel
theorem D212_184 : pgDecT 212 184 = some (.iastore, 1) := by decide +kernel
theorem D212_68 : pgDecT 212 68 = some (.aload_n 0, 1) := by decide +kernel
theorem D212_69 : pgDecT 212 69 = some (.getfield 112, 3) := by decide +kernel
theorem F212_112 : pgFf 212 112 = some (12, 40, 3) := by decide +kernel
theorem D212_72 : pgDecT 212 72 = some (.iload_n 2, 1) := by decide +kernel
theorem D212_73 : pgDecT 212 73 = some (.aload_n 0, 1) := by decide +kernel
theorem D212_74 : pgDecT 212 74 = some (.invokevirtual 236, 3) := by decide +kernel
theorem D212_77 : pgDecT 212 77 = some (.iastore, 1) := by decide +kernel
theorem D212_78 : pgDecT 212 78 = some (.aload_n 0, 1) := by decide +kernel
theorem D212_79 : pgDecT 212 79 = some (.getfield 103, 3) := by decide +kernel
theorem D212_82 : pgDecT 212 82 = some (.iload_n 2, 1) := by decide +kernel
theorem D212_83 : pgDecT 212 83 = some (.iconst 1, 1) := by decide +kernel
theorem D212_84 : pgDecT 212 84 = some (.iadd, 1) := by decide +kernel
theorem D212_85 : pgDecT 212 85 = some (.aload_n 0, 1) := by decide +kernel
theorem D212_86 : pgDecT 212 86 = some (.getfield 41, 3) := by decide +kernel
theorem D212_89 : pgDecT 212 89 = some (.iload_n 3, 1) := by decide +kernel
theorem D212_90 : pgDecT 212 90 = some (.iaload, 1) := by decide +kernel
theorem D212_91 : pgDecT 212 91 = some (.iastore, 1) := by decide +kernel
theorem D212_92 : pgDecT 212 92 = some (.aload_n 0, 1) := by decide +kernel
theorem D212_93 : pgDecT 212 93 = some (.getfield 109, 3) := by decide +kernel
theorem D212_96 : pgDecT 212 96 = some (.iload_n 2, 1) := by decide +kernel
theorem D212_97 : pgDecT 212 97 = some (.iconst 1, 1) := by decide +kernel
theorem D212_98 : pgDecT 212 98 = some (.iadd, 1) := by decide +kernel
theorem D212_99 : pgDecT 212 99 = some (.iload_n 2, 1) := by decide +kernel
theorem D212_100 : pgDecT 212 100 = some (.iastore, 1) := by decide +kernel
theorem D212_101 : pgDecT 212 101 = some (.goto 84, 3) := by decide +kernel
/-! 212: DictionaryHouseModel.layOut (I)V -/
def l212 : Nat → Nat → Mm → Int → Int → Option (Int × Mm)
  | 0, _, _, _, _ => none
  | f + 1, 26, M, x1, x2 => if (M 53 46) ≤ x2 then (some (0, M)) else (if 0 ≤ x2 ∧ x2 < 60 then (f213 M).bind (fun zq11 => if 0 ≤ (M 84 (Int.toNat x2)) ∧ (M 84 (Int.toNat x2)) < 200 then (if ¬ (zq11.2 63 (Int.toNat (M 84 (Int.toNat x2)))) = 3 then (if ¬ (zq11.2 63 (Int.toNat (M 84 (Int.toNat x2)))) = 4 then (if rg (x2 + 1) then (l212 f 26 (up (up zq11.2 85 (Int.toNat x2) zq11.1) 89 (Int.toNat x2) 0) x1 (x2 + 1)) else none) else (if 0 ≤ (zq11.2 64 (Int.toNat (M 84 (Int.toNat x2)))) ∧ (zq11.2 64 (Int.toNat (M 84 (Int.toNat x2)))) < 200 then (if 0 ≤ (x2 + 1) ∧ (x2 + 1) < 60 then (if 0 ≤ ((x2 + 1) + (zq11.2 66 (Int.toNat (zq11.2 64 (Int.toNat (M 84 (Int.toNat x2))))))) ∧ ((x2 + 1) + (zq11.2 66 (Int.toNat (zq11.2 64 (Int.toNat (M 84 (Int.toNat x2))))))) < 60 then (if rg (x2 + 1) then (l212 f 26 (up (up (up (up (up (up zq11.2 85 (Int.toNat x2) zq11.1) 89 (Int.toNat x2) 0) 84 (Int.toNat (x2 + 1)) (zq11.2 64 (Int.toNat (M 84 (Int.toNat x2))))) 86 (Int.toNat (x2 + 1)) (zq11.2 86 (Int.toNat x2))) 84 (Int.toNat ((x2 + 1) + (zq11.2 66 (Int.toNat (zq11.2 64 (Int.toNat (M 84 (Int.toNat x2)))))))) (zq11.2 65 (Int.toNat (M 84 (Int.toNat x2))))) 86 (Int.toNat ((x2 + 1) + (zq11.2 66 (Int.toNat (zq11.2 64 (Int.toNat (M 84 (Int.toNat x2)))))))) ((up (up (up (up zq11.2 85 (Int.toNat x2) zq11.1) 89 (Int.toNat x2) 0) 84 (Int.toNat (x2 + 1)) (zq11.2 64 (Int.toNat (M 84 (Int.toNat x2))))) 86 (Int.toNat (x2 + 1)) (zq11.2 86 (Int.toNat x2))) 86 (Int.toNat x2))) x1 (x2 + 1)) else none) else none) else none) else none)) else (f213 (up (up zq11.2 85 (Int.toNat x2) zq11.1) 89 (Int.toNat x2) 0)).bind (fun zq37 => if 0 ≤ (x2 + 1) ∧ (x2 + 1) < 60 then (if rg (x2 + 1) then (l212 f 26 (up (up (up zq37.2 87 (Int.toNat x2) zq37.1) 84 (Int.toNat (x2 + 1)) (zq37.2 64 (Int.toNat (M 84 (Int.toNat x2))))) 86 (Int.toNat (x2 + 1)) x2) x1 (x2 + 1)) else none) else none)) else none) else none)
  | _, _, _, _, _ => none
theorem d212 {L : Nat} {xs : Nat → Int32} (f : Nat) : (∀ (M : Mm) (x1 x2 : Int) (h : mvH) (v : Int) (M' : Mm), l212 f 26 M x1 x2 = some (v, M') → rp h M → rg x1 → rg x2 → evx L xs 3 212 26 [(0, .inr (.inr (.inl (some 53)))), (1, .inl (iz x1)), (2, .inl (iz x2))] [] h (.inl none, 0) M') := by
  induction f with
  | zero => exact (fun M x1 x2 h v M' hs _ _ _ => by cases hs)
  | succ f ih =>
    intro M x1 x2 h v M' hs R rx1 rx2
    rw [l212] at hs
    refine evx_F E212 D212_26 rfl rfl ?_
    refine evx_F E212 D212_27 rfl rfl ?_
    refine evx_gfi (k := 46) E212 D212_28 F212_243 H53 rfl R ?_
    by_cases cb8 : (M 53 46) ≤ x2
    · rw [if_pos cb8] at hs
      refine evx_F E212 D212_31 rfl (ifT (c2_ge_T rx2 (R.1 53 46) cb8)) ?_
      cases hs
      exact evx_ret E212 D212_191 rfl (fun d => rfl) rfl trivial R
    · rw [if_neg cb8] at hs
      refine evx_F E212 D212_31 rfl (ifF (c2_ge_F rx2 (R.1 53 46) (by omega))) ?_
      refine evx_F E212 D212_34 rfl rfl ?_
      refine evx_gfr E212 D212_35 F212_103 H53 rfl R ?_
      refine evx_F E212 D212_38 rfl rfl ?_
      obtain ⟨k9, hs⟩ := ck hs
      refine evx_ial E212 D212_39 H84 (by decide) R k9 ?_
      refine evx_F E212 D212_40 rfl rfl ?_
      refine evx_F E212 D212_41 rfl rfl ?_
      refine evx_gfr E212 D212_42 F212_106 H53 rfl R ?_
      refine evx_F E212 D212_45 rfl rfl ?_
      refine evx_F E212 D212_46 rfl rfl ?_
      obtain ⟨⟨q11, M15⟩, e10, hs⟩ := Option.bind_eq_some_iff.mp hs
      dsimp only at hs
      refine evx_cv (D := 2) E212 D212_47 I212_236 rfl rfl H53 ⟨Nat.le_of_ble_eq_true rfl, Nat.le_of_ble_eq_true rfl⟩ ⟨rfl, Nat.le_of_ble_eq_true rfl⟩ rfl R (evx_up (Nat.le_of_ble_eq_true rfl) (c213 R  e10)) ?_
      intro h12 R13 w14
      have w14 : rg q11 := w14
      show evx _ _ _ _ _ _ (.inl (iz q11) :: _) _ _ _
      refine evx_ias E212 D212_50 H85 (by decide) R13 k9 w14 ?_
      intro h16 R17
      refine evx_F E212 D212_51 rfl rfl ?_
      refine evx_gfr E212 D212_52 F212_118 H53 rfl R17 ?_
      refine evx_F E212 D212_55 rfl rfl ?_
      refine evx_F E212 D212_56 rfl rfl ?_
      refine evx_ias E212 D212_57 H89 (by decide) R17 k9 (by decide) ?_
      intro h18 R19
      refine evx_F E212 D212_58 rfl rfl ?_
      refine evx_gfr E212 D212_59 F212_38 H53 rfl R19 ?_
      refine evx_F E212 D212_62 rfl rfl ?_
      obtain ⟨k20, hs⟩ := ck hs
      refine evx_ial E212 D212_63 H63 (by decide) R19 k20 ?_
      show evx _ _ _ _ _ _ (.inl (iz (M15 63 (Int.toNat (M 84 (Int.toNat x2))))) :: _) _ _ _
      refine evx_F E212 D212_64 rfl rfl ?_
      by_cases cb21 : ¬ (M15 63 (Int.toNat (M 84 (Int.toNat x2)))) = 3
      · rw [if_pos cb21] at hs
        refine evx_F E212 D212_65 rfl (ifT (c2_ne_T (R19.1 63 (Int.toNat (M 84 (Int.toNat x2)))) (by decide) cb21)) ?_
        refine evx_F E212 D212_104 rfl rfl ?_
        refine evx_gfr E212 D212_105 F212_38 H53 rfl R19 ?_
        refine evx_F E212 D212_108 rfl rfl ?_
        refine evx_ial E212 D212_109 H63 (by decide) R19 k20 ?_
        show evx _ _ _ _ _ _ (.inl (iz (M15 63 (Int.toNat (M 84 (Int.toNat x2))))) :: _) _ _ _
        refine evx_F E212 D212_110 rfl rfl ?_
        by_cases cb22 : ¬ (M15 63 (Int.toNat (M 84 (Int.toNat x2)))) = 4
        · rw [if_pos cb22] at hs
          refine evx_F E212 D212_111 rfl (ifT (c2_ne_T (R19.1 63 (Int.toNat (M 84 (Int.toNat x2)))) (by decide) cb22)) ?_
          refine evx_inc E212 D212_185 (Nat.le_of_ble_eq_true rfl) rfl ?_
          refine evx_F E212 D212_188 rfl rfl ?_
          obtain ⟨k23, hs⟩ := ck hs
          show evx _ _ _ _ _ [(2, .inl (iz (x2 + 1))), (3, .inl (iz (M 84 (Int.toNat x2)))), (0, .inr (.inr (.inl (some 53)))), (1, .inl (iz x1))] _ _ _ _
          exact evx_lv (lvLe_mk (fm rfl (fm rfl (fm rfl fn))) (fm rfl (fm rfl (fm rfl (fm rfl fn)))) (fm rfl (fm rfl (fm rfl fn)))) (ih _ _ _ _ _ _ hs R19 rx1 k23)
        · rw [if_neg cb22] at hs
          refine evx_F E212 D212_111 rfl (ifF (c2_ne_F (R19.1 63 (Int.toNat (M 84 (Int.toNat x2)))) (by decide) (by omega))) ?_
          refine evx_F E212 D212_114 rfl rfl ?_
          refine evx_F E212 D212_115 rfl rfl ?_
          refine evx_add E212 D212_116 ?_
          refine evx_F E212 D212_117 rfl rfl ?_
          refine evx_gfr E212 D212_118 F212_47 H53 rfl R19 ?_
          refine evx_F E212 D212_121 rfl rfl ?_
          refine evx_gfr E212 D212_122 F212_41 H53 rfl R19 ?_
          refine evx_F E212 D212_125 rfl rfl ?_
          refine evx_ial E212 D212_126 H64 (by decide) R19 k20 ?_
          show evx _ _ _ _ _ _ (.inl (iz (M15 64 (Int.toNat (M 84 (Int.toNat x2))))) :: _) _ _ _
          obtain ⟨k24, hs⟩ := ck hs
          refine evx_ial E212 D212_127 H66 (by decide) R19 k24 ?_
          show evx _ _ _ _ _ _ (.inl (iz (M15 66 (Int.toNat (M15 64 (Int.toNat (M 84 (Int.toNat x2))))))) :: _) _ _ _
          refine evx_add E212 D212_128 ?_
          refine evx_F E212 D212_129 rfl rfl ?_
          refine evx_F E212 D212_131 rfl rfl ?_
          refine evx_gfr E212 D212_132 F212_103 H53 rfl R19 ?_
          refine evx_F E212 D212_135 rfl rfl ?_
          refine evx_F E212 D212_136 rfl rfl ?_
          refine evx_add E212 D212_137 ?_
          refine evx_F E212 D212_138 rfl rfl ?_
          refine evx_gfr E212 D212_139 F212_41 H53 rfl R19 ?_
          refine evx_F E212 D212_142 rfl rfl ?_
          refine evx_ial E212 D212_143 H64 (by decide) R19 k20 ?_
          show evx _ _ _ _ _ _ (.inl (iz (M15 64 (Int.toNat (M 84 (Int.toNat x2))))) :: _) _ _ _
          obtain ⟨k25, hs⟩ := ck hs
          refine evx_ias E212 D212_144 H84 (by decide) R19 k25 (R19.1 64 (Int.toNat (M 84 (Int.toNat x2)))) ?_
          intro h26 R27
          refine evx_F E212 D212_145 rfl rfl ?_
          refine evx_gfr E212 D212_146 F212_109 H53 rfl R27 ?_
          refine evx_F E212 D212_149 rfl rfl ?_
          refine evx_F E212 D212_150 rfl rfl ?_
          refine evx_add E212 D212_151 ?_
          refine evx_F E212 D212_152 rfl rfl ?_
          refine evx_gfr E212 D212_153 F212_109 H53 rfl R27 ?_
          refine evx_F E212 D212_156 rfl rfl ?_
          refine evx_ial E212 D212_157 H86 (by decide) R27 k9 ?_
          show evx _ _ _ _ _ _ (.inl (iz (M15 86 (Int.toNat x2))) :: _) _ _ _
          refine evx_ias E212 D212_158 H86 (by decide) R27 k25 (R27.1 86 (Int.toNat x2)) ?_
          intro h28 R29
          refine evx_F E212 D212_159 rfl rfl ?_
          refine evx_gfr E212 D212_160 F212_103 H53 rfl R29 ?_
          refine evx_F E212 D212_163 rfl rfl ?_
          refine evx_F E212 D212_165 rfl rfl ?_
          refine evx_gfr E212 D212_166 F212_44 H53 rfl R29 ?_
          refine evx_F E212 D212_169 rfl rfl ?_
          refine evx_ial E212 D212_170 H65 (by decide) R29 k20 ?_
          show evx _ _ _ _ _ _ (.inl (iz (M15 65 (Int.toNat (M 84 (Int.toNat x2))))) :: _) _ _ _
          obtain ⟨k30, hs⟩ := ck hs
          refine evx_ias E212 D212_171 H84 (by decide) R29 k30 (R29.1 65 (Int.toNat (M 84 (Int.toNat x2)))) ?_
          intro h31 R32
          refine evx_F E212 D212_172 rfl rfl ?_
          refine evx_gfr E212 D212_173 F212_109 H53 rfl R32 ?_
          refine evx_F E212 D212_176 rfl rfl ?_
          refine evx_F E212 D212_178 rfl rfl ?_
          refine evx_gfr E212 D212_179 F212_109 H53 rfl R32 ?_
          refine evx_F E212 D212_182 rfl rfl ?_
          refine evx_ial E212 D212_183 H86 (by decide) R32 k9 ?_
          show evx _ _ _ _ _ _ (.inl (iz ((up (up (up (up M15 85 (Int.toNat x2) q11) 89 (Int.toNat x2) 0) 84 (Int.toNat (x2 + 1)) (M15 64 (Int.toNat (M 84 (Int.toNat x2))))) 86 (Int.toNat (x2 + 1)) (M15 86 (Int.toNat x2))) 86 (Int.toNat x2))) :: _) _ _ _
          refine evx_ias E212 D212_184 H86 (by decide) R32 k30 (R32.1 86 (Int.toNat x2)) ?_
          intro h33 R34
          refine evx_inc E212 D212_185 (Nat.le_of_ble_eq_true rfl) rfl ?_
          refine evx_F E212 D212_188 rfl rfl ?_
          obtain ⟨k35, hs⟩ := ck hs
          show evx _ _ _ _ _ [(2, .inl (iz (x2 + 1))), (4, .inl (iz ((x2 + 1) + (M15 66 (Int.toNat (M15 64 (Int.toNat (M 84 (Int.toNat x2))))))))), (3, .inl (iz (M 84 (Int.toNat x2)))), (0, .inr (.inr (.inl (some 53)))), (1, .inl (iz x1))] _ _ _ _
          exact evx_lv (lvLe_mk (fm rfl (fm rfl (fm rfl fn))) (fm rfl (fm rfl (fm rfl (fm rfl (fm rfl fn))))) (fm rfl (fm rfl (fm rfl fn)))) (ih _ _ _ _ _ _ hs R34 rx1 k35)
      · rw [if_neg cb21] at hs
        refine evx_F E212 D212_65 rfl (ifF (c2_ne_F (R19.1 63 (Int.toNat (M 84 (Int.toNat x2)))) (by decide) (by omega))) ?_
        refine evx_F E212 D212_68 rfl rfl ?_
        refine evx_gfr E212 D212_69 F212_112 H53 rfl R19 ?_
        refine evx_F E212 D212_72 rfl rfl ?_
        refine evx_F E212 D212_73 rfl rfl ?_
        obtain ⟨⟨q37, M41⟩, e36, hs⟩ := Option.bind_eq_some_iff.mp hs
        dsimp only at hs
        refine evx_cv (D := 2) E212 D212_74 I212_236 rfl rfl H53 ⟨Nat.le_of_ble_eq_true rfl, Nat.le_of_ble_eq_true rfl⟩ ⟨rfl, Nat.le_of_ble_eq_true rfl⟩ rfl R19 (evx_up (Nat.le_of_ble_eq_true rfl) (c213 R19  e36)) ?_
        intro h38 R39 w40
        have w40 : rg q37 := w40
        show evx _ _ _ _ _ _ (.inl (iz q37) :: _) _ _ _
        refine evx_ias E212 D212_77 H87 (by decide) R39 k9 w40 ?_
        intro h42 R43
        refine evx_F E212 D212_78 rfl rfl ?_
        refine evx_gfr E212 D212_79 F212_103 H53 rfl R43 ?_
        refine evx_F E212 D212_82 rfl rfl ?_
        refine evx_F E212 D212_83 rfl rfl ?_
        refine evx_add E212 D212_84 ?_
        refine evx_F E212 D212_85 rfl rfl ?_
        refine evx_gfr E212 D212_86 F212_41 H53 rfl R43 ?_
        refine evx_F E212 D212_89 rfl rfl ?_
        refine evx_ial E212 D212_90 H64 (by decide) R43 k20 ?_
        show evx _ _ _ _ _ _ (.inl (iz (M41 64 (Int.toNat (M 84 (Int.toNat x2))))) :: _) _ _ _
        obtain ⟨k44, hs⟩ := ck hs
        refine evx_ias E212 D212_91 H84 (by decide) R43 k44 (R43.1 64 (Int.toNat (M 84 (Int.toNat x2)))) ?_
        intro h45 R46
        refine evx_F E212 D212_92 rfl rfl ?_
        refine evx_gfr E212 D212_93 F212_109 H53 rfl R46 ?_
        refine evx_F E212 D212_96 rfl rfl ?_
        refine evx_F E212 D212_97 rfl rfl ?_
        refine evx_add E212 D212_98 ?_
        refine evx_F E212 D212_99 rfl rfl ?_
        refine evx_ias E212 D212_100 H86 (by decide) R46 k44 rx2 ?_
        intro h47 R48
        refine evx_F E212 D212_101 rfl rfl ?_
        refine evx_inc E212 D212_185 (Nat.le_of_ble_eq_true rfl) rfl ?_
        refine evx_F E212 D212_188 rfl rfl ?_
        obtain ⟨k49, hs⟩ := ck hs
        show evx _ _ _ _ _ [(2, .inl (iz (x2 + 1))), (3, .inl (iz (M 84 (Int.toNat x2)))), (0, .inr (.inr (.inl (some 53)))), (1, .inl (iz x1))] _ _ _ _
        exact evx_lv (lvLe_mk (fm rfl (fm rfl (fm rfl fn))) (fm rfl (fm rfl (fm rfl (fm rfl fn)))) (fm rfl (fm rfl (fm rfl fn)))) (ih _ _ _ _ _ _ hs R48 rx1 k49)
def f212 (M : Mm) (x1 : Int) : Option (Int × Mm) := if 0 ≤ x1 ∧ x1 < 200 then (l212 FU 26 (up (up (up M 53 46 (M 66 (Int.toNat x1))) 84 (Int.toNat 0) x1) 86 (Int.toNat 0) (-1)) x1 0) else none
theorem c212 {L : Nat} {xs : Nat → Int32} {h : mvH} {M : Mm} {x1 : Int} {v : Int} {M' : Mm} (R : rp h M) (rx1 : rg x1) (hs : f212 M x1 = some (v, M')) : evx L xs 3 212 0 [(0, .inr (.inr (.inl (some 53)))), (1, .inl (iz x1))] [] h (.inl none, 0) M' := by
  unfold f212 at hs
  refine evx_F E212 D212_0 rfl rfl ?_
  refine evx_F E212 D212_1 rfl rfl ?_
  refine evx_gfr E212 D212_2 F212_47 H53 rfl R ?_
  refine evx_F E212 D212_5 rfl rfl ?_
  obtain ⟨k1, hs⟩ := ck hs
  refine evx_ial E212 D212_6 H66 (by decide) R k1 ?_
  refine evx_pfi (k := 46) E212 D212_7 F212_243 H53 rfl R (R.1 66 (Int.toNat x1)) rfl ?_
  intro h2 R3
  refine evx_F E212 D212_10 rfl rfl ?_
  refine evx_gfr E212 D212_11 F212_103 H53 rfl R3 ?_
  refine evx_F E212 D212_14 rfl rfl ?_
  refine evx_F E212 D212_15 rfl rfl ?_
  refine evx_ias E212 D212_16 H84 (by decide) R3 (by decide) rx1 ?_
  intro h4 R5
  refine evx_F E212 D212_17 rfl rfl ?_
  refine evx_gfr E212 D212_18 F212_109 H53 rfl R5 ?_
  refine evx_F E212 D212_21 rfl rfl ?_
  refine evx_F E212 D212_22 rfl rfl ?_
  refine evx_ias E212 D212_23 H86 (by decide) R5 (by decide) (by decide) ?_
  intro h6 R7
  refine evx_F E212 D212_24 rfl rfl ?_
  refine evx_F E212 D212_25 rfl rfl ?_
  show evx _ _ _ _ _ [(2, .inl (iz 0)), (0, .inr (.inr (.inl (some 53)))), (1, .inl (iz x1))] _ _ _ _
  exact evx_lv (lvLe_mk (fm rfl (fm rfl (fm rfl fn))) (fm rfl (fm rfl (fm rfl fn))) (fm rfl (fm rfl (fm rfl fn)))) ((d212 FU) _ _ _ _ _ _ hs R7 rx1 (by decide))
