/-! More methods as functions, printed by a program. -/
set_option maxRecDepth 20000 in
theorem E104 : pgMm 104 = some (⟨"DictionaryHouse$ClassTable", "contextOfLists", "(I)I"⟩, prog_3_method_11_code, 2, (some .int), []) := rfl
theorem D104_0 : pgDecT 104 0 = some (.aload_n 0, 1) := by decide +kernel
theorem D104_1 : pgDecT 104 1 = some (.getfield 25, 3) := by decide +kernel
theorem F104_25 : pgFf 104 25 = some (1, 4, 3) := by decide +kernel
theorem D104_4 : pgDecT 104 4 = some (.iload_n 1, 1) := by decide +kernel
theorem D104_5 : pgDecT 104 5 = some (.iconst 3, 1) := by decide +kernel
theorem D104_6 : pgDecT 104 6 = some (.imul, 1) := by decide +kernel
theorem D104_7 : pgDecT 104 7 = some (.iconst 2, 1) := by decide +kernel
theorem D104_8 : pgDecT 104 8 = some (.iadd, 1) := by decide +kernel
theorem D104_9 : pgDecT 104 9 = some (.iaload, 1) := by decide +kernel
theorem D104_10 : pgDecT 104 10 = some (.ireturn, 1) := by decide +kernel
/-! 104: DictionaryHouse$ClassTable.contextOfLists (I)I -/
def f104 (M : Mm) (x1 : Int) : Option Int := if 0 ≤ ((x1 * 3) + 2) ∧ ((x1 * 3) + 2) < 18 then (some (M 10 (Int.toNat ((x1 * 3) + 2)))) else none
theorem c104 {L : Nat} {xs : Nat → Int32} {h : mvH} {M : Mm} {x1 : Int} {v : Int} (R : rp h M) (rx1 : rg x1) (hs : f104 M x1 = some v) : evx L xs 1 104 0 [(0, .inr (.inr (.inl (some 5)))), (1, .inl (iz x1))] [] h (.inl (some (.inl v)), 0) M := by
  unfold f104 at hs
  refine evx_F E104 D104_0 rfl rfl ?_
  refine evx_gfr E104 D104_1 F104_25 H5 rfl R ?_
  refine evx_F E104 D104_4 rfl rfl ?_
  refine evx_F E104 D104_5 rfl rfl ?_
  refine evx_mul E104 D104_6 ?_
  refine evx_F E104 D104_7 rfl rfl ?_
  refine evx_add E104 D104_8 ?_
  obtain ⟨k1, hs⟩ := ck hs
  refine evx_ial E104 D104_9 H10 (by decide) R k1 ?_
  cases hs
  exact evx_ret E104 D104_10 rfl (fun d => rfl) rfl (show rg _ from (R.1 10 (Int.toNat ((x1 * 3) + 2)))) R
set_option maxRecDepth 20000 in
theorem E106 : pgMm 106 = some (⟨"DictionaryHouse$Graph", "count", "()I"⟩, prog_7_method_5_code, 1, (some .int), []) := rfl
theorem D106_0 : pgDecT 106 0 = some (.aload_n 0, 1) := by decide +kernel
theorem D106_1 : pgDecT 106 1 = some (.getfield 36, 3) := by decide +kernel
theorem F106_36 : pgFf 106 36 = some (5, 8, 0) := by decide +kernel
theorem D106_4 : pgDecT 106 4 = some (.ireturn, 1) := by decide +kernel
/-! 106: DictionaryHouse$Graph.count ()I -/
def f106 (M : Mm) : Option Int := some (M 25 8)
theorem c106 {L : Nat} {xs : Nat → Int32} {h : mvH} {M : Mm} {v : Int} (R : rp h M)  (hs : f106 M  = some v) : evx L xs 1 106 0 [(0, .inr (.inr (.inl (some 25))))] [] h (.inl (some (.inl v)), 0) M := by
  unfold f106 at hs
  refine evx_F E106 D106_0 rfl rfl ?_
  refine evx_gfi (k := 8) E106 D106_1 F106_36 H25 rfl R ?_
  cases hs
  exact evx_ret E106 D106_4 rfl (fun d => rfl) rfl (show rg _ from (R.1 25 8)) R
set_option maxRecDepth 20000 in
theorem E107 : pgMm 107 = some (⟨"DictionaryHouse$Typing", "places", "()I"⟩, prog_12_method_3_code, 1, (some .int), []) := rfl
theorem D107_0 : pgDecT 107 0 = some (.aload_n 0, 1) := by decide +kernel
theorem D107_1 : pgDecT 107 1 = some (.getfield 60, 3) := by decide +kernel
theorem F107_60 : pgFf 107 60 = some (10, 13, 0) := by decide +kernel
theorem D107_4 : pgDecT 107 4 = some (.ireturn, 1) := by decide +kernel
/-! 107: DictionaryHouse$Typing.places ()I -/
def f107 (M : Mm) : Option Int := some (M 24 13)
theorem c107 {L : Nat} {xs : Nat → Int32} {h : mvH} {M : Mm} {v : Int} (R : rp h M)  (hs : f107 M  = some v) : evx L xs 1 107 0 [(0, .inr (.inr (.inl (some 24))))] [] h (.inl (some (.inl v)), 0) M := by
  unfold f107 at hs
  refine evx_F E107 D107_0 rfl rfl ?_
  refine evx_gfi (k := 13) E107 D107_1 F107_60 H24 rfl R ?_
  cases hs
  exact evx_ret E107 D107_4 rfl (fun d => rfl) rfl (show rg _ from (R.1 24 13)) R
set_option maxRecDepth 20000 in
theorem E109 : pgMm 109 = some (⟨"DictionaryHouse$Typing", "fillingAt", "(II)I"⟩, prog_12_method_6_code, 3, (some .int), []) := rfl
theorem D109_0 : pgDecT 109 0 = some (.aload_n 0, 1) := by decide +kernel
theorem D109_1 : pgDecT 109 1 = some (.getfield 31, 3) := by decide +kernel
theorem F109_31 : pgFf 109 31 = some (10, 9, 3) := by decide +kernel
theorem D109_4 : pgDecT 109 4 = some (.iload_n 1, 1) := by decide +kernel
theorem D109_5 : pgDecT 109 5 = some (.bipush 8, 2) := by decide +kernel
theorem D109_7 : pgDecT 109 7 = some (.imul, 1) := by decide +kernel
theorem D109_8 : pgDecT 109 8 = some (.iload_n 2, 1) := by decide +kernel
theorem D109_9 : pgDecT 109 9 = some (.iadd, 1) := by decide +kernel
theorem D109_10 : pgDecT 109 10 = some (.iaload, 1) := by decide +kernel
theorem D109_11 : pgDecT 109 11 = some (.ireturn, 1) := by decide +kernel
/-! 109: DictionaryHouse$Typing.fillingAt (II)I -/
def f109 (M : Mm) (x1 : Int) (x2 : Int) : Option Int := if 0 ≤ ((x1 * 8) + x2) ∧ ((x1 * 8) + x2) < 488 then (some (M 38 (Int.toNat ((x1 * 8) + x2)))) else none
theorem c109 {L : Nat} {xs : Nat → Int32} {h : mvH} {M : Mm} {x1 x2 : Int} {v : Int} (R : rp h M) (rx1 : rg x1) (rx2 : rg x2) (hs : f109 M x1 x2 = some v) : evx L xs 1 109 0 [(0, .inr (.inr (.inl (some 24)))), (1, .inl (iz x1)), (2, .inl (iz x2))] [] h (.inl (some (.inl v)), 0) M := by
  unfold f109 at hs
  refine evx_F E109 D109_0 rfl rfl ?_
  refine evx_gfr E109 D109_1 F109_31 H24 rfl R ?_
  refine evx_F E109 D109_4 rfl rfl ?_
  refine evx_k (k := 8) E109 D109_5 rfl (by decide) ?_
  refine evx_mul E109 D109_7 ?_
  refine evx_F E109 D109_8 rfl rfl ?_
  refine evx_add E109 D109_9 ?_
  obtain ⟨k1, hs⟩ := ck hs
  refine evx_ial E109 D109_10 H38 (by decide) R k1 ?_
  cases hs
  exact evx_ret E109 D109_11 rfl (fun d => rfl) rfl (show rg _ from (R.1 38 (Int.toNat ((x1 * 8) + x2)))) R
set_option maxRecDepth 20000 in
theorem E111 : pgMm 111 = some (⟨"DictionaryHouse$Graph", "kind", "(I)I"⟩, prog_7_method_7_code, 2, (some .int), []) := rfl
theorem D111_0 : pgDecT 111 0 = some (.aload_n 0, 1) := by decide +kernel
theorem D111_1 : pgDecT 111 1 = some (.getfield 11, 3) := by decide +kernel
theorem F111_11 : pgFf 111 11 = some (5, 0, 3) := by decide +kernel
theorem D111_4 : pgDecT 111 4 = some (.iload_n 1, 1) := by decide +kernel
theorem D111_5 : pgDecT 111 5 = some (.iaload, 1) := by decide +kernel
theorem D111_6 : pgDecT 111 6 = some (.ireturn, 1) := by decide +kernel
/-! 111: DictionaryHouse$Graph.kind (I)I -/
def f111 (M : Mm) (x1 : Int) : Option Int := if 0 ≤ x1 ∧ x1 < 2504 then (some (M 26 (Int.toNat x1))) else none
theorem c111 {L : Nat} {xs : Nat → Int32} {h : mvH} {M : Mm} {x1 : Int} {v : Int} (R : rp h M) (rx1 : rg x1) (hs : f111 M x1 = some v) : evx L xs 1 111 0 [(0, .inr (.inr (.inl (some 25)))), (1, .inl (iz x1))] [] h (.inl (some (.inl v)), 0) M := by
  unfold f111 at hs
  refine evx_F E111 D111_0 rfl rfl ?_
  refine evx_gfr E111 D111_1 F111_11 H25 rfl R ?_
  refine evx_F E111 D111_4 rfl rfl ?_
  obtain ⟨k1, hs⟩ := ck hs
  refine evx_ial E111 D111_5 H26 (by decide) R k1 ?_
  cases hs
  exact evx_ret E111 D111_6 rfl (fun d => rfl) rfl (show rg _ from (R.1 26 (Int.toNat x1))) R
set_option maxRecDepth 20000 in
theorem E112 : pgMm 112 = some (⟨"DictionaryHouse$Graph", "left", "(I)I"⟩, prog_7_method_8_code, 2, (some .int), []) := rfl
theorem D112_0 : pgDecT 112 0 = some (.aload_n 0, 1) := by decide +kernel
theorem D112_1 : pgDecT 112 1 = some (.aload_n 0, 1) := by decide +kernel
theorem D112_2 : pgDecT 112 2 = some (.getfield 15, 3) := by decide +kernel
theorem F112_15 : pgFf 112 15 = some (5, 1, 3) := by decide +kernel
theorem D112_5 : pgDecT 112 5 = some (.iload_n 1, 1) := by decide +kernel
theorem D112_6 : pgDecT 112 6 = some (.iaload, 1) := by decide +kernel
theorem D112_7 : pgDecT 112 7 = some (.invokevirtual 44, 3) := by decide +kernel
theorem I112_44 : pgIi 112 44 = some (80, 1, 5) := by decide +kernel
theorem D112_10 : pgDecT 112 10 = some (.ireturn, 1) := by decide +kernel
/-! 112: DictionaryHouse$Graph.left (I)I -/
def f112 (M : Mm) (x1 : Int) : Option (Int × Mm) := if 0 ≤ x1 ∧ x1 < 2504 then (f80 M (M 27 (Int.toNat x1))).bind (fun zq3 => some (zq3.1, zq3.2)) else none
theorem c112 {L : Nat} {xs : Nat → Int32} {h : mvH} {M : Mm} {x1 : Int} {v : Int} {M' : Mm} (R : rp h M) (rx1 : rg x1) (hs : f112 M x1 = some (v, M')) : evx L xs 2 112 0 [(0, .inr (.inr (.inl (some 25)))), (1, .inl (iz x1))] [] h (.inl (some (.inl v)), 0) M' := by
  unfold f112 at hs
  refine evx_F E112 D112_0 rfl rfl ?_
  refine evx_F E112 D112_1 rfl rfl ?_
  refine evx_gfr E112 D112_2 F112_15 H25 rfl R ?_
  refine evx_F E112 D112_5 rfl rfl ?_
  obtain ⟨k1, hs⟩ := ck hs
  refine evx_ial E112 D112_6 H27 (by decide) R k1 ?_
  obtain ⟨⟨q3, M7⟩, e2, hs⟩ := Option.bind_eq_some_iff.mp hs
  dsimp only at hs
  refine evx_cv (D := 1) E112 D112_7 I112_44 rfl rfl H25 ⟨Nat.le_of_ble_eq_true rfl, Nat.le_of_ble_eq_true rfl⟩ ⟨rfl, Nat.le_of_ble_eq_true rfl⟩ rfl R (evx_up (Nat.le_of_ble_eq_true rfl) (c80 R (R.1 27 (Int.toNat x1)) e2)) ?_
  intro h4 R5 w6
  have w6 : rg q3 := w6
  show evx _ _ _ _ _ _ (.inl (iz q3) :: _) _ _ _
  cases hs
  exact evx_ret E112 D112_10 rfl (fun d => rfl) rfl (show rg _ from w6) R5
set_option maxRecDepth 20000 in
theorem E114 : pgMm 114 = some (⟨"DictionaryHouse$Graph", "variableNumber", "(I)I"⟩, prog_7_method_18_code, 2, (some .int), []) := rfl
theorem D114_0 : pgDecT 114 0 = some (.aload_n 0, 1) := by decide +kernel
theorem D114_1 : pgDecT 114 1 = some (.getfield 27, 3) := by decide +kernel
theorem F114_27 : pgFf 114 27 = some (5, 5, 3) := by decide +kernel
theorem D114_4 : pgDecT 114 4 = some (.iload_n 1, 1) := by decide +kernel
theorem D114_5 : pgDecT 114 5 = some (.iaload, 1) := by decide +kernel
theorem D114_6 : pgDecT 114 6 = some (.iconst (-1), 1) := by decide +kernel
theorem D114_7 : pgDecT 114 7 = some (.invokestatic 72, 3) := by decide +kernel
theorem D114_10 : pgDecT 114 10 = some (.ireturn, 1) := by decide +kernel
/-! 114: DictionaryHouse$Graph.variableNumber (I)I -/
def f114 (M : Mm) (x1 : Int) : Option (Int × Mm) := if 0 ≤ x1 ∧ x1 < 2504 then (some ((if (M 31 (Int.toNat x1)) < (-1) then (-1) else (M 31 (Int.toNat x1))), M)) else none
theorem c114 {L : Nat} {xs : Nat → Int32} {h : mvH} {M : Mm} {x1 : Int} {v : Int} {M' : Mm} (R : rp h M) (rx1 : rg x1) (hs : f114 M x1 = some (v, M')) : evx L xs 2 114 0 [(0, .inr (.inr (.inl (some 25)))), (1, .inl (iz x1))] [] h (.inl (some (.inl v)), 0) M' := by
  unfold f114 at hs
  refine evx_F E114 D114_0 rfl rfl ?_
  refine evx_gfr E114 D114_1 F114_27 H25 rfl R ?_
  refine evx_F E114 D114_4 rfl rfl ?_
  obtain ⟨k1, hs⟩ := ck hs
  refine evx_ial E114 D114_5 H31 (by decide) R k1 ?_
  refine evx_F E114 D114_6 rfl rfl ?_
  refine evx_mx (D := 1) (z := (if (M 31 (Int.toNat x1)) < (-1) then (-1) else (M 31 (Int.toNat x1)))) (b := true) E114 D114_7 rfl (Or.inl ⟨rfl, rfl, rfl⟩) (Nat.le_of_ble_eq_true rfl) (R.1 31 (Int.toNat x1)) (by decide) ?_
  cases hs
  exact evx_ret E114 D114_10 rfl (fun d => rfl) rfl (show rg _ from (mx_rg (by decide) (R.1 31 (Int.toNat x1)))) R
set_option maxRecDepth 20000 in
theorem E115 : pgMm 115 = some (⟨"DictionaryHouse$Definitions", "conditionsOf", "(I)I"⟩, prog_5_method_6_code, 2, (some .int), []) := rfl
theorem D115_0 : pgDecT 115 0 = some (.aload_n 0, 1) := by decide +kernel
theorem D115_1 : pgDecT 115 1 = some (.getfield 18, 3) := by decide +kernel
theorem F115_18 : pgFf 115 18 = some (3, 2, 3) := by decide +kernel
theorem D115_4 : pgDecT 115 4 = some (.iload_n 1, 1) := by decide +kernel
theorem D115_5 : pgDecT 115 5 = some (.iaload, 1) := by decide +kernel
theorem D115_6 : pgDecT 115 6 = some (.ireturn, 1) := by decide +kernel
/-! 115: DictionaryHouse$Definitions.conditionsOf (I)I -/
def f115 (M : Mm) (x1 : Int) : Option Int := if 0 ≤ x1 ∧ x1 < 20 then (some (M 20 (Int.toNat x1))) else none
theorem c115 {L : Nat} {xs : Nat → Int32} {h : mvH} {M : Mm} {x1 : Int} {v : Int} (R : rp h M) (rx1 : rg x1) (hs : f115 M x1 = some v) : evx L xs 1 115 0 [(0, .inr (.inr (.inl (some 17)))), (1, .inl (iz x1))] [] h (.inl (some (.inl v)), 0) M := by
  unfold f115 at hs
  refine evx_F E115 D115_0 rfl rfl ?_
  refine evx_gfr E115 D115_1 F115_18 H17 rfl R ?_
  refine evx_F E115 D115_4 rfl rfl ?_
  obtain ⟨k1, hs⟩ := ck hs
  refine evx_ial E115 D115_5 H20 (by decide) R k1 ?_
  cases hs
  exact evx_ret E115 D115_6 rfl (fun d => rfl) rfl (show rg _ from (R.1 20 (Int.toNat x1))) R
set_option maxRecDepth 20000 in
theorem E117 : pgMm 117 = some (⟨"DictionaryHouse$Definitions", "condition", "(II)I"⟩, prog_5_method_7_code, 3, (some .int), []) := rfl
theorem D117_0 : pgDecT 117 0 = some (.aload_n 0, 1) := by decide +kernel
theorem D117_1 : pgDecT 117 1 = some (.getfield 21, 3) := by decide +kernel
theorem F117_21 : pgFf 117 21 = some (3, 3, 3) := by decide +kernel
theorem D117_4 : pgDecT 117 4 = some (.iload_n 1, 1) := by decide +kernel
theorem D117_5 : pgDecT 117 5 = some (.bipush 8, 2) := by decide +kernel
theorem D117_7 : pgDecT 117 7 = some (.imul, 1) := by decide +kernel
theorem D117_8 : pgDecT 117 8 = some (.iload_n 2, 1) := by decide +kernel
theorem D117_9 : pgDecT 117 9 = some (.iadd, 1) := by decide +kernel
theorem D117_10 : pgDecT 117 10 = some (.iaload, 1) := by decide +kernel
theorem D117_11 : pgDecT 117 11 = some (.ireturn, 1) := by decide +kernel
/-! 117: DictionaryHouse$Definitions.condition (II)I -/
def f117 (M : Mm) (x1 : Int) (x2 : Int) : Option Int := if 0 ≤ ((x1 * 8) + x2) ∧ ((x1 * 8) + x2) < 160 then (some (M 21 (Int.toNat ((x1 * 8) + x2)))) else none
theorem c117 {L : Nat} {xs : Nat → Int32} {h : mvH} {M : Mm} {x1 x2 : Int} {v : Int} (R : rp h M) (rx1 : rg x1) (rx2 : rg x2) (hs : f117 M x1 x2 = some v) : evx L xs 1 117 0 [(0, .inr (.inr (.inl (some 17)))), (1, .inl (iz x1)), (2, .inl (iz x2))] [] h (.inl (some (.inl v)), 0) M := by
  unfold f117 at hs
  refine evx_F E117 D117_0 rfl rfl ?_
  refine evx_gfr E117 D117_1 F117_21 H17 rfl R ?_
  refine evx_F E117 D117_4 rfl rfl ?_
  refine evx_k (k := 8) E117 D117_5 rfl (by decide) ?_
  refine evx_mul E117 D117_7 ?_
  refine evx_F E117 D117_8 rfl rfl ?_
  refine evx_add E117 D117_9 ?_
  obtain ⟨k1, hs⟩ := ck hs
  refine evx_ial E117 D117_10 H21 (by decide) R k1 ?_
  cases hs
  exact evx_ret E117 D117_11 rfl (fun d => rfl) rfl (show rg _ from (R.1 21 (Int.toNat ((x1 * 8) + x2)))) R
set_option maxRecDepth 20000 in
theorem E118 : pgMm 118 = some (⟨"DictionaryHouse$Definitions", "classOfCondition", "(II)I"⟩, prog_5_method_8_code, 3, (some .int), []) := rfl
theorem D118_0 : pgDecT 118 0 = some (.aload_n 0, 1) := by decide +kernel
theorem D118_1 : pgDecT 118 1 = some (.iload_n 1, 1) := by decide +kernel
theorem D118_2 : pgDecT 118 2 = some (.iload_n 2, 1) := by decide +kernel
theorem D118_3 : pgDecT 118 3 = some (.invokevirtual 28, 3) := by decide +kernel
theorem I118_28 : pgIi 118 28 = some (117, 2, 3) := by decide +kernel
theorem D118_6 : pgDecT 118 6 = some (.bipush 8, 2) := by decide +kernel
theorem D118_8 : pgDecT 118 8 = some (.idiv, 1) := by decide +kernel
theorem D118_9 : pgDecT 118 9 = some (.ireturn, 1) := by decide +kernel
/-! 118: DictionaryHouse$Definitions.classOfCondition (II)I -/
def f118 (M : Mm) (x1 : Int) (x2 : Int) : Option Int := (f117 M x1 x2).bind (fun q2 => if 0 ≤ q2 ∧ q2 < 2147483648 then (if rg (q2 / 8) then (some (q2 / 8)) else none) else none)
theorem c118 {L : Nat} {xs : Nat → Int32} {h : mvH} {M : Mm} {x1 x2 : Int} {v : Int} (R : rp h M) (rx1 : rg x1) (rx2 : rg x2) (hs : f118 M x1 x2 = some v) : evx L xs 2 118 0 [(0, .inr (.inr (.inl (some 17)))), (1, .inl (iz x1)), (2, .inl (iz x2))] [] h (.inl (some (.inl v)), 0) M := by
  unfold f118 at hs
  refine evx_F E118 D118_0 rfl rfl ?_
  refine evx_F E118 D118_1 rfl rfl ?_
  refine evx_F E118 D118_2 rfl rfl ?_
  obtain ⟨q2, e1, hs⟩ := Option.bind_eq_some_iff.mp hs
  refine evx_cv (D := 1) E118 D118_3 I118_28 rfl rfl H17 ⟨Nat.le_of_ble_eq_true rfl, Nat.le_of_ble_eq_true rfl⟩ ⟨rfl, Nat.le_of_ble_eq_true rfl⟩ rfl R (evx_up (Nat.le_of_ble_eq_true rfl) (c117 R rx1 rx2 e1)) ?_
  intro h3 R4 w5
  have w5 : rg q2 := w5
  show evx _ _ _ _ _ _ (.inl (iz q2) :: _) _ _ _
  refine evx_k (k := 8) E118 D118_6 rfl (by decide) ?_
  obtain ⟨k6, hs⟩ := ck hs
  refine evx_div E118 D118_8 k6 (by decide) ?_
  obtain ⟨k7, hs⟩ := ck hs
  cases hs
  exact evx_ret E118 D118_9 rfl (fun d => rfl) rfl (show rg _ from k7) R4
set_option maxRecDepth 20000 in
theorem E119 : pgMm 119 = some (⟨"DictionaryHouse$Plans", "ofMethod", "(III)I"⟩, prog_10_method_3_code, 3, (some .int), []) := rfl
theorem D119_0 : pgDecT 119 0 = some (.bipush 20, 2) := by decide +kernel
theorem D119_2 : pgDecT 119 2 = some (.iload_n 0, 1) := by decide +kernel
theorem D119_3 : pgDecT 119 3 = some (.iconst 3, 1) := by decide +kernel
theorem D119_4 : pgDecT 119 4 = some (.imul, 1) := by decide +kernel
theorem D119_5 : pgDecT 119 5 = some (.iload_n 1, 1) := by decide +kernel
theorem D119_6 : pgDecT 119 6 = some (.iadd, 1) := by decide +kernel
theorem D119_7 : pgDecT 119 7 = some (.iconst 3, 1) := by decide +kernel
theorem D119_8 : pgDecT 119 8 = some (.imul, 1) := by decide +kernel
theorem D119_9 : pgDecT 119 9 = some (.iadd, 1) := by decide +kernel
theorem D119_10 : pgDecT 119 10 = some (.iload_n 2, 1) := by decide +kernel
theorem D119_11 : pgDecT 119 11 = some (.iadd, 1) := by decide +kernel
theorem D119_12 : pgDecT 119 12 = some (.bipush 60, 2) := by decide +kernel
theorem D119_14 : pgDecT 119 14 = some (.imul, 1) := by decide +kernel
theorem D119_15 : pgDecT 119 15 = some (.ireturn, 1) := by decide +kernel
/-! 119: DictionaryHouse$Plans.ofMethod (III)I -/
def f119 (M : Mm) (x0 : Int) (x1 : Int) (x2 : Int) : Option Int := if rg ((((20 : Int) + (((x0 * 3) + x1) * 3)) + x2) * 60) then (some ((((20 : Int) + (((x0 * 3) + x1) * 3)) + x2) * 60)) else none
theorem c119 {L : Nat} {xs : Nat → Int32} {h : mvH} {M : Mm} {x0 x1 x2 : Int} {v : Int} (R : rp h M) (rx0 : rg x0) (rx1 : rg x1) (rx2 : rg x2) (hs : f119 M x0 x1 x2 = some v) : evx L xs 1 119 0 [(0, .inl (iz x0)), (1, .inl (iz x1)), (2, .inl (iz x2))] [] h (.inl (some (.inl v)), 0) M := by
  unfold f119 at hs
  refine evx_k (k := 20) E119 D119_0 rfl (by decide) ?_
  refine evx_F E119 D119_2 rfl rfl ?_
  refine evx_F E119 D119_3 rfl rfl ?_
  refine evx_mul E119 D119_4 ?_
  refine evx_F E119 D119_5 rfl rfl ?_
  refine evx_add E119 D119_6 ?_
  refine evx_F E119 D119_7 rfl rfl ?_
  refine evx_mul E119 D119_8 ?_
  refine evx_add E119 D119_9 ?_
  refine evx_F E119 D119_10 rfl rfl ?_
  refine evx_add E119 D119_11 ?_
  refine evx_k (k := 60) E119 D119_12 rfl (by decide) ?_
  refine evx_mul E119 D119_14 ?_
  obtain ⟨k1, hs⟩ := ck hs
  cases hs
  exact evx_ret E119 D119_15 rfl (fun d => rfl) rfl (show rg _ from k1) R
set_option maxRecDepth 20000 in
theorem E121 : pgMm 121 = some (⟨"DictionaryHouse$Typing", "fillingsAt", "(I)I"⟩, prog_12_method_7_code, 2, (some .int), []) := rfl
theorem D121_0 : pgDecT 121 0 = some (.aload_n 0, 1) := by decide +kernel
theorem D121_1 : pgDecT 121 1 = some (.getfield 34, 3) := by decide +kernel
theorem F121_34 : pgFf 121 34 = some (10, 10, 3) := by decide +kernel
theorem D121_4 : pgDecT 121 4 = some (.iload_n 1, 1) := by decide +kernel
theorem D121_5 : pgDecT 121 5 = some (.iaload, 1) := by decide +kernel
theorem D121_6 : pgDecT 121 6 = some (.ireturn, 1) := by decide +kernel
/-! 121: DictionaryHouse$Typing.fillingsAt (I)I -/
def f121 (M : Mm) (x1 : Int) : Option Int := if 0 ≤ x1 ∧ x1 < 60 then (some (M 39 (Int.toNat x1))) else none
theorem c121 {L : Nat} {xs : Nat → Int32} {h : mvH} {M : Mm} {x1 : Int} {v : Int} (R : rp h M) (rx1 : rg x1) (hs : f121 M x1 = some v) : evx L xs 1 121 0 [(0, .inr (.inr (.inl (some 24)))), (1, .inl (iz x1))] [] h (.inl (some (.inl v)), 0) M := by
  unfold f121 at hs
  refine evx_F E121 D121_0 rfl rfl ?_
  refine evx_gfr E121 D121_1 F121_34 H24 rfl R ?_
  refine evx_F E121 D121_4 rfl rfl ?_
  obtain ⟨k1, hs⟩ := ck hs
  refine evx_ial E121 D121_5 H39 (by decide) R k1 ?_
  cases hs
  exact evx_ret E121 D121_6 rfl (fun d => rfl) rfl (show rg _ from (R.1 39 (Int.toNat x1))) R
set_option maxRecDepth 20000 in
theorem E123 : pgMm 123 = some (⟨"DictionaryHouse$Plans", "planForInnermost", "(II)I"⟩, prog_10_method_9_code, 2, (some .int), []) := rfl
theorem D123_0 : pgDecT 123 0 = some (.iload_n 0, 1) := by decide +kernel
theorem D123_1 : pgDecT 123 1 = some (.ifCond .eq 8, 3) := by decide +kernel
theorem D123_9 : pgDecT 123 9 = some (.iload_n 0, 1) := by decide +kernel
theorem D123_10 : pgDecT 123 10 = some (.ireturn, 1) := by decide +kernel
theorem D123_4 : pgDecT 123 4 = some (.iload_n 0, 1) := by decide +kernel
theorem D123_5 : pgDecT 123 5 = some (.iconst 1, 1) := by decide +kernel
theorem D123_6 : pgDecT 123 6 = some (.if_icmp .ne 5, 3) := by decide +kernel
theorem D123_11 : pgDecT 123 11 = some (.iload_n 0, 1) := by decide +kernel
theorem D123_12 : pgDecT 123 12 = some (.iconst 5, 1) := by decide +kernel
theorem D123_13 : pgDecT 123 13 = some (.if_icmp .ne 5, 3) := by decide +kernel
theorem D123_18 : pgDecT 123 18 = some (.iload_n 0, 1) := by decide +kernel
theorem D123_19 : pgDecT 123 19 = some (.iconst 2, 1) := by decide +kernel
theorem D123_20 : pgDecT 123 20 = some (.if_icmp .ne 14, 3) := by decide +kernel
theorem D123_34 : pgDecT 123 34 = some (.iconst 2, 1) := by decide +kernel
theorem D123_35 : pgDecT 123 35 = some (.ireturn, 1) := by decide +kernel
theorem D123_23 : pgDecT 123 23 = some (.iload_n 1, 1) := by decide +kernel
theorem D123_24 : pgDecT 123 24 = some (.iconst (-1), 1) := by decide +kernel
theorem D123_25 : pgDecT 123 25 = some (.if_icmp .eq 9, 3) := by decide +kernel
theorem D123_28 : pgDecT 123 28 = some (.iconst 4, 1) := by decide +kernel
theorem D123_29 : pgDecT 123 29 = some (.iload_n 1, 1) := by decide +kernel
theorem D123_30 : pgDecT 123 30 = some (.iadd, 1) := by decide +kernel
theorem D123_31 : pgDecT 123 31 = some (.goto 4, 3) := by decide +kernel
theorem D123_16 : pgDecT 123 16 = some (.iconst 4, 1) := by decide +kernel
theorem D123_17 : pgDecT 123 17 = some (.ireturn, 1) := by decide +kernel
/-! 123: DictionaryHouse$Plans.planForInnermost (II)I -/
def f123 (M : Mm) (x0 : Int) (x1 : Int) : Option Int := if x0 = 0 then (some x0) else (if ¬ x0 = 1 then (if ¬ x0 = 5 then (if ¬ x0 = 2 then (some 2) else (if x1 = (-1) then (some 2) else (if rg ((4 : Int) + x1) then (some ((4 : Int) + x1)) else none))) else (some 4)) else (some x0))
theorem c123 {L : Nat} {xs : Nat → Int32} {h : mvH} {M : Mm} {x0 x1 : Int} {v : Int} (R : rp h M) (rx0 : rg x0) (rx1 : rg x1) (hs : f123 M x0 x1 = some v) : evx L xs 1 123 0 [(0, .inl (iz x0)), (1, .inl (iz x1))] [] h (.inl (some (.inl v)), 0) M := by
  unfold f123 at hs
  refine evx_F E123 D123_0 rfl rfl ?_
  by_cases cb1 : x0 = 0
  · rw [if_pos cb1] at hs
    refine evx_F E123 D123_1 rfl (ifT (c1_eq_T rx0 cb1)) ?_
    refine evx_F E123 D123_9 rfl rfl ?_
    cases hs
    exact evx_ret E123 D123_10 rfl (fun d => rfl) rfl (show rg _ from rx0) R
  · rw [if_neg cb1] at hs
    refine evx_F E123 D123_1 rfl (ifF (c1_eq_F rx0 (by omega))) ?_
    refine evx_F E123 D123_4 rfl rfl ?_
    refine evx_F E123 D123_5 rfl rfl ?_
    by_cases cb2 : ¬ x0 = 1
    · rw [if_pos cb2] at hs
      refine evx_F E123 D123_6 rfl (ifT (c2_ne_T rx0 (by decide) cb2)) ?_
      refine evx_F E123 D123_11 rfl rfl ?_
      refine evx_F E123 D123_12 rfl rfl ?_
      by_cases cb3 : ¬ x0 = 5
      · rw [if_pos cb3] at hs
        refine evx_F E123 D123_13 rfl (ifT (c2_ne_T rx0 (by decide) cb3)) ?_
        refine evx_F E123 D123_18 rfl rfl ?_
        refine evx_F E123 D123_19 rfl rfl ?_
        by_cases cb4 : ¬ x0 = 2
        · rw [if_pos cb4] at hs
          refine evx_F E123 D123_20 rfl (ifT (c2_ne_T rx0 (by decide) cb4)) ?_
          refine evx_F E123 D123_34 rfl rfl ?_
          cases hs
          exact evx_ret E123 D123_35 rfl (fun d => rfl) rfl (show rg _ from (by decide)) R
        · rw [if_neg cb4] at hs
          refine evx_F E123 D123_20 rfl (ifF (c2_ne_F rx0 (by decide) (by omega))) ?_
          refine evx_F E123 D123_23 rfl rfl ?_
          refine evx_F E123 D123_24 rfl rfl ?_
          by_cases cb5 : x1 = (-1)
          · rw [if_pos cb5] at hs
            refine evx_F E123 D123_25 rfl (ifT (c2_eq_T rx1 (by decide) cb5)) ?_
            refine evx_F E123 D123_34 rfl rfl ?_
            cases hs
            exact evx_ret E123 D123_35 rfl (fun d => rfl) rfl (show rg _ from (by decide)) R
          · rw [if_neg cb5] at hs
            refine evx_F E123 D123_25 rfl (ifF (c2_eq_F rx1 (by decide) (by omega))) ?_
            refine evx_F E123 D123_28 rfl rfl ?_
            refine evx_F E123 D123_29 rfl rfl ?_
            refine evx_add E123 D123_30 ?_
            refine evx_F E123 D123_31 rfl rfl ?_
            obtain ⟨k6, hs⟩ := ck hs
            cases hs
            exact evx_ret E123 D123_35 rfl (fun d => rfl) rfl (show rg _ from k6) R
      · rw [if_neg cb3] at hs
        refine evx_F E123 D123_13 rfl (ifF (c2_ne_F rx0 (by decide) (by omega))) ?_
        refine evx_F E123 D123_16 rfl rfl ?_
        cases hs
        exact evx_ret E123 D123_17 rfl (fun d => rfl) rfl (show rg _ from (by decide)) R
    · rw [if_neg cb2] at hs
      refine evx_F E123 D123_6 rfl (ifF (c2_ne_F rx0 (by decide) (by omega))) ?_
      refine evx_F E123 D123_9 rfl rfl ?_
      cases hs
      exact evx_ret E123 D123_10 rfl (fun d => rfl) rfl (show rg _ from rx0) R
set_option maxRecDepth 20000 in
theorem E124 : pgMm 124 = some (⟨"DictionaryHouse$ClassTable", "removeInstance", "(II)V"⟩, prog_3_method_17_code, 3, none, []) := rfl
theorem D124_0 : pgDecT 124 0 = some (.aload_n 0, 1) := by decide +kernel
theorem D124_1 : pgDecT 124 1 = some (.getfield 21, 3) := by decide +kernel
theorem F124_21 : pgFf 124 21 = some (1, 3, 3) := by decide +kernel
theorem D124_4 : pgDecT 124 4 = some (.iload_n 1, 1) := by decide +kernel
theorem D124_5 : pgDecT 124 5 = some (.iconst 3, 1) := by decide +kernel
theorem D124_6 : pgDecT 124 6 = some (.imul, 1) := by decide +kernel
theorem D124_7 : pgDecT 124 7 = some (.iload_n 2, 1) := by decide +kernel
theorem D124_8 : pgDecT 124 8 = some (.iadd, 1) := by decide +kernel
theorem D124_9 : pgDecT 124 9 = some (.iconst 0, 1) := by decide +kernel
theorem D124_10 : pgDecT 124 10 = some (.bastore, 1) := by decide +kernel
theorem D124_11 : pgDecT 124 11 = some (.aload_n 0, 1) := by decide +kernel
theorem D124_12 : pgDecT 124 12 = some (.getfield 25, 3) := by decide +kernel
theorem F124_25 : pgFf 124 25 = some (1, 4, 3) := by decide +kernel
theorem D124_15 : pgDecT 124 15 = some (.iload_n 1, 1) := by decide +kernel
theorem D124_16 : pgDecT 124 16 = some (.iconst 3, 1) := by decide +kernel
theorem D124_17 : pgDecT 124 17 = some (.imul, 1) := by decide +kernel
theorem D124_18 : pgDecT 124 18 = some (.iload_n 2, 1) := by decide +kernel
theorem D124_19 : pgDecT 124 19 = some (.iadd, 1) := by decide +kernel
theorem D124_20 : pgDecT 124 20 = some (.iconst (-1), 1) := by decide +kernel
theorem D124_21 : pgDecT 124 21 = some (.iastore, 1) := by decide +kernel
theorem D124_22 : pgDecT 124 22 = some (.return_, 1) := by decide +kernel
/-! 124: DictionaryHouse$ClassTable.removeInstance (II)V -/
def f124 (M : Mm) (x1 : Int) (x2 : Int) : Option (Int × Mm) := if 0 ≤ ((x1 * 3) + x2) ∧ ((x1 * 3) + x2) < 18 then (some (0, (up (up M 9 (Int.toNat ((x1 * 3) + x2)) 0) 10 (Int.toNat ((x1 * 3) + x2)) (-1)))) else none
theorem c124 {L : Nat} {xs : Nat → Int32} {h : mvH} {M : Mm} {x1 x2 : Int} {v : Int} {M' : Mm} (R : rp h M) (rx1 : rg x1) (rx2 : rg x2) (hs : f124 M x1 x2 = some (v, M')) : evx L xs 1 124 0 [(0, .inr (.inr (.inl (some 5)))), (1, .inl (iz x1)), (2, .inl (iz x2))] [] h (.inl none, 0) M' := by
  unfold f124 at hs
  refine evx_F E124 D124_0 rfl rfl ?_
  refine evx_gfr E124 D124_1 F124_21 H5 rfl R ?_
  refine evx_F E124 D124_4 rfl rfl ?_
  refine evx_F E124 D124_5 rfl rfl ?_
  refine evx_mul E124 D124_6 ?_
  refine evx_F E124 D124_7 rfl rfl ?_
  refine evx_add E124 D124_8 ?_
  refine evx_F E124 D124_9 rfl rfl ?_
  obtain ⟨k1, hs⟩ := ck hs
  refine evx_bas E124 D124_10 H9 (by decide) R k1 (by decide) ?_
  intro h2 R3
  refine evx_F E124 D124_11 rfl rfl ?_
  refine evx_gfr E124 D124_12 F124_25 H5 rfl R3 ?_
  refine evx_F E124 D124_15 rfl rfl ?_
  refine evx_F E124 D124_16 rfl rfl ?_
  refine evx_mul E124 D124_17 ?_
  refine evx_F E124 D124_18 rfl rfl ?_
  refine evx_add E124 D124_19 ?_
  refine evx_F E124 D124_20 rfl rfl ?_
  refine evx_ias E124 D124_21 H10 (by decide) R3 k1 (by decide) ?_
  intro h4 R5
  cases hs
  exact evx_ret E124 D124_22 rfl (fun d => rfl) rfl trivial R5
set_option maxRecDepth 20000 in
theorem E127 : pgMm 127 = some (⟨"DictionaryHouse$Definitions", "count", "()I"⟩, prog_5_method_2_code, 1, (some .int), []) := rfl
theorem D127_0 : pgDecT 127 0 = some (.aload_n 0, 1) := by decide +kernel
theorem D127_1 : pgDecT 127 1 = some (.getfield 24, 3) := by decide +kernel
theorem F127_24 : pgFf 127 24 = some (3, 4, 0) := by decide +kernel
theorem D127_4 : pgDecT 127 4 = some (.ireturn, 1) := by decide +kernel
/-! 127: DictionaryHouse$Definitions.count ()I -/
def f127 (M : Mm) : Option Int := some (M 17 4)
theorem c127 {L : Nat} {xs : Nat → Int32} {h : mvH} {M : Mm} {v : Int} (R : rp h M)  (hs : f127 M  = some v) : evx L xs 1 127 0 [(0, .inr (.inr (.inl (some 17))))] [] h (.inl (some (.inl v)), 0) M := by
  unfold f127 at hs
  refine evx_F E127 D127_0 rfl rfl ?_
  refine evx_gfi (k := 4) E127 D127_1 F127_24 H17 rfl R ?_
  cases hs
  exact evx_ret E127 D127_4 rfl (fun d => rfl) rfl (show rg _ from (R.1 17 4)) R
set_option maxRecDepth 20000 in
theorem E129 : pgMm 129 = some (⟨"DictionaryHouse$Typing", "typeOfWhole", "()I"⟩, prog_12_method_8_code, 1, (some .int), []) := rfl
theorem D129_0 : pgDecT 129 0 = some (.aload_n 0, 1) := by decide +kernel
theorem D129_1 : pgDecT 129 1 = some (.getfield 25, 3) := by decide +kernel
theorem F129_25 : pgFf 129 25 = some (10, 7, 3) := by decide +kernel
theorem D129_4 : pgDecT 129 4 = some (.iconst 0, 1) := by decide +kernel
theorem D129_5 : pgDecT 129 5 = some (.iaload, 1) := by decide +kernel
theorem D129_6 : pgDecT 129 6 = some (.ireturn, 1) := by decide +kernel
/-! 129: DictionaryHouse$Typing.typeOfWhole ()I -/
def f129 (M : Mm) : Option Int := some (M 36 (Int.toNat 0))
theorem c129 {L : Nat} {xs : Nat → Int32} {h : mvH} {M : Mm} {v : Int} (R : rp h M)  (hs : f129 M  = some v) : evx L xs 1 129 0 [(0, .inr (.inr (.inl (some 24))))] [] h (.inl (some (.inl v)), 0) M := by
  unfold f129 at hs
  refine evx_F E129 D129_0 rfl rfl ?_
  refine evx_gfr E129 D129_1 F129_25 H24 rfl R ?_
  refine evx_F E129 D129_4 rfl rfl ?_
  refine evx_ial E129 D129_5 H36 (by decide) R (by decide) ?_
  cases hs
  exact evx_ret E129 D129_6 rfl (fun d => rfl) rfl (show rg _ from (R.1 36 (Int.toNat 0))) R
set_option maxRecDepth 20000 in
theorem E131 : pgMm 131 = some (⟨"DictionaryHouse$Graph", "see", "(II)I"⟩, prog_7_method_21_code, 4, (some .int), []) := rfl
theorem D131_0 : pgDecT 131 0 = some (.iload_n 2, 1) := by decide +kernel
theorem D131_1 : pgDecT 131 1 = some (.istore_n 3, 1) := by decide +kernel
theorem D131_2 : pgDecT 131 2 = some (.aload_n 0, 1) := by decide +kernel
theorem D131_3 : pgDecT 131 3 = some (.getfield 27, 3) := by decide +kernel
theorem F131_27 : pgFf 131 27 = some (5, 5, 3) := by decide +kernel
theorem D131_6 : pgDecT 131 6 = some (.iload_n 1, 1) := by decide +kernel
theorem D131_7 : pgDecT 131 7 = some (.iconst (-1), 1) := by decide +kernel
theorem D131_8 : pgDecT 131 8 = some (.iastore, 1) := by decide +kernel
theorem D131_9 : pgDecT 131 9 = some (.aload_n 0, 1) := by decide +kernel
theorem D131_10 : pgDecT 131 10 = some (.getfield 11, 3) := by decide +kernel
theorem F131_11 : pgFf 131 11 = some (5, 0, 3) := by decide +kernel
theorem D131_13 : pgDecT 131 13 = some (.iload_n 1, 1) := by decide +kernel
theorem D131_14 : pgDecT 131 14 = some (.iaload, 1) := by decide +kernel
theorem D131_15 : pgDecT 131 15 = some (.iconst 2, 1) := by decide +kernel
theorem D131_16 : pgDecT 131 16 = some (.if_icmp .ne 30, 3) := by decide +kernel
theorem D131_46 : pgDecT 131 46 = some (.aload_n 0, 1) := by decide +kernel
theorem D131_47 : pgDecT 131 47 = some (.getfield 18, 3) := by decide +kernel
theorem F131_18 : pgFf 131 18 = some (5, 2, 3) := by decide +kernel
theorem D131_50 : pgDecT 131 50 = some (.iload_n 1, 1) := by decide +kernel
theorem D131_51 : pgDecT 131 51 = some (.iaload, 1) := by decide +kernel
theorem D131_52 : pgDecT 131 52 = some (.iconst (-1), 1) := by decide +kernel
theorem D131_53 : pgDecT 131 53 = some (.if_icmp .eq 22, 3) := by decide +kernel
theorem D131_75 : pgDecT 131 75 = some (.aload_n 0, 1) := by decide +kernel
theorem D131_76 : pgDecT 131 76 = some (.getfield 15, 3) := by decide +kernel
theorem F131_15 : pgFf 131 15 = some (5, 1, 3) := by decide +kernel
theorem D131_79 : pgDecT 131 79 = some (.iload_n 1, 1) := by decide +kernel
theorem D131_80 : pgDecT 131 80 = some (.iaload, 1) := by decide +kernel
theorem D131_81 : pgDecT 131 81 = some (.iconst (-1), 1) := by decide +kernel
theorem D131_82 : pgDecT 131 82 = some (.if_icmp .eq 22, 3) := by decide +kernel
theorem D131_104 : pgDecT 131 104 = some (.iload_n 3, 1) := by decide +kernel
theorem D131_105 : pgDecT 131 105 = some (.ireturn, 1) := by decide +kernel
theorem D131_85 : pgDecT 131 85 = some (.aload_n 0, 1) := by decide +kernel
theorem D131_86 : pgDecT 131 86 = some (.getfield 33, 3) := by decide +kernel
theorem F131_33 : pgFf 131 33 = some (5, 7, 3) := by decide +kernel
theorem D131_89 : pgDecT 131 89 = some (.iload_n 3, 1) := by decide +kernel
theorem D131_90 : pgDecT 131 90 = some (.iinc 3 1, 3) := by decide +kernel
theorem D131_93 : pgDecT 131 93 = some (.aload_n 0, 1) := by decide +kernel
theorem D131_94 : pgDecT 131 94 = some (.aload_n 0, 1) := by decide +kernel
theorem D131_95 : pgDecT 131 95 = some (.getfield 15, 3) := by decide +kernel
theorem D131_98 : pgDecT 131 98 = some (.iload_n 1, 1) := by decide +kernel
theorem D131_99 : pgDecT 131 99 = some (.iaload, 1) := by decide +kernel
theorem D131_100 : pgDecT 131 100 = some (.invokevirtual 44, 3) := by decide +kernel
theorem I131_44 : pgIi 131 44 = some (80, 1, 5) := by decide +kernel
theorem D131_103 : pgDecT 131 103 = some (.iastore, 1) := by decide +kernel
theorem D131_56 : pgDecT 131 56 = some (.aload_n 0, 1) := by decide +kernel
theorem D131_57 : pgDecT 131 57 = some (.getfield 33, 3) := by decide +kernel
theorem D131_60 : pgDecT 131 60 = some (.iload_n 3, 1) := by decide +kernel
theorem D131_61 : pgDecT 131 61 = some (.iinc 3 1, 3) := by decide +kernel
theorem D131_64 : pgDecT 131 64 = some (.aload_n 0, 1) := by decide +kernel
theorem D131_65 : pgDecT 131 65 = some (.aload_n 0, 1) := by decide +kernel
theorem D131_66 : pgDecT 131 66 = some (.getfield 18, 3) := by decide +kernel
theorem D131_69 : pgDecT 131 69 = some (.iload_n 1, 1) := by decide +kernel
theorem D131_70 : pgDecT 131 70 = some (.iaload, 1) := by decide +kernel
theorem D131_71 : pgDecT 131 71 = some (.invokevirtual 44, 3) := by decide +kernel
theorem D131_74 : pgDecT 131 74 = some (.iastore, 1) := by decide +kernel
theorem D131_19 : pgDecT 131 19 = some (.aload_n 0, 1) := by decide +kernel
theorem D131_20 : pgDecT 131 20 = some (.getfield 30, 3) := by decide +kernel
theorem F131_30 : pgFf 131 30 = some (5, 6, 3) := by decide +kernel
theorem D131_23 : pgDecT 131 23 = some (.aload_n 0, 1) := by decide +kernel
theorem D131_24 : pgDecT 131 24 = some (.getfield 69, 3) := by decide +kernel
theorem F131_69 : pgFf 131 69 = some (5, 9, 0) := by decide +kernel
theorem D131_27 : pgDecT 131 27 = some (.iload_n 1, 1) := by decide +kernel
theorem D131_28 : pgDecT 131 28 = some (.iastore, 1) := by decide +kernel
theorem D131_29 : pgDecT 131 29 = some (.aload_n 0, 1) := by decide +kernel
theorem D131_30 : pgDecT 131 30 = some (.getfield 27, 3) := by decide +kernel
theorem D131_33 : pgDecT 131 33 = some (.iload_n 1, 1) := by decide +kernel
theorem D131_34 : pgDecT 131 34 = some (.aload_n 0, 1) := by decide +kernel
theorem D131_35 : pgDecT 131 35 = some (.dup, 1) := by decide +kernel
theorem D131_36 : pgDecT 131 36 = some (.getfield 69, 3) := by decide +kernel
theorem D131_39 : pgDecT 131 39 = some (.dup_x1, 1) := by decide +kernel
theorem D131_40 : pgDecT 131 40 = some (.iconst 1, 1) := by decide +kernel
theorem D131_41 : pgDecT 131 41 = some (.iadd, 1) := by decide +kernel
theorem D131_42 : pgDecT 131 42 = some (.putfield 69, 3) := by decide +kernel
theorem D131_45 : pgDecT 131 45 = some (.iastore, 1) := by decide +kernel
/-! 131: DictionaryHouse$Graph.see (II)I -/
def f131 (M : Mm) (x1 : Int) (x2 : Int) : Option (Int × Mm) := if 0 ≤ x1 ∧ x1 < 2504 then (if ¬ (M 26 (Int.toNat x1)) = 2 then (if (M 28 (Int.toNat x1)) = (-1) then (if (M 27 (Int.toNat x1)) = (-1) then (some (x2, (up M 31 (Int.toNat x1) (-1)))) else (f80 (up M 31 (Int.toNat x1) (-1)) (M 27 (Int.toNat x1))).bind (fun zq8 => if 0 ≤ x2 ∧ x2 < 5012 then (if rg (x2 + 1) then (some ((x2 + 1), (up zq8.2 33 (Int.toNat x2) zq8.1))) else none) else none)) else (f80 (up M 31 (Int.toNat x1) (-1)) (M 28 (Int.toNat x1))).bind (fun zq18 => if 0 ≤ x2 ∧ x2 < 5012 then (if (zq18.2 27 (Int.toNat x1)) = (-1) then (if rg (x2 + 1) then (some ((x2 + 1), (up zq18.2 33 (Int.toNat x2) zq18.1))) else none) else (f80 (up zq18.2 33 (Int.toNat x2) zq18.1) (zq18.2 27 (Int.toNat x1))).bind (fun zq29 => if 0 ≤ (x2 + 1) ∧ (x2 + 1) < 5012 then (if rg ((x2 + 1) + 1) then (some (((x2 + 1) + 1), (up zq29.2 33 (Int.toNat (x2 + 1)) zq29.1))) else none) else none)) else none)) else (if 0 ≤ (M 25 9) ∧ (M 25 9) < 2504 then (if rg ((M 25 9) + 1) then (if (M 28 (Int.toNat x1)) = (-1) then (if (M 27 (Int.toNat x1)) = (-1) then (some (x2, (up (up (up (up M 31 (Int.toNat x1) (-1)) 32 (Int.toNat (M 25 9)) x1) 25 9 ((M 25 9) + 1)) 31 (Int.toNat x1) (M 25 9)))) else (f80 (up (up (up (up M 31 (Int.toNat x1) (-1)) 32 (Int.toNat (M 25 9)) x1) 25 9 ((M 25 9) + 1)) 31 (Int.toNat x1) (M 25 9)) (M 27 (Int.toNat x1))).bind (fun zq49 => if 0 ≤ x2 ∧ x2 < 5012 then (if rg (x2 + 1) then (some ((x2 + 1), (up zq49.2 33 (Int.toNat x2) zq49.1))) else none) else none)) else (f80 (up (up (up (up M 31 (Int.toNat x1) (-1)) 32 (Int.toNat (M 25 9)) x1) 25 9 ((M 25 9) + 1)) 31 (Int.toNat x1) (M 25 9)) (M 28 (Int.toNat x1))).bind (fun zq59 => if 0 ≤ x2 ∧ x2 < 5012 then (if (zq59.2 27 (Int.toNat x1)) = (-1) then (if rg (x2 + 1) then (some ((x2 + 1), (up zq59.2 33 (Int.toNat x2) zq59.1))) else none) else (f80 (up zq59.2 33 (Int.toNat x2) zq59.1) (zq59.2 27 (Int.toNat x1))).bind (fun zq70 => if 0 ≤ (x2 + 1) ∧ (x2 + 1) < 5012 then (if rg ((x2 + 1) + 1) then (some (((x2 + 1) + 1), (up zq70.2 33 (Int.toNat (x2 + 1)) zq70.1))) else none) else none)) else none)) else none) else none)) else none
theorem c131 {L : Nat} {xs : Nat → Int32} {h : mvH} {M : Mm} {x1 x2 : Int} {v : Int} {M' : Mm} (R : rp h M) (rx1 : rg x1) (rx2 : rg x2) (hs : f131 M x1 x2 = some (v, M')) : evx L xs 2 131 0 [(0, .inr (.inr (.inl (some 25)))), (1, .inl (iz x1)), (2, .inl (iz x2))] [] h (.inl (some (.inl v)), 0) M' := by
  unfold f131 at hs
  refine evx_F E131 D131_0 rfl rfl ?_
  refine evx_F E131 D131_1 rfl rfl ?_
  refine evx_F E131 D131_2 rfl rfl ?_
  refine evx_gfr E131 D131_3 F131_27 H25 rfl R ?_
  refine evx_F E131 D131_6 rfl rfl ?_
  refine evx_F E131 D131_7 rfl rfl ?_
  obtain ⟨k1, hs⟩ := ck hs
  refine evx_ias E131 D131_8 H31 (by decide) R k1 (by decide) ?_
  intro h2 R3
  refine evx_F E131 D131_9 rfl rfl ?_
  refine evx_gfr E131 D131_10 F131_11 H25 rfl R3 ?_
  refine evx_F E131 D131_13 rfl rfl ?_
  refine evx_ial E131 D131_14 H26 (by decide) R3 k1 ?_
  show evx _ _ _ _ _ _ (.inl (iz (M 26 (Int.toNat x1))) :: _) _ _ _
  refine evx_F E131 D131_15 rfl rfl ?_
  by_cases cb4 : ¬ (M 26 (Int.toNat x1)) = 2
  · rw [if_pos cb4] at hs
    refine evx_F E131 D131_16 rfl (ifT (c2_ne_T (R3.1 26 (Int.toNat x1)) (by decide) cb4)) ?_
    refine evx_F E131 D131_46 rfl rfl ?_
    refine evx_gfr E131 D131_47 F131_18 H25 rfl R3 ?_
    refine evx_F E131 D131_50 rfl rfl ?_
    refine evx_ial E131 D131_51 H28 (by decide) R3 k1 ?_
    show evx _ _ _ _ _ _ (.inl (iz (M 28 (Int.toNat x1))) :: _) _ _ _
    refine evx_F E131 D131_52 rfl rfl ?_
    by_cases cb5 : (M 28 (Int.toNat x1)) = (-1)
    · rw [if_pos cb5] at hs
      refine evx_F E131 D131_53 rfl (ifT (c2_eq_T (R3.1 28 (Int.toNat x1)) (by decide) cb5)) ?_
      refine evx_F E131 D131_75 rfl rfl ?_
      refine evx_gfr E131 D131_76 F131_15 H25 rfl R3 ?_
      refine evx_F E131 D131_79 rfl rfl ?_
      refine evx_ial E131 D131_80 H27 (by decide) R3 k1 ?_
      show evx _ _ _ _ _ _ (.inl (iz (M 27 (Int.toNat x1))) :: _) _ _ _
      refine evx_F E131 D131_81 rfl rfl ?_
      by_cases cb6 : (M 27 (Int.toNat x1)) = (-1)
      · rw [if_pos cb6] at hs
        refine evx_F E131 D131_82 rfl (ifT (c2_eq_T (R3.1 27 (Int.toNat x1)) (by decide) cb6)) ?_
        refine evx_F E131 D131_104 rfl rfl ?_
        cases hs
        exact evx_ret E131 D131_105 rfl (fun d => rfl) rfl (show rg _ from rx2) R3
      · rw [if_neg cb6] at hs
        refine evx_F E131 D131_82 rfl (ifF (c2_eq_F (R3.1 27 (Int.toNat x1)) (by decide) (by omega))) ?_
        refine evx_F E131 D131_85 rfl rfl ?_
        refine evx_gfr E131 D131_86 F131_33 H25 rfl R3 ?_
        refine evx_F E131 D131_89 rfl rfl ?_
        refine evx_inc E131 D131_90 (Nat.le_of_ble_eq_true rfl) rfl ?_
        refine evx_F E131 D131_93 rfl rfl ?_
        refine evx_F E131 D131_94 rfl rfl ?_
        refine evx_gfr E131 D131_95 F131_15 H25 rfl R3 ?_
        refine evx_F E131 D131_98 rfl rfl ?_
        refine evx_ial E131 D131_99 H27 (by decide) R3 k1 ?_
        show evx _ _ _ _ _ _ (.inl (iz (M 27 (Int.toNat x1))) :: _) _ _ _
        obtain ⟨⟨q8, M12⟩, e7, hs⟩ := Option.bind_eq_some_iff.mp hs
        dsimp only at hs
        refine evx_cv (D := 1) E131 D131_100 I131_44 rfl rfl H25 ⟨Nat.le_of_ble_eq_true rfl, Nat.le_of_ble_eq_true rfl⟩ ⟨rfl, Nat.le_of_ble_eq_true rfl⟩ rfl R3 (evx_up (Nat.le_of_ble_eq_true rfl) (c80 R3 (R3.1 27 (Int.toNat x1)) e7)) ?_
        intro h9 R10 w11
        have w11 : rg q8 := w11
        show evx _ _ _ _ _ _ (.inl (iz q8) :: _) _ _ _
        obtain ⟨k13, hs⟩ := ck hs
        refine evx_ias E131 D131_103 H33 (by decide) R10 k13 w11 ?_
        intro h14 R15
        refine evx_F E131 D131_104 rfl rfl ?_
        obtain ⟨k16, hs⟩ := ck hs
        cases hs
        exact evx_ret E131 D131_105 rfl (fun d => rfl) rfl (show rg _ from k16) R15
    · rw [if_neg cb5] at hs
      refine evx_F E131 D131_53 rfl (ifF (c2_eq_F (R3.1 28 (Int.toNat x1)) (by decide) (by omega))) ?_
      refine evx_F E131 D131_56 rfl rfl ?_
      refine evx_gfr E131 D131_57 F131_33 H25 rfl R3 ?_
      refine evx_F E131 D131_60 rfl rfl ?_
      refine evx_inc E131 D131_61 (Nat.le_of_ble_eq_true rfl) rfl ?_
      refine evx_F E131 D131_64 rfl rfl ?_
      refine evx_F E131 D131_65 rfl rfl ?_
      refine evx_gfr E131 D131_66 F131_18 H25 rfl R3 ?_
      refine evx_F E131 D131_69 rfl rfl ?_
      refine evx_ial E131 D131_70 H28 (by decide) R3 k1 ?_
      show evx _ _ _ _ _ _ (.inl (iz (M 28 (Int.toNat x1))) :: _) _ _ _
      obtain ⟨⟨q18, M22⟩, e17, hs⟩ := Option.bind_eq_some_iff.mp hs
      dsimp only at hs
      refine evx_cv (D := 1) E131 D131_71 I131_44 rfl rfl H25 ⟨Nat.le_of_ble_eq_true rfl, Nat.le_of_ble_eq_true rfl⟩ ⟨rfl, Nat.le_of_ble_eq_true rfl⟩ rfl R3 (evx_up (Nat.le_of_ble_eq_true rfl) (c80 R3 (R3.1 28 (Int.toNat x1)) e17)) ?_
      intro h19 R20 w21
      have w21 : rg q18 := w21
      show evx _ _ _ _ _ _ (.inl (iz q18) :: _) _ _ _
      obtain ⟨k23, hs⟩ := ck hs
      refine evx_ias E131 D131_74 H33 (by decide) R20 k23 w21 ?_
      intro h24 R25
      refine evx_F E131 D131_75 rfl rfl ?_
      refine evx_gfr E131 D131_76 F131_15 H25 rfl R25 ?_
      refine evx_F E131 D131_79 rfl rfl ?_
      refine evx_ial E131 D131_80 H27 (by decide) R25 k1 ?_
      show evx _ _ _ _ _ _ (.inl (iz (M22 27 (Int.toNat x1))) :: _) _ _ _
      refine evx_F E131 D131_81 rfl rfl ?_
      by_cases cb26 : (M22 27 (Int.toNat x1)) = (-1)
      · rw [if_pos cb26] at hs
        refine evx_F E131 D131_82 rfl (ifT (c2_eq_T (R25.1 27 (Int.toNat x1)) (by decide) cb26)) ?_
        refine evx_F E131 D131_104 rfl rfl ?_
        obtain ⟨k27, hs⟩ := ck hs
        cases hs
        exact evx_ret E131 D131_105 rfl (fun d => rfl) rfl (show rg _ from k27) R25
      · rw [if_neg cb26] at hs
        refine evx_F E131 D131_82 rfl (ifF (c2_eq_F (R25.1 27 (Int.toNat x1)) (by decide) (by omega))) ?_
        refine evx_F E131 D131_85 rfl rfl ?_
        refine evx_gfr E131 D131_86 F131_33 H25 rfl R25 ?_
        refine evx_F E131 D131_89 rfl rfl ?_
        refine evx_inc E131 D131_90 (Nat.le_of_ble_eq_true rfl) rfl ?_
        refine evx_F E131 D131_93 rfl rfl ?_
        refine evx_F E131 D131_94 rfl rfl ?_
        refine evx_gfr E131 D131_95 F131_15 H25 rfl R25 ?_
        refine evx_F E131 D131_98 rfl rfl ?_
        refine evx_ial E131 D131_99 H27 (by decide) R25 k1 ?_
        show evx _ _ _ _ _ _ (.inl (iz (M22 27 (Int.toNat x1))) :: _) _ _ _
        obtain ⟨⟨q29, M33⟩, e28, hs⟩ := Option.bind_eq_some_iff.mp hs
        dsimp only at hs
        refine evx_cv (D := 1) E131 D131_100 I131_44 rfl rfl H25 ⟨Nat.le_of_ble_eq_true rfl, Nat.le_of_ble_eq_true rfl⟩ ⟨rfl, Nat.le_of_ble_eq_true rfl⟩ rfl R25 (evx_up (Nat.le_of_ble_eq_true rfl) (c80 R25 (R25.1 27 (Int.toNat x1)) e28)) ?_
        intro h30 R31 w32
        have w32 : rg q29 := w32
        show evx _ _ _ _ _ _ (.inl (iz q29) :: _) _ _ _
        obtain ⟨k34, hs⟩ := ck hs
        refine evx_ias E131 D131_103 H33 (by decide) R31 k34 w32 ?_
        intro h35 R36
        refine evx_F E131 D131_104 rfl rfl ?_
        obtain ⟨k37, hs⟩ := ck hs
        cases hs
        exact evx_ret E131 D131_105 rfl (fun d => rfl) rfl (show rg _ from k37) R36
  · rw [if_neg cb4] at hs
    refine evx_F E131 D131_16 rfl (ifF (c2_ne_F (R3.1 26 (Int.toNat x1)) (by decide) (by omega))) ?_
    refine evx_F E131 D131_19 rfl rfl ?_
    refine evx_gfr E131 D131_20 F131_30 H25 rfl R3 ?_
    refine evx_F E131 D131_23 rfl rfl ?_
    refine evx_gfi (k := 9) E131 D131_24 F131_69 H25 rfl R3 ?_
    show evx _ _ _ _ _ _ (.inl (iz (M 25 9)) :: _) _ _ _
    refine evx_F E131 D131_27 rfl rfl ?_
    obtain ⟨k38, hs⟩ := ck hs
    refine evx_ias E131 D131_28 H32 (by decide) R3 k38 rx1 ?_
    intro h39 R40
    refine evx_F E131 D131_29 rfl rfl ?_
    refine evx_gfr E131 D131_30 F131_27 H25 rfl R40 ?_
    refine evx_F E131 D131_33 rfl rfl ?_
    refine evx_F E131 D131_34 rfl rfl ?_
    refine evx_F E131 D131_35 rfl rfl ?_
    refine evx_gfi (k := 9) E131 D131_36 F131_69 H25 rfl R40 ?_
    show evx _ _ _ _ _ _ (.inl (iz (M 25 9)) :: _) _ _ _
    refine evx_F E131 D131_39 rfl rfl ?_
    refine evx_F E131 D131_40 rfl rfl ?_
    refine evx_add E131 D131_41 ?_
    obtain ⟨k41, hs⟩ := ck hs
    refine evx_pfi (k := 9) E131 D131_42 F131_69 H25 rfl R40 k41 rfl ?_
    intro h42 R43
    refine evx_ias E131 D131_45 H31 (by decide) R43 k1 (R40.1 25 9) ?_
    intro h44 R45
    refine evx_F E131 D131_46 rfl rfl ?_
    refine evx_gfr E131 D131_47 F131_18 H25 rfl R45 ?_
    refine evx_F E131 D131_50 rfl rfl ?_
    refine evx_ial E131 D131_51 H28 (by decide) R45 k1 ?_
    show evx _ _ _ _ _ _ (.inl (iz (M 28 (Int.toNat x1))) :: _) _ _ _
    refine evx_F E131 D131_52 rfl rfl ?_
    by_cases cb46 : (M 28 (Int.toNat x1)) = (-1)
    · rw [if_pos cb46] at hs
      refine evx_F E131 D131_53 rfl (ifT (c2_eq_T (R45.1 28 (Int.toNat x1)) (by decide) cb46)) ?_
      refine evx_F E131 D131_75 rfl rfl ?_
      refine evx_gfr E131 D131_76 F131_15 H25 rfl R45 ?_
      refine evx_F E131 D131_79 rfl rfl ?_
      refine evx_ial E131 D131_80 H27 (by decide) R45 k1 ?_
      show evx _ _ _ _ _ _ (.inl (iz (M 27 (Int.toNat x1))) :: _) _ _ _
      refine evx_F E131 D131_81 rfl rfl ?_
      by_cases cb47 : (M 27 (Int.toNat x1)) = (-1)
      · rw [if_pos cb47] at hs
        refine evx_F E131 D131_82 rfl (ifT (c2_eq_T (R45.1 27 (Int.toNat x1)) (by decide) cb47)) ?_
        refine evx_F E131 D131_104 rfl rfl ?_
        cases hs
        exact evx_ret E131 D131_105 rfl (fun d => rfl) rfl (show rg _ from rx2) R45
      · rw [if_neg cb47] at hs
        refine evx_F E131 D131_82 rfl (ifF (c2_eq_F (R45.1 27 (Int.toNat x1)) (by decide) (by omega))) ?_
        refine evx_F E131 D131_85 rfl rfl ?_
        refine evx_gfr E131 D131_86 F131_33 H25 rfl R45 ?_
        refine evx_F E131 D131_89 rfl rfl ?_
        refine evx_inc E131 D131_90 (Nat.le_of_ble_eq_true rfl) rfl ?_
        refine evx_F E131 D131_93 rfl rfl ?_
        refine evx_F E131 D131_94 rfl rfl ?_
        refine evx_gfr E131 D131_95 F131_15 H25 rfl R45 ?_
        refine evx_F E131 D131_98 rfl rfl ?_
        refine evx_ial E131 D131_99 H27 (by decide) R45 k1 ?_
        show evx _ _ _ _ _ _ (.inl (iz (M 27 (Int.toNat x1))) :: _) _ _ _
        obtain ⟨⟨q49, M53⟩, e48, hs⟩ := Option.bind_eq_some_iff.mp hs
        dsimp only at hs
        refine evx_cv (D := 1) E131 D131_100 I131_44 rfl rfl H25 ⟨Nat.le_of_ble_eq_true rfl, Nat.le_of_ble_eq_true rfl⟩ ⟨rfl, Nat.le_of_ble_eq_true rfl⟩ rfl R45 (evx_up (Nat.le_of_ble_eq_true rfl) (c80 R45 (R45.1 27 (Int.toNat x1)) e48)) ?_
        intro h50 R51 w52
        have w52 : rg q49 := w52
        show evx _ _ _ _ _ _ (.inl (iz q49) :: _) _ _ _
        obtain ⟨k54, hs⟩ := ck hs
        refine evx_ias E131 D131_103 H33 (by decide) R51 k54 w52 ?_
        intro h55 R56
        refine evx_F E131 D131_104 rfl rfl ?_
        obtain ⟨k57, hs⟩ := ck hs
        cases hs
        exact evx_ret E131 D131_105 rfl (fun d => rfl) rfl (show rg _ from k57) R56
    · rw [if_neg cb46] at hs
      refine evx_F E131 D131_53 rfl (ifF (c2_eq_F (R45.1 28 (Int.toNat x1)) (by decide) (by omega))) ?_
      refine evx_F E131 D131_56 rfl rfl ?_
      refine evx_gfr E131 D131_57 F131_33 H25 rfl R45 ?_
      refine evx_F E131 D131_60 rfl rfl ?_
      refine evx_inc E131 D131_61 (Nat.le_of_ble_eq_true rfl) rfl ?_
      refine evx_F E131 D131_64 rfl rfl ?_
      refine evx_F E131 D131_65 rfl rfl ?_
      refine evx_gfr E131 D131_66 F131_18 H25 rfl R45 ?_
      refine evx_F E131 D131_69 rfl rfl ?_
      refine evx_ial E131 D131_70 H28 (by decide) R45 k1 ?_
      show evx _ _ _ _ _ _ (.inl (iz (M 28 (Int.toNat x1))) :: _) _ _ _
      obtain ⟨⟨q59, M63⟩, e58, hs⟩ := Option.bind_eq_some_iff.mp hs
      dsimp only at hs
      refine evx_cv (D := 1) E131 D131_71 I131_44 rfl rfl H25 ⟨Nat.le_of_ble_eq_true rfl, Nat.le_of_ble_eq_true rfl⟩ ⟨rfl, Nat.le_of_ble_eq_true rfl⟩ rfl R45 (evx_up (Nat.le_of_ble_eq_true rfl) (c80 R45 (R45.1 28 (Int.toNat x1)) e58)) ?_
      intro h60 R61 w62
      have w62 : rg q59 := w62
      show evx _ _ _ _ _ _ (.inl (iz q59) :: _) _ _ _
      obtain ⟨k64, hs⟩ := ck hs
      refine evx_ias E131 D131_74 H33 (by decide) R61 k64 w62 ?_
      intro h65 R66
      refine evx_F E131 D131_75 rfl rfl ?_
      refine evx_gfr E131 D131_76 F131_15 H25 rfl R66 ?_
      refine evx_F E131 D131_79 rfl rfl ?_
      refine evx_ial E131 D131_80 H27 (by decide) R66 k1 ?_
      show evx _ _ _ _ _ _ (.inl (iz (M63 27 (Int.toNat x1))) :: _) _ _ _
      refine evx_F E131 D131_81 rfl rfl ?_
      by_cases cb67 : (M63 27 (Int.toNat x1)) = (-1)
      · rw [if_pos cb67] at hs
        refine evx_F E131 D131_82 rfl (ifT (c2_eq_T (R66.1 27 (Int.toNat x1)) (by decide) cb67)) ?_
        refine evx_F E131 D131_104 rfl rfl ?_
        obtain ⟨k68, hs⟩ := ck hs
        cases hs
        exact evx_ret E131 D131_105 rfl (fun d => rfl) rfl (show rg _ from k68) R66
      · rw [if_neg cb67] at hs
        refine evx_F E131 D131_82 rfl (ifF (c2_eq_F (R66.1 27 (Int.toNat x1)) (by decide) (by omega))) ?_
        refine evx_F E131 D131_85 rfl rfl ?_
        refine evx_gfr E131 D131_86 F131_33 H25 rfl R66 ?_
        refine evx_F E131 D131_89 rfl rfl ?_
        refine evx_inc E131 D131_90 (Nat.le_of_ble_eq_true rfl) rfl ?_
        refine evx_F E131 D131_93 rfl rfl ?_
        refine evx_F E131 D131_94 rfl rfl ?_
        refine evx_gfr E131 D131_95 F131_15 H25 rfl R66 ?_
        refine evx_F E131 D131_98 rfl rfl ?_
        refine evx_ial E131 D131_99 H27 (by decide) R66 k1 ?_
        show evx _ _ _ _ _ _ (.inl (iz (M63 27 (Int.toNat x1))) :: _) _ _ _
        obtain ⟨⟨q70, M74⟩, e69, hs⟩ := Option.bind_eq_some_iff.mp hs
        dsimp only at hs
        refine evx_cv (D := 1) E131 D131_100 I131_44 rfl rfl H25 ⟨Nat.le_of_ble_eq_true rfl, Nat.le_of_ble_eq_true rfl⟩ ⟨rfl, Nat.le_of_ble_eq_true rfl⟩ rfl R66 (evx_up (Nat.le_of_ble_eq_true rfl) (c80 R66 (R66.1 27 (Int.toNat x1)) e69)) ?_
        intro h71 R72 w73
        have w73 : rg q70 := w73
        show evx _ _ _ _ _ _ (.inl (iz q70) :: _) _ _ _
        obtain ⟨k75, hs⟩ := ck hs
        refine evx_ias E131 D131_103 H33 (by decide) R72 k75 w73 ?_
        intro h76 R77
        refine evx_F E131 D131_104 rfl rfl ?_
        obtain ⟨k78, hs⟩ := ck hs
        cases hs
        exact evx_ret E131 D131_105 rfl (fun d => rfl) rfl (show rg _ from k78) R77
set_option maxRecDepth 20000 in
theorem E133 : pgMm 133 = some (⟨"DictionaryHouse$Graph", "variableCount", "()I"⟩, prog_7_method_16_code, 1, (some .int), []) := rfl
theorem D133_0 : pgDecT 133 0 = some (.aload_n 0, 1) := by decide +kernel
theorem D133_1 : pgDecT 133 1 = some (.getfield 69, 3) := by decide +kernel
theorem F133_69 : pgFf 133 69 = some (5, 9, 0) := by decide +kernel
theorem D133_4 : pgDecT 133 4 = some (.ireturn, 1) := by decide +kernel
/-! 133: DictionaryHouse$Graph.variableCount ()I -/
def f133 (M : Mm) : Option Int := some (M 25 9)
theorem c133 {L : Nat} {xs : Nat → Int32} {h : mvH} {M : Mm} {v : Int} (R : rp h M)  (hs : f133 M  = some v) : evx L xs 1 133 0 [(0, .inr (.inr (.inl (some 25))))] [] h (.inl (some (.inl v)), 0) M := by
  unfold f133 at hs
  refine evx_F E133 D133_0 rfl rfl ?_
  refine evx_gfi (k := 9) E133 D133_1 F133_69 H25 rfl R ?_
  cases hs
  exact evx_ret E133 D133_4 rfl (fun d => rfl) rfl (show rg _ from (R.1 25 9)) R
set_option maxRecDepth 20000 in
theorem E134 : pgMm 134 = some (⟨"DictionaryHouse$Graph", "variable", "(I)I"⟩, prog_7_method_17_code, 2, (some .int), []) := rfl
theorem D134_0 : pgDecT 134 0 = some (.aload_n 0, 1) := by decide +kernel
theorem D134_1 : pgDecT 134 1 = some (.getfield 30, 3) := by decide +kernel
theorem F134_30 : pgFf 134 30 = some (5, 6, 3) := by decide +kernel
theorem D134_4 : pgDecT 134 4 = some (.iload_n 1, 1) := by decide +kernel
theorem D134_5 : pgDecT 134 5 = some (.iaload, 1) := by decide +kernel
theorem D134_6 : pgDecT 134 6 = some (.ireturn, 1) := by decide +kernel
/-! 134: DictionaryHouse$Graph.variable (I)I -/
def f134 (M : Mm) (x1 : Int) : Option Int := if 0 ≤ x1 ∧ x1 < 2504 then (some (M 32 (Int.toNat x1))) else none
theorem c134 {L : Nat} {xs : Nat → Int32} {h : mvH} {M : Mm} {x1 : Int} {v : Int} (R : rp h M) (rx1 : rg x1) (hs : f134 M x1 = some v) : evx L xs 1 134 0 [(0, .inr (.inr (.inl (some 25)))), (1, .inl (iz x1))] [] h (.inl (some (.inl v)), 0) M := by
  unfold f134 at hs
  refine evx_F E134 D134_0 rfl rfl ?_
  refine evx_gfr E134 D134_1 F134_30 H25 rfl R ?_
  refine evx_F E134 D134_4 rfl rfl ?_
  obtain ⟨k1, hs⟩ := ck hs
  refine evx_ial E134 D134_5 H32 (by decide) R k1 ?_
  cases hs
  exact evx_ret E134 D134_6 rfl (fun d => rfl) rfl (show rg _ from (R.1 32 (Int.toNat x1))) R
set_option maxRecDepth 20000 in
theorem E135 : pgMm 135 = some (⟨"DictionaryHouse$Conditions", "remains", "(II)Z"⟩, prog_4_method_3_code, 5, (some .boolean), []) := rfl
theorem D135_0 : pgDecT 135 0 = some (.aload_n 0, 1) := by decide +kernel
theorem D135_1 : pgDecT 135 1 = some (.getfield 11, 3) := by decide +kernel
theorem F135_11 : pgFf 135 11 = some (2, 4, 3) := by decide +kernel
theorem D135_4 : pgDecT 135 4 = some (.iload_n 2, 1) := by decide +kernel
theorem D135_5 : pgDecT 135 5 = some (.iaload, 1) := by decide +kernel
theorem D135_6 : pgDecT 135 6 = some (.istore_n 3, 1) := by decide +kernel
theorem D135_7 : pgDecT 135 7 = some (.iload_n 3, 1) := by decide +kernel
theorem D135_8 : pgDecT 135 8 = some (.iload_n 1, 1) := by decide +kernel
theorem D135_9 : pgDecT 135 9 = some (.ishr, 1) := by decide +kernel
theorem D135_10 : pgDecT 135 10 = some (.iconst 1, 1) := by decide +kernel
theorem D135_11 : pgDecT 135 11 = some (.iand, 1) := by decide +kernel
theorem D135_12 : pgDecT 135 12 = some (.ifCond .ne 5, 3) := by decide +kernel
theorem D135_17 : pgDecT 135 17 = some (.iconst 0, 1) := by decide +kernel
theorem D135_18 : pgDecT 135 18 = some (.istore 4, 2) := by decide +kernel
theorem D135_20 : pgDecT 135 20 = some (.iload 4, 2) := by decide +kernel
theorem D135_15 : pgDecT 135 15 = some (.iconst 0, 1) := by decide +kernel
theorem D135_16 : pgDecT 135 16 = some (.ireturn, 1) := by decide +kernel
theorem D135_22 : pgDecT 135 22 = some (.bipush 6, 2) := by decide +kernel
theorem D135_24 : pgDecT 135 24 = some (.if_icmp .ge 40, 3) := by decide +kernel
theorem D135_64 : pgDecT 135 64 = some (.iconst 1, 1) := by decide +kernel
theorem D135_65 : pgDecT 135 65 = some (.ireturn, 1) := by decide +kernel
theorem D135_27 : pgDecT 135 27 = some (.iload 4, 2) := by decide +kernel
theorem D135_29 : pgDecT 135 29 = some (.iload_n 1, 1) := by decide +kernel
theorem D135_30 : pgDecT 135 30 = some (.if_icmp .eq 28, 3) := by decide +kernel
theorem D135_58 : pgDecT 135 58 = some (.iinc 4 1, 3) := by decide +kernel
theorem D135_61 : pgDecT 135 61 = some (.goto (-41), 3) := by decide +kernel
theorem D135_33 : pgDecT 135 33 = some (.iload_n 3, 1) := by decide +kernel
theorem D135_34 : pgDecT 135 34 = some (.iload 4, 2) := by decide +kernel
theorem D135_36 : pgDecT 135 36 = some (.ishr, 1) := by decide +kernel
theorem D135_37 : pgDecT 135 37 = some (.iconst 1, 1) := by decide +kernel
theorem D135_38 : pgDecT 135 38 = some (.iand, 1) := by decide +kernel
theorem D135_39 : pgDecT 135 39 = some (.iconst 1, 1) := by decide +kernel
theorem D135_40 : pgDecT 135 40 = some (.if_icmp .ne 18, 3) := by decide +kernel
theorem D135_43 : pgDecT 135 43 = some (.aload_n 0, 1) := by decide +kernel
theorem D135_44 : pgDecT 135 44 = some (.getfield 17, 3) := by decide +kernel
theorem F135_17 : pgFf 135 17 = some (2, 0, 3) := by decide +kernel
theorem D135_47 : pgDecT 135 47 = some (.iload 4, 2) := by decide +kernel
theorem D135_49 : pgDecT 135 49 = some (.iload_n 1, 1) := by decide +kernel
theorem D135_50 : pgDecT 135 50 = some (.invokevirtual 69, 3) := by decide +kernel
theorem I135_69 : pgIi 135 69 = some (60, 2, 1) := by decide +kernel
theorem D135_53 : pgDecT 135 53 = some (.ifCond .eq 5, 3) := by decide +kernel
theorem D135_56 : pgDecT 135 56 = some (.iconst 0, 1) := by decide +kernel
theorem D135_57 : pgDecT 135 57 = some (.ireturn, 1) := by decide +kernel
/-! 135: DictionaryHouse$Conditions.remains (II)Z -/
def l135 : Nat → Nat → Mm → Int → Int → Int → Int → Option Int
  | 0, _, _, _, _, _, _ => none
  | f + 1, 20, M, x1, x2, x3, x4 => if 6 ≤ x4 then (some 1) else (if x4 = x1 then (if rg (x4 + 1) then (l135 f 20 M x1 x2 x3 (x4 + 1)) else none) else (if ¬ (bAnd (bShr x3 x4) 1) = 1 then (if rg (x4 + 1) then (l135 f 20 M x1 x2 x3 (x4 + 1)) else none) else (f60 M x4 x1).bind (fun q9 => if q9 = 0 then (if rg (x4 + 1) then (l135 f 20 M x1 x2 x3 (x4 + 1)) else none) else (some 0))))
  | _, _, _, _, _, _, _ => none
theorem d135 {L : Nat} {xs : Nat → Int32} (f : Nat) : (∀ (M : Mm) (x1 x2 x3 x4 : Int) (h : mvH) (v : Int) , l135 f 20 M x1 x2 x3 x4 = some v → rp h M → rg x1 → rg x2 → rg x3 → rg x4 → evx L xs 2 135 20 [(0, .inr (.inr (.inl (some 45)))), (1, .inl (iz x1)), (2, .inl (iz x2)), (3, .inl (iz x3)), (4, .inl (iz x4))] [] h (.inl (some (.inl v)), 0) M) := by
  induction f with
  | zero => exact (fun M x1 x2 x3 x4 h v hs _ _ _ _ _ => by cases hs)
  | succ f ih =>
    intro M x1 x2 x3 x4 h v hs R rx1 rx2 rx3 rx4
    rw [l135] at hs
    refine evx_F E135 D135_20 rfl rfl ?_
    refine evx_k (k := 6) E135 D135_22 rfl (by decide) ?_
    by_cases cb3 : 6 ≤ x4
    · rw [if_pos cb3] at hs
      refine evx_F E135 D135_24 rfl (ifT (c2_ge_T rx4 (by decide) cb3)) ?_
      refine evx_F E135 D135_64 rfl rfl ?_
      cases hs
      exact evx_ret E135 D135_65 rfl (fun d => rfl) rfl (show rg _ from (by decide)) R
    · rw [if_neg cb3] at hs
      refine evx_F E135 D135_24 rfl (ifF (c2_ge_F rx4 (by decide) (by omega))) ?_
      refine evx_F E135 D135_27 rfl rfl ?_
      refine evx_F E135 D135_29 rfl rfl ?_
      by_cases cb4 : x4 = x1
      · rw [if_pos cb4] at hs
        refine evx_F E135 D135_30 rfl (ifT (c2_eq_T rx4 rx1 cb4)) ?_
        refine evx_inc E135 D135_58 (Nat.le_of_ble_eq_true rfl) rfl ?_
        refine evx_F E135 D135_61 rfl rfl ?_
        obtain ⟨k5, hs⟩ := ck hs
        show evx _ _ _ _ _ [(4, .inl (iz (x4 + 1))), (0, .inr (.inr (.inl (some 45)))), (1, .inl (iz x1)), (2, .inl (iz x2)), (3, .inl (iz x3))] _ _ _ _
        exact evx_lv (lvLe_mk (fm rfl (fm rfl (fm rfl (fm rfl (fm rfl fn))))) (fm rfl (fm rfl (fm rfl (fm rfl (fm rfl fn))))) (fm rfl (fm rfl (fm rfl (fm rfl (fm rfl fn)))))) (ih _ _ _ _ _ _ _ hs R rx1 rx2 rx3 k5)
      · rw [if_neg cb4] at hs
        refine evx_F E135 D135_30 rfl (ifF (c2_eq_F rx4 rx1 (by omega))) ?_
        refine evx_F E135 D135_33 rfl rfl ?_
        refine evx_F E135 D135_34 rfl rfl ?_
        refine evx_ishr E135 D135_36 ?_
        refine evx_F E135 D135_37 rfl rfl ?_
        refine evx_iand E135 D135_38 ?_
        refine evx_F E135 D135_39 rfl rfl ?_
        by_cases cb6 : ¬ (bAnd (bShr x3 x4) 1) = 1
        · rw [if_pos cb6] at hs
          refine evx_F E135 D135_40 rfl (ifT (c2_ne_T (iz_rg _) (by decide) cb6)) ?_
          refine evx_inc E135 D135_58 (Nat.le_of_ble_eq_true rfl) rfl ?_
          refine evx_F E135 D135_61 rfl rfl ?_
          obtain ⟨k7, hs⟩ := ck hs
          show evx _ _ _ _ _ [(4, .inl (iz (x4 + 1))), (0, .inr (.inr (.inl (some 45)))), (1, .inl (iz x1)), (2, .inl (iz x2)), (3, .inl (iz x3))] _ _ _ _
          exact evx_lv (lvLe_mk (fm rfl (fm rfl (fm rfl (fm rfl (fm rfl fn))))) (fm rfl (fm rfl (fm rfl (fm rfl (fm rfl fn))))) (fm rfl (fm rfl (fm rfl (fm rfl (fm rfl fn)))))) (ih _ _ _ _ _ _ _ hs R rx1 rx2 rx3 k7)
        · rw [if_neg cb6] at hs
          refine evx_F E135 D135_40 rfl (ifF (c2_ne_F (iz_rg _) (by decide) (by omega))) ?_
          refine evx_F E135 D135_43 rfl rfl ?_
          refine evx_gfr E135 D135_44 F135_17 H45 rfl R ?_
          refine evx_F E135 D135_47 rfl rfl ?_
          refine evx_F E135 D135_49 rfl rfl ?_
          obtain ⟨q9, e8, hs⟩ := Option.bind_eq_some_iff.mp hs
          refine evx_cv (D := 1) E135 D135_50 I135_69 rfl rfl H5 ⟨Nat.le_of_ble_eq_true rfl, Nat.le_of_ble_eq_true rfl⟩ ⟨rfl, Nat.le_of_ble_eq_true rfl⟩ rfl R (evx_up (Nat.le_of_ble_eq_true rfl) (c60 R rx4 rx1 e8)) ?_
          intro h10 R11 w12
          have w12 : rg q9 := w12
          show evx _ _ _ _ _ _ (.inl (iz q9) :: _) _ _ _
          by_cases cb13 : q9 = 0
          · rw [if_pos cb13] at hs
            refine evx_F E135 D135_53 rfl (ifT (c1_eq_T w12 cb13)) ?_
            refine evx_inc E135 D135_58 (Nat.le_of_ble_eq_true rfl) rfl ?_
            refine evx_F E135 D135_61 rfl rfl ?_
            obtain ⟨k14, hs⟩ := ck hs
            show evx _ _ _ _ _ [(4, .inl (iz (x4 + 1))), (0, .inr (.inr (.inl (some 45)))), (1, .inl (iz x1)), (2, .inl (iz x2)), (3, .inl (iz x3))] _ _ _ _
            exact evx_lv (lvLe_mk (fm rfl (fm rfl (fm rfl (fm rfl (fm rfl fn))))) (fm rfl (fm rfl (fm rfl (fm rfl (fm rfl fn))))) (fm rfl (fm rfl (fm rfl (fm rfl (fm rfl fn)))))) (ih _ _ _ _ _ _ _ hs R11 rx1 rx2 rx3 k14)
          · rw [if_neg cb13] at hs
            refine evx_F E135 D135_53 rfl (ifF (c1_eq_F w12 (by omega))) ?_
            refine evx_F E135 D135_56 rfl rfl ?_
            cases hs
            exact evx_ret E135 D135_57 rfl (fun d => rfl) rfl (show rg _ from (by decide)) R11
def f135 (M : Mm) (x1 : Int) (x2 : Int) : Option Int := if 0 ≤ x2 ∧ x2 < 2504 then (if ¬ (bAnd (bShr (M 46 (Int.toNat x2)) x1) 1) = 0 then (l135 FU 20 M x1 x2 (M 46 (Int.toNat x2)) 0) else (some 0)) else none
theorem c135 {L : Nat} {xs : Nat → Int32} {h : mvH} {M : Mm} {x1 x2 : Int} {v : Int} (R : rp h M) (rx1 : rg x1) (rx2 : rg x2) (hs : f135 M x1 x2 = some v) : evx L xs 2 135 0 [(0, .inr (.inr (.inl (some 45)))), (1, .inl (iz x1)), (2, .inl (iz x2))] [] h (.inl (some (.inl v)), 0) M := by
  unfold f135 at hs
  refine evx_F E135 D135_0 rfl rfl ?_
  refine evx_gfr E135 D135_1 F135_11 H45 rfl R ?_
  refine evx_F E135 D135_4 rfl rfl ?_
  obtain ⟨k1, hs⟩ := ck hs
  refine evx_ial E135 D135_5 H46 (by decide) R k1 ?_
  refine evx_F E135 D135_6 rfl rfl ?_
  refine evx_F E135 D135_7 rfl rfl ?_
  refine evx_F E135 D135_8 rfl rfl ?_
  refine evx_ishr E135 D135_9 ?_
  refine evx_F E135 D135_10 rfl rfl ?_
  refine evx_iand E135 D135_11 ?_
  by_cases cb2 : ¬ (bAnd (bShr (M 46 (Int.toNat x2)) x1) 1) = 0
  · rw [if_pos cb2] at hs
    refine evx_F E135 D135_12 rfl (ifT (c1_ne_T (iz_rg _) cb2)) ?_
    refine evx_F E135 D135_17 rfl rfl ?_
    refine evx_F E135 D135_18 rfl rfl ?_
    show evx _ _ _ _ _ [(4, .inl (iz 0)), (3, .inl (iz (M 46 (Int.toNat x2)))), (0, .inr (.inr (.inl (some 45)))), (1, .inl (iz x1)), (2, .inl (iz x2))] _ _ _ _
    exact evx_lv (lvLe_mk (fm rfl (fm rfl (fm rfl (fm rfl (fm rfl fn))))) (fm rfl (fm rfl (fm rfl (fm rfl (fm rfl fn))))) (fm rfl (fm rfl (fm rfl (fm rfl (fm rfl fn)))))) ((d135 FU) _ _ _ _ _ _ _ hs R rx1 rx2 (R.1 46 (Int.toNat x2)) (by decide))
  · rw [if_neg cb2] at hs
    refine evx_F E135 D135_12 rfl (ifF (c1_ne_F (iz_rg _) (by omega))) ?_
    refine evx_F E135 D135_15 rfl rfl ?_
    cases hs
    exact evx_ret E135 D135_16 rfl (fun d => rfl) rfl (show rg _ from (by decide)) R
set_option maxRecDepth 20000 in
theorem E137 : pgMm 137 = some (⟨"DictionaryHouse$TypeTable", "count", "()I"⟩, prog_11_method_6_code, 1, (some .int), []) := rfl
theorem D137_0 : pgDecT 137 0 = some (.aload_n 0, 1) := by decide +kernel
theorem D137_1 : pgDecT 137 1 = some (.getfield 21, 3) := by decide +kernel
theorem F137_21 : pgFf 137 21 = some (9, 3, 0) := by decide +kernel
theorem D137_4 : pgDecT 137 4 = some (.ireturn, 1) := by decide +kernel
/-! 137: DictionaryHouse$TypeTable.count ()I -/
def f137 (M : Mm) : Option Int := some (M 1 3)
theorem c137 {L : Nat} {xs : Nat → Int32} {h : mvH} {M : Mm} {v : Int} (R : rp h M)  (hs : f137 M  = some v) : evx L xs 1 137 0 [(0, .inr (.inr (.inl (some 1))))] [] h (.inl (some (.inl v)), 0) M := by
  unfold f137 at hs
  refine evx_F E137 D137_0 rfl rfl ?_
  refine evx_gfi (k := 3) E137 D137_1 F137_21 H1 rfl R ?_
  cases hs
  exact evx_ret E137 D137_4 rfl (fun d => rfl) rfl (show rg _ from (R.1 1 3)) R
set_option maxRecDepth 20000 in
theorem E139 : pgMm 139 = some (⟨"DictionaryHouse$Graph", "right", "(I)I"⟩, prog_7_method_9_code, 2, (some .int), []) := rfl
theorem D139_0 : pgDecT 139 0 = some (.aload_n 0, 1) := by decide +kernel
theorem D139_1 : pgDecT 139 1 = some (.aload_n 0, 1) := by decide +kernel
theorem D139_2 : pgDecT 139 2 = some (.getfield 18, 3) := by decide +kernel
theorem F139_18 : pgFf 139 18 = some (5, 2, 3) := by decide +kernel
theorem D139_5 : pgDecT 139 5 = some (.iload_n 1, 1) := by decide +kernel
theorem D139_6 : pgDecT 139 6 = some (.iaload, 1) := by decide +kernel
theorem D139_7 : pgDecT 139 7 = some (.invokevirtual 44, 3) := by decide +kernel
theorem I139_44 : pgIi 139 44 = some (80, 1, 5) := by decide +kernel
theorem D139_10 : pgDecT 139 10 = some (.ireturn, 1) := by decide +kernel
/-! 139: DictionaryHouse$Graph.right (I)I -/
def f139 (M : Mm) (x1 : Int) : Option (Int × Mm) := if 0 ≤ x1 ∧ x1 < 2504 then (f80 M (M 28 (Int.toNat x1))).bind (fun zq3 => some (zq3.1, zq3.2)) else none
theorem c139 {L : Nat} {xs : Nat → Int32} {h : mvH} {M : Mm} {x1 : Int} {v : Int} {M' : Mm} (R : rp h M) (rx1 : rg x1) (hs : f139 M x1 = some (v, M')) : evx L xs 2 139 0 [(0, .inr (.inr (.inl (some 25)))), (1, .inl (iz x1))] [] h (.inl (some (.inl v)), 0) M' := by
  unfold f139 at hs
  refine evx_F E139 D139_0 rfl rfl ?_
  refine evx_F E139 D139_1 rfl rfl ?_
  refine evx_gfr E139 D139_2 F139_18 H25 rfl R ?_
  refine evx_F E139 D139_5 rfl rfl ?_
  obtain ⟨k1, hs⟩ := ck hs
  refine evx_ial E139 D139_6 H28 (by decide) R k1 ?_
  obtain ⟨⟨q3, M7⟩, e2, hs⟩ := Option.bind_eq_some_iff.mp hs
  dsimp only at hs
  refine evx_cv (D := 1) E139 D139_7 I139_44 rfl rfl H25 ⟨Nat.le_of_ble_eq_true rfl, Nat.le_of_ble_eq_true rfl⟩ ⟨rfl, Nat.le_of_ble_eq_true rfl⟩ rfl R (evx_up (Nat.le_of_ble_eq_true rfl) (c80 R (R.1 28 (Int.toNat x1)) e2)) ?_
  intro h4 R5 w6
  have w6 : rg q3 := w6
  show evx _ _ _ _ _ _ (.inl (iz q3) :: _) _ _ _
  cases hs
  exact evx_ret E139 D139_10 rfl (fun d => rfl) rfl (show rg _ from w6) R5
set_option maxRecDepth 20000 in
theorem E140 : pgMm 140 = some (⟨"DictionaryHouse$TypeTable", "cutTo", "(I)V"⟩, prog_11_method_10_code, 2, none, []) := rfl
theorem D140_0 : pgDecT 140 0 = some (.aload_n 0, 1) := by decide +kernel
theorem D140_1 : pgDecT 140 1 = some (.iload_n 1, 1) := by decide +kernel
theorem D140_2 : pgDecT 140 2 = some (.putfield 21, 3) := by decide +kernel
theorem F140_21 : pgFf 140 21 = some (9, 3, 0) := by decide +kernel
theorem D140_5 : pgDecT 140 5 = some (.return_, 1) := by decide +kernel
/-! 140: DictionaryHouse$TypeTable.cutTo (I)V -/
def f140 (M : Mm) (x1 : Int) : Option (Int × Mm) := some (0, (up M 1 3 x1))
theorem c140 {L : Nat} {xs : Nat → Int32} {h : mvH} {M : Mm} {x1 : Int} {v : Int} {M' : Mm} (R : rp h M) (rx1 : rg x1) (hs : f140 M x1 = some (v, M')) : evx L xs 1 140 0 [(0, .inr (.inr (.inl (some 1)))), (1, .inl (iz x1))] [] h (.inl none, 0) M' := by
  unfold f140 at hs
  refine evx_F E140 D140_0 rfl rfl ?_
  refine evx_F E140 D140_1 rfl rfl ?_
  refine evx_pfi (k := 3) E140 D140_2 F140_21 H1 rfl R rx1 rfl ?_
  intro h1 R2
  cases hs
  exact evx_ret E140 D140_5 rfl (fun d => rfl) rfl trivial R2
set_option maxRecDepth 20000 in
theorem E142 : pgMm 142 = some (⟨"DictionaryHouse$Plans", "ofDefinition", "(I)I"⟩, prog_10_method_2_code, 1, (some .int), []) := rfl
theorem D142_0 : pgDecT 142 0 = some (.iload_n 0, 1) := by decide +kernel
theorem D142_1 : pgDecT 142 1 = some (.bipush 60, 2) := by decide +kernel
theorem D142_3 : pgDecT 142 3 = some (.imul, 1) := by decide +kernel
theorem D142_4 : pgDecT 142 4 = some (.ireturn, 1) := by decide +kernel
/-! 142: DictionaryHouse$Plans.ofDefinition (I)I -/
def f142 (M : Mm) (x0 : Int) : Option Int := if rg (x0 * 60) then (some (x0 * 60)) else none
theorem c142 {L : Nat} {xs : Nat → Int32} {h : mvH} {M : Mm} {x0 : Int} {v : Int} (R : rp h M) (rx0 : rg x0) (hs : f142 M x0 = some v) : evx L xs 1 142 0 [(0, .inl (iz x0))] [] h (.inl (some (.inl v)), 0) M := by
  unfold f142 at hs
  refine evx_F E142 D142_0 rfl rfl ?_
  refine evx_k (k := 60) E142 D142_1 rfl (by decide) ?_
  refine evx_mul E142 D142_3 ?_
  obtain ⟨k1, hs⟩ := ck hs
  cases hs
  exact evx_ret E142 D142_4 rfl (fun d => rfl) rfl (show rg _ from k1) R
set_option maxRecDepth 20000 in
theorem E144 : pgMm 144 = some (⟨"DictionaryHouse", "scheme", "(II)I"⟩, prog_1_method_15_code, 3, (some .int), []) := rfl
theorem D144_0 : pgDecT 144 0 = some (.aload_n 0, 1) := by decide +kernel
theorem D144_1 : pgDecT 144 1 = some (.getfield 33, 3) := by decide +kernel
theorem F144_33 : pgFf 144 33 = some (11, 3, 3) := by decide +kernel
theorem D144_4 : pgDecT 144 4 = some (.iload_n 1, 1) := by decide +kernel
theorem D144_5 : pgDecT 144 5 = some (.invokevirtual 115, 3) := by decide +kernel
theorem I144_115 : pgIi 144 115 = some (56, 1, 3) := by decide +kernel
theorem D144_8 : pgDecT 144 8 = some (.invokestatic 67, 3) := by decide +kernel
theorem I144_67 : pgIi 144 67 = some (18, 1, 100) := by decide +kernel
theorem D144_11 : pgDecT 144 11 = some (.iload_n 2, 1) := by decide +kernel
theorem D144_12 : pgDecT 144 12 = some (.ifCond .lt 21, 3) := by decide +kernel
theorem D144_33 : pgDecT 144 33 = some (.iconst 0, 1) := by decide +kernel
theorem D144_34 : pgDecT 144 34 = some (.invokestatic 67, 3) := by decide +kernel
theorem D144_15 : pgDecT 144 15 = some (.iload_n 2, 1) := by decide +kernel
theorem D144_16 : pgDecT 144 16 = some (.iconst 2, 1) := by decide +kernel
theorem D144_17 : pgDecT 144 17 = some (.isub, 1) := by decide +kernel
theorem D144_18 : pgDecT 144 18 = some (.aload_n 0, 1) := by decide +kernel
theorem D144_19 : pgDecT 144 19 = some (.getfield 33, 3) := by decide +kernel
theorem D144_22 : pgDecT 144 22 = some (.iload_n 1, 1) := by decide +kernel
theorem D144_23 : pgDecT 144 23 = some (.invokevirtual 142, 3) := by decide +kernel
theorem I144_142 : pgIi 144 142 = some (115, 1, 3) := by decide +kernel
theorem D144_26 : pgDecT 144 26 = some (.if_icmp .ge 7, 3) := by decide +kernel
theorem D144_29 : pgDecT 144 29 = some (.iconst 1, 1) := by decide +kernel
theorem D144_30 : pgDecT 144 30 = some (.goto 4, 3) := by decide +kernel
theorem D144_37 : pgDecT 144 37 = some (.iload_n 2, 1) := by decide +kernel
theorem D144_38 : pgDecT 144 38 = some (.ifCond .ne 12, 3) := by decide +kernel
theorem D144_50 : pgDecT 144 50 = some (.iload_n 2, 1) := by decide +kernel
theorem D144_51 : pgDecT 144 51 = some (.iconst 1, 1) := by decide +kernel
theorem D144_52 : pgDecT 144 52 = some (.if_icmp .ne 14, 3) := by decide +kernel
theorem D144_66 : pgDecT 144 66 = some (.aload_n 0, 1) := by decide +kernel
theorem D144_67 : pgDecT 144 67 = some (.getfield 33, 3) := by decide +kernel
theorem D144_70 : pgDecT 144 70 = some (.iload_n 1, 1) := by decide +kernel
theorem D144_71 : pgDecT 144 71 = some (.iload_n 2, 1) := by decide +kernel
theorem D144_72 : pgDecT 144 72 = some (.iconst 2, 1) := by decide +kernel
theorem D144_73 : pgDecT 144 73 = some (.isub, 1) := by decide +kernel
theorem D144_74 : pgDecT 144 74 = some (.invokevirtual 148, 3) := by decide +kernel
theorem I144_148 : pgIi 144 148 = some (117, 2, 3) := by decide +kernel
theorem D144_77 : pgDecT 144 77 = some (.ireturn, 1) := by decide +kernel
theorem D144_55 : pgDecT 144 55 = some (.aload_n 0, 1) := by decide +kernel
theorem D144_56 : pgDecT 144 56 = some (.getfield 33, 3) := by decide +kernel
theorem D144_59 : pgDecT 144 59 = some (.iload_n 1, 1) := by decide +kernel
theorem D144_60 : pgDecT 144 60 = some (.invokevirtual 142, 3) := by decide +kernel
theorem D144_63 : pgDecT 144 63 = some (.goto 14, 3) := by decide +kernel
theorem D144_41 : pgDecT 144 41 = some (.aload_n 0, 1) := by decide +kernel
theorem D144_42 : pgDecT 144 42 = some (.getfield 33, 3) := by decide +kernel
theorem D144_45 : pgDecT 144 45 = some (.iload_n 1, 1) := by decide +kernel
theorem D144_46 : pgDecT 144 46 = some (.invokevirtual 145, 3) := by decide +kernel
theorem I144_145 : pgIi 144 145 = some (94, 1, 3) := by decide +kernel
theorem D144_49 : pgDecT 144 49 = some (.ireturn, 1) := by decide +kernel
/-! 144: DictionaryHouse.scheme (II)I -/
def f144 (M : Mm) (x1 : Int) (x2 : Int) : Option (Int × Int × Mm) := (f56 M x1).bind (fun q2 => if q2 = 0 then some (1, 0, M) else (if x2 < 0 then (some (1, 0, M)) else (f115 M x1).bind (fun q10 => if rg (x2 - 2) then (if q10 ≤ (x2 - 2) then (some (1, 0, M)) else (if ¬ x2 = 0 then (if ¬ x2 = 1 then (f117 M x1 (x2 - 2)).bind (fun q21 => some (0, q21, M)) else (f115 M x1).bind (fun q26 => some (0, q26, M))) else (f94 M x1).bind (fun q31 => some (0, q31, M)))) else none)))
theorem c144 {L : Nat} {xs : Nat → Int32} {h : mvH} {M : Mm} {x1 x2 : Int} {k v : Int} {M' : Mm} (R : rp h M) (rx1 : rg x1) (rx2 : rg x2) (hs : f144 M x1 x2 = some (k, v, M')) : evx L xs 9 144 0 [(0, .inr (.inr (.inl (some 0)))), (1, .inl (iz x1)), (2, .inl (iz x2))] [] h (ot k v) M' := by
  unfold f144 at hs
  refine evx_F E144 D144_0 rfl rfl ?_
  refine evx_gfr E144 D144_1 F144_33 H0 rfl R ?_
  refine evx_F E144 D144_4 rfl rfl ?_
  obtain ⟨q2, e1, hs⟩ := Option.bind_eq_some_iff.mp hs
  refine evx_cv (D := 8) E144 D144_5 I144_115 rfl rfl H17 ⟨Nat.le_of_ble_eq_true rfl, Nat.le_of_ble_eq_true rfl⟩ ⟨rfl, Nat.le_of_ble_eq_true rfl⟩ rfl R (evx_up (Nat.le_of_ble_eq_true rfl) (c56 R rx1 e1)) ?_
  intro h3 R4 w5
  have w5 : rg q2 := w5
  show evx _ _ _ _ _ _ (.inl (iz q2) :: _) _ _ _
  by_cases cb6 : q2 = 0
  · rw [if_pos cb6] at hs
    cases hs
    exact evx_rqF (b := true) E144 D144_8 I144_67 (Nat.le_of_ble_eq_true rfl) rfl (Nat.le_of_ble_eq_true rfl) cb6 rfl rfl R4
  · rw [if_neg cb6] at hs
    refine evx_rqT (b := true) E144 D144_8 I144_67 (Nat.le_of_ble_eq_true rfl) rfl (Nat.le_of_ble_eq_true rfl) w5 cb6 ?_
    refine evx_F E144 D144_11 rfl rfl ?_
    by_cases cb7 : x2 < 0
    · rw [if_pos cb7] at hs
      refine evx_F E144 D144_12 rfl (ifT (c1_lt_T rx2 cb7)) ?_
      refine evx_F E144 D144_33 rfl rfl ?_
      cases hs
      exact evx_rqF (b := true) E144 D144_34 I144_67 (Nat.le_of_ble_eq_true rfl) rfl (Nat.le_of_ble_eq_true rfl) rfl rfl rfl R4
    · rw [if_neg cb7] at hs
      refine evx_F E144 D144_12 rfl (ifF (c1_lt_F rx2 (by omega))) ?_
      refine evx_F E144 D144_15 rfl rfl ?_
      refine evx_F E144 D144_16 rfl rfl ?_
      refine evx_sub E144 D144_17 ?_
      refine evx_F E144 D144_18 rfl rfl ?_
      refine evx_gfr E144 D144_19 F144_33 H0 rfl R4 ?_
      refine evx_F E144 D144_22 rfl rfl ?_
      obtain ⟨q10, e9, hs⟩ := Option.bind_eq_some_iff.mp hs
      refine evx_cv (D := 8) E144 D144_23 I144_142 rfl rfl H17 ⟨Nat.le_of_ble_eq_true rfl, Nat.le_of_ble_eq_true rfl⟩ ⟨rfl, Nat.le_of_ble_eq_true rfl⟩ rfl R4 (evx_up (Nat.le_of_ble_eq_true rfl) (c115 R4 rx1 e9)) ?_
      intro h11 R12 w13
      have w13 : rg q10 := w13
      show evx _ _ _ _ _ _ (.inl (iz q10) :: _) _ _ _
      obtain ⟨k14, hs⟩ := ck hs
      by_cases cb15 : q10 ≤ (x2 - 2)
      · rw [if_pos cb15] at hs
        refine evx_F E144 D144_26 rfl (ifT (c2_ge_T k14 w13 cb15)) ?_
        refine evx_F E144 D144_33 rfl rfl ?_
        cases hs
        exact evx_rqF (b := true) E144 D144_34 I144_67 (Nat.le_of_ble_eq_true rfl) rfl (Nat.le_of_ble_eq_true rfl) rfl rfl rfl R12
      · rw [if_neg cb15] at hs
        refine evx_F E144 D144_26 rfl (ifF (c2_ge_F k14 w13 (by omega))) ?_
        refine evx_F E144 D144_29 rfl rfl ?_
        refine evx_F E144 D144_30 rfl rfl ?_
        refine evx_rqT (b := true) E144 D144_34 I144_67 (Nat.le_of_ble_eq_true rfl) rfl (Nat.le_of_ble_eq_true rfl) (by decide) (by decide) ?_
        refine evx_F E144 D144_37 rfl rfl ?_
        by_cases cb18 : ¬ x2 = 0
        · rw [if_pos cb18] at hs
          refine evx_F E144 D144_38 rfl (ifT (c1_ne_T rx2 cb18)) ?_
          refine evx_F E144 D144_50 rfl rfl ?_
          refine evx_F E144 D144_51 rfl rfl ?_
          by_cases cb19 : ¬ x2 = 1
          · rw [if_pos cb19] at hs
            refine evx_F E144 D144_52 rfl (ifT (c2_ne_T rx2 (by decide) cb19)) ?_
            refine evx_F E144 D144_66 rfl rfl ?_
            refine evx_gfr E144 D144_67 F144_33 H0 rfl R12 ?_
            refine evx_F E144 D144_70 rfl rfl ?_
            refine evx_F E144 D144_71 rfl rfl ?_
            refine evx_F E144 D144_72 rfl rfl ?_
            refine evx_sub E144 D144_73 ?_
            obtain ⟨q21, e20, hs⟩ := Option.bind_eq_some_iff.mp hs
            refine evx_cv (D := 8) E144 D144_74 I144_148 rfl rfl H17 ⟨Nat.le_of_ble_eq_true rfl, Nat.le_of_ble_eq_true rfl⟩ ⟨rfl, Nat.le_of_ble_eq_true rfl⟩ rfl R12 (evx_up (Nat.le_of_ble_eq_true rfl) (c117 R12 rx1 k14 e20)) ?_
            intro h22 R23 w24
            have w24 : rg q21 := w24
            show evx _ _ _ _ _ _ (.inl (iz q21) :: _) _ _ _
            cases hs
            exact evx_ret E144 D144_77 rfl (fun d => rfl) rfl (show rg _ from w24) R23
          · rw [if_neg cb19] at hs
            refine evx_F E144 D144_52 rfl (ifF (c2_ne_F rx2 (by decide) (by omega))) ?_
            refine evx_F E144 D144_55 rfl rfl ?_
            refine evx_gfr E144 D144_56 F144_33 H0 rfl R12 ?_
            refine evx_F E144 D144_59 rfl rfl ?_
            obtain ⟨q26, e25, hs⟩ := Option.bind_eq_some_iff.mp hs
            refine evx_cv (D := 8) E144 D144_60 I144_142 rfl rfl H17 ⟨Nat.le_of_ble_eq_true rfl, Nat.le_of_ble_eq_true rfl⟩ ⟨rfl, Nat.le_of_ble_eq_true rfl⟩ rfl R12 (evx_up (Nat.le_of_ble_eq_true rfl) (c115 R12 rx1 e25)) ?_
            intro h27 R28 w29
            have w29 : rg q26 := w29
            show evx _ _ _ _ _ _ (.inl (iz q26) :: _) _ _ _
            refine evx_F E144 D144_63 rfl rfl ?_
            cases hs
            exact evx_ret E144 D144_77 rfl (fun d => rfl) rfl (show rg _ from w29) R28
        · rw [if_neg cb18] at hs
          refine evx_F E144 D144_38 rfl (ifF (c1_ne_F rx2 (by omega))) ?_
          refine evx_F E144 D144_41 rfl rfl ?_
          refine evx_gfr E144 D144_42 F144_33 H0 rfl R12 ?_
          refine evx_F E144 D144_45 rfl rfl ?_
          obtain ⟨q31, e30, hs⟩ := Option.bind_eq_some_iff.mp hs
          refine evx_cv (D := 8) E144 D144_46 I144_145 rfl rfl H17 ⟨Nat.le_of_ble_eq_true rfl, Nat.le_of_ble_eq_true rfl⟩ ⟨rfl, Nat.le_of_ble_eq_true rfl⟩ rfl R12 (evx_up (Nat.le_of_ble_eq_true rfl) (c94 R12 rx1 e30)) ?_
          intro h32 R33 w34
          have w34 : rg q31 := w34
          show evx _ _ _ _ _ _ (.inl (iz q31) :: _) _ _ _
          cases hs
          exact evx_ret E144 D144_49 rfl (fun d => rfl) rfl (show rg _ from w34) R33
set_option maxRecDepth 20000 in
theorem E147 : pgMm 147 = some (⟨"DictionaryHouse", "isMember", "(II)Z"⟩, prog_1_method_23_code, 6, (some .boolean), []) := rfl
theorem D147_0 : pgDecT 147 0 = some (.iload_n 1, 1) := by decide +kernel
theorem D147_1 : pgDecT 147 1 = some (.istore_n 3, 1) := by decide +kernel
theorem D147_2 : pgDecT 147 2 = some (.iload_n 2, 1) := by decide +kernel
theorem D147_3 : pgDecT 147 3 = some (.istore 4, 2) := by decide +kernel
theorem D147_5 : pgDecT 147 5 = some (.iconst 0, 1) := by decide +kernel
theorem D147_6 : pgDecT 147 6 = some (.istore 5, 2) := by decide +kernel
theorem D147_8 : pgDecT 147 8 = some (.iload 5, 2) := by decide +kernel
theorem D147_10 : pgDecT 147 10 = some (.bipush 40, 2) := by decide +kernel
theorem D147_12 : pgDecT 147 12 = some (.if_icmp .ge 56, 3) := by decide +kernel
theorem D147_68 : pgDecT 147 68 = some (.aload_n 0, 1) := by decide +kernel
theorem D147_69 : pgDecT 147 69 = some (.getfield 12, 3) := by decide +kernel
theorem F147_12 : pgFf 147 12 = some (11, 0, 3) := by decide +kernel
theorem D147_72 : pgDecT 147 72 = some (.iload 4, 2) := by decide +kernel
theorem D147_74 : pgDecT 147 74 = some (.invokevirtual 178, 3) := by decide +kernel
theorem I147_178 : pgIi 147 178 = some (92, 1, 9) := by decide +kernel
theorem D147_77 : pgDecT 147 77 = some (.ifCond .eq 13, 3) := by decide +kernel
theorem D147_90 : pgDecT 147 90 = some (.iload 4, 2) := by decide +kernel
theorem D147_92 : pgDecT 147 92 = some (.ifCond .eq 9, 3) := by decide +kernel
theorem D147_101 : pgDecT 147 101 = some (.aload_n 0, 1) := by decide +kernel
theorem D147_102 : pgDecT 147 102 = some (.getfield 19, 3) := by decide +kernel
theorem F147_19 : pgFf 147 19 = some (11, 1, 3) := by decide +kernel
theorem D147_105 : pgDecT 147 105 = some (.iload_n 3, 1) := by decide +kernel
theorem D147_106 : pgDecT 147 106 = some (.iload 4, 2) := by decide +kernel
theorem D147_108 : pgDecT 147 108 = some (.invokevirtual 116, 3) := by decide +kernel
theorem I147_116 : pgIi 147 116 = some (34, 2, 1) := by decide +kernel
theorem D147_111 : pgDecT 147 111 = some (.ifCond .eq 7, 3) := by decide +kernel
theorem D147_118 : pgDecT 147 118 = some (.iconst 0, 1) := by decide +kernel
theorem D147_119 : pgDecT 147 119 = some (.ireturn, 1) := by decide +kernel
theorem D147_114 : pgDecT 147 114 = some (.iconst 1, 1) := by decide +kernel
theorem D147_115 : pgDecT 147 115 = some (.goto 4, 3) := by decide +kernel
theorem D147_95 : pgDecT 147 95 = some (.iload 4, 2) := by decide +kernel
theorem D147_97 : pgDecT 147 97 = some (.iconst 1, 1) := by decide +kernel
theorem D147_98 : pgDecT 147 98 = some (.if_icmp .ne 20, 3) := by decide +kernel
theorem D147_80 : pgDecT 147 80 = some (.aload_n 0, 1) := by decide +kernel
theorem D147_81 : pgDecT 147 81 = some (.getfield 19, 3) := by decide +kernel
theorem D147_84 : pgDecT 147 84 = some (.iload_n 3, 1) := by decide +kernel
theorem D147_85 : pgDecT 147 85 = some (.iconst 2, 1) := by decide +kernel
theorem D147_86 : pgDecT 147 86 = some (.invokevirtual 116, 3) := by decide +kernel
theorem D147_89 : pgDecT 147 89 = some (.ireturn, 1) := by decide +kernel
theorem D147_15 : pgDecT 147 15 = some (.aload_n 0, 1) := by decide +kernel
theorem D147_16 : pgDecT 147 16 = some (.getfield 12, 3) := by decide +kernel
theorem D147_19 : pgDecT 147 19 = some (.iload 4, 2) := by decide +kernel
theorem D147_21 : pgDecT 147 21 = some (.invokevirtual 178, 3) := by decide +kernel
theorem D147_24 : pgDecT 147 24 = some (.ifCond .eq 44, 3) := by decide +kernel
theorem D147_27 : pgDecT 147 27 = some (.aload_n 0, 1) := by decide +kernel
theorem D147_28 : pgDecT 147 28 = some (.getfield 19, 3) := by decide +kernel
theorem D147_31 : pgDecT 147 31 = some (.iload_n 3, 1) := by decide +kernel
theorem D147_32 : pgDecT 147 32 = some (.invokevirtual 181, 3) := by decide +kernel
theorem I147_181 : pgIi 147 181 = some (104, 1, 1) := by decide +kernel
theorem D147_35 : pgDecT 147 35 = some (.iconst (-1), 1) := by decide +kernel
theorem D147_36 : pgDecT 147 36 = some (.if_icmp .ne 6, 3) := by decide +kernel
theorem D147_42 : pgDecT 147 42 = some (.aload_n 0, 1) := by decide +kernel
theorem D147_43 : pgDecT 147 43 = some (.getfield 19, 3) := by decide +kernel
theorem D147_46 : pgDecT 147 46 = some (.iload_n 3, 1) := by decide +kernel
theorem D147_47 : pgDecT 147 47 = some (.invokevirtual 181, 3) := by decide +kernel
theorem D147_50 : pgDecT 147 50 = some (.istore_n 3, 1) := by decide +kernel
theorem D147_51 : pgDecT 147 51 = some (.aload_n 0, 1) := by decide +kernel
theorem D147_52 : pgDecT 147 52 = some (.getfield 12, 3) := by decide +kernel
theorem D147_55 : pgDecT 147 55 = some (.iload 4, 2) := by decide +kernel
theorem D147_57 : pgDecT 147 57 = some (.invokevirtual 184, 3) := by decide +kernel
theorem I147_184 : pgIi 147 184 = some (91, 1, 9) := by decide +kernel
theorem D147_60 : pgDecT 147 60 = some (.istore 4, 2) := by decide +kernel
theorem D147_62 : pgDecT 147 62 = some (.iinc 5 1, 3) := by decide +kernel
theorem D147_65 : pgDecT 147 65 = some (.goto (-57), 3) := by decide +kernel
theorem D147_39 : pgDecT 147 39 = some (.goto 29, 3) := by decide +kernel
/-! 147: DictionaryHouse.isMember (II)Z -/
def l147 : Nat → Nat → Mm → Int → Int → Int → Int → Int → Option Int
  | 0, _, _, _, _, _, _, _ => none
  | f + 1, 8, M, x1, x2, x3, x4, x5 => if 40 ≤ x5 then (f92 M x4).bind (fun q3 => if q3 = 0 then (if x4 = 0 then (f34 M x3 x4).bind (fun q10 => if q10 = 0 then (some 0) else (some 1)) else (if ¬ x4 = 1 then (some 0) else (f34 M x3 x4).bind (fun q17 => if q17 = 0 then (some 0) else (some 1)))) else (f34 M x3 2).bind (fun q23 => if q23 = 0 ∨ q23 = 1 then (some q23) else none)) else (f92 M x4).bind (fun q29 => if q29 = 0 then (f92 M x4).bind (fun q35 => if q35 = 0 then (if x4 = 0 then (f34 M x3 x4).bind (fun q42 => if q42 = 0 then (some 0) else (some 1)) else (if ¬ x4 = 1 then (some 0) else (f34 M x3 x4).bind (fun q49 => if q49 = 0 then (some 0) else (some 1)))) else (f34 M x3 2).bind (fun q55 => if q55 = 0 ∨ q55 = 1 then (some q55) else none)) else (f104 M x3).bind (fun q61 => if ¬ q61 = (-1) then (f104 M x3).bind (fun q67 => (f91 M x4).bind (fun q72 => if rg (x5 + 1) then (l147 f 8 M x1 x2 q67 q72 (x5 + 1)) else none)) else (f92 M x4).bind (fun q78 => if q78 = 0 then (if x4 = 0 then (f34 M x3 x4).bind (fun q85 => if q85 = 0 then (some 0) else (some 1)) else (if ¬ x4 = 1 then (some 0) else (f34 M x3 x4).bind (fun q92 => if q92 = 0 then (some 0) else (some 1)))) else (f34 M x3 2).bind (fun q98 => if q98 = 0 ∨ q98 = 1 then (some q98) else none))))
  | _, _, _, _, _, _, _, _ => none
theorem d147 {L : Nat} {xs : Nat → Int32} (f : Nat) : (∀ (M : Mm) (x1 x2 x3 x4 x5 : Int) (h : mvH) (v : Int) , l147 f 8 M x1 x2 x3 x4 x5 = some v → rp h M → rg x1 → rg x2 → rg x3 → rg x4 → rg x5 → evx L xs 2 147 8 [(0, .inr (.inr (.inl (some 0)))), (1, .inl (iz x1)), (2, .inl (iz x2)), (3, .inl (iz x3)), (4, .inl (iz x4)), (5, .inl (iz x5))] [] h (.inl (some (.inl v)), 0) M) := by
  induction f with
  | zero => exact (fun M x1 x2 x3 x4 x5 h v hs _ _ _ _ _ _ => by cases hs)
  | succ f ih =>
    intro M x1 x2 x3 x4 x5 h v hs R rx1 rx2 rx3 rx4 rx5
    rw [l147] at hs
    refine evx_F E147 D147_8 rfl rfl ?_
    refine evx_k (k := 40) E147 D147_10 rfl (by decide) ?_
    by_cases cb1 : 40 ≤ x5
    · rw [if_pos cb1] at hs
      refine evx_F E147 D147_12 rfl (ifT (c2_ge_T rx5 (by decide) cb1)) ?_
      refine evx_F E147 D147_68 rfl rfl ?_
      refine evx_gfr E147 D147_69 F147_12 H0 rfl R ?_
      refine evx_F E147 D147_72 rfl rfl ?_
      obtain ⟨q3, e2, hs⟩ := Option.bind_eq_some_iff.mp hs
      refine evx_cv (D := 1) E147 D147_74 I147_178 rfl rfl H1 ⟨Nat.le_of_ble_eq_true rfl, Nat.le_of_ble_eq_true rfl⟩ ⟨rfl, Nat.le_of_ble_eq_true rfl⟩ rfl R (evx_up (Nat.le_of_ble_eq_true rfl) (c92 R rx4 e2)) ?_
      intro h4 R5 w6
      have w6 : rg q3 := w6
      show evx _ _ _ _ _ _ (.inl (iz q3) :: _) _ _ _
      by_cases cb7 : q3 = 0
      · rw [if_pos cb7] at hs
        refine evx_F E147 D147_77 rfl (ifT (c1_eq_T w6 cb7)) ?_
        refine evx_F E147 D147_90 rfl rfl ?_
        by_cases cb8 : x4 = 0
        · rw [if_pos cb8] at hs
          refine evx_F E147 D147_92 rfl (ifT (c1_eq_T rx4 cb8)) ?_
          refine evx_F E147 D147_101 rfl rfl ?_
          refine evx_gfr E147 D147_102 F147_19 H0 rfl R5 ?_
          refine evx_F E147 D147_105 rfl rfl ?_
          refine evx_F E147 D147_106 rfl rfl ?_
          obtain ⟨q10, e9, hs⟩ := Option.bind_eq_some_iff.mp hs
          refine evx_cv (D := 1) E147 D147_108 I147_116 rfl rfl H5 ⟨Nat.le_of_ble_eq_true rfl, Nat.le_of_ble_eq_true rfl⟩ ⟨rfl, Nat.le_of_ble_eq_true rfl⟩ rfl R5 (evx_up (Nat.le_of_ble_eq_true rfl) (c34 R5 rx3 rx4 e9)) ?_
          intro h11 R12 w13
          have w13 : rg q10 := w13
          show evx _ _ _ _ _ _ (.inl (iz q10) :: _) _ _ _
          by_cases cb14 : q10 = 0
          · rw [if_pos cb14] at hs
            refine evx_F E147 D147_111 rfl (ifT (c1_eq_T w13 cb14)) ?_
            refine evx_F E147 D147_118 rfl rfl ?_
            cases hs
            exact evx_ret E147 D147_119 rfl (fun d => rfl) rfl (show rg _ from (by decide)) R12
          · rw [if_neg cb14] at hs
            refine evx_F E147 D147_111 rfl (ifF (c1_eq_F w13 (by omega))) ?_
            refine evx_F E147 D147_114 rfl rfl ?_
            refine evx_F E147 D147_115 rfl rfl ?_
            cases hs
            exact evx_ret E147 D147_119 rfl (fun d => rfl) rfl (show rg _ from (by decide)) R12
        · rw [if_neg cb8] at hs
          refine evx_F E147 D147_92 rfl (ifF (c1_eq_F rx4 (by omega))) ?_
          refine evx_F E147 D147_95 rfl rfl ?_
          refine evx_F E147 D147_97 rfl rfl ?_
          by_cases cb15 : ¬ x4 = 1
          · rw [if_pos cb15] at hs
            refine evx_F E147 D147_98 rfl (ifT (c2_ne_T rx4 (by decide) cb15)) ?_
            refine evx_F E147 D147_118 rfl rfl ?_
            cases hs
            exact evx_ret E147 D147_119 rfl (fun d => rfl) rfl (show rg _ from (by decide)) R5
          · rw [if_neg cb15] at hs
            refine evx_F E147 D147_98 rfl (ifF (c2_ne_F rx4 (by decide) (by omega))) ?_
            refine evx_F E147 D147_101 rfl rfl ?_
            refine evx_gfr E147 D147_102 F147_19 H0 rfl R5 ?_
            refine evx_F E147 D147_105 rfl rfl ?_
            refine evx_F E147 D147_106 rfl rfl ?_
            obtain ⟨q17, e16, hs⟩ := Option.bind_eq_some_iff.mp hs
            refine evx_cv (D := 1) E147 D147_108 I147_116 rfl rfl H5 ⟨Nat.le_of_ble_eq_true rfl, Nat.le_of_ble_eq_true rfl⟩ ⟨rfl, Nat.le_of_ble_eq_true rfl⟩ rfl R5 (evx_up (Nat.le_of_ble_eq_true rfl) (c34 R5 rx3 rx4 e16)) ?_
            intro h18 R19 w20
            have w20 : rg q17 := w20
            show evx _ _ _ _ _ _ (.inl (iz q17) :: _) _ _ _
            by_cases cb21 : q17 = 0
            · rw [if_pos cb21] at hs
              refine evx_F E147 D147_111 rfl (ifT (c1_eq_T w20 cb21)) ?_
              refine evx_F E147 D147_118 rfl rfl ?_
              cases hs
              exact evx_ret E147 D147_119 rfl (fun d => rfl) rfl (show rg _ from (by decide)) R19
            · rw [if_neg cb21] at hs
              refine evx_F E147 D147_111 rfl (ifF (c1_eq_F w20 (by omega))) ?_
              refine evx_F E147 D147_114 rfl rfl ?_
              refine evx_F E147 D147_115 rfl rfl ?_
              cases hs
              exact evx_ret E147 D147_119 rfl (fun d => rfl) rfl (show rg _ from (by decide)) R19
      · rw [if_neg cb7] at hs
        refine evx_F E147 D147_77 rfl (ifF (c1_eq_F w6 (by omega))) ?_
        refine evx_F E147 D147_80 rfl rfl ?_
        refine evx_gfr E147 D147_81 F147_19 H0 rfl R5 ?_
        refine evx_F E147 D147_84 rfl rfl ?_
        refine evx_F E147 D147_85 rfl rfl ?_
        obtain ⟨q23, e22, hs⟩ := Option.bind_eq_some_iff.mp hs
        refine evx_cv (D := 1) E147 D147_86 I147_116 rfl rfl H5 ⟨Nat.le_of_ble_eq_true rfl, Nat.le_of_ble_eq_true rfl⟩ ⟨rfl, Nat.le_of_ble_eq_true rfl⟩ rfl R5 (evx_up (Nat.le_of_ble_eq_true rfl) (c34 R5 rx3 (by decide) e22)) ?_
        intro h24 R25 w26
        have w26 : rg q23 := w26
        show evx _ _ _ _ _ _ (.inl (iz q23) :: _) _ _ _
        obtain ⟨k27, hs⟩ := ck hs
        cases hs
        exact evx_retb E147 D147_89 rfl k27 R25
    · rw [if_neg cb1] at hs
      refine evx_F E147 D147_12 rfl (ifF (c2_ge_F rx5 (by decide) (by omega))) ?_
      refine evx_F E147 D147_15 rfl rfl ?_
      refine evx_gfr E147 D147_16 F147_12 H0 rfl R ?_
      refine evx_F E147 D147_19 rfl rfl ?_
      obtain ⟨q29, e28, hs⟩ := Option.bind_eq_some_iff.mp hs
      refine evx_cv (D := 1) E147 D147_21 I147_178 rfl rfl H1 ⟨Nat.le_of_ble_eq_true rfl, Nat.le_of_ble_eq_true rfl⟩ ⟨rfl, Nat.le_of_ble_eq_true rfl⟩ rfl R (evx_up (Nat.le_of_ble_eq_true rfl) (c92 R rx4 e28)) ?_
      intro h30 R31 w32
      have w32 : rg q29 := w32
      show evx _ _ _ _ _ _ (.inl (iz q29) :: _) _ _ _
      by_cases cb33 : q29 = 0
      · rw [if_pos cb33] at hs
        refine evx_F E147 D147_24 rfl (ifT (c1_eq_T w32 cb33)) ?_
        refine evx_F E147 D147_68 rfl rfl ?_
        refine evx_gfr E147 D147_69 F147_12 H0 rfl R31 ?_
        refine evx_F E147 D147_72 rfl rfl ?_
        obtain ⟨q35, e34, hs⟩ := Option.bind_eq_some_iff.mp hs
        refine evx_cv (D := 1) E147 D147_74 I147_178 rfl rfl H1 ⟨Nat.le_of_ble_eq_true rfl, Nat.le_of_ble_eq_true rfl⟩ ⟨rfl, Nat.le_of_ble_eq_true rfl⟩ rfl R31 (evx_up (Nat.le_of_ble_eq_true rfl) (c92 R31 rx4 e34)) ?_
        intro h36 R37 w38
        have w38 : rg q35 := w38
        show evx _ _ _ _ _ _ (.inl (iz q35) :: _) _ _ _
        by_cases cb39 : q35 = 0
        · rw [if_pos cb39] at hs
          refine evx_F E147 D147_77 rfl (ifT (c1_eq_T w38 cb39)) ?_
          refine evx_F E147 D147_90 rfl rfl ?_
          by_cases cb40 : x4 = 0
          · rw [if_pos cb40] at hs
            refine evx_F E147 D147_92 rfl (ifT (c1_eq_T rx4 cb40)) ?_
            refine evx_F E147 D147_101 rfl rfl ?_
            refine evx_gfr E147 D147_102 F147_19 H0 rfl R37 ?_
            refine evx_F E147 D147_105 rfl rfl ?_
            refine evx_F E147 D147_106 rfl rfl ?_
            obtain ⟨q42, e41, hs⟩ := Option.bind_eq_some_iff.mp hs
            refine evx_cv (D := 1) E147 D147_108 I147_116 rfl rfl H5 ⟨Nat.le_of_ble_eq_true rfl, Nat.le_of_ble_eq_true rfl⟩ ⟨rfl, Nat.le_of_ble_eq_true rfl⟩ rfl R37 (evx_up (Nat.le_of_ble_eq_true rfl) (c34 R37 rx3 rx4 e41)) ?_
            intro h43 R44 w45
            have w45 : rg q42 := w45
            show evx _ _ _ _ _ _ (.inl (iz q42) :: _) _ _ _
            by_cases cb46 : q42 = 0
            · rw [if_pos cb46] at hs
              refine evx_F E147 D147_111 rfl (ifT (c1_eq_T w45 cb46)) ?_
              refine evx_F E147 D147_118 rfl rfl ?_
              cases hs
              exact evx_ret E147 D147_119 rfl (fun d => rfl) rfl (show rg _ from (by decide)) R44
            · rw [if_neg cb46] at hs
              refine evx_F E147 D147_111 rfl (ifF (c1_eq_F w45 (by omega))) ?_
              refine evx_F E147 D147_114 rfl rfl ?_
              refine evx_F E147 D147_115 rfl rfl ?_
              cases hs
              exact evx_ret E147 D147_119 rfl (fun d => rfl) rfl (show rg _ from (by decide)) R44
          · rw [if_neg cb40] at hs
            refine evx_F E147 D147_92 rfl (ifF (c1_eq_F rx4 (by omega))) ?_
            refine evx_F E147 D147_95 rfl rfl ?_
            refine evx_F E147 D147_97 rfl rfl ?_
            by_cases cb47 : ¬ x4 = 1
            · rw [if_pos cb47] at hs
              refine evx_F E147 D147_98 rfl (ifT (c2_ne_T rx4 (by decide) cb47)) ?_
              refine evx_F E147 D147_118 rfl rfl ?_
              cases hs
              exact evx_ret E147 D147_119 rfl (fun d => rfl) rfl (show rg _ from (by decide)) R37
            · rw [if_neg cb47] at hs
              refine evx_F E147 D147_98 rfl (ifF (c2_ne_F rx4 (by decide) (by omega))) ?_
              refine evx_F E147 D147_101 rfl rfl ?_
              refine evx_gfr E147 D147_102 F147_19 H0 rfl R37 ?_
              refine evx_F E147 D147_105 rfl rfl ?_
              refine evx_F E147 D147_106 rfl rfl ?_
              obtain ⟨q49, e48, hs⟩ := Option.bind_eq_some_iff.mp hs
              refine evx_cv (D := 1) E147 D147_108 I147_116 rfl rfl H5 ⟨Nat.le_of_ble_eq_true rfl, Nat.le_of_ble_eq_true rfl⟩ ⟨rfl, Nat.le_of_ble_eq_true rfl⟩ rfl R37 (evx_up (Nat.le_of_ble_eq_true rfl) (c34 R37 rx3 rx4 e48)) ?_
              intro h50 R51 w52
              have w52 : rg q49 := w52
              show evx _ _ _ _ _ _ (.inl (iz q49) :: _) _ _ _
              by_cases cb53 : q49 = 0
              · rw [if_pos cb53] at hs
                refine evx_F E147 D147_111 rfl (ifT (c1_eq_T w52 cb53)) ?_
                refine evx_F E147 D147_118 rfl rfl ?_
                cases hs
                exact evx_ret E147 D147_119 rfl (fun d => rfl) rfl (show rg _ from (by decide)) R51
              · rw [if_neg cb53] at hs
                refine evx_F E147 D147_111 rfl (ifF (c1_eq_F w52 (by omega))) ?_
                refine evx_F E147 D147_114 rfl rfl ?_
                refine evx_F E147 D147_115 rfl rfl ?_
                cases hs
                exact evx_ret E147 D147_119 rfl (fun d => rfl) rfl (show rg _ from (by decide)) R51
        · rw [if_neg cb39] at hs
          refine evx_F E147 D147_77 rfl (ifF (c1_eq_F w38 (by omega))) ?_
          refine evx_F E147 D147_80 rfl rfl ?_
          refine evx_gfr E147 D147_81 F147_19 H0 rfl R37 ?_
          refine evx_F E147 D147_84 rfl rfl ?_
          refine evx_F E147 D147_85 rfl rfl ?_
          obtain ⟨q55, e54, hs⟩ := Option.bind_eq_some_iff.mp hs
          refine evx_cv (D := 1) E147 D147_86 I147_116 rfl rfl H5 ⟨Nat.le_of_ble_eq_true rfl, Nat.le_of_ble_eq_true rfl⟩ ⟨rfl, Nat.le_of_ble_eq_true rfl⟩ rfl R37 (evx_up (Nat.le_of_ble_eq_true rfl) (c34 R37 rx3 (by decide) e54)) ?_
          intro h56 R57 w58
          have w58 : rg q55 := w58
          show evx _ _ _ _ _ _ (.inl (iz q55) :: _) _ _ _
          obtain ⟨k59, hs⟩ := ck hs
          cases hs
          exact evx_retb E147 D147_89 rfl k59 R57
      · rw [if_neg cb33] at hs
        refine evx_F E147 D147_24 rfl (ifF (c1_eq_F w32 (by omega))) ?_
        refine evx_F E147 D147_27 rfl rfl ?_
        refine evx_gfr E147 D147_28 F147_19 H0 rfl R31 ?_
        refine evx_F E147 D147_31 rfl rfl ?_
        obtain ⟨q61, e60, hs⟩ := Option.bind_eq_some_iff.mp hs
        refine evx_cv (D := 1) E147 D147_32 I147_181 rfl rfl H5 ⟨Nat.le_of_ble_eq_true rfl, Nat.le_of_ble_eq_true rfl⟩ ⟨rfl, Nat.le_of_ble_eq_true rfl⟩ rfl R31 (evx_up (Nat.le_of_ble_eq_true rfl) (c104 R31 rx3 e60)) ?_
        intro h62 R63 w64
        have w64 : rg q61 := w64
        show evx _ _ _ _ _ _ (.inl (iz q61) :: _) _ _ _
        refine evx_F E147 D147_35 rfl rfl ?_
        by_cases cb65 : ¬ q61 = (-1)
        · rw [if_pos cb65] at hs
          refine evx_F E147 D147_36 rfl (ifT (c2_ne_T w64 (by decide) cb65)) ?_
          refine evx_F E147 D147_42 rfl rfl ?_
          refine evx_gfr E147 D147_43 F147_19 H0 rfl R63 ?_
          refine evx_F E147 D147_46 rfl rfl ?_
          obtain ⟨q67, e66, hs⟩ := Option.bind_eq_some_iff.mp hs
          refine evx_cv (D := 1) E147 D147_47 I147_181 rfl rfl H5 ⟨Nat.le_of_ble_eq_true rfl, Nat.le_of_ble_eq_true rfl⟩ ⟨rfl, Nat.le_of_ble_eq_true rfl⟩ rfl R63 (evx_up (Nat.le_of_ble_eq_true rfl) (c104 R63 rx3 e66)) ?_
          intro h68 R69 w70
          have w70 : rg q67 := w70
          show evx _ _ _ _ _ _ (.inl (iz q67) :: _) _ _ _
          refine evx_F E147 D147_50 rfl rfl ?_
          refine evx_F E147 D147_51 rfl rfl ?_
          refine evx_gfr E147 D147_52 F147_12 H0 rfl R69 ?_
          refine evx_F E147 D147_55 rfl rfl ?_
          obtain ⟨q72, e71, hs⟩ := Option.bind_eq_some_iff.mp hs
          refine evx_cv (D := 1) E147 D147_57 I147_184 rfl rfl H1 ⟨Nat.le_of_ble_eq_true rfl, Nat.le_of_ble_eq_true rfl⟩ ⟨rfl, Nat.le_of_ble_eq_true rfl⟩ rfl R69 (evx_up (Nat.le_of_ble_eq_true rfl) (c91 R69 rx4 e71)) ?_
          intro h73 R74 w75
          have w75 : rg q72 := w75
          show evx _ _ _ _ _ _ (.inl (iz q72) :: _) _ _ _
          refine evx_F E147 D147_60 rfl rfl ?_
          refine evx_inc E147 D147_62 (Nat.le_of_ble_eq_true rfl) rfl ?_
          refine evx_F E147 D147_65 rfl rfl ?_
          obtain ⟨k76, hs⟩ := ck hs
          show evx _ _ _ _ _ [(5, .inl (iz (x5 + 1))), (4, .inl (iz q72)), (3, .inl (iz q67)), (0, .inr (.inr (.inl (some 0)))), (1, .inl (iz x1)), (2, .inl (iz x2))] _ _ _ _
          exact evx_lv (lvLe_mk (fm rfl (fm rfl (fm rfl (fm rfl (fm rfl (fm rfl fn)))))) (fm rfl (fm rfl (fm rfl (fm rfl (fm rfl (fm rfl fn)))))) (fm rfl (fm rfl (fm rfl (fm rfl (fm rfl (fm rfl fn))))))) (ih _ _ _ _ _ _ _ _ hs R74 rx1 rx2 w70 w75 k76)
        · rw [if_neg cb65] at hs
          refine evx_F E147 D147_36 rfl (ifF (c2_ne_F w64 (by decide) (by omega))) ?_
          refine evx_F E147 D147_39 rfl rfl ?_
          refine evx_F E147 D147_68 rfl rfl ?_
          refine evx_gfr E147 D147_69 F147_12 H0 rfl R63 ?_
          refine evx_F E147 D147_72 rfl rfl ?_
          obtain ⟨q78, e77, hs⟩ := Option.bind_eq_some_iff.mp hs
          refine evx_cv (D := 1) E147 D147_74 I147_178 rfl rfl H1 ⟨Nat.le_of_ble_eq_true rfl, Nat.le_of_ble_eq_true rfl⟩ ⟨rfl, Nat.le_of_ble_eq_true rfl⟩ rfl R63 (evx_up (Nat.le_of_ble_eq_true rfl) (c92 R63 rx4 e77)) ?_
          intro h79 R80 w81
          have w81 : rg q78 := w81
          show evx _ _ _ _ _ _ (.inl (iz q78) :: _) _ _ _
          by_cases cb82 : q78 = 0
          · rw [if_pos cb82] at hs
            refine evx_F E147 D147_77 rfl (ifT (c1_eq_T w81 cb82)) ?_
            refine evx_F E147 D147_90 rfl rfl ?_
            by_cases cb83 : x4 = 0
            · rw [if_pos cb83] at hs
              refine evx_F E147 D147_92 rfl (ifT (c1_eq_T rx4 cb83)) ?_
              refine evx_F E147 D147_101 rfl rfl ?_
              refine evx_gfr E147 D147_102 F147_19 H0 rfl R80 ?_
              refine evx_F E147 D147_105 rfl rfl ?_
              refine evx_F E147 D147_106 rfl rfl ?_
              obtain ⟨q85, e84, hs⟩ := Option.bind_eq_some_iff.mp hs
              refine evx_cv (D := 1) E147 D147_108 I147_116 rfl rfl H5 ⟨Nat.le_of_ble_eq_true rfl, Nat.le_of_ble_eq_true rfl⟩ ⟨rfl, Nat.le_of_ble_eq_true rfl⟩ rfl R80 (evx_up (Nat.le_of_ble_eq_true rfl) (c34 R80 rx3 rx4 e84)) ?_
              intro h86 R87 w88
              have w88 : rg q85 := w88
              show evx _ _ _ _ _ _ (.inl (iz q85) :: _) _ _ _
              by_cases cb89 : q85 = 0
              · rw [if_pos cb89] at hs
                refine evx_F E147 D147_111 rfl (ifT (c1_eq_T w88 cb89)) ?_
                refine evx_F E147 D147_118 rfl rfl ?_
                cases hs
                exact evx_ret E147 D147_119 rfl (fun d => rfl) rfl (show rg _ from (by decide)) R87
              · rw [if_neg cb89] at hs
                refine evx_F E147 D147_111 rfl (ifF (c1_eq_F w88 (by omega))) ?_
                refine evx_F E147 D147_114 rfl rfl ?_
                refine evx_F E147 D147_115 rfl rfl ?_
                cases hs
                exact evx_ret E147 D147_119 rfl (fun d => rfl) rfl (show rg _ from (by decide)) R87
            · rw [if_neg cb83] at hs
              refine evx_F E147 D147_92 rfl (ifF (c1_eq_F rx4 (by omega))) ?_
              refine evx_F E147 D147_95 rfl rfl ?_
              refine evx_F E147 D147_97 rfl rfl ?_
              by_cases cb90 : ¬ x4 = 1
              · rw [if_pos cb90] at hs
                refine evx_F E147 D147_98 rfl (ifT (c2_ne_T rx4 (by decide) cb90)) ?_
                refine evx_F E147 D147_118 rfl rfl ?_
                cases hs
                exact evx_ret E147 D147_119 rfl (fun d => rfl) rfl (show rg _ from (by decide)) R80
              · rw [if_neg cb90] at hs
                refine evx_F E147 D147_98 rfl (ifF (c2_ne_F rx4 (by decide) (by omega))) ?_
                refine evx_F E147 D147_101 rfl rfl ?_
                refine evx_gfr E147 D147_102 F147_19 H0 rfl R80 ?_
                refine evx_F E147 D147_105 rfl rfl ?_
                refine evx_F E147 D147_106 rfl rfl ?_
                obtain ⟨q92, e91, hs⟩ := Option.bind_eq_some_iff.mp hs
                refine evx_cv (D := 1) E147 D147_108 I147_116 rfl rfl H5 ⟨Nat.le_of_ble_eq_true rfl, Nat.le_of_ble_eq_true rfl⟩ ⟨rfl, Nat.le_of_ble_eq_true rfl⟩ rfl R80 (evx_up (Nat.le_of_ble_eq_true rfl) (c34 R80 rx3 rx4 e91)) ?_
                intro h93 R94 w95
                have w95 : rg q92 := w95
                show evx _ _ _ _ _ _ (.inl (iz q92) :: _) _ _ _
                by_cases cb96 : q92 = 0
                · rw [if_pos cb96] at hs
                  refine evx_F E147 D147_111 rfl (ifT (c1_eq_T w95 cb96)) ?_
                  refine evx_F E147 D147_118 rfl rfl ?_
                  cases hs
                  exact evx_ret E147 D147_119 rfl (fun d => rfl) rfl (show rg _ from (by decide)) R94
                · rw [if_neg cb96] at hs
                  refine evx_F E147 D147_111 rfl (ifF (c1_eq_F w95 (by omega))) ?_
                  refine evx_F E147 D147_114 rfl rfl ?_
                  refine evx_F E147 D147_115 rfl rfl ?_
                  cases hs
                  exact evx_ret E147 D147_119 rfl (fun d => rfl) rfl (show rg _ from (by decide)) R94
          · rw [if_neg cb82] at hs
            refine evx_F E147 D147_77 rfl (ifF (c1_eq_F w81 (by omega))) ?_
            refine evx_F E147 D147_80 rfl rfl ?_
            refine evx_gfr E147 D147_81 F147_19 H0 rfl R80 ?_
            refine evx_F E147 D147_84 rfl rfl ?_
            refine evx_F E147 D147_85 rfl rfl ?_
            obtain ⟨q98, e97, hs⟩ := Option.bind_eq_some_iff.mp hs
            refine evx_cv (D := 1) E147 D147_86 I147_116 rfl rfl H5 ⟨Nat.le_of_ble_eq_true rfl, Nat.le_of_ble_eq_true rfl⟩ ⟨rfl, Nat.le_of_ble_eq_true rfl⟩ rfl R80 (evx_up (Nat.le_of_ble_eq_true rfl) (c34 R80 rx3 (by decide) e97)) ?_
            intro h99 R100 w101
            have w101 : rg q98 := w101
            show evx _ _ _ _ _ _ (.inl (iz q98) :: _) _ _ _
            obtain ⟨k102, hs⟩ := ck hs
            cases hs
            exact evx_retb E147 D147_89 rfl k102 R100
def f147 (M : Mm) (x1 : Int) (x2 : Int) : Option Int := l147 FU 8 M x1 x2 x1 x2 0
theorem c147 {L : Nat} {xs : Nat → Int32} {h : mvH} {M : Mm} {x1 x2 : Int} {v : Int} (R : rp h M) (rx1 : rg x1) (rx2 : rg x2) (hs : f147 M x1 x2 = some v) : evx L xs 2 147 0 [(0, .inr (.inr (.inl (some 0)))), (1, .inl (iz x1)), (2, .inl (iz x2))] [] h (.inl (some (.inl v)), 0) M := by
  unfold f147 at hs
  refine evx_F E147 D147_0 rfl rfl ?_
  refine evx_F E147 D147_1 rfl rfl ?_
  refine evx_F E147 D147_2 rfl rfl ?_
  refine evx_F E147 D147_3 rfl rfl ?_
  refine evx_F E147 D147_5 rfl rfl ?_
  refine evx_F E147 D147_6 rfl rfl ?_
  show evx _ _ _ _ _ [(5, .inl (iz 0)), (4, .inl (iz x2)), (3, .inl (iz x1)), (0, .inr (.inr (.inl (some 0)))), (1, .inl (iz x1)), (2, .inl (iz x2))] _ _ _ _
  exact evx_lv (lvLe_mk (fm rfl (fm rfl (fm rfl (fm rfl (fm rfl (fm rfl fn)))))) (fm rfl (fm rfl (fm rfl (fm rfl (fm rfl (fm rfl fn)))))) (fm rfl (fm rfl (fm rfl (fm rfl (fm rfl (fm rfl fn))))))) ((d147 FU) _ _ _ _ _ _ _ _ hs R rx1 rx2 rx1 rx2 (by decide))
set_option maxRecDepth 20000 in
theorem E150 : pgMm 150 = some (⟨"DictionaryHouse", "canBeShown", "(I)Z"⟩, prog_1_method_24_code, 3, (some .boolean), []) := rfl
theorem D150_0 : pgDecT 150 0 = some (.aload_n 0, 1) := by decide +kernel
theorem D150_1 : pgDecT 150 1 = some (.getfield 12, 3) := by decide +kernel
theorem F150_12 : pgFf 150 12 = some (11, 0, 3) := by decide +kernel
theorem D150_4 : pgDecT 150 4 = some (.iload_n 1, 1) := by decide +kernel
theorem D150_5 : pgDecT 150 5 = some (.invokevirtual 178, 3) := by decide +kernel
theorem I150_178 : pgIi 150 178 = some (92, 1, 9) := by decide +kernel
theorem D150_8 : pgDecT 150 8 = some (.ifCond .eq 14, 3) := by decide +kernel
theorem D150_22 : pgDecT 150 22 = some (.iload_n 1, 1) := by decide +kernel
theorem D150_23 : pgDecT 150 23 = some (.istore_n 2, 1) := by decide +kernel
theorem D150_24 : pgDecT 150 24 = some (.iload_n 2, 1) := by decide +kernel
theorem D150_25 : pgDecT 150 25 = some (.ifCond .eq 8, 3) := by decide +kernel
theorem D150_33 : pgDecT 150 33 = some (.iconst 1, 1) := by decide +kernel
theorem D150_34 : pgDecT 150 34 = some (.goto 4, 3) := by decide +kernel
theorem D150_38 : pgDecT 150 38 = some (.ireturn, 1) := by decide +kernel
theorem D150_28 : pgDecT 150 28 = some (.iload_n 2, 1) := by decide +kernel
theorem D150_29 : pgDecT 150 29 = some (.iconst 1, 1) := by decide +kernel
theorem D150_30 : pgDecT 150 30 = some (.if_icmp .ne 7, 3) := by decide +kernel
theorem D150_37 : pgDecT 150 37 = some (.iconst 0, 1) := by decide +kernel
theorem D150_11 : pgDecT 150 11 = some (.aload_n 0, 1) := by decide +kernel
theorem D150_12 : pgDecT 150 12 = some (.getfield 12, 3) := by decide +kernel
theorem D150_15 : pgDecT 150 15 = some (.iload_n 1, 1) := by decide +kernel
theorem D150_16 : pgDecT 150 16 = some (.invokevirtual 184, 3) := by decide +kernel
theorem I150_184 : pgIi 150 184 = some (91, 1, 9) := by decide +kernel
theorem D150_19 : pgDecT 150 19 = some (.goto 4, 3) := by decide +kernel
/-! 150: DictionaryHouse.canBeShown (I)Z -/
def f150 (M : Mm) (x1 : Int) : Option Int := (f92 M x1).bind (fun q2 => if q2 = 0 then (if x1 = 0 then (some 1) else (if ¬ x1 = 1 then (some 0) else (some 1))) else (f91 M x1).bind (fun q10 => if q10 = 0 then (some 1) else (if ¬ q10 = 1 then (some 0) else (some 1))))
theorem c150 {L : Nat} {xs : Nat → Int32} {h : mvH} {M : Mm} {x1 : Int} {v : Int} (R : rp h M) (rx1 : rg x1) (hs : f150 M x1 = some v) : evx L xs 2 150 0 [(0, .inr (.inr (.inl (some 0)))), (1, .inl (iz x1))] [] h (.inl (some (.inl v)), 0) M := by
  unfold f150 at hs
  refine evx_F E150 D150_0 rfl rfl ?_
  refine evx_gfr E150 D150_1 F150_12 H0 rfl R ?_
  refine evx_F E150 D150_4 rfl rfl ?_
  obtain ⟨q2, e1, hs⟩ := Option.bind_eq_some_iff.mp hs
  refine evx_cv (D := 1) E150 D150_5 I150_178 rfl rfl H1 ⟨Nat.le_of_ble_eq_true rfl, Nat.le_of_ble_eq_true rfl⟩ ⟨rfl, Nat.le_of_ble_eq_true rfl⟩ rfl R (evx_up (Nat.le_of_ble_eq_true rfl) (c92 R rx1 e1)) ?_
  intro h3 R4 w5
  have w5 : rg q2 := w5
  show evx _ _ _ _ _ _ (.inl (iz q2) :: _) _ _ _
  by_cases cb6 : q2 = 0
  · rw [if_pos cb6] at hs
    refine evx_F E150 D150_8 rfl (ifT (c1_eq_T w5 cb6)) ?_
    refine evx_F E150 D150_22 rfl rfl ?_
    refine evx_F E150 D150_23 rfl rfl ?_
    refine evx_F E150 D150_24 rfl rfl ?_
    by_cases cb7 : x1 = 0
    · rw [if_pos cb7] at hs
      refine evx_F E150 D150_25 rfl (ifT (c1_eq_T rx1 cb7)) ?_
      refine evx_F E150 D150_33 rfl rfl ?_
      refine evx_F E150 D150_34 rfl rfl ?_
      cases hs
      exact evx_ret E150 D150_38 rfl (fun d => rfl) rfl (show rg _ from (by decide)) R4
    · rw [if_neg cb7] at hs
      refine evx_F E150 D150_25 rfl (ifF (c1_eq_F rx1 (by omega))) ?_
      refine evx_F E150 D150_28 rfl rfl ?_
      refine evx_F E150 D150_29 rfl rfl ?_
      by_cases cb8 : ¬ x1 = 1
      · rw [if_pos cb8] at hs
        refine evx_F E150 D150_30 rfl (ifT (c2_ne_T rx1 (by decide) cb8)) ?_
        refine evx_F E150 D150_37 rfl rfl ?_
        cases hs
        exact evx_ret E150 D150_38 rfl (fun d => rfl) rfl (show rg _ from (by decide)) R4
      · rw [if_neg cb8] at hs
        refine evx_F E150 D150_30 rfl (ifF (c2_ne_F rx1 (by decide) (by omega))) ?_
        refine evx_F E150 D150_33 rfl rfl ?_
        refine evx_F E150 D150_34 rfl rfl ?_
        cases hs
        exact evx_ret E150 D150_38 rfl (fun d => rfl) rfl (show rg _ from (by decide)) R4
  · rw [if_neg cb6] at hs
    refine evx_F E150 D150_8 rfl (ifF (c1_eq_F w5 (by omega))) ?_
    refine evx_F E150 D150_11 rfl rfl ?_
    refine evx_gfr E150 D150_12 F150_12 H0 rfl R4 ?_
    refine evx_F E150 D150_15 rfl rfl ?_
    obtain ⟨q10, e9, hs⟩ := Option.bind_eq_some_iff.mp hs
    refine evx_cv (D := 1) E150 D150_16 I150_184 rfl rfl H1 ⟨Nat.le_of_ble_eq_true rfl, Nat.le_of_ble_eq_true rfl⟩ ⟨rfl, Nat.le_of_ble_eq_true rfl⟩ rfl R4 (evx_up (Nat.le_of_ble_eq_true rfl) (c91 R4 rx1 e9)) ?_
    intro h11 R12 w13
    have w13 : rg q10 := w13
    show evx _ _ _ _ _ _ (.inl (iz q10) :: _) _ _ _
    refine evx_F E150 D150_19 rfl rfl ?_
    refine evx_F E150 D150_23 rfl rfl ?_
    refine evx_F E150 D150_24 rfl rfl ?_
    by_cases cb14 : q10 = 0
    · rw [if_pos cb14] at hs
      refine evx_F E150 D150_25 rfl (ifT (c1_eq_T w13 cb14)) ?_
      refine evx_F E150 D150_33 rfl rfl ?_
      refine evx_F E150 D150_34 rfl rfl ?_
      cases hs
      exact evx_ret E150 D150_38 rfl (fun d => rfl) rfl (show rg _ from (by decide)) R12
    · rw [if_neg cb14] at hs
      refine evx_F E150 D150_25 rfl (ifF (c1_eq_F w13 (by omega))) ?_
      refine evx_F E150 D150_28 rfl rfl ?_
      refine evx_F E150 D150_29 rfl rfl ?_
      by_cases cb15 : ¬ q10 = 1
      · rw [if_pos cb15] at hs
        refine evx_F E150 D150_30 rfl (ifT (c2_ne_T w13 (by decide) cb15)) ?_
        refine evx_F E150 D150_37 rfl rfl ?_
        cases hs
        exact evx_ret E150 D150_38 rfl (fun d => rfl) rfl (show rg _ from (by decide)) R12
      · rw [if_neg cb15] at hs
        refine evx_F E150 D150_30 rfl (ifF (c2_ne_F w13 (by decide) (by omega))) ?_
        refine evx_F E150 D150_33 rfl rfl ?_
        refine evx_F E150 D150_34 rfl rfl ?_
        cases hs
        exact evx_ret E150 D150_38 rfl (fun d => rfl) rfl (show rg _ from (by decide)) R12
set_option maxRecDepth 20000 in
theorem E152 : pgMm 152 = some (⟨"DictionaryHouse$Heap", "clear", "()V"⟩, prog_8_method_2_code, 1, none, []) := rfl
theorem D152_0 : pgDecT 152 0 = some (.aload_n 0, 1) := by decide +kernel
theorem D152_1 : pgDecT 152 1 = some (.iconst 0, 1) := by decide +kernel
theorem D152_2 : pgDecT 152 2 = some (.putfield 18, 3) := by decide +kernel
theorem F152_18 : pgFf 152 18 = some (6, 2, 0) := by decide +kernel
theorem D152_5 : pgDecT 152 5 = some (.aload_n 0, 1) := by decide +kernel
theorem D152_6 : pgDecT 152 6 = some (.iconst 0, 1) := by decide +kernel
theorem D152_7 : pgDecT 152 7 = some (.putfield 22, 3) := by decide +kernel
theorem F152_22 : pgFf 152 22 = some (6, 3, 0) := by decide +kernel
theorem D152_10 : pgDecT 152 10 = some (.return_, 1) := by decide +kernel
/-! 152: DictionaryHouse$Heap.clear ()V -/
def f152 (M : Mm) : Option (Int × Mm) := some (0, (up (up M 48 2 0) 48 3 0))
theorem c152 {L : Nat} {xs : Nat → Int32} {h : mvH} {M : Mm} {v : Int} {M' : Mm} (R : rp h M)  (hs : f152 M  = some (v, M')) : evx L xs 1 152 0 [(0, .inr (.inr (.inl (some 48))))] [] h (.inl none, 0) M' := by
  unfold f152 at hs
  refine evx_F E152 D152_0 rfl rfl ?_
  refine evx_F E152 D152_1 rfl rfl ?_
  refine evx_pfi (k := 2) E152 D152_2 F152_18 H48 rfl R (by decide) rfl ?_
  intro h1 R2
  refine evx_F E152 D152_5 rfl rfl ?_
  refine evx_F E152 D152_6 rfl rfl ?_
  refine evx_pfi (k := 3) E152 D152_7 F152_22 H48 rfl R2 (by decide) rfl ?_
  intro h3 R4
  cases hs
  exact evx_ret E152 D152_10 rfl (fun d => rfl) rfl trivial R4
set_option maxRecDepth 20000 in
theorem E153 : pgMm 153 = some (⟨"DictionaryHouse$Definitions", "expressionOf", "(I)I"⟩, prog_5_method_4_code, 2, (some .int), []) := rfl
theorem D153_0 : pgDecT 153 0 = some (.aload_n 0, 1) := by decide +kernel
theorem D153_1 : pgDecT 153 1 = some (.getfield 9, 3) := by decide +kernel
theorem F153_9 : pgFf 153 9 = some (3, 0, 3) := by decide +kernel
theorem D153_4 : pgDecT 153 4 = some (.iload_n 1, 1) := by decide +kernel
theorem D153_5 : pgDecT 153 5 = some (.iaload, 1) := by decide +kernel
theorem D153_6 : pgDecT 153 6 = some (.ireturn, 1) := by decide +kernel
/-! 153: DictionaryHouse$Definitions.expressionOf (I)I -/
def f153 (M : Mm) (x1 : Int) : Option Int := if 0 ≤ x1 ∧ x1 < 20 then (some (M 18 (Int.toNat x1))) else none
theorem c153 {L : Nat} {xs : Nat → Int32} {h : mvH} {M : Mm} {x1 : Int} {v : Int} (R : rp h M) (rx1 : rg x1) (hs : f153 M x1 = some v) : evx L xs 1 153 0 [(0, .inr (.inr (.inl (some 17)))), (1, .inl (iz x1))] [] h (.inl (some (.inl v)), 0) M := by
  unfold f153 at hs
  refine evx_F E153 D153_0 rfl rfl ?_
  refine evx_gfr E153 D153_1 F153_9 H17 rfl R ?_
  refine evx_F E153 D153_4 rfl rfl ?_
  obtain ⟨k1, hs⟩ := ck hs
  refine evx_ial E153 D153_5 H18 (by decide) R k1 ?_
  cases hs
  exact evx_ret E153 D153_6 rfl (fun d => rfl) rfl (show rg _ from (R.1 18 (Int.toNat x1))) R
set_option maxRecDepth 20000 in
theorem E155 : pgMm 155 = some (⟨"DictionaryHouse$Machine", "enter", "(III)V"⟩, prog_9_method_8_code, 4, none, []) := rfl
theorem D155_0 : pgDecT 155 0 = some (.aload_n 0, 1) := by decide +kernel
theorem D155_1 : pgDecT 155 1 = some (.iload_n 1, 1) := by decide +kernel
theorem D155_2 : pgDecT 155 2 = some (.putfield 84, 3) := by decide +kernel
theorem F155_84 : pgFf 155 84 = some (7, 10, 0) := by decide +kernel
theorem D155_5 : pgDecT 155 5 = some (.aload_n 0, 1) := by decide +kernel
theorem D155_6 : pgDecT 155 6 = some (.iload_n 2, 1) := by decide +kernel
theorem D155_7 : pgDecT 155 7 = some (.putfield 120, 3) := by decide +kernel
theorem F155_120 : pgFf 155 120 = some (7, 11, 0) := by decide +kernel
theorem D155_10 : pgDecT 155 10 = some (.aload_n 0, 1) := by decide +kernel
theorem D155_11 : pgDecT 155 11 = some (.iconst (-1), 1) := by decide +kernel
theorem D155_12 : pgDecT 155 12 = some (.putfield 123, 3) := by decide +kernel
theorem F155_123 : pgFf 155 123 = some (7, 12, 0) := by decide +kernel
theorem D155_15 : pgDecT 155 15 = some (.aload_n 0, 1) := by decide +kernel
theorem D155_16 : pgDecT 155 16 = some (.iload_n 3, 1) := by decide +kernel
theorem D155_17 : pgDecT 155 17 = some (.putfield 126, 3) := by decide +kernel
theorem F155_126 : pgFf 155 126 = some (7, 13, 0) := by decide +kernel
theorem D155_20 : pgDecT 155 20 = some (.return_, 1) := by decide +kernel
/-! 155: DictionaryHouse$Machine.enter (III)V -/
def f155 (M : Mm) (x1 : Int) (x2 : Int) (x3 : Int) : Option (Int × Mm) := some (0, (up (up (up (up M 47 10 x1) 47 11 x2) 47 12 (-1)) 47 13 x3))
theorem c155 {L : Nat} {xs : Nat → Int32} {h : mvH} {M : Mm} {x1 x2 x3 : Int} {v : Int} {M' : Mm} (R : rp h M) (rx1 : rg x1) (rx2 : rg x2) (rx3 : rg x3) (hs : f155 M x1 x2 x3 = some (v, M')) : evx L xs 1 155 0 [(0, .inr (.inr (.inl (some 47)))), (1, .inl (iz x1)), (2, .inl (iz x2)), (3, .inl (iz x3))] [] h (.inl none, 0) M' := by
  unfold f155 at hs
  refine evx_F E155 D155_0 rfl rfl ?_
  refine evx_F E155 D155_1 rfl rfl ?_
  refine evx_pfi (k := 10) E155 D155_2 F155_84 H47 rfl R rx1 rfl ?_
  intro h1 R2
  refine evx_F E155 D155_5 rfl rfl ?_
  refine evx_F E155 D155_6 rfl rfl ?_
  refine evx_pfi (k := 11) E155 D155_7 F155_120 H47 rfl R2 rx2 rfl ?_
  intro h3 R4
  refine evx_F E155 D155_10 rfl rfl ?_
  refine evx_F E155 D155_11 rfl rfl ?_
  refine evx_pfi (k := 12) E155 D155_12 F155_123 H47 rfl R4 (by decide) rfl ?_
  intro h5 R6
  refine evx_F E155 D155_15 rfl rfl ?_
  refine evx_F E155 D155_16 rfl rfl ?_
  refine evx_pfi (k := 13) E155 D155_17 F155_126 H47 rfl R6 rx3 rfl ?_
  intro h7 R8
  cases hs
  exact evx_ret E155 D155_20 rfl (fun d => rfl) rfl trivial R8
set_option maxRecDepth 20000 in
theorem E157 : pgMm 157 = some (⟨"DictionaryHouse$Heap", "hasRoom", "()Z"⟩, prog_8_method_3_code, 1, (some .boolean), []) := rfl
theorem D157_0 : pgDecT 157 0 = some (.aload_n 0, 1) := by decide +kernel
theorem D157_1 : pgDecT 157 1 = some (.getfield 18, 3) := by decide +kernel
theorem F157_18 : pgFf 157 18 = some (6, 2, 0) := by decide +kernel
theorem D157_4 : pgDecT 157 4 = some (.sipush 602, 3) := by decide +kernel
theorem D157_7 : pgDecT 157 7 = some (.if_icmp .ge 17, 3) := by decide +kernel
theorem D157_24 : pgDecT 157 24 = some (.iconst 0, 1) := by decide +kernel
theorem D157_25 : pgDecT 157 25 = some (.ireturn, 1) := by decide +kernel
theorem D157_10 : pgDecT 157 10 = some (.aload_n 0, 1) := by decide +kernel
theorem D157_11 : pgDecT 157 11 = some (.getfield 22, 3) := by decide +kernel
theorem F157_22 : pgFf 157 22 = some (6, 3, 0) := by decide +kernel
theorem D157_14 : pgDecT 157 14 = some (.sipush 302, 3) := by decide +kernel
theorem D157_17 : pgDecT 157 17 = some (.if_icmp .ge 7, 3) := by decide +kernel
theorem D157_20 : pgDecT 157 20 = some (.iconst 1, 1) := by decide +kernel
theorem D157_21 : pgDecT 157 21 = some (.goto 4, 3) := by decide +kernel
/-! 157: DictionaryHouse$Heap.hasRoom ()Z -/
def f157 (M : Mm) : Option Int := if 602 ≤ (M 48 2) then (some 0) else (if 302 ≤ (M 48 3) then (some 0) else (some 1))
theorem c157 {L : Nat} {xs : Nat → Int32} {h : mvH} {M : Mm} {v : Int} (R : rp h M)  (hs : f157 M  = some v) : evx L xs 1 157 0 [(0, .inr (.inr (.inl (some 48))))] [] h (.inl (some (.inl v)), 0) M := by
  unfold f157 at hs
  refine evx_F E157 D157_0 rfl rfl ?_
  refine evx_gfi (k := 2) E157 D157_1 F157_18 H48 rfl R ?_
  refine evx_k (k := 602) E157 D157_4 rfl (by decide) ?_
  by_cases cb1 : 602 ≤ (M 48 2)
  · rw [if_pos cb1] at hs
    refine evx_F E157 D157_7 rfl (ifT (c2_ge_T (R.1 48 2) (by decide) cb1)) ?_
    refine evx_F E157 D157_24 rfl rfl ?_
    cases hs
    exact evx_ret E157 D157_25 rfl (fun d => rfl) rfl (show rg _ from (by decide)) R
  · rw [if_neg cb1] at hs
    refine evx_F E157 D157_7 rfl (ifF (c2_ge_F (R.1 48 2) (by decide) (by omega))) ?_
    refine evx_F E157 D157_10 rfl rfl ?_
    refine evx_gfi (k := 3) E157 D157_11 F157_22 H48 rfl R ?_
    refine evx_k (k := 302) E157 D157_14 rfl (by decide) ?_
    by_cases cb2 : 302 ≤ (M 48 3)
    · rw [if_pos cb2] at hs
      refine evx_F E157 D157_17 rfl (ifT (c2_ge_T (R.1 48 3) (by decide) cb2)) ?_
      refine evx_F E157 D157_24 rfl rfl ?_
      cases hs
      exact evx_ret E157 D157_25 rfl (fun d => rfl) rfl (show rg _ from (by decide)) R
    · rw [if_neg cb2] at hs
      refine evx_F E157 D157_17 rfl (ifF (c2_ge_F (R.1 48 3) (by decide) (by omega))) ?_
      refine evx_F E157 D157_20 rfl rfl ?_
      refine evx_F E157 D157_21 rfl rfl ?_
      cases hs
      exact evx_ret E157 D157_25 rfl (fun d => rfl) rfl (show rg _ from (by decide)) R
set_option maxRecDepth 20000 in
theorem E159 : pgMm 159 = some (⟨"DictionaryHouse$Machine", "takeStep", "()Z"⟩, prog_9_method_7_code, 1, (some .boolean), []) := rfl
theorem D159_0 : pgDecT 159 0 = some (.aload_n 0, 1) := by decide +kernel
theorem D159_1 : pgDecT 159 1 = some (.aload_n 0, 1) := by decide +kernel
theorem D159_2 : pgDecT 159 2 = some (.getfield 51, 3) := by decide +kernel
theorem F159_51 : pgFf 159 51 = some (7, 7, 0) := by decide +kernel
theorem D159_5 : pgDecT 159 5 = some (.aload_n 0, 1) := by decide +kernel
theorem D159_6 : pgDecT 159 6 = some (.getfield 54, 3) := by decide +kernel
theorem F159_54 : pgFf 159 54 = some (7, 8, 0) := by decide +kernel
theorem D159_9 : pgDecT 159 9 = some (.if_icmp .ne 7, 3) := by decide +kernel
theorem D159_16 : pgDecT 159 16 = some (.iconst 0, 1) := by decide +kernel
theorem D159_17 : pgDecT 159 17 = some (.putfield 57, 3) := by decide +kernel
theorem F159_57 : pgFf 159 57 = some (7, 9, 1) := by decide +kernel
theorem D159_20 : pgDecT 159 20 = some (.aload_n 0, 1) := by decide +kernel
theorem D159_21 : pgDecT 159 21 = some (.getfield 57, 3) := by decide +kernel
theorem D159_24 : pgDecT 159 24 = some (.ifCond .ne 13, 3) := by decide +kernel
theorem D159_27 : pgDecT 159 27 = some (.aload_n 0, 1) := by decide +kernel
theorem D159_28 : pgDecT 159 28 = some (.dup, 1) := by decide +kernel
theorem D159_29 : pgDecT 159 29 = some (.getfield 51, 3) := by decide +kernel
theorem D159_32 : pgDecT 159 32 = some (.iconst 1, 1) := by decide +kernel
theorem D159_33 : pgDecT 159 33 = some (.iadd, 1) := by decide +kernel
theorem D159_34 : pgDecT 159 34 = some (.putfield 51, 3) := by decide +kernel
theorem D159_37 : pgDecT 159 37 = some (.aload_n 0, 1) := by decide +kernel
theorem D159_38 : pgDecT 159 38 = some (.getfield 57, 3) := by decide +kernel
theorem D159_41 : pgDecT 159 41 = some (.ifCond .ne 7, 3) := by decide +kernel
theorem D159_44 : pgDecT 159 44 = some (.iconst 1, 1) := by decide +kernel
theorem D159_45 : pgDecT 159 45 = some (.goto 4, 3) := by decide +kernel
theorem D159_49 : pgDecT 159 49 = some (.ireturn, 1) := by decide +kernel
theorem D159_12 : pgDecT 159 12 = some (.iconst 1, 1) := by decide +kernel
theorem D159_13 : pgDecT 159 13 = some (.goto 4, 3) := by decide +kernel
theorem D159_48 : pgDecT 159 48 = some (.iconst 0, 1) := by decide +kernel
/-! 159: DictionaryHouse$Machine.takeStep ()Z -/
def f159 (M : Mm) : Option (Int × Mm) := if ¬ (M 47 7) = (M 47 8) then (if rg ((M 47 7) + 1) then (some (1, (up (up M 47 9 0) 47 7 ((M 47 7) + 1)))) else none) else (some (0, (up M 47 9 1)))
theorem c159 {L : Nat} {xs : Nat → Int32} {h : mvH} {M : Mm} {v : Int} {M' : Mm} (R : rp h M)  (hs : f159 M  = some (v, M')) : evx L xs 1 159 0 [(0, .inr (.inr (.inl (some 47))))] [] h (.inl (some (.inl v)), 0) M' := by
  unfold f159 at hs
  refine evx_F E159 D159_0 rfl rfl ?_
  refine evx_F E159 D159_1 rfl rfl ?_
  refine evx_gfi (k := 7) E159 D159_2 F159_51 H47 rfl R ?_
  refine evx_F E159 D159_5 rfl rfl ?_
  refine evx_gfi (k := 8) E159 D159_6 F159_54 H47 rfl R ?_
  by_cases cb1 : ¬ (M 47 7) = (M 47 8)
  · rw [if_pos cb1] at hs
    refine evx_F E159 D159_9 rfl (ifT (c2_ne_T (R.1 47 7) (R.1 47 8) cb1)) ?_
    refine evx_F E159 D159_16 rfl rfl ?_
    refine evx_pfi (k := 9) E159 D159_17 F159_57 H47 rfl R (by decide) rfl ?_
    intro h2 R3
    refine evx_F E159 D159_20 rfl rfl ?_
    refine evx_gfi (k := 9) E159 D159_21 F159_57 H47 rfl R3 ?_
    show evx _ _ _ _ _ _ (.inl (iz 0) :: _) _ _ _
    refine evx_F E159 D159_24 rfl rfl ?_
    refine evx_F E159 D159_27 rfl rfl ?_
    refine evx_F E159 D159_28 rfl rfl ?_
    refine evx_gfi (k := 7) E159 D159_29 F159_51 H47 rfl R3 ?_
    show evx _ _ _ _ _ _ (.inl (iz (M 47 7)) :: _) _ _ _
    refine evx_F E159 D159_32 rfl rfl ?_
    refine evx_add E159 D159_33 ?_
    obtain ⟨k4, hs⟩ := ck hs
    refine evx_pfi (k := 7) E159 D159_34 F159_51 H47 rfl R3 k4 rfl ?_
    intro h5 R6
    refine evx_F E159 D159_37 rfl rfl ?_
    refine evx_gfi (k := 9) E159 D159_38 F159_57 H47 rfl R6 ?_
    show evx _ _ _ _ _ _ (.inl (iz 0) :: _) _ _ _
    refine evx_F E159 D159_41 rfl rfl ?_
    refine evx_F E159 D159_44 rfl rfl ?_
    refine evx_F E159 D159_45 rfl rfl ?_
    cases hs
    exact evx_ret E159 D159_49 rfl (fun d => rfl) rfl (show rg _ from (by decide)) R6
  · rw [if_neg cb1] at hs
    refine evx_F E159 D159_9 rfl (ifF (c2_ne_F (R.1 47 7) (R.1 47 8) (by omega))) ?_
    refine evx_F E159 D159_12 rfl rfl ?_
    refine evx_F E159 D159_13 rfl rfl ?_
    refine evx_pfi (k := 9) E159 D159_17 F159_57 H47 rfl R (by decide) rfl ?_
    intro h7 R8
    refine evx_F E159 D159_20 rfl rfl ?_
    refine evx_gfi (k := 9) E159 D159_21 F159_57 H47 rfl R8 ?_
    show evx _ _ _ _ _ _ (.inl (iz 1) :: _) _ _ _
    refine evx_F E159 D159_24 rfl rfl ?_
    refine evx_F E159 D159_37 rfl rfl ?_
    refine evx_gfi (k := 9) E159 D159_38 F159_57 H47 rfl R8 ?_
    show evx _ _ _ _ _ _ (.inl (iz 1) :: _) _ _ _
    refine evx_F E159 D159_41 rfl rfl ?_
    refine evx_F E159 D159_48 rfl rfl ?_
    cases hs
    exact evx_ret E159 D159_49 rfl (fun d => rfl) rfl (show rg _ from (by decide)) R8
set_option maxRecDepth 20000 in
theorem E161 : pgMm 161 = some (⟨"DictionaryHouse$Heap", "newCell", "(IIIII)I"⟩, prog_8_method_7_code, 7, (some .int), []) := rfl
theorem D161_0 : pgDecT 161 0 = some (.aload_n 0, 1) := by decide +kernel
theorem D161_1 : pgDecT 161 1 = some (.getfield 18, 3) := by decide +kernel
theorem F161_18 : pgFf 161 18 = some (6, 2, 0) := by decide +kernel
theorem D161_4 : pgDecT 161 4 = some (.iconst 5, 1) := by decide +kernel
theorem D161_5 : pgDecT 161 5 = some (.imul, 1) := by decide +kernel
theorem D161_6 : pgDecT 161 6 = some (.istore 6, 2) := by decide +kernel
theorem D161_8 : pgDecT 161 8 = some (.aload_n 0, 1) := by decide +kernel
theorem D161_9 : pgDecT 161 9 = some (.getfield 11, 3) := by decide +kernel
theorem F161_11 : pgFf 161 11 = some (6, 0, 3) := by decide +kernel
theorem D161_12 : pgDecT 161 12 = some (.iload 6, 2) := by decide +kernel
theorem D161_14 : pgDecT 161 14 = some (.iload_n 1, 1) := by decide +kernel
theorem D161_15 : pgDecT 161 15 = some (.iastore, 1) := by decide +kernel
theorem D161_16 : pgDecT 161 16 = some (.aload_n 0, 1) := by decide +kernel
theorem D161_17 : pgDecT 161 17 = some (.getfield 11, 3) := by decide +kernel
theorem D161_20 : pgDecT 161 20 = some (.iload 6, 2) := by decide +kernel
theorem D161_22 : pgDecT 161 22 = some (.iconst 1, 1) := by decide +kernel
theorem D161_23 : pgDecT 161 23 = some (.iadd, 1) := by decide +kernel
theorem D161_24 : pgDecT 161 24 = some (.iload_n 2, 1) := by decide +kernel
theorem D161_25 : pgDecT 161 25 = some (.iastore, 1) := by decide +kernel
theorem D161_26 : pgDecT 161 26 = some (.aload_n 0, 1) := by decide +kernel
theorem D161_27 : pgDecT 161 27 = some (.getfield 11, 3) := by decide +kernel
theorem D161_30 : pgDecT 161 30 = some (.iload 6, 2) := by decide +kernel
theorem D161_32 : pgDecT 161 32 = some (.iconst 2, 1) := by decide +kernel
theorem D161_33 : pgDecT 161 33 = some (.iadd, 1) := by decide +kernel
theorem D161_34 : pgDecT 161 34 = some (.iload_n 3, 1) := by decide +kernel
theorem D161_35 : pgDecT 161 35 = some (.iastore, 1) := by decide +kernel
theorem D161_36 : pgDecT 161 36 = some (.aload_n 0, 1) := by decide +kernel
theorem D161_37 : pgDecT 161 37 = some (.getfield 11, 3) := by decide +kernel
theorem D161_40 : pgDecT 161 40 = some (.iload 6, 2) := by decide +kernel
theorem D161_42 : pgDecT 161 42 = some (.iconst 3, 1) := by decide +kernel
theorem D161_43 : pgDecT 161 43 = some (.iadd, 1) := by decide +kernel
theorem D161_44 : pgDecT 161 44 = some (.iload 4, 2) := by decide +kernel
theorem D161_46 : pgDecT 161 46 = some (.iastore, 1) := by decide +kernel
theorem D161_47 : pgDecT 161 47 = some (.aload_n 0, 1) := by decide +kernel
theorem D161_48 : pgDecT 161 48 = some (.getfield 11, 3) := by decide +kernel
theorem D161_51 : pgDecT 161 51 = some (.iload 6, 2) := by decide +kernel
theorem D161_53 : pgDecT 161 53 = some (.iconst 4, 1) := by decide +kernel
theorem D161_54 : pgDecT 161 54 = some (.iadd, 1) := by decide +kernel
theorem D161_55 : pgDecT 161 55 = some (.iload 5, 2) := by decide +kernel
theorem D161_57 : pgDecT 161 57 = some (.iastore, 1) := by decide +kernel
theorem D161_58 : pgDecT 161 58 = some (.aload_n 0, 1) := by decide +kernel
theorem D161_59 : pgDecT 161 59 = some (.dup, 1) := by decide +kernel
theorem D161_60 : pgDecT 161 60 = some (.getfield 18, 3) := by decide +kernel
theorem D161_63 : pgDecT 161 63 = some (.dup_x1, 1) := by decide +kernel
theorem D161_64 : pgDecT 161 64 = some (.iconst 1, 1) := by decide +kernel
theorem D161_65 : pgDecT 161 65 = some (.iadd, 1) := by decide +kernel
theorem D161_66 : pgDecT 161 66 = some (.putfield 18, 3) := by decide +kernel
theorem D161_69 : pgDecT 161 69 = some (.ireturn, 1) := by decide +kernel
/-! 161: DictionaryHouse$Heap.newCell (IIIII)I -/
def f161 (M : Mm) (x1 : Int) (x2 : Int) (x3 : Int) (x4 : Int) (x5 : Int) : Option (Int × Mm) := if 0 ≤ ((M 48 2) * 5) ∧ ((M 48 2) * 5) < 3010 then (if 0 ≤ (((M 48 2) * 5) + 1) ∧ (((M 48 2) * 5) + 1) < 3010 then (if 0 ≤ (((M 48 2) * 5) + 2) ∧ (((M 48 2) * 5) + 2) < 3010 then (if 0 ≤ (((M 48 2) * 5) + 3) ∧ (((M 48 2) * 5) + 3) < 3010 then (if 0 ≤ (((M 48 2) * 5) + 4) ∧ (((M 48 2) * 5) + 4) < 3010 then (if rg ((M 48 2) + 1) then (some ((M 48 2), (up (up (up (up (up (up M 49 (Int.toNat ((M 48 2) * 5)) x1) 49 (Int.toNat (((M 48 2) * 5) + 1)) x2) 49 (Int.toNat (((M 48 2) * 5) + 2)) x3) 49 (Int.toNat (((M 48 2) * 5) + 3)) x4) 49 (Int.toNat (((M 48 2) * 5) + 4)) x5) 48 2 ((M 48 2) + 1)))) else none) else none) else none) else none) else none) else none
theorem c161 {L : Nat} {xs : Nat → Int32} {h : mvH} {M : Mm} {x1 x2 x3 x4 x5 : Int} {v : Int} {M' : Mm} (R : rp h M) (rx1 : rg x1) (rx2 : rg x2) (rx3 : rg x3) (rx4 : rg x4) (rx5 : rg x5) (hs : f161 M x1 x2 x3 x4 x5 = some (v, M')) : evx L xs 1 161 0 [(0, .inr (.inr (.inl (some 48)))), (1, .inl (iz x1)), (2, .inl (iz x2)), (3, .inl (iz x3)), (4, .inl (iz x4)), (5, .inl (iz x5))] [] h (.inl (some (.inl v)), 0) M' := by
  unfold f161 at hs
  refine evx_F E161 D161_0 rfl rfl ?_
  refine evx_gfi (k := 2) E161 D161_1 F161_18 H48 rfl R ?_
  refine evx_F E161 D161_4 rfl rfl ?_
  refine evx_mul E161 D161_5 ?_
  refine evx_F E161 D161_6 rfl rfl ?_
  refine evx_F E161 D161_8 rfl rfl ?_
  refine evx_gfr E161 D161_9 F161_11 H48 rfl R ?_
  refine evx_F E161 D161_12 rfl rfl ?_
  refine evx_F E161 D161_14 rfl rfl ?_
  obtain ⟨k1, hs⟩ := ck hs
  refine evx_ias E161 D161_15 H49 (by decide) R k1 rx1 ?_
  intro h2 R3
  refine evx_F E161 D161_16 rfl rfl ?_
  refine evx_gfr E161 D161_17 F161_11 H48 rfl R3 ?_
  refine evx_F E161 D161_20 rfl rfl ?_
  refine evx_F E161 D161_22 rfl rfl ?_
  refine evx_add E161 D161_23 ?_
  refine evx_F E161 D161_24 rfl rfl ?_
  obtain ⟨k4, hs⟩ := ck hs
  refine evx_ias E161 D161_25 H49 (by decide) R3 k4 rx2 ?_
  intro h5 R6
  refine evx_F E161 D161_26 rfl rfl ?_
  refine evx_gfr E161 D161_27 F161_11 H48 rfl R6 ?_
  refine evx_F E161 D161_30 rfl rfl ?_
  refine evx_F E161 D161_32 rfl rfl ?_
  refine evx_add E161 D161_33 ?_
  refine evx_F E161 D161_34 rfl rfl ?_
  obtain ⟨k7, hs⟩ := ck hs
  refine evx_ias E161 D161_35 H49 (by decide) R6 k7 rx3 ?_
  intro h8 R9
  refine evx_F E161 D161_36 rfl rfl ?_
  refine evx_gfr E161 D161_37 F161_11 H48 rfl R9 ?_
  refine evx_F E161 D161_40 rfl rfl ?_
  refine evx_F E161 D161_42 rfl rfl ?_
  refine evx_add E161 D161_43 ?_
  refine evx_F E161 D161_44 rfl rfl ?_
  obtain ⟨k10, hs⟩ := ck hs
  refine evx_ias E161 D161_46 H49 (by decide) R9 k10 rx4 ?_
  intro h11 R12
  refine evx_F E161 D161_47 rfl rfl ?_
  refine evx_gfr E161 D161_48 F161_11 H48 rfl R12 ?_
  refine evx_F E161 D161_51 rfl rfl ?_
  refine evx_F E161 D161_53 rfl rfl ?_
  refine evx_add E161 D161_54 ?_
  refine evx_F E161 D161_55 rfl rfl ?_
  obtain ⟨k13, hs⟩ := ck hs
  refine evx_ias E161 D161_57 H49 (by decide) R12 k13 rx5 ?_
  intro h14 R15
  refine evx_F E161 D161_58 rfl rfl ?_
  refine evx_F E161 D161_59 rfl rfl ?_
  refine evx_gfi (k := 2) E161 D161_60 F161_18 H48 rfl R15 ?_
  show evx _ _ _ _ _ _ (.inl (iz (M 48 2)) :: _) _ _ _
  refine evx_F E161 D161_63 rfl rfl ?_
  refine evx_F E161 D161_64 rfl rfl ?_
  refine evx_add E161 D161_65 ?_
  obtain ⟨k16, hs⟩ := ck hs
  refine evx_pfi (k := 2) E161 D161_66 F161_18 H48 rfl R15 k16 rfl ?_
  intro h17 R18
  cases hs
  exact evx_ret E161 D161_69 rfl (fun d => rfl) rfl (show rg _ from (R15.1 48 2)) R18
set_option maxRecDepth 20000 in
theorem E162 : pgMm 162 = some (⟨"DictionaryHouse$Machine", "yieldValue", "(I)V"⟩, prog_9_method_9_code, 2, none, []) := rfl
theorem D162_0 : pgDecT 162 0 = some (.aload_n 0, 1) := by decide +kernel
theorem D162_1 : pgDecT 162 1 = some (.iload_n 1, 1) := by decide +kernel
theorem D162_2 : pgDecT 162 2 = some (.putfield 99, 3) := by decide +kernel
theorem F162_99 : pgFf 162 99 = some (7, 14, 0) := by decide +kernel
theorem D162_5 : pgDecT 162 5 = some (.aload_n 0, 1) := by decide +kernel
theorem D162_6 : pgDecT 162 6 = some (.iconst (-1), 1) := by decide +kernel
theorem D162_7 : pgDecT 162 7 = some (.putfield 84, 3) := by decide +kernel
theorem F162_84 : pgFf 162 84 = some (7, 10, 0) := by decide +kernel
theorem D162_10 : pgDecT 162 10 = some (.return_, 1) := by decide +kernel
/-! 162: DictionaryHouse$Machine.yieldValue (I)V -/
def f162 (M : Mm) (x1 : Int) : Option (Int × Mm) := some (0, (up (up M 47 14 x1) 47 10 (-1)))
theorem c162 {L : Nat} {xs : Nat → Int32} {h : mvH} {M : Mm} {x1 : Int} {v : Int} {M' : Mm} (R : rp h M) (rx1 : rg x1) (hs : f162 M x1 = some (v, M')) : evx L xs 1 162 0 [(0, .inr (.inr (.inl (some 47)))), (1, .inl (iz x1))] [] h (.inl none, 0) M' := by
  unfold f162 at hs
  refine evx_F E162 D162_0 rfl rfl ?_
  refine evx_F E162 D162_1 rfl rfl ?_
  refine evx_pfi (k := 14) E162 D162_2 F162_99 H47 rfl R rx1 rfl ?_
  intro h1 R2
  refine evx_F E162 D162_5 rfl rfl ?_
  refine evx_F E162 D162_6 rfl rfl ?_
  refine evx_pfi (k := 10) E162 D162_7 F162_84 H47 rfl R2 (by decide) rfl ?_
  intro h3 R4
  cases hs
  exact evx_ret E162 D162_10 rfl (fun d => rfl) rfl trivial R4
set_option maxRecDepth 20000 in
theorem E165 : pgMm 165 = some (⟨"DictionaryHouse$Heap", "field", "(II)I"⟩, prog_8_method_11_code, 3, (some .int), []) := rfl
theorem D165_0 : pgDecT 165 0 = some (.aload_n 0, 1) := by decide +kernel
theorem D165_1 : pgDecT 165 1 = some (.getfield 11, 3) := by decide +kernel
theorem F165_11 : pgFf 165 11 = some (6, 0, 3) := by decide +kernel
theorem D165_4 : pgDecT 165 4 = some (.iload_n 1, 1) := by decide +kernel
theorem D165_5 : pgDecT 165 5 = some (.iconst 5, 1) := by decide +kernel
theorem D165_6 : pgDecT 165 6 = some (.imul, 1) := by decide +kernel
theorem D165_7 : pgDecT 165 7 = some (.iconst 1, 1) := by decide +kernel
theorem D165_8 : pgDecT 165 8 = some (.iadd, 1) := by decide +kernel
theorem D165_9 : pgDecT 165 9 = some (.iload_n 2, 1) := by decide +kernel
theorem D165_10 : pgDecT 165 10 = some (.iadd, 1) := by decide +kernel
theorem D165_11 : pgDecT 165 11 = some (.iaload, 1) := by decide +kernel
theorem D165_12 : pgDecT 165 12 = some (.ireturn, 1) := by decide +kernel
/-! 165: DictionaryHouse$Heap.field (II)I -/
def f165 (M : Mm) (x1 : Int) (x2 : Int) : Option Int := if 0 ≤ (((x1 * 5) + 1) + x2) ∧ (((x1 * 5) + 1) + x2) < 3010 then (some (M 49 (Int.toNat (((x1 * 5) + 1) + x2)))) else none
theorem c165 {L : Nat} {xs : Nat → Int32} {h : mvH} {M : Mm} {x1 x2 : Int} {v : Int} (R : rp h M) (rx1 : rg x1) (rx2 : rg x2) (hs : f165 M x1 x2 = some v) : evx L xs 1 165 0 [(0, .inr (.inr (.inl (some 48)))), (1, .inl (iz x1)), (2, .inl (iz x2))] [] h (.inl (some (.inl v)), 0) M := by
  unfold f165 at hs
  refine evx_F E165 D165_0 rfl rfl ?_
  refine evx_gfr E165 D165_1 F165_11 H48 rfl R ?_
  refine evx_F E165 D165_4 rfl rfl ?_
  refine evx_F E165 D165_5 rfl rfl ?_
  refine evx_mul E165 D165_6 ?_
  refine evx_F E165 D165_7 rfl rfl ?_
  refine evx_add E165 D165_8 ?_
  refine evx_F E165 D165_9 rfl rfl ?_
  refine evx_add E165 D165_10 ?_
  obtain ⟨k1, hs⟩ := ck hs
  refine evx_ial E165 D165_11 H49 (by decide) R k1 ?_
  cases hs
  exact evx_ret E165 D165_12 rfl (fun d => rfl) rfl (show rg _ from (R.1 49 (Int.toNat (((x1 * 5) + 1) + x2)))) R
set_option maxRecDepth 20000 in
theorem E166 : pgMm 166 = some (⟨"DictionaryHouse$Machine", "letWait", "(IIIII)V"⟩, prog_9_method_10_code, 7, none, []) := rfl
theorem D166_0 : pgDecT 166 0 = some (.aload_n 0, 1) := by decide +kernel
theorem D166_1 : pgDecT 166 1 = some (.getfield 48, 3) := by decide +kernel
theorem F166_48 : pgFf 166 48 = some (7, 6, 0) := by decide +kernel
theorem D166_4 : pgDecT 166 4 = some (.iconst 5, 1) := by decide +kernel
theorem D166_5 : pgDecT 166 5 = some (.imul, 1) := by decide +kernel
theorem D166_6 : pgDecT 166 6 = some (.istore 6, 2) := by decide +kernel
theorem D166_8 : pgDecT 166 8 = some (.aload_n 0, 1) := by decide +kernel
theorem D166_9 : pgDecT 166 9 = some (.getfield 18, 3) := by decide +kernel
theorem F166_18 : pgFf 166 18 = some (7, 5, 3) := by decide +kernel
theorem D166_12 : pgDecT 166 12 = some (.iload 6, 2) := by decide +kernel
theorem D166_14 : pgDecT 166 14 = some (.iload_n 1, 1) := by decide +kernel
theorem D166_15 : pgDecT 166 15 = some (.iastore, 1) := by decide +kernel
theorem D166_16 : pgDecT 166 16 = some (.aload_n 0, 1) := by decide +kernel
theorem D166_17 : pgDecT 166 17 = some (.getfield 18, 3) := by decide +kernel
theorem D166_20 : pgDecT 166 20 = some (.iload 6, 2) := by decide +kernel
theorem D166_22 : pgDecT 166 22 = some (.iconst 1, 1) := by decide +kernel
theorem D166_23 : pgDecT 166 23 = some (.iadd, 1) := by decide +kernel
theorem D166_24 : pgDecT 166 24 = some (.iload_n 2, 1) := by decide +kernel
theorem D166_25 : pgDecT 166 25 = some (.iastore, 1) := by decide +kernel
theorem D166_26 : pgDecT 166 26 = some (.aload_n 0, 1) := by decide +kernel
theorem D166_27 : pgDecT 166 27 = some (.getfield 18, 3) := by decide +kernel
theorem D166_30 : pgDecT 166 30 = some (.iload 6, 2) := by decide +kernel
theorem D166_32 : pgDecT 166 32 = some (.iconst 2, 1) := by decide +kernel
theorem D166_33 : pgDecT 166 33 = some (.iadd, 1) := by decide +kernel
theorem D166_34 : pgDecT 166 34 = some (.iload_n 3, 1) := by decide +kernel
theorem D166_35 : pgDecT 166 35 = some (.iastore, 1) := by decide +kernel
theorem D166_36 : pgDecT 166 36 = some (.aload_n 0, 1) := by decide +kernel
theorem D166_37 : pgDecT 166 37 = some (.getfield 18, 3) := by decide +kernel
theorem D166_40 : pgDecT 166 40 = some (.iload 6, 2) := by decide +kernel
theorem D166_42 : pgDecT 166 42 = some (.iconst 3, 1) := by decide +kernel
theorem D166_43 : pgDecT 166 43 = some (.iadd, 1) := by decide +kernel
theorem D166_44 : pgDecT 166 44 = some (.iload 4, 2) := by decide +kernel
theorem D166_46 : pgDecT 166 46 = some (.iastore, 1) := by decide +kernel
theorem D166_47 : pgDecT 166 47 = some (.aload_n 0, 1) := by decide +kernel
theorem D166_48 : pgDecT 166 48 = some (.getfield 18, 3) := by decide +kernel
theorem D166_51 : pgDecT 166 51 = some (.iload 6, 2) := by decide +kernel
theorem D166_53 : pgDecT 166 53 = some (.iconst 4, 1) := by decide +kernel
theorem D166_54 : pgDecT 166 54 = some (.iadd, 1) := by decide +kernel
theorem D166_55 : pgDecT 166 55 = some (.iload 5, 2) := by decide +kernel
theorem D166_57 : pgDecT 166 57 = some (.iastore, 1) := by decide +kernel
theorem D166_58 : pgDecT 166 58 = some (.aload_n 0, 1) := by decide +kernel
theorem D166_59 : pgDecT 166 59 = some (.dup, 1) := by decide +kernel
theorem D166_60 : pgDecT 166 60 = some (.getfield 48, 3) := by decide +kernel
theorem D166_63 : pgDecT 166 63 = some (.iconst 1, 1) := by decide +kernel
theorem D166_64 : pgDecT 166 64 = some (.iadd, 1) := by decide +kernel
theorem D166_65 : pgDecT 166 65 = some (.putfield 48, 3) := by decide +kernel
theorem D166_68 : pgDecT 166 68 = some (.return_, 1) := by decide +kernel
/-! 166: DictionaryHouse$Machine.letWait (IIIII)V -/
def f166 (M : Mm) (x1 : Int) (x2 : Int) (x3 : Int) (x4 : Int) (x5 : Int) : Option (Int × Mm) := if 0 ≤ ((M 47 6) * 5) ∧ ((M 47 6) * 5) < 4515 then (if 0 ≤ (((M 47 6) * 5) + 1) ∧ (((M 47 6) * 5) + 1) < 4515 then (if 0 ≤ (((M 47 6) * 5) + 2) ∧ (((M 47 6) * 5) + 2) < 4515 then (if 0 ≤ (((M 47 6) * 5) + 3) ∧ (((M 47 6) * 5) + 3) < 4515 then (if 0 ≤ (((M 47 6) * 5) + 4) ∧ (((M 47 6) * 5) + 4) < 4515 then (if rg ((M 47 6) + 1) then (some (0, (up (up (up (up (up (up M 51 (Int.toNat ((M 47 6) * 5)) x1) 51 (Int.toNat (((M 47 6) * 5) + 1)) x2) 51 (Int.toNat (((M 47 6) * 5) + 2)) x3) 51 (Int.toNat (((M 47 6) * 5) + 3)) x4) 51 (Int.toNat (((M 47 6) * 5) + 4)) x5) 47 6 ((M 47 6) + 1)))) else none) else none) else none) else none) else none) else none
theorem c166 {L : Nat} {xs : Nat → Int32} {h : mvH} {M : Mm} {x1 x2 x3 x4 x5 : Int} {v : Int} {M' : Mm} (R : rp h M) (rx1 : rg x1) (rx2 : rg x2) (rx3 : rg x3) (rx4 : rg x4) (rx5 : rg x5) (hs : f166 M x1 x2 x3 x4 x5 = some (v, M')) : evx L xs 1 166 0 [(0, .inr (.inr (.inl (some 47)))), (1, .inl (iz x1)), (2, .inl (iz x2)), (3, .inl (iz x3)), (4, .inl (iz x4)), (5, .inl (iz x5))] [] h (.inl none, 0) M' := by
  unfold f166 at hs
  refine evx_F E166 D166_0 rfl rfl ?_
  refine evx_gfi (k := 6) E166 D166_1 F166_48 H47 rfl R ?_
  refine evx_F E166 D166_4 rfl rfl ?_
  refine evx_mul E166 D166_5 ?_
  refine evx_F E166 D166_6 rfl rfl ?_
  refine evx_F E166 D166_8 rfl rfl ?_
  refine evx_gfr E166 D166_9 F166_18 H47 rfl R ?_
  refine evx_F E166 D166_12 rfl rfl ?_
  refine evx_F E166 D166_14 rfl rfl ?_
  obtain ⟨k1, hs⟩ := ck hs
  refine evx_ias E166 D166_15 H51 (by decide) R k1 rx1 ?_
  intro h2 R3
  refine evx_F E166 D166_16 rfl rfl ?_
  refine evx_gfr E166 D166_17 F166_18 H47 rfl R3 ?_
  refine evx_F E166 D166_20 rfl rfl ?_
  refine evx_F E166 D166_22 rfl rfl ?_
  refine evx_add E166 D166_23 ?_
  refine evx_F E166 D166_24 rfl rfl ?_
  obtain ⟨k4, hs⟩ := ck hs
  refine evx_ias E166 D166_25 H51 (by decide) R3 k4 rx2 ?_
  intro h5 R6
  refine evx_F E166 D166_26 rfl rfl ?_
  refine evx_gfr E166 D166_27 F166_18 H47 rfl R6 ?_
  refine evx_F E166 D166_30 rfl rfl ?_
  refine evx_F E166 D166_32 rfl rfl ?_
  refine evx_add E166 D166_33 ?_
  refine evx_F E166 D166_34 rfl rfl ?_
  obtain ⟨k7, hs⟩ := ck hs
  refine evx_ias E166 D166_35 H51 (by decide) R6 k7 rx3 ?_
  intro h8 R9
  refine evx_F E166 D166_36 rfl rfl ?_
  refine evx_gfr E166 D166_37 F166_18 H47 rfl R9 ?_
  refine evx_F E166 D166_40 rfl rfl ?_
  refine evx_F E166 D166_42 rfl rfl ?_
  refine evx_add E166 D166_43 ?_
  refine evx_F E166 D166_44 rfl rfl ?_
  obtain ⟨k10, hs⟩ := ck hs
  refine evx_ias E166 D166_46 H51 (by decide) R9 k10 rx4 ?_
  intro h11 R12
  refine evx_F E166 D166_47 rfl rfl ?_
  refine evx_gfr E166 D166_48 F166_18 H47 rfl R12 ?_
  refine evx_F E166 D166_51 rfl rfl ?_
  refine evx_F E166 D166_53 rfl rfl ?_
  refine evx_add E166 D166_54 ?_
  refine evx_F E166 D166_55 rfl rfl ?_
  obtain ⟨k13, hs⟩ := ck hs
  refine evx_ias E166 D166_57 H51 (by decide) R12 k13 rx5 ?_
  intro h14 R15
  refine evx_F E166 D166_58 rfl rfl ?_
  refine evx_F E166 D166_59 rfl rfl ?_
  refine evx_gfi (k := 6) E166 D166_60 F166_48 H47 rfl R15 ?_
  show evx _ _ _ _ _ _ (.inl (iz (M 47 6)) :: _) _ _ _
  refine evx_F E166 D166_63 rfl rfl ?_
  refine evx_add E166 D166_64 ?_
  obtain ⟨k16, hs⟩ := ck hs
  refine evx_pfi (k := 6) E166 D166_65 F166_48 H47 rfl R15 k16 rfl ?_
  intro h17 R18
  cases hs
  exact evx_ret E166 D166_68 rfl (fun d => rfl) rfl trivial R18
set_option maxRecDepth 20000 in
theorem E168 : pgMm 168 = some (⟨"DictionaryHouse$Heap", "frames", "()[I"⟩, prog_8_method_4_code, 1, (some (.array .int)), []) := rfl
theorem D168_0 : pgDecT 168 0 = some (.aload_n 0, 1) := by decide +kernel
theorem D168_1 : pgDecT 168 1 = some (.getfield 15, 3) := by decide +kernel
theorem F168_15 : pgFf 168 15 = some (6, 1, 3) := by decide +kernel
theorem D168_4 : pgDecT 168 4 = some (.areturn, 1) := by decide +kernel
/-! 168: DictionaryHouse$Heap.frames ()[I -/
def f168 (M : Mm) : Option Int := some 0
theorem c168 {L : Nat} {xs : Nat → Int32} {h : mvH} {M : Mm} {v : Int} (R : rp h M)  (hs : f168 M  = some v) : evx L xs 1 168 0 [(0, .inr (.inr (.inl (some 48))))] [] h (.inl (some (.inr 50)), 0) M := by
  unfold f168 at hs
  refine evx_F E168 D168_0 rfl rfl ?_
  refine evx_gfr E168 D168_1 F168_15 H48 rfl R ?_
  cases hs
  exact evx_ret (w := some (.inr 50)) E168 D168_4 rfl (fun d => rfl) rfl trivial R
set_option maxRecDepth 20000 in
theorem E170 : pgMm 170 = some (⟨"DictionaryHouse$Plans", "shapeOf", "(I)I"⟩, prog_10_method_4_code, 1, (some .int), []) := rfl
theorem D170_0 : pgDecT 170 0 = some (.iload_n 0, 1) := by decide +kernel
theorem D170_1 : pgDecT 170 1 = some (.iconst 4, 1) := by decide +kernel
theorem D170_2 : pgDecT 170 2 = some (.if_icmp .lt 5, 3) := by decide +kernel
theorem D170_7 : pgDecT 170 7 = some (.iload_n 0, 1) := by decide +kernel
theorem D170_8 : pgDecT 170 8 = some (.iconst 2, 1) := by decide +kernel
theorem D170_9 : pgDecT 170 9 = some (.if_icmp .ne 7, 3) := by decide +kernel
theorem D170_16 : pgDecT 170 16 = some (.iload_n 0, 1) := by decide +kernel
theorem D170_17 : pgDecT 170 17 = some (.ireturn, 1) := by decide +kernel
theorem D170_12 : pgDecT 170 12 = some (.iconst (-1), 1) := by decide +kernel
theorem D170_13 : pgDecT 170 13 = some (.goto 4, 3) := by decide +kernel
theorem D170_5 : pgDecT 170 5 = some (.iconst 2, 1) := by decide +kernel
theorem D170_6 : pgDecT 170 6 = some (.ireturn, 1) := by decide +kernel
/-! 170: DictionaryHouse$Plans.shapeOf (I)I -/
def f170 (M : Mm) (x0 : Int) : Option Int := if x0 < 4 then (if ¬ x0 = 2 then (some x0) else (some (-1))) else (some 2)
theorem c170 {L : Nat} {xs : Nat → Int32} {h : mvH} {M : Mm} {x0 : Int} {v : Int} (R : rp h M) (rx0 : rg x0) (hs : f170 M x0 = some v) : evx L xs 1 170 0 [(0, .inl (iz x0))] [] h (.inl (some (.inl v)), 0) M := by
  unfold f170 at hs
  refine evx_F E170 D170_0 rfl rfl ?_
  refine evx_F E170 D170_1 rfl rfl ?_
  by_cases cb1 : x0 < 4
  · rw [if_pos cb1] at hs
    refine evx_F E170 D170_2 rfl (ifT (c2_lt_T rx0 (by decide) cb1)) ?_
    refine evx_F E170 D170_7 rfl rfl ?_
    refine evx_F E170 D170_8 rfl rfl ?_
    by_cases cb2 : ¬ x0 = 2
    · rw [if_pos cb2] at hs
      refine evx_F E170 D170_9 rfl (ifT (c2_ne_T rx0 (by decide) cb2)) ?_
      refine evx_F E170 D170_16 rfl rfl ?_
      cases hs
      exact evx_ret E170 D170_17 rfl (fun d => rfl) rfl (show rg _ from rx0) R
    · rw [if_neg cb2] at hs
      refine evx_F E170 D170_9 rfl (ifF (c2_ne_F rx0 (by decide) (by omega))) ?_
      refine evx_F E170 D170_12 rfl rfl ?_
      refine evx_F E170 D170_13 rfl rfl ?_
      cases hs
      exact evx_ret E170 D170_17 rfl (fun d => rfl) rfl (show rg _ from (by decide)) R
  · rw [if_neg cb1] at hs
    refine evx_F E170 D170_2 rfl (ifF (c2_lt_F rx0 (by decide) (by omega))) ?_
    refine evx_F E170 D170_5 rfl rfl ?_
    cases hs
    exact evx_ret E170 D170_6 rfl (fun d => rfl) rfl (show rg _ from (by decide)) R
set_option maxRecDepth 20000 in
theorem E171 : pgMm 171 = some (⟨"DictionaryHouse$Plans", "ofWhatListIs", "(I)I"⟩, prog_10_method_5_code, 1, (some .int), []) := rfl
theorem D171_0 : pgDecT 171 0 = some (.iload_n 0, 1) := by decide +kernel
theorem D171_1 : pgDecT 171 1 = some (.iconst 4, 1) := by decide +kernel
theorem D171_2 : pgDecT 171 2 = some (.if_icmp .lt 9, 3) := by decide +kernel
theorem D171_11 : pgDecT 171 11 = some (.iconst 2, 1) := by decide +kernel
theorem D171_12 : pgDecT 171 12 = some (.ireturn, 1) := by decide +kernel
theorem D171_5 : pgDecT 171 5 = some (.iload_n 0, 1) := by decide +kernel
theorem D171_6 : pgDecT 171 6 = some (.iconst 4, 1) := by decide +kernel
theorem D171_7 : pgDecT 171 7 = some (.isub, 1) := by decide +kernel
theorem D171_8 : pgDecT 171 8 = some (.goto 4, 3) := by decide +kernel
/-! 171: DictionaryHouse$Plans.ofWhatListIs (I)I -/
def f171 (M : Mm) (x0 : Int) : Option Int := if x0 < 4 then (some 2) else (if rg (x0 - 4) then (some (x0 - 4)) else none)
theorem c171 {L : Nat} {xs : Nat → Int32} {h : mvH} {M : Mm} {x0 : Int} {v : Int} (R : rp h M) (rx0 : rg x0) (hs : f171 M x0 = some v) : evx L xs 1 171 0 [(0, .inl (iz x0))] [] h (.inl (some (.inl v)), 0) M := by
  unfold f171 at hs
  refine evx_F E171 D171_0 rfl rfl ?_
  refine evx_F E171 D171_1 rfl rfl ?_
  by_cases cb1 : x0 < 4
  · rw [if_pos cb1] at hs
    refine evx_F E171 D171_2 rfl (ifT (c2_lt_T rx0 (by decide) cb1)) ?_
    refine evx_F E171 D171_11 rfl rfl ?_
    cases hs
    exact evx_ret E171 D171_12 rfl (fun d => rfl) rfl (show rg _ from (by decide)) R
  · rw [if_neg cb1] at hs
    refine evx_F E171 D171_2 rfl (ifF (c2_lt_F rx0 (by decide) (by omega))) ?_
    refine evx_F E171 D171_5 rfl rfl ?_
    refine evx_F E171 D171_6 rfl rfl ?_
    refine evx_sub E171 D171_7 ?_
    refine evx_F E171 D171_8 rfl rfl ?_
    obtain ⟨k2, hs⟩ := ck hs
    cases hs
    exact evx_ret E171 D171_12 rfl (fun d => rfl) rfl (show rg _ from k2) R
set_option maxRecDepth 20000 in
theorem E172 : pgMm 172 = some (⟨"DictionaryHouse$Heap", "setInFrame", "(III)V"⟩, prog_8_method_6_code, 4, none, []) := rfl
theorem D172_0 : pgDecT 172 0 = some (.aload_n 0, 1) := by decide +kernel
theorem D172_1 : pgDecT 172 1 = some (.getfield 15, 3) := by decide +kernel
theorem F172_15 : pgFf 172 15 = some (6, 1, 3) := by decide +kernel
theorem D172_4 : pgDecT 172 4 = some (.iload_n 1, 1) := by decide +kernel
theorem D172_5 : pgDecT 172 5 = some (.bipush 8, 2) := by decide +kernel
theorem D172_7 : pgDecT 172 7 = some (.imul, 1) := by decide +kernel
theorem D172_8 : pgDecT 172 8 = some (.iload_n 2, 1) := by decide +kernel
theorem D172_9 : pgDecT 172 9 = some (.iadd, 1) := by decide +kernel
theorem D172_10 : pgDecT 172 10 = some (.iload_n 3, 1) := by decide +kernel
theorem D172_11 : pgDecT 172 11 = some (.iastore, 1) := by decide +kernel
theorem D172_12 : pgDecT 172 12 = some (.return_, 1) := by decide +kernel
/-! 172: DictionaryHouse$Heap.setInFrame (III)V -/
def f172 (M : Mm) (x1 : Int) (x2 : Int) (x3 : Int) : Option (Int × Mm) := if 0 ≤ ((x1 * 8) + x2) ∧ ((x1 * 8) + x2) < 2416 then (some (0, (up M 50 (Int.toNat ((x1 * 8) + x2)) x3))) else none
theorem c172 {L : Nat} {xs : Nat → Int32} {h : mvH} {M : Mm} {x1 x2 x3 : Int} {v : Int} {M' : Mm} (R : rp h M) (rx1 : rg x1) (rx2 : rg x2) (rx3 : rg x3) (hs : f172 M x1 x2 x3 = some (v, M')) : evx L xs 1 172 0 [(0, .inr (.inr (.inl (some 48)))), (1, .inl (iz x1)), (2, .inl (iz x2)), (3, .inl (iz x3))] [] h (.inl none, 0) M' := by
  unfold f172 at hs
  refine evx_F E172 D172_0 rfl rfl ?_
  refine evx_gfr E172 D172_1 F172_15 H48 rfl R ?_
  refine evx_F E172 D172_4 rfl rfl ?_
  refine evx_k (k := 8) E172 D172_5 rfl (by decide) ?_
  refine evx_mul E172 D172_7 ?_
  refine evx_F E172 D172_8 rfl rfl ?_
  refine evx_add E172 D172_9 ?_
  refine evx_F E172 D172_10 rfl rfl ?_
  obtain ⟨k1, hs⟩ := ck hs
  refine evx_ias E172 D172_11 H50 (by decide) R k1 rx3 ?_
  intro h2 R3
  cases hs
  exact evx_ret E172 D172_12 rfl (fun d => rfl) rfl trivial R3
set_option maxRecDepth 20000 in
theorem E176 : pgMm 176 = some (⟨"DictionaryHouse$Heap", "kind", "(I)I"⟩, prog_8_method_10_code, 2, (some .int), []) := rfl
theorem D176_0 : pgDecT 176 0 = some (.aload_n 0, 1) := by decide +kernel
theorem D176_1 : pgDecT 176 1 = some (.getfield 11, 3) := by decide +kernel
theorem F176_11 : pgFf 176 11 = some (6, 0, 3) := by decide +kernel
theorem D176_4 : pgDecT 176 4 = some (.iload_n 1, 1) := by decide +kernel
theorem D176_5 : pgDecT 176 5 = some (.iconst 5, 1) := by decide +kernel
theorem D176_6 : pgDecT 176 6 = some (.imul, 1) := by decide +kernel
theorem D176_7 : pgDecT 176 7 = some (.iaload, 1) := by decide +kernel
theorem D176_8 : pgDecT 176 8 = some (.ireturn, 1) := by decide +kernel
/-! 176: DictionaryHouse$Heap.kind (I)I -/
def f176 (M : Mm) (x1 : Int) : Option Int := if 0 ≤ (x1 * 5) ∧ (x1 * 5) < 3010 then (some (M 49 (Int.toNat (x1 * 5)))) else none
theorem c176 {L : Nat} {xs : Nat → Int32} {h : mvH} {M : Mm} {x1 : Int} {v : Int} (R : rp h M) (rx1 : rg x1) (hs : f176 M x1 = some v) : evx L xs 1 176 0 [(0, .inr (.inr (.inl (some 48)))), (1, .inl (iz x1))] [] h (.inl (some (.inl v)), 0) M := by
  unfold f176 at hs
  refine evx_F E176 D176_0 rfl rfl ?_
  refine evx_gfr E176 D176_1 F176_11 H48 rfl R ?_
  refine evx_F E176 D176_4 rfl rfl ?_
  refine evx_F E176 D176_5 rfl rfl ?_
  refine evx_mul E176 D176_6 ?_
  obtain ⟨k1, hs⟩ := ck hs
  refine evx_ial E176 D176_7 H49 (by decide) R k1 ?_
  cases hs
  exact evx_ret E176 D176_8 rfl (fun d => rfl) rfl (show rg _ from (R.1 49 (Int.toNat (x1 * 5)))) R
set_option maxRecDepth 20000 in
theorem E178 : pgMm 178 = some (⟨"DictionaryHouse$Heap", "numberIn", "(I)I"⟩, prog_8_method_12_code, 2, (some .int), []) := rfl
theorem D178_0 : pgDecT 178 0 = some (.aload_n 0, 1) := by decide +kernel
theorem D178_1 : pgDecT 178 1 = some (.iload_n 1, 1) := by decide +kernel
theorem D178_2 : pgDecT 178 2 = some (.iconst 0, 1) := by decide +kernel
theorem D178_3 : pgDecT 178 3 = some (.invokevirtual 41, 3) := by decide +kernel
theorem I178_41 : pgIi 178 41 = some (165, 2, 6) := by decide +kernel
theorem D178_6 : pgDecT 178 6 = some (.ireturn, 1) := by decide +kernel
/-! 178: DictionaryHouse$Heap.numberIn (I)I -/
def f178 (M : Mm) (x1 : Int) : Option Int := (f165 M x1 0).bind (fun q2 => some q2)
theorem c178 {L : Nat} {xs : Nat → Int32} {h : mvH} {M : Mm} {x1 : Int} {v : Int} (R : rp h M) (rx1 : rg x1) (hs : f178 M x1 = some v) : evx L xs 2 178 0 [(0, .inr (.inr (.inl (some 48)))), (1, .inl (iz x1))] [] h (.inl (some (.inl v)), 0) M := by
  unfold f178 at hs
  refine evx_F E178 D178_0 rfl rfl ?_
  refine evx_F E178 D178_1 rfl rfl ?_
  refine evx_F E178 D178_2 rfl rfl ?_
  obtain ⟨q2, e1, hs⟩ := Option.bind_eq_some_iff.mp hs
  refine evx_cv (D := 1) E178 D178_3 I178_41 rfl rfl H48 ⟨Nat.le_of_ble_eq_true rfl, Nat.le_of_ble_eq_true rfl⟩ ⟨rfl, Nat.le_of_ble_eq_true rfl⟩ rfl R (evx_up (Nat.le_of_ble_eq_true rfl) (c165 R rx1 (by decide) e1)) ?_
  intro h3 R4 w5
  have w5 : rg q2 := w5
  show evx _ _ _ _ _ _ (.inl (iz q2) :: _) _ _ _
  cases hs
  exact evx_ret E178 D178_6 rfl (fun d => rfl) rfl (show rg _ from w5) R4
set_option maxRecDepth 20000 in
theorem E180 : pgMm 180 = some (⟨"DictionaryHouse$Heap", "lengthOf", "(I)I"⟩, prog_8_method_13_code, 2, (some .int), []) := rfl
theorem D180_0 : pgDecT 180 0 = some (.aload_n 0, 1) := by decide +kernel
theorem D180_1 : pgDecT 180 1 = some (.iload_n 1, 1) := by decide +kernel
theorem D180_2 : pgDecT 180 2 = some (.invokevirtual 45, 3) := by decide +kernel
theorem I180_45 : pgIi 180 45 = some (176, 1, 6) := by decide +kernel
theorem D180_5 : pgDecT 180 5 = some (.iconst 2, 1) := by decide +kernel
theorem D180_6 : pgDecT 180 6 = some (.if_icmp .ne 12, 3) := by decide +kernel
theorem D180_18 : pgDecT 180 18 = some (.iconst 0, 1) := by decide +kernel
theorem D180_19 : pgDecT 180 19 = some (.ireturn, 1) := by decide +kernel
theorem D180_9 : pgDecT 180 9 = some (.aload_n 0, 1) := by decide +kernel
theorem D180_10 : pgDecT 180 10 = some (.iload_n 1, 1) := by decide +kernel
theorem D180_11 : pgDecT 180 11 = some (.iconst 2, 1) := by decide +kernel
theorem D180_12 : pgDecT 180 12 = some (.invokevirtual 41, 3) := by decide +kernel
theorem I180_41 : pgIi 180 41 = some (165, 2, 6) := by decide +kernel
theorem D180_15 : pgDecT 180 15 = some (.goto 4, 3) := by decide +kernel
/-! 180: DictionaryHouse$Heap.lengthOf (I)I -/
def f180 (M : Mm) (x1 : Int) : Option Int := (f176 M x1).bind (fun q2 => if ¬ q2 = 2 then (some 0) else (f165 M x1 2).bind (fun q8 => some q8))
theorem c180 {L : Nat} {xs : Nat → Int32} {h : mvH} {M : Mm} {x1 : Int} {v : Int} (R : rp h M) (rx1 : rg x1) (hs : f180 M x1 = some v) : evx L xs 2 180 0 [(0, .inr (.inr (.inl (some 48)))), (1, .inl (iz x1))] [] h (.inl (some (.inl v)), 0) M := by
  unfold f180 at hs
  refine evx_F E180 D180_0 rfl rfl ?_
  refine evx_F E180 D180_1 rfl rfl ?_
  obtain ⟨q2, e1, hs⟩ := Option.bind_eq_some_iff.mp hs
  refine evx_cv (D := 1) E180 D180_2 I180_45 rfl rfl H48 ⟨Nat.le_of_ble_eq_true rfl, Nat.le_of_ble_eq_true rfl⟩ ⟨rfl, Nat.le_of_ble_eq_true rfl⟩ rfl R (evx_up (Nat.le_of_ble_eq_true rfl) (c176 R rx1 e1)) ?_
  intro h3 R4 w5
  have w5 : rg q2 := w5
  show evx _ _ _ _ _ _ (.inl (iz q2) :: _) _ _ _
  refine evx_F E180 D180_5 rfl rfl ?_
  by_cases cb6 : ¬ q2 = 2
  · rw [if_pos cb6] at hs
    refine evx_F E180 D180_6 rfl (ifT (c2_ne_T w5 (by decide) cb6)) ?_
    refine evx_F E180 D180_18 rfl rfl ?_
    cases hs
    exact evx_ret E180 D180_19 rfl (fun d => rfl) rfl (show rg _ from (by decide)) R4
  · rw [if_neg cb6] at hs
    refine evx_F E180 D180_6 rfl (ifF (c2_ne_F w5 (by decide) (by omega))) ?_
    refine evx_F E180 D180_9 rfl rfl ?_
    refine evx_F E180 D180_10 rfl rfl ?_
    refine evx_F E180 D180_11 rfl rfl ?_
    obtain ⟨q8, e7, hs⟩ := Option.bind_eq_some_iff.mp hs
    refine evx_cv (D := 1) E180 D180_12 I180_41 rfl rfl H48 ⟨Nat.le_of_ble_eq_true rfl, Nat.le_of_ble_eq_true rfl⟩ ⟨rfl, Nat.le_of_ble_eq_true rfl⟩ rfl R4 (evx_up (Nat.le_of_ble_eq_true rfl) (c165 R4 rx1 (by decide) e7)) ?_
    intro h9 R10 w11
    have w11 : rg q8 := w11
    show evx _ _ _ _ _ _ (.inl (iz q8) :: _) _ _ _
    refine evx_F E180 D180_15 rfl rfl ?_
    cases hs
    exact evx_ret E180 D180_19 rfl (fun d => rfl) rfl (show rg _ from w11) R10
set_option maxRecDepth 20000 in
theorem E185 : pgMm 185 = some (⟨"DictionaryHouse$Machine", "hasResult", "(I)Z"⟩, prog_9_method_2_code, 2, (some .boolean), []) := rfl
theorem D185_0 : pgDecT 185 0 = some (.aload_n 0, 1) := by decide +kernel
theorem D185_1 : pgDecT 185 1 = some (.getfield 25, 3) := by decide +kernel
theorem F185_25 : pgFf 185 25 = some (7, 16, 0) := by decide +kernel
theorem D185_4 : pgDecT 185 4 = some (.iconst (-1), 1) := by decide +kernel
theorem D185_5 : pgDecT 185 5 = some (.if_icmp .eq 20, 3) := by decide +kernel
theorem D185_25 : pgDecT 185 25 = some (.iconst 0, 1) := by decide +kernel
theorem D185_26 : pgDecT 185 26 = some (.ireturn, 1) := by decide +kernel
theorem D185_8 : pgDecT 185 8 = some (.iload_n 1, 1) := by decide +kernel
theorem D185_9 : pgDecT 185 9 = some (.iconst (-1), 1) := by decide +kernel
theorem D185_10 : pgDecT 185 10 = some (.if_icmp .lt 15, 3) := by decide +kernel
theorem D185_13 : pgDecT 185 13 = some (.iload_n 1, 1) := by decide +kernel
theorem D185_14 : pgDecT 185 14 = some (.aload_n 0, 1) := by decide +kernel
theorem D185_15 : pgDecT 185 15 = some (.getfield 25, 3) := by decide +kernel
theorem D185_18 : pgDecT 185 18 = some (.if_icmp .ge 7, 3) := by decide +kernel
theorem D185_21 : pgDecT 185 21 = some (.iconst 1, 1) := by decide +kernel
theorem D185_22 : pgDecT 185 22 = some (.goto 4, 3) := by decide +kernel
/-! 185: DictionaryHouse$Machine.hasResult (I)Z -/
def f185 (M : Mm) (x1 : Int) : Option Int := if (M 47 16) = (-1) then (some 0) else (if x1 < (-1) then (some 0) else (if (M 47 16) ≤ x1 then (some 0) else (some 1)))
theorem c185 {L : Nat} {xs : Nat → Int32} {h : mvH} {M : Mm} {x1 : Int} {v : Int} (R : rp h M) (rx1 : rg x1) (hs : f185 M x1 = some v) : evx L xs 1 185 0 [(0, .inr (.inr (.inl (some 47)))), (1, .inl (iz x1))] [] h (.inl (some (.inl v)), 0) M := by
  unfold f185 at hs
  refine evx_F E185 D185_0 rfl rfl ?_
  refine evx_gfi (k := 16) E185 D185_1 F185_25 H47 rfl R ?_
  refine evx_F E185 D185_4 rfl rfl ?_
  by_cases cb1 : (M 47 16) = (-1)
  · rw [if_pos cb1] at hs
    refine evx_F E185 D185_5 rfl (ifT (c2_eq_T (R.1 47 16) (by decide) cb1)) ?_
    refine evx_F E185 D185_25 rfl rfl ?_
    cases hs
    exact evx_ret E185 D185_26 rfl (fun d => rfl) rfl (show rg _ from (by decide)) R
  · rw [if_neg cb1] at hs
    refine evx_F E185 D185_5 rfl (ifF (c2_eq_F (R.1 47 16) (by decide) (by omega))) ?_
    refine evx_F E185 D185_8 rfl rfl ?_
    refine evx_F E185 D185_9 rfl rfl ?_
    by_cases cb2 : x1 < (-1)
    · rw [if_pos cb2] at hs
      refine evx_F E185 D185_10 rfl (ifT (c2_lt_T rx1 (by decide) cb2)) ?_
      refine evx_F E185 D185_25 rfl rfl ?_
      cases hs
      exact evx_ret E185 D185_26 rfl (fun d => rfl) rfl (show rg _ from (by decide)) R
    · rw [if_neg cb2] at hs
      refine evx_F E185 D185_10 rfl (ifF (c2_lt_F rx1 (by decide) (by omega))) ?_
      refine evx_F E185 D185_13 rfl rfl ?_
      refine evx_F E185 D185_14 rfl rfl ?_
      refine evx_gfi (k := 16) E185 D185_15 F185_25 H47 rfl R ?_
      by_cases cb3 : (M 47 16) ≤ x1
      · rw [if_pos cb3] at hs
        refine evx_F E185 D185_18 rfl (ifT (c2_ge_T rx1 (R.1 47 16) cb3)) ?_
        refine evx_F E185 D185_25 rfl rfl ?_
        cases hs
        exact evx_ret E185 D185_26 rfl (fun d => rfl) rfl (show rg _ from (by decide)) R
      · rw [if_neg cb3] at hs
        refine evx_F E185 D185_18 rfl (ifF (c2_ge_F rx1 (R.1 47 16) (by omega))) ?_
        refine evx_F E185 D185_21 rfl rfl ?_
        refine evx_F E185 D185_22 rfl rfl ?_
        cases hs
        exact evx_ret E185 D185_26 rfl (fun d => rfl) rfl (show rg _ from (by decide)) R
set_option maxRecDepth 20000 in
theorem E186 : pgMm 186 = some (⟨"DictionaryHouse$Machine", "result", "(I)I"⟩, prog_9_method_3_code, 2, (some .int), []) := rfl
theorem D186_0 : pgDecT 186 0 = some (.iload_n 1, 1) := by decide +kernel
theorem D186_1 : pgDecT 186 1 = some (.iconst (-1), 1) := by decide +kernel
theorem D186_2 : pgDecT 186 2 = some (.if_icmp .ne 10, 3) := by decide +kernel
theorem D186_12 : pgDecT 186 12 = some (.aload_n 0, 1) := by decide +kernel
theorem D186_13 : pgDecT 186 13 = some (.getfield 22, 3) := by decide +kernel
theorem F186_22 : pgFf 186 22 = some (7, 15, 3) := by decide +kernel
theorem D186_16 : pgDecT 186 16 = some (.iload_n 1, 1) := by decide +kernel
theorem D186_17 : pgDecT 186 17 = some (.iaload, 1) := by decide +kernel
theorem D186_18 : pgDecT 186 18 = some (.ireturn, 1) := by decide +kernel
theorem D186_5 : pgDecT 186 5 = some (.aload_n 0, 1) := by decide +kernel
theorem D186_6 : pgDecT 186 6 = some (.getfield 25, 3) := by decide +kernel
theorem F186_25 : pgFf 186 25 = some (7, 16, 0) := by decide +kernel
theorem D186_9 : pgDecT 186 9 = some (.goto 9, 3) := by decide +kernel
/-! 186: DictionaryHouse$Machine.result (I)I -/
def f186 (M : Mm) (x1 : Int) : Option Int := if ¬ x1 = (-1) then (if 0 ≤ x1 ∧ x1 < 301 then (some (M 52 (Int.toNat x1))) else none) else (some (M 47 16))
theorem c186 {L : Nat} {xs : Nat → Int32} {h : mvH} {M : Mm} {x1 : Int} {v : Int} (R : rp h M) (rx1 : rg x1) (hs : f186 M x1 = some v) : evx L xs 1 186 0 [(0, .inr (.inr (.inl (some 47)))), (1, .inl (iz x1))] [] h (.inl (some (.inl v)), 0) M := by
  unfold f186 at hs
  refine evx_F E186 D186_0 rfl rfl ?_
  refine evx_F E186 D186_1 rfl rfl ?_
  by_cases cb1 : ¬ x1 = (-1)
  · rw [if_pos cb1] at hs
    refine evx_F E186 D186_2 rfl (ifT (c2_ne_T rx1 (by decide) cb1)) ?_
    refine evx_F E186 D186_12 rfl rfl ?_
    refine evx_gfr E186 D186_13 F186_22 H47 rfl R ?_
    refine evx_F E186 D186_16 rfl rfl ?_
    obtain ⟨k2, hs⟩ := ck hs
    refine evx_ial E186 D186_17 H52 (by decide) R k2 ?_
    cases hs
    exact evx_ret E186 D186_18 rfl (fun d => rfl) rfl (show rg _ from (R.1 52 (Int.toNat x1))) R
  · rw [if_neg cb1] at hs
    refine evx_F E186 D186_2 rfl (ifF (c2_ne_F rx1 (by decide) (by omega))) ?_
    refine evx_F E186 D186_5 rfl rfl ?_
    refine evx_gfi (k := 16) E186 D186_6 F186_25 H47 rfl R ?_
    refine evx_F E186 D186_9 rfl rfl ?_
    cases hs
    exact evx_ret E186 D186_18 rfl (fun d => rfl) rfl (show rg _ from (R.1 47 16)) R
set_option maxRecDepth 20000 in
theorem E188 : pgMm 188 = some (⟨"DictionaryHouseModel", "thrown", "()I"⟩, prog_14_method_2_code, 1, (some .int), []) := rfl
theorem D188_0 : pgDecT 188 0 = some (.aload_n 0, 1) := by decide +kernel
theorem D188_1 : pgDecT 188 1 = some (.getfield 182, 3) := by decide +kernel
theorem F188_182 : pgFf 188 182 = some (12, 0, 0) := by decide +kernel
theorem D188_4 : pgDecT 188 4 = some (.ireturn, 1) := by decide +kernel
/-! 188: DictionaryHouseModel.thrown ()I -/
def f188 (M : Mm) : Option Int := some (M 53 0)
theorem c188 {L : Nat} {xs : Nat → Int32} {h : mvH} {M : Mm} {v : Int} (R : rp h M)  (hs : f188 M  = some v) : evx L xs 1 188 0 [(0, .inr (.inr (.inl (some 53))))] [] h (.inl (some (.inl v)), 0) M := by
  unfold f188 at hs
  refine evx_F E188 D188_0 rfl rfl ?_
  refine evx_gfi (k := 0) E188 D188_1 F188_182 H53 rfl R ?_
  cases hs
  exact evx_ret E188 D188_4 rfl (fun d => rfl) rfl (show rg _ from (R.1 53 0)) R
