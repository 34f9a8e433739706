/-! More methods as functions, printed by a program. -/
set_option maxRecDepth 20000 in
theorem E90 : pgMm 90 = some (⟨"DictionaryHouse$Typing", "markWanted", "(I)V"⟩, prog_12_method_18_code, 3, none, []) := rfl
theorem D90_0 : pgDecT 90 0 = some (.iconst 0, 1) := by decide +kernel
theorem D90_1 : pgDecT 90 1 = some (.istore_n 2, 1) := by decide +kernel
theorem D90_2 : pgDecT 90 2 = some (.iload_n 2, 1) := by decide +kernel
theorem D90_3 : pgDecT 90 3 = some (.iload_n 1, 1) := by decide +kernel
theorem D90_4 : pgDecT 90 4 = some (.if_icmp .ge 16, 3) := by decide +kernel
theorem D90_20 : pgDecT 90 20 = some (.aload_n 0, 1) := by decide +kernel
theorem D90_21 : pgDecT 90 21 = some (.getfield 40, 3) := by decide +kernel
theorem F90_40 : pgFf 90 40 = some (10, 12, 3) := by decide +kernel
theorem D90_24 : pgDecT 90 24 = some (.iload_n 1, 1) := by decide +kernel
theorem D90_25 : pgDecT 90 25 = some (.iconst 1, 1) := by decide +kernel
theorem D90_26 : pgDecT 90 26 = some (.bastore, 1) := by decide +kernel
theorem D90_27 : pgDecT 90 27 = some (.iload_n 1, 1) := by decide +kernel
theorem D90_28 : pgDecT 90 28 = some (.istore_n 2, 1) := by decide +kernel
theorem D90_29 : pgDecT 90 29 = some (.iload_n 2, 1) := by decide +kernel
theorem D90_7 : pgDecT 90 7 = some (.aload_n 0, 1) := by decide +kernel
theorem D90_8 : pgDecT 90 8 = some (.getfield 40, 3) := by decide +kernel
theorem D90_11 : pgDecT 90 11 = some (.iload_n 2, 1) := by decide +kernel
theorem D90_12 : pgDecT 90 12 = some (.iconst 0, 1) := by decide +kernel
theorem D90_13 : pgDecT 90 13 = some (.bastore, 1) := by decide +kernel
theorem D90_14 : pgDecT 90 14 = some (.iinc 2 1, 3) := by decide +kernel
theorem D90_17 : pgDecT 90 17 = some (.goto (-15), 3) := by decide +kernel
theorem D90_30 : pgDecT 90 30 = some (.bipush 10, 2) := by decide +kernel
theorem D90_32 : pgDecT 90 32 = some (.if_icmp .lt 57, 3) := by decide +kernel
theorem D90_89 : pgDecT 90 89 = some (.return_, 1) := by decide +kernel
theorem D90_35 : pgDecT 90 35 = some (.aload_n 0, 1) := by decide +kernel
theorem D90_36 : pgDecT 90 36 = some (.getfield 40, 3) := by decide +kernel
theorem D90_39 : pgDecT 90 39 = some (.iload_n 2, 1) := by decide +kernel
theorem D90_40 : pgDecT 90 40 = some (.baload, 1) := by decide +kernel
theorem D90_41 : pgDecT 90 41 = some (.ifCond .eq 42, 3) := by decide +kernel
theorem D90_83 : pgDecT 90 83 = some (.iinc 2 (-1), 3) := by decide +kernel
theorem D90_86 : pgDecT 90 86 = some (.goto (-57), 3) := by decide +kernel
theorem D90_44 : pgDecT 90 44 = some (.aload_n 0, 1) := by decide +kernel
theorem D90_45 : pgDecT 90 45 = some (.getfield 40, 3) := by decide +kernel
theorem D90_48 : pgDecT 90 48 = some (.aload_n 0, 1) := by decide +kernel
theorem D90_49 : pgDecT 90 49 = some (.getfield 44, 3) := by decide +kernel
theorem F90_44 : pgFf 90 44 = some (10, 0, 3) := by decide +kernel
theorem D90_52 : pgDecT 90 52 = some (.iload_n 2, 1) := by decide +kernel
theorem D90_53 : pgDecT 90 53 = some (.invokevirtual 151, 3) := by decide +kernel
theorem I90_151 : pgIi 90 151 = some (91, 1, 9) := by decide +kernel
theorem D90_56 : pgDecT 90 56 = some (.iconst 1, 1) := by decide +kernel
theorem D90_57 : pgDecT 90 57 = some (.bastore, 1) := by decide +kernel
theorem D90_58 : pgDecT 90 58 = some (.aload_n 0, 1) := by decide +kernel
theorem D90_59 : pgDecT 90 59 = some (.getfield 44, 3) := by decide +kernel
theorem D90_62 : pgDecT 90 62 = some (.iload_n 2, 1) := by decide +kernel
theorem D90_63 : pgDecT 90 63 = some (.invokevirtual 148, 3) := by decide +kernel
theorem I90_148 : pgIi 90 148 = some (92, 1, 9) := by decide +kernel
theorem D90_66 : pgDecT 90 66 = some (.ifCond .ne 17, 3) := by decide +kernel
theorem D90_69 : pgDecT 90 69 = some (.aload_n 0, 1) := by decide +kernel
theorem D90_70 : pgDecT 90 70 = some (.getfield 40, 3) := by decide +kernel
theorem D90_73 : pgDecT 90 73 = some (.aload_n 0, 1) := by decide +kernel
theorem D90_74 : pgDecT 90 74 = some (.getfield 44, 3) := by decide +kernel
theorem D90_77 : pgDecT 90 77 = some (.iload_n 2, 1) := by decide +kernel
theorem D90_78 : pgDecT 90 78 = some (.invokevirtual 154, 3) := by decide +kernel
theorem I90_154 : pgIi 90 154 = some (93, 1, 9) := by decide +kernel
theorem D90_81 : pgDecT 90 81 = some (.iconst 1, 1) := by decide +kernel
theorem D90_82 : pgDecT 90 82 = some (.bastore, 1) := by decide +kernel
/-! 90: DictionaryHouse$Typing.markWanted (I)V -/
def l90 : Nat → Nat → Mm → Int → Int → Option (Int × Mm)
  | 0, _, _, _, _ => none
  | f + 1, 2, M, x1, x2 => if x1 ≤ x2 then (if 0 ≤ x1 ∧ x1 < 40 then (l90 f 29 (up M 41 (Int.toNat x1) 1) x1 x1) else none) else (if 0 ≤ x2 ∧ x2 < 40 then (if rg (x2 + 1) then (l90 f 2 (up M 41 (Int.toNat x2) 0) x1 (x2 + 1)) else none) else none)
  | f + 1, 29, M, x1, x2 => if x2 < 10 then (some (0, M)) else (if 0 ≤ x2 ∧ x2 < 40 then (if (M 41 (Int.toNat x2)) = 0 then (if rg (x2 + (-1)) then (l90 f 29 M x1 (x2 + (-1))) else none) else (f91 M x2).bind (fun q14 => if 0 ≤ q14 ∧ q14 < 40 then (f92 (up M 41 (Int.toNat q14) 1) x2).bind (fun q22 => if ¬ q22 = 0 then (if rg (x2 + (-1)) then (l90 f 29 (up M 41 (Int.toNat q14) 1) x1 (x2 + (-1))) else none) else (f93 (up M 41 (Int.toNat q14) 1) x2).bind (fun q29 => if 0 ≤ q29 ∧ q29 < 40 then (if rg (x2 + (-1)) then (l90 f 29 (up (up M 41 (Int.toNat q14) 1) 41 (Int.toNat q29) 1) x1 (x2 + (-1))) else none) else none)) else none)) else none)
  | _, _, _, _, _ => none
theorem d90 {L : Nat} {xs : Nat → Int32} (f : Nat) : (∀ (M : Mm) (x1 x2 : Int) (h : mvH) (v : Int) (M' : Mm), l90 f 2 M x1 x2 = some (v, M') → rp h M → rg x1 → rg x2 → evx L xs 2 90 2 [(0, .inr (.inr (.inl (some 24)))), (1, .inl (iz x1)), (2, .inl (iz x2))] [] h (.inl none, 0) M') ∧ (∀ (M : Mm) (x1 x2 : Int) (h : mvH) (v : Int) (M' : Mm), l90 f 29 M x1 x2 = some (v, M') → rp h M → rg x1 → rg x2 → evx L xs 2 90 29 [(0, .inr (.inr (.inl (some 24)))), (1, .inl (iz x1)), (2, .inl (iz x2))] [] h (.inl none, 0) M') := by
  induction f with
  | zero => exact ⟨(fun M x1 x2 h v M' hs _ _ _ => by cases hs), (fun M x1 x2 h v M' hs _ _ _ => by cases hs)⟩
  | succ f ih =>
    refine ⟨?_, ?_⟩
    · intro M x1 x2 h v M' hs R rx1 rx2
      rw [l90] at hs
      refine evx_F E90 D90_2 rfl rfl ?_
      refine evx_F E90 D90_3 rfl rfl ?_
      by_cases cb1 : x1 ≤ x2
      · rw [if_pos cb1] at hs
        refine evx_F E90 D90_4 rfl (ifT (c2_ge_T rx2 rx1 cb1)) ?_
        refine evx_F E90 D90_20 rfl rfl ?_
        refine evx_gfr E90 D90_21 F90_40 H24 rfl R ?_
        refine evx_F E90 D90_24 rfl rfl ?_
        refine evx_F E90 D90_25 rfl rfl ?_
        obtain ⟨k2, hs⟩ := ck hs
        refine evx_bas E90 D90_26 H41 (by decide) R k2 (by decide) ?_
        intro h3 R4
        refine evx_F E90 D90_27 rfl rfl ?_
        refine evx_F E90 D90_28 rfl rfl ?_
        show evx _ _ _ _ _ [(2, .inl (iz x1)), (0, .inr (.inr (.inl (some 24)))), (1, .inl (iz x1))] _ _ _ _
        exact evx_lv (lvLe_mk (fm rfl (fm rfl (fm rfl fn))) (fm rfl (fm rfl (fm rfl fn))) (fm rfl (fm rfl (fm rfl fn)))) (ih.2 _ _ _ _ _ _ hs R4 rx1 rx1)
      · rw [if_neg cb1] at hs
        refine evx_F E90 D90_4 rfl (ifF (c2_ge_F rx2 rx1 (by omega))) ?_
        refine evx_F E90 D90_7 rfl rfl ?_
        refine evx_gfr E90 D90_8 F90_40 H24 rfl R ?_
        refine evx_F E90 D90_11 rfl rfl ?_
        refine evx_F E90 D90_12 rfl rfl ?_
        obtain ⟨k5, hs⟩ := ck hs
        refine evx_bas E90 D90_13 H41 (by decide) R k5 (by decide) ?_
        intro h6 R7
        refine evx_inc E90 D90_14 (Nat.le_of_ble_eq_true rfl) rfl ?_
        refine evx_F E90 D90_17 rfl rfl ?_
        obtain ⟨k8, hs⟩ := ck hs
        show evx _ _ _ _ _ [(2, .inl (iz (x2 + 1))), (0, .inr (.inr (.inl (some 24)))), (1, .inl (iz x1))] _ _ _ _
        exact evx_lv (lvLe_mk (fm rfl (fm rfl (fm rfl fn))) (fm rfl (fm rfl (fm rfl fn))) (fm rfl (fm rfl (fm rfl fn)))) (ih.1 _ _ _ _ _ _ hs R7 rx1 k8)
    · intro M x1 x2 h v M' hs R rx1 rx2
      rw [l90] at hs
      refine evx_F E90 D90_29 rfl rfl ?_
      refine evx_k (k := 10) E90 D90_30 rfl (by decide) ?_
      by_cases cb9 : x2 < 10
      · rw [if_pos cb9] at hs
        refine evx_F E90 D90_32 rfl (ifT (c2_lt_T rx2 (by decide) cb9)) ?_
        cases hs
        exact evx_ret E90 D90_89 rfl (fun d => rfl) rfl trivial R
      · rw [if_neg cb9] at hs
        refine evx_F E90 D90_32 rfl (ifF (c2_lt_F rx2 (by decide) (by omega))) ?_
        refine evx_F E90 D90_35 rfl rfl ?_
        refine evx_gfr E90 D90_36 F90_40 H24 rfl R ?_
        refine evx_F E90 D90_39 rfl rfl ?_
        obtain ⟨k10, hs⟩ := ck hs
        refine evx_bal E90 D90_40 H41 (by decide) R k10 ?_
        by_cases cb11 : (M 41 (Int.toNat x2)) = 0
        · rw [if_pos cb11] at hs
          refine evx_F E90 D90_41 rfl (ifT (c1_eq_T (R.1 41 (Int.toNat x2)) cb11)) ?_
          refine evx_inc E90 D90_83 (Nat.le_of_ble_eq_true rfl) rfl ?_
          refine evx_F E90 D90_86 rfl rfl ?_
          obtain ⟨k12, hs⟩ := ck hs
          show evx _ _ _ _ _ [(2, .inl (iz (x2 + (-1)))), (0, .inr (.inr (.inl (some 24)))), (1, .inl (iz x1))] _ _ _ _
          exact evx_lv (lvLe_mk (fm rfl (fm rfl (fm rfl fn))) (fm rfl (fm rfl (fm rfl fn))) (fm rfl (fm rfl (fm rfl fn)))) (ih.2 _ _ _ _ _ _ hs R rx1 k12)
        · rw [if_neg cb11] at hs
          refine evx_F E90 D90_41 rfl (ifF (c1_eq_F (R.1 41 (Int.toNat x2)) (by omega))) ?_
          refine evx_F E90 D90_44 rfl rfl ?_
          refine evx_gfr E90 D90_45 F90_40 H24 rfl R ?_
          refine evx_F E90 D90_48 rfl rfl ?_
          refine evx_gfr E90 D90_49 F90_44 H24 rfl R ?_
          refine evx_F E90 D90_52 rfl rfl ?_
          obtain ⟨q14, e13, hs⟩ := Option.bind_eq_some_iff.mp hs
          refine evx_cv (D := 1) E90 D90_53 I90_151 rfl rfl H1 ⟨Nat.le_of_ble_eq_true rfl, Nat.le_of_ble_eq_true rfl⟩ ⟨rfl, Nat.le_of_ble_eq_true rfl⟩ rfl R (evx_up (Nat.le_of_ble_eq_true rfl) (c91 R rx2 e13)) ?_
          intro h15 R16 w17
          have w17 : rg q14 := w17
          show evx _ _ _ _ _ _ (.inl (iz q14) :: _) _ _ _
          refine evx_F E90 D90_56 rfl rfl ?_
          obtain ⟨k18, hs⟩ := ck hs
          refine evx_bas E90 D90_57 H41 (by decide) R16 k18 (by decide) ?_
          intro h19 R20
          refine evx_F E90 D90_58 rfl rfl ?_
          refine evx_gfr E90 D90_59 F90_44 H24 rfl R20 ?_
          refine evx_F E90 D90_62 rfl rfl ?_
          obtain ⟨q22, e21, hs⟩ := Option.bind_eq_some_iff.mp hs
          refine evx_cv (D := 1) E90 D90_63 I90_148 rfl rfl H1 ⟨Nat.le_of_ble_eq_true rfl, Nat.le_of_ble_eq_true rfl⟩ ⟨rfl, Nat.le_of_ble_eq_true rfl⟩ rfl R20 (evx_up (Nat.le_of_ble_eq_true rfl) (c92 R20 rx2 e21)) ?_
          intro h23 R24 w25
          have w25 : rg q22 := w25
          show evx _ _ _ _ _ _ (.inl (iz q22) :: _) _ _ _
          by_cases cb26 : ¬ q22 = 0
          · rw [if_pos cb26] at hs
            refine evx_F E90 D90_66 rfl (ifT (c1_ne_T w25 cb26)) ?_
            refine evx_inc E90 D90_83 (Nat.le_of_ble_eq_true rfl) rfl ?_
            refine evx_F E90 D90_86 rfl rfl ?_
            obtain ⟨k27, hs⟩ := ck hs
            show evx _ _ _ _ _ [(2, .inl (iz (x2 + (-1)))), (0, .inr (.inr (.inl (some 24)))), (1, .inl (iz x1))] _ _ _ _
            exact evx_lv (lvLe_mk (fm rfl (fm rfl (fm rfl fn))) (fm rfl (fm rfl (fm rfl fn))) (fm rfl (fm rfl (fm rfl fn)))) (ih.2 _ _ _ _ _ _ hs R24 rx1 k27)
          · rw [if_neg cb26] at hs
            refine evx_F E90 D90_66 rfl (ifF (c1_ne_F w25 (by omega))) ?_
            refine evx_F E90 D90_69 rfl rfl ?_
            refine evx_gfr E90 D90_70 F90_40 H24 rfl R24 ?_
            refine evx_F E90 D90_73 rfl rfl ?_
            refine evx_gfr E90 D90_74 F90_44 H24 rfl R24 ?_
            refine evx_F E90 D90_77 rfl rfl ?_
            obtain ⟨q29, e28, hs⟩ := Option.bind_eq_some_iff.mp hs
            refine evx_cv (D := 1) E90 D90_78 I90_154 rfl rfl H1 ⟨Nat.le_of_ble_eq_true rfl, Nat.le_of_ble_eq_true rfl⟩ ⟨rfl, Nat.le_of_ble_eq_true rfl⟩ rfl R24 (evx_up (Nat.le_of_ble_eq_true rfl) (c93 R24 rx2 e28)) ?_
            intro h30 R31 w32
            have w32 : rg q29 := w32
            show evx _ _ _ _ _ _ (.inl (iz q29) :: _) _ _ _
            refine evx_F E90 D90_81 rfl rfl ?_
            obtain ⟨k33, hs⟩ := ck hs
            refine evx_bas E90 D90_82 H41 (by decide) R31 k33 (by decide) ?_
            intro h34 R35
            refine evx_inc E90 D90_83 (Nat.le_of_ble_eq_true rfl) rfl ?_
            refine evx_F E90 D90_86 rfl rfl ?_
            obtain ⟨k36, hs⟩ := ck hs
            show evx _ _ _ _ _ [(2, .inl (iz (x2 + (-1)))), (0, .inr (.inr (.inl (some 24)))), (1, .inl (iz x1))] _ _ _ _
            exact evx_lv (lvLe_mk (fm rfl (fm rfl (fm rfl fn))) (fm rfl (fm rfl (fm rfl fn))) (fm rfl (fm rfl (fm rfl fn)))) (ih.2 _ _ _ _ _ _ hs R35 rx1 k36)
def f90 (M : Mm) (x1 : Int) : Option (Int × Mm) := l90 FU 2 M x1 0
theorem c90 {L : Nat} {xs : Nat → Int32} {h : mvH} {M : Mm} {x1 : Int} {v : Int} {M' : Mm} (R : rp h M) (rx1 : rg x1) (hs : f90 M x1 = some (v, M')) : evx L xs 2 90 0 [(0, .inr (.inr (.inl (some 24)))), (1, .inl (iz x1))] [] h (.inl none, 0) M' := by
  unfold f90 at hs
  refine evx_F E90 D90_0 rfl rfl ?_
  refine evx_F E90 D90_1 rfl rfl ?_
  show evx _ _ _ _ _ [(2, .inl (iz 0)), (0, .inr (.inr (.inl (some 24)))), (1, .inl (iz x1))] _ _ _ _
  exact evx_lv (lvLe_mk (fm rfl (fm rfl (fm rfl fn))) (fm rfl (fm rfl (fm rfl fn))) (fm rfl (fm rfl (fm rfl fn)))) ((d90 FU).1 _ _ _ _ _ _ hs R rx1 (by decide))
set_option maxRecDepth 20000 in
theorem E103 : pgMm 103 = some (⟨"DictionaryHouse$Graph", "forgetVariables", "()V"⟩, prog_7_method_19_code, 1, none, []) := rfl
theorem D103_0 : pgDecT 103 0 = some (.aload_n 0, 1) := by decide +kernel
theorem D103_1 : pgDecT 103 1 = some (.iconst 0, 1) := by decide +kernel
theorem D103_2 : pgDecT 103 2 = some (.putfield 69, 3) := by decide +kernel
theorem F103_69 : pgFf 103 69 = some (5, 9, 0) := by decide +kernel
theorem D103_5 : pgDecT 103 5 = some (.aload_n 0, 1) := by decide +kernel
theorem D103_6 : pgDecT 103 6 = some (.getfield 27, 3) := by decide +kernel
theorem F103_27 : pgFf 103 27 = some (5, 5, 3) := by decide +kernel
theorem D103_9 : pgDecT 103 9 = some (.iconst 0, 1) := by decide +kernel
theorem D103_10 : pgDecT 103 10 = some (.aload_n 0, 1) := by decide +kernel
theorem D103_11 : pgDecT 103 11 = some (.getfield 36, 3) := by decide +kernel
theorem F103_36 : pgFf 103 36 = some (5, 8, 0) := by decide +kernel
theorem D103_14 : pgDecT 103 14 = some (.bipush (-2), 2) := by decide +kernel
theorem D103_16 : pgDecT 103 16 = some (.invokestatic 59, 3) := by decide +kernel
theorem I103_59 : pgIi 103 59 = some (99, 4, 100) := by decide +kernel
theorem D103_19 : pgDecT 103 19 = some (.return_, 1) := by decide +kernel
/-! 103: DictionaryHouse$Graph.forgetVariables ()V -/
def f103 (M : Mm) : Option (Int × Mm) := (f99_31 (up M 25 9 0) 0 (M 25 8) (-2)).bind (fun zq4 => some (0, zq4.2))
theorem c103 {L : Nat} {xs : Nat → Int32} {h : mvH} {M : Mm} {v : Int} {M' : Mm} (R : rp h M)  (hs : f103 M  = some (v, M')) : evx L xs 3 103 0 [(0, .inr (.inr (.inl (some 25))))] [] h (.inl none, 0) M' := by
  unfold f103 at hs
  refine evx_F E103 D103_0 rfl rfl ?_
  refine evx_F E103 D103_1 rfl rfl ?_
  refine evx_pfi (k := 9) E103 D103_2 F103_69 H25 rfl R (by decide) rfl ?_
  intro h1 R2
  refine evx_F E103 D103_5 rfl rfl ?_
  refine evx_gfr E103 D103_6 F103_27 H25 rfl R2 ?_
  refine evx_F E103 D103_9 rfl rfl ?_
  refine evx_F E103 D103_10 rfl rfl ?_
  refine evx_gfi (k := 8) E103 D103_11 F103_36 H25 rfl R2 ?_
  show evx _ _ _ _ _ _ (.inl (iz (M 25 8)) :: _) _ _ _
  refine evx_k (k := -2) E103 D103_14 rfl (by decide) ?_
  obtain ⟨⟨q4, M8⟩, e3, hs⟩ := Option.bind_eq_some_iff.mp hs
  dsimp only at hs
  refine evx_cs (D := 2) E103 D103_16 I103_59 rfl rfl (Nat.le_of_ble_eq_true rfl) ⟨rfl, Nat.le_of_ble_eq_true rfl⟩ rfl (evx_up (Nat.le_of_ble_eq_true rfl) (c99_31 R2 (by decide) (R2.1 25 8) (by decide) e3)) ?_
  intro h5 R6 w7
  cases hs
  exact evx_ret E103 D103_19 rfl (fun d => rfl) rfl trivial R6
set_option maxRecDepth 20000 in
theorem E113 : pgMm 113 = some (⟨"DictionaryHouse$Conditions", "judge", "(II)V"⟩, prog_4_method_6_code, 3, none, []) := rfl
theorem D113_0 : pgDecT 113 0 = some (.aload_n 0, 1) := by decide +kernel
theorem D113_1 : pgDecT 113 1 = some (.getfield 35, 3) := by decide +kernel
theorem F113_35 : pgFf 113 35 = some (2, 3, 3) := by decide +kernel
theorem D113_4 : pgDecT 113 4 = some (.iload_n 2, 1) := by decide +kernel
theorem D113_5 : pgDecT 113 5 = some (.invokevirtual 104, 3) := by decide +kernel
theorem I113_104 : pgIi 113 104 = some (111, 1, 5) := by decide +kernel
theorem D113_8 : pgDecT 113 8 = some (.tableswitch 151 0 5 #[40, 40, 151, 78, 109, 117], 40) := by decide +kernel
theorem D113_48 : pgDecT 113 48 = some (.aload_n 0, 1) := by decide +kernel
theorem D113_49 : pgDecT 113 49 = some (.aload_n 0, 1) := by decide +kernel
theorem D113_50 : pgDecT 113 50 = some (.getfield 52, 3) := by decide +kernel
theorem F113_52 : pgFf 113 52 = some (2, 6, 1) := by decide +kernel
theorem D113_53 : pgDecT 113 53 = some (.ifCond .ne 22, 3) := by decide +kernel
theorem D113_75 : pgDecT 113 75 = some (.iconst 1, 1) := by decide +kernel
theorem D113_76 : pgDecT 113 76 = some (.goto 4, 3) := by decide +kernel
theorem D113_80 : pgDecT 113 80 = some (.putfield 52, 3) := by decide +kernel
theorem D113_83 : pgDecT 113 83 = some (.goto 116, 3) := by decide +kernel
theorem D113_199 : pgDecT 113 199 = some (.return_, 1) := by decide +kernel
theorem D113_56 : pgDecT 113 56 = some (.aload_n 0, 1) := by decide +kernel
theorem D113_57 : pgDecT 113 57 = some (.getfield 17, 3) := by decide +kernel
theorem F113_17 : pgFf 113 17 = some (2, 0, 3) := by decide +kernel
theorem D113_60 : pgDecT 113 60 = some (.iload_n 1, 1) := by decide +kernel
theorem D113_61 : pgDecT 113 61 = some (.aload_n 0, 1) := by decide +kernel
theorem D113_62 : pgDecT 113 62 = some (.getfield 35, 3) := by decide +kernel
theorem D113_65 : pgDecT 113 65 = some (.iload_n 2, 1) := by decide +kernel
theorem D113_66 : pgDecT 113 66 = some (.invokevirtual 104, 3) := by decide +kernel
theorem D113_69 : pgDecT 113 69 = some (.invokevirtual 116, 3) := by decide +kernel
theorem I113_116 : pgIi 113 116 = some (34, 2, 1) := by decide +kernel
theorem D113_72 : pgDecT 113 72 = some (.ifCond .ne 7, 3) := by decide +kernel
theorem D113_79 : pgDecT 113 79 = some (.iconst 0, 1) := by decide +kernel
theorem D113_159 : pgDecT 113 159 = some (.aload_n 0, 1) := by decide +kernel
theorem D113_160 : pgDecT 113 160 = some (.aload_n 0, 1) := by decide +kernel
theorem D113_161 : pgDecT 113 161 = some (.getfield 56, 3) := by decide +kernel
theorem F113_56 : pgFf 113 56 = some (2, 7, 1) := by decide +kernel
theorem D113_164 : pgDecT 113 164 = some (.ifCond .ne 15, 3) := by decide +kernel
theorem D113_179 : pgDecT 113 179 = some (.iconst 1, 1) := by decide +kernel
theorem D113_180 : pgDecT 113 180 = some (.goto 4, 3) := by decide +kernel
theorem D113_184 : pgDecT 113 184 = some (.putfield 56, 3) := by decide +kernel
theorem D113_187 : pgDecT 113 187 = some (.aload_n 0, 1) := by decide +kernel
theorem D113_188 : pgDecT 113 188 = some (.getfield 11, 3) := by decide +kernel
theorem F113_11 : pgFf 113 11 = some (2, 4, 3) := by decide +kernel
theorem D113_191 : pgDecT 113 191 = some (.iload_n 2, 1) := by decide +kernel
theorem D113_192 : pgDecT 113 192 = some (.dup2, 1) := by decide +kernel
theorem D113_193 : pgDecT 113 193 = some (.iaload, 1) := by decide +kernel
theorem D113_194 : pgDecT 113 194 = some (.iconst 1, 1) := by decide +kernel
theorem D113_195 : pgDecT 113 195 = some (.iload_n 1, 1) := by decide +kernel
theorem D113_196 : pgDecT 113 196 = some (.ishl, 1) := by decide +kernel
theorem D113_197 : pgDecT 113 197 = some (.ior, 1) := by decide +kernel
theorem D113_198 : pgDecT 113 198 = some (.iastore, 1) := by decide +kernel
theorem D113_167 : pgDecT 113 167 = some (.aload_n 0, 1) := by decide +kernel
theorem D113_168 : pgDecT 113 168 = some (.getfield 35, 3) := by decide +kernel
theorem D113_171 : pgDecT 113 171 = some (.iload_n 2, 1) := by decide +kernel
theorem D113_172 : pgDecT 113 172 = some (.invokevirtual 119, 3) := by decide +kernel
theorem I113_119 : pgIi 113 119 = some (114, 1, 5) := by decide +kernel
theorem D113_175 : pgDecT 113 175 = some (.iconst (-1), 1) := by decide +kernel
theorem D113_176 : pgDecT 113 176 = some (.if_icmp .ne 7, 3) := by decide +kernel
theorem D113_183 : pgDecT 113 183 = some (.iconst 0, 1) := by decide +kernel
theorem D113_86 : pgDecT 113 86 = some (.aload_n 0, 1) := by decide +kernel
theorem D113_87 : pgDecT 113 87 = some (.aload_n 0, 1) := by decide +kernel
theorem D113_88 : pgDecT 113 88 = some (.getfield 52, 3) := by decide +kernel
theorem D113_91 : pgDecT 113 91 = some (.ifCond .ne 15, 3) := by decide +kernel
theorem D113_106 : pgDecT 113 106 = some (.iconst 1, 1) := by decide +kernel
theorem D113_107 : pgDecT 113 107 = some (.goto 4, 3) := by decide +kernel
theorem D113_111 : pgDecT 113 111 = some (.putfield 52, 3) := by decide +kernel
theorem D113_114 : pgDecT 113 114 = some (.goto 85, 3) := by decide +kernel
theorem D113_94 : pgDecT 113 94 = some (.aload_n 0, 1) := by decide +kernel
theorem D113_95 : pgDecT 113 95 = some (.getfield 17, 3) := by decide +kernel
theorem D113_98 : pgDecT 113 98 = some (.iload_n 1, 1) := by decide +kernel
theorem D113_99 : pgDecT 113 99 = some (.iconst 2, 1) := by decide +kernel
theorem D113_100 : pgDecT 113 100 = some (.invokevirtual 116, 3) := by decide +kernel
theorem D113_103 : pgDecT 113 103 = some (.ifCond .ne 7, 3) := by decide +kernel
theorem D113_110 : pgDecT 113 110 = some (.iconst 0, 1) := by decide +kernel
theorem D113_117 : pgDecT 113 117 = some (.aload_n 0, 1) := by decide +kernel
theorem D113_118 : pgDecT 113 118 = some (.iconst 1, 1) := by decide +kernel
theorem D113_119 : pgDecT 113 119 = some (.putfield 52, 3) := by decide +kernel
theorem D113_122 : pgDecT 113 122 = some (.goto 77, 3) := by decide +kernel
theorem D113_125 : pgDecT 113 125 = some (.aload_n 0, 1) := by decide +kernel
theorem D113_126 : pgDecT 113 126 = some (.aload_n 0, 1) := by decide +kernel
theorem D113_127 : pgDecT 113 127 = some (.getfield 56, 3) := by decide +kernel
theorem D113_130 : pgDecT 113 130 = some (.ifCond .ne 18, 3) := by decide +kernel
theorem D113_148 : pgDecT 113 148 = some (.iconst 1, 1) := by decide +kernel
theorem D113_149 : pgDecT 113 149 = some (.goto 4, 3) := by decide +kernel
theorem D113_153 : pgDecT 113 153 = some (.putfield 56, 3) := by decide +kernel
theorem D113_156 : pgDecT 113 156 = some (.goto 43, 3) := by decide +kernel
theorem D113_133 : pgDecT 113 133 = some (.aload_n 0, 1) := by decide +kernel
theorem D113_134 : pgDecT 113 134 = some (.getfield 17, 3) := by decide +kernel
theorem D113_137 : pgDecT 113 137 = some (.aload_n 0, 1) := by decide +kernel
theorem D113_138 : pgDecT 113 138 = some (.getfield 48, 3) := by decide +kernel
theorem F113_48 : pgFf 113 48 = some (2, 5, 0) := by decide +kernel
theorem D113_141 : pgDecT 113 141 = some (.iload_n 1, 1) := by decide +kernel
theorem D113_142 : pgDecT 113 142 = some (.invokevirtual 69, 3) := by decide +kernel
theorem I113_69 : pgIi 113 69 = some (60, 2, 1) := by decide +kernel
theorem D113_145 : pgDecT 113 145 = some (.ifCond .ne 7, 3) := by decide +kernel
theorem D113_152 : pgDecT 113 152 = some (.iconst 0, 1) := by decide +kernel
/-! 113: DictionaryHouse$Conditions.judge (II)V -/
def f113 (M : Mm) (x1 : Int) (x2 : Int) : Option (Int × Mm) := (f111 M x2).bind (fun q2 => if q2 = 0 then (if ¬ (M 45 6) = 0 then (some (0, (up M 45 6 1))) else (f111 M x2).bind (fun q11 => (f34 M x1 q11).bind (fun q16 => if ¬ q16 = 0 then (some (0, (up M 45 6 0))) else (some (0, (up M 45 6 1)))))) else (if q2 = 1 then (if ¬ (M 45 6) = 0 then (some (0, (up M 45 6 1))) else (f111 M x2).bind (fun q30 => (f34 M x1 q30).bind (fun q35 => if ¬ q35 = 0 then (some (0, (up M 45 6 0))) else (some (0, (up M 45 6 1)))))) else (if q2 = 2 then (if ¬ (M 45 7) = 0 then (if 0 ≤ x2 ∧ x2 < 2504 then (some (0, (up (up M 45 7 1) 46 (Int.toNat x2) (bOr (M 46 (Int.toNat x2)) (bShl 1 x1))))) else none) else (f114 M x2).bind (fun zq52 => if ¬ zq52.1 = (-1) then (if 0 ≤ x2 ∧ x2 < 2504 then (some (0, (up (up zq52.2 45 7 0) 46 (Int.toNat x2) (bOr (zq52.2 46 (Int.toNat x2)) (bShl 1 x1))))) else none) else (if 0 ≤ x2 ∧ x2 < 2504 then (some (0, (up (up zq52.2 45 7 1) 46 (Int.toNat x2) (bOr (zq52.2 46 (Int.toNat x2)) (bShl 1 x1))))) else none))) else (if q2 = 3 then (if ¬ (M 45 6) = 0 then (some (0, (up M 45 6 1))) else (f34 M x1 2).bind (fun q73 => if ¬ q73 = 0 then (some (0, (up M 45 6 0))) else (some (0, (up M 45 6 1))))) else (if q2 = 4 then (some (0, (up M 45 6 1))) else (if q2 = 5 then (if ¬ (M 45 7) = 0 then (some (0, (up M 45 7 1))) else (f60 M (M 45 5) x1).bind (fun q90 => if ¬ q90 = 0 then (some (0, (up M 45 7 0))) else (some (0, (up M 45 7 1))))) else (if ¬ (M 45 7) = 0 then (if 0 ≤ x2 ∧ x2 < 2504 then (some (0, (up (up M 45 7 1) 46 (Int.toNat x2) (bOr (M 46 (Int.toNat x2)) (bShl 1 x1))))) else none) else (f114 M x2).bind (fun zq106 => if ¬ zq106.1 = (-1) then (if 0 ≤ x2 ∧ x2 < 2504 then (some (0, (up (up zq106.2 45 7 0) 46 (Int.toNat x2) (bOr (zq106.2 46 (Int.toNat x2)) (bShl 1 x1))))) else none) else (if 0 ≤ x2 ∧ x2 < 2504 then (some (0, (up (up zq106.2 45 7 1) 46 (Int.toNat x2) (bOr (zq106.2 46 (Int.toNat x2)) (bShl 1 x1))))) else none)))))))))
theorem c113 {L : Nat} {xs : Nat → Int32} {h : mvH} {M : Mm} {x1 x2 : Int} {v : Int} {M' : Mm} (R : rp h M) (rx1 : rg x1) (rx2 : rg x2) (hs : f113 M x1 x2 = some (v, M')) : evx L xs 3 113 0 [(0, .inr (.inr (.inl (some 45)))), (1, .inl (iz x1)), (2, .inl (iz x2))] [] h (.inl none, 0) M' := by
  unfold f113 at hs
  refine evx_F E113 D113_0 rfl rfl ?_
  refine evx_gfr E113 D113_1 F113_35 H45 rfl R ?_
  refine evx_F E113 D113_4 rfl rfl ?_
  obtain ⟨q2, e1, hs⟩ := Option.bind_eq_some_iff.mp hs
  refine evx_cv (D := 2) E113 D113_5 I113_104 rfl rfl H25 ⟨Nat.le_of_ble_eq_true rfl, Nat.le_of_ble_eq_true rfl⟩ ⟨rfl, Nat.le_of_ble_eq_true rfl⟩ rfl R (evx_up (Nat.le_of_ble_eq_true rfl) (c111 R rx2 e1)) ?_
  intro h3 R4 w5
  have w5 : rg q2 := w5
  show evx _ _ _ _ _ _ (.inl (iz q2) :: _) _ _ _
  by_cases cb6 : q2 = 0
  · rw [if_pos cb6] at hs
    refine evx_tsi (0) E113 D113_8 cb6 (by decide) (by decide) rfl rfl ?_
    refine evx_F E113 D113_48 rfl rfl ?_
    refine evx_F E113 D113_49 rfl rfl ?_
    refine evx_gfi (k := 6) E113 D113_50 F113_52 H45 rfl R4 ?_
    by_cases cb7 : ¬ (M 45 6) = 0
    · rw [if_pos cb7] at hs
      refine evx_F E113 D113_53 rfl (ifT (c1_ne_T (R4.1 45 6) cb7)) ?_
      refine evx_F E113 D113_75 rfl rfl ?_
      refine evx_F E113 D113_76 rfl rfl ?_
      refine evx_pfi (k := 6) E113 D113_80 F113_52 H45 rfl R4 (by decide) rfl ?_
      intro h8 R9
      refine evx_F E113 D113_83 rfl rfl ?_
      cases hs
      exact evx_ret E113 D113_199 rfl (fun d => rfl) rfl trivial R9
    · rw [if_neg cb7] at hs
      refine evx_F E113 D113_53 rfl (ifF (c1_ne_F (R4.1 45 6) (by omega))) ?_
      refine evx_F E113 D113_56 rfl rfl ?_
      refine evx_gfr E113 D113_57 F113_17 H45 rfl R4 ?_
      refine evx_F E113 D113_60 rfl rfl ?_
      refine evx_F E113 D113_61 rfl rfl ?_
      refine evx_gfr E113 D113_62 F113_35 H45 rfl R4 ?_
      refine evx_F E113 D113_65 rfl rfl ?_
      obtain ⟨q11, e10, hs⟩ := Option.bind_eq_some_iff.mp hs
      refine evx_cv (D := 2) E113 D113_66 I113_104 rfl rfl H25 ⟨Nat.le_of_ble_eq_true rfl, Nat.le_of_ble_eq_true rfl⟩ ⟨rfl, Nat.le_of_ble_eq_true rfl⟩ rfl R4 (evx_up (Nat.le_of_ble_eq_true rfl) (c111 R4 rx2 e10)) ?_
      intro h12 R13 w14
      have w14 : rg q11 := w14
      show evx _ _ _ _ _ _ (.inl (iz q11) :: _) _ _ _
      obtain ⟨q16, e15, hs⟩ := Option.bind_eq_some_iff.mp hs
      refine evx_cv (D := 2) E113 D113_69 I113_116 rfl rfl H5 ⟨Nat.le_of_ble_eq_true rfl, Nat.le_of_ble_eq_true rfl⟩ ⟨rfl, Nat.le_of_ble_eq_true rfl⟩ rfl R13 (evx_up (Nat.le_of_ble_eq_true rfl) (c34 R13 rx1 w14 e15)) ?_
      intro h17 R18 w19
      have w19 : rg q16 := w19
      show evx _ _ _ _ _ _ (.inl (iz q16) :: _) _ _ _
      by_cases cb20 : ¬ q16 = 0
      · rw [if_pos cb20] at hs
        refine evx_F E113 D113_72 rfl (ifT (c1_ne_T w19 cb20)) ?_
        refine evx_F E113 D113_79 rfl rfl ?_
        refine evx_pfi (k := 6) E113 D113_80 F113_52 H45 rfl R18 (by decide) rfl ?_
        intro h21 R22
        refine evx_F E113 D113_83 rfl rfl ?_
        cases hs
        exact evx_ret E113 D113_199 rfl (fun d => rfl) rfl trivial R22
      · rw [if_neg cb20] at hs
        refine evx_F E113 D113_72 rfl (ifF (c1_ne_F w19 (by omega))) ?_
        refine evx_F E113 D113_75 rfl rfl ?_
        refine evx_F E113 D113_76 rfl rfl ?_
        refine evx_pfi (k := 6) E113 D113_80 F113_52 H45 rfl R18 (by decide) rfl ?_
        intro h23 R24
        refine evx_F E113 D113_83 rfl rfl ?_
        cases hs
        exact evx_ret E113 D113_199 rfl (fun d => rfl) rfl trivial R24
  · rw [if_neg cb6] at hs
    by_cases cb25 : q2 = 1
    · rw [if_pos cb25] at hs
      refine evx_tsi (1) E113 D113_8 cb25 (by decide) (by decide) rfl rfl ?_
      refine evx_F E113 D113_48 rfl rfl ?_
      refine evx_F E113 D113_49 rfl rfl ?_
      refine evx_gfi (k := 6) E113 D113_50 F113_52 H45 rfl R4 ?_
      by_cases cb26 : ¬ (M 45 6) = 0
      · rw [if_pos cb26] at hs
        refine evx_F E113 D113_53 rfl (ifT (c1_ne_T (R4.1 45 6) cb26)) ?_
        refine evx_F E113 D113_75 rfl rfl ?_
        refine evx_F E113 D113_76 rfl rfl ?_
        refine evx_pfi (k := 6) E113 D113_80 F113_52 H45 rfl R4 (by decide) rfl ?_
        intro h27 R28
        refine evx_F E113 D113_83 rfl rfl ?_
        cases hs
        exact evx_ret E113 D113_199 rfl (fun d => rfl) rfl trivial R28
      · rw [if_neg cb26] at hs
        refine evx_F E113 D113_53 rfl (ifF (c1_ne_F (R4.1 45 6) (by omega))) ?_
        refine evx_F E113 D113_56 rfl rfl ?_
        refine evx_gfr E113 D113_57 F113_17 H45 rfl R4 ?_
        refine evx_F E113 D113_60 rfl rfl ?_
        refine evx_F E113 D113_61 rfl rfl ?_
        refine evx_gfr E113 D113_62 F113_35 H45 rfl R4 ?_
        refine evx_F E113 D113_65 rfl rfl ?_
        obtain ⟨q30, e29, hs⟩ := Option.bind_eq_some_iff.mp hs
        refine evx_cv (D := 2) E113 D113_66 I113_104 rfl rfl H25 ⟨Nat.le_of_ble_eq_true rfl, Nat.le_of_ble_eq_true rfl⟩ ⟨rfl, Nat.le_of_ble_eq_true rfl⟩ rfl R4 (evx_up (Nat.le_of_ble_eq_true rfl) (c111 R4 rx2 e29)) ?_
        intro h31 R32 w33
        have w33 : rg q30 := w33
        show evx _ _ _ _ _ _ (.inl (iz q30) :: _) _ _ _
        obtain ⟨q35, e34, hs⟩ := Option.bind_eq_some_iff.mp hs
        refine evx_cv (D := 2) E113 D113_69 I113_116 rfl rfl H5 ⟨Nat.le_of_ble_eq_true rfl, Nat.le_of_ble_eq_true rfl⟩ ⟨rfl, Nat.le_of_ble_eq_true rfl⟩ rfl R32 (evx_up (Nat.le_of_ble_eq_true rfl) (c34 R32 rx1 w33 e34)) ?_
        intro h36 R37 w38
        have w38 : rg q35 := w38
        show evx _ _ _ _ _ _ (.inl (iz q35) :: _) _ _ _
        by_cases cb39 : ¬ q35 = 0
        · rw [if_pos cb39] at hs
          refine evx_F E113 D113_72 rfl (ifT (c1_ne_T w38 cb39)) ?_
          refine evx_F E113 D113_79 rfl rfl ?_
          refine evx_pfi (k := 6) E113 D113_80 F113_52 H45 rfl R37 (by decide) rfl ?_
          intro h40 R41
          refine evx_F E113 D113_83 rfl rfl ?_
          cases hs
          exact evx_ret E113 D113_199 rfl (fun d => rfl) rfl trivial R41
        · rw [if_neg cb39] at hs
          refine evx_F E113 D113_72 rfl (ifF (c1_ne_F w38 (by omega))) ?_
          refine evx_F E113 D113_75 rfl rfl ?_
          refine evx_F E113 D113_76 rfl rfl ?_
          refine evx_pfi (k := 6) E113 D113_80 F113_52 H45 rfl R37 (by decide) rfl ?_
          intro h42 R43
          refine evx_F E113 D113_83 rfl rfl ?_
          cases hs
          exact evx_ret E113 D113_199 rfl (fun d => rfl) rfl trivial R43
    · rw [if_neg cb25] at hs
      by_cases cb44 : q2 = 2
      · rw [if_pos cb44] at hs
        refine evx_tsi (2) E113 D113_8 cb44 (by decide) (by decide) rfl rfl ?_
        refine evx_F E113 D113_159 rfl rfl ?_
        refine evx_F E113 D113_160 rfl rfl ?_
        refine evx_gfi (k := 7) E113 D113_161 F113_56 H45 rfl R4 ?_
        by_cases cb45 : ¬ (M 45 7) = 0
        · rw [if_pos cb45] at hs
          refine evx_F E113 D113_164 rfl (ifT (c1_ne_T (R4.1 45 7) cb45)) ?_
          refine evx_F E113 D113_179 rfl rfl ?_
          refine evx_F E113 D113_180 rfl rfl ?_
          refine evx_pfi (k := 7) E113 D113_184 F113_56 H45 rfl R4 (by decide) rfl ?_
          intro h46 R47
          refine evx_F E113 D113_187 rfl rfl ?_
          refine evx_gfr E113 D113_188 F113_11 H45 rfl R47 ?_
          refine evx_F E113 D113_191 rfl rfl ?_
          refine evx_F E113 D113_192 rfl rfl ?_
          obtain ⟨k48, hs⟩ := ck hs
          refine evx_ial E113 D113_193 H46 (by decide) R47 k48 ?_
          show evx _ _ _ _ _ _ (.inl (iz (M 46 (Int.toNat x2))) :: _) _ _ _
          refine evx_F E113 D113_194 rfl rfl ?_
          refine evx_F E113 D113_195 rfl rfl ?_
          refine evx_ishl E113 D113_196 ?_
          refine evx_ior E113 D113_197 ?_
          refine evx_ias E113 D113_198 H46 (by decide) R47 k48 (iz_rg _) ?_
          intro h49 R50
          cases hs
          exact evx_ret E113 D113_199 rfl (fun d => rfl) rfl trivial R50
        · rw [if_neg cb45] at hs
          refine evx_F E113 D113_164 rfl (ifF (c1_ne_F (R4.1 45 7) (by omega))) ?_
          refine evx_F E113 D113_167 rfl rfl ?_
          refine evx_gfr E113 D113_168 F113_35 H45 rfl R4 ?_
          refine evx_F E113 D113_171 rfl rfl ?_
          obtain ⟨⟨q52, M56⟩, e51, hs⟩ := Option.bind_eq_some_iff.mp hs
          dsimp only at hs
          refine evx_cv (D := 2) E113 D113_172 I113_119 rfl rfl H25 ⟨Nat.le_of_ble_eq_true rfl, Nat.le_of_ble_eq_true rfl⟩ ⟨rfl, Nat.le_of_ble_eq_true rfl⟩ rfl R4 (evx_up (Nat.le_of_ble_eq_true rfl) (c114 R4 rx2 e51)) ?_
          intro h53 R54 w55
          have w55 : rg q52 := w55
          show evx _ _ _ _ _ _ (.inl (iz q52) :: _) _ _ _
          refine evx_F E113 D113_175 rfl rfl ?_
          by_cases cb57 : ¬ q52 = (-1)
          · rw [if_pos cb57] at hs
            refine evx_F E113 D113_176 rfl (ifT (c2_ne_T w55 (by decide) cb57)) ?_
            refine evx_F E113 D113_183 rfl rfl ?_
            refine evx_pfi (k := 7) E113 D113_184 F113_56 H45 rfl R54 (by decide) rfl ?_
            intro h58 R59
            refine evx_F E113 D113_187 rfl rfl ?_
            refine evx_gfr E113 D113_188 F113_11 H45 rfl R59 ?_
            refine evx_F E113 D113_191 rfl rfl ?_
            refine evx_F E113 D113_192 rfl rfl ?_
            obtain ⟨k60, hs⟩ := ck hs
            refine evx_ial E113 D113_193 H46 (by decide) R59 k60 ?_
            show evx _ _ _ _ _ _ (.inl (iz (M56 46 (Int.toNat x2))) :: _) _ _ _
            refine evx_F E113 D113_194 rfl rfl ?_
            refine evx_F E113 D113_195 rfl rfl ?_
            refine evx_ishl E113 D113_196 ?_
            refine evx_ior E113 D113_197 ?_
            refine evx_ias E113 D113_198 H46 (by decide) R59 k60 (iz_rg _) ?_
            intro h61 R62
            cases hs
            exact evx_ret E113 D113_199 rfl (fun d => rfl) rfl trivial R62
          · rw [if_neg cb57] at hs
            refine evx_F E113 D113_176 rfl (ifF (c2_ne_F w55 (by decide) (by omega))) ?_
            refine evx_F E113 D113_179 rfl rfl ?_
            refine evx_F E113 D113_180 rfl rfl ?_
            refine evx_pfi (k := 7) E113 D113_184 F113_56 H45 rfl R54 (by decide) rfl ?_
            intro h63 R64
            refine evx_F E113 D113_187 rfl rfl ?_
            refine evx_gfr E113 D113_188 F113_11 H45 rfl R64 ?_
            refine evx_F E113 D113_191 rfl rfl ?_
            refine evx_F E113 D113_192 rfl rfl ?_
            obtain ⟨k65, hs⟩ := ck hs
            refine evx_ial E113 D113_193 H46 (by decide) R64 k65 ?_
            show evx _ _ _ _ _ _ (.inl (iz (M56 46 (Int.toNat x2))) :: _) _ _ _
            refine evx_F E113 D113_194 rfl rfl ?_
            refine evx_F E113 D113_195 rfl rfl ?_
            refine evx_ishl E113 D113_196 ?_
            refine evx_ior E113 D113_197 ?_
            refine evx_ias E113 D113_198 H46 (by decide) R64 k65 (iz_rg _) ?_
            intro h66 R67
            cases hs
            exact evx_ret E113 D113_199 rfl (fun d => rfl) rfl trivial R67
      · rw [if_neg cb44] at hs
        by_cases cb68 : q2 = 3
        · rw [if_pos cb68] at hs
          refine evx_tsi (3) E113 D113_8 cb68 (by decide) (by decide) rfl rfl ?_
          refine evx_F E113 D113_86 rfl rfl ?_
          refine evx_F E113 D113_87 rfl rfl ?_
          refine evx_gfi (k := 6) E113 D113_88 F113_52 H45 rfl R4 ?_
          by_cases cb69 : ¬ (M 45 6) = 0
          · rw [if_pos cb69] at hs
            refine evx_F E113 D113_91 rfl (ifT (c1_ne_T (R4.1 45 6) cb69)) ?_
            refine evx_F E113 D113_106 rfl rfl ?_
            refine evx_F E113 D113_107 rfl rfl ?_
            refine evx_pfi (k := 6) E113 D113_111 F113_52 H45 rfl R4 (by decide) rfl ?_
            intro h70 R71
            refine evx_F E113 D113_114 rfl rfl ?_
            cases hs
            exact evx_ret E113 D113_199 rfl (fun d => rfl) rfl trivial R71
          · rw [if_neg cb69] at hs
            refine evx_F E113 D113_91 rfl (ifF (c1_ne_F (R4.1 45 6) (by omega))) ?_
            refine evx_F E113 D113_94 rfl rfl ?_
            refine evx_gfr E113 D113_95 F113_17 H45 rfl R4 ?_
            refine evx_F E113 D113_98 rfl rfl ?_
            refine evx_F E113 D113_99 rfl rfl ?_
            obtain ⟨q73, e72, hs⟩ := Option.bind_eq_some_iff.mp hs
            refine evx_cv (D := 2) E113 D113_100 I113_116 rfl rfl H5 ⟨Nat.le_of_ble_eq_true rfl, Nat.le_of_ble_eq_true rfl⟩ ⟨rfl, Nat.le_of_ble_eq_true rfl⟩ rfl R4 (evx_up (Nat.le_of_ble_eq_true rfl) (c34 R4 rx1 (by decide) e72)) ?_
            intro h74 R75 w76
            have w76 : rg q73 := w76
            show evx _ _ _ _ _ _ (.inl (iz q73) :: _) _ _ _
            by_cases cb77 : ¬ q73 = 0
            · rw [if_pos cb77] at hs
              refine evx_F E113 D113_103 rfl (ifT (c1_ne_T w76 cb77)) ?_
              refine evx_F E113 D113_110 rfl rfl ?_
              refine evx_pfi (k := 6) E113 D113_111 F113_52 H45 rfl R75 (by decide) rfl ?_
              intro h78 R79
              refine evx_F E113 D113_114 rfl rfl ?_
              cases hs
              exact evx_ret E113 D113_199 rfl (fun d => rfl) rfl trivial R79
            · rw [if_neg cb77] at hs
              refine evx_F E113 D113_103 rfl (ifF (c1_ne_F w76 (by omega))) ?_
              refine evx_F E113 D113_106 rfl rfl ?_
              refine evx_F E113 D113_107 rfl rfl ?_
              refine evx_pfi (k := 6) E113 D113_111 F113_52 H45 rfl R75 (by decide) rfl ?_
              intro h80 R81
              refine evx_F E113 D113_114 rfl rfl ?_
              cases hs
              exact evx_ret E113 D113_199 rfl (fun d => rfl) rfl trivial R81
        · rw [if_neg cb68] at hs
          by_cases cb82 : q2 = 4
          · rw [if_pos cb82] at hs
            refine evx_tsi (4) E113 D113_8 cb82 (by decide) (by decide) rfl rfl ?_
            refine evx_F E113 D113_117 rfl rfl ?_
            refine evx_F E113 D113_118 rfl rfl ?_
            refine evx_pfi (k := 6) E113 D113_119 F113_52 H45 rfl R4 (by decide) rfl ?_
            intro h83 R84
            refine evx_F E113 D113_122 rfl rfl ?_
            cases hs
            exact evx_ret E113 D113_199 rfl (fun d => rfl) rfl trivial R84
          · rw [if_neg cb82] at hs
            by_cases cb85 : q2 = 5
            · rw [if_pos cb85] at hs
              refine evx_tsi (5) E113 D113_8 cb85 (by decide) (by decide) rfl rfl ?_
              refine evx_F E113 D113_125 rfl rfl ?_
              refine evx_F E113 D113_126 rfl rfl ?_
              refine evx_gfi (k := 7) E113 D113_127 F113_56 H45 rfl R4 ?_
              by_cases cb86 : ¬ (M 45 7) = 0
              · rw [if_pos cb86] at hs
                refine evx_F E113 D113_130 rfl (ifT (c1_ne_T (R4.1 45 7) cb86)) ?_
                refine evx_F E113 D113_148 rfl rfl ?_
                refine evx_F E113 D113_149 rfl rfl ?_
                refine evx_pfi (k := 7) E113 D113_153 F113_56 H45 rfl R4 (by decide) rfl ?_
                intro h87 R88
                refine evx_F E113 D113_156 rfl rfl ?_
                cases hs
                exact evx_ret E113 D113_199 rfl (fun d => rfl) rfl trivial R88
              · rw [if_neg cb86] at hs
                refine evx_F E113 D113_130 rfl (ifF (c1_ne_F (R4.1 45 7) (by omega))) ?_
                refine evx_F E113 D113_133 rfl rfl ?_
                refine evx_gfr E113 D113_134 F113_17 H45 rfl R4 ?_
                refine evx_F E113 D113_137 rfl rfl ?_
                refine evx_gfi (k := 5) E113 D113_138 F113_48 H45 rfl R4 ?_
                refine evx_F E113 D113_141 rfl rfl ?_
                obtain ⟨q90, e89, hs⟩ := Option.bind_eq_some_iff.mp hs
                refine evx_cv (D := 2) E113 D113_142 I113_69 rfl rfl H5 ⟨Nat.le_of_ble_eq_true rfl, Nat.le_of_ble_eq_true rfl⟩ ⟨rfl, Nat.le_of_ble_eq_true rfl⟩ rfl R4 (evx_up (Nat.le_of_ble_eq_true rfl) (c60 R4 (R4.1 45 5) rx1 e89)) ?_
                intro h91 R92 w93
                have w93 : rg q90 := w93
                show evx _ _ _ _ _ _ (.inl (iz q90) :: _) _ _ _
                by_cases cb94 : ¬ q90 = 0
                · rw [if_pos cb94] at hs
                  refine evx_F E113 D113_145 rfl (ifT (c1_ne_T w93 cb94)) ?_
                  refine evx_F E113 D113_152 rfl rfl ?_
                  refine evx_pfi (k := 7) E113 D113_153 F113_56 H45 rfl R92 (by decide) rfl ?_
                  intro h95 R96
                  refine evx_F E113 D113_156 rfl rfl ?_
                  cases hs
                  exact evx_ret E113 D113_199 rfl (fun d => rfl) rfl trivial R96
                · rw [if_neg cb94] at hs
                  refine evx_F E113 D113_145 rfl (ifF (c1_ne_F w93 (by omega))) ?_
                  refine evx_F E113 D113_148 rfl rfl ?_
                  refine evx_F E113 D113_149 rfl rfl ?_
                  refine evx_pfi (k := 7) E113 D113_153 F113_56 H45 rfl R92 (by decide) rfl ?_
                  intro h97 R98
                  refine evx_F E113 D113_156 rfl rfl ?_
                  cases hs
                  exact evx_ret E113 D113_199 rfl (fun d => rfl) rfl trivial R98
            · rw [if_neg cb85] at hs
              refine evx_tso E113 D113_8 w5 (by omega) rfl ?_
              refine evx_F E113 D113_159 rfl rfl ?_
              refine evx_F E113 D113_160 rfl rfl ?_
              refine evx_gfi (k := 7) E113 D113_161 F113_56 H45 rfl R4 ?_
              by_cases cb99 : ¬ (M 45 7) = 0
              · rw [if_pos cb99] at hs
                refine evx_F E113 D113_164 rfl (ifT (c1_ne_T (R4.1 45 7) cb99)) ?_
                refine evx_F E113 D113_179 rfl rfl ?_
                refine evx_F E113 D113_180 rfl rfl ?_
                refine evx_pfi (k := 7) E113 D113_184 F113_56 H45 rfl R4 (by decide) rfl ?_
                intro h100 R101
                refine evx_F E113 D113_187 rfl rfl ?_
                refine evx_gfr E113 D113_188 F113_11 H45 rfl R101 ?_
                refine evx_F E113 D113_191 rfl rfl ?_
                refine evx_F E113 D113_192 rfl rfl ?_
                obtain ⟨k102, hs⟩ := ck hs
                refine evx_ial E113 D113_193 H46 (by decide) R101 k102 ?_
                show evx _ _ _ _ _ _ (.inl (iz (M 46 (Int.toNat x2))) :: _) _ _ _
                refine evx_F E113 D113_194 rfl rfl ?_
                refine evx_F E113 D113_195 rfl rfl ?_
                refine evx_ishl E113 D113_196 ?_
                refine evx_ior E113 D113_197 ?_
                refine evx_ias E113 D113_198 H46 (by decide) R101 k102 (iz_rg _) ?_
                intro h103 R104
                cases hs
                exact evx_ret E113 D113_199 rfl (fun d => rfl) rfl trivial R104
              · rw [if_neg cb99] at hs
                refine evx_F E113 D113_164 rfl (ifF (c1_ne_F (R4.1 45 7) (by omega))) ?_
                refine evx_F E113 D113_167 rfl rfl ?_
                refine evx_gfr E113 D113_168 F113_35 H45 rfl R4 ?_
                refine evx_F E113 D113_171 rfl rfl ?_
                obtain ⟨⟨q106, M110⟩, e105, hs⟩ := Option.bind_eq_some_iff.mp hs
                dsimp only at hs
                refine evx_cv (D := 2) E113 D113_172 I113_119 rfl rfl H25 ⟨Nat.le_of_ble_eq_true rfl, Nat.le_of_ble_eq_true rfl⟩ ⟨rfl, Nat.le_of_ble_eq_true rfl⟩ rfl R4 (evx_up (Nat.le_of_ble_eq_true rfl) (c114 R4 rx2 e105)) ?_
                intro h107 R108 w109
                have w109 : rg q106 := w109
                show evx _ _ _ _ _ _ (.inl (iz q106) :: _) _ _ _
                refine evx_F E113 D113_175 rfl rfl ?_
                by_cases cb111 : ¬ q106 = (-1)
                · rw [if_pos cb111] at hs
                  refine evx_F E113 D113_176 rfl (ifT (c2_ne_T w109 (by decide) cb111)) ?_
                  refine evx_F E113 D113_183 rfl rfl ?_
                  refine evx_pfi (k := 7) E113 D113_184 F113_56 H45 rfl R108 (by decide) rfl ?_
                  intro h112 R113
                  refine evx_F E113 D113_187 rfl rfl ?_
                  refine evx_gfr E113 D113_188 F113_11 H45 rfl R113 ?_
                  refine evx_F E113 D113_191 rfl rfl ?_
                  refine evx_F E113 D113_192 rfl rfl ?_
                  obtain ⟨k114, hs⟩ := ck hs
                  refine evx_ial E113 D113_193 H46 (by decide) R113 k114 ?_
                  show evx _ _ _ _ _ _ (.inl (iz (M110 46 (Int.toNat x2))) :: _) _ _ _
                  refine evx_F E113 D113_194 rfl rfl ?_
                  refine evx_F E113 D113_195 rfl rfl ?_
                  refine evx_ishl E113 D113_196 ?_
                  refine evx_ior E113 D113_197 ?_
                  refine evx_ias E113 D113_198 H46 (by decide) R113 k114 (iz_rg _) ?_
                  intro h115 R116
                  cases hs
                  exact evx_ret E113 D113_199 rfl (fun d => rfl) rfl trivial R116
                · rw [if_neg cb111] at hs
                  refine evx_F E113 D113_176 rfl (ifF (c2_ne_F w109 (by decide) (by omega))) ?_
                  refine evx_F E113 D113_179 rfl rfl ?_
                  refine evx_F E113 D113_180 rfl rfl ?_
                  refine evx_pfi (k := 7) E113 D113_184 F113_56 H45 rfl R108 (by decide) rfl ?_
                  intro h117 R118
                  refine evx_F E113 D113_187 rfl rfl ?_
                  refine evx_gfr E113 D113_188 F113_11 H45 rfl R118 ?_
                  refine evx_F E113 D113_191 rfl rfl ?_
                  refine evx_F E113 D113_192 rfl rfl ?_
                  obtain ⟨k119, hs⟩ := ck hs
                  refine evx_ial E113 D113_193 H46 (by decide) R118 k119 ?_
                  show evx _ _ _ _ _ _ (.inl (iz (M110 46 (Int.toNat x2))) :: _) _ _ _
                  refine evx_F E113 D113_194 rfl rfl ?_
                  refine evx_F E113 D113_195 rfl rfl ?_
                  refine evx_ishl E113 D113_196 ?_
                  refine evx_ior E113 D113_197 ?_
                  refine evx_ias E113 D113_198 H46 (by decide) R118 k119 (iz_rg _) ?_
                  intro h120 R121
                  cases hs
                  exact evx_ret E113 D113_199 rfl (fun d => rfl) rfl trivial R121
set_option maxRecDepth 20000 in
theorem E116 : pgMm 116 = some (⟨"DictionaryHouse$Definitions", "variableOfCondition", "(II)I"⟩, prog_5_method_9_code, 3, (some .int), []) := rfl
theorem D116_0 : pgDecT 116 0 = some (.aload_n 0, 1) := by decide +kernel
theorem D116_1 : pgDecT 116 1 = some (.iload_n 1, 1) := by decide +kernel
theorem D116_2 : pgDecT 116 2 = some (.iload_n 2, 1) := by decide +kernel
theorem D116_3 : pgDecT 116 3 = some (.invokevirtual 28, 3) := by decide +kernel
theorem I116_28 : pgIi 116 28 = some (117, 2, 3) := by decide +kernel
theorem D116_6 : pgDecT 116 6 = some (.bipush 8, 2) := by decide +kernel
theorem D116_8 : pgDecT 116 8 = some (.irem, 1) := by decide +kernel
theorem D116_9 : pgDecT 116 9 = some (.ireturn, 1) := by decide +kernel
/-! 116: DictionaryHouse$Definitions.variableOfCondition (II)I -/
def f116 (M : Mm) (x1 : Int) (x2 : Int) : Option Int := (f117 M x1 x2).bind (fun q2 => if 0 ≤ q2 ∧ q2 < 2147483648 then (if rg (q2 % 8) then (some (q2 % 8)) else none) else none)
theorem c116 {L : Nat} {xs : Nat → Int32} {h : mvH} {M : Mm} {x1 x2 : Int} {v : Int} (R : rp h M) (rx1 : rg x1) (rx2 : rg x2) (hs : f116 M x1 x2 = some v) : evx L xs 2 116 0 [(0, .inr (.inr (.inl (some 17)))), (1, .inl (iz x1)), (2, .inl (iz x2))] [] h (.inl (some (.inl v)), 0) M := by
  unfold f116 at hs
  refine evx_F E116 D116_0 rfl rfl ?_
  refine evx_F E116 D116_1 rfl rfl ?_
  refine evx_F E116 D116_2 rfl rfl ?_
  obtain ⟨q2, e1, hs⟩ := Option.bind_eq_some_iff.mp hs
  refine evx_cv (D := 1) E116 D116_3 I116_28 rfl rfl H17 ⟨Nat.le_of_ble_eq_true rfl, Nat.le_of_ble_eq_true rfl⟩ ⟨rfl, Nat.le_of_ble_eq_true rfl⟩ rfl R (evx_up (Nat.le_of_ble_eq_true rfl) (c117 R rx1 rx2 e1)) ?_
  intro h3 R4 w5
  have w5 : rg q2 := w5
  show evx _ _ _ _ _ _ (.inl (iz q2) :: _) _ _ _
  refine evx_k (k := 8) E116 D116_6 rfl (by decide) ?_
  obtain ⟨k6, hs⟩ := ck hs
  refine evx_rem E116 D116_8 k6 (by decide) ?_
  obtain ⟨k7, hs⟩ := ck hs
  cases hs
  exact evx_ret E116 D116_9 rfl (fun d => rfl) rfl (show rg _ from k7) R4
set_option maxRecDepth 20000 in
theorem E130 : pgMm 130 = some (⟨"DictionaryHouse$Graph", "numberVariablesOf", "(I)V"⟩, prog_7_method_20_code, 5, none, []) := rfl
theorem D130_0 : pgDecT 130 0 = some (.aload_n 0, 1) := by decide +kernel
theorem D130_1 : pgDecT 130 1 = some (.invokevirtual 77, 3) := by decide +kernel
theorem I130_77 : pgIi 130 77 = some (103, 0, 5) := by decide +kernel
theorem D130_4 : pgDecT 130 4 = some (.aload_n 0, 1) := by decide +kernel
theorem D130_5 : pgDecT 130 5 = some (.getfield 33, 3) := by decide +kernel
theorem F130_33 : pgFf 130 33 = some (5, 7, 3) := by decide +kernel
theorem D130_8 : pgDecT 130 8 = some (.iconst 0, 1) := by decide +kernel
theorem D130_9 : pgDecT 130 9 = some (.aload_n 0, 1) := by decide +kernel
theorem D130_10 : pgDecT 130 10 = some (.iload_n 1, 1) := by decide +kernel
theorem D130_11 : pgDecT 130 11 = some (.invokevirtual 44, 3) := by decide +kernel
theorem I130_44 : pgIi 130 44 = some (80, 1, 5) := by decide +kernel
theorem D130_14 : pgDecT 130 14 = some (.iastore, 1) := by decide +kernel
theorem D130_15 : pgDecT 130 15 = some (.iconst 1, 1) := by decide +kernel
theorem D130_16 : pgDecT 130 16 = some (.istore_n 2, 1) := by decide +kernel
theorem D130_17 : pgDecT 130 17 = some (.iconst 0, 1) := by decide +kernel
theorem D130_18 : pgDecT 130 18 = some (.istore_n 3, 1) := by decide +kernel
theorem D130_19 : pgDecT 130 19 = some (.iload_n 2, 1) := by decide +kernel
theorem D130_20 : pgDecT 130 20 = some (.ifCond .le 47, 3) := by decide +kernel
theorem D130_67 : pgDecT 130 67 = some (.return_, 1) := by decide +kernel
theorem D130_23 : pgDecT 130 23 = some (.iload_n 3, 1) := by decide +kernel
theorem D130_24 : pgDecT 130 24 = some (.sipush 5008, 3) := by decide +kernel
theorem D130_27 : pgDecT 130 27 = some (.if_icmp .gt 40, 3) := by decide +kernel
theorem D130_30 : pgDecT 130 30 = some (.iinc 2 (-1), 3) := by decide +kernel
theorem D130_33 : pgDecT 130 33 = some (.aload_n 0, 1) := by decide +kernel
theorem D130_34 : pgDecT 130 34 = some (.getfield 33, 3) := by decide +kernel
theorem D130_37 : pgDecT 130 37 = some (.iload_n 2, 1) := by decide +kernel
theorem D130_38 : pgDecT 130 38 = some (.iaload, 1) := by decide +kernel
theorem D130_39 : pgDecT 130 39 = some (.istore 4, 2) := by decide +kernel
theorem D130_41 : pgDecT 130 41 = some (.aload_n 0, 1) := by decide +kernel
theorem D130_42 : pgDecT 130 42 = some (.getfield 27, 3) := by decide +kernel
theorem F130_27 : pgFf 130 27 = some (5, 5, 3) := by decide +kernel
theorem D130_45 : pgDecT 130 45 = some (.iload 4, 2) := by decide +kernel
theorem D130_47 : pgDecT 130 47 = some (.iaload, 1) := by decide +kernel
theorem D130_48 : pgDecT 130 48 = some (.bipush (-2), 2) := by decide +kernel
theorem D130_50 : pgDecT 130 50 = some (.if_icmp .ne 11, 3) := by decide +kernel
theorem D130_61 : pgDecT 130 61 = some (.iinc 3 1, 3) := by decide +kernel
theorem D130_64 : pgDecT 130 64 = some (.goto (-45), 3) := by decide +kernel
theorem D130_53 : pgDecT 130 53 = some (.aload_n 0, 1) := by decide +kernel
theorem D130_54 : pgDecT 130 54 = some (.iload 4, 2) := by decide +kernel
theorem D130_56 : pgDecT 130 56 = some (.iload_n 2, 1) := by decide +kernel
theorem D130_57 : pgDecT 130 57 = some (.invokevirtual 80, 3) := by decide +kernel
theorem I130_80 : pgIi 130 80 = some (131, 2, 5) := by decide +kernel
theorem D130_60 : pgDecT 130 60 = some (.istore_n 2, 1) := by decide +kernel
/-! 130: DictionaryHouse$Graph.numberVariablesOf (I)V -/
def l130 : Nat → Nat → Mm → Int → Int → Int → Option (Int × Mm)
  | 0, _, _, _, _, _ => none
  | f + 1, 19, M, x1, x2, x3 => if x2 ≤ 0 then (some (0, M)) else (if 5008 < x3 then (some (0, M)) else (if 0 ≤ (x2 + (-1)) ∧ (x2 + (-1)) < 5012 then (if 0 ≤ (M 33 (Int.toNat (x2 + (-1)))) ∧ (M 33 (Int.toNat (x2 + (-1)))) < 2504 then (if ¬ (M 31 (Int.toNat (M 33 (Int.toNat (x2 + (-1)))))) = (-2) then (if rg (x2 + (-1)) then (if rg (x3 + 1) then (l130 f 19 M x1 (x2 + (-1)) (x3 + 1)) else none) else none) else (if rg (x2 + (-1)) then (f131 M (M 33 (Int.toNat (x2 + (-1)))) (x2 + (-1))).bind (fun zq24 => if rg (x3 + 1) then (l130 f 19 zq24.2 x1 zq24.1 (x3 + 1)) else none) else none)) else none) else none))
  | _, _, _, _, _, _ => none
theorem d130 {L : Nat} {xs : Nat → Int32} (f : Nat) : (∀ (M : Mm) (x1 x2 x3 : Int) (h : mvH) (v : Int) (M' : Mm), l130 f 19 M x1 x2 x3 = some (v, M') → rp h M → rg x1 → rg x2 → rg x3 → evx L xs 4 130 19 [(0, .inr (.inr (.inl (some 25)))), (1, .inl (iz x1)), (2, .inl (iz x2)), (3, .inl (iz x3))] [] h (.inl none, 0) M') := by
  induction f with
  | zero => exact (fun M x1 x2 x3 h v M' hs _ _ _ _ => by cases hs)
  | succ f ih =>
    intro M x1 x2 x3 h v M' hs R rx1 rx2 rx3
    rw [l130] at hs
    refine evx_F E130 D130_19 rfl rfl ?_
    by_cases cb15 : x2 ≤ 0
    · rw [if_pos cb15] at hs
      refine evx_F E130 D130_20 rfl (ifT (c1_le_T rx2 cb15)) ?_
      cases hs
      exact evx_ret E130 D130_67 rfl (fun d => rfl) rfl trivial R
    · rw [if_neg cb15] at hs
      refine evx_F E130 D130_20 rfl (ifF (c1_le_F rx2 (by omega))) ?_
      refine evx_F E130 D130_23 rfl rfl ?_
      refine evx_k (k := 5008) E130 D130_24 rfl (by decide) ?_
      by_cases cb16 : 5008 < x3
      · rw [if_pos cb16] at hs
        refine evx_F E130 D130_27 rfl (ifT (c2_gt_T rx3 (by decide) cb16)) ?_
        cases hs
        exact evx_ret E130 D130_67 rfl (fun d => rfl) rfl trivial R
      · rw [if_neg cb16] at hs
        refine evx_F E130 D130_27 rfl (ifF (c2_gt_F rx3 (by decide) (by omega))) ?_
        refine evx_inc E130 D130_30 (Nat.le_of_ble_eq_true rfl) rfl ?_
        refine evx_F E130 D130_33 rfl rfl ?_
        refine evx_gfr E130 D130_34 F130_33 H25 rfl R ?_
        refine evx_F E130 D130_37 rfl rfl ?_
        obtain ⟨k17, hs⟩ := ck hs
        refine evx_ial E130 D130_38 H33 (by decide) R k17 ?_
        refine evx_F E130 D130_39 rfl rfl ?_
        refine evx_F E130 D130_41 rfl rfl ?_
        refine evx_gfr E130 D130_42 F130_27 H25 rfl R ?_
        refine evx_F E130 D130_45 rfl rfl ?_
        obtain ⟨k18, hs⟩ := ck hs
        refine evx_ial E130 D130_47 H31 (by decide) R k18 ?_
        refine evx_k (k := -2) E130 D130_48 rfl (by decide) ?_
        by_cases cb19 : ¬ (M 31 (Int.toNat (M 33 (Int.toNat (x2 + (-1)))))) = (-2)
        · rw [if_pos cb19] at hs
          refine evx_F E130 D130_50 rfl (ifT (c2_ne_T (R.1 31 (Int.toNat (M 33 (Int.toNat (x2 + (-1)))))) (by decide) cb19)) ?_
          refine evx_inc E130 D130_61 (Nat.le_of_ble_eq_true rfl) rfl ?_
          refine evx_F E130 D130_64 rfl rfl ?_
          obtain ⟨k20, hs⟩ := ck hs
          obtain ⟨k21, hs⟩ := ck hs
          show evx _ _ _ _ _ [(3, .inl (iz (x3 + 1))), (4, .inl (iz (M 33 (Int.toNat (x2 + (-1)))))), (2, .inl (iz (x2 + (-1)))), (0, .inr (.inr (.inl (some 25)))), (1, .inl (iz x1))] _ _ _ _
          exact evx_lv (lvLe_mk (fm rfl (fm rfl (fm rfl (fm rfl fn)))) (fm rfl (fm rfl (fm rfl (fm rfl (fm rfl fn))))) (fm rfl (fm rfl (fm rfl (fm rfl fn))))) (ih _ _ _ _ _ _ _ hs R rx1 k20 k21)
        · rw [if_neg cb19] at hs
          refine evx_F E130 D130_50 rfl (ifF (c2_ne_F (R.1 31 (Int.toNat (M 33 (Int.toNat (x2 + (-1)))))) (by decide) (by omega))) ?_
          refine evx_F E130 D130_53 rfl rfl ?_
          refine evx_F E130 D130_54 rfl rfl ?_
          refine evx_F E130 D130_56 rfl rfl ?_
          obtain ⟨k22, hs⟩ := ck hs
          obtain ⟨⟨q24, M28⟩, e23, hs⟩ := Option.bind_eq_some_iff.mp hs
          dsimp only at hs
          refine evx_cv (D := 3) E130 D130_57 I130_80 rfl rfl H25 ⟨Nat.le_of_ble_eq_true rfl, Nat.le_of_ble_eq_true rfl⟩ ⟨rfl, Nat.le_of_ble_eq_true rfl⟩ rfl R (evx_up (Nat.le_of_ble_eq_true rfl) (c131 R (R.1 33 (Int.toNat (x2 + (-1)))) k22 e23)) ?_
          intro h25 R26 w27
          have w27 : rg q24 := w27
          show evx _ _ _ _ _ _ (.inl (iz q24) :: _) _ _ _
          refine evx_F E130 D130_60 rfl rfl ?_
          refine evx_inc E130 D130_61 (Nat.le_of_ble_eq_true rfl) rfl ?_
          refine evx_F E130 D130_64 rfl rfl ?_
          obtain ⟨k29, hs⟩ := ck hs
          show evx _ _ _ _ _ [(3, .inl (iz (x3 + 1))), (2, .inl (iz q24)), (4, .inl (iz (M 33 (Int.toNat (x2 + (-1)))))), (0, .inr (.inr (.inl (some 25)))), (1, .inl (iz x1))] _ _ _ _
          exact evx_lv (lvLe_mk (fm rfl (fm rfl (fm rfl (fm rfl fn)))) (fm rfl (fm rfl (fm rfl (fm rfl (fm rfl fn))))) (fm rfl (fm rfl (fm rfl (fm rfl fn))))) (ih _ _ _ _ _ _ _ hs R26 rx1 w27 k29)
def f130 (M : Mm) (x1 : Int) : Option (Int × Mm) := (f103 M).bind (fun zq2 => (f80 zq2.2 x1).bind (fun zq8 => l130 FU 19 (up zq8.2 33 (Int.toNat 0) zq8.1) x1 1 0))
theorem c130 {L : Nat} {xs : Nat → Int32} {h : mvH} {M : Mm} {x1 : Int} {v : Int} {M' : Mm} (R : rp h M) (rx1 : rg x1) (hs : f130 M x1 = some (v, M')) : evx L xs 4 130 0 [(0, .inr (.inr (.inl (some 25)))), (1, .inl (iz x1))] [] h (.inl none, 0) M' := by
  unfold f130 at hs
  refine evx_F E130 D130_0 rfl rfl ?_
  obtain ⟨⟨q2, M6⟩, e1, hs⟩ := Option.bind_eq_some_iff.mp hs
  dsimp only at hs
  refine evx_cv (D := 3) E130 D130_1 I130_77 rfl rfl H25 ⟨Nat.le_of_ble_eq_true rfl, Nat.le_of_ble_eq_true rfl⟩ ⟨rfl, Nat.le_of_ble_eq_true rfl⟩ rfl R (evx_up (Nat.le_of_ble_eq_true rfl) (c103 R  e1)) ?_
  intro h3 R4 w5
  refine evx_F E130 D130_4 rfl rfl ?_
  refine evx_gfr E130 D130_5 F130_33 H25 rfl R4 ?_
  refine evx_F E130 D130_8 rfl rfl ?_
  refine evx_F E130 D130_9 rfl rfl ?_
  refine evx_F E130 D130_10 rfl rfl ?_
  obtain ⟨⟨q8, M12⟩, e7, hs⟩ := Option.bind_eq_some_iff.mp hs
  dsimp only at hs
  refine evx_cv (D := 3) E130 D130_11 I130_44 rfl rfl H25 ⟨Nat.le_of_ble_eq_true rfl, Nat.le_of_ble_eq_true rfl⟩ ⟨rfl, Nat.le_of_ble_eq_true rfl⟩ rfl R4 (evx_up (Nat.le_of_ble_eq_true rfl) (c80 R4 rx1 e7)) ?_
  intro h9 R10 w11
  have w11 : rg q8 := w11
  show evx _ _ _ _ _ _ (.inl (iz q8) :: _) _ _ _
  refine evx_ias E130 D130_14 H33 (by decide) R10 (by decide) w11 ?_
  intro h13 R14
  refine evx_F E130 D130_15 rfl rfl ?_
  refine evx_F E130 D130_16 rfl rfl ?_
  refine evx_F E130 D130_17 rfl rfl ?_
  refine evx_F E130 D130_18 rfl rfl ?_
  show evx _ _ _ _ _ [(3, .inl (iz 0)), (2, .inl (iz 1)), (0, .inr (.inr (.inl (some 25)))), (1, .inl (iz x1))] _ _ _ _
  exact evx_lv (lvLe_mk (fm rfl (fm rfl (fm rfl (fm rfl fn)))) (fm rfl (fm rfl (fm rfl (fm rfl fn)))) (fm rfl (fm rfl (fm rfl (fm rfl fn))))) ((d130 FU) _ _ _ _ _ _ _ hs R14 rx1 (by decide) (by decide))
set_option maxRecDepth 20000 in
theorem E132 : pgMm 132 = some (⟨"DictionaryHouse$Checker", "gatherRemaining", "()I"⟩, prog_2_method_5_code, 4, (some .int), []) := rfl
theorem D132_0 : pgDecT 132 0 = some (.iconst 0, 1) := by decide +kernel
theorem D132_1 : pgDecT 132 1 = some (.istore_n 1, 1) := by decide +kernel
theorem D132_2 : pgDecT 132 2 = some (.iconst 0, 1) := by decide +kernel
theorem D132_3 : pgDecT 132 3 = some (.istore_n 2, 1) := by decide +kernel
theorem D132_4 : pgDecT 132 4 = some (.iload_n 2, 1) := by decide +kernel
theorem D132_5 : pgDecT 132 5 = some (.aload_n 0, 1) := by decide +kernel
theorem D132_6 : pgDecT 132 6 = some (.getfield 46, 3) := by decide +kernel
theorem F132_46 : pgFf 132 46 = some (0, 5, 3) := by decide +kernel
theorem D132_9 : pgDecT 132 9 = some (.invokevirtual 81, 3) := by decide +kernel
theorem I132_81 : pgIi 132 81 = some (133, 0, 5) := by decide +kernel
theorem D132_12 : pgDecT 132 12 = some (.if_icmp .ge 68, 3) := by decide +kernel
theorem D132_80 : pgDecT 132 80 = some (.iload_n 1, 1) := by decide +kernel
theorem D132_81 : pgDecT 132 81 = some (.ireturn, 1) := by decide +kernel
theorem D132_15 : pgDecT 132 15 = some (.iconst 0, 1) := by decide +kernel
theorem D132_16 : pgDecT 132 16 = some (.istore_n 3, 1) := by decide +kernel
theorem D132_17 : pgDecT 132 17 = some (.iload_n 3, 1) := by decide +kernel
theorem D132_18 : pgDecT 132 18 = some (.aload_n 0, 1) := by decide +kernel
theorem D132_19 : pgDecT 132 19 = some (.getfield 24, 3) := by decide +kernel
theorem F132_24 : pgFf 132 24 = some (0, 1, 3) := by decide +kernel
theorem D132_22 : pgDecT 132 22 = some (.invokevirtual 130, 3) := by decide +kernel
theorem I132_130 : pgIi 132 130 = some (27, 0, 1) := by decide +kernel
theorem D132_25 : pgDecT 132 25 = some (.if_icmp .ge 49, 3) := by decide +kernel
theorem D132_74 : pgDecT 132 74 = some (.iinc 2 1, 3) := by decide +kernel
theorem D132_77 : pgDecT 132 77 = some (.goto (-73), 3) := by decide +kernel
theorem D132_28 : pgDecT 132 28 = some (.aload_n 0, 1) := by decide +kernel
theorem D132_29 : pgDecT 132 29 = some (.getfield 54, 3) := by decide +kernel
theorem F132_54 : pgFf 132 54 = some (0, 6, 3) := by decide +kernel
theorem D132_32 : pgDecT 132 32 = some (.iload_n 3, 1) := by decide +kernel
theorem D132_33 : pgDecT 132 33 = some (.aload_n 0, 1) := by decide +kernel
theorem D132_34 : pgDecT 132 34 = some (.getfield 46, 3) := by decide +kernel
theorem D132_37 : pgDecT 132 37 = some (.iload_n 2, 1) := by decide +kernel
theorem D132_38 : pgDecT 132 38 = some (.invokevirtual 133, 3) := by decide +kernel
theorem I132_133 : pgIi 132 133 = some (134, 1, 5) := by decide +kernel
theorem D132_41 : pgDecT 132 41 = some (.invokevirtual 136, 3) := by decide +kernel
theorem I132_136 : pgIi 132 136 = some (135, 2, 2) := by decide +kernel
theorem D132_44 : pgDecT 132 44 = some (.ifCond .eq 24, 3) := by decide +kernel
theorem D132_68 : pgDecT 132 68 = some (.iinc 3 1, 3) := by decide +kernel
theorem D132_71 : pgDecT 132 71 = some (.goto (-54), 3) := by decide +kernel
theorem D132_47 : pgDecT 132 47 = some (.iload_n 1, 1) := by decide +kernel
theorem D132_48 : pgDecT 132 48 = some (.bipush 8, 2) := by decide +kernel
theorem D132_50 : pgDecT 132 50 = some (.if_icmp .ge 15, 3) := by decide +kernel
theorem D132_65 : pgDecT 132 65 = some (.iinc 1 1, 3) := by decide +kernel
theorem D132_53 : pgDecT 132 53 = some (.aload_n 0, 1) := by decide +kernel
theorem D132_54 : pgDecT 132 54 = some (.getfield 9, 3) := by decide +kernel
theorem F132_9 : pgFf 132 9 = some (0, 7, 3) := by decide +kernel
theorem D132_57 : pgDecT 132 57 = some (.iload_n 1, 1) := by decide +kernel
theorem D132_58 : pgDecT 132 58 = some (.bipush 8, 2) := by decide +kernel
theorem D132_60 : pgDecT 132 60 = some (.iload_n 3, 1) := by decide +kernel
theorem D132_61 : pgDecT 132 61 = some (.imul, 1) := by decide +kernel
theorem D132_62 : pgDecT 132 62 = some (.iload_n 2, 1) := by decide +kernel
theorem D132_63 : pgDecT 132 63 = some (.iadd, 1) := by decide +kernel
theorem D132_64 : pgDecT 132 64 = some (.iastore, 1) := by decide +kernel
/-! 132: DictionaryHouse$Checker.gatherRemaining ()I -/
def l132 : Nat → Nat → Mm → Int → Int → Int → Option (Int × Mm)
  | 0, _, _, _, _, _ => none
  | f + 1, 4, M, x1, x2, _ => (f133 M).bind (fun q2 => if q2 ≤ x2 then (some (x1, M)) else (l132 f 17 M x1 x2 0))
  | f + 1, 17, M, x1, x2, x3 => (f27 M).bind (fun q8 => if q8 ≤ x3 then (if rg (x2 + 1) then (l132 f 4 M x1 (x2 + 1) 0) else none) else (f134 M x2).bind (fun q15 => (f135 M x3 q15).bind (fun q20 => if q20 = 0 then (if rg (x3 + 1) then (l132 f 17 M x1 x2 (x3 + 1)) else none) else (if 8 ≤ x1 then (if rg (x1 + 1) then (if rg (x3 + 1) then (l132 f 17 M (x1 + 1) x2 (x3 + 1)) else none) else none) else (if 0 ≤ x1 ∧ x1 < 8 then (if rg (((8 : Int) * x3) + x2) then (if rg (x1 + 1) then (if rg (x3 + 1) then (l132 f 17 (up M 43 (Int.toNat x1) (((8 : Int) * x3) + x2)) (x1 + 1) x2 (x3 + 1)) else none) else none) else none) else none)))))
  | _, _, _, _, _, _ => none
theorem d132 {L : Nat} {xs : Nat → Int32} (f : Nat) : (∀ (M : Mm) (x1 x2 : Int) (h : mvH) (v : Int) (M' : Mm), l132 f 4 M x1 x2 0 = some (v, M') → rp h M → rg x1 → rg x2 → evx L xs 3 132 4 [(0, .inr (.inr (.inl (some 42)))), (1, .inl (iz x1)), (2, .inl (iz x2))] [] h (.inl (some (.inl v)), 0) M') ∧ (∀ (M : Mm) (x1 x2 x3 : Int) (h : mvH) (v : Int) (M' : Mm), l132 f 17 M x1 x2 x3 = some (v, M') → rp h M → rg x1 → rg x2 → rg x3 → evx L xs 3 132 17 [(0, .inr (.inr (.inl (some 42)))), (1, .inl (iz x1)), (2, .inl (iz x2)), (3, .inl (iz x3))] [] h (.inl (some (.inl v)), 0) M') := by
  induction f with
  | zero => exact ⟨(fun M x1 x2 h v M' hs _ _ _ => by cases hs), (fun M x1 x2 x3 h v M' hs _ _ _ _ => by cases hs)⟩
  | succ f ih =>
    refine ⟨?_, ?_⟩
    · intro M x1 x2 h v M' hs R rx1 rx2
      rw [l132] at hs
      refine evx_F E132 D132_4 rfl rfl ?_
      refine evx_F E132 D132_5 rfl rfl ?_
      refine evx_gfr E132 D132_6 F132_46 H42 rfl R ?_
      obtain ⟨q2, e1, hs⟩ := Option.bind_eq_some_iff.mp hs
      refine evx_cv (D := 2) E132 D132_9 I132_81 rfl rfl H25 ⟨Nat.le_of_ble_eq_true rfl, Nat.le_of_ble_eq_true rfl⟩ ⟨rfl, Nat.le_of_ble_eq_true rfl⟩ rfl R (evx_up (Nat.le_of_ble_eq_true rfl) (c133 R  e1)) ?_
      intro h3 R4 w5
      have w5 : rg q2 := w5
      show evx _ _ _ _ _ _ (.inl (iz q2) :: _) _ _ _
      by_cases cb6 : q2 ≤ x2
      · rw [if_pos cb6] at hs
        refine evx_F E132 D132_12 rfl (ifT (c2_ge_T rx2 w5 cb6)) ?_
        refine evx_F E132 D132_80 rfl rfl ?_
        cases hs
        exact evx_ret E132 D132_81 rfl (fun d => rfl) rfl (show rg _ from rx1) R4
      · rw [if_neg cb6] at hs
        refine evx_F E132 D132_12 rfl (ifF (c2_ge_F rx2 w5 (by omega))) ?_
        refine evx_F E132 D132_15 rfl rfl ?_
        refine evx_F E132 D132_16 rfl rfl ?_
        show evx _ _ _ _ _ [(3, .inl (iz 0)), (0, .inr (.inr (.inl (some 42)))), (1, .inl (iz x1)), (2, .inl (iz x2))] _ _ _ _
        exact evx_lv (lvLe_mk (fm rfl (fm rfl (fm rfl (fm rfl fn)))) (fm rfl (fm rfl (fm rfl (fm rfl fn)))) (fm rfl (fm rfl (fm rfl (fm rfl fn))))) (ih.2 _ _ _ _ _ _ _ hs R4 rx1 rx2 (by decide))
    · intro M x1 x2 x3 h v M' hs R rx1 rx2 rx3
      rw [l132] at hs
      refine evx_F E132 D132_17 rfl rfl ?_
      refine evx_F E132 D132_18 rfl rfl ?_
      refine evx_gfr E132 D132_19 F132_24 H42 rfl R ?_
      obtain ⟨q8, e7, hs⟩ := Option.bind_eq_some_iff.mp hs
      refine evx_cv (D := 2) E132 D132_22 I132_130 rfl rfl H5 ⟨Nat.le_of_ble_eq_true rfl, Nat.le_of_ble_eq_true rfl⟩ ⟨rfl, Nat.le_of_ble_eq_true rfl⟩ rfl R (evx_up (Nat.le_of_ble_eq_true rfl) (c27 R  e7)) ?_
      intro h9 R10 w11
      have w11 : rg q8 := w11
      show evx _ _ _ _ _ _ (.inl (iz q8) :: _) _ _ _
      by_cases cb12 : q8 ≤ x3
      · rw [if_pos cb12] at hs
        refine evx_F E132 D132_25 rfl (ifT (c2_ge_T rx3 w11 cb12)) ?_
        refine evx_inc E132 D132_74 (Nat.le_of_ble_eq_true rfl) rfl ?_
        refine evx_F E132 D132_77 rfl rfl ?_
        obtain ⟨k13, hs⟩ := ck hs
        show evx _ _ _ _ _ [(2, .inl (iz (x2 + 1))), (0, .inr (.inr (.inl (some 42)))), (1, .inl (iz x1)), (3, .inl (iz x3))] _ _ _ _
        exact evx_lv (lvLe_mk (fm rfl (fm rfl (fm rfl fn))) (fm rfl (fm rfl (fm rfl (fm rfl fn)))) (fm rfl (fm rfl (fm rfl fn)))) (ih.1 _ _ _ _ _ _ hs R10 rx1 k13)
      · rw [if_neg cb12] at hs
        refine evx_F E132 D132_25 rfl (ifF (c2_ge_F rx3 w11 (by omega))) ?_
        refine evx_F E132 D132_28 rfl rfl ?_
        refine evx_gfr E132 D132_29 F132_54 H42 rfl R10 ?_
        refine evx_F E132 D132_32 rfl rfl ?_
        refine evx_F E132 D132_33 rfl rfl ?_
        refine evx_gfr E132 D132_34 F132_46 H42 rfl R10 ?_
        refine evx_F E132 D132_37 rfl rfl ?_
        obtain ⟨q15, e14, hs⟩ := Option.bind_eq_some_iff.mp hs
        refine evx_cv (D := 2) E132 D132_38 I132_133 rfl rfl H25 ⟨Nat.le_of_ble_eq_true rfl, Nat.le_of_ble_eq_true rfl⟩ ⟨rfl, Nat.le_of_ble_eq_true rfl⟩ rfl R10 (evx_up (Nat.le_of_ble_eq_true rfl) (c134 R10 rx2 e14)) ?_
        intro h16 R17 w18
        have w18 : rg q15 := w18
        show evx _ _ _ _ _ _ (.inl (iz q15) :: _) _ _ _
        obtain ⟨q20, e19, hs⟩ := Option.bind_eq_some_iff.mp hs
        refine evx_cv (D := 2) E132 D132_41 I132_136 rfl rfl H45 ⟨Nat.le_of_ble_eq_true rfl, Nat.le_of_ble_eq_true rfl⟩ ⟨rfl, Nat.le_of_ble_eq_true rfl⟩ rfl R17 (evx_up (Nat.le_of_ble_eq_true rfl) (c135 R17 rx3 w18 e19)) ?_
        intro h21 R22 w23
        have w23 : rg q20 := w23
        show evx _ _ _ _ _ _ (.inl (iz q20) :: _) _ _ _
        by_cases cb24 : q20 = 0
        · rw [if_pos cb24] at hs
          refine evx_F E132 D132_44 rfl (ifT (c1_eq_T w23 cb24)) ?_
          refine evx_inc E132 D132_68 (Nat.le_of_ble_eq_true rfl) rfl ?_
          refine evx_F E132 D132_71 rfl rfl ?_
          obtain ⟨k25, hs⟩ := ck hs
          show evx _ _ _ _ _ [(3, .inl (iz (x3 + 1))), (0, .inr (.inr (.inl (some 42)))), (1, .inl (iz x1)), (2, .inl (iz x2))] _ _ _ _
          exact evx_lv (lvLe_mk (fm rfl (fm rfl (fm rfl (fm rfl fn)))) (fm rfl (fm rfl (fm rfl (fm rfl fn)))) (fm rfl (fm rfl (fm rfl (fm rfl fn))))) (ih.2 _ _ _ _ _ _ _ hs R22 rx1 rx2 k25)
        · rw [if_neg cb24] at hs
          refine evx_F E132 D132_44 rfl (ifF (c1_eq_F w23 (by omega))) ?_
          refine evx_F E132 D132_47 rfl rfl ?_
          refine evx_k (k := 8) E132 D132_48 rfl (by decide) ?_
          by_cases cb26 : 8 ≤ x1
          · rw [if_pos cb26] at hs
            refine evx_F E132 D132_50 rfl (ifT (c2_ge_T rx1 (by decide) cb26)) ?_
            refine evx_inc E132 D132_65 (Nat.le_of_ble_eq_true rfl) rfl ?_
            refine evx_inc E132 D132_68 (Nat.le_of_ble_eq_true rfl) rfl ?_
            refine evx_F E132 D132_71 rfl rfl ?_
            obtain ⟨k27, hs⟩ := ck hs
            obtain ⟨k28, hs⟩ := ck hs
            show evx _ _ _ _ _ [(3, .inl (iz (x3 + 1))), (1, .inl (iz (x1 + 1))), (0, .inr (.inr (.inl (some 42)))), (2, .inl (iz x2))] _ _ _ _
            exact evx_lv (lvLe_mk (fm rfl (fm rfl (fm rfl (fm rfl fn)))) (fm rfl (fm rfl (fm rfl (fm rfl fn)))) (fm rfl (fm rfl (fm rfl (fm rfl fn))))) (ih.2 _ _ _ _ _ _ _ hs R22 k27 rx2 k28)
          · rw [if_neg cb26] at hs
            refine evx_F E132 D132_50 rfl (ifF (c2_ge_F rx1 (by decide) (by omega))) ?_
            refine evx_F E132 D132_53 rfl rfl ?_
            refine evx_gfr E132 D132_54 F132_9 H42 rfl R22 ?_
            refine evx_F E132 D132_57 rfl rfl ?_
            refine evx_k (k := 8) E132 D132_58 rfl (by decide) ?_
            refine evx_F E132 D132_60 rfl rfl ?_
            refine evx_mul E132 D132_61 ?_
            refine evx_F E132 D132_62 rfl rfl ?_
            refine evx_add E132 D132_63 ?_
            obtain ⟨k29, hs⟩ := ck hs
            obtain ⟨k30, hs⟩ := ck hs
            refine evx_ias E132 D132_64 H43 (by decide) R22 k29 k30 ?_
            intro h31 R32
            refine evx_inc E132 D132_65 (Nat.le_of_ble_eq_true rfl) rfl ?_
            refine evx_inc E132 D132_68 (Nat.le_of_ble_eq_true rfl) rfl ?_
            refine evx_F E132 D132_71 rfl rfl ?_
            obtain ⟨k33, hs⟩ := ck hs
            obtain ⟨k34, hs⟩ := ck hs
            show evx _ _ _ _ _ [(3, .inl (iz (x3 + 1))), (1, .inl (iz (x1 + 1))), (0, .inr (.inr (.inl (some 42)))), (2, .inl (iz x2))] _ _ _ _
            exact evx_lv (lvLe_mk (fm rfl (fm rfl (fm rfl (fm rfl fn)))) (fm rfl (fm rfl (fm rfl (fm rfl fn)))) (fm rfl (fm rfl (fm rfl (fm rfl fn))))) (ih.2 _ _ _ _ _ _ _ hs R32 k33 rx2 k34)
def f132 (M : Mm) : Option (Int × Mm) := l132 FU 4 M 0 0 0
theorem c132 {L : Nat} {xs : Nat → Int32} {h : mvH} {M : Mm} {v : Int} {M' : Mm} (R : rp h M)  (hs : f132 M  = some (v, M')) : evx L xs 3 132 0 [(0, .inr (.inr (.inl (some 42))))] [] h (.inl (some (.inl v)), 0) M' := by
  unfold f132 at hs
  refine evx_F E132 D132_0 rfl rfl ?_
  refine evx_F E132 D132_1 rfl rfl ?_
  refine evx_F E132 D132_2 rfl rfl ?_
  refine evx_F E132 D132_3 rfl rfl ?_
  show evx _ _ _ _ _ [(2, .inl (iz 0)), (1, .inl (iz 0)), (0, .inr (.inr (.inl (some 42))))] _ _ _ _
  exact evx_lv (lvLe_mk (fm rfl (fm rfl (fm rfl fn))) (fm rfl (fm rfl (fm rfl fn))) (fm rfl (fm rfl (fm rfl fn)))) ((d132 FU).1 _ _ _ _ _ _ hs R (by decide) (by decide))
set_option maxRecDepth 20000 in
theorem E138 : pgMm 138 = some (⟨"DictionaryHouse$Checker", "numberedType", "(II)I"⟩, prog_2_method_7_code, 6, (some .int), []) := rfl
theorem D138_0 : pgDecT 138 0 = some (.aload_n 0, 1) := by decide +kernel
theorem D138_1 : pgDecT 138 1 = some (.getfield 46, 3) := by decide +kernel
theorem F138_46 : pgFf 138 46 = some (0, 5, 3) := by decide +kernel
theorem D138_4 : pgDecT 138 4 = some (.iload_n 1, 1) := by decide +kernel
theorem D138_5 : pgDecT 138 5 = some (.invokevirtual 158, 3) := by decide +kernel
theorem I138_158 : pgIi 138 158 = some (111, 1, 5) := by decide +kernel
theorem D138_8 : pgDecT 138 8 = some (.istore_n 3, 1) := by decide +kernel
theorem D138_9 : pgDecT 138 9 = some (.iload_n 3, 1) := by decide +kernel
theorem D138_10 : pgDecT 138 10 = some (.ifCond .eq 8, 3) := by decide +kernel
theorem D138_18 : pgDecT 138 18 = some (.iload_n 3, 1) := by decide +kernel
theorem D138_19 : pgDecT 138 19 = some (.ireturn, 1) := by decide +kernel
theorem D138_13 : pgDecT 138 13 = some (.iload_n 3, 1) := by decide +kernel
theorem D138_14 : pgDecT 138 14 = some (.iconst 1, 1) := by decide +kernel
theorem D138_15 : pgDecT 138 15 = some (.if_icmp .ne 5, 3) := by decide +kernel
theorem D138_20 : pgDecT 138 20 = some (.iload_n 3, 1) := by decide +kernel
theorem D138_21 : pgDecT 138 21 = some (.iconst 2, 1) := by decide +kernel
theorem D138_22 : pgDecT 138 22 = some (.if_icmp .ne 14, 3) := by decide +kernel
theorem D138_36 : pgDecT 138 36 = some (.aload_n 0, 1) := by decide +kernel
theorem D138_37 : pgDecT 138 37 = some (.getfield 17, 3) := by decide +kernel
theorem F138_17 : pgFf 138 17 = some (0, 8, 3) := by decide +kernel
theorem D138_40 : pgDecT 138 40 = some (.iload_n 1, 1) := by decide +kernel
theorem D138_41 : pgDecT 138 41 = some (.iaload, 1) := by decide +kernel
theorem D138_42 : pgDecT 138 42 = some (.iconst (-1), 1) := by decide +kernel
theorem D138_43 : pgDecT 138 43 = some (.if_icmp .ne 9, 3) := by decide +kernel
theorem D138_52 : pgDecT 138 52 = some (.aload_n 0, 1) := by decide +kernel
theorem D138_53 : pgDecT 138 53 = some (.getfield 17, 3) := by decide +kernel
theorem D138_56 : pgDecT 138 56 = some (.iload_n 1, 1) := by decide +kernel
theorem D138_57 : pgDecT 138 57 = some (.iaload, 1) := by decide +kernel
theorem D138_58 : pgDecT 138 58 = some (.ireturn, 1) := by decide +kernel
theorem D138_46 : pgDecT 138 46 = some (.iload_n 2, 1) := by decide +kernel
theorem D138_47 : pgDecT 138 47 = some (.bipush 30, 2) := by decide +kernel
theorem D138_49 : pgDecT 138 49 = some (.if_icmp .lt 10, 3) := by decide +kernel
theorem D138_59 : pgDecT 138 59 = some (.aload_n 0, 1) := by decide +kernel
theorem D138_60 : pgDecT 138 60 = some (.aload_n 0, 1) := by decide +kernel
theorem D138_61 : pgDecT 138 61 = some (.getfield 46, 3) := by decide +kernel
theorem D138_64 : pgDecT 138 64 = some (.iload_n 1, 1) := by decide +kernel
theorem D138_65 : pgDecT 138 65 = some (.invokevirtual 164, 3) := by decide +kernel
theorem I138_164 : pgIi 138 164 = some (112, 1, 5) := by decide +kernel
theorem D138_68 : pgDecT 138 68 = some (.iload_n 2, 1) := by decide +kernel
theorem D138_69 : pgDecT 138 69 = some (.iconst 1, 1) := by decide +kernel
theorem D138_70 : pgDecT 138 70 = some (.iadd, 1) := by decide +kernel
theorem D138_71 : pgDecT 138 71 = some (.invokevirtual 152, 3) := by decide +kernel
theorem I138_152 : pgIi 138 152 = some (138, 2, 0) := by decide +kernel
theorem D138_74 : pgDecT 138 74 = some (.istore 4, 2) := by decide +kernel
theorem D138_76 : pgDecT 138 76 = some (.iload 4, 2) := by decide +kernel
theorem D138_78 : pgDecT 138 78 = some (.iconst (-1), 1) := by decide +kernel
theorem D138_79 : pgDecT 138 79 = some (.if_icmp .ne 5, 3) := by decide +kernel
theorem D138_84 : pgDecT 138 84 = some (.iconst (-1), 1) := by decide +kernel
theorem D138_85 : pgDecT 138 85 = some (.istore 5, 2) := by decide +kernel
theorem D138_87 : pgDecT 138 87 = some (.iload_n 3, 1) := by decide +kernel
theorem D138_88 : pgDecT 138 88 = some (.iconst 4, 1) := by decide +kernel
theorem D138_89 : pgDecT 138 89 = some (.if_icmp .ne 28, 3) := by decide +kernel
theorem D138_117 : pgDecT 138 117 = some (.aload_n 0, 1) := by decide +kernel
theorem D138_118 : pgDecT 138 118 = some (.getfield 17, 3) := by decide +kernel
theorem D138_121 : pgDecT 138 121 = some (.iload_n 1, 1) := by decide +kernel
theorem D138_122 : pgDecT 138 122 = some (.aload_n 0, 1) := by decide +kernel
theorem D138_123 : pgDecT 138 123 = some (.getfield 20, 3) := by decide +kernel
theorem F138_20 : pgFf 138 20 = some (0, 0, 3) := by decide +kernel
theorem D138_126 : pgDecT 138 126 = some (.iload 4, 2) := by decide +kernel
theorem D138_128 : pgDecT 138 128 = some (.iload 5, 2) := by decide +kernel
theorem D138_130 : pgDecT 138 130 = some (.invokevirtual 170, 3) := by decide +kernel
theorem I138_170 : pgIi 138 170 = some (19, 2, 9) := by decide +kernel
theorem D138_133 : pgDecT 138 133 = some (.iastore, 1) := by decide +kernel
theorem D138_134 : pgDecT 138 134 = some (.aload_n 0, 1) := by decide +kernel
theorem D138_135 : pgDecT 138 135 = some (.getfield 17, 3) := by decide +kernel
theorem D138_138 : pgDecT 138 138 = some (.iload_n 1, 1) := by decide +kernel
theorem D138_139 : pgDecT 138 139 = some (.iaload, 1) := by decide +kernel
theorem D138_140 : pgDecT 138 140 = some (.ireturn, 1) := by decide +kernel
theorem D138_92 : pgDecT 138 92 = some (.aload_n 0, 1) := by decide +kernel
theorem D138_93 : pgDecT 138 93 = some (.aload_n 0, 1) := by decide +kernel
theorem D138_94 : pgDecT 138 94 = some (.getfield 46, 3) := by decide +kernel
theorem D138_97 : pgDecT 138 97 = some (.iload_n 1, 1) := by decide +kernel
theorem D138_98 : pgDecT 138 98 = some (.invokevirtual 167, 3) := by decide +kernel
theorem I138_167 : pgIi 138 167 = some (139, 1, 5) := by decide +kernel
theorem D138_101 : pgDecT 138 101 = some (.iload_n 2, 1) := by decide +kernel
theorem D138_102 : pgDecT 138 102 = some (.iconst 1, 1) := by decide +kernel
theorem D138_103 : pgDecT 138 103 = some (.iadd, 1) := by decide +kernel
theorem D138_104 : pgDecT 138 104 = some (.invokevirtual 152, 3) := by decide +kernel
theorem D138_107 : pgDecT 138 107 = some (.istore 5, 2) := by decide +kernel
theorem D138_109 : pgDecT 138 109 = some (.iload 5, 2) := by decide +kernel
theorem D138_111 : pgDecT 138 111 = some (.iconst (-1), 1) := by decide +kernel
theorem D138_112 : pgDecT 138 112 = some (.if_icmp .ne 5, 3) := by decide +kernel
theorem D138_115 : pgDecT 138 115 = some (.iconst (-1), 1) := by decide +kernel
theorem D138_116 : pgDecT 138 116 = some (.ireturn, 1) := by decide +kernel
theorem D138_82 : pgDecT 138 82 = some (.iconst (-1), 1) := by decide +kernel
theorem D138_83 : pgDecT 138 83 = some (.ireturn, 1) := by decide +kernel
theorem D138_25 : pgDecT 138 25 = some (.iconst 2, 1) := by decide +kernel
theorem D138_26 : pgDecT 138 26 = some (.aload_n 0, 1) := by decide +kernel
theorem D138_27 : pgDecT 138 27 = some (.getfield 46, 3) := by decide +kernel
theorem D138_30 : pgDecT 138 30 = some (.iload_n 1, 1) := by decide +kernel
theorem D138_31 : pgDecT 138 31 = some (.invokevirtual 161, 3) := by decide +kernel
theorem I138_161 : pgIi 138 161 = some (114, 1, 5) := by decide +kernel
theorem D138_34 : pgDecT 138 34 = some (.iadd, 1) := by decide +kernel
theorem D138_35 : pgDecT 138 35 = some (.ireturn, 1) := by decide +kernel
/-! 138: DictionaryHouse$Checker.numberedType (II)I -/
def f138 : Nat → Mm → Int → Int → Option (Int × Mm)
  | 0, _, _, _ => none
  | n + 1, M, x1, x2 => (f111 M x1).bind (fun q2 => if q2 = 0 then (some (q2, M)) else (if ¬ q2 = 1 then (if ¬ q2 = 2 then (if 0 ≤ x1 ∧ x1 < 2504 then (if ¬ (M 44 (Int.toNat x1)) = (-1) then (some ((M 44 (Int.toNat x1)), M)) else (if x2 < 30 then (f112 M x1).bind (fun zq13 => if rg (x2 + 1) then (f138 n zq13.2 zq13.1 (x2 + 1)).bind (fun zq20 => if ¬ zq20.1 = (-1) then (if ¬ q2 = 4 then (f19 zq20.2 zq20.1 (-1)).bind (fun zq28 => some (((up zq28.2 44 (Int.toNat x1) zq28.1) 44 (Int.toNat x1)), (up zq28.2 44 (Int.toNat x1) zq28.1))) else (f139 zq20.2 x1).bind (fun zq36 => (f138 n zq36.2 zq36.1 (x2 + 1)).bind (fun zq42 => if ¬ zq42.1 = (-1) then (f19 zq42.2 zq20.1 zq42.1).bind (fun zq49 => some (((up zq49.2 44 (Int.toNat x1) zq49.1) 44 (Int.toNat x1)), (up zq49.2 44 (Int.toNat x1) zq49.1))) else (some ((-1), zq42.2))))) else (some ((-1), zq20.2))) else none) else (some ((M 44 (Int.toNat x1)), M)))) else none) else (f114 M x1).bind (fun zq57 => if rg ((2 : Int) + zq57.1) then (some (((2 : Int) + zq57.1), zq57.2)) else none)) else (some (q2, M))))
theorem c138 {L : Nat} {xs : Nat → Int32} (n : Nat) : ∀ {h : mvH} {M : Mm} {x1 x2 : Int} {v : Int} {M' : Mm} , rp h M → rg x1 → rg x2 → f138 n M x1 x2 = some (v, M') → evx L xs (2 + n) 138 0 [(0, .inr (.inr (.inl (some 42)))), (1, .inl (iz x1)), (2, .inl (iz x2))] [] h (.inl (some (.inl v)), 0) M' := by
  induction n with
  | zero => intro h M x1 x2 v M' R rx1 rx2 hs; cases hs
  | succ n ih =>
    intro h M x1 x2 v M' R rx1 rx2 hs
    rw [f138] at hs
    refine evx_F E138 D138_0 rfl rfl ?_
    refine evx_gfr E138 D138_1 F138_46 H42 rfl R ?_
    refine evx_F E138 D138_4 rfl rfl ?_
    obtain ⟨q2, e1, hs⟩ := Option.bind_eq_some_iff.mp hs
    refine evx_cv (D := 2 + n) E138 D138_5 I138_158 rfl rfl H25 ⟨Nat.le_of_ble_eq_true rfl, Nat.le_of_ble_eq_true rfl⟩ ⟨rfl, Nat.le_of_ble_eq_true rfl⟩ rfl R (evx_up (by omega) (c111 R rx1 e1)) ?_
    intro h3 R4 w5
    have w5 : rg q2 := w5
    show evx _ _ _ _ _ _ (.inl (iz q2) :: _) _ _ _
    refine evx_F E138 D138_8 rfl rfl ?_
    refine evx_F E138 D138_9 rfl rfl ?_
    by_cases cb6 : q2 = 0
    · rw [if_pos cb6] at hs
      refine evx_F E138 D138_10 rfl (ifT (c1_eq_T w5 cb6)) ?_
      refine evx_F E138 D138_18 rfl rfl ?_
      cases hs
      exact evx_ret E138 D138_19 rfl (fun d => rfl) rfl (show rg _ from w5) R4
    · rw [if_neg cb6] at hs
      refine evx_F E138 D138_10 rfl (ifF (c1_eq_F w5 (by omega))) ?_
      refine evx_F E138 D138_13 rfl rfl ?_
      refine evx_F E138 D138_14 rfl rfl ?_
      by_cases cb7 : ¬ q2 = 1
      · rw [if_pos cb7] at hs
        refine evx_F E138 D138_15 rfl (ifT (c2_ne_T w5 (by decide) cb7)) ?_
        refine evx_F E138 D138_20 rfl rfl ?_
        refine evx_F E138 D138_21 rfl rfl ?_
        by_cases cb8 : ¬ q2 = 2
        · rw [if_pos cb8] at hs
          refine evx_F E138 D138_22 rfl (ifT (c2_ne_T w5 (by decide) cb8)) ?_
          refine evx_F E138 D138_36 rfl rfl ?_
          refine evx_gfr E138 D138_37 F138_17 H42 rfl R4 ?_
          refine evx_F E138 D138_40 rfl rfl ?_
          obtain ⟨k9, hs⟩ := ck hs
          refine evx_ial E138 D138_41 H44 (by decide) R4 k9 ?_
          refine evx_F E138 D138_42 rfl rfl ?_
          by_cases cb10 : ¬ (M 44 (Int.toNat x1)) = (-1)
          · rw [if_pos cb10] at hs
            refine evx_F E138 D138_43 rfl (ifT (c2_ne_T (R4.1 44 (Int.toNat x1)) (by decide) cb10)) ?_
            refine evx_F E138 D138_52 rfl rfl ?_
            refine evx_gfr E138 D138_53 F138_17 H42 rfl R4 ?_
            refine evx_F E138 D138_56 rfl rfl ?_
            refine evx_ial E138 D138_57 H44 (by decide) R4 k9 ?_
            cases hs
            exact evx_ret E138 D138_58 rfl (fun d => rfl) rfl (show rg _ from (R4.1 44 (Int.toNat x1))) R4
          · rw [if_neg cb10] at hs
            refine evx_F E138 D138_43 rfl (ifF (c2_ne_F (R4.1 44 (Int.toNat x1)) (by decide) (by omega))) ?_
            refine evx_F E138 D138_46 rfl rfl ?_
            refine evx_k (k := 30) E138 D138_47 rfl (by decide) ?_
            by_cases cb11 : x2 < 30
            · rw [if_pos cb11] at hs
              refine evx_F E138 D138_49 rfl (ifT (c2_lt_T rx2 (by decide) cb11)) ?_
              refine evx_F E138 D138_59 rfl rfl ?_
              refine evx_F E138 D138_60 rfl rfl ?_
              refine evx_gfr E138 D138_61 F138_46 H42 rfl R4 ?_
              refine evx_F E138 D138_64 rfl rfl ?_
              obtain ⟨⟨q13, M17⟩, e12, hs⟩ := Option.bind_eq_some_iff.mp hs
              dsimp only at hs
              refine evx_cv (D := 2 + n) E138 D138_65 I138_164 rfl rfl H25 ⟨Nat.le_of_ble_eq_true rfl, Nat.le_of_ble_eq_true rfl⟩ ⟨rfl, Nat.le_of_ble_eq_true rfl⟩ rfl R4 (evx_up (by omega) (c112 R4 rx1 e12)) ?_
              intro h14 R15 w16
              have w16 : rg q13 := w16
              show evx _ _ _ _ _ _ (.inl (iz q13) :: _) _ _ _
              refine evx_F E138 D138_68 rfl rfl ?_
              refine evx_F E138 D138_69 rfl rfl ?_
              refine evx_add E138 D138_70 ?_
              obtain ⟨k18, hs⟩ := ck hs
              obtain ⟨⟨q20, M24⟩, e19, hs⟩ := Option.bind_eq_some_iff.mp hs
              dsimp only at hs
              refine evx_cv (D := 2 + n) E138 D138_71 I138_152 rfl rfl H42 ⟨Nat.le_of_ble_eq_true rfl, Nat.le_of_ble_eq_true rfl⟩ ⟨rfl, Nat.le_of_ble_eq_true rfl⟩ rfl R15 (ih R15 w16 k18 e19) ?_
              intro h21 R22 w23
              have w23 : rg q20 := w23
              show evx _ _ _ _ _ _ (.inl (iz q20) :: _) _ _ _
              refine evx_F E138 D138_74 rfl rfl ?_
              refine evx_F E138 D138_76 rfl rfl ?_
              refine evx_F E138 D138_78 rfl rfl ?_
              by_cases cb25 : ¬ q20 = (-1)
              · rw [if_pos cb25] at hs
                refine evx_F E138 D138_79 rfl (ifT (c2_ne_T w23 (by decide) cb25)) ?_
                refine evx_F E138 D138_84 rfl rfl ?_
                refine evx_F E138 D138_85 rfl rfl ?_
                refine evx_F E138 D138_87 rfl rfl ?_
                refine evx_F E138 D138_88 rfl rfl ?_
                by_cases cb26 : ¬ q2 = 4
                · rw [if_pos cb26] at hs
                  refine evx_F E138 D138_89 rfl (ifT (c2_ne_T w5 (by decide) cb26)) ?_
                  refine evx_F E138 D138_117 rfl rfl ?_
                  refine evx_gfr E138 D138_118 F138_17 H42 rfl R22 ?_
                  refine evx_F E138 D138_121 rfl rfl ?_
                  refine evx_F E138 D138_122 rfl rfl ?_
                  refine evx_gfr E138 D138_123 F138_20 H42 rfl R22 ?_
                  refine evx_F E138 D138_126 rfl rfl ?_
                  refine evx_F E138 D138_128 rfl rfl ?_
                  obtain ⟨⟨q28, M32⟩, e27, hs⟩ := Option.bind_eq_some_iff.mp hs
                  dsimp only at hs
                  refine evx_cv (D := 2 + n) E138 D138_130 I138_170 rfl rfl H1 ⟨Nat.le_of_ble_eq_true rfl, Nat.le_of_ble_eq_true rfl⟩ ⟨rfl, Nat.le_of_ble_eq_true rfl⟩ rfl R22 (evx_up (by omega) (c19 R22 w23 (by decide) e27)) ?_
                  intro h29 R30 w31
                  have w31 : rg q28 := w31
                  show evx _ _ _ _ _ _ (.inl (iz q28) :: _) _ _ _
                  refine evx_ias E138 D138_133 H44 (by decide) R30 k9 w31 ?_
                  intro h33 R34
                  refine evx_F E138 D138_134 rfl rfl ?_
                  refine evx_gfr E138 D138_135 F138_17 H42 rfl R34 ?_
                  refine evx_F E138 D138_138 rfl rfl ?_
                  refine evx_ial E138 D138_139 H44 (by decide) R34 k9 ?_
                  cases hs
                  exact evx_ret E138 D138_140 rfl (fun d => rfl) rfl (show rg _ from (R34.1 44 (Int.toNat x1))) R34
                · rw [if_neg cb26] at hs
                  refine evx_F E138 D138_89 rfl (ifF (c2_ne_F w5 (by decide) (by omega))) ?_
                  refine evx_F E138 D138_92 rfl rfl ?_
                  refine evx_F E138 D138_93 rfl rfl ?_
                  refine evx_gfr E138 D138_94 F138_46 H42 rfl R22 ?_
                  refine evx_F E138 D138_97 rfl rfl ?_
                  obtain ⟨⟨q36, M40⟩, e35, hs⟩ := Option.bind_eq_some_iff.mp hs
                  dsimp only at hs
                  refine evx_cv (D := 2 + n) E138 D138_98 I138_167 rfl rfl H25 ⟨Nat.le_of_ble_eq_true rfl, Nat.le_of_ble_eq_true rfl⟩ ⟨rfl, Nat.le_of_ble_eq_true rfl⟩ rfl R22 (evx_up (by omega) (c139 R22 rx1 e35)) ?_
                  intro h37 R38 w39
                  have w39 : rg q36 := w39
                  show evx _ _ _ _ _ _ (.inl (iz q36) :: _) _ _ _
                  refine evx_F E138 D138_101 rfl rfl ?_
                  refine evx_F E138 D138_102 rfl rfl ?_
                  refine evx_add E138 D138_103 ?_
                  obtain ⟨⟨q42, M46⟩, e41, hs⟩ := Option.bind_eq_some_iff.mp hs
                  dsimp only at hs
                  refine evx_cv (D := 2 + n) E138 D138_104 I138_152 rfl rfl H42 ⟨Nat.le_of_ble_eq_true rfl, Nat.le_of_ble_eq_true rfl⟩ ⟨rfl, Nat.le_of_ble_eq_true rfl⟩ rfl R38 (ih R38 w39 k18 e41) ?_
                  intro h43 R44 w45
                  have w45 : rg q42 := w45
                  show evx _ _ _ _ _ _ (.inl (iz q42) :: _) _ _ _
                  refine evx_F E138 D138_107 rfl rfl ?_
                  refine evx_F E138 D138_109 rfl rfl ?_
                  refine evx_F E138 D138_111 rfl rfl ?_
                  by_cases cb47 : ¬ q42 = (-1)
                  · rw [if_pos cb47] at hs
                    refine evx_F E138 D138_112 rfl (ifT (c2_ne_T w45 (by decide) cb47)) ?_
                    refine evx_F E138 D138_117 rfl rfl ?_
                    refine evx_gfr E138 D138_118 F138_17 H42 rfl R44 ?_
                    refine evx_F E138 D138_121 rfl rfl ?_
                    refine evx_F E138 D138_122 rfl rfl ?_
                    refine evx_gfr E138 D138_123 F138_20 H42 rfl R44 ?_
                    refine evx_F E138 D138_126 rfl rfl ?_
                    refine evx_F E138 D138_128 rfl rfl ?_
                    obtain ⟨⟨q49, M53⟩, e48, hs⟩ := Option.bind_eq_some_iff.mp hs
                    dsimp only at hs
                    refine evx_cv (D := 2 + n) E138 D138_130 I138_170 rfl rfl H1 ⟨Nat.le_of_ble_eq_true rfl, Nat.le_of_ble_eq_true rfl⟩ ⟨rfl, Nat.le_of_ble_eq_true rfl⟩ rfl R44 (evx_up (by omega) (c19 R44 w23 w45 e48)) ?_
                    intro h50 R51 w52
                    have w52 : rg q49 := w52
                    show evx _ _ _ _ _ _ (.inl (iz q49) :: _) _ _ _
                    refine evx_ias E138 D138_133 H44 (by decide) R51 k9 w52 ?_
                    intro h54 R55
                    refine evx_F E138 D138_134 rfl rfl ?_
                    refine evx_gfr E138 D138_135 F138_17 H42 rfl R55 ?_
                    refine evx_F E138 D138_138 rfl rfl ?_
                    refine evx_ial E138 D138_139 H44 (by decide) R55 k9 ?_
                    cases hs
                    exact evx_ret E138 D138_140 rfl (fun d => rfl) rfl (show rg _ from (R55.1 44 (Int.toNat x1))) R55
                  · rw [if_neg cb47] at hs
                    refine evx_F E138 D138_112 rfl (ifF (c2_ne_F w45 (by decide) (by omega))) ?_
                    refine evx_F E138 D138_115 rfl rfl ?_
                    cases hs
                    exact evx_ret E138 D138_116 rfl (fun d => rfl) rfl (show rg _ from (by decide)) R44
              · rw [if_neg cb25] at hs
                refine evx_F E138 D138_79 rfl (ifF (c2_ne_F w23 (by decide) (by omega))) ?_
                refine evx_F E138 D138_82 rfl rfl ?_
                cases hs
                exact evx_ret E138 D138_83 rfl (fun d => rfl) rfl (show rg _ from (by decide)) R22
            · rw [if_neg cb11] at hs
              refine evx_F E138 D138_49 rfl (ifF (c2_lt_F rx2 (by decide) (by omega))) ?_
              refine evx_F E138 D138_52 rfl rfl ?_
              refine evx_gfr E138 D138_53 F138_17 H42 rfl R4 ?_
              refine evx_F E138 D138_56 rfl rfl ?_
              refine evx_ial E138 D138_57 H44 (by decide) R4 k9 ?_
              cases hs
              exact evx_ret E138 D138_58 rfl (fun d => rfl) rfl (show rg _ from (R4.1 44 (Int.toNat x1))) R4
        · rw [if_neg cb8] at hs
          refine evx_F E138 D138_22 rfl (ifF (c2_ne_F w5 (by decide) (by omega))) ?_
          refine evx_F E138 D138_25 rfl rfl ?_
          refine evx_F E138 D138_26 rfl rfl ?_
          refine evx_gfr E138 D138_27 F138_46 H42 rfl R4 ?_
          refine evx_F E138 D138_30 rfl rfl ?_
          obtain ⟨⟨q57, M61⟩, e56, hs⟩ := Option.bind_eq_some_iff.mp hs
          dsimp only at hs
          refine evx_cv (D := 2 + n) E138 D138_31 I138_161 rfl rfl H25 ⟨Nat.le_of_ble_eq_true rfl, Nat.le_of_ble_eq_true rfl⟩ ⟨rfl, Nat.le_of_ble_eq_true rfl⟩ rfl R4 (evx_up (by omega) (c114 R4 rx1 e56)) ?_
          intro h58 R59 w60
          have w60 : rg q57 := w60
          show evx _ _ _ _ _ _ (.inl (iz q57) :: _) _ _ _
          refine evx_add E138 D138_34 ?_
          obtain ⟨k62, hs⟩ := ck hs
          cases hs
          exact evx_ret E138 D138_35 rfl (fun d => rfl) rfl (show rg _ from k62) R59
      · rw [if_neg cb7] at hs
        refine evx_F E138 D138_15 rfl (ifF (c2_ne_F w5 (by decide) (by omega))) ?_
        refine evx_F E138 D138_18 rfl rfl ?_
        cases hs
        exact evx_ret E138 D138_19 rfl (fun d => rfl) rfl (show rg _ from w5) R4
set_option maxRecDepth 20000 in
theorem E146 : pgMm 146 = some (⟨"DictionaryHouse", "is", "(II)Z"⟩, prog_1_method_16_code, 3, (some .boolean), []) := rfl
theorem D146_0 : pgDecT 146 0 = some (.aload_n 0, 1) := by decide +kernel
theorem D146_1 : pgDecT 146 1 = some (.getfield 19, 3) := by decide +kernel
theorem F146_19 : pgFf 146 19 = some (11, 1, 3) := by decide +kernel
theorem D146_4 : pgDecT 146 4 = some (.iload_n 1, 1) := by decide +kernel
theorem D146_5 : pgDecT 146 5 = some (.invokevirtual 79, 3) := by decide +kernel
theorem I146_79 : pgIi 146 79 = some (26, 1, 1) := by decide +kernel
theorem D146_8 : pgDecT 146 8 = some (.ifCond .eq 18, 3) := by decide +kernel
theorem D146_26 : pgDecT 146 26 = some (.iconst 0, 1) := by decide +kernel
theorem D146_27 : pgDecT 146 27 = some (.invokestatic 67, 3) := by decide +kernel
theorem I146_67 : pgIi 146 67 = some (18, 1, 100) := by decide +kernel
theorem D146_11 : pgDecT 146 11 = some (.aload_n 0, 1) := by decide +kernel
theorem D146_12 : pgDecT 146 12 = some (.getfield 12, 3) := by decide +kernel
theorem F146_12 : pgFf 146 12 = some (11, 0, 3) := by decide +kernel
theorem D146_15 : pgDecT 146 15 = some (.iload_n 2, 1) := by decide +kernel
theorem D146_16 : pgDecT 146 16 = some (.invokevirtual 63, 3) := by decide +kernel
theorem I146_63 : pgIi 146 63 = some (17, 1, 9) := by decide +kernel
theorem D146_19 : pgDecT 146 19 = some (.ifCond .eq 7, 3) := by decide +kernel
theorem D146_22 : pgDecT 146 22 = some (.iconst 1, 1) := by decide +kernel
theorem D146_23 : pgDecT 146 23 = some (.goto 4, 3) := by decide +kernel
theorem D146_30 : pgDecT 146 30 = some (.aload_n 0, 1) := by decide +kernel
theorem D146_31 : pgDecT 146 31 = some (.iload_n 1, 1) := by decide +kernel
theorem D146_32 : pgDecT 146 32 = some (.iload_n 2, 1) := by decide +kernel
theorem D146_33 : pgDecT 146 33 = some (.invokevirtual 151, 3) := by decide +kernel
theorem I146_151 : pgIi 146 151 = some (147, 2, 11) := by decide +kernel
theorem D146_36 : pgDecT 146 36 = some (.ireturn, 1) := by decide +kernel
/-! 146: DictionaryHouse.is (II)Z -/
def f146 (M : Mm) (x1 : Int) (x2 : Int) : Option (Int × Int × Mm) := (f26 M x1).bind (fun q2 => if q2 = 0 then (some (1, 0, M)) else (f17 M x2).bind (fun q9 => if q9 = 0 then (some (1, 0, M)) else (f147 M x1 x2).bind (fun q17 => if q17 = 0 ∨ q17 = 1 then (some (0, q17, M)) else none)))
theorem c146 {L : Nat} {xs : Nat → Int32} {h : mvH} {M : Mm} {x1 x2 : Int} {k v : Int} {M' : Mm} (R : rp h M) (rx1 : rg x1) (rx2 : rg x2) (hs : f146 M x1 x2 = some (k, v, M')) : evx L xs 9 146 0 [(0, .inr (.inr (.inl (some 0)))), (1, .inl (iz x1)), (2, .inl (iz x2))] [] h (ot k v) M' := by
  unfold f146 at hs
  refine evx_F E146 D146_0 rfl rfl ?_
  refine evx_gfr E146 D146_1 F146_19 H0 rfl R ?_
  refine evx_F E146 D146_4 rfl rfl ?_
  obtain ⟨q2, e1, hs⟩ := Option.bind_eq_some_iff.mp hs
  refine evx_cv (D := 8) E146 D146_5 I146_79 rfl rfl H5 ⟨Nat.le_of_ble_eq_true rfl, Nat.le_of_ble_eq_true rfl⟩ ⟨rfl, Nat.le_of_ble_eq_true rfl⟩ rfl R (evx_up (Nat.le_of_ble_eq_true rfl) (c26 R rx1 e1)) ?_
  intro h3 R4 w5
  have w5 : rg q2 := w5
  show evx _ _ _ _ _ _ (.inl (iz q2) :: _) _ _ _
  by_cases cb6 : q2 = 0
  · rw [if_pos cb6] at hs
    refine evx_F E146 D146_8 rfl (ifT (c1_eq_T w5 cb6)) ?_
    refine evx_F E146 D146_26 rfl rfl ?_
    cases hs
    exact evx_rqF (b := true) E146 D146_27 I146_67 (Nat.le_of_ble_eq_true rfl) rfl (Nat.le_of_ble_eq_true rfl) rfl rfl rfl R4
  · rw [if_neg cb6] at hs
    refine evx_F E146 D146_8 rfl (ifF (c1_eq_F w5 (by omega))) ?_
    refine evx_F E146 D146_11 rfl rfl ?_
    refine evx_gfr E146 D146_12 F146_12 H0 rfl R4 ?_
    refine evx_F E146 D146_15 rfl rfl ?_
    obtain ⟨q9, e8, hs⟩ := Option.bind_eq_some_iff.mp hs
    refine evx_cv (D := 8) E146 D146_16 I146_63 rfl rfl H1 ⟨Nat.le_of_ble_eq_true rfl, Nat.le_of_ble_eq_true rfl⟩ ⟨rfl, Nat.le_of_ble_eq_true rfl⟩ rfl R4 (evx_up (Nat.le_of_ble_eq_true rfl) (c17 R4 rx2 e8)) ?_
    intro h10 R11 w12
    have w12 : rg q9 := w12
    show evx _ _ _ _ _ _ (.inl (iz q9) :: _) _ _ _
    by_cases cb13 : q9 = 0
    · rw [if_pos cb13] at hs
      refine evx_F E146 D146_19 rfl (ifT (c1_eq_T w12 cb13)) ?_
      refine evx_F E146 D146_26 rfl rfl ?_
      cases hs
      exact evx_rqF (b := true) E146 D146_27 I146_67 (Nat.le_of_ble_eq_true rfl) rfl (Nat.le_of_ble_eq_true rfl) rfl rfl rfl R11
    · rw [if_neg cb13] at hs
      refine evx_F E146 D146_19 rfl (ifF (c1_eq_F w12 (by omega))) ?_
      refine evx_F E146 D146_22 rfl rfl ?_
      refine evx_F E146 D146_23 rfl rfl ?_
      refine evx_rqT (b := true) E146 D146_27 I146_67 (Nat.le_of_ble_eq_true rfl) rfl (Nat.le_of_ble_eq_true rfl) (by decide) (by decide) ?_
      refine evx_F E146 D146_30 rfl rfl ?_
      refine evx_F E146 D146_31 rfl rfl ?_
      refine evx_F E146 D146_32 rfl rfl ?_
      obtain ⟨q17, e16, hs⟩ := Option.bind_eq_some_iff.mp hs
      refine evx_cv (D := 8) E146 D146_33 I146_151 rfl rfl H0 ⟨Nat.le_of_ble_eq_true rfl, Nat.le_of_ble_eq_true rfl⟩ ⟨rfl, Nat.le_of_ble_eq_true rfl⟩ rfl R11 (evx_up (Nat.le_of_ble_eq_true rfl) (c147 R11 rx1 rx2 e16)) ?_
      intro h18 R19 w20
      have w20 : rg q17 := w20
      show evx _ _ _ _ _ _ (.inl (iz q17) :: _) _ _ _
      obtain ⟨k21, hs⟩ := ck hs
      cases hs
      exact evx_retb E146 D146_36 rfl k21 R19
set_option maxRecDepth 20000 in
theorem E154 : pgMm 154 = some (⟨"DictionaryHouse$Heap", "newFrame", "()I"⟩, prog_8_method_5_code, 2, (some .int), []) := rfl
theorem D154_0 : pgDecT 154 0 = some (.aload_n 0, 1) := by decide +kernel
theorem D154_1 : pgDecT 154 1 = some (.getfield 22, 3) := by decide +kernel
theorem F154_22 : pgFf 154 22 = some (6, 3, 0) := by decide +kernel
theorem D154_4 : pgDecT 154 4 = some (.bipush 8, 2) := by decide +kernel
theorem D154_6 : pgDecT 154 6 = some (.imul, 1) := by decide +kernel
theorem D154_7 : pgDecT 154 7 = some (.istore_n 1, 1) := by decide +kernel
theorem D154_8 : pgDecT 154 8 = some (.aload_n 0, 1) := by decide +kernel
theorem D154_9 : pgDecT 154 9 = some (.getfield 15, 3) := by decide +kernel
theorem F154_15 : pgFf 154 15 = some (6, 1, 3) := by decide +kernel
theorem D154_12 : pgDecT 154 12 = some (.iload_n 1, 1) := by decide +kernel
theorem D154_13 : pgDecT 154 13 = some (.iload_n 1, 1) := by decide +kernel
theorem D154_14 : pgDecT 154 14 = some (.bipush 8, 2) := by decide +kernel
theorem D154_16 : pgDecT 154 16 = some (.iadd, 1) := by decide +kernel
theorem D154_17 : pgDecT 154 17 = some (.iconst 2, 1) := by decide +kernel
theorem D154_18 : pgDecT 154 18 = some (.invokestatic 27, 3) := by decide +kernel
theorem I154_27 : pgIi 154 27 = some (99, 4, 100) := by decide +kernel
theorem D154_21 : pgDecT 154 21 = some (.aload_n 0, 1) := by decide +kernel
theorem D154_22 : pgDecT 154 22 = some (.dup, 1) := by decide +kernel
theorem D154_23 : pgDecT 154 23 = some (.getfield 22, 3) := by decide +kernel
theorem D154_26 : pgDecT 154 26 = some (.dup_x1, 1) := by decide +kernel
theorem D154_27 : pgDecT 154 27 = some (.iconst 1, 1) := by decide +kernel
theorem D154_28 : pgDecT 154 28 = some (.iadd, 1) := by decide +kernel
theorem D154_29 : pgDecT 154 29 = some (.putfield 22, 3) := by decide +kernel
theorem D154_32 : pgDecT 154 32 = some (.ireturn, 1) := by decide +kernel
/-! 154: DictionaryHouse$Heap.newFrame ()I -/
def f154 (M : Mm) : Option (Int × Mm) := if rg ((M 48 3) * 8) then (if rg (((M 48 3) * 8) + 8) then (f99_50 M ((M 48 3) * 8) (((M 48 3) * 8) + 8) 2).bind (fun zq4 => if rg ((zq4.2 48 3) + 1) then (some ((zq4.2 48 3), (up zq4.2 48 3 ((zq4.2 48 3) + 1)))) else none) else none) else none
theorem c154 {L : Nat} {xs : Nat → Int32} {h : mvH} {M : Mm} {v : Int} {M' : Mm} (R : rp h M)  (hs : f154 M  = some (v, M')) : evx L xs 3 154 0 [(0, .inr (.inr (.inl (some 48))))] [] h (.inl (some (.inl v)), 0) M' := by
  unfold f154 at hs
  refine evx_F E154 D154_0 rfl rfl ?_
  refine evx_gfi (k := 3) E154 D154_1 F154_22 H48 rfl R ?_
  refine evx_k (k := 8) E154 D154_4 rfl (by decide) ?_
  refine evx_mul E154 D154_6 ?_
  refine evx_F E154 D154_7 rfl rfl ?_
  refine evx_F E154 D154_8 rfl rfl ?_
  refine evx_gfr E154 D154_9 F154_15 H48 rfl R ?_
  refine evx_F E154 D154_12 rfl rfl ?_
  refine evx_F E154 D154_13 rfl rfl ?_
  refine evx_k (k := 8) E154 D154_14 rfl (by decide) ?_
  refine evx_add E154 D154_16 ?_
  refine evx_F E154 D154_17 rfl rfl ?_
  obtain ⟨k1, hs⟩ := ck hs
  obtain ⟨k2, hs⟩ := ck hs
  obtain ⟨⟨q4, M8⟩, e3, hs⟩ := Option.bind_eq_some_iff.mp hs
  dsimp only at hs
  refine evx_cs (D := 2) E154 D154_18 I154_27 rfl rfl (Nat.le_of_ble_eq_true rfl) ⟨rfl, Nat.le_of_ble_eq_true rfl⟩ rfl (evx_up (Nat.le_of_ble_eq_true rfl) (c99_50 R k1 k2 (by decide) e3)) ?_
  intro h5 R6 w7
  refine evx_F E154 D154_21 rfl rfl ?_
  refine evx_F E154 D154_22 rfl rfl ?_
  refine evx_gfi (k := 3) E154 D154_23 F154_22 H48 rfl R6 ?_
  refine evx_F E154 D154_26 rfl rfl ?_
  refine evx_F E154 D154_27 rfl rfl ?_
  refine evx_add E154 D154_28 ?_
  obtain ⟨k9, hs⟩ := ck hs
  refine evx_pfi (k := 3) E154 D154_29 F154_22 H48 rfl R6 k9 rfl ?_
  intro h10 R11
  cases hs
  exact evx_ret E154 D154_32 rfl (fun d => rfl) rfl (show rg _ from (R6.1 48 3)) R11
set_option maxRecDepth 20000 in
theorem E156 : pgMm 156 = some (⟨"DictionaryHouse$Machine", "isGoing", "()Z"⟩, prog_9_method_5_code, 1, (some .boolean), []) := rfl
theorem D156_0 : pgDecT 156 0 = some (.aload_n 0, 1) := by decide +kernel
theorem D156_1 : pgDecT 156 1 = some (.getfield 57, 3) := by decide +kernel
theorem F156_57 : pgFf 156 57 = some (7, 9, 1) := by decide +kernel
theorem D156_4 : pgDecT 156 4 = some (.ifCond .ne 32, 3) := by decide +kernel
theorem D156_36 : pgDecT 156 36 = some (.iconst 0, 1) := by decide +kernel
theorem D156_37 : pgDecT 156 37 = some (.ireturn, 1) := by decide +kernel
theorem D156_7 : pgDecT 156 7 = some (.aload_n 0, 1) := by decide +kernel
theorem D156_8 : pgDecT 156 8 = some (.getfield 12, 3) := by decide +kernel
theorem F156_12 : pgFf 156 12 = some (7, 4, 3) := by decide +kernel
theorem D156_11 : pgDecT 156 11 = some (.invokevirtual 96, 3) := by decide +kernel
theorem I156_96 : pgIi 156 96 = some (157, 0, 6) := by decide +kernel
theorem D156_14 : pgDecT 156 14 = some (.ifCond .eq 22, 3) := by decide +kernel
theorem D156_17 : pgDecT 156 17 = some (.aload_n 0, 1) := by decide +kernel
theorem D156_18 : pgDecT 156 18 = some (.getfield 84, 3) := by decide +kernel
theorem F156_84 : pgFf 156 84 = some (7, 10, 0) := by decide +kernel
theorem D156_21 : pgDecT 156 21 = some (.iconst (-1), 1) := by decide +kernel
theorem D156_22 : pgDecT 156 22 = some (.if_icmp .ne 10, 3) := by decide +kernel
theorem D156_32 : pgDecT 156 32 = some (.iconst 1, 1) := by decide +kernel
theorem D156_33 : pgDecT 156 33 = some (.goto 4, 3) := by decide +kernel
theorem D156_25 : pgDecT 156 25 = some (.aload_n 0, 1) := by decide +kernel
theorem D156_26 : pgDecT 156 26 = some (.getfield 48, 3) := by decide +kernel
theorem F156_48 : pgFf 156 48 = some (7, 6, 0) := by decide +kernel
theorem D156_29 : pgDecT 156 29 = some (.ifCond .le 7, 3) := by decide +kernel
/-! 156: DictionaryHouse$Machine.isGoing ()Z -/
def f156 (M : Mm) : Option Int := if ¬ (M 47 9) = 0 then (some 0) else (f157 M).bind (fun q3 => if q3 = 0 then (some 0) else (if ¬ (M 47 10) = (-1) then (some 1) else (if (M 47 6) ≤ 0 then (some 0) else (some 1))))
theorem c156 {L : Nat} {xs : Nat → Int32} {h : mvH} {M : Mm} {v : Int} (R : rp h M)  (hs : f156 M  = some v) : evx L xs 2 156 0 [(0, .inr (.inr (.inl (some 47))))] [] h (.inl (some (.inl v)), 0) M := by
  unfold f156 at hs
  refine evx_F E156 D156_0 rfl rfl ?_
  refine evx_gfi (k := 9) E156 D156_1 F156_57 H47 rfl R ?_
  by_cases cb1 : ¬ (M 47 9) = 0
  · rw [if_pos cb1] at hs
    refine evx_F E156 D156_4 rfl (ifT (c1_ne_T (R.1 47 9) cb1)) ?_
    refine evx_F E156 D156_36 rfl rfl ?_
    cases hs
    exact evx_ret E156 D156_37 rfl (fun d => rfl) rfl (show rg _ from (by decide)) R
  · rw [if_neg cb1] at hs
    refine evx_F E156 D156_4 rfl (ifF (c1_ne_F (R.1 47 9) (by omega))) ?_
    refine evx_F E156 D156_7 rfl rfl ?_
    refine evx_gfr E156 D156_8 F156_12 H47 rfl R ?_
    obtain ⟨q3, e2, hs⟩ := Option.bind_eq_some_iff.mp hs
    refine evx_cv (D := 1) E156 D156_11 I156_96 rfl rfl H48 ⟨Nat.le_of_ble_eq_true rfl, Nat.le_of_ble_eq_true rfl⟩ ⟨rfl, Nat.le_of_ble_eq_true rfl⟩ rfl R (evx_up (Nat.le_of_ble_eq_true rfl) (c157 R  e2)) ?_
    intro h4 R5 w6
    have w6 : rg q3 := w6
    show evx _ _ _ _ _ _ (.inl (iz q3) :: _) _ _ _
    by_cases cb7 : q3 = 0
    · rw [if_pos cb7] at hs
      refine evx_F E156 D156_14 rfl (ifT (c1_eq_T w6 cb7)) ?_
      refine evx_F E156 D156_36 rfl rfl ?_
      cases hs
      exact evx_ret E156 D156_37 rfl (fun d => rfl) rfl (show rg _ from (by decide)) R5
    · rw [if_neg cb7] at hs
      refine evx_F E156 D156_14 rfl (ifF (c1_eq_F w6 (by omega))) ?_
      refine evx_F E156 D156_17 rfl rfl ?_
      refine evx_gfi (k := 10) E156 D156_18 F156_84 H47 rfl R5 ?_
      refine evx_F E156 D156_21 rfl rfl ?_
      by_cases cb8 : ¬ (M 47 10) = (-1)
      · rw [if_pos cb8] at hs
        refine evx_F E156 D156_22 rfl (ifT (c2_ne_T (R5.1 47 10) (by decide) cb8)) ?_
        refine evx_F E156 D156_32 rfl rfl ?_
        refine evx_F E156 D156_33 rfl rfl ?_
        cases hs
        exact evx_ret E156 D156_37 rfl (fun d => rfl) rfl (show rg _ from (by decide)) R5
      · rw [if_neg cb8] at hs
        refine evx_F E156 D156_22 rfl (ifF (c2_ne_F (R5.1 47 10) (by decide) (by omega))) ?_
        refine evx_F E156 D156_25 rfl rfl ?_
        refine evx_gfi (k := 6) E156 D156_26 F156_48 H47 rfl R5 ?_
        by_cases cb9 : (M 47 6) ≤ 0
        · rw [if_pos cb9] at hs
          refine evx_F E156 D156_29 rfl (ifT (c1_le_T (R5.1 47 6) cb9)) ?_
          refine evx_F E156 D156_36 rfl rfl ?_
          cases hs
          exact evx_ret E156 D156_37 rfl (fun d => rfl) rfl (show rg _ from (by decide)) R5
        · rw [if_neg cb9] at hs
          refine evx_F E156 D156_29 rfl (ifF (c1_le_F (R5.1 47 6) (by omega))) ?_
          refine evx_F E156 D156_32 rfl rfl ?_
          refine evx_F E156 D156_33 rfl rfl ?_
          cases hs
          exact evx_ret E156 D156_37 rfl (fun d => rfl) rfl (show rg _ from (by decide)) R5
set_option maxRecDepth 20000 in
theorem E160 : pgMm 160 = some (⟨"DictionaryHouse$Heap", "newNumber", "(I)I"⟩, prog_8_method_8_code, 2, (some .int), []) := rfl
theorem D160_0 : pgDecT 160 0 = some (.aload_n 0, 1) := by decide +kernel
theorem D160_1 : pgDecT 160 1 = some (.iconst 0, 1) := by decide +kernel
theorem D160_2 : pgDecT 160 2 = some (.iload_n 1, 1) := by decide +kernel
theorem D160_3 : pgDecT 160 3 = some (.iconst (-1), 1) := by decide +kernel
theorem D160_4 : pgDecT 160 4 = some (.iconst (-1), 1) := by decide +kernel
theorem D160_5 : pgDecT 160 5 = some (.iconst (-1), 1) := by decide +kernel
theorem D160_6 : pgDecT 160 6 = some (.invokevirtual 33, 3) := by decide +kernel
theorem I160_33 : pgIi 160 33 = some (161, 5, 6) := by decide +kernel
theorem D160_9 : pgDecT 160 9 = some (.ireturn, 1) := by decide +kernel
/-! 160: DictionaryHouse$Heap.newNumber (I)I -/
def f160 (M : Mm) (x1 : Int) : Option (Int × Mm) := (f161 M 0 x1 (-1) (-1) (-1)).bind (fun zq2 => some (zq2.1, zq2.2))
theorem c160 {L : Nat} {xs : Nat → Int32} {h : mvH} {M : Mm} {x1 : Int} {v : Int} {M' : Mm} (R : rp h M) (rx1 : rg x1) (hs : f160 M x1 = some (v, M')) : evx L xs 2 160 0 [(0, .inr (.inr (.inl (some 48)))), (1, .inl (iz x1))] [] h (.inl (some (.inl v)), 0) M' := by
  unfold f160 at hs
  refine evx_F E160 D160_0 rfl rfl ?_
  refine evx_F E160 D160_1 rfl rfl ?_
  refine evx_F E160 D160_2 rfl rfl ?_
  refine evx_F E160 D160_3 rfl rfl ?_
  refine evx_F E160 D160_4 rfl rfl ?_
  refine evx_F E160 D160_5 rfl rfl ?_
  obtain ⟨⟨q2, M6⟩, e1, hs⟩ := Option.bind_eq_some_iff.mp hs
  dsimp only at hs
  refine evx_cv (D := 1) E160 D160_6 I160_33 rfl rfl H48 ⟨Nat.le_of_ble_eq_true rfl, Nat.le_of_ble_eq_true rfl⟩ ⟨rfl, Nat.le_of_ble_eq_true rfl⟩ rfl R (evx_up (Nat.le_of_ble_eq_true rfl) (c161 R (by decide) rx1 (by decide) (by decide) (by decide) e1)) ?_
  intro h3 R4 w5
  have w5 : rg q2 := w5
  show evx _ _ _ _ _ _ (.inl (iz q2) :: _) _ _ _
  cases hs
  exact evx_ret E160 D160_9 rfl (fun d => rfl) rfl (show rg _ from w5) R4
set_option maxRecDepth 20000 in
theorem E163 : pgMm 163 = some (⟨"DictionaryHouse$Machine", "primitiveCell", "(I)I"⟩, prog_9_method_12_code, 2, (some .int), []) := rfl
theorem D163_0 : pgDecT 163 0 = some (.iload_n 1, 1) := by decide +kernel
theorem D163_1 : pgDecT 163 1 = some (.ifCond .eq 8, 3) := by decide +kernel
theorem D163_9 : pgDecT 163 9 = some (.aload_n 0, 1) := by decide +kernel
theorem D163_10 : pgDecT 163 10 = some (.getfield 12, 3) := by decide +kernel
theorem F163_12 : pgFf 163 12 = some (7, 4, 3) := by decide +kernel
theorem D163_13 : pgDecT 163 13 = some (.iload_n 1, 1) := by decide +kernel
theorem D163_14 : pgDecT 163 14 = some (.ifCond .ne 7, 3) := by decide +kernel
theorem D163_21 : pgDecT 163 21 = some (.iconst 0, 1) := by decide +kernel
theorem D163_22 : pgDecT 163 22 = some (.invokevirtual 138, 3) := by decide +kernel
theorem I163_138 : pgIi 163 138 = some (160, 1, 6) := by decide +kernel
theorem D163_25 : pgDecT 163 25 = some (.ireturn, 1) := by decide +kernel
theorem D163_17 : pgDecT 163 17 = some (.iconst 1, 1) := by decide +kernel
theorem D163_18 : pgDecT 163 18 = some (.goto 4, 3) := by decide +kernel
theorem D163_4 : pgDecT 163 4 = some (.iload_n 1, 1) := by decide +kernel
theorem D163_5 : pgDecT 163 5 = some (.iconst 1, 1) := by decide +kernel
theorem D163_6 : pgDecT 163 6 = some (.if_icmp .ne 20, 3) := by decide +kernel
theorem D163_26 : pgDecT 163 26 = some (.iload_n 1, 1) := by decide +kernel
theorem D163_27 : pgDecT 163 27 = some (.iconst 5, 1) := by decide +kernel
theorem D163_28 : pgDecT 163 28 = some (.if_icmp .ne 16, 3) := by decide +kernel
theorem D163_44 : pgDecT 163 44 = some (.aload_n 0, 1) := by decide +kernel
theorem D163_45 : pgDecT 163 45 = some (.getfield 12, 3) := by decide +kernel
theorem D163_48 : pgDecT 163 48 = some (.iconst 4, 1) := by decide +kernel
theorem D163_49 : pgDecT 163 49 = some (.iload_n 1, 1) := by decide +kernel
theorem D163_50 : pgDecT 163 50 = some (.iconst 0, 1) := by decide +kernel
theorem D163_51 : pgDecT 163 51 = some (.iconst (-1), 1) := by decide +kernel
theorem D163_52 : pgDecT 163 52 = some (.iconst (-1), 1) := by decide +kernel
theorem D163_53 : pgDecT 163 53 = some (.invokevirtual 148, 3) := by decide +kernel
theorem I163_148 : pgIi 163 148 = some (161, 5, 6) := by decide +kernel
theorem D163_56 : pgDecT 163 56 = some (.ireturn, 1) := by decide +kernel
theorem D163_31 : pgDecT 163 31 = some (.aload_n 0, 1) := by decide +kernel
theorem D163_32 : pgDecT 163 32 = some (.getfield 12, 3) := by decide +kernel
theorem D163_35 : pgDecT 163 35 = some (.iconst 1, 1) := by decide +kernel
theorem D163_36 : pgDecT 163 36 = some (.iconst (-1), 1) := by decide +kernel
theorem D163_37 : pgDecT 163 37 = some (.iconst (-1), 1) := by decide +kernel
theorem D163_38 : pgDecT 163 38 = some (.iconst (-1), 1) := by decide +kernel
theorem D163_39 : pgDecT 163 39 = some (.iconst (-1), 1) := by decide +kernel
theorem D163_40 : pgDecT 163 40 = some (.invokevirtual 148, 3) := by decide +kernel
theorem D163_43 : pgDecT 163 43 = some (.ireturn, 1) := by decide +kernel
/-! 163: DictionaryHouse$Machine.primitiveCell (I)I -/
def f163 (M : Mm) (x1 : Int) : Option (Int × Mm) := if x1 = 0 then (if ¬ x1 = 0 then (f160 M 0).bind (fun zq4 => some (zq4.1, zq4.2)) else (f160 M 1).bind (fun zq10 => some (zq10.1, zq10.2))) else (if ¬ x1 = 1 then (if ¬ x1 = 5 then (f161 M 4 x1 0 (-1) (-1)).bind (fun zq18 => some (zq18.1, zq18.2)) else (f161 M 1 (-1) (-1) (-1) (-1)).bind (fun zq24 => some (zq24.1, zq24.2))) else (if ¬ x1 = 0 then (f160 M 0).bind (fun zq31 => some (zq31.1, zq31.2)) else (f160 M 1).bind (fun zq37 => some (zq37.1, zq37.2))))
theorem c163 {L : Nat} {xs : Nat → Int32} {h : mvH} {M : Mm} {x1 : Int} {v : Int} {M' : Mm} (R : rp h M) (rx1 : rg x1) (hs : f163 M x1 = some (v, M')) : evx L xs 3 163 0 [(0, .inr (.inr (.inl (some 47)))), (1, .inl (iz x1))] [] h (.inl (some (.inl v)), 0) M' := by
  unfold f163 at hs
  refine evx_F E163 D163_0 rfl rfl ?_
  by_cases cb1 : x1 = 0
  · rw [if_pos cb1] at hs
    refine evx_F E163 D163_1 rfl (ifT (c1_eq_T rx1 cb1)) ?_
    refine evx_F E163 D163_9 rfl rfl ?_
    refine evx_gfr E163 D163_10 F163_12 H47 rfl R ?_
    refine evx_F E163 D163_13 rfl rfl ?_
    by_cases cb2 : ¬ x1 = 0
    · rw [if_pos cb2] at hs
      refine evx_F E163 D163_14 rfl (ifT (c1_ne_T rx1 cb2)) ?_
      refine evx_F E163 D163_21 rfl rfl ?_
      obtain ⟨⟨q4, M8⟩, e3, hs⟩ := Option.bind_eq_some_iff.mp hs
      dsimp only at hs
      refine evx_cv (D := 2) E163 D163_22 I163_138 rfl rfl H48 ⟨Nat.le_of_ble_eq_true rfl, Nat.le_of_ble_eq_true rfl⟩ ⟨rfl, Nat.le_of_ble_eq_true rfl⟩ rfl R (evx_up (Nat.le_of_ble_eq_true rfl) (c160 R (by decide) e3)) ?_
      intro h5 R6 w7
      have w7 : rg q4 := w7
      show evx _ _ _ _ _ _ (.inl (iz q4) :: _) _ _ _
      cases hs
      exact evx_ret E163 D163_25 rfl (fun d => rfl) rfl (show rg _ from w7) R6
    · rw [if_neg cb2] at hs
      refine evx_F E163 D163_14 rfl (ifF (c1_ne_F rx1 (by omega))) ?_
      refine evx_F E163 D163_17 rfl rfl ?_
      refine evx_F E163 D163_18 rfl rfl ?_
      obtain ⟨⟨q10, M14⟩, e9, hs⟩ := Option.bind_eq_some_iff.mp hs
      dsimp only at hs
      refine evx_cv (D := 2) E163 D163_22 I163_138 rfl rfl H48 ⟨Nat.le_of_ble_eq_true rfl, Nat.le_of_ble_eq_true rfl⟩ ⟨rfl, Nat.le_of_ble_eq_true rfl⟩ rfl R (evx_up (Nat.le_of_ble_eq_true rfl) (c160 R (by decide) e9)) ?_
      intro h11 R12 w13
      have w13 : rg q10 := w13
      show evx _ _ _ _ _ _ (.inl (iz q10) :: _) _ _ _
      cases hs
      exact evx_ret E163 D163_25 rfl (fun d => rfl) rfl (show rg _ from w13) R12
  · rw [if_neg cb1] at hs
    refine evx_F E163 D163_1 rfl (ifF (c1_eq_F rx1 (by omega))) ?_
    refine evx_F E163 D163_4 rfl rfl ?_
    refine evx_F E163 D163_5 rfl rfl ?_
    by_cases cb15 : ¬ x1 = 1
    · rw [if_pos cb15] at hs
      refine evx_F E163 D163_6 rfl (ifT (c2_ne_T rx1 (by decide) cb15)) ?_
      refine evx_F E163 D163_26 rfl rfl ?_
      refine evx_F E163 D163_27 rfl rfl ?_
      by_cases cb16 : ¬ x1 = 5
      · rw [if_pos cb16] at hs
        refine evx_F E163 D163_28 rfl (ifT (c2_ne_T rx1 (by decide) cb16)) ?_
        refine evx_F E163 D163_44 rfl rfl ?_
        refine evx_gfr E163 D163_45 F163_12 H47 rfl R ?_
        refine evx_F E163 D163_48 rfl rfl ?_
        refine evx_F E163 D163_49 rfl rfl ?_
        refine evx_F E163 D163_50 rfl rfl ?_
        refine evx_F E163 D163_51 rfl rfl ?_
        refine evx_F E163 D163_52 rfl rfl ?_
        obtain ⟨⟨q18, M22⟩, e17, hs⟩ := Option.bind_eq_some_iff.mp hs
        dsimp only at hs
        refine evx_cv (D := 2) E163 D163_53 I163_148 rfl rfl H48 ⟨Nat.le_of_ble_eq_true rfl, Nat.le_of_ble_eq_true rfl⟩ ⟨rfl, Nat.le_of_ble_eq_true rfl⟩ rfl R (evx_up (Nat.le_of_ble_eq_true rfl) (c161 R (by decide) rx1 (by decide) (by decide) (by decide) e17)) ?_
        intro h19 R20 w21
        have w21 : rg q18 := w21
        show evx _ _ _ _ _ _ (.inl (iz q18) :: _) _ _ _
        cases hs
        exact evx_ret E163 D163_56 rfl (fun d => rfl) rfl (show rg _ from w21) R20
      · rw [if_neg cb16] at hs
        refine evx_F E163 D163_28 rfl (ifF (c2_ne_F rx1 (by decide) (by omega))) ?_
        refine evx_F E163 D163_31 rfl rfl ?_
        refine evx_gfr E163 D163_32 F163_12 H47 rfl R ?_
        refine evx_F E163 D163_35 rfl rfl ?_
        refine evx_F E163 D163_36 rfl rfl ?_
        refine evx_F E163 D163_37 rfl rfl ?_
        refine evx_F E163 D163_38 rfl rfl ?_
        refine evx_F E163 D163_39 rfl rfl ?_
        obtain ⟨⟨q24, M28⟩, e23, hs⟩ := Option.bind_eq_some_iff.mp hs
        dsimp only at hs
        refine evx_cv (D := 2) E163 D163_40 I163_148 rfl rfl H48 ⟨Nat.le_of_ble_eq_true rfl, Nat.le_of_ble_eq_true rfl⟩ ⟨rfl, Nat.le_of_ble_eq_true rfl⟩ rfl R (evx_up (Nat.le_of_ble_eq_true rfl) (c161 R (by decide) (by decide) (by decide) (by decide) (by decide) e23)) ?_
        intro h25 R26 w27
        have w27 : rg q24 := w27
        show evx _ _ _ _ _ _ (.inl (iz q24) :: _) _ _ _
        cases hs
        exact evx_ret E163 D163_43 rfl (fun d => rfl) rfl (show rg _ from w27) R26
    · rw [if_neg cb15] at hs
      refine evx_F E163 D163_6 rfl (ifF (c2_ne_F rx1 (by decide) (by omega))) ?_
      refine evx_F E163 D163_9 rfl rfl ?_
      refine evx_gfr E163 D163_10 F163_12 H47 rfl R ?_
      refine evx_F E163 D163_13 rfl rfl ?_
      by_cases cb29 : ¬ x1 = 0
      · rw [if_pos cb29] at hs
        refine evx_F E163 D163_14 rfl (ifT (c1_ne_T rx1 cb29)) ?_
        refine evx_F E163 D163_21 rfl rfl ?_
        obtain ⟨⟨q31, M35⟩, e30, hs⟩ := Option.bind_eq_some_iff.mp hs
        dsimp only at hs
        refine evx_cv (D := 2) E163 D163_22 I163_138 rfl rfl H48 ⟨Nat.le_of_ble_eq_true rfl, Nat.le_of_ble_eq_true rfl⟩ ⟨rfl, Nat.le_of_ble_eq_true rfl⟩ rfl R (evx_up (Nat.le_of_ble_eq_true rfl) (c160 R (by decide) e30)) ?_
        intro h32 R33 w34
        have w34 : rg q31 := w34
        show evx _ _ _ _ _ _ (.inl (iz q31) :: _) _ _ _
        cases hs
        exact evx_ret E163 D163_25 rfl (fun d => rfl) rfl (show rg _ from w34) R33
      · rw [if_neg cb29] at hs
        refine evx_F E163 D163_14 rfl (ifF (c1_ne_F rx1 (by omega))) ?_
        refine evx_F E163 D163_17 rfl rfl ?_
        refine evx_F E163 D163_18 rfl rfl ?_
        obtain ⟨⟨q37, M41⟩, e36, hs⟩ := Option.bind_eq_some_iff.mp hs
        dsimp only at hs
        refine evx_cv (D := 2) E163 D163_22 I163_138 rfl rfl H48 ⟨Nat.le_of_ble_eq_true rfl, Nat.le_of_ble_eq_true rfl⟩ ⟨rfl, Nat.le_of_ble_eq_true rfl⟩ rfl R (evx_up (Nat.le_of_ble_eq_true rfl) (c160 R (by decide) e36)) ?_
        intro h38 R39 w40
        have w40 : rg q37 := w40
        show evx _ _ _ _ _ _ (.inl (iz q37) :: _) _ _ _
        cases hs
        exact evx_ret E163 D163_25 rfl (fun d => rfl) rfl (show rg _ from w40) R39
set_option maxRecDepth 20000 in
theorem E164 : pgMm 164 = some (⟨"DictionaryHouse$Heap", "elementOf", "(II)I"⟩, prog_8_method_14_code, 5, (some .int), []) := rfl
theorem D164_0 : pgDecT 164 0 = some (.iload_n 1, 1) := by decide +kernel
theorem D164_1 : pgDecT 164 1 = some (.istore_n 3, 1) := by decide +kernel
theorem D164_2 : pgDecT 164 2 = some (.iconst 0, 1) := by decide +kernel
theorem D164_3 : pgDecT 164 3 = some (.istore 4, 2) := by decide +kernel
theorem D164_5 : pgDecT 164 5 = some (.iload 4, 2) := by decide +kernel
theorem D164_7 : pgDecT 164 7 = some (.iload_n 2, 1) := by decide +kernel
theorem D164_8 : pgDecT 164 8 = some (.if_icmp .ge 16, 3) := by decide +kernel
theorem D164_24 : pgDecT 164 24 = some (.aload_n 0, 1) := by decide +kernel
theorem D164_25 : pgDecT 164 25 = some (.iload_n 3, 1) := by decide +kernel
theorem D164_26 : pgDecT 164 26 = some (.iconst 0, 1) := by decide +kernel
theorem D164_27 : pgDecT 164 27 = some (.invokevirtual 41, 3) := by decide +kernel
theorem I164_41 : pgIi 164 41 = some (165, 2, 6) := by decide +kernel
theorem D164_30 : pgDecT 164 30 = some (.ireturn, 1) := by decide +kernel
theorem D164_11 : pgDecT 164 11 = some (.aload_n 0, 1) := by decide +kernel
theorem D164_12 : pgDecT 164 12 = some (.iload_n 3, 1) := by decide +kernel
theorem D164_13 : pgDecT 164 13 = some (.iconst 1, 1) := by decide +kernel
theorem D164_14 : pgDecT 164 14 = some (.invokevirtual 41, 3) := by decide +kernel
theorem D164_17 : pgDecT 164 17 = some (.istore_n 3, 1) := by decide +kernel
theorem D164_18 : pgDecT 164 18 = some (.iinc 4 1, 3) := by decide +kernel
theorem D164_21 : pgDecT 164 21 = some (.goto (-16), 3) := by decide +kernel
/-! 164: DictionaryHouse$Heap.elementOf (II)I -/
def l164 : Nat → Nat → Mm → Int → Int → Int → Int → Option Int
  | 0, _, _, _, _, _, _ => none
  | f + 1, 5, M, x1, x2, x3, x4 => if x2 ≤ x4 then (f165 M x3 0).bind (fun q3 => some q3) else (f165 M x3 1).bind (fun q8 => if rg (x4 + 1) then (l164 f 5 M x1 x2 q8 (x4 + 1)) else none)
  | _, _, _, _, _, _, _ => none
theorem d164 {L : Nat} {xs : Nat → Int32} (f : Nat) : (∀ (M : Mm) (x1 x2 x3 x4 : Int) (h : mvH) (v : Int) , l164 f 5 M x1 x2 x3 x4 = some v → rp h M → rg x1 → rg x2 → rg x3 → rg x4 → evx L xs 2 164 5 [(0, .inr (.inr (.inl (some 48)))), (1, .inl (iz x1)), (2, .inl (iz x2)), (3, .inl (iz x3)), (4, .inl (iz x4))] [] h (.inl (some (.inl v)), 0) M) := by
  induction f with
  | zero => exact (fun M x1 x2 x3 x4 h v hs _ _ _ _ _ => by cases hs)
  | succ f ih =>
    intro M x1 x2 x3 x4 h v hs R rx1 rx2 rx3 rx4
    rw [l164] at hs
    refine evx_F E164 D164_5 rfl rfl ?_
    refine evx_F E164 D164_7 rfl rfl ?_
    by_cases cb1 : x2 ≤ x4
    · rw [if_pos cb1] at hs
      refine evx_F E164 D164_8 rfl (ifT (c2_ge_T rx4 rx2 cb1)) ?_
      refine evx_F E164 D164_24 rfl rfl ?_
      refine evx_F E164 D164_25 rfl rfl ?_
      refine evx_F E164 D164_26 rfl rfl ?_
      obtain ⟨q3, e2, hs⟩ := Option.bind_eq_some_iff.mp hs
      refine evx_cv (D := 1) E164 D164_27 I164_41 rfl rfl H48 ⟨Nat.le_of_ble_eq_true rfl, Nat.le_of_ble_eq_true rfl⟩ ⟨rfl, Nat.le_of_ble_eq_true rfl⟩ rfl R (evx_up (Nat.le_of_ble_eq_true rfl) (c165 R rx3 (by decide) e2)) ?_
      intro h4 R5 w6
      have w6 : rg q3 := w6
      show evx _ _ _ _ _ _ (.inl (iz q3) :: _) _ _ _
      cases hs
      exact evx_ret E164 D164_30 rfl (fun d => rfl) rfl (show rg _ from w6) R5
    · rw [if_neg cb1] at hs
      refine evx_F E164 D164_8 rfl (ifF (c2_ge_F rx4 rx2 (by omega))) ?_
      refine evx_F E164 D164_11 rfl rfl ?_
      refine evx_F E164 D164_12 rfl rfl ?_
      refine evx_F E164 D164_13 rfl rfl ?_
      obtain ⟨q8, e7, hs⟩ := Option.bind_eq_some_iff.mp hs
      refine evx_cv (D := 1) E164 D164_14 I164_41 rfl rfl H48 ⟨Nat.le_of_ble_eq_true rfl, Nat.le_of_ble_eq_true rfl⟩ ⟨rfl, Nat.le_of_ble_eq_true rfl⟩ rfl R (evx_up (Nat.le_of_ble_eq_true rfl) (c165 R rx3 (by decide) e7)) ?_
      intro h9 R10 w11
      have w11 : rg q8 := w11
      show evx _ _ _ _ _ _ (.inl (iz q8) :: _) _ _ _
      refine evx_F E164 D164_17 rfl rfl ?_
      refine evx_inc E164 D164_18 (Nat.le_of_ble_eq_true rfl) rfl ?_
      refine evx_F E164 D164_21 rfl rfl ?_
      obtain ⟨k12, hs⟩ := ck hs
      show evx _ _ _ _ _ [(4, .inl (iz (x4 + 1))), (3, .inl (iz q8)), (0, .inr (.inr (.inl (some 48)))), (1, .inl (iz x1)), (2, .inl (iz x2))] _ _ _ _
      exact evx_lv (lvLe_mk (fm rfl (fm rfl (fm rfl (fm rfl (fm rfl fn))))) (fm rfl (fm rfl (fm rfl (fm rfl (fm rfl fn))))) (fm rfl (fm rfl (fm rfl (fm rfl (fm rfl fn)))))) (ih _ _ _ _ _ _ _ hs R10 rx1 rx2 w11 k12)
def f164 (M : Mm) (x1 : Int) (x2 : Int) : Option Int := l164 FU 5 M x1 x2 x1 0
theorem c164 {L : Nat} {xs : Nat → Int32} {h : mvH} {M : Mm} {x1 x2 : Int} {v : Int} (R : rp h M) (rx1 : rg x1) (rx2 : rg x2) (hs : f164 M x1 x2 = some v) : evx L xs 2 164 0 [(0, .inr (.inr (.inl (some 48)))), (1, .inl (iz x1)), (2, .inl (iz x2))] [] h (.inl (some (.inl v)), 0) M := by
  unfold f164 at hs
  refine evx_F E164 D164_0 rfl rfl ?_
  refine evx_F E164 D164_1 rfl rfl ?_
  refine evx_F E164 D164_2 rfl rfl ?_
  refine evx_F E164 D164_3 rfl rfl ?_
  show evx _ _ _ _ _ [(4, .inl (iz 0)), (3, .inl (iz x1)), (0, .inr (.inr (.inl (some 48)))), (1, .inl (iz x1)), (2, .inl (iz x2))] _ _ _ _
  exact evx_lv (lvLe_mk (fm rfl (fm rfl (fm rfl (fm rfl (fm rfl fn))))) (fm rfl (fm rfl (fm rfl (fm rfl (fm rfl fn))))) (fm rfl (fm rfl (fm rfl (fm rfl (fm rfl fn)))))) ((d164 FU) _ _ _ _ _ _ _ hs R rx1 rx2 rx1 (by decide))
set_option maxRecDepth 20000 in
theorem E179 : pgMm 179 = some (⟨"DictionaryHouse$Heap", "newPair", "(II)I"⟩, prog_8_method_9_code, 3, (some .int), []) := rfl
theorem D179_0 : pgDecT 179 0 = some (.aload_n 0, 1) := by decide +kernel
theorem D179_1 : pgDecT 179 1 = some (.iconst 2, 1) := by decide +kernel
theorem D179_2 : pgDecT 179 2 = some (.iload_n 1, 1) := by decide +kernel
theorem D179_3 : pgDecT 179 3 = some (.iload_n 2, 1) := by decide +kernel
theorem D179_4 : pgDecT 179 4 = some (.aload_n 0, 1) := by decide +kernel
theorem D179_5 : pgDecT 179 5 = some (.iload_n 2, 1) := by decide +kernel
theorem D179_6 : pgDecT 179 6 = some (.invokevirtual 37, 3) := by decide +kernel
theorem I179_37 : pgIi 179 37 = some (180, 1, 6) := by decide +kernel
theorem D179_9 : pgDecT 179 9 = some (.iconst 1, 1) := by decide +kernel
theorem D179_10 : pgDecT 179 10 = some (.iadd, 1) := by decide +kernel
theorem D179_11 : pgDecT 179 11 = some (.iconst (-1), 1) := by decide +kernel
theorem D179_12 : pgDecT 179 12 = some (.invokevirtual 33, 3) := by decide +kernel
theorem I179_33 : pgIi 179 33 = some (161, 5, 6) := by decide +kernel
theorem D179_15 : pgDecT 179 15 = some (.ireturn, 1) := by decide +kernel
/-! 179: DictionaryHouse$Heap.newPair (II)I -/
def f179 (M : Mm) (x1 : Int) (x2 : Int) : Option (Int × Mm) := (f180 M x2).bind (fun q2 => if rg (q2 + 1) then (f161 M 2 x1 x2 (q2 + 1) (-1)).bind (fun zq8 => some (zq8.1, zq8.2)) else none)
theorem c179 {L : Nat} {xs : Nat → Int32} {h : mvH} {M : Mm} {x1 x2 : Int} {v : Int} {M' : Mm} (R : rp h M) (rx1 : rg x1) (rx2 : rg x2) (hs : f179 M x1 x2 = some (v, M')) : evx L xs 3 179 0 [(0, .inr (.inr (.inl (some 48)))), (1, .inl (iz x1)), (2, .inl (iz x2))] [] h (.inl (some (.inl v)), 0) M' := by
  unfold f179 at hs
  refine evx_F E179 D179_0 rfl rfl ?_
  refine evx_F E179 D179_1 rfl rfl ?_
  refine evx_F E179 D179_2 rfl rfl ?_
  refine evx_F E179 D179_3 rfl rfl ?_
  refine evx_F E179 D179_4 rfl rfl ?_
  refine evx_F E179 D179_5 rfl rfl ?_
  obtain ⟨q2, e1, hs⟩ := Option.bind_eq_some_iff.mp hs
  refine evx_cv (D := 2) E179 D179_6 I179_37 rfl rfl H48 ⟨Nat.le_of_ble_eq_true rfl, Nat.le_of_ble_eq_true rfl⟩ ⟨rfl, Nat.le_of_ble_eq_true rfl⟩ rfl R (evx_up (Nat.le_of_ble_eq_true rfl) (c180 R rx2 e1)) ?_
  intro h3 R4 w5
  have w5 : rg q2 := w5
  show evx _ _ _ _ _ _ (.inl (iz q2) :: _) _ _ _
  refine evx_F E179 D179_9 rfl rfl ?_
  refine evx_add E179 D179_10 ?_
  refine evx_F E179 D179_11 rfl rfl ?_
  obtain ⟨k6, hs⟩ := ck hs
  obtain ⟨⟨q8, M12⟩, e7, hs⟩ := Option.bind_eq_some_iff.mp hs
  dsimp only at hs
  refine evx_cv (D := 2) E179 D179_12 I179_33 rfl rfl H48 ⟨Nat.le_of_ble_eq_true rfl, Nat.le_of_ble_eq_true rfl⟩ ⟨rfl, Nat.le_of_ble_eq_true rfl⟩ rfl R4 (evx_up (Nat.le_of_ble_eq_true rfl) (c161 R4 (by decide) rx1 rx2 k6 (by decide) e7)) ?_
  intro h9 R10 w11
  have w11 : rg q8 := w11
  show evx _ _ _ _ _ _ (.inl (iz q8) :: _) _ _ _
  cases hs
  exact evx_ret E179 D179_15 rfl (fun d => rfl) rfl (show rg _ from w11) R10
set_option maxRecDepth 20000 in
theorem E181 : pgMm 181 = some (⟨"DictionaryHouse$Machine", "fold", "(IIII)V"⟩, prog_9_method_18_code, 5, none, []) := rfl
theorem D181_0 : pgDecT 181 0 = some (.iload 4, 2) := by decide +kernel
theorem D181_2 : pgDecT 181 2 = some (.ifCond .ne 11, 3) := by decide +kernel
theorem D181_13 : pgDecT 181 13 = some (.aload_n 0, 1) := by decide +kernel
theorem D181_14 : pgDecT 181 14 = some (.invokevirtual 129, 3) := by decide +kernel
theorem I181_129 : pgIi 181 129 = some (159, 0, 7) := by decide +kernel
theorem D181_17 : pgDecT 181 17 = some (.ifCond .eq 49, 3) := by decide +kernel
theorem D181_66 : pgDecT 181 66 = some (.return_, 1) := by decide +kernel
theorem D181_20 : pgDecT 181 20 = some (.aload_n 0, 1) := by decide +kernel
theorem D181_21 : pgDecT 181 21 = some (.iconst 3, 1) := by decide +kernel
theorem D181_22 : pgDecT 181 22 = some (.iload_n 1, 1) := by decide +kernel
theorem D181_23 : pgDecT 181 23 = some (.iload_n 3, 1) := by decide +kernel
theorem D181_24 : pgDecT 181 24 = some (.iload 4, 2) := by decide +kernel
theorem D181_26 : pgDecT 181 26 = some (.iconst 1, 1) := by decide +kernel
theorem D181_27 : pgDecT 181 27 = some (.isub, 1) := by decide +kernel
theorem D181_28 : pgDecT 181 28 = some (.iconst (-1), 1) := by decide +kernel
theorem D181_29 : pgDecT 181 29 = some (.invokevirtual 158, 3) := by decide +kernel
theorem I181_158 : pgIi 181 158 = some (166, 5, 7) := by decide +kernel
theorem D181_32 : pgDecT 181 32 = some (.aload_n 0, 1) := by decide +kernel
theorem D181_33 : pgDecT 181 33 = some (.iconst 2, 1) := by decide +kernel
theorem D181_34 : pgDecT 181 34 = some (.iload_n 2, 1) := by decide +kernel
theorem D181_35 : pgDecT 181 35 = some (.iconst (-1), 1) := by decide +kernel
theorem D181_36 : pgDecT 181 36 = some (.iconst (-1), 1) := by decide +kernel
theorem D181_37 : pgDecT 181 37 = some (.iconst (-1), 1) := by decide +kernel
theorem D181_38 : pgDecT 181 38 = some (.invokevirtual 158, 3) := by decide +kernel
theorem D181_41 : pgDecT 181 41 = some (.aload_n 0, 1) := by decide +kernel
theorem D181_42 : pgDecT 181 42 = some (.iconst 1, 1) := by decide +kernel
theorem D181_43 : pgDecT 181 43 = some (.iload_n 1, 1) := by decide +kernel
theorem D181_44 : pgDecT 181 44 = some (.iconst (-1), 1) := by decide +kernel
theorem D181_45 : pgDecT 181 45 = some (.iconst (-1), 1) := by decide +kernel
theorem D181_46 : pgDecT 181 46 = some (.iconst (-1), 1) := by decide +kernel
theorem D181_47 : pgDecT 181 47 = some (.invokevirtual 158, 3) := by decide +kernel
theorem D181_50 : pgDecT 181 50 = some (.aload_n 0, 1) := by decide +kernel
theorem D181_51 : pgDecT 181 51 = some (.aload_n 0, 1) := by decide +kernel
theorem D181_52 : pgDecT 181 52 = some (.getfield 12, 3) := by decide +kernel
theorem F181_12 : pgFf 181 12 = some (7, 4, 3) := by decide +kernel
theorem D181_55 : pgDecT 181 55 = some (.iload_n 3, 1) := by decide +kernel
theorem D181_56 : pgDecT 181 56 = some (.iload 4, 2) := by decide +kernel
theorem D181_58 : pgDecT 181 58 = some (.iconst 1, 1) := by decide +kernel
theorem D181_59 : pgDecT 181 59 = some (.isub, 1) := by decide +kernel
theorem D181_60 : pgDecT 181 60 = some (.invokevirtual 117, 3) := by decide +kernel
theorem I181_117 : pgIi 181 117 = some (164, 2, 6) := by decide +kernel
theorem D181_63 : pgDecT 181 63 = some (.invokevirtual 141, 3) := by decide +kernel
theorem I181_141 : pgIi 181 141 = some (162, 1, 7) := by decide +kernel
theorem D181_5 : pgDecT 181 5 = some (.aload_n 0, 1) := by decide +kernel
theorem D181_6 : pgDecT 181 6 = some (.iload_n 2, 1) := by decide +kernel
theorem D181_7 : pgDecT 181 7 = some (.invokevirtual 141, 3) := by decide +kernel
theorem D181_10 : pgDecT 181 10 = some (.goto 56, 3) := by decide +kernel
/-! 181: DictionaryHouse$Machine.fold (IIII)V -/
def f181 (M : Mm) (x1 : Int) (x2 : Int) (x3 : Int) (x4 : Int) : Option (Int × Mm) := if ¬ x4 = 0 then (f159 M).bind (fun zq3 => if zq3.1 = 0 then (some (0, zq3.2)) else (if rg (x4 - 1) then (f166 zq3.2 3 x1 x3 (x4 - 1) (-1)).bind (fun zq11 => (f166 zq11.2 2 x2 (-1) (-1) (-1)).bind (fun zq17 => (f166 zq17.2 1 x1 (-1) (-1) (-1)).bind (fun zq23 => (f164 zq23.2 x3 (x4 - 1)).bind (fun q29 => (f162 zq23.2 q29).bind (fun zq34 => some (0, zq34.2)))))) else none)) else (f162 M x2).bind (fun zq40 => some (0, zq40.2))
theorem c181 {L : Nat} {xs : Nat → Int32} {h : mvH} {M : Mm} {x1 x2 x3 x4 : Int} {v : Int} {M' : Mm} (R : rp h M) (rx1 : rg x1) (rx2 : rg x2) (rx3 : rg x3) (rx4 : rg x4) (hs : f181 M x1 x2 x3 x4 = some (v, M')) : evx L xs 3 181 0 [(0, .inr (.inr (.inl (some 47)))), (1, .inl (iz x1)), (2, .inl (iz x2)), (3, .inl (iz x3)), (4, .inl (iz x4))] [] h (.inl none, 0) M' := by
  unfold f181 at hs
  refine evx_F E181 D181_0 rfl rfl ?_
  by_cases cb1 : ¬ x4 = 0
  · rw [if_pos cb1] at hs
    refine evx_F E181 D181_2 rfl (ifT (c1_ne_T rx4 cb1)) ?_
    refine evx_F E181 D181_13 rfl rfl ?_
    obtain ⟨⟨q3, M7⟩, e2, hs⟩ := Option.bind_eq_some_iff.mp hs
    dsimp only at hs
    refine evx_cv (D := 2) E181 D181_14 I181_129 rfl rfl H47 ⟨Nat.le_of_ble_eq_true rfl, Nat.le_of_ble_eq_true rfl⟩ ⟨rfl, Nat.le_of_ble_eq_true rfl⟩ rfl R (evx_up (Nat.le_of_ble_eq_true rfl) (c159 R  e2)) ?_
    intro h4 R5 w6
    have w6 : rg q3 := w6
    show evx _ _ _ _ _ _ (.inl (iz q3) :: _) _ _ _
    by_cases cb8 : q3 = 0
    · rw [if_pos cb8] at hs
      refine evx_F E181 D181_17 rfl (ifT (c1_eq_T w6 cb8)) ?_
      cases hs
      exact evx_ret E181 D181_66 rfl (fun d => rfl) rfl trivial R5
    · rw [if_neg cb8] at hs
      refine evx_F E181 D181_17 rfl (ifF (c1_eq_F w6 (by omega))) ?_
      refine evx_F E181 D181_20 rfl rfl ?_
      refine evx_F E181 D181_21 rfl rfl ?_
      refine evx_F E181 D181_22 rfl rfl ?_
      refine evx_F E181 D181_23 rfl rfl ?_
      refine evx_F E181 D181_24 rfl rfl ?_
      refine evx_F E181 D181_26 rfl rfl ?_
      refine evx_sub E181 D181_27 ?_
      refine evx_F E181 D181_28 rfl rfl ?_
      obtain ⟨k9, hs⟩ := ck hs
      obtain ⟨⟨q11, M15⟩, e10, hs⟩ := Option.bind_eq_some_iff.mp hs
      dsimp only at hs
      refine evx_cv (D := 2) E181 D181_29 I181_158 rfl rfl H47 ⟨Nat.le_of_ble_eq_true rfl, Nat.le_of_ble_eq_true rfl⟩ ⟨rfl, Nat.le_of_ble_eq_true rfl⟩ rfl R5 (evx_up (Nat.le_of_ble_eq_true rfl) (c166 R5 (by decide) rx1 rx3 k9 (by decide) e10)) ?_
      intro h12 R13 w14
      refine evx_F E181 D181_32 rfl rfl ?_
      refine evx_F E181 D181_33 rfl rfl ?_
      refine evx_F E181 D181_34 rfl rfl ?_
      refine evx_F E181 D181_35 rfl rfl ?_
      refine evx_F E181 D181_36 rfl rfl ?_
      refine evx_F E181 D181_37 rfl rfl ?_
      obtain ⟨⟨q17, M21⟩, e16, hs⟩ := Option.bind_eq_some_iff.mp hs
      dsimp only at hs
      refine evx_cv (D := 2) E181 D181_38 I181_158 rfl rfl H47 ⟨Nat.le_of_ble_eq_true rfl, Nat.le_of_ble_eq_true rfl⟩ ⟨rfl, Nat.le_of_ble_eq_true rfl⟩ rfl R13 (evx_up (Nat.le_of_ble_eq_true rfl) (c166 R13 (by decide) rx2 (by decide) (by decide) (by decide) e16)) ?_
      intro h18 R19 w20
      refine evx_F E181 D181_41 rfl rfl ?_
      refine evx_F E181 D181_42 rfl rfl ?_
      refine evx_F E181 D181_43 rfl rfl ?_
      refine evx_F E181 D181_44 rfl rfl ?_
      refine evx_F E181 D181_45 rfl rfl ?_
      refine evx_F E181 D181_46 rfl rfl ?_
      obtain ⟨⟨q23, M27⟩, e22, hs⟩ := Option.bind_eq_some_iff.mp hs
      dsimp only at hs
      refine evx_cv (D := 2) E181 D181_47 I181_158 rfl rfl H47 ⟨Nat.le_of_ble_eq_true rfl, Nat.le_of_ble_eq_true rfl⟩ ⟨rfl, Nat.le_of_ble_eq_true rfl⟩ rfl R19 (evx_up (Nat.le_of_ble_eq_true rfl) (c166 R19 (by decide) rx1 (by decide) (by decide) (by decide) e22)) ?_
      intro h24 R25 w26
      refine evx_F E181 D181_50 rfl rfl ?_
      refine evx_F E181 D181_51 rfl rfl ?_
      refine evx_gfr E181 D181_52 F181_12 H47 rfl R25 ?_
      refine evx_F E181 D181_55 rfl rfl ?_
      refine evx_F E181 D181_56 rfl rfl ?_
      refine evx_F E181 D181_58 rfl rfl ?_
      refine evx_sub E181 D181_59 ?_
      obtain ⟨q29, e28, hs⟩ := Option.bind_eq_some_iff.mp hs
      refine evx_cv (D := 2) E181 D181_60 I181_117 rfl rfl H48 ⟨Nat.le_of_ble_eq_true rfl, Nat.le_of_ble_eq_true rfl⟩ ⟨rfl, Nat.le_of_ble_eq_true rfl⟩ rfl R25 (evx_up (Nat.le_of_ble_eq_true rfl) (c164 R25 rx3 k9 e28)) ?_
      intro h30 R31 w32
      have w32 : rg q29 := w32
      show evx _ _ _ _ _ _ (.inl (iz q29) :: _) _ _ _
      obtain ⟨⟨q34, M38⟩, e33, hs⟩ := Option.bind_eq_some_iff.mp hs
      dsimp only at hs
      refine evx_cv (D := 2) E181 D181_63 I181_141 rfl rfl H47 ⟨Nat.le_of_ble_eq_true rfl, Nat.le_of_ble_eq_true rfl⟩ ⟨rfl, Nat.le_of_ble_eq_true rfl⟩ rfl R31 (evx_up (Nat.le_of_ble_eq_true rfl) (c162 R31 w32 e33)) ?_
      intro h35 R36 w37
      cases hs
      exact evx_ret E181 D181_66 rfl (fun d => rfl) rfl trivial R36
  · rw [if_neg cb1] at hs
    refine evx_F E181 D181_2 rfl (ifF (c1_ne_F rx4 (by omega))) ?_
    refine evx_F E181 D181_5 rfl rfl ?_
    refine evx_F E181 D181_6 rfl rfl ?_
    obtain ⟨⟨q40, M44⟩, e39, hs⟩ := Option.bind_eq_some_iff.mp hs
    dsimp only at hs
    refine evx_cv (D := 2) E181 D181_7 I181_141 rfl rfl H47 ⟨Nat.le_of_ble_eq_true rfl, Nat.le_of_ble_eq_true rfl⟩ ⟨rfl, Nat.le_of_ble_eq_true rfl⟩ rfl R (evx_up (Nat.le_of_ble_eq_true rfl) (c162 R rx2 e39)) ?_
    intro h41 R42 w43
    refine evx_F E181 D181_10 rfl rfl ?_
    cases hs
    exact evx_ret E181 D181_66 rfl (fun d => rfl) rfl trivial R42
set_option maxRecDepth 20000 in
theorem E182 : pgMm 182 = some (⟨"DictionaryHouse$Machine", "keepResult", "()V"⟩, prog_9_method_6_code, 2, none, []) := rfl
theorem D182_0 : pgDecT 182 0 = some (.aload_n 0, 1) := by decide +kernel
theorem D182_1 : pgDecT 182 1 = some (.getfield 12, 3) := by decide +kernel
theorem F182_12 : pgFf 182 12 = some (7, 4, 3) := by decide +kernel
theorem D182_4 : pgDecT 182 4 = some (.aload_n 0, 1) := by decide +kernel
theorem D182_5 : pgDecT 182 5 = some (.getfield 99, 3) := by decide +kernel
theorem F182_99 : pgFf 182 99 = some (7, 14, 0) := by decide +kernel
theorem D182_8 : pgDecT 182 8 = some (.invokevirtual 102, 3) := by decide +kernel
theorem I182_102 : pgIi 182 102 = some (176, 1, 6) := by decide +kernel
theorem D182_11 : pgDecT 182 11 = some (.ifCond .ne 26, 3) := by decide +kernel
theorem D182_37 : pgDecT 182 37 = some (.aload_n 0, 1) := by decide +kernel
theorem D182_38 : pgDecT 182 38 = some (.aload_n 0, 1) := by decide +kernel
theorem D182_39 : pgDecT 182 39 = some (.getfield 12, 3) := by decide +kernel
theorem D182_42 : pgDecT 182 42 = some (.aload_n 0, 1) := by decide +kernel
theorem D182_43 : pgDecT 182 43 = some (.getfield 99, 3) := by decide +kernel
theorem D182_46 : pgDecT 182 46 = some (.invokevirtual 108, 3) := by decide +kernel
theorem I182_108 : pgIi 182 108 = some (180, 1, 6) := by decide +kernel
theorem D182_49 : pgDecT 182 49 = some (.aload_n 0, 1) := by decide +kernel
theorem D182_50 : pgDecT 182 50 = some (.getfield 22, 3) := by decide +kernel
theorem F182_22 : pgFf 182 22 = some (7, 15, 3) := by decide +kernel
theorem D182_53 : pgDecT 182 53 = some (.arraylength, 1) := by decide +kernel
theorem D182_54 : pgDecT 182 54 = some (.invokestatic 111, 3) := by decide +kernel
theorem D182_57 : pgDecT 182 57 = some (.putfield 25, 3) := by decide +kernel
theorem F182_25 : pgFf 182 25 = some (7, 16, 0) := by decide +kernel
theorem D182_60 : pgDecT 182 60 = some (.iconst 0, 1) := by decide +kernel
theorem D182_61 : pgDecT 182 61 = some (.istore_n 1, 1) := by decide +kernel
theorem D182_62 : pgDecT 182 62 = some (.iload_n 1, 1) := by decide +kernel
theorem D182_14 : pgDecT 182 14 = some (.aload_n 0, 1) := by decide +kernel
theorem D182_15 : pgDecT 182 15 = some (.getfield 22, 3) := by decide +kernel
theorem D182_18 : pgDecT 182 18 = some (.iconst 0, 1) := by decide +kernel
theorem D182_19 : pgDecT 182 19 = some (.aload_n 0, 1) := by decide +kernel
theorem D182_20 : pgDecT 182 20 = some (.getfield 12, 3) := by decide +kernel
theorem D182_23 : pgDecT 182 23 = some (.aload_n 0, 1) := by decide +kernel
theorem D182_24 : pgDecT 182 24 = some (.getfield 99, 3) := by decide +kernel
theorem D182_27 : pgDecT 182 27 = some (.invokevirtual 105, 3) := by decide +kernel
theorem I182_105 : pgIi 182 105 = some (178, 1, 6) := by decide +kernel
theorem D182_30 : pgDecT 182 30 = some (.iastore, 1) := by decide +kernel
theorem D182_31 : pgDecT 182 31 = some (.aload_n 0, 1) := by decide +kernel
theorem D182_32 : pgDecT 182 32 = some (.iconst 1, 1) := by decide +kernel
theorem D182_33 : pgDecT 182 33 = some (.putfield 25, 3) := by decide +kernel
theorem D182_36 : pgDecT 182 36 = some (.return_, 1) := by decide +kernel
theorem D182_63 : pgDecT 182 63 = some (.aload_n 0, 1) := by decide +kernel
theorem D182_64 : pgDecT 182 64 = some (.getfield 25, 3) := by decide +kernel
theorem D182_67 : pgDecT 182 67 = some (.if_icmp .ge 34, 3) := by decide +kernel
theorem D182_101 : pgDecT 182 101 = some (.return_, 1) := by decide +kernel
theorem D182_70 : pgDecT 182 70 = some (.aload_n 0, 1) := by decide +kernel
theorem D182_71 : pgDecT 182 71 = some (.getfield 22, 3) := by decide +kernel
theorem D182_74 : pgDecT 182 74 = some (.iload_n 1, 1) := by decide +kernel
theorem D182_75 : pgDecT 182 75 = some (.aload_n 0, 1) := by decide +kernel
theorem D182_76 : pgDecT 182 76 = some (.getfield 12, 3) := by decide +kernel
theorem D182_79 : pgDecT 182 79 = some (.aload_n 0, 1) := by decide +kernel
theorem D182_80 : pgDecT 182 80 = some (.getfield 12, 3) := by decide +kernel
theorem D182_83 : pgDecT 182 83 = some (.aload_n 0, 1) := by decide +kernel
theorem D182_84 : pgDecT 182 84 = some (.getfield 99, 3) := by decide +kernel
theorem D182_87 : pgDecT 182 87 = some (.iload_n 1, 1) := by decide +kernel
theorem D182_88 : pgDecT 182 88 = some (.invokevirtual 117, 3) := by decide +kernel
theorem I182_117 : pgIi 182 117 = some (164, 2, 6) := by decide +kernel
theorem D182_91 : pgDecT 182 91 = some (.invokevirtual 105, 3) := by decide +kernel
theorem D182_94 : pgDecT 182 94 = some (.iastore, 1) := by decide +kernel
theorem D182_95 : pgDecT 182 95 = some (.iinc 1 1, 3) := by decide +kernel
theorem D182_98 : pgDecT 182 98 = some (.goto (-36), 3) := by decide +kernel
/-! 182: DictionaryHouse$Machine.keepResult ()V -/
def l182 : Nat → Nat → Mm → Int → Option (Int × Mm)
  | 0, _, _, _ => none
  | f + 1, 62, M, x1 => if (M 47 16) ≤ x1 then (some (0, M)) else (f164 M (M 47 14) x1).bind (fun q25 => (f178 M q25).bind (fun q30 => if 0 ≤ x1 ∧ x1 < 301 then (if rg (x1 + 1) then (l182 f 62 (up M 52 (Int.toNat x1) q30) (x1 + 1)) else none) else none))
  | _, _, _, _ => none
theorem d182 {L : Nat} {xs : Nat → Int32} (f : Nat) : (∀ (M : Mm) (x1 : Int) (h : mvH) (v : Int) (M' : Mm), l182 f 62 M x1 = some (v, M') → rp h M → rg x1 → evx L xs 3 182 62 [(0, .inr (.inr (.inl (some 47)))), (1, .inl (iz x1))] [] h (.inl none, 0) M') := by
  induction f with
  | zero => exact (fun M x1 h v M' hs _ _ => by cases hs)
  | succ f ih =>
    intro M x1 h v M' hs R rx1
    rw [l182] at hs
    refine evx_F E182 D182_62 rfl rfl ?_
    refine evx_F E182 D182_63 rfl rfl ?_
    refine evx_gfi (k := 16) E182 D182_64 F182_25 H47 rfl R ?_
    by_cases cb23 : (M 47 16) ≤ x1
    · rw [if_pos cb23] at hs
      refine evx_F E182 D182_67 rfl (ifT (c2_ge_T rx1 (R.1 47 16) cb23)) ?_
      cases hs
      exact evx_ret E182 D182_101 rfl (fun d => rfl) rfl trivial R
    · rw [if_neg cb23] at hs
      refine evx_F E182 D182_67 rfl (ifF (c2_ge_F rx1 (R.1 47 16) (by omega))) ?_
      refine evx_F E182 D182_70 rfl rfl ?_
      refine evx_gfr E182 D182_71 F182_22 H47 rfl R ?_
      refine evx_F E182 D182_74 rfl rfl ?_
      refine evx_F E182 D182_75 rfl rfl ?_
      refine evx_gfr E182 D182_76 F182_12 H47 rfl R ?_
      refine evx_F E182 D182_79 rfl rfl ?_
      refine evx_gfr E182 D182_80 F182_12 H47 rfl R ?_
      refine evx_F E182 D182_83 rfl rfl ?_
      refine evx_gfi (k := 14) E182 D182_84 F182_99 H47 rfl R ?_
      refine evx_F E182 D182_87 rfl rfl ?_
      obtain ⟨q25, e24, hs⟩ := Option.bind_eq_some_iff.mp hs
      refine evx_cv (D := 2) E182 D182_88 I182_117 rfl rfl H48 ⟨Nat.le_of_ble_eq_true rfl, Nat.le_of_ble_eq_true rfl⟩ ⟨rfl, Nat.le_of_ble_eq_true rfl⟩ rfl R (evx_up (Nat.le_of_ble_eq_true rfl) (c164 R (R.1 47 14) rx1 e24)) ?_
      intro h26 R27 w28
      have w28 : rg q25 := w28
      show evx _ _ _ _ _ _ (.inl (iz q25) :: _) _ _ _
      obtain ⟨q30, e29, hs⟩ := Option.bind_eq_some_iff.mp hs
      refine evx_cv (D := 2) E182 D182_91 I182_105 rfl rfl H48 ⟨Nat.le_of_ble_eq_true rfl, Nat.le_of_ble_eq_true rfl⟩ ⟨rfl, Nat.le_of_ble_eq_true rfl⟩ rfl R27 (evx_up (Nat.le_of_ble_eq_true rfl) (c178 R27 w28 e29)) ?_
      intro h31 R32 w33
      have w33 : rg q30 := w33
      show evx _ _ _ _ _ _ (.inl (iz q30) :: _) _ _ _
      obtain ⟨k34, hs⟩ := ck hs
      refine evx_ias E182 D182_94 H52 (by decide) R32 k34 w33 ?_
      intro h35 R36
      refine evx_inc E182 D182_95 (Nat.le_of_ble_eq_true rfl) rfl ?_
      refine evx_F E182 D182_98 rfl rfl ?_
      obtain ⟨k37, hs⟩ := ck hs
      show evx _ _ _ _ _ [(1, .inl (iz (x1 + 1))), (0, .inr (.inr (.inl (some 47))))] _ _ _ _
      exact evx_lv (lvLe_mk (fm rfl (fm rfl fn)) (fm rfl (fm rfl fn)) (fm rfl (fm rfl fn))) (ih _ _ _ _ _ hs R36 k37)
def f182 (M : Mm) : Option (Int × Mm) := (f176 M (M 47 14)).bind (fun q2 => if ¬ q2 = 0 then (f180 M (M 47 14)).bind (fun q8 => l182 FU 62 (up M 47 16 (if 301 < q8 then 301 else q8)) 0) else (f178 M (M 47 14)).bind (fun q15 => some (0, (up (up M 52 (Int.toNat 0) q15) 47 16 1))))
theorem c182 {L : Nat} {xs : Nat → Int32} {h : mvH} {M : Mm} {v : Int} {M' : Mm} (R : rp h M)  (hs : f182 M  = some (v, M')) : evx L xs 3 182 0 [(0, .inr (.inr (.inl (some 47))))] [] h (.inl none, 0) M' := by
  unfold f182 at hs
  refine evx_F E182 D182_0 rfl rfl ?_
  refine evx_gfr E182 D182_1 F182_12 H47 rfl R ?_
  refine evx_F E182 D182_4 rfl rfl ?_
  refine evx_gfi (k := 14) E182 D182_5 F182_99 H47 rfl R ?_
  obtain ⟨q2, e1, hs⟩ := Option.bind_eq_some_iff.mp hs
  refine evx_cv (D := 2) E182 D182_8 I182_102 rfl rfl H48 ⟨Nat.le_of_ble_eq_true rfl, Nat.le_of_ble_eq_true rfl⟩ ⟨rfl, Nat.le_of_ble_eq_true rfl⟩ rfl R (evx_up (Nat.le_of_ble_eq_true rfl) (c176 R (R.1 47 14) e1)) ?_
  intro h3 R4 w5
  have w5 : rg q2 := w5
  show evx _ _ _ _ _ _ (.inl (iz q2) :: _) _ _ _
  by_cases cb6 : ¬ q2 = 0
  · rw [if_pos cb6] at hs
    refine evx_F E182 D182_11 rfl (ifT (c1_ne_T w5 cb6)) ?_
    refine evx_F E182 D182_37 rfl rfl ?_
    refine evx_F E182 D182_38 rfl rfl ?_
    refine evx_gfr E182 D182_39 F182_12 H47 rfl R4 ?_
    refine evx_F E182 D182_42 rfl rfl ?_
    refine evx_gfi (k := 14) E182 D182_43 F182_99 H47 rfl R4 ?_
    obtain ⟨q8, e7, hs⟩ := Option.bind_eq_some_iff.mp hs
    refine evx_cv (D := 2) E182 D182_46 I182_108 rfl rfl H48 ⟨Nat.le_of_ble_eq_true rfl, Nat.le_of_ble_eq_true rfl⟩ ⟨rfl, Nat.le_of_ble_eq_true rfl⟩ rfl R4 (evx_up (Nat.le_of_ble_eq_true rfl) (c180 R4 (R4.1 47 14) e7)) ?_
    intro h9 R10 w11
    have w11 : rg q8 := w11
    show evx _ _ _ _ _ _ (.inl (iz q8) :: _) _ _ _
    refine evx_F E182 D182_49 rfl rfl ?_
    refine evx_gfr E182 D182_50 F182_22 H47 rfl R10 ?_
    refine evx_len E182 D182_53 H52 (by decide) R10 ?_
    refine evx_mx (D := 2) (z := (if 301 < q8 then 301 else q8)) (b := false) E182 D182_54 rfl (Or.inr ⟨rfl, rfl, rfl, rfl⟩) (Nat.le_of_ble_eq_true rfl) w11 (by decide) ?_
    refine evx_pfi (k := 16) E182 D182_57 F182_25 H47 rfl R10 (mx_rg (by decide) w11) rfl ?_
    intro h12 R13
    refine evx_F E182 D182_60 rfl rfl ?_
    refine evx_F E182 D182_61 rfl rfl ?_
    show evx _ _ _ _ _ [(1, .inl (iz 0)), (0, .inr (.inr (.inl (some 47))))] _ _ _ _
    exact evx_lv (lvLe_mk (fm rfl (fm rfl fn)) (fm rfl (fm rfl fn)) (fm rfl (fm rfl fn))) ((d182 FU) _ _ _ _ _ hs R13 (by decide))
  · rw [if_neg cb6] at hs
    refine evx_F E182 D182_11 rfl (ifF (c1_ne_F w5 (by omega))) ?_
    refine evx_F E182 D182_14 rfl rfl ?_
    refine evx_gfr E182 D182_15 F182_22 H47 rfl R4 ?_
    refine evx_F E182 D182_18 rfl rfl ?_
    refine evx_F E182 D182_19 rfl rfl ?_
    refine evx_gfr E182 D182_20 F182_12 H47 rfl R4 ?_
    refine evx_F E182 D182_23 rfl rfl ?_
    refine evx_gfi (k := 14) E182 D182_24 F182_99 H47 rfl R4 ?_
    obtain ⟨q15, e14, hs⟩ := Option.bind_eq_some_iff.mp hs
    refine evx_cv (D := 2) E182 D182_27 I182_105 rfl rfl H48 ⟨Nat.le_of_ble_eq_true rfl, Nat.le_of_ble_eq_true rfl⟩ ⟨rfl, Nat.le_of_ble_eq_true rfl⟩ rfl R4 (evx_up (Nat.le_of_ble_eq_true rfl) (c178 R4 (R4.1 47 14) e14)) ?_
    intro h16 R17 w18
    have w18 : rg q15 := w18
    show evx _ _ _ _ _ _ (.inl (iz q15) :: _) _ _ _
    refine evx_ias E182 D182_30 H52 (by decide) R17 (by decide) w18 ?_
    intro h19 R20
    refine evx_F E182 D182_31 rfl rfl ?_
    refine evx_F E182 D182_32 rfl rfl ?_
    refine evx_pfi (k := 16) E182 D182_33 F182_25 H47 rfl R20 (by decide) rfl ?_
    intro h21 R22
    cases hs
    exact evx_ret E182 D182_36 rfl (fun d => rfl) rfl trivial R22
set_option maxRecDepth 20000 in
theorem E184 : pgMm 184 = some (⟨"DictionaryHouse", "value", "(I)I"⟩, prog_1_method_18_code, 2, (some .int), []) := rfl
theorem D184_0 : pgDecT 184 0 = some (.aload_n 0, 1) := by decide +kernel
theorem D184_1 : pgDecT 184 1 = some (.getfield 59, 3) := by decide +kernel
theorem F184_59 : pgFf 184 59 = some (11, 5, 3) := by decide +kernel
theorem D184_4 : pgDecT 184 4 = some (.iload_n 1, 1) := by decide +kernel
theorem D184_5 : pgDecT 184 5 = some (.invokevirtual 160, 3) := by decide +kernel
theorem I184_160 : pgIi 184 160 = some (185, 1, 7) := by decide +kernel
theorem D184_8 : pgDecT 184 8 = some (.invokestatic 67, 3) := by decide +kernel
theorem I184_67 : pgIi 184 67 = some (18, 1, 100) := by decide +kernel
theorem D184_11 : pgDecT 184 11 = some (.aload_n 0, 1) := by decide +kernel
theorem D184_12 : pgDecT 184 12 = some (.getfield 59, 3) := by decide +kernel
theorem D184_15 : pgDecT 184 15 = some (.iload_n 1, 1) := by decide +kernel
theorem D184_16 : pgDecT 184 16 = some (.invokevirtual 163, 3) := by decide +kernel
theorem I184_163 : pgIi 184 163 = some (186, 1, 7) := by decide +kernel
theorem D184_19 : pgDecT 184 19 = some (.ireturn, 1) := by decide +kernel
/-! 184: DictionaryHouse.value (I)I -/
def f184 (M : Mm) (x1 : Int) : Option (Int × Int × Mm) := (f185 M x1).bind (fun q2 => if q2 = 0 then some (1, 0, M) else (f186 M x1).bind (fun q8 => some (0, q8, M)))
theorem c184 {L : Nat} {xs : Nat → Int32} {h : mvH} {M : Mm} {x1 : Int} {k v : Int} {M' : Mm} (R : rp h M) (rx1 : rg x1) (hs : f184 M x1 = some (k, v, M')) : evx L xs 9 184 0 [(0, .inr (.inr (.inl (some 0)))), (1, .inl (iz x1))] [] h (ot k v) M' := by
  unfold f184 at hs
  refine evx_F E184 D184_0 rfl rfl ?_
  refine evx_gfr E184 D184_1 F184_59 H0 rfl R ?_
  refine evx_F E184 D184_4 rfl rfl ?_
  obtain ⟨q2, e1, hs⟩ := Option.bind_eq_some_iff.mp hs
  refine evx_cv (D := 8) E184 D184_5 I184_160 rfl rfl H47 ⟨Nat.le_of_ble_eq_true rfl, Nat.le_of_ble_eq_true rfl⟩ ⟨rfl, Nat.le_of_ble_eq_true rfl⟩ rfl R (evx_up (Nat.le_of_ble_eq_true rfl) (c185 R rx1 e1)) ?_
  intro h3 R4 w5
  have w5 : rg q2 := w5
  show evx _ _ _ _ _ _ (.inl (iz q2) :: _) _ _ _
  by_cases cb6 : q2 = 0
  · rw [if_pos cb6] at hs
    cases hs
    exact evx_rqF (b := true) E184 D184_8 I184_67 (Nat.le_of_ble_eq_true rfl) rfl (Nat.le_of_ble_eq_true rfl) cb6 rfl rfl R4
  · rw [if_neg cb6] at hs
    refine evx_rqT (b := true) E184 D184_8 I184_67 (Nat.le_of_ble_eq_true rfl) rfl (Nat.le_of_ble_eq_true rfl) w5 cb6 ?_
    refine evx_F E184 D184_11 rfl rfl ?_
    refine evx_gfr E184 D184_12 F184_59 H0 rfl R4 ?_
    refine evx_F E184 D184_15 rfl rfl ?_
    obtain ⟨q8, e7, hs⟩ := Option.bind_eq_some_iff.mp hs
    refine evx_cv (D := 8) E184 D184_16 I184_163 rfl rfl H47 ⟨Nat.le_of_ble_eq_true rfl, Nat.le_of_ble_eq_true rfl⟩ ⟨rfl, Nat.le_of_ble_eq_true rfl⟩ rfl R4 (evx_up (Nat.le_of_ble_eq_true rfl) (c186 R4 rx1 e7)) ?_
    intro h9 R10 w11
    have w11 : rg q8 := w11
    show evx _ _ _ _ _ _ (.inl (iz q8) :: _) _ _ _
    cases hs
    exact evx_ret E184 D184_19 rfl (fun d => rfl) rfl (show rg _ from w11) R10
set_option maxRecDepth 20000 in
theorem E191 : pgMm 191 = some (⟨"DictionaryHouseModel", "intern", "(III)I"⟩, prog_14_method_5_code, 5, (some .int), []) := rfl
theorem D191_0 : pgDecT 191 0 = some (.aload_n 0, 1) := by decide +kernel
theorem D191_1 : pgDecT 191 1 = some (.iload_n 1, 1) := by decide +kernel
theorem D191_2 : pgDecT 191 2 = some (.iload_n 2, 1) := by decide +kernel
theorem D191_3 : pgDecT 191 3 = some (.iload_n 3, 1) := by decide +kernel
theorem D191_4 : pgDecT 191 4 = some (.invokevirtual 185, 3) := by decide +kernel
theorem I191_185 : pgIi 191 185 = some (192, 3, 12) := by decide +kernel
theorem D191_7 : pgDecT 191 7 = some (.istore 4, 2) := by decide +kernel
theorem D191_9 : pgDecT 191 9 = some (.iload 4, 2) := by decide +kernel
theorem D191_11 : pgDecT 191 11 = some (.iconst (-1), 1) := by decide +kernel
theorem D191_12 : pgDecT 191 12 = some (.if_icmp .ne 12, 3) := by decide +kernel
theorem D191_24 : pgDecT 191 24 = some (.iload 4, 2) := by decide +kernel
theorem D191_26 : pgDecT 191 26 = some (.ireturn, 1) := by decide +kernel
theorem D191_15 : pgDecT 191 15 = some (.aload_n 0, 1) := by decide +kernel
theorem D191_16 : pgDecT 191 16 = some (.getfield 178, 3) := by decide +kernel
theorem F191_178 : pgFf 191 178 = some (12, 1, 0) := by decide +kernel
theorem D191_19 : pgDecT 191 19 = some (.bipush 40, 2) := by decide +kernel
theorem D191_21 : pgDecT 191 21 = some (.if_icmp .ne 6, 3) := by decide +kernel
theorem D191_27 : pgDecT 191 27 = some (.aload_n 0, 1) := by decide +kernel
theorem D191_28 : pgDecT 191 28 = some (.getfield 7, 3) := by decide +kernel
theorem F191_7 : pgFf 191 7 = some (12, 2, 3) := by decide +kernel
theorem D191_31 : pgDecT 191 31 = some (.aload_n 0, 1) := by decide +kernel
theorem D191_32 : pgDecT 191 32 = some (.getfield 178, 3) := by decide +kernel
theorem D191_35 : pgDecT 191 35 = some (.iload_n 1, 1) := by decide +kernel
theorem D191_36 : pgDecT 191 36 = some (.iastore, 1) := by decide +kernel
theorem D191_37 : pgDecT 191 37 = some (.aload_n 0, 1) := by decide +kernel
theorem D191_38 : pgDecT 191 38 = some (.getfield 13, 3) := by decide +kernel
theorem F191_13 : pgFf 191 13 = some (12, 3, 3) := by decide +kernel
theorem D191_41 : pgDecT 191 41 = some (.aload_n 0, 1) := by decide +kernel
theorem D191_42 : pgDecT 191 42 = some (.getfield 178, 3) := by decide +kernel
theorem D191_45 : pgDecT 191 45 = some (.iload_n 2, 1) := by decide +kernel
theorem D191_46 : pgDecT 191 46 = some (.iastore, 1) := by decide +kernel
theorem D191_47 : pgDecT 191 47 = some (.aload_n 0, 1) := by decide +kernel
theorem D191_48 : pgDecT 191 48 = some (.getfield 16, 3) := by decide +kernel
theorem F191_16 : pgFf 191 16 = some (12, 4, 3) := by decide +kernel
theorem D191_51 : pgDecT 191 51 = some (.aload_n 0, 1) := by decide +kernel
theorem D191_52 : pgDecT 191 52 = some (.getfield 178, 3) := by decide +kernel
theorem D191_55 : pgDecT 191 55 = some (.iload_n 3, 1) := by decide +kernel
theorem D191_56 : pgDecT 191 56 = some (.iastore, 1) := by decide +kernel
theorem D191_57 : pgDecT 191 57 = some (.aload_n 0, 1) := by decide +kernel
theorem D191_58 : pgDecT 191 58 = some (.dup, 1) := by decide +kernel
theorem D191_59 : pgDecT 191 59 = some (.getfield 178, 3) := by decide +kernel
theorem D191_62 : pgDecT 191 62 = some (.iconst 1, 1) := by decide +kernel
theorem D191_63 : pgDecT 191 63 = some (.iadd, 1) := by decide +kernel
theorem D191_64 : pgDecT 191 64 = some (.putfield 178, 3) := by decide +kernel
theorem D191_67 : pgDecT 191 67 = some (.aload_n 0, 1) := by decide +kernel
theorem D191_68 : pgDecT 191 68 = some (.getfield 178, 3) := by decide +kernel
theorem D191_71 : pgDecT 191 71 = some (.iconst 1, 1) := by decide +kernel
theorem D191_72 : pgDecT 191 72 = some (.isub, 1) := by decide +kernel
theorem D191_73 : pgDecT 191 73 = some (.ireturn, 1) := by decide +kernel
/-! 191: DictionaryHouseModel.intern (III)I -/
def f191 (M : Mm) (x1 : Int) (x2 : Int) (x3 : Int) : Option (Int × Mm) := (f192 M x1 x2 x3).bind (fun q2 => if ¬ q2 = (-1) then (some (q2, M)) else (if ¬ (M 53 1) = 40 then (if 0 ≤ (M 53 1) ∧ (M 53 1) < 40 then (if rg ((M 53 1) + 1) then (if rg (((M 53 1) + 1) - 1) then (some ((((M 53 1) + 1) - 1), (up (up (up (up M 54 (Int.toNat (M 53 1)) x1) 55 (Int.toNat (M 53 1)) x2) 56 (Int.toNat (M 53 1)) x3) 53 1 ((M 53 1) + 1)))) else none) else none) else none) else (some (q2, M))))
theorem c191 {L : Nat} {xs : Nat → Int32} {h : mvH} {M : Mm} {x1 x2 x3 : Int} {v : Int} {M' : Mm} (R : rp h M) (rx1 : rg x1) (rx2 : rg x2) (rx3 : rg x3) (hs : f191 M x1 x2 x3 = some (v, M')) : evx L xs 2 191 0 [(0, .inr (.inr (.inl (some 53)))), (1, .inl (iz x1)), (2, .inl (iz x2)), (3, .inl (iz x3))] [] h (.inl (some (.inl v)), 0) M' := by
  unfold f191 at hs
  refine evx_F E191 D191_0 rfl rfl ?_
  refine evx_F E191 D191_1 rfl rfl ?_
  refine evx_F E191 D191_2 rfl rfl ?_
  refine evx_F E191 D191_3 rfl rfl ?_
  obtain ⟨q2, e1, hs⟩ := Option.bind_eq_some_iff.mp hs
  refine evx_cv (D := 1) E191 D191_4 I191_185 rfl rfl H53 ⟨Nat.le_of_ble_eq_true rfl, Nat.le_of_ble_eq_true rfl⟩ ⟨rfl, Nat.le_of_ble_eq_true rfl⟩ rfl R (evx_up (Nat.le_of_ble_eq_true rfl) (c192 R rx1 rx2 rx3 e1)) ?_
  intro h3 R4 w5
  have w5 : rg q2 := w5
  show evx _ _ _ _ _ _ (.inl (iz q2) :: _) _ _ _
  refine evx_F E191 D191_7 rfl rfl ?_
  refine evx_F E191 D191_9 rfl rfl ?_
  refine evx_F E191 D191_11 rfl rfl ?_
  by_cases cb6 : ¬ q2 = (-1)
  · rw [if_pos cb6] at hs
    refine evx_F E191 D191_12 rfl (ifT (c2_ne_T w5 (by decide) cb6)) ?_
    refine evx_F E191 D191_24 rfl rfl ?_
    cases hs
    exact evx_ret E191 D191_26 rfl (fun d => rfl) rfl (show rg _ from w5) R4
  · rw [if_neg cb6] at hs
    refine evx_F E191 D191_12 rfl (ifF (c2_ne_F w5 (by decide) (by omega))) ?_
    refine evx_F E191 D191_15 rfl rfl ?_
    refine evx_gfi (k := 1) E191 D191_16 F191_178 H53 rfl R4 ?_
    refine evx_k (k := 40) E191 D191_19 rfl (by decide) ?_
    by_cases cb7 : ¬ (M 53 1) = 40
    · rw [if_pos cb7] at hs
      refine evx_F E191 D191_21 rfl (ifT (c2_ne_T (R4.1 53 1) (by decide) cb7)) ?_
      refine evx_F E191 D191_27 rfl rfl ?_
      refine evx_gfr E191 D191_28 F191_7 H53 rfl R4 ?_
      refine evx_F E191 D191_31 rfl rfl ?_
      refine evx_gfi (k := 1) E191 D191_32 F191_178 H53 rfl R4 ?_
      refine evx_F E191 D191_35 rfl rfl ?_
      obtain ⟨k8, hs⟩ := ck hs
      refine evx_ias E191 D191_36 H54 (by decide) R4 k8 rx1 ?_
      intro h9 R10
      refine evx_F E191 D191_37 rfl rfl ?_
      refine evx_gfr E191 D191_38 F191_13 H53 rfl R10 ?_
      refine evx_F E191 D191_41 rfl rfl ?_
      refine evx_gfi (k := 1) E191 D191_42 F191_178 H53 rfl R10 ?_
      show evx _ _ _ _ _ _ (.inl (iz (M 53 1)) :: _) _ _ _
      refine evx_F E191 D191_45 rfl rfl ?_
      refine evx_ias E191 D191_46 H55 (by decide) R10 k8 rx2 ?_
      intro h11 R12
      refine evx_F E191 D191_47 rfl rfl ?_
      refine evx_gfr E191 D191_48 F191_16 H53 rfl R12 ?_
      refine evx_F E191 D191_51 rfl rfl ?_
      refine evx_gfi (k := 1) E191 D191_52 F191_178 H53 rfl R12 ?_
      show evx _ _ _ _ _ _ (.inl (iz (M 53 1)) :: _) _ _ _
      refine evx_F E191 D191_55 rfl rfl ?_
      refine evx_ias E191 D191_56 H56 (by decide) R12 k8 rx3 ?_
      intro h13 R14
      refine evx_F E191 D191_57 rfl rfl ?_
      refine evx_F E191 D191_58 rfl rfl ?_
      refine evx_gfi (k := 1) E191 D191_59 F191_178 H53 rfl R14 ?_
      show evx _ _ _ _ _ _ (.inl (iz (M 53 1)) :: _) _ _ _
      refine evx_F E191 D191_62 rfl rfl ?_
      refine evx_add E191 D191_63 ?_
      obtain ⟨k15, hs⟩ := ck hs
      refine evx_pfi (k := 1) E191 D191_64 F191_178 H53 rfl R14 k15 rfl ?_
      intro h16 R17
      refine evx_F E191 D191_67 rfl rfl ?_
      refine evx_gfi (k := 1) E191 D191_68 F191_178 H53 rfl R17 ?_
      show evx _ _ _ _ _ _ (.inl (iz ((M 53 1) + 1)) :: _) _ _ _
      refine evx_F E191 D191_71 rfl rfl ?_
      refine evx_sub E191 D191_72 ?_
      obtain ⟨k18, hs⟩ := ck hs
      cases hs
      exact evx_ret E191 D191_73 rfl (fun d => rfl) rfl (show rg _ from k18) R17
    · rw [if_neg cb7] at hs
      refine evx_F E191 D191_21 rfl (ifF (c2_ne_F (R4.1 53 1) (by decide) (by omega))) ?_
      refine evx_F E191 D191_24 rfl rfl ?_
      cases hs
      exact evx_ret E191 D191_26 rfl (fun d => rfl) rfl (show rg _ from w5) R4
set_option maxRecDepth 20000 in
theorem E193 : pgMm 193 = some (⟨"DictionaryHouseModel", "function", "(II)I"⟩, prog_14_method_7_code, 4, (some .int), []) := rfl
theorem D193_0 : pgDecT 193 0 = some (.aload_n 0, 1) := by decide +kernel
theorem D193_1 : pgDecT 193 1 = some (.aload_n 0, 1) := by decide +kernel
theorem D193_2 : pgDecT 193 2 = some (.iload_n 1, 1) := by decide +kernel
theorem D193_3 : pgDecT 193 3 = some (.invokevirtual 189, 3) := by decide +kernel
theorem I193_189 : pgIi 193 189 = some (190, 1, 12) := by decide +kernel
theorem D193_6 : pgDecT 193 6 = some (.ifCond .eq 15, 3) := by decide +kernel
theorem D193_21 : pgDecT 193 21 = some (.iconst 1, 1) := by decide +kernel
theorem D193_22 : pgDecT 193 22 = some (.putfield 182, 3) := by decide +kernel
theorem F193_182 : pgFf 193 182 = some (12, 0, 0) := by decide +kernel
theorem D193_25 : pgDecT 193 25 = some (.aload_n 0, 1) := by decide +kernel
theorem D193_26 : pgDecT 193 26 = some (.getfield 182, 3) := by decide +kernel
theorem D193_29 : pgDecT 193 29 = some (.ifCond .eq 5, 3) := by decide +kernel
theorem D193_32 : pgDecT 193 32 = some (.iconst 0, 1) := by decide +kernel
theorem D193_33 : pgDecT 193 33 = some (.ireturn, 1) := by decide +kernel
theorem D193_9 : pgDecT 193 9 = some (.aload_n 0, 1) := by decide +kernel
theorem D193_10 : pgDecT 193 10 = some (.iload_n 2, 1) := by decide +kernel
theorem D193_11 : pgDecT 193 11 = some (.invokevirtual 189, 3) := by decide +kernel
theorem D193_14 : pgDecT 193 14 = some (.ifCond .eq 7, 3) := by decide +kernel
theorem D193_17 : pgDecT 193 17 = some (.iconst 0, 1) := by decide +kernel
theorem D193_18 : pgDecT 193 18 = some (.goto 4, 3) := by decide +kernel
theorem D193_34 : pgDecT 193 34 = some (.aload_n 0, 1) := by decide +kernel
theorem D193_35 : pgDecT 193 35 = some (.iconst 4, 1) := by decide +kernel
theorem D193_36 : pgDecT 193 36 = some (.iload_n 1, 1) := by decide +kernel
theorem D193_37 : pgDecT 193 37 = some (.iload_n 2, 1) := by decide +kernel
theorem D193_38 : pgDecT 193 38 = some (.invokevirtual 193, 3) := by decide +kernel
theorem I193_193 : pgIi 193 193 = some (191, 3, 12) := by decide +kernel
theorem D193_41 : pgDecT 193 41 = some (.istore_n 3, 1) := by decide +kernel
theorem D193_42 : pgDecT 193 42 = some (.aload_n 0, 1) := by decide +kernel
theorem D193_43 : pgDecT 193 43 = some (.iload_n 3, 1) := by decide +kernel
theorem D193_44 : pgDecT 193 44 = some (.iconst (-1), 1) := by decide +kernel
theorem D193_45 : pgDecT 193 45 = some (.if_icmp .ne 7, 3) := by decide +kernel
theorem D193_52 : pgDecT 193 52 = some (.iconst 0, 1) := by decide +kernel
theorem D193_53 : pgDecT 193 53 = some (.putfield 182, 3) := by decide +kernel
theorem D193_56 : pgDecT 193 56 = some (.iload_n 3, 1) := by decide +kernel
theorem D193_57 : pgDecT 193 57 = some (.iconst (-1), 1) := by decide +kernel
theorem D193_58 : pgDecT 193 58 = some (.if_icmp .ne 7, 3) := by decide +kernel
theorem D193_65 : pgDecT 193 65 = some (.iload_n 3, 1) := by decide +kernel
theorem D193_66 : pgDecT 193 66 = some (.ireturn, 1) := by decide +kernel
theorem D193_61 : pgDecT 193 61 = some (.iconst 0, 1) := by decide +kernel
theorem D193_62 : pgDecT 193 62 = some (.goto 4, 3) := by decide +kernel
theorem D193_48 : pgDecT 193 48 = some (.iconst 2, 1) := by decide +kernel
theorem D193_49 : pgDecT 193 49 = some (.goto 4, 3) := by decide +kernel
/-! 193: DictionaryHouseModel.function (II)I -/
def f193 (M : Mm) (x1 : Int) (x2 : Int) : Option (Int × Mm) := (f190 M x1).bind (fun q2 => if q2 = 0 then (some (0, (up M 53 0 1))) else (f190 M x2).bind (fun q10 => if q10 = 0 then (some (0, (up M 53 0 1))) else (f191 (up M 53 0 0) 4 x1 x2).bind (fun zq20 => if ¬ zq20.1 = (-1) then (if ¬ zq20.1 = (-1) then (some (zq20.1, (up zq20.2 53 0 0))) else (some (0, (up zq20.2 53 0 0)))) else (if ¬ zq20.1 = (-1) then (some (zq20.1, (up zq20.2 53 0 2))) else (some (0, (up zq20.2 53 0 2)))))))
theorem c193 {L : Nat} {xs : Nat → Int32} {h : mvH} {M : Mm} {x1 x2 : Int} {v : Int} {M' : Mm} (R : rp h M) (rx1 : rg x1) (rx2 : rg x2) (hs : f193 M x1 x2 = some (v, M')) : evx L xs 3 193 0 [(0, .inr (.inr (.inl (some 53)))), (1, .inl (iz x1)), (2, .inl (iz x2))] [] h (.inl (some (.inl v)), 0) M' := by
  unfold f193 at hs
  refine evx_F E193 D193_0 rfl rfl ?_
  refine evx_F E193 D193_1 rfl rfl ?_
  refine evx_F E193 D193_2 rfl rfl ?_
  obtain ⟨q2, e1, hs⟩ := Option.bind_eq_some_iff.mp hs
  refine evx_cv (D := 2) E193 D193_3 I193_189 rfl rfl H53 ⟨Nat.le_of_ble_eq_true rfl, Nat.le_of_ble_eq_true rfl⟩ ⟨rfl, Nat.le_of_ble_eq_true rfl⟩ rfl R (evx_up (Nat.le_of_ble_eq_true rfl) (c190 R rx1 e1)) ?_
  intro h3 R4 w5
  have w5 : rg q2 := w5
  show evx _ _ _ _ _ _ (.inl (iz q2) :: _) _ _ _
  by_cases cb6 : q2 = 0
  · rw [if_pos cb6] at hs
    refine evx_F E193 D193_6 rfl (ifT (c1_eq_T w5 cb6)) ?_
    refine evx_F E193 D193_21 rfl rfl ?_
    refine evx_pfi (k := 0) E193 D193_22 F193_182 H53 rfl R4 (by decide) rfl ?_
    intro h7 R8
    refine evx_F E193 D193_25 rfl rfl ?_
    refine evx_gfi (k := 0) E193 D193_26 F193_182 H53 rfl R8 ?_
    show evx _ _ _ _ _ _ (.inl (iz 1) :: _) _ _ _
    refine evx_F E193 D193_29 rfl rfl ?_
    refine evx_F E193 D193_32 rfl rfl ?_
    cases hs
    exact evx_ret E193 D193_33 rfl (fun d => rfl) rfl (show rg _ from (by decide)) R8
  · rw [if_neg cb6] at hs
    refine evx_F E193 D193_6 rfl (ifF (c1_eq_F w5 (by omega))) ?_
    refine evx_F E193 D193_9 rfl rfl ?_
    refine evx_F E193 D193_10 rfl rfl ?_
    obtain ⟨q10, e9, hs⟩ := Option.bind_eq_some_iff.mp hs
    refine evx_cv (D := 2) E193 D193_11 I193_189 rfl rfl H53 ⟨Nat.le_of_ble_eq_true rfl, Nat.le_of_ble_eq_true rfl⟩ ⟨rfl, Nat.le_of_ble_eq_true rfl⟩ rfl R4 (evx_up (Nat.le_of_ble_eq_true rfl) (c190 R4 rx2 e9)) ?_
    intro h11 R12 w13
    have w13 : rg q10 := w13
    show evx _ _ _ _ _ _ (.inl (iz q10) :: _) _ _ _
    by_cases cb14 : q10 = 0
    · rw [if_pos cb14] at hs
      refine evx_F E193 D193_14 rfl (ifT (c1_eq_T w13 cb14)) ?_
      refine evx_F E193 D193_21 rfl rfl ?_
      refine evx_pfi (k := 0) E193 D193_22 F193_182 H53 rfl R12 (by decide) rfl ?_
      intro h15 R16
      refine evx_F E193 D193_25 rfl rfl ?_
      refine evx_gfi (k := 0) E193 D193_26 F193_182 H53 rfl R16 ?_
      show evx _ _ _ _ _ _ (.inl (iz 1) :: _) _ _ _
      refine evx_F E193 D193_29 rfl rfl ?_
      refine evx_F E193 D193_32 rfl rfl ?_
      cases hs
      exact evx_ret E193 D193_33 rfl (fun d => rfl) rfl (show rg _ from (by decide)) R16
    · rw [if_neg cb14] at hs
      refine evx_F E193 D193_14 rfl (ifF (c1_eq_F w13 (by omega))) ?_
      refine evx_F E193 D193_17 rfl rfl ?_
      refine evx_F E193 D193_18 rfl rfl ?_
      refine evx_pfi (k := 0) E193 D193_22 F193_182 H53 rfl R12 (by decide) rfl ?_
      intro h17 R18
      refine evx_F E193 D193_25 rfl rfl ?_
      refine evx_gfi (k := 0) E193 D193_26 F193_182 H53 rfl R18 ?_
      show evx _ _ _ _ _ _ (.inl (iz 0) :: _) _ _ _
      refine evx_F E193 D193_29 rfl rfl ?_
      refine evx_F E193 D193_34 rfl rfl ?_
      refine evx_F E193 D193_35 rfl rfl ?_
      refine evx_F E193 D193_36 rfl rfl ?_
      refine evx_F E193 D193_37 rfl rfl ?_
      obtain ⟨⟨q20, M24⟩, e19, hs⟩ := Option.bind_eq_some_iff.mp hs
      dsimp only at hs
      refine evx_cv (D := 2) E193 D193_38 I193_193 rfl rfl H53 ⟨Nat.le_of_ble_eq_true rfl, Nat.le_of_ble_eq_true rfl⟩ ⟨rfl, Nat.le_of_ble_eq_true rfl⟩ rfl R18 (evx_up (Nat.le_of_ble_eq_true rfl) (c191 R18 (by decide) rx1 rx2 e19)) ?_
      intro h21 R22 w23
      have w23 : rg q20 := w23
      show evx _ _ _ _ _ _ (.inl (iz q20) :: _) _ _ _
      refine evx_F E193 D193_41 rfl rfl ?_
      refine evx_F E193 D193_42 rfl rfl ?_
      refine evx_F E193 D193_43 rfl rfl ?_
      refine evx_F E193 D193_44 rfl rfl ?_
      by_cases cb25 : ¬ q20 = (-1)
      · rw [if_pos cb25] at hs
        refine evx_F E193 D193_45 rfl (ifT (c2_ne_T w23 (by decide) cb25)) ?_
        refine evx_F E193 D193_52 rfl rfl ?_
        refine evx_pfi (k := 0) E193 D193_53 F193_182 H53 rfl R22 (by decide) rfl ?_
        intro h26 R27
        refine evx_F E193 D193_56 rfl rfl ?_
        refine evx_F E193 D193_57 rfl rfl ?_
        by_cases cb28 : ¬ q20 = (-1)
        · rw [if_pos cb28] at hs
          refine evx_F E193 D193_58 rfl (ifT (c2_ne_T w23 (by decide) cb28)) ?_
          refine evx_F E193 D193_65 rfl rfl ?_
          cases hs
          exact evx_ret E193 D193_66 rfl (fun d => rfl) rfl (show rg _ from w23) R27
        · rw [if_neg cb28] at hs
          refine evx_F E193 D193_58 rfl (ifF (c2_ne_F w23 (by decide) (by omega))) ?_
          refine evx_F E193 D193_61 rfl rfl ?_
          refine evx_F E193 D193_62 rfl rfl ?_
          cases hs
          exact evx_ret E193 D193_66 rfl (fun d => rfl) rfl (show rg _ from (by decide)) R27
      · rw [if_neg cb25] at hs
        refine evx_F E193 D193_45 rfl (ifF (c2_ne_F w23 (by decide) (by omega))) ?_
        refine evx_F E193 D193_48 rfl rfl ?_
        refine evx_F E193 D193_49 rfl rfl ?_
        refine evx_pfi (k := 0) E193 D193_53 F193_182 H53 rfl R22 (by decide) rfl ?_
        intro h29 R30
        refine evx_F E193 D193_56 rfl rfl ?_
        refine evx_F E193 D193_57 rfl rfl ?_
        by_cases cb31 : ¬ q20 = (-1)
        · rw [if_pos cb31] at hs
          refine evx_F E193 D193_58 rfl (ifT (c2_ne_T w23 (by decide) cb31)) ?_
          refine evx_F E193 D193_65 rfl rfl ?_
          cases hs
          exact evx_ret E193 D193_66 rfl (fun d => rfl) rfl (show rg _ from w23) R30
        · rw [if_neg cb31] at hs
          refine evx_F E193 D193_58 rfl (ifF (c2_ne_F w23 (by decide) (by omega))) ?_
          refine evx_F E193 D193_61 rfl rfl ?_
          refine evx_F E193 D193_62 rfl rfl ?_
          cases hs
          exact evx_ret E193 D193_66 rfl (fun d => rfl) rfl (show rg _ from (by decide)) R30
