/-! More methods as functions, printed by a program. -/
set_option maxRecDepth 20000 in
theorem E128 : pgMm 128 = some (⟨"DictionaryHouse$Checker", "newDefinition", "(I)I"⟩, prog_2_method_2_code, 6, (some .int), []) := rfl
theorem D128_0 : pgDecT 128 0 = some (.aload_n 0, 1) := by decide +kernel
theorem D128_1 : pgDecT 128 1 = some (.getfield 32, 3) := by decide +kernel
theorem F128_32 : pgFf 128 32 = some (0, 3, 3) := by decide +kernel
theorem D128_4 : pgDecT 128 4 = some (.iload_n 1, 1) := by decide +kernel
theorem D128_5 : pgDecT 128 5 = some (.invokevirtual 58, 3) := by decide +kernel
theorem I128_58 : pgIi 128 58 = some (65, 1, 10) := by decide +kernel
theorem D128_8 : pgDecT 128 8 = some (.ifCond .eq 13, 3) := by decide +kernel
theorem D128_21 : pgDecT 128 21 = some (.iconst (-1), 1) := by decide +kernel
theorem D128_22 : pgDecT 128 22 = some (.ireturn, 1) := by decide +kernel
theorem D128_11 : pgDecT 128 11 = some (.aload_n 0, 1) := by decide +kernel
theorem D128_12 : pgDecT 128 12 = some (.getfield 46, 3) := by decide +kernel
theorem F128_46 : pgFf 128 46 = some (0, 5, 3) := by decide +kernel
theorem D128_15 : pgDecT 128 15 = some (.invokevirtual 62, 3) := by decide +kernel
theorem I128_62 : pgIi 128 62 = some (97, 0, 5) := by decide +kernel
theorem D128_18 : pgDecT 128 18 = some (.ifCond .eq 5, 3) := by decide +kernel
theorem D128_23 : pgDecT 128 23 = some (.aload_n 0, 1) := by decide +kernel
theorem D128_24 : pgDecT 128 24 = some (.getfield 46, 3) := by decide +kernel
theorem D128_27 : pgDecT 128 27 = some (.aload_n 0, 1) := by decide +kernel
theorem D128_28 : pgDecT 128 28 = some (.getfield 32, 3) := by decide +kernel
theorem D128_31 : pgDecT 128 31 = some (.invokevirtual 66, 3) := by decide +kernel
theorem I128_66 : pgIi 128 66 = some (129, 0, 10) := by decide +kernel
theorem D128_34 : pgDecT 128 34 = some (.invokevirtual 70, 3) := by decide +kernel
theorem I128_70 : pgIi 128 70 = some (130, 1, 5) := by decide +kernel
theorem D128_37 : pgDecT 128 37 = some (.aload_n 0, 1) := by decide +kernel
theorem D128_38 : pgDecT 128 38 = some (.getfield 54, 3) := by decide +kernel
theorem F128_54 : pgFf 128 54 = some (0, 6, 3) := by decide +kernel
theorem D128_41 : pgDecT 128 41 = some (.iconst (-1), 1) := by decide +kernel
theorem D128_42 : pgDecT 128 42 = some (.invokevirtual 74, 3) := by decide +kernel
theorem I128_74 : pgIi 128 74 = some (105, 1, 2) := by decide +kernel
theorem D128_45 : pgDecT 128 45 = some (.istore_n 2, 1) := by decide +kernel
theorem D128_46 : pgDecT 128 46 = some (.iload_n 2, 1) := by decide +kernel
theorem D128_47 : pgDecT 128 47 = some (.ifCond .eq 5, 3) := by decide +kernel
theorem D128_52 : pgDecT 128 52 = some (.aload_n 0, 1) := by decide +kernel
theorem D128_53 : pgDecT 128 53 = some (.invokevirtual 78, 3) := by decide +kernel
theorem I128_78 : pgIi 128 78 = some (132, 0, 0) := by decide +kernel
theorem D128_56 : pgDecT 128 56 = some (.istore_n 3, 1) := by decide +kernel
theorem D128_57 : pgDecT 128 57 = some (.aload_n 0, 1) := by decide +kernel
theorem D128_58 : pgDecT 128 58 = some (.getfield 46, 3) := by decide +kernel
theorem D128_61 : pgDecT 128 61 = some (.invokevirtual 81, 3) := by decide +kernel
theorem I128_81 : pgIi 128 81 = some (133, 0, 5) := by decide +kernel
theorem D128_64 : pgDecT 128 64 = some (.bipush 8, 2) := by decide +kernel
theorem D128_66 : pgDecT 128 66 = some (.if_icmp .gt 9, 3) := by decide +kernel
theorem D128_75 : pgDecT 128 75 = some (.bipush (-4), 2) := by decide +kernel
theorem D128_77 : pgDecT 128 77 = some (.ireturn, 1) := by decide +kernel
theorem D128_69 : pgDecT 128 69 = some (.iload_n 3, 1) := by decide +kernel
theorem D128_70 : pgDecT 128 70 = some (.bipush 8, 2) := by decide +kernel
theorem D128_72 : pgDecT 128 72 = some (.if_icmp .le 6, 3) := by decide +kernel
theorem D128_78 : pgDecT 128 78 = some (.aload_n 0, 1) := by decide +kernel
theorem D128_79 : pgDecT 128 79 = some (.invokevirtual 84, 3) := by decide +kernel
theorem I128_84 : pgIi 128 84 = some (136, 0, 0) := by decide +kernel
theorem D128_82 : pgDecT 128 82 = some (.istore 4, 2) := by decide +kernel
theorem D128_84 : pgDecT 128 84 = some (.iload 4, 2) := by decide +kernel
theorem D128_86 : pgDecT 128 86 = some (.iconst (-1), 1) := by decide +kernel
theorem D128_87 : pgDecT 128 87 = some (.if_icmp .ne 6, 3) := by decide +kernel
theorem D128_93 : pgDecT 128 93 = some (.aload_n 0, 1) := by decide +kernel
theorem D128_94 : pgDecT 128 94 = some (.getfield 28, 3) := by decide +kernel
theorem F128_28 : pgFf 128 28 = some (0, 2, 3) := by decide +kernel
theorem D128_97 : pgDecT 128 97 = some (.iload_n 1, 1) := by decide +kernel
theorem D128_98 : pgDecT 128 98 = some (.iload 4, 2) := by decide +kernel
theorem D128_100 : pgDecT 128 100 = some (.aload_n 0, 1) := by decide +kernel
theorem D128_101 : pgDecT 128 101 = some (.getfield 9, 3) := by decide +kernel
theorem F128_9 : pgFf 128 9 = some (0, 7, 3) := by decide +kernel
theorem D128_104 : pgDecT 128 104 = some (.iload_n 3, 1) := by decide +kernel
theorem D128_105 : pgDecT 128 105 = some (.invokevirtual 87, 3) := by decide +kernel
theorem I128_87 : pgIi 128 87 = some (141, 4, 3) := by decide +kernel
theorem D128_108 : pgDecT 128 108 = some (.istore 5, 2) := by decide +kernel
theorem D128_110 : pgDecT 128 110 = some (.aload_n 0, 1) := by decide +kernel
theorem D128_111 : pgDecT 128 111 = some (.getfield 36, 3) := by decide +kernel
theorem F128_36 : pgFf 128 36 = some (0, 4, 3) := by decide +kernel
theorem D128_114 : pgDecT 128 114 = some (.iload 5, 2) := by decide +kernel
theorem D128_116 : pgDecT 128 116 = some (.invokestatic 93, 3) := by decide +kernel
theorem I128_93 : pgIi 128 93 = some (142, 1, 100) := by decide +kernel
theorem D128_119 : pgDecT 128 119 = some (.aload_n 0, 1) := by decide +kernel
theorem D128_120 : pgDecT 128 120 = some (.getfield 32, 3) := by decide +kernel
theorem D128_123 : pgDecT 128 123 = some (.invokevirtual 98, 3) := by decide +kernel
theorem I128_98 : pgIi 128 98 = some (120, 2, 8) := by decide +kernel
theorem D128_126 : pgDecT 128 126 = some (.iload 5, 2) := by decide +kernel
theorem D128_128 : pgDecT 128 128 = some (.ireturn, 1) := by decide +kernel
theorem D128_90 : pgDecT 128 90 = some (.bipush (-4), 2) := by decide +kernel
theorem D128_92 : pgDecT 128 92 = some (.ireturn, 1) := by decide +kernel
theorem D128_50 : pgDecT 128 50 = some (.iload_n 2, 1) := by decide +kernel
theorem D128_51 : pgDecT 128 51 = some (.ireturn, 1) := by decide +kernel
/-! 128: DictionaryHouse$Checker.newDefinition (I)I -/
def f128 (M : Mm) (x1 : Int) : Option (Int × Mm) := (f65 M x1).bind (fun zq2 => if zq2.1 = 0 then (some ((-1), zq2.2)) else (f97 zq2.2).bind (fun zq9 => if zq9.1 = 0 then (f129 zq9.2).bind (fun q16 => (f130 zq9.2 q16).bind (fun zq21 => (f105 zq21.2 (-1)).bind (fun zq27 => if zq27.1 = 0 then (f132 zq27.2).bind (fun zq34 => (f133 zq34.2).bind (fun q40 => if 8 < q40 then (some ((-4), zq34.2)) else (if zq34.1 ≤ 8 then (f136 zq34.2).bind (fun zq47 => if ¬ zq47.1 = (-1) then (f141_43 zq47.2 x1 zq47.1 zq34.1).bind (fun zq54 => (f142 zq54.2 zq54.1).bind (fun q60 => (f120_24 zq54.2 q60).bind (fun zq65 => some (zq54.1, zq65.2)))) else (some ((-4), zq47.2))) else (some ((-4), zq34.2))))) else (some (zq27.1, zq27.2))))) else (some ((-1), zq9.2))))
theorem c128 {L : Nat} {xs : Nat → Int32} {h : mvH} {M : Mm} {x1 : Int} {v : Int} {M' : Mm} (R : rp h M) (rx1 : rg x1) (hs : f128 M x1 = some (v, M')) : evx L xs 44 128 0 [(0, .inr (.inr (.inl (some 42)))), (1, .inl (iz x1))] [] h (.inl (some (.inl v)), 0) M' := by
  unfold f128 at hs
  refine evx_F E128 D128_0 rfl rfl ?_
  refine evx_gfr E128 D128_1 F128_32 H42 rfl R ?_
  refine evx_F E128 D128_4 rfl rfl ?_
  obtain ⟨⟨q2, M6⟩, e1, hs⟩ := Option.bind_eq_some_iff.mp hs
  dsimp only at hs
  refine evx_cv (D := 43) E128 D128_5 I128_58 rfl rfl H24 ⟨Nat.le_of_ble_eq_true rfl, Nat.le_of_ble_eq_true rfl⟩ ⟨rfl, Nat.le_of_ble_eq_true rfl⟩ rfl R (evx_up (Nat.le_of_ble_eq_true rfl) (c65 R rx1 e1)) ?_
  intro h3 R4 w5
  have w5 : rg q2 := w5
  show evx _ _ _ _ _ _ (.inl (iz q2) :: _) _ _ _
  by_cases cb7 : q2 = 0
  · rw [if_pos cb7] at hs
    refine evx_F E128 D128_8 rfl (ifT (c1_eq_T w5 cb7)) ?_
    refine evx_F E128 D128_21 rfl rfl ?_
    cases hs
    exact evx_ret E128 D128_22 rfl (fun d => rfl) rfl (show rg _ from (by decide)) R4
  · rw [if_neg cb7] at hs
    refine evx_F E128 D128_8 rfl (ifF (c1_eq_F w5 (by omega))) ?_
    refine evx_F E128 D128_11 rfl rfl ?_
    refine evx_gfr E128 D128_12 F128_46 H42 rfl R4 ?_
    obtain ⟨⟨q9, M13⟩, e8, hs⟩ := Option.bind_eq_some_iff.mp hs
    dsimp only at hs
    refine evx_cv (D := 43) E128 D128_15 I128_62 rfl rfl H25 ⟨Nat.le_of_ble_eq_true rfl, Nat.le_of_ble_eq_true rfl⟩ ⟨rfl, Nat.le_of_ble_eq_true rfl⟩ rfl R4 (evx_up (Nat.le_of_ble_eq_true rfl) (c97 R4  e8)) ?_
    intro h10 R11 w12
    have w12 : rg q9 := w12
    show evx _ _ _ _ _ _ (.inl (iz q9) :: _) _ _ _
    by_cases cb14 : q9 = 0
    · rw [if_pos cb14] at hs
      refine evx_F E128 D128_18 rfl (ifT (c1_eq_T w12 cb14)) ?_
      refine evx_F E128 D128_23 rfl rfl ?_
      refine evx_gfr E128 D128_24 F128_46 H42 rfl R11 ?_
      refine evx_F E128 D128_27 rfl rfl ?_
      refine evx_gfr E128 D128_28 F128_32 H42 rfl R11 ?_
      obtain ⟨q16, e15, hs⟩ := Option.bind_eq_some_iff.mp hs
      refine evx_cv (D := 43) E128 D128_31 I128_66 rfl rfl H24 ⟨Nat.le_of_ble_eq_true rfl, Nat.le_of_ble_eq_true rfl⟩ ⟨rfl, Nat.le_of_ble_eq_true rfl⟩ rfl R11 (evx_up (Nat.le_of_ble_eq_true rfl) (c129 R11  e15)) ?_
      intro h17 R18 w19
      have w19 : rg q16 := w19
      show evx _ _ _ _ _ _ (.inl (iz q16) :: _) _ _ _
      obtain ⟨⟨q21, M25⟩, e20, hs⟩ := Option.bind_eq_some_iff.mp hs
      dsimp only at hs
      refine evx_cv (D := 43) E128 D128_34 I128_70 rfl rfl H25 ⟨Nat.le_of_ble_eq_true rfl, Nat.le_of_ble_eq_true rfl⟩ ⟨rfl, Nat.le_of_ble_eq_true rfl⟩ rfl R18 (evx_up (Nat.le_of_ble_eq_true rfl) (c130 R18 w19 e20)) ?_
      intro h22 R23 w24
      refine evx_F E128 D128_37 rfl rfl ?_
      refine evx_gfr E128 D128_38 F128_54 H42 rfl R23 ?_
      refine evx_F E128 D128_41 rfl rfl ?_
      obtain ⟨⟨q27, M31⟩, e26, hs⟩ := Option.bind_eq_some_iff.mp hs
      dsimp only at hs
      refine evx_cv (D := 43) E128 D128_42 I128_74 rfl rfl H45 ⟨Nat.le_of_ble_eq_true rfl, Nat.le_of_ble_eq_true rfl⟩ ⟨rfl, Nat.le_of_ble_eq_true rfl⟩ rfl R23 (evx_up (Nat.le_of_ble_eq_true rfl) (c105 R23 (by decide) e26)) ?_
      intro h28 R29 w30
      have w30 : rg q27 := w30
      show evx _ _ _ _ _ _ (.inl (iz q27) :: _) _ _ _
      refine evx_F E128 D128_45 rfl rfl ?_
      refine evx_F E128 D128_46 rfl rfl ?_
      by_cases cb32 : q27 = 0
      · rw [if_pos cb32] at hs
        refine evx_F E128 D128_47 rfl (ifT (c1_eq_T w30 cb32)) ?_
        refine evx_F E128 D128_52 rfl rfl ?_
        obtain ⟨⟨q34, M38⟩, e33, hs⟩ := Option.bind_eq_some_iff.mp hs
        dsimp only at hs
        refine evx_cv (D := 43) E128 D128_53 I128_78 rfl rfl H42 ⟨Nat.le_of_ble_eq_true rfl, Nat.le_of_ble_eq_true rfl⟩ ⟨rfl, Nat.le_of_ble_eq_true rfl⟩ rfl R29 (evx_up (Nat.le_of_ble_eq_true rfl) (c132 R29  e33)) ?_
        intro h35 R36 w37
        have w37 : rg q34 := w37
        show evx _ _ _ _ _ _ (.inl (iz q34) :: _) _ _ _
        refine evx_F E128 D128_56 rfl rfl ?_
        refine evx_F E128 D128_57 rfl rfl ?_
        refine evx_gfr E128 D128_58 F128_46 H42 rfl R36 ?_
        obtain ⟨q40, e39, hs⟩ := Option.bind_eq_some_iff.mp hs
        refine evx_cv (D := 43) E128 D128_61 I128_81 rfl rfl H25 ⟨Nat.le_of_ble_eq_true rfl, Nat.le_of_ble_eq_true rfl⟩ ⟨rfl, Nat.le_of_ble_eq_true rfl⟩ rfl R36 (evx_up (Nat.le_of_ble_eq_true rfl) (c133 R36  e39)) ?_
        intro h41 R42 w43
        have w43 : rg q40 := w43
        show evx _ _ _ _ _ _ (.inl (iz q40) :: _) _ _ _
        refine evx_k (k := 8) E128 D128_64 rfl (by decide) ?_
        by_cases cb44 : 8 < q40
        · rw [if_pos cb44] at hs
          refine evx_F E128 D128_66 rfl (ifT (c2_gt_T w43 (by decide) cb44)) ?_
          refine evx_k (k := -4) E128 D128_75 rfl (by decide) ?_
          cases hs
          exact evx_ret E128 D128_77 rfl (fun d => rfl) rfl (show rg _ from (by decide)) R42
        · rw [if_neg cb44] at hs
          refine evx_F E128 D128_66 rfl (ifF (c2_gt_F w43 (by decide) (by omega))) ?_
          refine evx_F E128 D128_69 rfl rfl ?_
          refine evx_k (k := 8) E128 D128_70 rfl (by decide) ?_
          by_cases cb45 : q34 ≤ 8
          · rw [if_pos cb45] at hs
            refine evx_F E128 D128_72 rfl (ifT (c2_le_T w37 (by decide) cb45)) ?_
            refine evx_F E128 D128_78 rfl rfl ?_
            obtain ⟨⟨q47, M51⟩, e46, hs⟩ := Option.bind_eq_some_iff.mp hs
            dsimp only at hs
            refine evx_cv (D := 43) E128 D128_79 I128_84 rfl rfl H42 ⟨Nat.le_of_ble_eq_true rfl, Nat.le_of_ble_eq_true rfl⟩ ⟨rfl, Nat.le_of_ble_eq_true rfl⟩ rfl R42 (evx_up (Nat.le_of_ble_eq_true rfl) (c136 R42  e46)) ?_
            intro h48 R49 w50
            have w50 : rg q47 := w50
            show evx _ _ _ _ _ _ (.inl (iz q47) :: _) _ _ _
            refine evx_F E128 D128_82 rfl rfl ?_
            refine evx_F E128 D128_84 rfl rfl ?_
            refine evx_F E128 D128_86 rfl rfl ?_
            by_cases cb52 : ¬ q47 = (-1)
            · rw [if_pos cb52] at hs
              refine evx_F E128 D128_87 rfl (ifT (c2_ne_T w50 (by decide) cb52)) ?_
              refine evx_F E128 D128_93 rfl rfl ?_
              refine evx_gfr E128 D128_94 F128_28 H42 rfl R49 ?_
              refine evx_F E128 D128_97 rfl rfl ?_
              refine evx_F E128 D128_98 rfl rfl ?_
              refine evx_F E128 D128_100 rfl rfl ?_
              refine evx_gfr E128 D128_101 F128_9 H42 rfl R49 ?_
              refine evx_F E128 D128_104 rfl rfl ?_
              obtain ⟨⟨q54, M58⟩, e53, hs⟩ := Option.bind_eq_some_iff.mp hs
              dsimp only at hs
              refine evx_cv (D := 43) E128 D128_105 I128_87 rfl rfl H17 ⟨Nat.le_of_ble_eq_true rfl, Nat.le_of_ble_eq_true rfl⟩ ⟨rfl, Nat.le_of_ble_eq_true rfl⟩ rfl R49 (evx_up (Nat.le_of_ble_eq_true rfl) (c141_43 R49 rx1 w50 w37 e53)) ?_
              intro h55 R56 w57
              have w57 : rg q54 := w57
              show evx _ _ _ _ _ _ (.inl (iz q54) :: _) _ _ _
              refine evx_F E128 D128_108 rfl rfl ?_
              refine evx_F E128 D128_110 rfl rfl ?_
              refine evx_gfr E128 D128_111 F128_36 H42 rfl R56 ?_
              refine evx_F E128 D128_114 rfl rfl ?_
              obtain ⟨q60, e59, hs⟩ := Option.bind_eq_some_iff.mp hs
              refine evx_cs (D := 43) E128 D128_116 I128_93 rfl rfl (Nat.le_of_ble_eq_true rfl) ⟨rfl, Nat.le_of_ble_eq_true rfl⟩ rfl (evx_up (Nat.le_of_ble_eq_true rfl) (c142 R56 w57 e59)) ?_
              intro h61 R62 w63
              have w63 : rg q60 := w63
              show evx _ _ _ _ _ _ (.inl (iz q60) :: _) _ _ _
              refine evx_F E128 D128_119 rfl rfl ?_
              refine evx_gfr E128 D128_120 F128_32 H42 rfl R62 ?_
              obtain ⟨⟨q65, M69⟩, e64, hs⟩ := Option.bind_eq_some_iff.mp hs
              dsimp only at hs
              refine evx_cv (D := 43) E128 D128_123 I128_98 rfl rfl H22 ⟨Nat.le_of_ble_eq_true rfl, Nat.le_of_ble_eq_true rfl⟩ ⟨rfl, Nat.le_of_ble_eq_true rfl⟩ rfl R62 (evx_up (Nat.le_of_ble_eq_true rfl) (c120_24 R62 w63 e64)) ?_
              intro h66 R67 w68
              refine evx_F E128 D128_126 rfl rfl ?_
              cases hs
              exact evx_ret E128 D128_128 rfl (fun d => rfl) rfl (show rg _ from w57) R67
            · rw [if_neg cb52] at hs
              refine evx_F E128 D128_87 rfl (ifF (c2_ne_F w50 (by decide) (by omega))) ?_
              refine evx_k (k := -4) E128 D128_90 rfl (by decide) ?_
              cases hs
              exact evx_ret E128 D128_92 rfl (fun d => rfl) rfl (show rg _ from (by decide)) R49
          · rw [if_neg cb45] at hs
            refine evx_F E128 D128_72 rfl (ifF (c2_le_F w37 (by decide) (by omega))) ?_
            refine evx_k (k := -4) E128 D128_75 rfl (by decide) ?_
            cases hs
            exact evx_ret E128 D128_77 rfl (fun d => rfl) rfl (show rg _ from (by decide)) R42
      · rw [if_neg cb32] at hs
        refine evx_F E128 D128_47 rfl (ifF (c1_eq_F w30 (by omega))) ?_
        refine evx_F E128 D128_50 rfl rfl ?_
        cases hs
        exact evx_ret E128 D128_51 rfl (fun d => rfl) rfl (show rg _ from w30) R29
    · rw [if_neg cb14] at hs
      refine evx_F E128 D128_18 rfl (ifF (c1_eq_F w12 (by omega))) ?_
      refine evx_F E128 D128_21 rfl rfl ?_
      cases hs
      exact evx_ret E128 D128_22 rfl (fun d => rfl) rfl (show rg _ from (by decide)) R11
set_option maxRecDepth 20000 in
theorem E49 : pgMm 49 = some (⟨"DictionaryHouseLaw", "apply", "(LDictionaryHouse;II[J)I"⟩, method_11_code, 5, (some .int), [(0, 10, 13, 13), (0, 10, 17, 15)]) := rfl
theorem D49_0 : pgDecT 49 0 = some (.aload_n 3, 1) := by decide +kernel
theorem D49_1 : pgDecT 49 1 = some (.iconst 0, 1) := by decide +kernel
theorem D49_2 : pgDecT 49 2 = some (.aload_n 0, 1) := by decide +kernel
theorem D49_3 : pgDecT 49 3 = some (.iload_n 1, 1) := by decide +kernel
theorem D49_4 : pgDecT 49 4 = some (.iload_n 2, 1) := by decide +kernel
theorem D49_5 : pgDecT 49 5 = some (.invokevirtual 39, 3) := by decide +kernel
theorem I49_39 : pgIi 49 39 = some (50, 2, 11) := by decide +kernel
theorem D49_8 : pgDecT 49 8 = some (.i2l, 1) := by decide +kernel
theorem D49_9 : pgDecT 49 9 = some (.lastore, 1) := by decide +kernel
theorem D49_10 : pgDecT 49 10 = some (.goto 11, 3) := by decide +kernel
theorem D49_21 : pgDecT 49 21 = some (.iconst 0, 1) := by decide +kernel
theorem D49_22 : pgDecT 49 22 = some (.ireturn, 1) := by decide +kernel
theorem D49_15 : pgDecT 49 15 = some (.iconst 1, 1) := by decide +kernel
theorem D49_16 : pgDecT 49 16 = some (.ireturn, 1) := by decide +kernel
theorem D49_19 : pgDecT 49 19 = some (.iconst 2, 1) := by decide +kernel
theorem D49_20 : pgDecT 49 20 = some (.ireturn, 1) := by decide +kernel
/-! 49_0_109: DictionaryHouseLaw.apply (LDictionaryHouse;II[J)I -/
def f49_0_109 (M : Mm) (x1 : Int) (x2 : Int) : Option (Int × Mm) := (f50 M x1 x2).bind (fun zq2 => if zq2.1 = 0 then (some (0, (up zq2.2.2 109 (Int.toNat 0) zq2.2.1))) else if zq2.1 = 1 then (some (1, zq2.2.2)) else (some (2, zq2.2.2)))
theorem c49_0_109 {L : Nat} {xs : Nat → Int32} {h : mvH} {M : Mm} {x1 x2 : Int} {v : Int} {M' : Mm} (R : rp h M) (rx1 : rg x1) (rx2 : rg x2) (hs : f49_0_109 M x1 x2 = some (v, M')) : evx L xs 11 49 0 [(0, .inr (.inr (.inl (some 0)))), (1, .inl (iz x1)), (2, .inl (iz x2)), (3, .inr (.inr (.inl (some 109))))] [] h (ow v) M' := by
  unfold f49_0_109 at hs
  refine evx_F E49 D49_0 rfl rfl ?_
  refine evx_F E49 D49_1 rfl rfl ?_
  refine evx_F E49 D49_2 rfl rfl ?_
  refine evx_F E49 D49_3 rfl rfl ?_
  refine evx_F E49 D49_4 rfl rfl ?_
  obtain ⟨⟨kq7, q2, M6⟩, e1, hs⟩ := Option.bind_eq_some_iff.mp hs
  dsimp only at hs
  have ge1 := c50 (L := L) (xs := xs) R rx1 rx2 e1
  by_cases cb8 : kq7 = 0
  · rw [if_pos cb8] at hs
    subst cb8
    refine evx_cv (D := 10) E49 D49_5 I49_39 rfl rfl H0 ⟨Nat.le_of_ble_eq_true rfl, Nat.le_of_ble_eq_true rfl⟩ ⟨rfl, Nat.le_of_ble_eq_true rfl⟩ rfl R (evx_up (Nat.le_of_ble_eq_true rfl) ge1) ?_
    intro h3 R4 w5
    have w5 : rg q2 := w5
    show evx _ _ _ _ _ _ (.inl (iz q2) :: _) _ _ _
    refine evx_F E49 D49_8 rfl rfl ?_
    refine evx_las E49 D49_9 H109 (by decide) R4 (by decide) w5 ?_
    intro h9 R10
    refine evx_F E49 D49_10 rfl rfl ?_
    refine evx_F E49 D49_21 rfl rfl ?_
    cases hs
    exact evx_ret E49 D49_22 rfl (fun d => rfl) rfl (show rg _ from (by decide)) R10
  · rw [if_neg cb8] at hs
    by_cases cb11 : kq7 = 1
    · rw [if_pos cb11] at hs
      rw [cb11, ot_1] at ge1
      cases hs
      show evx _ _ _ _ _ _ _ _ (.inl (some (.inl 1)), 1 + 0) _
      refine evx_cat (n1 := 1) (n2 := 0) (D := 10) E49 D49_5 I49_39 rfl rfl H0 ⟨Nat.le_of_ble_eq_true rfl, Nat.le_of_ble_eq_true rfl⟩ ⟨rfl, Nat.le_of_ble_eq_true rfl⟩ rfl rfl R (evx_up (Nat.le_of_ble_eq_true rfl) ge1) ?_
      intro h12 R13
      show evx _ _ _ _ _ [(0, .inr (.inr (.inl (some 0)))), (1, .inl (iz x1)), (2, .inl (iz x2)), (3, .inr (.inr (.inl (some 109))))] _ _ _ _
      refine evx_F E49 D49_15 rfl rfl ?_
      exact evx_ret E49 D49_16 rfl (fun d => rfl) rfl (show rg _ from (by decide)) R13
    · rw [if_neg cb11] at hs
      rw [ot_2 cb8 cb11] at ge1
      cases hs
      show evx _ _ _ _ _ _ _ _ (.inl (some (.inl 2)), 1 + 0) _
      refine evx_cat (n1 := 1) (n2 := 0) (D := 10) E49 D49_5 I49_39 rfl rfl H0 ⟨Nat.le_of_ble_eq_true rfl, Nat.le_of_ble_eq_true rfl⟩ ⟨rfl, Nat.le_of_ble_eq_true rfl⟩ rfl rfl R (evx_up (Nat.le_of_ble_eq_true rfl) ge1) ?_
      intro h14 R15
      show evx _ _ _ _ _ [(0, .inr (.inr (.inl (some 0)))), (1, .inl (iz x1)), (2, .inl (iz x2)), (3, .inr (.inr (.inl (some 109))))] _ _ _ _
      refine evx_F E49 D49_19 rfl rfl ?_
      exact evx_ret E49 D49_20 rfl (fun d => rfl) rfl (show rg _ from (by decide)) R15
set_option maxRecDepth 20000 in
theorem E58 : pgMm 58 = some (⟨"DictionaryHouse", "instance", "(IIIIII)I"⟩, prog_1_method_13_code, 10, (some .int), []) := rfl
theorem D58_0 : pgDecT 58 0 = some (.aload_n 0, 1) := by decide +kernel
theorem D58_1 : pgDecT 58 1 = some (.getfield 19, 3) := by decide +kernel
theorem F58_19 : pgFf 58 19 = some (11, 1, 3) := by decide +kernel
theorem D58_4 : pgDecT 58 4 = some (.iload_n 1, 1) := by decide +kernel
theorem D58_5 : pgDecT 58 5 = some (.invokevirtual 79, 3) := by decide +kernel
theorem I58_79 : pgIi 58 79 = some (26, 1, 1) := by decide +kernel
theorem D58_8 : pgDecT 58 8 = some (.ifCond .eq 16, 3) := by decide +kernel
theorem D58_24 : pgDecT 58 24 = some (.iconst 0, 1) := by decide +kernel
theorem D58_25 : pgDecT 58 25 = some (.invokestatic 67, 3) := by decide +kernel
theorem I58_67 : pgIi 58 67 = some (18, 1, 100) := by decide +kernel
theorem D58_11 : pgDecT 58 11 = some (.iload_n 2, 1) := by decide +kernel
theorem D58_12 : pgDecT 58 12 = some (.ifCond .lt 12, 3) := by decide +kernel
theorem D58_15 : pgDecT 58 15 = some (.iload_n 2, 1) := by decide +kernel
theorem D58_16 : pgDecT 58 16 = some (.iconst 3, 1) := by decide +kernel
theorem D58_17 : pgDecT 58 17 = some (.if_icmp .ge 7, 3) := by decide +kernel
theorem D58_20 : pgDecT 58 20 = some (.iconst 1, 1) := by decide +kernel
theorem D58_21 : pgDecT 58 21 = some (.goto 4, 3) := by decide +kernel
theorem D58_28 : pgDecT 58 28 = some (.iload_n 3, 1) := by decide +kernel
theorem D58_29 : pgDecT 58 29 = some (.iconst (-1), 1) := by decide +kernel
theorem D58_30 : pgDecT 58 30 = some (.if_icmp .eq 19, 3) := by decide +kernel
theorem D58_49 : pgDecT 58 49 = some (.iconst 1, 1) := by decide +kernel
theorem D58_50 : pgDecT 58 50 = some (.goto 4, 3) := by decide +kernel
theorem D58_54 : pgDecT 58 54 = some (.invokestatic 67, 3) := by decide +kernel
theorem D58_57 : pgDecT 58 57 = some (.aload_n 0, 1) := by decide +kernel
theorem D58_58 : pgDecT 58 58 = some (.getfield 19, 3) := by decide +kernel
theorem D58_61 : pgDecT 58 61 = some (.iload_n 1, 1) := by decide +kernel
theorem D58_62 : pgDecT 58 62 = some (.invokevirtual 93, 3) := by decide +kernel
theorem I58_93 : pgIi 58 93 = some (32, 1, 1) := by decide +kernel
theorem D58_65 : pgDecT 58 65 = some (.istore 7, 2) := by decide +kernel
theorem D58_67 : pgDecT 58 67 = some (.iload 7, 2) := by decide +kernel
theorem D58_69 : pgDecT 58 69 = some (.iconst 1, 1) := by decide +kernel
theorem D58_70 : pgDecT 58 70 = some (.if_icmp .lt 15, 3) := by decide +kernel
theorem D58_85 : pgDecT 58 85 = some (.iconst 1, 1) := by decide +kernel
theorem D58_86 : pgDecT 58 86 = some (.goto 4, 3) := by decide +kernel
theorem D58_90 : pgDecT 58 90 = some (.invokestatic 67, 3) := by decide +kernel
theorem D58_93 : pgDecT 58 93 = some (.iload 7, 2) := by decide +kernel
theorem D58_95 : pgDecT 58 95 = some (.iconst 2, 1) := by decide +kernel
theorem D58_96 : pgDecT 58 96 = some (.if_icmp .lt 15, 3) := by decide +kernel
theorem D58_111 : pgDecT 58 111 = some (.iconst 1, 1) := by decide +kernel
theorem D58_112 : pgDecT 58 112 = some (.goto 4, 3) := by decide +kernel
theorem D58_116 : pgDecT 58 116 = some (.invokestatic 67, 3) := by decide +kernel
theorem D58_119 : pgDecT 58 119 = some (.iload 7, 2) := by decide +kernel
theorem D58_121 : pgDecT 58 121 = some (.iconst 3, 1) := by decide +kernel
theorem D58_122 : pgDecT 58 122 = some (.if_icmp .lt 15, 3) := by decide +kernel
theorem D58_137 : pgDecT 58 137 = some (.iconst 1, 1) := by decide +kernel
theorem D58_138 : pgDecT 58 138 = some (.goto 4, 3) := by decide +kernel
theorem D58_142 : pgDecT 58 142 = some (.invokestatic 67, 3) := by decide +kernel
theorem D58_145 : pgDecT 58 145 = some (.aload_n 0, 1) := by decide +kernel
theorem D58_146 : pgDecT 58 146 = some (.getfield 19, 3) := by decide +kernel
theorem D58_149 : pgDecT 58 149 = some (.iload_n 1, 1) := by decide +kernel
theorem D58_150 : pgDecT 58 150 = some (.iload_n 2, 1) := by decide +kernel
theorem D58_151 : pgDecT 58 151 = some (.invokevirtual 116, 3) := by decide +kernel
theorem I58_116 : pgIi 58 116 = some (34, 2, 1) := by decide +kernel
theorem D58_154 : pgDecT 58 154 = some (.ifCond .ne 7, 3) := by decide +kernel
theorem D58_161 : pgDecT 58 161 = some (.iconst 0, 1) := by decide +kernel
theorem D58_162 : pgDecT 58 162 = some (.invokestatic 84, 3) := by decide +kernel
theorem I58_84 : pgIi 58 84 = some (21, 1, 100) := by decide +kernel
theorem D58_157 : pgDecT 58 157 = some (.iconst 1, 1) := by decide +kernel
theorem D58_158 : pgDecT 58 158 = some (.goto 4, 3) := by decide +kernel
theorem D58_165 : pgDecT 58 165 = some (.aload_n 0, 1) := by decide +kernel
theorem D58_166 : pgDecT 58 166 = some (.getfield 19, 3) := by decide +kernel
theorem D58_169 : pgDecT 58 169 = some (.iload_n 1, 1) := by decide +kernel
theorem D58_170 : pgDecT 58 170 = some (.iload_n 2, 1) := by decide +kernel
theorem D58_171 : pgDecT 58 171 = some (.iload_n 3, 1) := by decide +kernel
theorem D58_172 : pgDecT 58 172 = some (.invokevirtual 119, 3) := by decide +kernel
theorem I58_119 : pgIi 58 119 = some (59, 3, 1) := by decide +kernel
theorem D58_175 : pgDecT 58 175 = some (.ifCond .ne 6, 3) := by decide +kernel
theorem D58_181 : pgDecT 58 181 = some (.aload_n 0, 1) := by decide +kernel
theorem D58_182 : pgDecT 58 182 = some (.getfield 19, 3) := by decide +kernel
theorem D58_185 : pgDecT 58 185 = some (.iload_n 1, 1) := by decide +kernel
theorem D58_186 : pgDecT 58 186 = some (.iload_n 2, 1) := by decide +kernel
theorem D58_187 : pgDecT 58 187 = some (.iload_n 3, 1) := by decide +kernel
theorem D58_188 : pgDecT 58 188 = some (.invokevirtual 123, 3) := by decide +kernel
theorem I58_123 : pgIi 58 123 = some (61, 3, 1) := by decide +kernel
theorem D58_191 : pgDecT 58 191 = some (.aload_n 0, 1) := by decide +kernel
theorem D58_192 : pgDecT 58 192 = some (.getfield 19, 3) := by decide +kernel
theorem D58_195 : pgDecT 58 195 = some (.iload_n 1, 1) := by decide +kernel
theorem D58_196 : pgDecT 58 196 = some (.iload_n 2, 1) := by decide +kernel
theorem D58_197 : pgDecT 58 197 = some (.iload 4, 2) := by decide +kernel
theorem D58_199 : pgDecT 58 199 = some (.iload 5, 2) := by decide +kernel
theorem D58_201 : pgDecT 58 201 = some (.iload 6, 2) := by decide +kernel
theorem D58_203 : pgDecT 58 203 = some (.invokevirtual 127, 3) := by decide +kernel
theorem I58_127 : pgIi 58 127 = some (62, 5, 1) := by decide +kernel
theorem D58_206 : pgDecT 58 206 = some (.iconst 0, 1) := by decide +kernel
theorem D58_207 : pgDecT 58 207 = some (.istore 8, 2) := by decide +kernel
theorem D58_209 : pgDecT 58 209 = some (.iconst 0, 1) := by decide +kernel
theorem D58_210 : pgDecT 58 210 = some (.istore 9, 2) := by decide +kernel
theorem D58_212 : pgDecT 58 212 = some (.iload 9, 2) := by decide +kernel
theorem D58_178 : pgDecT 58 178 = some (.bipush (-5), 2) := by decide +kernel
theorem D58_180 : pgDecT 58 180 = some (.ireturn, 1) := by decide +kernel
theorem D58_125 : pgDecT 58 125 = some (.aload_n 0, 1) := by decide +kernel
theorem D58_126 : pgDecT 58 126 = some (.getfield 26, 3) := by decide +kernel
theorem F58_26 : pgFf 58 26 = some (11, 2, 3) := by decide +kernel
theorem D58_129 : pgDecT 58 129 = some (.iload 6, 2) := by decide +kernel
theorem D58_131 : pgDecT 58 131 = some (.invokevirtual 110, 3) := by decide +kernel
theorem I58_110 : pgIi 58 110 = some (48, 1, 4) := by decide +kernel
theorem D58_134 : pgDecT 58 134 = some (.ifCond .eq 7, 3) := by decide +kernel
theorem D58_141 : pgDecT 58 141 = some (.iconst 0, 1) := by decide +kernel
theorem D58_99 : pgDecT 58 99 = some (.aload_n 0, 1) := by decide +kernel
theorem D58_100 : pgDecT 58 100 = some (.getfield 26, 3) := by decide +kernel
theorem D58_103 : pgDecT 58 103 = some (.iload 5, 2) := by decide +kernel
theorem D58_105 : pgDecT 58 105 = some (.invokevirtual 110, 3) := by decide +kernel
theorem D58_108 : pgDecT 58 108 = some (.ifCond .eq 7, 3) := by decide +kernel
theorem D58_115 : pgDecT 58 115 = some (.iconst 0, 1) := by decide +kernel
theorem D58_73 : pgDecT 58 73 = some (.aload_n 0, 1) := by decide +kernel
theorem D58_74 : pgDecT 58 74 = some (.getfield 26, 3) := by decide +kernel
theorem D58_77 : pgDecT 58 77 = some (.iload 4, 2) := by decide +kernel
theorem D58_79 : pgDecT 58 79 = some (.invokevirtual 110, 3) := by decide +kernel
theorem D58_82 : pgDecT 58 82 = some (.ifCond .eq 7, 3) := by decide +kernel
theorem D58_89 : pgDecT 58 89 = some (.iconst 0, 1) := by decide +kernel
theorem D58_33 : pgDecT 58 33 = some (.iload_n 2, 1) := by decide +kernel
theorem D58_34 : pgDecT 58 34 = some (.iconst 2, 1) := by decide +kernel
theorem D58_35 : pgDecT 58 35 = some (.if_icmp .ne 18, 3) := by decide +kernel
theorem D58_53 : pgDecT 58 53 = some (.iconst 0, 1) := by decide +kernel
theorem D58_38 : pgDecT 58 38 = some (.aload_n 0, 1) := by decide +kernel
theorem D58_39 : pgDecT 58 39 = some (.getfield 19, 3) := by decide +kernel
theorem D58_42 : pgDecT 58 42 = some (.iload_n 3, 1) := by decide +kernel
theorem D58_43 : pgDecT 58 43 = some (.invokevirtual 79, 3) := by decide +kernel
theorem D58_46 : pgDecT 58 46 = some (.ifCond .eq 7, 3) := by decide +kernel
theorem D58_214 : pgDecT 58 214 = some (.iload 7, 2) := by decide +kernel
theorem D58_216 : pgDecT 58 216 = some (.if_icmp .ge 27, 3) := by decide +kernel
theorem D58_243 : pgDecT 58 243 = some (.iload 8, 2) := by decide +kernel
theorem D58_245 : pgDecT 58 245 = some (.ifCond .eq 12, 3) := by decide +kernel
theorem D58_257 : pgDecT 58 257 = some (.iload 8, 2) := by decide +kernel
theorem D58_259 : pgDecT 58 259 = some (.ireturn, 1) := by decide +kernel
theorem D58_248 : pgDecT 58 248 = some (.aload_n 0, 1) := by decide +kernel
theorem D58_249 : pgDecT 58 249 = some (.getfield 19, 3) := by decide +kernel
theorem D58_252 : pgDecT 58 252 = some (.iload_n 1, 1) := by decide +kernel
theorem D58_253 : pgDecT 58 253 = some (.iload_n 2, 1) := by decide +kernel
theorem D58_254 : pgDecT 58 254 = some (.invokevirtual 134, 3) := by decide +kernel
theorem I58_134 : pgIi 58 134 = some (124, 2, 1) := by decide +kernel
theorem D58_219 : pgDecT 58 219 = some (.iload 8, 2) := by decide +kernel
theorem D58_221 : pgDecT 58 221 = some (.ifCond .ne 22, 3) := by decide +kernel
theorem D58_224 : pgDecT 58 224 = some (.aload_n 0, 1) := by decide +kernel
theorem D58_225 : pgDecT 58 225 = some (.getfield 50, 3) := by decide +kernel
theorem F58_50 : pgFf 58 50 = some (11, 4, 3) := by decide +kernel
theorem D58_228 : pgDecT 58 228 = some (.iload_n 1, 1) := by decide +kernel
theorem D58_229 : pgDecT 58 229 = some (.iload_n 2, 1) := by decide +kernel
theorem D58_230 : pgDecT 58 230 = some (.iload 9, 2) := by decide +kernel
theorem D58_232 : pgDecT 58 232 = some (.invokevirtual 131, 3) := by decide +kernel
theorem I58_131 : pgIi 58 131 = some (63, 3, 0) := by decide +kernel
theorem D58_235 : pgDecT 58 235 = some (.istore 8, 2) := by decide +kernel
theorem D58_237 : pgDecT 58 237 = some (.iinc 9 1, 3) := by decide +kernel
theorem D58_240 : pgDecT 58 240 = some (.goto (-28), 3) := by decide +kernel
/-! 58: DictionaryHouse.instance (IIIIII)I -/
def l58 : Nat → Nat → Mm → Int → Int → Int → Int → Int → Int → Int → Int → Int → Option (Int × Int × Mm)
  | 0, _, _, _, _, _, _, _, _, _, _, _ => none
  | f + 1, 24, M, x1, x2, x3, x4, x5, x6, _, _, _ => some (1, 0, M)
  | f + 1, 28, M, x1, x2, x3, x4, x5, x6, _, _, _ => if x3 = (-1) then (l58 f 49 M x1 x2 x3 x4 x5 x6 0 0 0) else (if ¬ x2 = 2 then (l58 f 53 M x1 x2 x3 x4 x5 x6 0 0 0) else (f26 M x3).bind (fun q14 => if q14 = 0 then (l58 f 53 M x1 x2 x3 x4 x5 x6 0 0 0) else (l58 f 49 M x1 x2 x3 x4 x5 x6 0 0 0)))
  | f + 1, 49, M, x1, x2, x3, x4, x5, x6, _, _, _ => l58 f 57 M x1 x2 x3 x4 x5 x6 0 0 0
  | f + 1, 53, M, x1, x2, x3, x4, x5, x6, _, _, _ => some (1, 0, M)
  | f + 1, 57, M, x1, x2, x3, x4, x5, x6, _, _, _ => (f32 M x1).bind (fun q22 => if q22 < 1 then (l58 f 85 M x1 x2 x3 x4 x5 x6 q22 0 0) else (f48 M x4).bind (fun q28 => if q28 = 0 then (some (1, 0, M)) else (l58 f 85 M x1 x2 x3 x4 x5 x6 q22 0 0)))
  | f + 1, 85, M, x1, x2, x3, x4, x5, x6, x7, _, _ => l58 f 93 M x1 x2 x3 x4 x5 x6 x7 0 0
  | f + 1, 93, M, x1, x2, x3, x4, x5, x6, x7, _, _ => if x7 < 2 then (l58 f 111 M x1 x2 x3 x4 x5 x6 x7 0 0) else (f48 M x5).bind (fun q37 => if q37 = 0 then (some (1, 0, M)) else (l58 f 111 M x1 x2 x3 x4 x5 x6 x7 0 0))
  | f + 1, 111, M, x1, x2, x3, x4, x5, x6, x7, _, _ => l58 f 119 M x1 x2 x3 x4 x5 x6 x7 0 0
  | f + 1, 119, M, x1, x2, x3, x4, x5, x6, x7, _, _ => if x7 < 3 then (l58 f 137 M x1 x2 x3 x4 x5 x6 x7 0 0) else (f48 M x6).bind (fun q46 => if q46 = 0 then (some (1, 0, M)) else (l58 f 137 M x1 x2 x3 x4 x5 x6 x7 0 0))
  | f + 1, 137, M, x1, x2, x3, x4, x5, x6, x7, _, _ => l58 f 145 M x1 x2 x3 x4 x5 x6 x7 0 0
  | f + 1, 145, M, x1, x2, x3, x4, x5, x6, x7, _, _ => (f34 M x1 x2).bind (fun q54 => if ¬ q54 = 0 then (some (2, 0, M)) else (l58 f 165 M x1 x2 x3 x4 x5 x6 x7 0 0))
  | f + 1, 165, M, x1, x2, x3, x4, x5, x6, x7, _, _ => (f59 M x1 x2 x3).bind (fun q62 => if ¬ q62 = 0 then (f61 M x1 x2 x3).bind (fun zq68 => (f62 zq68.2 x1 x2 x4 x5 x6).bind (fun zq74 => l58 f 212 zq74.2 x1 x2 x3 x4 x5 x6 x7 0 0)) else (some (0, (-5), M)))
  | f + 1, 212, M, x1, x2, x3, x4, x5, x6, x7, x8, x9 => if x7 ≤ x9 then (l58 f 243 M x1 x2 x3 x4 x5 x6 x7 x8 x9) else (if ¬ x8 = 0 then (l58 f 243 M x1 x2 x3 x4 x5 x6 x7 x8 x9) else (f63 M x1 x2 x9).bind (fun zq82 => if rg (x9 + 1) then (l58 f 212 zq82.2 x1 x2 x3 x4 x5 x6 x7 zq82.1 (x9 + 1)) else none))
  | f + 1, 243, M, x1, x2, x3, x4, x5, x6, x7, x8, x9 => if x8 = 0 then (l58 f 257 M x1 x2 x3 x4 x5 x6 x7 x8 x9) else (f124 M x1 x2).bind (fun zq90 => l58 f 257 zq90.2 x1 x2 x3 x4 x5 x6 x7 x8 x9)
  | f + 1, 257, M, x1, x2, x3, x4, x5, x6, x7, x8, x9 => some (0, x8, M)
  | _, _, _, _, _, _, _, _, _, _, _, _ => none
theorem d58 {L : Nat} {xs : Nat → Int32} (f : Nat) : (∀ (M : Mm) (x1 x2 x3 x4 x5 x6 : Int) (h : mvH) (k v : Int) (M' : Mm), l58 f 24 M x1 x2 x3 x4 x5 x6 0 0 0 = some (k, v, M') → rp h M → rg x1 → rg x2 → rg x3 → rg x4 → rg x5 → rg x6 → evx L xs 9 58 24 [(0, .inr (.inr (.inl (some 0)))), (1, .inl (iz x1)), (2, .inl (iz x2)), (3, .inl (iz x3)), (4, .inl (iz x4)), (5, .inl (iz x5)), (6, .inl (iz x6))] [] h (ot k v) M') ∧ (∀ (M : Mm) (x1 x2 x3 x4 x5 x6 : Int) (h : mvH) (k v : Int) (M' : Mm), l58 f 28 M x1 x2 x3 x4 x5 x6 0 0 0 = some (k, v, M') → rp h M → rg x1 → rg x2 → rg x3 → rg x4 → rg x5 → rg x6 → evx L xs 9 58 28 [(0, .inr (.inr (.inl (some 0)))), (1, .inl (iz x1)), (2, .inl (iz x2)), (3, .inl (iz x3)), (4, .inl (iz x4)), (5, .inl (iz x5)), (6, .inl (iz x6))] [] h (ot k v) M') ∧ (∀ (M : Mm) (x1 x2 x3 x4 x5 x6 : Int) (h : mvH) (k v : Int) (M' : Mm), l58 f 49 M x1 x2 x3 x4 x5 x6 0 0 0 = some (k, v, M') → rp h M → rg x1 → rg x2 → rg x3 → rg x4 → rg x5 → rg x6 → evx L xs 9 58 49 [(0, .inr (.inr (.inl (some 0)))), (1, .inl (iz x1)), (2, .inl (iz x2)), (3, .inl (iz x3)), (4, .inl (iz x4)), (5, .inl (iz x5)), (6, .inl (iz x6))] [] h (ot k v) M') ∧ (∀ (M : Mm) (x1 x2 x3 x4 x5 x6 : Int) (h : mvH) (k v : Int) (M' : Mm), l58 f 53 M x1 x2 x3 x4 x5 x6 0 0 0 = some (k, v, M') → rp h M → rg x1 → rg x2 → rg x3 → rg x4 → rg x5 → rg x6 → evx L xs 9 58 53 [(0, .inr (.inr (.inl (some 0)))), (1, .inl (iz x1)), (2, .inl (iz x2)), (3, .inl (iz x3)), (4, .inl (iz x4)), (5, .inl (iz x5)), (6, .inl (iz x6))] [] h (ot k v) M') ∧ (∀ (M : Mm) (x1 x2 x3 x4 x5 x6 : Int) (h : mvH) (k v : Int) (M' : Mm), l58 f 57 M x1 x2 x3 x4 x5 x6 0 0 0 = some (k, v, M') → rp h M → rg x1 → rg x2 → rg x3 → rg x4 → rg x5 → rg x6 → evx L xs 9 58 57 [(0, .inr (.inr (.inl (some 0)))), (1, .inl (iz x1)), (2, .inl (iz x2)), (3, .inl (iz x3)), (4, .inl (iz x4)), (5, .inl (iz x5)), (6, .inl (iz x6))] [] h (ot k v) M') ∧ (∀ (M : Mm) (x1 x2 x3 x4 x5 x6 x7 : Int) (h : mvH) (k v : Int) (M' : Mm), l58 f 85 M x1 x2 x3 x4 x5 x6 x7 0 0 = some (k, v, M') → rp h M → rg x1 → rg x2 → rg x3 → rg x4 → rg x5 → rg x6 → rg x7 → evx L xs 9 58 85 [(0, .inr (.inr (.inl (some 0)))), (1, .inl (iz x1)), (2, .inl (iz x2)), (3, .inl (iz x3)), (4, .inl (iz x4)), (5, .inl (iz x5)), (6, .inl (iz x6)), (7, .inl (iz x7))] [] h (ot k v) M') ∧ (∀ (M : Mm) (x1 x2 x3 x4 x5 x6 x7 : Int) (h : mvH) (k v : Int) (M' : Mm), l58 f 93 M x1 x2 x3 x4 x5 x6 x7 0 0 = some (k, v, M') → rp h M → rg x1 → rg x2 → rg x3 → rg x4 → rg x5 → rg x6 → rg x7 → evx L xs 9 58 93 [(0, .inr (.inr (.inl (some 0)))), (1, .inl (iz x1)), (2, .inl (iz x2)), (3, .inl (iz x3)), (4, .inl (iz x4)), (5, .inl (iz x5)), (6, .inl (iz x6)), (7, .inl (iz x7))] [] h (ot k v) M') ∧ (∀ (M : Mm) (x1 x2 x3 x4 x5 x6 x7 : Int) (h : mvH) (k v : Int) (M' : Mm), l58 f 111 M x1 x2 x3 x4 x5 x6 x7 0 0 = some (k, v, M') → rp h M → rg x1 → rg x2 → rg x3 → rg x4 → rg x5 → rg x6 → rg x7 → evx L xs 9 58 111 [(0, .inr (.inr (.inl (some 0)))), (1, .inl (iz x1)), (2, .inl (iz x2)), (3, .inl (iz x3)), (4, .inl (iz x4)), (5, .inl (iz x5)), (6, .inl (iz x6)), (7, .inl (iz x7))] [] h (ot k v) M') ∧ (∀ (M : Mm) (x1 x2 x3 x4 x5 x6 x7 : Int) (h : mvH) (k v : Int) (M' : Mm), l58 f 119 M x1 x2 x3 x4 x5 x6 x7 0 0 = some (k, v, M') → rp h M → rg x1 → rg x2 → rg x3 → rg x4 → rg x5 → rg x6 → rg x7 → evx L xs 9 58 119 [(0, .inr (.inr (.inl (some 0)))), (1, .inl (iz x1)), (2, .inl (iz x2)), (3, .inl (iz x3)), (4, .inl (iz x4)), (5, .inl (iz x5)), (6, .inl (iz x6)), (7, .inl (iz x7))] [] h (ot k v) M') ∧ (∀ (M : Mm) (x1 x2 x3 x4 x5 x6 x7 : Int) (h : mvH) (k v : Int) (M' : Mm), l58 f 137 M x1 x2 x3 x4 x5 x6 x7 0 0 = some (k, v, M') → rp h M → rg x1 → rg x2 → rg x3 → rg x4 → rg x5 → rg x6 → rg x7 → evx L xs 9 58 137 [(0, .inr (.inr (.inl (some 0)))), (1, .inl (iz x1)), (2, .inl (iz x2)), (3, .inl (iz x3)), (4, .inl (iz x4)), (5, .inl (iz x5)), (6, .inl (iz x6)), (7, .inl (iz x7))] [] h (ot k v) M') ∧ (∀ (M : Mm) (x1 x2 x3 x4 x5 x6 x7 : Int) (h : mvH) (k v : Int) (M' : Mm), l58 f 145 M x1 x2 x3 x4 x5 x6 x7 0 0 = some (k, v, M') → rp h M → rg x1 → rg x2 → rg x3 → rg x4 → rg x5 → rg x6 → rg x7 → evx L xs 9 58 145 [(0, .inr (.inr (.inl (some 0)))), (1, .inl (iz x1)), (2, .inl (iz x2)), (3, .inl (iz x3)), (4, .inl (iz x4)), (5, .inl (iz x5)), (6, .inl (iz x6)), (7, .inl (iz x7))] [] h (ot k v) M') ∧ (∀ (M : Mm) (x1 x2 x3 x4 x5 x6 x7 : Int) (h : mvH) (k v : Int) (M' : Mm), l58 f 165 M x1 x2 x3 x4 x5 x6 x7 0 0 = some (k, v, M') → rp h M → rg x1 → rg x2 → rg x3 → rg x4 → rg x5 → rg x6 → rg x7 → evx L xs 9 58 165 [(0, .inr (.inr (.inl (some 0)))), (1, .inl (iz x1)), (2, .inl (iz x2)), (3, .inl (iz x3)), (4, .inl (iz x4)), (5, .inl (iz x5)), (6, .inl (iz x6)), (7, .inl (iz x7))] [] h (ot k v) M') ∧ (∀ (M : Mm) (x1 x2 x3 x4 x5 x6 x7 x8 x9 : Int) (h : mvH) (k v : Int) (M' : Mm), l58 f 212 M x1 x2 x3 x4 x5 x6 x7 x8 x9 = some (k, v, M') → rp h M → rg x1 → rg x2 → rg x3 → rg x4 → rg x5 → rg x6 → rg x7 → rg x8 → rg x9 → evx L xs 9 58 212 [(0, .inr (.inr (.inl (some 0)))), (1, .inl (iz x1)), (2, .inl (iz x2)), (3, .inl (iz x3)), (4, .inl (iz x4)), (5, .inl (iz x5)), (6, .inl (iz x6)), (7, .inl (iz x7)), (8, .inl (iz x8)), (9, .inl (iz x9))] [] h (ot k v) M') ∧ (∀ (M : Mm) (x1 x2 x3 x4 x5 x6 x7 x8 x9 : Int) (h : mvH) (k v : Int) (M' : Mm), l58 f 243 M x1 x2 x3 x4 x5 x6 x7 x8 x9 = some (k, v, M') → rp h M → rg x1 → rg x2 → rg x3 → rg x4 → rg x5 → rg x6 → rg x7 → rg x8 → rg x9 → evx L xs 9 58 243 [(0, .inr (.inr (.inl (some 0)))), (1, .inl (iz x1)), (2, .inl (iz x2)), (3, .inl (iz x3)), (4, .inl (iz x4)), (5, .inl (iz x5)), (6, .inl (iz x6)), (7, .inl (iz x7)), (8, .inl (iz x8)), (9, .inl (iz x9))] [] h (ot k v) M') ∧ (∀ (M : Mm) (x1 x2 x3 x4 x5 x6 x7 x8 x9 : Int) (h : mvH) (k v : Int) (M' : Mm), l58 f 257 M x1 x2 x3 x4 x5 x6 x7 x8 x9 = some (k, v, M') → rp h M → rg x1 → rg x2 → rg x3 → rg x4 → rg x5 → rg x6 → rg x7 → rg x8 → rg x9 → evx L xs 9 58 257 [(0, .inr (.inr (.inl (some 0)))), (1, .inl (iz x1)), (2, .inl (iz x2)), (3, .inl (iz x3)), (4, .inl (iz x4)), (5, .inl (iz x5)), (6, .inl (iz x6)), (7, .inl (iz x7)), (8, .inl (iz x8)), (9, .inl (iz x9))] [] h (ot k v) M') := by
  induction f with
  | zero => exact ⟨(fun M x1 x2 x3 x4 x5 x6 h k v M' hs _ _ _ _ _ _ _ => by cases hs), (fun M x1 x2 x3 x4 x5 x6 h k v M' hs _ _ _ _ _ _ _ => by cases hs), (fun M x1 x2 x3 x4 x5 x6 h k v M' hs _ _ _ _ _ _ _ => by cases hs), (fun M x1 x2 x3 x4 x5 x6 h k v M' hs _ _ _ _ _ _ _ => by cases hs), (fun M x1 x2 x3 x4 x5 x6 h k v M' hs _ _ _ _ _ _ _ => by cases hs), (fun M x1 x2 x3 x4 x5 x6 x7 h k v M' hs _ _ _ _ _ _ _ _ => by cases hs), (fun M x1 x2 x3 x4 x5 x6 x7 h k v M' hs _ _ _ _ _ _ _ _ => by cases hs), (fun M x1 x2 x3 x4 x5 x6 x7 h k v M' hs _ _ _ _ _ _ _ _ => by cases hs), (fun M x1 x2 x3 x4 x5 x6 x7 h k v M' hs _ _ _ _ _ _ _ _ => by cases hs), (fun M x1 x2 x3 x4 x5 x6 x7 h k v M' hs _ _ _ _ _ _ _ _ => by cases hs), (fun M x1 x2 x3 x4 x5 x6 x7 h k v M' hs _ _ _ _ _ _ _ _ => by cases hs), (fun M x1 x2 x3 x4 x5 x6 x7 h k v M' hs _ _ _ _ _ _ _ _ => by cases hs), (fun M x1 x2 x3 x4 x5 x6 x7 x8 x9 h k v M' hs _ _ _ _ _ _ _ _ _ _ => by cases hs), (fun M x1 x2 x3 x4 x5 x6 x7 x8 x9 h k v M' hs _ _ _ _ _ _ _ _ _ _ => by cases hs), (fun M x1 x2 x3 x4 x5 x6 x7 x8 x9 h k v M' hs _ _ _ _ _ _ _ _ _ _ => by cases hs)⟩
  | succ f ih =>
    refine ⟨?_, ?_, ?_, ?_, ?_, ?_, ?_, ?_, ?_, ?_, ?_, ?_, ?_, ?_, ?_⟩
    · intro M x1 x2 x3 x4 x5 x6 h k v M' hs R rx1 rx2 rx3 rx4 rx5 rx6
      rw [l58] at hs
      refine evx_F E58 D58_24 rfl rfl ?_
      cases hs
      exact evx_rqF (b := true) E58 D58_25 I58_67 (Nat.le_of_ble_eq_true rfl) rfl (Nat.le_of_ble_eq_true rfl) rfl rfl rfl R
    · intro M x1 x2 x3 x4 x5 x6 h k v M' hs R rx1 rx2 rx3 rx4 rx5 rx6
      rw [l58] at hs
      refine evx_F E58 D58_28 rfl rfl ?_
      refine evx_F E58 D58_29 rfl rfl ?_
      by_cases cb11 : x3 = (-1)
      · rw [if_pos cb11] at hs
        refine evx_F E58 D58_30 rfl (ifT (c2_eq_T rx3 (by decide) cb11)) ?_
        show evx _ _ _ _ _ [(0, .inr (.inr (.inl (some 0)))), (1, .inl (iz x1)), (2, .inl (iz x2)), (3, .inl (iz x3)), (4, .inl (iz x4)), (5, .inl (iz x5)), (6, .inl (iz x6))] _ _ _ _
        exact evx_lv (lvLe_mk (fm rfl (fm rfl (fm rfl (fm rfl (fm rfl (fm rfl (fm rfl fn))))))) (fm rfl (fm rfl (fm rfl (fm rfl (fm rfl (fm rfl (fm rfl fn))))))) (fm rfl (fm rfl (fm rfl (fm rfl (fm rfl (fm rfl (fm rfl fn)))))))) (ih.2.2.1 _ _ _ _ _ _ _ _ _ _ _ hs R rx1 rx2 rx3 rx4 rx5 rx6)
      · rw [if_neg cb11] at hs
        refine evx_F E58 D58_30 rfl (ifF (c2_eq_F rx3 (by decide) (by omega))) ?_
        refine evx_F E58 D58_33 rfl rfl ?_
        refine evx_F E58 D58_34 rfl rfl ?_
        by_cases cb12 : ¬ x2 = 2
        · rw [if_pos cb12] at hs
          refine evx_F E58 D58_35 rfl (ifT (c2_ne_T rx2 (by decide) cb12)) ?_
          show evx _ _ _ _ _ [(0, .inr (.inr (.inl (some 0)))), (1, .inl (iz x1)), (2, .inl (iz x2)), (3, .inl (iz x3)), (4, .inl (iz x4)), (5, .inl (iz x5)), (6, .inl (iz x6))] _ _ _ _
          exact evx_lv (lvLe_mk (fm rfl (fm rfl (fm rfl (fm rfl (fm rfl (fm rfl (fm rfl fn))))))) (fm rfl (fm rfl (fm rfl (fm rfl (fm rfl (fm rfl (fm rfl fn))))))) (fm rfl (fm rfl (fm rfl (fm rfl (fm rfl (fm rfl (fm rfl fn)))))))) (ih.2.2.2.1 _ _ _ _ _ _ _ _ _ _ _ hs R rx1 rx2 rx3 rx4 rx5 rx6)
        · rw [if_neg cb12] at hs
          refine evx_F E58 D58_35 rfl (ifF (c2_ne_F rx2 (by decide) (by omega))) ?_
          refine evx_F E58 D58_38 rfl rfl ?_
          refine evx_gfr E58 D58_39 F58_19 H0 rfl R ?_
          refine evx_F E58 D58_42 rfl rfl ?_
          obtain ⟨q14, e13, hs⟩ := Option.bind_eq_some_iff.mp hs
          refine evx_cv (D := 8) E58 D58_43 I58_79 rfl rfl H5 ⟨Nat.le_of_ble_eq_true rfl, Nat.le_of_ble_eq_true rfl⟩ ⟨rfl, Nat.le_of_ble_eq_true rfl⟩ rfl R (evx_up (Nat.le_of_ble_eq_true rfl) (c26 R rx3 e13)) ?_
          intro h15 R16 w17
          have w17 : rg q14 := w17
          show evx _ _ _ _ _ _ (.inl (iz q14) :: _) _ _ _
          by_cases cb18 : q14 = 0
          · rw [if_pos cb18] at hs
            refine evx_F E58 D58_46 rfl (ifT (c1_eq_T w17 cb18)) ?_
            show evx _ _ _ _ _ [(0, .inr (.inr (.inl (some 0)))), (1, .inl (iz x1)), (2, .inl (iz x2)), (3, .inl (iz x3)), (4, .inl (iz x4)), (5, .inl (iz x5)), (6, .inl (iz x6))] _ _ _ _
            exact evx_lv (lvLe_mk (fm rfl (fm rfl (fm rfl (fm rfl (fm rfl (fm rfl (fm rfl fn))))))) (fm rfl (fm rfl (fm rfl (fm rfl (fm rfl (fm rfl (fm rfl fn))))))) (fm rfl (fm rfl (fm rfl (fm rfl (fm rfl (fm rfl (fm rfl fn)))))))) (ih.2.2.2.1 _ _ _ _ _ _ _ _ _ _ _ hs R16 rx1 rx2 rx3 rx4 rx5 rx6)
          · rw [if_neg cb18] at hs
            refine evx_F E58 D58_46 rfl (ifF (c1_eq_F w17 (by omega))) ?_
            show evx _ _ _ _ _ [(0, .inr (.inr (.inl (some 0)))), (1, .inl (iz x1)), (2, .inl (iz x2)), (3, .inl (iz x3)), (4, .inl (iz x4)), (5, .inl (iz x5)), (6, .inl (iz x6))] _ _ _ _
            exact evx_lv (lvLe_mk (fm rfl (fm rfl (fm rfl (fm rfl (fm rfl (fm rfl (fm rfl fn))))))) (fm rfl (fm rfl (fm rfl (fm rfl (fm rfl (fm rfl (fm rfl fn))))))) (fm rfl (fm rfl (fm rfl (fm rfl (fm rfl (fm rfl (fm rfl fn)))))))) (ih.2.2.1 _ _ _ _ _ _ _ _ _ _ _ hs R16 rx1 rx2 rx3 rx4 rx5 rx6)
    · intro M x1 x2 x3 x4 x5 x6 h k v M' hs R rx1 rx2 rx3 rx4 rx5 rx6
      rw [l58] at hs
      refine evx_F E58 D58_49 rfl rfl ?_
      refine evx_F E58 D58_50 rfl rfl ?_
      refine evx_rqT (b := true) E58 D58_54 I58_67 (Nat.le_of_ble_eq_true rfl) rfl (Nat.le_of_ble_eq_true rfl) (by decide) (by decide) ?_
      show evx _ _ _ _ _ [(0, .inr (.inr (.inl (some 0)))), (1, .inl (iz x1)), (2, .inl (iz x2)), (3, .inl (iz x3)), (4, .inl (iz x4)), (5, .inl (iz x5)), (6, .inl (iz x6))] _ _ _ _
      exact evx_lv (lvLe_mk (fm rfl (fm rfl (fm rfl (fm rfl (fm rfl (fm rfl (fm rfl fn))))))) (fm rfl (fm rfl (fm rfl (fm rfl (fm rfl (fm rfl (fm rfl fn))))))) (fm rfl (fm rfl (fm rfl (fm rfl (fm rfl (fm rfl (fm rfl fn)))))))) (ih.2.2.2.2.1 _ _ _ _ _ _ _ _ _ _ _ hs R rx1 rx2 rx3 rx4 rx5 rx6)
    · intro M x1 x2 x3 x4 x5 x6 h k v M' hs R rx1 rx2 rx3 rx4 rx5 rx6
      rw [l58] at hs
      refine evx_F E58 D58_53 rfl rfl ?_
      cases hs
      exact evx_rqF (b := true) E58 D58_54 I58_67 (Nat.le_of_ble_eq_true rfl) rfl (Nat.le_of_ble_eq_true rfl) rfl rfl rfl R
    · intro M x1 x2 x3 x4 x5 x6 h k v M' hs R rx1 rx2 rx3 rx4 rx5 rx6
      rw [l58] at hs
      refine evx_F E58 D58_57 rfl rfl ?_
      refine evx_gfr E58 D58_58 F58_19 H0 rfl R ?_
      refine evx_F E58 D58_61 rfl rfl ?_
      obtain ⟨q22, e21, hs⟩ := Option.bind_eq_some_iff.mp hs
      refine evx_cv (D := 8) E58 D58_62 I58_93 rfl rfl H5 ⟨Nat.le_of_ble_eq_true rfl, Nat.le_of_ble_eq_true rfl⟩ ⟨rfl, Nat.le_of_ble_eq_true rfl⟩ rfl R (evx_up (Nat.le_of_ble_eq_true rfl) (c32 R rx1 e21)) ?_
      intro h23 R24 w25
      have w25 : rg q22 := w25
      show evx _ _ _ _ _ _ (.inl (iz q22) :: _) _ _ _
      refine evx_F E58 D58_65 rfl rfl ?_
      refine evx_F E58 D58_67 rfl rfl ?_
      refine evx_F E58 D58_69 rfl rfl ?_
      by_cases cb26 : q22 < 1
      · rw [if_pos cb26] at hs
        refine evx_F E58 D58_70 rfl (ifT (c2_lt_T w25 (by decide) cb26)) ?_
        show evx _ _ _ _ _ [(7, .inl (iz q22)), (0, .inr (.inr (.inl (some 0)))), (1, .inl (iz x1)), (2, .inl (iz x2)), (3, .inl (iz x3)), (4, .inl (iz x4)), (5, .inl (iz x5)), (6, .inl (iz x6))] _ _ _ _
        exact evx_lv (lvLe_mk (fm rfl (fm rfl (fm rfl (fm rfl (fm rfl (fm rfl (fm rfl (fm rfl fn)))))))) (fm rfl (fm rfl (fm rfl (fm rfl (fm rfl (fm rfl (fm rfl (fm rfl fn)))))))) (fm rfl (fm rfl (fm rfl (fm rfl (fm rfl (fm rfl (fm rfl (fm rfl fn))))))))) (ih.2.2.2.2.2.1 _ _ _ _ _ _ _ _ _ _ _ _ hs R24 rx1 rx2 rx3 rx4 rx5 rx6 w25)
      · rw [if_neg cb26] at hs
        refine evx_F E58 D58_70 rfl (ifF (c2_lt_F w25 (by decide) (by omega))) ?_
        refine evx_F E58 D58_73 rfl rfl ?_
        refine evx_gfr E58 D58_74 F58_26 H0 rfl R24 ?_
        refine evx_F E58 D58_77 rfl rfl ?_
        obtain ⟨q28, e27, hs⟩ := Option.bind_eq_some_iff.mp hs
        refine evx_cv (D := 8) E58 D58_79 I58_110 rfl rfl H12 ⟨Nat.le_of_ble_eq_true rfl, Nat.le_of_ble_eq_true rfl⟩ ⟨rfl, Nat.le_of_ble_eq_true rfl⟩ rfl R24 (evx_up (Nat.le_of_ble_eq_true rfl) (c48 R24 rx4 e27)) ?_
        intro h29 R30 w31
        have w31 : rg q28 := w31
        show evx _ _ _ _ _ _ (.inl (iz q28) :: _) _ _ _
        by_cases cb32 : q28 = 0
        · rw [if_pos cb32] at hs
          refine evx_F E58 D58_82 rfl (ifT (c1_eq_T w31 cb32)) ?_
          refine evx_F E58 D58_89 rfl rfl ?_
          cases hs
          exact evx_rqF (b := true) E58 D58_90 I58_67 (Nat.le_of_ble_eq_true rfl) rfl (Nat.le_of_ble_eq_true rfl) rfl rfl rfl R30
        · rw [if_neg cb32] at hs
          refine evx_F E58 D58_82 rfl (ifF (c1_eq_F w31 (by omega))) ?_
          show evx _ _ _ _ _ [(7, .inl (iz q22)), (0, .inr (.inr (.inl (some 0)))), (1, .inl (iz x1)), (2, .inl (iz x2)), (3, .inl (iz x3)), (4, .inl (iz x4)), (5, .inl (iz x5)), (6, .inl (iz x6))] _ _ _ _
          exact evx_lv (lvLe_mk (fm rfl (fm rfl (fm rfl (fm rfl (fm rfl (fm rfl (fm rfl (fm rfl fn)))))))) (fm rfl (fm rfl (fm rfl (fm rfl (fm rfl (fm rfl (fm rfl (fm rfl fn)))))))) (fm rfl (fm rfl (fm rfl (fm rfl (fm rfl (fm rfl (fm rfl (fm rfl fn))))))))) (ih.2.2.2.2.2.1 _ _ _ _ _ _ _ _ _ _ _ _ hs R30 rx1 rx2 rx3 rx4 rx5 rx6 w25)
    · intro M x1 x2 x3 x4 x5 x6 x7 h k v M' hs R rx1 rx2 rx3 rx4 rx5 rx6 rx7
      rw [l58] at hs
      refine evx_F E58 D58_85 rfl rfl ?_
      refine evx_F E58 D58_86 rfl rfl ?_
      refine evx_rqT (b := true) E58 D58_90 I58_67 (Nat.le_of_ble_eq_true rfl) rfl (Nat.le_of_ble_eq_true rfl) (by decide) (by decide) ?_
      show evx _ _ _ _ _ [(0, .inr (.inr (.inl (some 0)))), (1, .inl (iz x1)), (2, .inl (iz x2)), (3, .inl (iz x3)), (4, .inl (iz x4)), (5, .inl (iz x5)), (6, .inl (iz x6)), (7, .inl (iz x7))] _ _ _ _
      exact evx_lv (lvLe_mk (fm rfl (fm rfl (fm rfl (fm rfl (fm rfl (fm rfl (fm rfl (fm rfl fn)))))))) (fm rfl (fm rfl (fm rfl (fm rfl (fm rfl (fm rfl (fm rfl (fm rfl fn)))))))) (fm rfl (fm rfl (fm rfl (fm rfl (fm rfl (fm rfl (fm rfl (fm rfl fn))))))))) (ih.2.2.2.2.2.2.1 _ _ _ _ _ _ _ _ _ _ _ _ hs R rx1 rx2 rx3 rx4 rx5 rx6 rx7)
    · intro M x1 x2 x3 x4 x5 x6 x7 h k v M' hs R rx1 rx2 rx3 rx4 rx5 rx6 rx7
      rw [l58] at hs
      refine evx_F E58 D58_93 rfl rfl ?_
      refine evx_F E58 D58_95 rfl rfl ?_
      by_cases cb35 : x7 < 2
      · rw [if_pos cb35] at hs
        refine evx_F E58 D58_96 rfl (ifT (c2_lt_T rx7 (by decide) cb35)) ?_
        show evx _ _ _ _ _ [(0, .inr (.inr (.inl (some 0)))), (1, .inl (iz x1)), (2, .inl (iz x2)), (3, .inl (iz x3)), (4, .inl (iz x4)), (5, .inl (iz x5)), (6, .inl (iz x6)), (7, .inl (iz x7))] _ _ _ _
        exact evx_lv (lvLe_mk (fm rfl (fm rfl (fm rfl (fm rfl (fm rfl (fm rfl (fm rfl (fm rfl fn)))))))) (fm rfl (fm rfl (fm rfl (fm rfl (fm rfl (fm rfl (fm rfl (fm rfl fn)))))))) (fm rfl (fm rfl (fm rfl (fm rfl (fm rfl (fm rfl (fm rfl (fm rfl fn))))))))) (ih.2.2.2.2.2.2.2.1 _ _ _ _ _ _ _ _ _ _ _ _ hs R rx1 rx2 rx3 rx4 rx5 rx6 rx7)
      · rw [if_neg cb35] at hs
        refine evx_F E58 D58_96 rfl (ifF (c2_lt_F rx7 (by decide) (by omega))) ?_
        refine evx_F E58 D58_99 rfl rfl ?_
        refine evx_gfr E58 D58_100 F58_26 H0 rfl R ?_
        refine evx_F E58 D58_103 rfl rfl ?_
        obtain ⟨q37, e36, hs⟩ := Option.bind_eq_some_iff.mp hs
        refine evx_cv (D := 8) E58 D58_105 I58_110 rfl rfl H12 ⟨Nat.le_of_ble_eq_true rfl, Nat.le_of_ble_eq_true rfl⟩ ⟨rfl, Nat.le_of_ble_eq_true rfl⟩ rfl R (evx_up (Nat.le_of_ble_eq_true rfl) (c48 R rx5 e36)) ?_
        intro h38 R39 w40
        have w40 : rg q37 := w40
        show evx _ _ _ _ _ _ (.inl (iz q37) :: _) _ _ _
        by_cases cb41 : q37 = 0
        · rw [if_pos cb41] at hs
          refine evx_F E58 D58_108 rfl (ifT (c1_eq_T w40 cb41)) ?_
          refine evx_F E58 D58_115 rfl rfl ?_
          cases hs
          exact evx_rqF (b := true) E58 D58_116 I58_67 (Nat.le_of_ble_eq_true rfl) rfl (Nat.le_of_ble_eq_true rfl) rfl rfl rfl R39
        · rw [if_neg cb41] at hs
          refine evx_F E58 D58_108 rfl (ifF (c1_eq_F w40 (by omega))) ?_
          show evx _ _ _ _ _ [(0, .inr (.inr (.inl (some 0)))), (1, .inl (iz x1)), (2, .inl (iz x2)), (3, .inl (iz x3)), (4, .inl (iz x4)), (5, .inl (iz x5)), (6, .inl (iz x6)), (7, .inl (iz x7))] _ _ _ _
          exact evx_lv (lvLe_mk (fm rfl (fm rfl (fm rfl (fm rfl (fm rfl (fm rfl (fm rfl (fm rfl fn)))))))) (fm rfl (fm rfl (fm rfl (fm rfl (fm rfl (fm rfl (fm rfl (fm rfl fn)))))))) (fm rfl (fm rfl (fm rfl (fm rfl (fm rfl (fm rfl (fm rfl (fm rfl fn))))))))) (ih.2.2.2.2.2.2.2.1 _ _ _ _ _ _ _ _ _ _ _ _ hs R39 rx1 rx2 rx3 rx4 rx5 rx6 rx7)
    · intro M x1 x2 x3 x4 x5 x6 x7 h k v M' hs R rx1 rx2 rx3 rx4 rx5 rx6 rx7
      rw [l58] at hs
      refine evx_F E58 D58_111 rfl rfl ?_
      refine evx_F E58 D58_112 rfl rfl ?_
      refine evx_rqT (b := true) E58 D58_116 I58_67 (Nat.le_of_ble_eq_true rfl) rfl (Nat.le_of_ble_eq_true rfl) (by decide) (by decide) ?_
      show evx _ _ _ _ _ [(0, .inr (.inr (.inl (some 0)))), (1, .inl (iz x1)), (2, .inl (iz x2)), (3, .inl (iz x3)), (4, .inl (iz x4)), (5, .inl (iz x5)), (6, .inl (iz x6)), (7, .inl (iz x7))] _ _ _ _
      exact evx_lv (lvLe_mk (fm rfl (fm rfl (fm rfl (fm rfl (fm rfl (fm rfl (fm rfl (fm rfl fn)))))))) (fm rfl (fm rfl (fm rfl (fm rfl (fm rfl (fm rfl (fm rfl (fm rfl fn)))))))) (fm rfl (fm rfl (fm rfl (fm rfl (fm rfl (fm rfl (fm rfl (fm rfl fn))))))))) (ih.2.2.2.2.2.2.2.2.1 _ _ _ _ _ _ _ _ _ _ _ _ hs R rx1 rx2 rx3 rx4 rx5 rx6 rx7)
    · intro M x1 x2 x3 x4 x5 x6 x7 h k v M' hs R rx1 rx2 rx3 rx4 rx5 rx6 rx7
      rw [l58] at hs
      refine evx_F E58 D58_119 rfl rfl ?_
      refine evx_F E58 D58_121 rfl rfl ?_
      by_cases cb44 : x7 < 3
      · rw [if_pos cb44] at hs
        refine evx_F E58 D58_122 rfl (ifT (c2_lt_T rx7 (by decide) cb44)) ?_
        show evx _ _ _ _ _ [(0, .inr (.inr (.inl (some 0)))), (1, .inl (iz x1)), (2, .inl (iz x2)), (3, .inl (iz x3)), (4, .inl (iz x4)), (5, .inl (iz x5)), (6, .inl (iz x6)), (7, .inl (iz x7))] _ _ _ _
        exact evx_lv (lvLe_mk (fm rfl (fm rfl (fm rfl (fm rfl (fm rfl (fm rfl (fm rfl (fm rfl fn)))))))) (fm rfl (fm rfl (fm rfl (fm rfl (fm rfl (fm rfl (fm rfl (fm rfl fn)))))))) (fm rfl (fm rfl (fm rfl (fm rfl (fm rfl (fm rfl (fm rfl (fm rfl fn))))))))) (ih.2.2.2.2.2.2.2.2.2.1 _ _ _ _ _ _ _ _ _ _ _ _ hs R rx1 rx2 rx3 rx4 rx5 rx6 rx7)
      · rw [if_neg cb44] at hs
        refine evx_F E58 D58_122 rfl (ifF (c2_lt_F rx7 (by decide) (by omega))) ?_
        refine evx_F E58 D58_125 rfl rfl ?_
        refine evx_gfr E58 D58_126 F58_26 H0 rfl R ?_
        refine evx_F E58 D58_129 rfl rfl ?_
        obtain ⟨q46, e45, hs⟩ := Option.bind_eq_some_iff.mp hs
        refine evx_cv (D := 8) E58 D58_131 I58_110 rfl rfl H12 ⟨Nat.le_of_ble_eq_true rfl, Nat.le_of_ble_eq_true rfl⟩ ⟨rfl, Nat.le_of_ble_eq_true rfl⟩ rfl R (evx_up (Nat.le_of_ble_eq_true rfl) (c48 R rx6 e45)) ?_
        intro h47 R48 w49
        have w49 : rg q46 := w49
        show evx _ _ _ _ _ _ (.inl (iz q46) :: _) _ _ _
        by_cases cb50 : q46 = 0
        · rw [if_pos cb50] at hs
          refine evx_F E58 D58_134 rfl (ifT (c1_eq_T w49 cb50)) ?_
          refine evx_F E58 D58_141 rfl rfl ?_
          cases hs
          exact evx_rqF (b := true) E58 D58_142 I58_67 (Nat.le_of_ble_eq_true rfl) rfl (Nat.le_of_ble_eq_true rfl) rfl rfl rfl R48
        · rw [if_neg cb50] at hs
          refine evx_F E58 D58_134 rfl (ifF (c1_eq_F w49 (by omega))) ?_
          show evx _ _ _ _ _ [(0, .inr (.inr (.inl (some 0)))), (1, .inl (iz x1)), (2, .inl (iz x2)), (3, .inl (iz x3)), (4, .inl (iz x4)), (5, .inl (iz x5)), (6, .inl (iz x6)), (7, .inl (iz x7))] _ _ _ _
          exact evx_lv (lvLe_mk (fm rfl (fm rfl (fm rfl (fm rfl (fm rfl (fm rfl (fm rfl (fm rfl fn)))))))) (fm rfl (fm rfl (fm rfl (fm rfl (fm rfl (fm rfl (fm rfl (fm rfl fn)))))))) (fm rfl (fm rfl (fm rfl (fm rfl (fm rfl (fm rfl (fm rfl (fm rfl fn))))))))) (ih.2.2.2.2.2.2.2.2.2.1 _ _ _ _ _ _ _ _ _ _ _ _ hs R48 rx1 rx2 rx3 rx4 rx5 rx6 rx7)
    · intro M x1 x2 x3 x4 x5 x6 x7 h k v M' hs R rx1 rx2 rx3 rx4 rx5 rx6 rx7
      rw [l58] at hs
      refine evx_F E58 D58_137 rfl rfl ?_
      refine evx_F E58 D58_138 rfl rfl ?_
      refine evx_rqT (b := true) E58 D58_142 I58_67 (Nat.le_of_ble_eq_true rfl) rfl (Nat.le_of_ble_eq_true rfl) (by decide) (by decide) ?_
      show evx _ _ _ _ _ [(0, .inr (.inr (.inl (some 0)))), (1, .inl (iz x1)), (2, .inl (iz x2)), (3, .inl (iz x3)), (4, .inl (iz x4)), (5, .inl (iz x5)), (6, .inl (iz x6)), (7, .inl (iz x7))] _ _ _ _
      exact evx_lv (lvLe_mk (fm rfl (fm rfl (fm rfl (fm rfl (fm rfl (fm rfl (fm rfl (fm rfl fn)))))))) (fm rfl (fm rfl (fm rfl (fm rfl (fm rfl (fm rfl (fm rfl (fm rfl fn)))))))) (fm rfl (fm rfl (fm rfl (fm rfl (fm rfl (fm rfl (fm rfl (fm rfl fn))))))))) (ih.2.2.2.2.2.2.2.2.2.2.1 _ _ _ _ _ _ _ _ _ _ _ _ hs R rx1 rx2 rx3 rx4 rx5 rx6 rx7)
    · intro M x1 x2 x3 x4 x5 x6 x7 h k v M' hs R rx1 rx2 rx3 rx4 rx5 rx6 rx7
      rw [l58] at hs
      refine evx_F E58 D58_145 rfl rfl ?_
      refine evx_gfr E58 D58_146 F58_19 H0 rfl R ?_
      refine evx_F E58 D58_149 rfl rfl ?_
      refine evx_F E58 D58_150 rfl rfl ?_
      obtain ⟨q54, e53, hs⟩ := Option.bind_eq_some_iff.mp hs
      refine evx_cv (D := 8) E58 D58_151 I58_116 rfl rfl H5 ⟨Nat.le_of_ble_eq_true rfl, Nat.le_of_ble_eq_true rfl⟩ ⟨rfl, Nat.le_of_ble_eq_true rfl⟩ rfl R (evx_up (Nat.le_of_ble_eq_true rfl) (c34 R rx1 rx2 e53)) ?_
      intro h55 R56 w57
      have w57 : rg q54 := w57
      show evx _ _ _ _ _ _ (.inl (iz q54) :: _) _ _ _
      by_cases cb58 : ¬ q54 = 0
      · rw [if_pos cb58] at hs
        refine evx_F E58 D58_154 rfl (ifT (c1_ne_T w57 cb58)) ?_
        refine evx_F E58 D58_161 rfl rfl ?_
        cases hs
        exact evx_rqF (b := false) E58 D58_162 I58_84 (Nat.le_of_ble_eq_true rfl) rfl (Nat.le_of_ble_eq_true rfl) rfl rfl rfl R56
      · rw [if_neg cb58] at hs
        refine evx_F E58 D58_154 rfl (ifF (c1_ne_F w57 (by omega))) ?_
        refine evx_F E58 D58_157 rfl rfl ?_
        refine evx_F E58 D58_158 rfl rfl ?_
        refine evx_rqT (b := false) E58 D58_162 I58_84 (Nat.le_of_ble_eq_true rfl) rfl (Nat.le_of_ble_eq_true rfl) (by decide) (by decide) ?_
        show evx _ _ _ _ _ [(0, .inr (.inr (.inl (some 0)))), (1, .inl (iz x1)), (2, .inl (iz x2)), (3, .inl (iz x3)), (4, .inl (iz x4)), (5, .inl (iz x5)), (6, .inl (iz x6)), (7, .inl (iz x7))] _ _ _ _
        exact evx_lv (lvLe_mk (fm rfl (fm rfl (fm rfl (fm rfl (fm rfl (fm rfl (fm rfl (fm rfl fn)))))))) (fm rfl (fm rfl (fm rfl (fm rfl (fm rfl (fm rfl (fm rfl (fm rfl fn)))))))) (fm rfl (fm rfl (fm rfl (fm rfl (fm rfl (fm rfl (fm rfl (fm rfl fn))))))))) (ih.2.2.2.2.2.2.2.2.2.2.2.1 _ _ _ _ _ _ _ _ _ _ _ _ hs R56 rx1 rx2 rx3 rx4 rx5 rx6 rx7)
    · intro M x1 x2 x3 x4 x5 x6 x7 h k v M' hs R rx1 rx2 rx3 rx4 rx5 rx6 rx7
      rw [l58] at hs
      refine evx_F E58 D58_165 rfl rfl ?_
      refine evx_gfr E58 D58_166 F58_19 H0 rfl R ?_
      refine evx_F E58 D58_169 rfl rfl ?_
      refine evx_F E58 D58_170 rfl rfl ?_
      refine evx_F E58 D58_171 rfl rfl ?_
      obtain ⟨q62, e61, hs⟩ := Option.bind_eq_some_iff.mp hs
      refine evx_cv (D := 8) E58 D58_172 I58_119 rfl rfl H5 ⟨Nat.le_of_ble_eq_true rfl, Nat.le_of_ble_eq_true rfl⟩ ⟨rfl, Nat.le_of_ble_eq_true rfl⟩ rfl R (evx_up (Nat.le_of_ble_eq_true rfl) (c59 R rx1 rx2 rx3 e61)) ?_
      intro h63 R64 w65
      have w65 : rg q62 := w65
      show evx _ _ _ _ _ _ (.inl (iz q62) :: _) _ _ _
      by_cases cb66 : ¬ q62 = 0
      · rw [if_pos cb66] at hs
        refine evx_F E58 D58_175 rfl (ifT (c1_ne_T w65 cb66)) ?_
        refine evx_F E58 D58_181 rfl rfl ?_
        refine evx_gfr E58 D58_182 F58_19 H0 rfl R64 ?_
        refine evx_F E58 D58_185 rfl rfl ?_
        refine evx_F E58 D58_186 rfl rfl ?_
        refine evx_F E58 D58_187 rfl rfl ?_
        obtain ⟨⟨q68, M72⟩, e67, hs⟩ := Option.bind_eq_some_iff.mp hs
        dsimp only at hs
        refine evx_cv (D := 8) E58 D58_188 I58_123 rfl rfl H5 ⟨Nat.le_of_ble_eq_true rfl, Nat.le_of_ble_eq_true rfl⟩ ⟨rfl, Nat.le_of_ble_eq_true rfl⟩ rfl R64 (evx_up (Nat.le_of_ble_eq_true rfl) (c61 R64 rx1 rx2 rx3 e67)) ?_
        intro h69 R70 w71
        refine evx_F E58 D58_191 rfl rfl ?_
        refine evx_gfr E58 D58_192 F58_19 H0 rfl R70 ?_
        refine evx_F E58 D58_195 rfl rfl ?_
        refine evx_F E58 D58_196 rfl rfl ?_
        refine evx_F E58 D58_197 rfl rfl ?_
        refine evx_F E58 D58_199 rfl rfl ?_
        refine evx_F E58 D58_201 rfl rfl ?_
        obtain ⟨⟨q74, M78⟩, e73, hs⟩ := Option.bind_eq_some_iff.mp hs
        dsimp only at hs
        refine evx_cv (D := 8) E58 D58_203 I58_127 rfl rfl H5 ⟨Nat.le_of_ble_eq_true rfl, Nat.le_of_ble_eq_true rfl⟩ ⟨rfl, Nat.le_of_ble_eq_true rfl⟩ rfl R70 (evx_up (Nat.le_of_ble_eq_true rfl) (c62 R70 rx1 rx2 rx4 rx5 rx6 e73)) ?_
        intro h75 R76 w77
        refine evx_F E58 D58_206 rfl rfl ?_
        refine evx_F E58 D58_207 rfl rfl ?_
        refine evx_F E58 D58_209 rfl rfl ?_
        refine evx_F E58 D58_210 rfl rfl ?_
        show evx _ _ _ _ _ [(9, .inl (iz 0)), (8, .inl (iz 0)), (0, .inr (.inr (.inl (some 0)))), (1, .inl (iz x1)), (2, .inl (iz x2)), (3, .inl (iz x3)), (4, .inl (iz x4)), (5, .inl (iz x5)), (6, .inl (iz x6)), (7, .inl (iz x7))] _ _ _ _
        exact evx_lv (lvLe_mk (fm rfl (fm rfl (fm rfl (fm rfl (fm rfl (fm rfl (fm rfl (fm rfl (fm rfl (fm rfl fn)))))))))) (fm rfl (fm rfl (fm rfl (fm rfl (fm rfl (fm rfl (fm rfl (fm rfl (fm rfl (fm rfl fn)))))))))) (fm rfl (fm rfl (fm rfl (fm rfl (fm rfl (fm rfl (fm rfl (fm rfl (fm rfl (fm rfl fn))))))))))) (ih.2.2.2.2.2.2.2.2.2.2.2.2.1 _ _ _ _ _ _ _ _ _ _ _ _ _ _ hs R76 rx1 rx2 rx3 rx4 rx5 rx6 rx7 (by decide) (by decide))
      · rw [if_neg cb66] at hs
        refine evx_F E58 D58_175 rfl (ifF (c1_ne_F w65 (by omega))) ?_
        refine evx_k (k := -5) E58 D58_178 rfl (by decide) ?_
        cases hs
        exact evx_ret E58 D58_180 rfl (fun d => rfl) rfl (show rg _ from (by decide)) R64
    · intro M x1 x2 x3 x4 x5 x6 x7 x8 x9 h k v M' hs R rx1 rx2 rx3 rx4 rx5 rx6 rx7 rx8 rx9
      rw [l58] at hs
      refine evx_F E58 D58_212 rfl rfl ?_
      refine evx_F E58 D58_214 rfl rfl ?_
      by_cases cb79 : x7 ≤ x9
      · rw [if_pos cb79] at hs
        refine evx_F E58 D58_216 rfl (ifT (c2_ge_T rx9 rx7 cb79)) ?_
        show evx _ _ _ _ _ [(0, .inr (.inr (.inl (some 0)))), (1, .inl (iz x1)), (2, .inl (iz x2)), (3, .inl (iz x3)), (4, .inl (iz x4)), (5, .inl (iz x5)), (6, .inl (iz x6)), (7, .inl (iz x7)), (8, .inl (iz x8)), (9, .inl (iz x9))] _ _ _ _
        exact evx_lv (lvLe_mk (fm rfl (fm rfl (fm rfl (fm rfl (fm rfl (fm rfl (fm rfl (fm rfl (fm rfl (fm rfl fn)))))))))) (fm rfl (fm rfl (fm rfl (fm rfl (fm rfl (fm rfl (fm rfl (fm rfl (fm rfl (fm rfl fn)))))))))) (fm rfl (fm rfl (fm rfl (fm rfl (fm rfl (fm rfl (fm rfl (fm rfl (fm rfl (fm rfl fn))))))))))) (ih.2.2.2.2.2.2.2.2.2.2.2.2.2.1 _ _ _ _ _ _ _ _ _ _ _ _ _ _ hs R rx1 rx2 rx3 rx4 rx5 rx6 rx7 rx8 rx9)
      · rw [if_neg cb79] at hs
        refine evx_F E58 D58_216 rfl (ifF (c2_ge_F rx9 rx7 (by omega))) ?_
        refine evx_F E58 D58_219 rfl rfl ?_
        by_cases cb80 : ¬ x8 = 0
        · rw [if_pos cb80] at hs
          refine evx_F E58 D58_221 rfl (ifT (c1_ne_T rx8 cb80)) ?_
          show evx _ _ _ _ _ [(0, .inr (.inr (.inl (some 0)))), (1, .inl (iz x1)), (2, .inl (iz x2)), (3, .inl (iz x3)), (4, .inl (iz x4)), (5, .inl (iz x5)), (6, .inl (iz x6)), (7, .inl (iz x7)), (8, .inl (iz x8)), (9, .inl (iz x9))] _ _ _ _
          exact evx_lv (lvLe_mk (fm rfl (fm rfl (fm rfl (fm rfl (fm rfl (fm rfl (fm rfl (fm rfl (fm rfl (fm rfl fn)))))))))) (fm rfl (fm rfl (fm rfl (fm rfl (fm rfl (fm rfl (fm rfl (fm rfl (fm rfl (fm rfl fn)))))))))) (fm rfl (fm rfl (fm rfl (fm rfl (fm rfl (fm rfl (fm rfl (fm rfl (fm rfl (fm rfl fn))))))))))) (ih.2.2.2.2.2.2.2.2.2.2.2.2.2.1 _ _ _ _ _ _ _ _ _ _ _ _ _ _ hs R rx1 rx2 rx3 rx4 rx5 rx6 rx7 rx8 rx9)
        · rw [if_neg cb80] at hs
          refine evx_F E58 D58_221 rfl (ifF (c1_ne_F rx8 (by omega))) ?_
          refine evx_F E58 D58_224 rfl rfl ?_
          refine evx_gfr E58 D58_225 F58_50 H0 rfl R ?_
          refine evx_F E58 D58_228 rfl rfl ?_
          refine evx_F E58 D58_229 rfl rfl ?_
          refine evx_F E58 D58_230 rfl rfl ?_
          obtain ⟨⟨q82, M86⟩, e81, hs⟩ := Option.bind_eq_some_iff.mp hs
          dsimp only at hs
          refine evx_cv (D := 8) E58 D58_232 I58_131 rfl rfl H42 ⟨Nat.le_of_ble_eq_true rfl, Nat.le_of_ble_eq_true rfl⟩ ⟨rfl, Nat.le_of_ble_eq_true rfl⟩ rfl R (evx_up (Nat.le_of_ble_eq_true rfl) (c63 R rx1 rx2 rx9 e81)) ?_
          intro h83 R84 w85
          have w85 : rg q82 := w85
          show evx _ _ _ _ _ _ (.inl (iz q82) :: _) _ _ _
          refine evx_F E58 D58_235 rfl rfl ?_
          refine evx_inc E58 D58_237 (Nat.le_of_ble_eq_true rfl) rfl ?_
          refine evx_F E58 D58_240 rfl rfl ?_
          obtain ⟨k87, hs⟩ := ck hs
          show evx _ _ _ _ _ [(9, .inl (iz (x9 + 1))), (8, .inl (iz q82)), (0, .inr (.inr (.inl (some 0)))), (1, .inl (iz x1)), (2, .inl (iz x2)), (3, .inl (iz x3)), (4, .inl (iz x4)), (5, .inl (iz x5)), (6, .inl (iz x6)), (7, .inl (iz x7))] _ _ _ _
          exact evx_lv (lvLe_mk (fm rfl (fm rfl (fm rfl (fm rfl (fm rfl (fm rfl (fm rfl (fm rfl (fm rfl (fm rfl fn)))))))))) (fm rfl (fm rfl (fm rfl (fm rfl (fm rfl (fm rfl (fm rfl (fm rfl (fm rfl (fm rfl fn)))))))))) (fm rfl (fm rfl (fm rfl (fm rfl (fm rfl (fm rfl (fm rfl (fm rfl (fm rfl (fm rfl fn))))))))))) (ih.2.2.2.2.2.2.2.2.2.2.2.2.1 _ _ _ _ _ _ _ _ _ _ _ _ _ _ hs R84 rx1 rx2 rx3 rx4 rx5 rx6 rx7 w85 k87)
    · intro M x1 x2 x3 x4 x5 x6 x7 x8 x9 h k v M' hs R rx1 rx2 rx3 rx4 rx5 rx6 rx7 rx8 rx9
      rw [l58] at hs
      refine evx_F E58 D58_243 rfl rfl ?_
      by_cases cb88 : x8 = 0
      · rw [if_pos cb88] at hs
        refine evx_F E58 D58_245 rfl (ifT (c1_eq_T rx8 cb88)) ?_
        show evx _ _ _ _ _ [(0, .inr (.inr (.inl (some 0)))), (1, .inl (iz x1)), (2, .inl (iz x2)), (3, .inl (iz x3)), (4, .inl (iz x4)), (5, .inl (iz x5)), (6, .inl (iz x6)), (7, .inl (iz x7)), (8, .inl (iz x8)), (9, .inl (iz x9))] _ _ _ _
        exact evx_lv (lvLe_mk (fm rfl (fm rfl (fm rfl (fm rfl (fm rfl (fm rfl (fm rfl (fm rfl (fm rfl (fm rfl fn)))))))))) (fm rfl (fm rfl (fm rfl (fm rfl (fm rfl (fm rfl (fm rfl (fm rfl (fm rfl (fm rfl fn)))))))))) (fm rfl (fm rfl (fm rfl (fm rfl (fm rfl (fm rfl (fm rfl (fm rfl (fm rfl (fm rfl fn))))))))))) (ih.2.2.2.2.2.2.2.2.2.2.2.2.2.2 _ _ _ _ _ _ _ _ _ _ _ _ _ _ hs R rx1 rx2 rx3 rx4 rx5 rx6 rx7 rx8 rx9)
      · rw [if_neg cb88] at hs
        refine evx_F E58 D58_245 rfl (ifF (c1_eq_F rx8 (by omega))) ?_
        refine evx_F E58 D58_248 rfl rfl ?_
        refine evx_gfr E58 D58_249 F58_19 H0 rfl R ?_
        refine evx_F E58 D58_252 rfl rfl ?_
        refine evx_F E58 D58_253 rfl rfl ?_
        obtain ⟨⟨q90, M94⟩, e89, hs⟩ := Option.bind_eq_some_iff.mp hs
        dsimp only at hs
        refine evx_cv (D := 8) E58 D58_254 I58_134 rfl rfl H5 ⟨Nat.le_of_ble_eq_true rfl, Nat.le_of_ble_eq_true rfl⟩ ⟨rfl, Nat.le_of_ble_eq_true rfl⟩ rfl R (evx_up (Nat.le_of_ble_eq_true rfl) (c124 R rx1 rx2 e89)) ?_
        intro h91 R92 w93
        show evx _ _ _ _ _ [(0, .inr (.inr (.inl (some 0)))), (1, .inl (iz x1)), (2, .inl (iz x2)), (3, .inl (iz x3)), (4, .inl (iz x4)), (5, .inl (iz x5)), (6, .inl (iz x6)), (7, .inl (iz x7)), (8, .inl (iz x8)), (9, .inl (iz x9))] _ _ _ _
        exact evx_lv (lvLe_mk (fm rfl (fm rfl (fm rfl (fm rfl (fm rfl (fm rfl (fm rfl (fm rfl (fm rfl (fm rfl fn)))))))))) (fm rfl (fm rfl (fm rfl (fm rfl (fm rfl (fm rfl (fm rfl (fm rfl (fm rfl (fm rfl fn)))))))))) (fm rfl (fm rfl (fm rfl (fm rfl (fm rfl (fm rfl (fm rfl (fm rfl (fm rfl (fm rfl fn))))))))))) (ih.2.2.2.2.2.2.2.2.2.2.2.2.2.2 _ _ _ _ _ _ _ _ _ _ _ _ _ _ hs R92 rx1 rx2 rx3 rx4 rx5 rx6 rx7 rx8 rx9)
    · intro M x1 x2 x3 x4 x5 x6 x7 x8 x9 h k v M' hs R rx1 rx2 rx3 rx4 rx5 rx6 rx7 rx8 rx9
      rw [l58] at hs
      refine evx_F E58 D58_257 rfl rfl ?_
      cases hs
      exact evx_ret E58 D58_259 rfl (fun d => rfl) rfl (show rg _ from rx8) R
def f58 (M : Mm) (x1 : Int) (x2 : Int) (x3 : Int) (x4 : Int) (x5 : Int) (x6 : Int) : Option (Int × Int × Mm) := (f26 M x1).bind (fun q2 => if q2 = 0 then (l58 FU 24 M x1 x2 x3 x4 x5 x6 0 0 0) else (if x2 < 0 then (l58 FU 24 M x1 x2 x3 x4 x5 x6 0 0 0) else (if 3 ≤ x2 then (l58 FU 24 M x1 x2 x3 x4 x5 x6 0 0 0) else (l58 FU 28 M x1 x2 x3 x4 x5 x6 0 0 0))))
theorem c58 {L : Nat} {xs : Nat → Int32} {h : mvH} {M : Mm} {x1 x2 x3 x4 x5 x6 : Int} {k v : Int} {M' : Mm} (R : rp h M) (rx1 : rg x1) (rx2 : rg x2) (rx3 : rg x3) (rx4 : rg x4) (rx5 : rg x5) (rx6 : rg x6) (hs : f58 M x1 x2 x3 x4 x5 x6 = some (k, v, M')) : evx L xs 9 58 0 [(0, .inr (.inr (.inl (some 0)))), (1, .inl (iz x1)), (2, .inl (iz x2)), (3, .inl (iz x3)), (4, .inl (iz x4)), (5, .inl (iz x5)), (6, .inl (iz x6))] [] h (ot k v) M' := by
  unfold f58 at hs
  refine evx_F E58 D58_0 rfl rfl ?_
  refine evx_gfr E58 D58_1 F58_19 H0 rfl R ?_
  refine evx_F E58 D58_4 rfl rfl ?_
  obtain ⟨q2, e1, hs⟩ := Option.bind_eq_some_iff.mp hs
  refine evx_cv (D := 8) E58 D58_5 I58_79 rfl rfl H5 ⟨Nat.le_of_ble_eq_true rfl, Nat.le_of_ble_eq_true rfl⟩ ⟨rfl, Nat.le_of_ble_eq_true rfl⟩ rfl R (evx_up (Nat.le_of_ble_eq_true rfl) (c26 R rx1 e1)) ?_
  intro h3 R4 w5
  have w5 : rg q2 := w5
  show evx _ _ _ _ _ _ (.inl (iz q2) :: _) _ _ _
  by_cases cb6 : q2 = 0
  · rw [if_pos cb6] at hs
    refine evx_F E58 D58_8 rfl (ifT (c1_eq_T w5 cb6)) ?_
    show evx _ _ _ _ _ [(0, .inr (.inr (.inl (some 0)))), (1, .inl (iz x1)), (2, .inl (iz x2)), (3, .inl (iz x3)), (4, .inl (iz x4)), (5, .inl (iz x5)), (6, .inl (iz x6))] _ _ _ _
    exact evx_lv (lvLe_mk (fm rfl (fm rfl (fm rfl (fm rfl (fm rfl (fm rfl (fm rfl fn))))))) (fm rfl (fm rfl (fm rfl (fm rfl (fm rfl (fm rfl (fm rfl fn))))))) (fm rfl (fm rfl (fm rfl (fm rfl (fm rfl (fm rfl (fm rfl fn)))))))) ((d58 FU).1 _ _ _ _ _ _ _ _ _ _ _ hs R4 rx1 rx2 rx3 rx4 rx5 rx6)
  · rw [if_neg cb6] at hs
    refine evx_F E58 D58_8 rfl (ifF (c1_eq_F w5 (by omega))) ?_
    refine evx_F E58 D58_11 rfl rfl ?_
    by_cases cb7 : x2 < 0
    · rw [if_pos cb7] at hs
      refine evx_F E58 D58_12 rfl (ifT (c1_lt_T rx2 cb7)) ?_
      show evx _ _ _ _ _ [(0, .inr (.inr (.inl (some 0)))), (1, .inl (iz x1)), (2, .inl (iz x2)), (3, .inl (iz x3)), (4, .inl (iz x4)), (5, .inl (iz x5)), (6, .inl (iz x6))] _ _ _ _
      exact evx_lv (lvLe_mk (fm rfl (fm rfl (fm rfl (fm rfl (fm rfl (fm rfl (fm rfl fn))))))) (fm rfl (fm rfl (fm rfl (fm rfl (fm rfl (fm rfl (fm rfl fn))))))) (fm rfl (fm rfl (fm rfl (fm rfl (fm rfl (fm rfl (fm rfl fn)))))))) ((d58 FU).1 _ _ _ _ _ _ _ _ _ _ _ hs R4 rx1 rx2 rx3 rx4 rx5 rx6)
    · rw [if_neg cb7] at hs
      refine evx_F E58 D58_12 rfl (ifF (c1_lt_F rx2 (by omega))) ?_
      refine evx_F E58 D58_15 rfl rfl ?_
      refine evx_F E58 D58_16 rfl rfl ?_
      by_cases cb8 : 3 ≤ x2
      · rw [if_pos cb8] at hs
        refine evx_F E58 D58_17 rfl (ifT (c2_ge_T rx2 (by decide) cb8)) ?_
        show evx _ _ _ _ _ [(0, .inr (.inr (.inl (some 0)))), (1, .inl (iz x1)), (2, .inl (iz x2)), (3, .inl (iz x3)), (4, .inl (iz x4)), (5, .inl (iz x5)), (6, .inl (iz x6))] _ _ _ _
        exact evx_lv (lvLe_mk (fm rfl (fm rfl (fm rfl (fm rfl (fm rfl (fm rfl (fm rfl fn))))))) (fm rfl (fm rfl (fm rfl (fm rfl (fm rfl (fm rfl (fm rfl fn))))))) (fm rfl (fm rfl (fm rfl (fm rfl (fm rfl (fm rfl (fm rfl fn)))))))) ((d58 FU).1 _ _ _ _ _ _ _ _ _ _ _ hs R4 rx1 rx2 rx3 rx4 rx5 rx6)
      · rw [if_neg cb8] at hs
        refine evx_F E58 D58_17 rfl (ifF (c2_ge_F rx2 (by decide) (by omega))) ?_
        refine evx_F E58 D58_20 rfl rfl ?_
        refine evx_F E58 D58_21 rfl rfl ?_
        refine evx_rqT (b := true) E58 D58_25 I58_67 (Nat.le_of_ble_eq_true rfl) rfl (Nat.le_of_ble_eq_true rfl) (by decide) (by decide) ?_
        show evx _ _ _ _ _ [(0, .inr (.inr (.inl (some 0)))), (1, .inl (iz x1)), (2, .inl (iz x2)), (3, .inl (iz x3)), (4, .inl (iz x4)), (5, .inl (iz x5)), (6, .inl (iz x6))] _ _ _ _
        exact evx_lv (lvLe_mk (fm rfl (fm rfl (fm rfl (fm rfl (fm rfl (fm rfl (fm rfl fn))))))) (fm rfl (fm rfl (fm rfl (fm rfl (fm rfl (fm rfl (fm rfl fn))))))) (fm rfl (fm rfl (fm rfl (fm rfl (fm rfl (fm rfl (fm rfl fn)))))))) ((d58 FU).2.1 _ _ _ _ _ _ _ _ _ _ _ hs R4 rx1 rx2 rx3 rx4 rx5 rx6)
set_option maxRecDepth 20000 in
theorem E126 : pgMm 126 = some (⟨"DictionaryHouse", "define", "(I)I"⟩, prog_1_method_14_code, 2, (some .int), []) := rfl
theorem D126_0 : pgDecT 126 0 = some (.aload_n 0, 1) := by decide +kernel
theorem D126_1 : pgDecT 126 1 = some (.getfield 26, 3) := by decide +kernel
theorem F126_26 : pgFf 126 26 = some (11, 2, 3) := by decide +kernel
theorem D126_4 : pgDecT 126 4 = some (.iload_n 1, 1) := by decide +kernel
theorem D126_5 : pgDecT 126 5 = some (.invokevirtual 110, 3) := by decide +kernel
theorem I126_110 : pgIi 126 110 = some (48, 1, 4) := by decide +kernel
theorem D126_8 : pgDecT 126 8 = some (.invokestatic 67, 3) := by decide +kernel
theorem I126_67 : pgIi 126 67 = some (18, 1, 100) := by decide +kernel
theorem D126_11 : pgDecT 126 11 = some (.aload_n 0, 1) := by decide +kernel
theorem D126_12 : pgDecT 126 12 = some (.getfield 33, 3) := by decide +kernel
theorem F126_33 : pgFf 126 33 = some (11, 3, 3) := by decide +kernel
theorem D126_15 : pgDecT 126 15 = some (.invokevirtual 138, 3) := by decide +kernel
theorem I126_138 : pgIi 126 138 = some (127, 0, 3) := by decide +kernel
theorem D126_18 : pgDecT 126 18 = some (.bipush 20, 2) := by decide +kernel
theorem D126_20 : pgDecT 126 20 = some (.if_icmp .ge 7, 3) := by decide +kernel
theorem D126_27 : pgDecT 126 27 = some (.iconst 0, 1) := by decide +kernel
theorem D126_28 : pgDecT 126 28 = some (.invokestatic 84, 3) := by decide +kernel
theorem I126_84 : pgIi 126 84 = some (21, 1, 100) := by decide +kernel
theorem D126_23 : pgDecT 126 23 = some (.iconst 1, 1) := by decide +kernel
theorem D126_24 : pgDecT 126 24 = some (.goto 4, 3) := by decide +kernel
theorem D126_31 : pgDecT 126 31 = some (.aload_n 0, 1) := by decide +kernel
theorem D126_32 : pgDecT 126 32 = some (.getfield 50, 3) := by decide +kernel
theorem F126_50 : pgFf 126 50 = some (11, 4, 3) := by decide +kernel
theorem D126_35 : pgDecT 126 35 = some (.iload_n 1, 1) := by decide +kernel
theorem D126_36 : pgDecT 126 36 = some (.invokevirtual 139, 3) := by decide +kernel
theorem I126_139 : pgIi 126 139 = some (128, 1, 0) := by decide +kernel
theorem D126_39 : pgDecT 126 39 = some (.ireturn, 1) := by decide +kernel
/-! 126: DictionaryHouse.define (I)I -/
def f126 (M : Mm) (x1 : Int) : Option (Int × Int × Mm) := (f48 M x1).bind (fun q2 => if q2 = 0 then some (1, 0, M) else (f127 M).bind (fun q8 => if 20 ≤ q8 then (some (2, 0, M)) else (f128 M x1).bind (fun zq16 => some (0, zq16.1, zq16.2))))
theorem c126 {L : Nat} {xs : Nat → Int32} {h : mvH} {M : Mm} {x1 : Int} {k v : Int} {M' : Mm} (R : rp h M) (rx1 : rg x1) (hs : f126 M x1 = some (k, v, M')) : evx L xs 45 126 0 [(0, .inr (.inr (.inl (some 0)))), (1, .inl (iz x1))] [] h (ot k v) M' := by
  unfold f126 at hs
  refine evx_F E126 D126_0 rfl rfl ?_
  refine evx_gfr E126 D126_1 F126_26 H0 rfl R ?_
  refine evx_F E126 D126_4 rfl rfl ?_
  obtain ⟨q2, e1, hs⟩ := Option.bind_eq_some_iff.mp hs
  refine evx_cv (D := 44) E126 D126_5 I126_110 rfl rfl H12 ⟨Nat.le_of_ble_eq_true rfl, Nat.le_of_ble_eq_true rfl⟩ ⟨rfl, Nat.le_of_ble_eq_true rfl⟩ rfl R (evx_up (Nat.le_of_ble_eq_true rfl) (c48 R rx1 e1)) ?_
  intro h3 R4 w5
  have w5 : rg q2 := w5
  show evx _ _ _ _ _ _ (.inl (iz q2) :: _) _ _ _
  by_cases cb6 : q2 = 0
  · rw [if_pos cb6] at hs
    cases hs
    exact evx_rqF (b := true) E126 D126_8 I126_67 (Nat.le_of_ble_eq_true rfl) rfl (Nat.le_of_ble_eq_true rfl) cb6 rfl rfl R4
  · rw [if_neg cb6] at hs
    refine evx_rqT (b := true) E126 D126_8 I126_67 (Nat.le_of_ble_eq_true rfl) rfl (Nat.le_of_ble_eq_true rfl) w5 cb6 ?_
    refine evx_F E126 D126_11 rfl rfl ?_
    refine evx_gfr E126 D126_12 F126_33 H0 rfl R4 ?_
    obtain ⟨q8, e7, hs⟩ := Option.bind_eq_some_iff.mp hs
    refine evx_cv (D := 44) E126 D126_15 I126_138 rfl rfl H17 ⟨Nat.le_of_ble_eq_true rfl, Nat.le_of_ble_eq_true rfl⟩ ⟨rfl, Nat.le_of_ble_eq_true rfl⟩ rfl R4 (evx_up (Nat.le_of_ble_eq_true rfl) (c127 R4  e7)) ?_
    intro h9 R10 w11
    have w11 : rg q8 := w11
    show evx _ _ _ _ _ _ (.inl (iz q8) :: _) _ _ _
    refine evx_k (k := 20) E126 D126_18 rfl (by decide) ?_
    by_cases cb12 : 20 ≤ q8
    · rw [if_pos cb12] at hs
      refine evx_F E126 D126_20 rfl (ifT (c2_ge_T w11 (by decide) cb12)) ?_
      refine evx_F E126 D126_27 rfl rfl ?_
      cases hs
      exact evx_rqF (b := false) E126 D126_28 I126_84 (Nat.le_of_ble_eq_true rfl) rfl (Nat.le_of_ble_eq_true rfl) rfl rfl rfl R10
    · rw [if_neg cb12] at hs
      refine evx_F E126 D126_20 rfl (ifF (c2_ge_F w11 (by decide) (by omega))) ?_
      refine evx_F E126 D126_23 rfl rfl ?_
      refine evx_F E126 D126_24 rfl rfl ?_
      refine evx_rqT (b := false) E126 D126_28 I126_84 (Nat.le_of_ble_eq_true rfl) rfl (Nat.le_of_ble_eq_true rfl) (by decide) (by decide) ?_
      refine evx_F E126 D126_31 rfl rfl ?_
      refine evx_gfr E126 D126_32 F126_50 H0 rfl R10 ?_
      refine evx_F E126 D126_35 rfl rfl ?_
      obtain ⟨⟨q16, M20⟩, e15, hs⟩ := Option.bind_eq_some_iff.mp hs
      dsimp only at hs
      refine evx_cv (D := 44) E126 D126_36 I126_139 rfl rfl H42 ⟨Nat.le_of_ble_eq_true rfl, Nat.le_of_ble_eq_true rfl⟩ ⟨rfl, Nat.le_of_ble_eq_true rfl⟩ rfl R10 (evx_up (Nat.le_of_ble_eq_true rfl) (c128 R10 rx1 e15)) ?_
      intro h17 R18 w19
      have w19 : rg q16 := w19
      show evx _ _ _ _ _ _ (.inl (iz q16) :: _) _ _ _
      cases hs
      exact evx_ret E126 D126_39 rfl (fun d => rfl) rfl (show rg _ from w19) R18
set_option maxRecDepth 20000 in
theorem E51 : pgMm 51 = some (⟨"DictionaryHouseLaw", "use", "(LDictionaryHouse;II[J)I"⟩, method_12_code, 5, (some .int), [(0, 10, 13, 13), (0, 10, 17, 15)]) := rfl
theorem D51_0 : pgDecT 51 0 = some (.aload_n 3, 1) := by decide +kernel
theorem D51_1 : pgDecT 51 1 = some (.iconst 0, 1) := by decide +kernel
theorem D51_2 : pgDecT 51 2 = some (.aload_n 0, 1) := by decide +kernel
theorem D51_3 : pgDecT 51 3 = some (.iload_n 1, 1) := by decide +kernel
theorem D51_4 : pgDecT 51 4 = some (.iload_n 2, 1) := by decide +kernel
theorem D51_5 : pgDecT 51 5 = some (.invokevirtual 42, 3) := by decide +kernel
theorem I51_42 : pgIi 51 42 = some (52, 2, 11) := by decide +kernel
theorem D51_8 : pgDecT 51 8 = some (.i2l, 1) := by decide +kernel
theorem D51_9 : pgDecT 51 9 = some (.lastore, 1) := by decide +kernel
theorem D51_10 : pgDecT 51 10 = some (.goto 11, 3) := by decide +kernel
theorem D51_21 : pgDecT 51 21 = some (.iconst 0, 1) := by decide +kernel
theorem D51_22 : pgDecT 51 22 = some (.ireturn, 1) := by decide +kernel
theorem D51_15 : pgDecT 51 15 = some (.iconst 1, 1) := by decide +kernel
theorem D51_16 : pgDecT 51 16 = some (.ireturn, 1) := by decide +kernel
theorem D51_19 : pgDecT 51 19 = some (.iconst 2, 1) := by decide +kernel
theorem D51_20 : pgDecT 51 20 = some (.ireturn, 1) := by decide +kernel
/-! 51_0_109: DictionaryHouseLaw.use (LDictionaryHouse;II[J)I -/
def f51_0_109 (M : Mm) (x1 : Int) (x2 : Int) : Option (Int × Mm) := (f52 M x1 x2).bind (fun zq2 => if zq2.1 = 0 then (some (0, (up zq2.2.2 109 (Int.toNat 0) zq2.2.1))) else if zq2.1 = 1 then (some (1, zq2.2.2)) else (some (2, zq2.2.2)))
theorem c51_0_109 {L : Nat} {xs : Nat → Int32} {h : mvH} {M : Mm} {x1 x2 : Int} {v : Int} {M' : Mm} (R : rp h M) (rx1 : rg x1) (rx2 : rg x2) (hs : f51_0_109 M x1 x2 = some (v, M')) : evx L xs 11 51 0 [(0, .inr (.inr (.inl (some 0)))), (1, .inl (iz x1)), (2, .inl (iz x2)), (3, .inr (.inr (.inl (some 109))))] [] h (ow v) M' := by
  unfold f51_0_109 at hs
  refine evx_F E51 D51_0 rfl rfl ?_
  refine evx_F E51 D51_1 rfl rfl ?_
  refine evx_F E51 D51_2 rfl rfl ?_
  refine evx_F E51 D51_3 rfl rfl ?_
  refine evx_F E51 D51_4 rfl rfl ?_
  obtain ⟨⟨kq7, q2, M6⟩, e1, hs⟩ := Option.bind_eq_some_iff.mp hs
  dsimp only at hs
  have ge1 := c52 (L := L) (xs := xs) R rx1 rx2 e1
  by_cases cb8 : kq7 = 0
  · rw [if_pos cb8] at hs
    subst cb8
    refine evx_cv (D := 10) E51 D51_5 I51_42 rfl rfl H0 ⟨Nat.le_of_ble_eq_true rfl, Nat.le_of_ble_eq_true rfl⟩ ⟨rfl, Nat.le_of_ble_eq_true rfl⟩ rfl R (evx_up (Nat.le_of_ble_eq_true rfl) ge1) ?_
    intro h3 R4 w5
    have w5 : rg q2 := w5
    show evx _ _ _ _ _ _ (.inl (iz q2) :: _) _ _ _
    refine evx_F E51 D51_8 rfl rfl ?_
    refine evx_las E51 D51_9 H109 (by decide) R4 (by decide) w5 ?_
    intro h9 R10
    refine evx_F E51 D51_10 rfl rfl ?_
    refine evx_F E51 D51_21 rfl rfl ?_
    cases hs
    exact evx_ret E51 D51_22 rfl (fun d => rfl) rfl (show rg _ from (by decide)) R10
  · rw [if_neg cb8] at hs
    by_cases cb11 : kq7 = 1
    · rw [if_pos cb11] at hs
      rw [cb11, ot_1] at ge1
      cases hs
      show evx _ _ _ _ _ _ _ _ (.inl (some (.inl 1)), 1 + 0) _
      refine evx_cat (n1 := 1) (n2 := 0) (D := 10) E51 D51_5 I51_42 rfl rfl H0 ⟨Nat.le_of_ble_eq_true rfl, Nat.le_of_ble_eq_true rfl⟩ ⟨rfl, Nat.le_of_ble_eq_true rfl⟩ rfl rfl R (evx_up (Nat.le_of_ble_eq_true rfl) ge1) ?_
      intro h12 R13
      show evx _ _ _ _ _ [(0, .inr (.inr (.inl (some 0)))), (1, .inl (iz x1)), (2, .inl (iz x2)), (3, .inr (.inr (.inl (some 109))))] _ _ _ _
      refine evx_F E51 D51_15 rfl rfl ?_
      exact evx_ret E51 D51_16 rfl (fun d => rfl) rfl (show rg _ from (by decide)) R13
    · rw [if_neg cb11] at hs
      rw [ot_2 cb8 cb11] at ge1
      cases hs
      show evx _ _ _ _ _ _ _ _ (.inl (some (.inl 2)), 1 + 0) _
      refine evx_cat (n1 := 1) (n2 := 0) (D := 10) E51 D51_5 I51_42 rfl rfl H0 ⟨Nat.le_of_ble_eq_true rfl, Nat.le_of_ble_eq_true rfl⟩ ⟨rfl, Nat.le_of_ble_eq_true rfl⟩ rfl rfl R (evx_up (Nat.le_of_ble_eq_true rfl) ge1) ?_
      intro h14 R15
      show evx _ _ _ _ _ [(0, .inr (.inr (.inl (some 0)))), (1, .inl (iz x1)), (2, .inl (iz x2)), (3, .inr (.inr (.inl (some 109))))] _ _ _ _
      refine evx_F E51 D51_19 rfl rfl ?_
      exact evx_ret E51 D51_20 rfl (fun d => rfl) rfl (show rg _ from (by decide)) R15
set_option maxRecDepth 20000 in
theorem E54 : pgMm 54 = some (⟨"DictionaryHouseLaw", "given", "(LDictionaryHouse;I[J)I"⟩, method_13_code, 4, (some .int), [(0, 9, 12, 13), (0, 9, 15, 15)]) := rfl
theorem D54_0 : pgDecT 54 0 = some (.aload_n 2, 1) := by decide +kernel
theorem D54_1 : pgDecT 54 1 = some (.iconst 0, 1) := by decide +kernel
theorem D54_2 : pgDecT 54 2 = some (.aload_n 0, 1) := by decide +kernel
theorem D54_3 : pgDecT 54 3 = some (.iload_n 1, 1) := by decide +kernel
theorem D54_4 : pgDecT 54 4 = some (.invokevirtual 45, 3) := by decide +kernel
theorem I54_45 : pgIi 54 45 = some (55, 1, 11) := by decide +kernel
theorem D54_7 : pgDecT 54 7 = some (.i2l, 1) := by decide +kernel
theorem D54_8 : pgDecT 54 8 = some (.lastore, 1) := by decide +kernel
theorem D54_9 : pgDecT 54 9 = some (.goto 9, 3) := by decide +kernel
theorem D54_18 : pgDecT 54 18 = some (.iconst 0, 1) := by decide +kernel
theorem D54_19 : pgDecT 54 19 = some (.ireturn, 1) := by decide +kernel
theorem D54_13 : pgDecT 54 13 = some (.iconst 1, 1) := by decide +kernel
theorem D54_14 : pgDecT 54 14 = some (.ireturn, 1) := by decide +kernel
theorem D54_16 : pgDecT 54 16 = some (.iconst 2, 1) := by decide +kernel
theorem D54_17 : pgDecT 54 17 = some (.ireturn, 1) := by decide +kernel
/-! 54_0_109: DictionaryHouseLaw.given (LDictionaryHouse;I[J)I -/
def f54_0_109 (M : Mm) (x1 : Int) : Option (Int × Mm) := (f55 M x1).bind (fun zq2 => if zq2.1 = 0 then (some (0, (up zq2.2.2 109 (Int.toNat 0) zq2.2.1))) else if zq2.1 = 1 then (some (1, zq2.2.2)) else (some (2, zq2.2.2)))
theorem c54_0_109 {L : Nat} {xs : Nat → Int32} {h : mvH} {M : Mm} {x1 : Int} {v : Int} {M' : Mm} (R : rp h M) (rx1 : rg x1) (hs : f54_0_109 M x1 = some (v, M')) : evx L xs 11 54 0 [(0, .inr (.inr (.inl (some 0)))), (1, .inl (iz x1)), (2, .inr (.inr (.inl (some 109))))] [] h (ow v) M' := by
  unfold f54_0_109 at hs
  refine evx_F E54 D54_0 rfl rfl ?_
  refine evx_F E54 D54_1 rfl rfl ?_
  refine evx_F E54 D54_2 rfl rfl ?_
  refine evx_F E54 D54_3 rfl rfl ?_
  obtain ⟨⟨kq7, q2, M6⟩, e1, hs⟩ := Option.bind_eq_some_iff.mp hs
  dsimp only at hs
  have ge1 := c55 (L := L) (xs := xs) R rx1 e1
  by_cases cb8 : kq7 = 0
  · rw [if_pos cb8] at hs
    subst cb8
    refine evx_cv (D := 10) E54 D54_4 I54_45 rfl rfl H0 ⟨Nat.le_of_ble_eq_true rfl, Nat.le_of_ble_eq_true rfl⟩ ⟨rfl, Nat.le_of_ble_eq_true rfl⟩ rfl R (evx_up (Nat.le_of_ble_eq_true rfl) ge1) ?_
    intro h3 R4 w5
    have w5 : rg q2 := w5
    show evx _ _ _ _ _ _ (.inl (iz q2) :: _) _ _ _
    refine evx_F E54 D54_7 rfl rfl ?_
    refine evx_las E54 D54_8 H109 (by decide) R4 (by decide) w5 ?_
    intro h9 R10
    refine evx_F E54 D54_9 rfl rfl ?_
    refine evx_F E54 D54_18 rfl rfl ?_
    cases hs
    exact evx_ret E54 D54_19 rfl (fun d => rfl) rfl (show rg _ from (by decide)) R10
  · rw [if_neg cb8] at hs
    by_cases cb11 : kq7 = 1
    · rw [if_pos cb11] at hs
      rw [cb11, ot_1] at ge1
      cases hs
      show evx _ _ _ _ _ _ _ _ (.inl (some (.inl 1)), 1 + 0) _
      refine evx_cat (n1 := 1) (n2 := 0) (D := 10) E54 D54_4 I54_45 rfl rfl H0 ⟨Nat.le_of_ble_eq_true rfl, Nat.le_of_ble_eq_true rfl⟩ ⟨rfl, Nat.le_of_ble_eq_true rfl⟩ rfl rfl R (evx_up (Nat.le_of_ble_eq_true rfl) ge1) ?_
      intro h12 R13
      show evx _ _ _ _ _ [(0, .inr (.inr (.inl (some 0)))), (1, .inl (iz x1)), (2, .inr (.inr (.inl (some 109))))] _ _ _ _
      refine evx_F E54 D54_13 rfl rfl ?_
      exact evx_ret E54 D54_14 rfl (fun d => rfl) rfl (show rg _ from (by decide)) R13
    · rw [if_neg cb11] at hs
      rw [ot_2 cb8 cb11] at ge1
      cases hs
      show evx _ _ _ _ _ _ _ _ (.inl (some (.inl 2)), 1 + 0) _
      refine evx_cat (n1 := 1) (n2 := 0) (D := 10) E54 D54_4 I54_45 rfl rfl H0 ⟨Nat.le_of_ble_eq_true rfl, Nat.le_of_ble_eq_true rfl⟩ ⟨rfl, Nat.le_of_ble_eq_true rfl⟩ rfl rfl R (evx_up (Nat.le_of_ble_eq_true rfl) ge1) ?_
      intro h14 R15
      show evx _ _ _ _ _ [(0, .inr (.inr (.inl (some 0)))), (1, .inl (iz x1)), (2, .inr (.inr (.inl (some 109))))] _ _ _ _
      refine evx_F E54 D54_16 rfl rfl ?_
      exact evx_ret E54 D54_17 rfl (fun d => rfl) rfl (show rg _ from (by decide)) R15
set_option maxRecDepth 20000 in
theorem E57 : pgMm 57 = some (⟨"DictionaryHouseLaw", "instance", "(LDictionaryHouse;IIIIII[J)I"⟩, method_14_code, 9, (some .int), [(0, 18, 21, 13), (0, 18, 25, 15)]) := rfl
theorem D57_0 : pgDecT 57 0 = some (.aload 7, 2) := by decide +kernel
theorem D57_2 : pgDecT 57 2 = some (.iconst 0, 1) := by decide +kernel
theorem D57_3 : pgDecT 57 3 = some (.aload_n 0, 1) := by decide +kernel
theorem D57_4 : pgDecT 57 4 = some (.iload_n 1, 1) := by decide +kernel
theorem D57_5 : pgDecT 57 5 = some (.iload_n 2, 1) := by decide +kernel
theorem D57_6 : pgDecT 57 6 = some (.iload_n 3, 1) := by decide +kernel
theorem D57_7 : pgDecT 57 7 = some (.iload 4, 2) := by decide +kernel
theorem D57_9 : pgDecT 57 9 = some (.iload 5, 2) := by decide +kernel
theorem D57_11 : pgDecT 57 11 = some (.iload 6, 2) := by decide +kernel
theorem D57_13 : pgDecT 57 13 = some (.invokevirtual 48, 3) := by decide +kernel
theorem I57_48 : pgIi 57 48 = some (58, 6, 11) := by decide +kernel
theorem D57_16 : pgDecT 57 16 = some (.i2l, 1) := by decide +kernel
theorem D57_17 : pgDecT 57 17 = some (.lastore, 1) := by decide +kernel
theorem D57_18 : pgDecT 57 18 = some (.goto 11, 3) := by decide +kernel
theorem D57_29 : pgDecT 57 29 = some (.iconst 0, 1) := by decide +kernel
theorem D57_30 : pgDecT 57 30 = some (.ireturn, 1) := by decide +kernel
theorem D57_23 : pgDecT 57 23 = some (.iconst 1, 1) := by decide +kernel
theorem D57_24 : pgDecT 57 24 = some (.ireturn, 1) := by decide +kernel
theorem D57_27 : pgDecT 57 27 = some (.iconst 2, 1) := by decide +kernel
theorem D57_28 : pgDecT 57 28 = some (.ireturn, 1) := by decide +kernel
/-! 57_0_109: DictionaryHouseLaw.instance (LDictionaryHouse;IIIIII[J)I -/
def f57_0_109 (M : Mm) (x1 : Int) (x2 : Int) (x3 : Int) (x4 : Int) (x5 : Int) (x6 : Int) : Option (Int × Mm) := (f58 M x1 x2 x3 x4 x5 x6).bind (fun zq2 => if zq2.1 = 0 then (some (0, (up zq2.2.2 109 (Int.toNat 0) zq2.2.1))) else if zq2.1 = 1 then (some (1, zq2.2.2)) else (some (2, zq2.2.2)))
theorem c57_0_109 {L : Nat} {xs : Nat → Int32} {h : mvH} {M : Mm} {x1 x2 x3 x4 x5 x6 : Int} {v : Int} {M' : Mm} (R : rp h M) (rx1 : rg x1) (rx2 : rg x2) (rx3 : rg x3) (rx4 : rg x4) (rx5 : rg x5) (rx6 : rg x6) (hs : f57_0_109 M x1 x2 x3 x4 x5 x6 = some (v, M')) : evx L xs 10 57 0 [(0, .inr (.inr (.inl (some 0)))), (1, .inl (iz x1)), (2, .inl (iz x2)), (3, .inl (iz x3)), (4, .inl (iz x4)), (5, .inl (iz x5)), (6, .inl (iz x6)), (7, .inr (.inr (.inl (some 109))))] [] h (ow v) M' := by
  unfold f57_0_109 at hs
  refine evx_F E57 D57_0 rfl rfl ?_
  refine evx_F E57 D57_2 rfl rfl ?_
  refine evx_F E57 D57_3 rfl rfl ?_
  refine evx_F E57 D57_4 rfl rfl ?_
  refine evx_F E57 D57_5 rfl rfl ?_
  refine evx_F E57 D57_6 rfl rfl ?_
  refine evx_F E57 D57_7 rfl rfl ?_
  refine evx_F E57 D57_9 rfl rfl ?_
  refine evx_F E57 D57_11 rfl rfl ?_
  obtain ⟨⟨kq7, q2, M6⟩, e1, hs⟩ := Option.bind_eq_some_iff.mp hs
  dsimp only at hs
  have ge1 := c58 (L := L) (xs := xs) R rx1 rx2 rx3 rx4 rx5 rx6 e1
  by_cases cb8 : kq7 = 0
  · rw [if_pos cb8] at hs
    subst cb8
    refine evx_cv (D := 9) E57 D57_13 I57_48 rfl rfl H0 ⟨Nat.le_of_ble_eq_true rfl, Nat.le_of_ble_eq_true rfl⟩ ⟨rfl, Nat.le_of_ble_eq_true rfl⟩ rfl R (evx_up (Nat.le_of_ble_eq_true rfl) ge1) ?_
    intro h3 R4 w5
    have w5 : rg q2 := w5
    show evx _ _ _ _ _ _ (.inl (iz q2) :: _) _ _ _
    refine evx_F E57 D57_16 rfl rfl ?_
    refine evx_las E57 D57_17 H109 (by decide) R4 (by decide) w5 ?_
    intro h9 R10
    refine evx_F E57 D57_18 rfl rfl ?_
    refine evx_F E57 D57_29 rfl rfl ?_
    cases hs
    exact evx_ret E57 D57_30 rfl (fun d => rfl) rfl (show rg _ from (by decide)) R10
  · rw [if_neg cb8] at hs
    by_cases cb11 : kq7 = 1
    · rw [if_pos cb11] at hs
      rw [cb11, ot_1] at ge1
      cases hs
      show evx _ _ _ _ _ _ _ _ (.inl (some (.inl 1)), 1 + 0) _
      refine evx_cat (n1 := 1) (n2 := 0) (D := 9) E57 D57_13 I57_48 rfl rfl H0 ⟨Nat.le_of_ble_eq_true rfl, Nat.le_of_ble_eq_true rfl⟩ ⟨rfl, Nat.le_of_ble_eq_true rfl⟩ rfl rfl R (evx_up (Nat.le_of_ble_eq_true rfl) ge1) ?_
      intro h12 R13
      show evx _ _ _ _ _ [(0, .inr (.inr (.inl (some 0)))), (1, .inl (iz x1)), (2, .inl (iz x2)), (3, .inl (iz x3)), (4, .inl (iz x4)), (5, .inl (iz x5)), (6, .inl (iz x6)), (7, .inr (.inr (.inl (some 109))))] _ _ _ _
      refine evx_F E57 D57_23 rfl rfl ?_
      exact evx_ret E57 D57_24 rfl (fun d => rfl) rfl (show rg _ from (by decide)) R13
    · rw [if_neg cb11] at hs
      rw [ot_2 cb8 cb11] at ge1
      cases hs
      show evx _ _ _ _ _ _ _ _ (.inl (some (.inl 2)), 1 + 0) _
      refine evx_cat (n1 := 1) (n2 := 0) (D := 9) E57 D57_13 I57_48 rfl rfl H0 ⟨Nat.le_of_ble_eq_true rfl, Nat.le_of_ble_eq_true rfl⟩ ⟨rfl, Nat.le_of_ble_eq_true rfl⟩ rfl rfl R (evx_up (Nat.le_of_ble_eq_true rfl) ge1) ?_
      intro h14 R15
      show evx _ _ _ _ _ [(0, .inr (.inr (.inl (some 0)))), (1, .inl (iz x1)), (2, .inl (iz x2)), (3, .inl (iz x3)), (4, .inl (iz x4)), (5, .inl (iz x5)), (6, .inl (iz x6)), (7, .inr (.inr (.inl (some 109))))] _ _ _ _
      refine evx_F E57 D57_27 rfl rfl ?_
      exact evx_ret E57 D57_28 rfl (fun d => rfl) rfl (show rg _ from (by decide)) R15
set_option maxRecDepth 20000 in
theorem E125 : pgMm 125 = some (⟨"DictionaryHouseLaw", "define", "(LDictionaryHouse;I[J)I"⟩, method_15_code, 4, (some .int), [(0, 9, 12, 13), (0, 9, 15, 15)]) := rfl
theorem D125_0 : pgDecT 125 0 = some (.aload_n 2, 1) := by decide +kernel
theorem D125_1 : pgDecT 125 1 = some (.iconst 0, 1) := by decide +kernel
theorem D125_2 : pgDecT 125 2 = some (.aload_n 0, 1) := by decide +kernel
theorem D125_3 : pgDecT 125 3 = some (.iload_n 1, 1) := by decide +kernel
theorem D125_4 : pgDecT 125 4 = some (.invokevirtual 52, 3) := by decide +kernel
theorem I125_52 : pgIi 125 52 = some (126, 1, 11) := by decide +kernel
theorem D125_7 : pgDecT 125 7 = some (.i2l, 1) := by decide +kernel
theorem D125_8 : pgDecT 125 8 = some (.lastore, 1) := by decide +kernel
theorem D125_9 : pgDecT 125 9 = some (.goto 9, 3) := by decide +kernel
theorem D125_18 : pgDecT 125 18 = some (.iconst 0, 1) := by decide +kernel
theorem D125_19 : pgDecT 125 19 = some (.ireturn, 1) := by decide +kernel
theorem D125_13 : pgDecT 125 13 = some (.iconst 1, 1) := by decide +kernel
theorem D125_14 : pgDecT 125 14 = some (.ireturn, 1) := by decide +kernel
theorem D125_16 : pgDecT 125 16 = some (.iconst 2, 1) := by decide +kernel
theorem D125_17 : pgDecT 125 17 = some (.ireturn, 1) := by decide +kernel
/-! 125_0_109: DictionaryHouseLaw.define (LDictionaryHouse;I[J)I -/
def f125_0_109 (M : Mm) (x1 : Int) : Option (Int × Mm) := (f126 M x1).bind (fun zq2 => if zq2.1 = 0 then (some (0, (up zq2.2.2 109 (Int.toNat 0) zq2.2.1))) else if zq2.1 = 1 then (some (1, zq2.2.2)) else (some (2, zq2.2.2)))
theorem c125_0_109 {L : Nat} {xs : Nat → Int32} {h : mvH} {M : Mm} {x1 : Int} {v : Int} {M' : Mm} (R : rp h M) (rx1 : rg x1) (hs : f125_0_109 M x1 = some (v, M')) : evx L xs 46 125 0 [(0, .inr (.inr (.inl (some 0)))), (1, .inl (iz x1)), (2, .inr (.inr (.inl (some 109))))] [] h (ow v) M' := by
  unfold f125_0_109 at hs
  refine evx_F E125 D125_0 rfl rfl ?_
  refine evx_F E125 D125_1 rfl rfl ?_
  refine evx_F E125 D125_2 rfl rfl ?_
  refine evx_F E125 D125_3 rfl rfl ?_
  obtain ⟨⟨kq7, q2, M6⟩, e1, hs⟩ := Option.bind_eq_some_iff.mp hs
  dsimp only at hs
  have ge1 := c126 (L := L) (xs := xs) R rx1 e1
  by_cases cb8 : kq7 = 0
  · rw [if_pos cb8] at hs
    subst cb8
    refine evx_cv (D := 45) E125 D125_4 I125_52 rfl rfl H0 ⟨Nat.le_of_ble_eq_true rfl, Nat.le_of_ble_eq_true rfl⟩ ⟨rfl, Nat.le_of_ble_eq_true rfl⟩ rfl R (evx_up (Nat.le_of_ble_eq_true rfl) ge1) ?_
    intro h3 R4 w5
    have w5 : rg q2 := w5
    show evx _ _ _ _ _ _ (.inl (iz q2) :: _) _ _ _
    refine evx_F E125 D125_7 rfl rfl ?_
    refine evx_las E125 D125_8 H109 (by decide) R4 (by decide) w5 ?_
    intro h9 R10
    refine evx_F E125 D125_9 rfl rfl ?_
    refine evx_F E125 D125_18 rfl rfl ?_
    cases hs
    exact evx_ret E125 D125_19 rfl (fun d => rfl) rfl (show rg _ from (by decide)) R10
  · rw [if_neg cb8] at hs
    by_cases cb11 : kq7 = 1
    · rw [if_pos cb11] at hs
      rw [cb11, ot_1] at ge1
      cases hs
      show evx _ _ _ _ _ _ _ _ (.inl (some (.inl 1)), 1 + 0) _
      refine evx_cat (n1 := 1) (n2 := 0) (D := 45) E125 D125_4 I125_52 rfl rfl H0 ⟨Nat.le_of_ble_eq_true rfl, Nat.le_of_ble_eq_true rfl⟩ ⟨rfl, Nat.le_of_ble_eq_true rfl⟩ rfl rfl R (evx_up (Nat.le_of_ble_eq_true rfl) ge1) ?_
      intro h12 R13
      show evx _ _ _ _ _ [(0, .inr (.inr (.inl (some 0)))), (1, .inl (iz x1)), (2, .inr (.inr (.inl (some 109))))] _ _ _ _
      refine evx_F E125 D125_13 rfl rfl ?_
      exact evx_ret E125 D125_14 rfl (fun d => rfl) rfl (show rg _ from (by decide)) R13
    · rw [if_neg cb11] at hs
      rw [ot_2 cb8 cb11] at ge1
      cases hs
      show evx _ _ _ _ _ _ _ _ (.inl (some (.inl 2)), 1 + 0) _
      refine evx_cat (n1 := 1) (n2 := 0) (D := 45) E125 D125_4 I125_52 rfl rfl H0 ⟨Nat.le_of_ble_eq_true rfl, Nat.le_of_ble_eq_true rfl⟩ ⟨rfl, Nat.le_of_ble_eq_true rfl⟩ rfl rfl R (evx_up (Nat.le_of_ble_eq_true rfl) ge1) ?_
      intro h14 R15
      show evx _ _ _ _ _ [(0, .inr (.inr (.inl (some 0)))), (1, .inl (iz x1)), (2, .inr (.inr (.inl (some 109))))] _ _ _ _
      refine evx_F E125 D125_16 rfl rfl ?_
      exact evx_ret E125 D125_17 rfl (fun d => rfl) rfl (show rg _ from (by decide)) R15
set_option maxRecDepth 20000 in
theorem E143 : pgMm 143 = some (⟨"DictionaryHouseLaw", "scheme", "(LDictionaryHouse;II[J)I"⟩, method_16_code, 5, (some .int), [(0, 10, 13, 13)]) := rfl
theorem D143_0 : pgDecT 143 0 = some (.aload_n 3, 1) := by decide +kernel
theorem D143_1 : pgDecT 143 1 = some (.iconst 0, 1) := by decide +kernel
theorem D143_2 : pgDecT 143 2 = some (.aload_n 0, 1) := by decide +kernel
theorem D143_3 : pgDecT 143 3 = some (.iload_n 1, 1) := by decide +kernel
theorem D143_4 : pgDecT 143 4 = some (.iload_n 2, 1) := by decide +kernel
theorem D143_5 : pgDecT 143 5 = some (.invokevirtual 55, 3) := by decide +kernel
theorem I143_55 : pgIi 143 55 = some (144, 2, 11) := by decide +kernel
theorem D143_8 : pgDecT 143 8 = some (.i2l, 1) := by decide +kernel
theorem D143_9 : pgDecT 143 9 = some (.lastore, 1) := by decide +kernel
theorem D143_10 : pgDecT 143 10 = some (.goto 7, 3) := by decide +kernel
theorem D143_17 : pgDecT 143 17 = some (.iconst 0, 1) := by decide +kernel
theorem D143_18 : pgDecT 143 18 = some (.ireturn, 1) := by decide +kernel
theorem D143_15 : pgDecT 143 15 = some (.iconst 1, 1) := by decide +kernel
theorem D143_16 : pgDecT 143 16 = some (.ireturn, 1) := by decide +kernel
/-! 143_0_109: DictionaryHouseLaw.scheme (LDictionaryHouse;II[J)I -/
def f143_0_109 (M : Mm) (x1 : Int) (x2 : Int) : Option (Int × Mm) := (f144 M x1 x2).bind (fun zq2 => if zq2.1 = 0 then (some (0, (up zq2.2.2 109 (Int.toNat 0) zq2.2.1))) else if zq2.1 = 1 then (some (1, zq2.2.2)) else none)
theorem c143_0_109 {L : Nat} {xs : Nat → Int32} {h : mvH} {M : Mm} {x1 x2 : Int} {v : Int} {M' : Mm} (R : rp h M) (rx1 : rg x1) (rx2 : rg x2) (hs : f143_0_109 M x1 x2 = some (v, M')) : evx L xs 10 143 0 [(0, .inr (.inr (.inl (some 0)))), (1, .inl (iz x1)), (2, .inl (iz x2)), (3, .inr (.inr (.inl (some 109))))] [] h (ow v) M' := by
  unfold f143_0_109 at hs
  refine evx_F E143 D143_0 rfl rfl ?_
  refine evx_F E143 D143_1 rfl rfl ?_
  refine evx_F E143 D143_2 rfl rfl ?_
  refine evx_F E143 D143_3 rfl rfl ?_
  refine evx_F E143 D143_4 rfl rfl ?_
  obtain ⟨⟨kq7, q2, M6⟩, e1, hs⟩ := Option.bind_eq_some_iff.mp hs
  dsimp only at hs
  have ge1 := c144 (L := L) (xs := xs) R rx1 rx2 e1
  by_cases cb8 : kq7 = 0
  · rw [if_pos cb8] at hs
    subst cb8
    refine evx_cv (D := 9) E143 D143_5 I143_55 rfl rfl H0 ⟨Nat.le_of_ble_eq_true rfl, Nat.le_of_ble_eq_true rfl⟩ ⟨rfl, Nat.le_of_ble_eq_true rfl⟩ rfl R (evx_up (Nat.le_of_ble_eq_true rfl) ge1) ?_
    intro h3 R4 w5
    have w5 : rg q2 := w5
    show evx _ _ _ _ _ _ (.inl (iz q2) :: _) _ _ _
    refine evx_F E143 D143_8 rfl rfl ?_
    refine evx_las E143 D143_9 H109 (by decide) R4 (by decide) w5 ?_
    intro h9 R10
    refine evx_F E143 D143_10 rfl rfl ?_
    refine evx_F E143 D143_17 rfl rfl ?_
    cases hs
    exact evx_ret E143 D143_18 rfl (fun d => rfl) rfl (show rg _ from (by decide)) R10
  · rw [if_neg cb8] at hs
    by_cases cb11 : kq7 = 1
    · rw [if_pos cb11] at hs
      rw [cb11, ot_1] at ge1
      cases hs
      show evx _ _ _ _ _ _ _ _ (.inl (some (.inl 1)), 1 + 0) _
      refine evx_cat (n1 := 1) (n2 := 0) (D := 9) E143 D143_5 I143_55 rfl rfl H0 ⟨Nat.le_of_ble_eq_true rfl, Nat.le_of_ble_eq_true rfl⟩ ⟨rfl, Nat.le_of_ble_eq_true rfl⟩ rfl rfl R (evx_up (Nat.le_of_ble_eq_true rfl) ge1) ?_
      intro h12 R13
      show evx _ _ _ _ _ [(0, .inr (.inr (.inl (some 0)))), (1, .inl (iz x1)), (2, .inl (iz x2)), (3, .inr (.inr (.inl (some 109))))] _ _ _ _
      refine evx_F E143 D143_15 rfl rfl ?_
      exact evx_ret E143 D143_16 rfl (fun d => rfl) rfl (show rg _ from (by decide)) R13
    · rw [if_neg cb11] at hs
      cases hs
set_option maxRecDepth 20000 in
theorem E145 : pgMm 145 = some (⟨"DictionaryHouseLaw", "is", "(LDictionaryHouse;II[J)I"⟩, method_17_code, 5, (some .int), [(0, 17, 20, 13)]) := rfl
theorem D145_0 : pgDecT 145 0 = some (.aload_n 3, 1) := by decide +kernel
theorem D145_1 : pgDecT 145 1 = some (.iconst 0, 1) := by decide +kernel
theorem D145_2 : pgDecT 145 2 = some (.aload_n 0, 1) := by decide +kernel
theorem D145_3 : pgDecT 145 3 = some (.iload_n 1, 1) := by decide +kernel
theorem D145_4 : pgDecT 145 4 = some (.iload_n 2, 1) := by decide +kernel
theorem D145_5 : pgDecT 145 5 = some (.invokevirtual 58, 3) := by decide +kernel
theorem I145_58 : pgIi 145 58 = some (146, 2, 11) := by decide +kernel
theorem D145_8 : pgDecT 145 8 = some (.ifCond .eq 7, 3) := by decide +kernel
theorem D145_15 : pgDecT 145 15 = some (.lconst 0, 1) := by decide +kernel
theorem D145_16 : pgDecT 145 16 = some (.lastore, 1) := by decide +kernel
theorem D145_17 : pgDecT 145 17 = some (.goto 7, 3) := by decide +kernel
theorem D145_24 : pgDecT 145 24 = some (.iconst 0, 1) := by decide +kernel
theorem D145_25 : pgDecT 145 25 = some (.ireturn, 1) := by decide +kernel
theorem D145_11 : pgDecT 145 11 = some (.lconst 1, 1) := by decide +kernel
theorem D145_12 : pgDecT 145 12 = some (.goto 4, 3) := by decide +kernel
theorem D145_22 : pgDecT 145 22 = some (.iconst 1, 1) := by decide +kernel
theorem D145_23 : pgDecT 145 23 = some (.ireturn, 1) := by decide +kernel
/-! 145_0_109: DictionaryHouseLaw.is (LDictionaryHouse;II[J)I -/
def f145_0_109 (M : Mm) (x1 : Int) (x2 : Int) : Option (Int × Mm) := (f146 M x1 x2).bind (fun zq2 => if zq2.1 = 0 then (if zq2.2.1 = 0 then (some (0, (up zq2.2.2 109 (Int.toNat 0) 0))) else (some (0, (up zq2.2.2 109 (Int.toNat 0) 1)))) else if zq2.1 = 1 then (some (1, zq2.2.2)) else none)
theorem c145_0_109 {L : Nat} {xs : Nat → Int32} {h : mvH} {M : Mm} {x1 x2 : Int} {v : Int} {M' : Mm} (R : rp h M) (rx1 : rg x1) (rx2 : rg x2) (hs : f145_0_109 M x1 x2 = some (v, M')) : evx L xs 10 145 0 [(0, .inr (.inr (.inl (some 0)))), (1, .inl (iz x1)), (2, .inl (iz x2)), (3, .inr (.inr (.inl (some 109))))] [] h (ow v) M' := by
  unfold f145_0_109 at hs
  refine evx_F E145 D145_0 rfl rfl ?_
  refine evx_F E145 D145_1 rfl rfl ?_
  refine evx_F E145 D145_2 rfl rfl ?_
  refine evx_F E145 D145_3 rfl rfl ?_
  refine evx_F E145 D145_4 rfl rfl ?_
  obtain ⟨⟨kq7, q2, M6⟩, e1, hs⟩ := Option.bind_eq_some_iff.mp hs
  dsimp only at hs
  have ge1 := c146 (L := L) (xs := xs) R rx1 rx2 e1
  by_cases cb8 : kq7 = 0
  · rw [if_pos cb8] at hs
    subst cb8
    refine evx_cv (D := 9) E145 D145_5 I145_58 rfl rfl H0 ⟨Nat.le_of_ble_eq_true rfl, Nat.le_of_ble_eq_true rfl⟩ ⟨rfl, Nat.le_of_ble_eq_true rfl⟩ rfl R (evx_up (Nat.le_of_ble_eq_true rfl) ge1) ?_
    intro h3 R4 w5
    have w5 : rg q2 := w5
    show evx _ _ _ _ _ _ (.inl (iz q2) :: _) _ _ _
    by_cases cb9 : q2 = 0
    · rw [if_pos cb9] at hs
      refine evx_F E145 D145_8 rfl (ifT (c1_eq_T w5 cb9)) ?_
      refine evx_F E145 D145_15 rfl rfl ?_
      show evx _ _ _ _ _ _ (.inr (.inl (iz 0).toInt64) :: _) _ _ _
      refine evx_las E145 D145_16 H109 (by decide) R4 (by decide) (by decide) ?_
      intro h10 R11
      refine evx_F E145 D145_17 rfl rfl ?_
      refine evx_F E145 D145_24 rfl rfl ?_
      cases hs
      exact evx_ret E145 D145_25 rfl (fun d => rfl) rfl (show rg _ from (by decide)) R11
    · rw [if_neg cb9] at hs
      refine evx_F E145 D145_8 rfl (ifF (c1_eq_F w5 (by omega))) ?_
      refine evx_F E145 D145_11 rfl rfl ?_
      show evx _ _ _ _ _ _ (.inr (.inl (iz 1).toInt64) :: _) _ _ _
      refine evx_F E145 D145_12 rfl rfl ?_
      refine evx_las E145 D145_16 H109 (by decide) R4 (by decide) (by decide) ?_
      intro h12 R13
      refine evx_F E145 D145_17 rfl rfl ?_
      refine evx_F E145 D145_24 rfl rfl ?_
      cases hs
      exact evx_ret E145 D145_25 rfl (fun d => rfl) rfl (show rg _ from (by decide)) R13
  · rw [if_neg cb8] at hs
    by_cases cb14 : kq7 = 1
    · rw [if_pos cb14] at hs
      rw [cb14, ot_1] at ge1
      cases hs
      show evx _ _ _ _ _ _ _ _ (.inl (some (.inl 1)), 1 + 0) _
      refine evx_cat (n1 := 1) (n2 := 0) (D := 9) E145 D145_5 I145_58 rfl rfl H0 ⟨Nat.le_of_ble_eq_true rfl, Nat.le_of_ble_eq_true rfl⟩ ⟨rfl, Nat.le_of_ble_eq_true rfl⟩ rfl rfl R (evx_up (Nat.le_of_ble_eq_true rfl) ge1) ?_
      intro h15 R16
      show evx _ _ _ _ _ [(0, .inr (.inr (.inl (some 0)))), (1, .inl (iz x1)), (2, .inl (iz x2)), (3, .inr (.inr (.inl (some 109))))] _ _ _ _
      refine evx_F E145 D145_22 rfl rfl ?_
      exact evx_ret E145 D145_23 rfl (fun d => rfl) rfl (show rg _ from (by decide)) R16
    · rw [if_neg cb14] at hs
      cases hs
set_option maxRecDepth 20000 in
theorem E148 : pgMm 148 = some (⟨"DictionaryHouseLaw", "run", "(LDictionaryHouse;II[J)I"⟩, method_18_code, 5, (some .int), [(0, 10, 13, 13), (0, 10, 17, 15)]) := rfl
theorem D148_0 : pgDecT 148 0 = some (.aload_n 3, 1) := by decide +kernel
theorem D148_1 : pgDecT 148 1 = some (.iconst 0, 1) := by decide +kernel
theorem D148_2 : pgDecT 148 2 = some (.aload_n 0, 1) := by decide +kernel
theorem D148_3 : pgDecT 148 3 = some (.iload_n 1, 1) := by decide +kernel
theorem D148_4 : pgDecT 148 4 = some (.iload_n 2, 1) := by decide +kernel
theorem D148_5 : pgDecT 148 5 = some (.invokevirtual 62, 3) := by decide +kernel
theorem I148_62 : pgIi 148 62 = some (149, 2, 11) := by decide +kernel
theorem D148_8 : pgDecT 148 8 = some (.i2l, 1) := by decide +kernel
theorem D148_9 : pgDecT 148 9 = some (.lastore, 1) := by decide +kernel
theorem D148_10 : pgDecT 148 10 = some (.goto 11, 3) := by decide +kernel
theorem D148_21 : pgDecT 148 21 = some (.iconst 0, 1) := by decide +kernel
theorem D148_22 : pgDecT 148 22 = some (.ireturn, 1) := by decide +kernel
theorem D148_15 : pgDecT 148 15 = some (.iconst 1, 1) := by decide +kernel
theorem D148_16 : pgDecT 148 16 = some (.ireturn, 1) := by decide +kernel
theorem D148_19 : pgDecT 148 19 = some (.iconst 2, 1) := by decide +kernel
theorem D148_20 : pgDecT 148 20 = some (.ireturn, 1) := by decide +kernel
/-! 148_0_109: DictionaryHouseLaw.run (LDictionaryHouse;II[J)I -/
def f148_0_109 (M : Mm) (x1 : Int) (x2 : Int) : Option (Int × Mm) := (f149 M x1 x2).bind (fun zq2 => if zq2.1 = 0 then (some (0, (up zq2.2.2 109 (Int.toNat 0) zq2.2.1))) else if zq2.1 = 1 then (some (1, zq2.2.2)) else (some (2, zq2.2.2)))
theorem c148_0_109 {L : Nat} {xs : Nat → Int32} {h : mvH} {M : Mm} {x1 x2 : Int} {v : Int} {M' : Mm} (R : rp h M) (rx1 : rg x1) (rx2 : rg x2) (hs : f148_0_109 M x1 x2 = some (v, M')) : evx L xs 10 148 0 [(0, .inr (.inr (.inl (some 0)))), (1, .inl (iz x1)), (2, .inl (iz x2)), (3, .inr (.inr (.inl (some 109))))] [] h (ow v) M' := by
  unfold f148_0_109 at hs
  refine evx_F E148 D148_0 rfl rfl ?_
  refine evx_F E148 D148_1 rfl rfl ?_
  refine evx_F E148 D148_2 rfl rfl ?_
  refine evx_F E148 D148_3 rfl rfl ?_
  refine evx_F E148 D148_4 rfl rfl ?_
  obtain ⟨⟨kq7, q2, M6⟩, e1, hs⟩ := Option.bind_eq_some_iff.mp hs
  dsimp only at hs
  have ge1 := c149 (L := L) (xs := xs) R rx1 rx2 e1
  by_cases cb8 : kq7 = 0
  · rw [if_pos cb8] at hs
    subst cb8
    refine evx_cv (D := 9) E148 D148_5 I148_62 rfl rfl H0 ⟨Nat.le_of_ble_eq_true rfl, Nat.le_of_ble_eq_true rfl⟩ ⟨rfl, Nat.le_of_ble_eq_true rfl⟩ rfl R (evx_up (Nat.le_of_ble_eq_true rfl) ge1) ?_
    intro h3 R4 w5
    have w5 : rg q2 := w5
    show evx _ _ _ _ _ _ (.inl (iz q2) :: _) _ _ _
    refine evx_F E148 D148_8 rfl rfl ?_
    refine evx_las E148 D148_9 H109 (by decide) R4 (by decide) w5 ?_
    intro h9 R10
    refine evx_F E148 D148_10 rfl rfl ?_
    refine evx_F E148 D148_21 rfl rfl ?_
    cases hs
    exact evx_ret E148 D148_22 rfl (fun d => rfl) rfl (show rg _ from (by decide)) R10
  · rw [if_neg cb8] at hs
    by_cases cb11 : kq7 = 1
    · rw [if_pos cb11] at hs
      rw [cb11, ot_1] at ge1
      cases hs
      show evx _ _ _ _ _ _ _ _ (.inl (some (.inl 1)), 1 + 0) _
      refine evx_cat (n1 := 1) (n2 := 0) (D := 9) E148 D148_5 I148_62 rfl rfl H0 ⟨Nat.le_of_ble_eq_true rfl, Nat.le_of_ble_eq_true rfl⟩ ⟨rfl, Nat.le_of_ble_eq_true rfl⟩ rfl rfl R (evx_up (Nat.le_of_ble_eq_true rfl) ge1) ?_
      intro h12 R13
      show evx _ _ _ _ _ [(0, .inr (.inr (.inl (some 0)))), (1, .inl (iz x1)), (2, .inl (iz x2)), (3, .inr (.inr (.inl (some 109))))] _ _ _ _
      refine evx_F E148 D148_15 rfl rfl ?_
      exact evx_ret E148 D148_16 rfl (fun d => rfl) rfl (show rg _ from (by decide)) R13
    · rw [if_neg cb11] at hs
      rw [ot_2 cb8 cb11] at ge1
      cases hs
      show evx _ _ _ _ _ _ _ _ (.inl (some (.inl 2)), 1 + 0) _
      refine evx_cat (n1 := 1) (n2 := 0) (D := 9) E148 D148_5 I148_62 rfl rfl H0 ⟨Nat.le_of_ble_eq_true rfl, Nat.le_of_ble_eq_true rfl⟩ ⟨rfl, Nat.le_of_ble_eq_true rfl⟩ rfl rfl R (evx_up (Nat.le_of_ble_eq_true rfl) ge1) ?_
      intro h14 R15
      show evx _ _ _ _ _ [(0, .inr (.inr (.inl (some 0)))), (1, .inl (iz x1)), (2, .inl (iz x2)), (3, .inr (.inr (.inl (some 109))))] _ _ _ _
      refine evx_F E148 D148_19 rfl rfl ?_
      exact evx_ret E148 D148_20 rfl (fun d => rfl) rfl (show rg _ from (by decide)) R15
set_option maxRecDepth 20000 in
theorem E183 : pgMm 183 = some (⟨"DictionaryHouseLaw", "value", "(LDictionaryHouse;I[J)I"⟩, method_19_code, 4, (some .int), [(0, 9, 12, 13)]) := rfl
theorem D183_0 : pgDecT 183 0 = some (.aload_n 2, 1) := by decide +kernel
theorem D183_1 : pgDecT 183 1 = some (.iconst 0, 1) := by decide +kernel
theorem D183_2 : pgDecT 183 2 = some (.aload_n 0, 1) := by decide +kernel
theorem D183_3 : pgDecT 183 3 = some (.iload_n 1, 1) := by decide +kernel
theorem D183_4 : pgDecT 183 4 = some (.invokevirtual 65, 3) := by decide +kernel
theorem I183_65 : pgIi 183 65 = some (184, 1, 11) := by decide +kernel
theorem D183_7 : pgDecT 183 7 = some (.i2l, 1) := by decide +kernel
theorem D183_8 : pgDecT 183 8 = some (.lastore, 1) := by decide +kernel
theorem D183_9 : pgDecT 183 9 = some (.goto 6, 3) := by decide +kernel
theorem D183_15 : pgDecT 183 15 = some (.iconst 0, 1) := by decide +kernel
theorem D183_16 : pgDecT 183 16 = some (.ireturn, 1) := by decide +kernel
theorem D183_13 : pgDecT 183 13 = some (.iconst 1, 1) := by decide +kernel
theorem D183_14 : pgDecT 183 14 = some (.ireturn, 1) := by decide +kernel
/-! 183_0_109: DictionaryHouseLaw.value (LDictionaryHouse;I[J)I -/
def f183_0_109 (M : Mm) (x1 : Int) : Option (Int × Mm) := (f184 M x1).bind (fun zq2 => if zq2.1 = 0 then (some (0, (up zq2.2.2 109 (Int.toNat 0) zq2.2.1))) else if zq2.1 = 1 then (some (1, zq2.2.2)) else none)
theorem c183_0_109 {L : Nat} {xs : Nat → Int32} {h : mvH} {M : Mm} {x1 : Int} {v : Int} {M' : Mm} (R : rp h M) (rx1 : rg x1) (hs : f183_0_109 M x1 = some (v, M')) : evx L xs 10 183 0 [(0, .inr (.inr (.inl (some 0)))), (1, .inl (iz x1)), (2, .inr (.inr (.inl (some 109))))] [] h (ow v) M' := by
  unfold f183_0_109 at hs
  refine evx_F E183 D183_0 rfl rfl ?_
  refine evx_F E183 D183_1 rfl rfl ?_
  refine evx_F E183 D183_2 rfl rfl ?_
  refine evx_F E183 D183_3 rfl rfl ?_
  obtain ⟨⟨kq7, q2, M6⟩, e1, hs⟩ := Option.bind_eq_some_iff.mp hs
  dsimp only at hs
  have ge1 := c184 (L := L) (xs := xs) R rx1 e1
  by_cases cb8 : kq7 = 0
  · rw [if_pos cb8] at hs
    subst cb8
    refine evx_cv (D := 9) E183 D183_4 I183_65 rfl rfl H0 ⟨Nat.le_of_ble_eq_true rfl, Nat.le_of_ble_eq_true rfl⟩ ⟨rfl, Nat.le_of_ble_eq_true rfl⟩ rfl R (evx_up (Nat.le_of_ble_eq_true rfl) ge1) ?_
    intro h3 R4 w5
    have w5 : rg q2 := w5
    show evx _ _ _ _ _ _ (.inl (iz q2) :: _) _ _ _
    refine evx_F E183 D183_7 rfl rfl ?_
    refine evx_las E183 D183_8 H109 (by decide) R4 (by decide) w5 ?_
    intro h9 R10
    refine evx_F E183 D183_9 rfl rfl ?_
    refine evx_F E183 D183_15 rfl rfl ?_
    cases hs
    exact evx_ret E183 D183_16 rfl (fun d => rfl) rfl (show rg _ from (by decide)) R10
  · rw [if_neg cb8] at hs
    by_cases cb11 : kq7 = 1
    · rw [if_pos cb11] at hs
      rw [cb11, ot_1] at ge1
      cases hs
      show evx _ _ _ _ _ _ _ _ (.inl (some (.inl 1)), 1 + 0) _
      refine evx_cat (n1 := 1) (n2 := 0) (D := 9) E183 D183_4 I183_65 rfl rfl H0 ⟨Nat.le_of_ble_eq_true rfl, Nat.le_of_ble_eq_true rfl⟩ ⟨rfl, Nat.le_of_ble_eq_true rfl⟩ rfl rfl R (evx_up (Nat.le_of_ble_eq_true rfl) ge1) ?_
      intro h12 R13
      show evx _ _ _ _ _ [(0, .inr (.inr (.inl (some 0)))), (1, .inl (iz x1)), (2, .inr (.inr (.inl (some 109))))] _ _ _ _
      refine evx_F E183 D183_13 rfl rfl ?_
      exact evx_ret E183 D183_14 rfl (fun d => rfl) rfl (show rg _ from (by decide)) R13
    · rw [if_neg cb11] at hs
      cases hs
